/-- the room of a method that makes c cells of s slots -/
def zg (d c s : Nat) : Room := { frames := d, cells := c, slots := s, locals := 40 * d }
/-! THE CONSTRUCTORS, from nothing on -/
section Z36
variable {X : z_X} {Y : z_Y} {pc nc ns idx : Nat} {lv : List (Nat × z_V)} {st : List z_V} {w w' : z_W} {rm : Room}
theorem z_newC {n ci : Nat} {r : vw_C} (e1 : w.2.2.2 = n) (e2 : z_nw w (1, ci) = w') (C : z_C X Y) (hd : decode Y.2.1 pc = .ok (.new idx, 3)) (hrm : X.2.2.2.1 = rm) (hc : vwCl[ci]? = some r) (h1 : Cond.classLink Y.1.cls idx r.1 ∈ z_WB) (h2 : Cond.instantiable r.1 r.2.2 ∈ z_WB) (h3 : Cond.initialized r.1 ∈ z_WB) (hcells : nc + 1 ≤ rm.cells) (hslots : ns + r.2.2 ≤ rm.slots) (k : z_G X Y (pc + 3, lv, z_r n :: st, w', nc + 1, ns + r.2.2)) : z_G X Y (pc, lv, st, w, nc, ns) := by
  subst e1; subst e2
  exact z_new C hd hrm hc h1 h2 h3 hcells hslots k
theorem z_newaC {n : Nat} {aty : ArrayType} {i : Int32} {N : Nat} (hty : aty = .int ∨ aty = .char) (e1 : w.2.2.2 = n) (e2 : z_nw w (z_atag aty, N) = w') (C : z_C X Y) (hd : decode Y.2.1 pc = .ok (.newarray aty, 2)) (hrm : X.2.2.2.1 = rm) (h1 : Cond.arrayClass (newarray.typeOf aty) ∈ z_WB) (hn : ¬ i < 0) (hN : i.toNatClampNeg = N) (hbytes : N * componentBytes (newarray.typeOf aty) ≤ 536870912) (hcells : nc + 1 ≤ rm.cells) (hslots : ns + N ≤ rm.slots) (k : z_G X Y (pc + 2, lv, z_r n :: st, w', nc + 1, ns + N)) : z_G X Y (pc, lv, .inl i :: st, w, nc, ns) := by
  subst e1; subst e2
  exact z_newa hty C hd hrm h1 hn hN hbytes hcells hslots k
theorem z_putC {ci j kd a : Nat} {v : z_V} (e2 : z_wr w a j v = w') (C : z_C X Y) (hd : decode Y.2.1 pc = .ok (.putfield idx, 3)) (hf : (idx, ci, j, kd) ∈ Y.2.2.2.2) (hT : w.1 a = (1, ci)) (hv : z_pok kd v) (k : z_G X Y (pc + 3, lv, st, w', nc, ns)) : z_G X Y (pc, lv, v :: z_r a :: st, w, nc, ns) := by
  subst e2
  exact z_put C hd hf hT hv k
theorem z_putFC {ci j kd a : Nat} {v : z_V} (e2 : z_wr w a j v = w') (C : z_C X Y) (hd : decode Y.2.1 pc = .ok (.putfield idx, 3)) (hf : (idx, ci, j, kd + 4) ∈ Y.2.2.2.2) (hin2 : Y.1.name = "<init>") (ho : ∀ r : vw_C, vwCl[ci]? = some r → Y.1.cls = r.1) (hT : w.1 a = (1, ci)) (hv : z_pok kd v) (k : z_G X Y (pc + 3, lv, st, w', nc, ns)) : z_G X Y (pc, lv, v :: z_r a :: st, w, nc, ns) := by
  subst e2
  exact z_putF C hd hf hin2 ho hT hv k
theorem z_iastC {a len : Nat} {i x : Int32} (e2 : ((w.1, w.2.1, z_uS w.2.2.1 a i.toNatClampNeg x, w.2.2.2) : z_W) = w') (C : z_C X Y) (hd : decode Y.2.1 pc = .ok (.iastore, 1)) (hT : w.1 a = (2, len)) (hin : vp_in i len) (k : z_G X Y (pc + 1, lv, st, w', nc, ns)) : z_G X Y (pc, lv, .inl x :: .inl i :: z_r a :: st, w, nc, ns) := by
  subst e2
  exact z_iast C hd hT hin k
theorem z_getRC {ci j kd a r : Nat} (C : z_C X Y) (hd : decode Y.2.1 pc = .ok (.getfield idx, 3)) (hf : (idx, ci, j, kd) ∈ Y.2.2.2.2) (hk : kd = 1 ∨ kd = 5) (hT : w.1 a = (1, ci)) (hg : w.2.1 a j = some r) (k : z_G X Y (pc + 3, lv, z_r r :: st, w, nc, ns)) : z_G X Y (pc, lv, z_r a :: st, w, nc, ns) := by
  refine z_get C hd hf hT ?_
  rw [hg]
  rcases hk with rfl | rfl <;> exact k
end Z36
def Wc_0 : z_W := (fun _ => (0, 0), fun _ _ => none, fun _ _ => 0, 0)
theorem Wn_0 : Wc_0.2.2.2 = 0 := rfl
def Wc_1 : z_W := z_nw Wc_0 (1, 11)
theorem Wn_1 : Wc_1.2.2.2 = 1 := congrArg (· + 1) Wn_0
def Wc_2 : z_W := z_nw Wc_1 (1, 4)
theorem Wn_2 : Wc_2.2.2.2 = 2 := congrArg (· + 1) Wn_1
def Wc_3 : z_W := z_nw Wc_2 (2, 900)
theorem Wn_3 : Wc_3.2.2.2 = 3 := congrArg (· + 1) Wn_2
def Wc_4 : z_W := z_wr Wc_3 1 0 (z_r 2)
theorem Wn_4 : Wc_4.2.2.2 = 3 := Wn_3
def Wc_5 : z_W := z_nw Wc_4 (2, 900)
theorem Wn_5 : Wc_5.2.2.2 = 4 := congrArg (· + 1) Wn_4
def Wc_6 : z_W := z_wr Wc_5 1 1 (z_r 3)
theorem Wn_6 : Wc_6.2.2.2 = 4 := Wn_5
def Wc_7 : z_W := z_nw Wc_6 (2, 900)
theorem Wn_7 : Wc_7.2.2.2 = 5 := congrArg (· + 1) Wn_6
def Wc_8 : z_W := z_wr Wc_7 1 2 (z_r 4)
theorem Wn_8 : Wc_8.2.2.2 = 5 := Wn_7
def Wc_9 : z_W := z_nw Wc_8 (2, 900)
theorem Wn_9 : Wc_9.2.2.2 = 6 := congrArg (· + 1) Wn_8
def Wc_10 : z_W := z_wr Wc_9 1 3 (z_r 5)
theorem Wn_10 : Wc_10.2.2.2 = 6 := Wn_9
def Wc_11 : z_W := z_nw Wc_10 (2, 900)
theorem Wn_11 : Wc_11.2.2.2 = 7 := congrArg (· + 1) Wn_10
def Wc_12 : z_W := z_wr Wc_11 1 4 (z_r 6)
theorem Wn_12 : Wc_12.2.2.2 = 7 := Wn_11
def Wc_13 : z_W := z_nw Wc_12 (2, 900)
theorem Wn_13 : Wc_13.2.2.2 = 8 := congrArg (· + 1) Wn_12
def Wc_14 : z_W := z_wr Wc_13 1 5 (z_r 7)
theorem Wn_14 : Wc_14.2.2.2 = 8 := Wn_13
def Wc_15 : z_W := z_nw Wc_14 (2, 900)
theorem Wn_15 : Wc_15.2.2.2 = 9 := congrArg (· + 1) Wn_14
def Wc_16 : z_W := z_wr Wc_15 1 6 (z_r 8)
theorem Wn_16 : Wc_16.2.2.2 = 9 := Wn_15
def Wc_17 : z_W := z_wr Wc_16 1 7 (.inl 0)
theorem Wn_17 : Wc_17.2.2.2 = 9 := Wn_16
theorem ci_2_Log_init : z_Run (zg 1 7 6300) zm_Log_init [z_r 1] Wc_2 (zq none Wc_17) := by
  refine z_body (by decide) zf_Log_ok (Nat.le_of_ble_eq_true rfl) (fun X M => ?_)
  show z_G X zm_Log_init (0, [(0, z_r 1)], [], Wc_2, 0, 0)
  refine z_go2 M.1 0 [(.aload_n 0, 1)] (1, [(0, z_r 1)], [z_r 1], Wc_2, 0, 0) (by decide +kernel) rfl ⟨trivial, trivial⟩ ?_
  refine z_objInit (idx := 3) M.1 (by decide +kernel) M.2.1 (z_wi 115 (by decide +kernel) rfl) (z_wi 108 (by decide +kernel) rfl) (z_wi 109 (by decide +kernel) rfl) rfl (by decide) (by decide) (Nat.le_of_ble_eq_true rfl) ?_
  refine z_go2 M.1 4 [(.aload_n 0, 1), (.sipush 900, 3)] (8, [(0, z_r 1)], [.inl 900, z_r 1], Wc_2, 0, 0) (by decide +kernel) rfl ⟨trivial, trivial, trivial⟩ ?_
  refine z_newaC (n := 2) (aty := .int) (N := 900) (w' := Wc_3) (by decide) Wn_2 rfl M.1 (by decide +kernel) M.2.1 (z_wi 158 (by decide +kernel) rfl) (by decide) (by decide) (by decide) (by decide) (by decide) ?_
  refine z_putFC (idx := 9) (ci := 4) (j := 0) (kd := 1) (w' := Wc_4) rfl M.1 (by decide +kernel) (by decide) rfl (fun r h => by injection h with h; subst h; rfl) (by decide +kernel) trivial ?_
  refine z_go2 M.1 13 [(.aload_n 0, 1), (.sipush 900, 3)] (17, [(0, z_r 1)], [.inl 900, z_r 1], Wc_4, 1, 900) (by decide +kernel) rfl ⟨trivial, trivial, trivial⟩ ?_
  refine z_newaC (n := 3) (aty := .int) (N := 900) (w' := Wc_5) (by decide) Wn_4 rfl M.1 (by decide +kernel) M.2.1 (z_wi 158 (by decide +kernel) rfl) (by decide) (by decide) (by decide) (by decide) (by decide) ?_
  refine z_putFC (idx := 15) (ci := 4) (j := 1) (kd := 1) (w' := Wc_6) rfl M.1 (by decide +kernel) (by decide) rfl (fun r h => by injection h with h; subst h; rfl) (by decide +kernel) trivial ?_
  refine z_go2 M.1 22 [(.aload_n 0, 1), (.sipush 900, 3)] (26, [(0, z_r 1)], [.inl 900, z_r 1], Wc_6, 2, 1800) (by decide +kernel) rfl ⟨trivial, trivial, trivial⟩ ?_
  refine z_newaC (n := 4) (aty := .int) (N := 900) (w' := Wc_7) (by decide) Wn_6 rfl M.1 (by decide +kernel) M.2.1 (z_wi 158 (by decide +kernel) rfl) (by decide) (by decide) (by decide) (by decide) (by decide) ?_
  refine z_putFC (idx := 18) (ci := 4) (j := 2) (kd := 1) (w' := Wc_8) rfl M.1 (by decide +kernel) (by decide) rfl (fun r h => by injection h with h; subst h; rfl) (by decide +kernel) trivial ?_
  refine z_go2 M.1 31 [(.aload_n 0, 1), (.sipush 900, 3)] (35, [(0, z_r 1)], [.inl 900, z_r 1], Wc_8, 3, 2700) (by decide +kernel) rfl ⟨trivial, trivial, trivial⟩ ?_
  refine z_newaC (n := 5) (aty := .int) (N := 900) (w' := Wc_9) (by decide) Wn_8 rfl M.1 (by decide +kernel) M.2.1 (z_wi 158 (by decide +kernel) rfl) (by decide) (by decide) (by decide) (by decide) (by decide) ?_
  refine z_putFC (idx := 21) (ci := 4) (j := 3) (kd := 1) (w' := Wc_10) rfl M.1 (by decide +kernel) (by decide) rfl (fun r h => by injection h with h; subst h; rfl) (by decide +kernel) trivial ?_
  refine z_go2 M.1 40 [(.aload_n 0, 1), (.sipush 900, 3)] (44, [(0, z_r 1)], [.inl 900, z_r 1], Wc_10, 4, 3600) (by decide +kernel) rfl ⟨trivial, trivial, trivial⟩ ?_
  refine z_newaC (n := 6) (aty := .int) (N := 900) (w' := Wc_11) (by decide) Wn_10 rfl M.1 (by decide +kernel) M.2.1 (z_wi 158 (by decide +kernel) rfl) (by decide) (by decide) (by decide) (by decide) (by decide) ?_
  refine z_putFC (idx := 24) (ci := 4) (j := 4) (kd := 1) (w' := Wc_12) rfl M.1 (by decide +kernel) (by decide) rfl (fun r h => by injection h with h; subst h; rfl) (by decide +kernel) trivial ?_
  refine z_go2 M.1 49 [(.aload_n 0, 1), (.sipush 900, 3)] (53, [(0, z_r 1)], [.inl 900, z_r 1], Wc_12, 5, 4500) (by decide +kernel) rfl ⟨trivial, trivial, trivial⟩ ?_
  refine z_newaC (n := 7) (aty := .int) (N := 900) (w' := Wc_13) (by decide) Wn_12 rfl M.1 (by decide +kernel) M.2.1 (z_wi 158 (by decide +kernel) rfl) (by decide) (by decide) (by decide) (by decide) (by decide) ?_
  refine z_putFC (idx := 27) (ci := 4) (j := 5) (kd := 1) (w' := Wc_14) rfl M.1 (by decide +kernel) (by decide) rfl (fun r h => by injection h with h; subst h; rfl) (by decide +kernel) trivial ?_
  refine z_go2 M.1 58 [(.aload_n 0, 1), (.sipush 900, 3)] (62, [(0, z_r 1)], [.inl 900, z_r 1], Wc_14, 6, 5400) (by decide +kernel) rfl ⟨trivial, trivial, trivial⟩ ?_
  refine z_newaC (n := 8) (aty := .int) (N := 900) (w' := Wc_15) (by decide) Wn_14 rfl M.1 (by decide +kernel) M.2.1 (z_wi 158 (by decide +kernel) rfl) (by decide) (by decide) (by decide) (by decide) (by decide) ?_
  refine z_putFC (idx := 30) (ci := 4) (j := 6) (kd := 1) (w' := Wc_16) rfl M.1 (by decide +kernel) (by decide) rfl (fun r h => by injection h with h; subst h; rfl) (by decide +kernel) trivial ?_
  refine z_go2 M.1 67 [(.aload_n 0, 1), (.iconst 0, 1)] (69, [(0, z_r 1)], [.inl 0, z_r 1], Wc_16, 7, 6300) (by decide +kernel) rfl ⟨trivial, trivial, trivial⟩ ?_
  refine z_putC (idx := 33) (ci := 4) (j := 7) (kd := 0) (w' := Wc_17) rfl M.1 (by decide +kernel) (by decide) (by decide +kernel) trivial ?_
  exact z_vret M (by decide +kernel) rfl (by decide) (by decide) ⟨rfl, rfl⟩
def Wc_18 : z_W := z_wr Wc_17 0 0 (z_r 1)
theorem Wn_18 : Wc_18.2.2.2 = 9 := Wn_17
def Wc_19 : z_W := z_nw Wc_18 (1, 10)
theorem Wn_19 : Wc_19.2.2.2 = 10 := congrArg (· + 1) Wn_18
def Wc_20 : z_W := z_nw Wc_19 (2, 300)
theorem Wn_20 : Wc_20.2.2.2 = 11 := congrArg (· + 1) Wn_19
def Wc_21 : z_W := z_wr Wc_20 9 0 (z_r 10)
theorem Wn_21 : Wc_21.2.2.2 = 11 := Wn_20
def Wc_22 : z_W := z_nw Wc_21 (2, 90)
theorem Wn_22 : Wc_22.2.2.2 = 12 := congrArg (· + 1) Wn_21
def Wc_23 : z_W := z_wr Wc_22 9 1 (z_r 11)
theorem Wn_23 : Wc_23.2.2.2 = 12 := Wn_22
def Wc_24 : z_W := z_nw Wc_23 (2, 24)
theorem Wn_24 : Wc_24.2.2.2 = 13 := congrArg (· + 1) Wn_23
def Wc_25 : z_W := z_wr Wc_24 9 2 (z_r 12)
theorem Wn_25 : Wc_25.2.2.2 = 13 := Wn_24
def Wc_26 : z_W := z_wr Wc_25 9 3 (.inl 0)
theorem Wn_26 : Wc_26.2.2.2 = 13 := Wn_25
theorem ci_19_World_init : z_Run (zg 1 3 414) zm_World_init [z_r 9] Wc_19 (zq none Wc_26) := by
  refine z_body (by decide) zf_World_ok (Nat.le_of_ble_eq_true rfl) (fun X M => ?_)
  show z_G X zm_World_init (0, [(0, z_r 9)], [], Wc_19, 0, 0)
  refine z_go2 M.1 0 [(.aload_n 0, 1)] (1, [(0, z_r 9)], [z_r 9], Wc_19, 0, 0) (by decide +kernel) rfl ⟨trivial, trivial⟩ ?_
  refine z_objInit (idx := 3) M.1 (by decide +kernel) M.2.1 (z_wi 164 (by decide +kernel) rfl) (z_wi 108 (by decide +kernel) rfl) (z_wi 109 (by decide +kernel) rfl) rfl (by decide) (by decide) (Nat.le_of_ble_eq_true rfl) ?_
  refine z_go2 M.1 4 [(.aload_n 0, 1), (.sipush 300, 3)] (8, [(0, z_r 9)], [.inl 300, z_r 9], Wc_19, 0, 0) (by decide +kernel) rfl ⟨trivial, trivial, trivial⟩ ?_
  refine z_newaC (n := 10) (aty := .int) (N := 300) (w' := Wc_20) (by decide) Wn_19 rfl M.1 (by decide +kernel) M.2.1 (z_wi 158 (by decide +kernel) rfl) (by decide) (by decide) (by decide) (by decide) (by decide) ?_
  refine z_putFC (idx := 9) (ci := 10) (j := 0) (kd := 1) (w' := Wc_21) rfl M.1 (by decide +kernel) (by decide) rfl (fun r h => by injection h with h; subst h; rfl) (by decide +kernel) trivial ?_
  refine z_go2 M.1 13 [(.aload_n 0, 1), (.bipush 90, 2)] (16, [(0, z_r 9)], [.inl 90, z_r 9], Wc_21, 1, 300) (by decide +kernel) rfl ⟨trivial, trivial, trivial⟩ ?_
  refine z_newaC (n := 11) (aty := .int) (N := 90) (w' := Wc_22) (by decide) Wn_21 rfl M.1 (by decide +kernel) M.2.1 (z_wi 158 (by decide +kernel) rfl) (by decide) (by decide) (by decide) (by decide) (by decide) ?_
  refine z_putFC (idx := 15) (ci := 10) (j := 1) (kd := 1) (w' := Wc_23) rfl M.1 (by decide +kernel) (by decide) rfl (fun r h => by injection h with h; subst h; rfl) (by decide +kernel) trivial ?_
  refine z_go2 M.1 21 [(.aload_n 0, 1), (.bipush 24, 2)] (24, [(0, z_r 9)], [.inl 24, z_r 9], Wc_23, 2, 390) (by decide +kernel) rfl ⟨trivial, trivial, trivial⟩ ?_
  refine z_newaC (n := 12) (aty := .int) (N := 24) (w' := Wc_24) (by decide) Wn_23 rfl M.1 (by decide +kernel) M.2.1 (z_wi 158 (by decide +kernel) rfl) (by decide) (by decide) (by decide) (by decide) (by decide) ?_
  refine z_putFC (idx := 18) (ci := 10) (j := 2) (kd := 1) (w' := Wc_25) rfl M.1 (by decide +kernel) (by decide) rfl (fun r h => by injection h with h; subst h; rfl) (by decide +kernel) trivial ?_
  refine z_go2 M.1 29 [(.aload_n 0, 1), (.iconst 0, 1)] (31, [(0, z_r 9)], [.inl 0, z_r 9], Wc_25, 3, 414) (by decide +kernel) rfl ⟨trivial, trivial, trivial⟩ ?_
  refine z_putC (idx := 21) (ci := 10) (j := 3) (kd := 0) (w' := Wc_26) rfl M.1 (by decide +kernel) (by decide) (by decide +kernel) trivial ?_
  exact z_vret M (by decide +kernel) rfl (by decide) (by decide) ⟨rfl, rfl⟩
def Wc_27 : z_W := z_wr Wc_26 0 1 (z_r 9)
theorem Wn_27 : Wc_27.2.2.2 = 13 := Wn_26
def Wc_28 : z_W := z_nw Wc_27 (1, 10)
theorem Wn_28 : Wc_28.2.2.2 = 14 := congrArg (· + 1) Wn_27
def Wc_29 : z_W := z_nw Wc_28 (2, 300)
theorem Wn_29 : Wc_29.2.2.2 = 15 := congrArg (· + 1) Wn_28
def Wc_30 : z_W := z_wr Wc_29 13 0 (z_r 14)
theorem Wn_30 : Wc_30.2.2.2 = 15 := Wn_29
def Wc_31 : z_W := z_nw Wc_30 (2, 90)
theorem Wn_31 : Wc_31.2.2.2 = 16 := congrArg (· + 1) Wn_30
def Wc_32 : z_W := z_wr Wc_31 13 1 (z_r 15)
theorem Wn_32 : Wc_32.2.2.2 = 16 := Wn_31
def Wc_33 : z_W := z_nw Wc_32 (2, 24)
theorem Wn_33 : Wc_33.2.2.2 = 17 := congrArg (· + 1) Wn_32
def Wc_34 : z_W := z_wr Wc_33 13 2 (z_r 16)
theorem Wn_34 : Wc_34.2.2.2 = 17 := Wn_33
def Wc_35 : z_W := z_wr Wc_34 13 3 (.inl 0)
theorem Wn_35 : Wc_35.2.2.2 = 17 := Wn_34
theorem ci_28_World_init : z_Run (zg 1 3 414) zm_World_init [z_r 13] Wc_28 (zq none Wc_35) := by
  refine z_body (by decide) zf_World_ok (Nat.le_of_ble_eq_true rfl) (fun X M => ?_)
  show z_G X zm_World_init (0, [(0, z_r 13)], [], Wc_28, 0, 0)
  refine z_go2 M.1 0 [(.aload_n 0, 1)] (1, [(0, z_r 13)], [z_r 13], Wc_28, 0, 0) (by decide +kernel) rfl ⟨trivial, trivial⟩ ?_
  refine z_objInit (idx := 3) M.1 (by decide +kernel) M.2.1 (z_wi 164 (by decide +kernel) rfl) (z_wi 108 (by decide +kernel) rfl) (z_wi 109 (by decide +kernel) rfl) rfl (by decide) (by decide) (Nat.le_of_ble_eq_true rfl) ?_
  refine z_go2 M.1 4 [(.aload_n 0, 1), (.sipush 300, 3)] (8, [(0, z_r 13)], [.inl 300, z_r 13], Wc_28, 0, 0) (by decide +kernel) rfl ⟨trivial, trivial, trivial⟩ ?_
  refine z_newaC (n := 14) (aty := .int) (N := 300) (w' := Wc_29) (by decide) Wn_28 rfl M.1 (by decide +kernel) M.2.1 (z_wi 158 (by decide +kernel) rfl) (by decide) (by decide) (by decide) (by decide) (by decide) ?_
  refine z_putFC (idx := 9) (ci := 10) (j := 0) (kd := 1) (w' := Wc_30) rfl M.1 (by decide +kernel) (by decide) rfl (fun r h => by injection h with h; subst h; rfl) (by decide +kernel) trivial ?_
  refine z_go2 M.1 13 [(.aload_n 0, 1), (.bipush 90, 2)] (16, [(0, z_r 13)], [.inl 90, z_r 13], Wc_30, 1, 300) (by decide +kernel) rfl ⟨trivial, trivial, trivial⟩ ?_
  refine z_newaC (n := 15) (aty := .int) (N := 90) (w' := Wc_31) (by decide) Wn_30 rfl M.1 (by decide +kernel) M.2.1 (z_wi 158 (by decide +kernel) rfl) (by decide) (by decide) (by decide) (by decide) (by decide) ?_
  refine z_putFC (idx := 15) (ci := 10) (j := 1) (kd := 1) (w' := Wc_32) rfl M.1 (by decide +kernel) (by decide) rfl (fun r h => by injection h with h; subst h; rfl) (by decide +kernel) trivial ?_
  refine z_go2 M.1 21 [(.aload_n 0, 1), (.bipush 24, 2)] (24, [(0, z_r 13)], [.inl 24, z_r 13], Wc_32, 2, 390) (by decide +kernel) rfl ⟨trivial, trivial, trivial⟩ ?_
  refine z_newaC (n := 16) (aty := .int) (N := 24) (w' := Wc_33) (by decide) Wn_32 rfl M.1 (by decide +kernel) M.2.1 (z_wi 158 (by decide +kernel) rfl) (by decide) (by decide) (by decide) (by decide) (by decide) ?_
  refine z_putFC (idx := 18) (ci := 10) (j := 2) (kd := 1) (w' := Wc_34) rfl M.1 (by decide +kernel) (by decide) rfl (fun r h => by injection h with h; subst h; rfl) (by decide +kernel) trivial ?_
  refine z_go2 M.1 29 [(.aload_n 0, 1), (.iconst 0, 1)] (31, [(0, z_r 13)], [.inl 0, z_r 13], Wc_34, 3, 414) (by decide +kernel) rfl ⟨trivial, trivial, trivial⟩ ?_
  refine z_putC (idx := 21) (ci := 10) (j := 3) (kd := 0) (w' := Wc_35) rfl M.1 (by decide +kernel) (by decide) (by decide +kernel) trivial ?_
  exact z_vret M (by decide +kernel) rfl (by decide) (by decide) ⟨rfl, rfl⟩
def Wc_36 : z_W := z_wr Wc_35 0 2 (z_r 13)
theorem Wn_36 : Wc_36.2.2.2 = 17 := Wn_35
def Wc_37 : z_W := z_nw Wc_36 (1, 1)
theorem Wn_37 : Wc_37.2.2.2 = 18 := congrArg (· + 1) Wn_36
def Wc_38 : z_W := z_nw Wc_37 (2, 30)
theorem Wn_38 : Wc_38.2.2.2 = 19 := congrArg (· + 1) Wn_37
def Wc_39 : z_W := z_wr Wc_38 17 0 (z_r 18)
theorem Wn_39 : Wc_39.2.2.2 = 19 := Wn_38
def Wc_40 : z_W := z_nw Wc_39 (1, 5)
theorem Wn_40 : Wc_40.2.2.2 = 20 := congrArg (· + 1) Wn_39
def Wc_41 : z_W := z_nw Wc_40 (4, 30)
theorem Wn_41 : Wc_41.2.2.2 = 21 := congrArg (· + 1) Wn_40
def Wc_42 : z_W := z_wr Wc_41 19 0 (z_r 20)
theorem Wn_42 : Wc_42.2.2.2 = 21 := Wn_41
def Wc_43 : z_W := z_nw Wc_42 (2, 30)
theorem Wn_43 : Wc_43.2.2.2 = 22 := congrArg (· + 1) Wn_42
def Wc_44 : z_W := z_wr Wc_43 19 1 (z_r 21)
theorem Wn_44 : Wc_44.2.2.2 = 22 := Wn_43
def Wc_45 : z_W := z_nw Wc_44 (2, 30)
theorem Wn_45 : Wc_45.2.2.2 = 23 := congrArg (· + 1) Wn_44
def Wc_46 : z_W := z_wr Wc_45 19 2 (z_r 22)
theorem Wn_46 : Wc_46.2.2.2 = 23 := Wn_45
def Wc_47 : z_W := z_nw Wc_46 (2, 30)
theorem Wn_47 : Wc_47.2.2.2 = 24 := congrArg (· + 1) Wn_46
def Wc_48 : z_W := z_wr Wc_47 19 3 (z_r 23)
theorem Wn_48 : Wc_48.2.2.2 = 24 := Wn_47
def Wc_49 : z_W := z_nw Wc_48 (2, 30)
theorem Wn_49 : Wc_49.2.2.2 = 25 := congrArg (· + 1) Wn_48
def Wc_50 : z_W := z_wr Wc_49 19 4 (z_r 24)
theorem Wn_50 : Wc_50.2.2.2 = 25 := Wn_49
def Wc_51 : z_W := z_nw Wc_50 (2, 30)
theorem Wn_51 : Wc_51.2.2.2 = 26 := congrArg (· + 1) Wn_50
def Wc_52 : z_W := z_wr Wc_51 19 5 (z_r 25)
theorem Wn_52 : Wc_52.2.2.2 = 26 := Wn_51
def Wc_53 : z_W := z_nw Wc_52 (2, 30)
theorem Wn_53 : Wc_53.2.2.2 = 27 := congrArg (· + 1) Wn_52
def Wc_54 : z_W := z_wr Wc_53 19 6 (z_r 26)
theorem Wn_54 : Wc_54.2.2.2 = 27 := Wn_53
def Wc_55 : z_W := z_wr Wc_54 19 7 (.inl 0)
theorem Wn_55 : Wc_55.2.2.2 = 27 := Wn_54
def Wc_56 : z_W := z_wr Wc_55 19 8 (.inl 0)
theorem Wn_56 : Wc_56.2.2.2 = 27 := Wn_55
def Wc_57 : z_W := z_wr Wc_56 19 9 (.inl 0)
theorem Wn_57 : Wc_57.2.2.2 = 27 := Wn_56
def Wc_58 : z_W := z_wr Wc_57 19 10 (.inl 0)
theorem Wn_58 : Wc_58.2.2.2 = 27 := Wn_57
def Wc_59 : z_W := z_wr Wc_58 19 11 (.inl 1)
theorem Wn_59 : Wc_59.2.2.2 = 27 := Wn_58
theorem ci_40_Query_init : z_Run (zg 1 7 210) zm_Query_init [z_r 19] Wc_40 (zq none Wc_59) := by
  refine z_body (by decide) zf_Query_ok (Nat.le_of_ble_eq_true rfl) (fun X M => ?_)
  show z_G X zm_Query_init (0, [(0, z_r 19)], [], Wc_40, 0, 0)
  refine z_go2 M.1 0 [(.aload_n 0, 1)] (1, [(0, z_r 19)], [z_r 19], Wc_40, 0, 0) (by decide +kernel) rfl ⟨trivial, trivial⟩ ?_
  refine z_objInit (idx := 3) M.1 (by decide +kernel) M.2.1 (z_wi 190 (by decide +kernel) rfl) (z_wi 108 (by decide +kernel) rfl) (z_wi 109 (by decide +kernel) rfl) rfl (by decide) (by decide) (Nat.le_of_ble_eq_true rfl) ?_
  refine z_go2 M.1 4 [(.aload_n 0, 1), (.bipush 30, 2)] (7, [(0, z_r 19)], [.inl 30, z_r 19], Wc_40, 0, 0) (by decide +kernel) rfl ⟨trivial, trivial, trivial⟩ ?_
  refine z_newaC (n := 20) (aty := .char) (N := 30) (w' := Wc_41) (by decide) Wn_40 rfl M.1 (by decide +kernel) M.2.1 (z_wi 234 (by decide +kernel) rfl) (by decide) (by decide) (by decide) (by decide) (by decide) ?_
  refine z_putFC (idx := 9) (ci := 5) (j := 0) (kd := 1) (w' := Wc_42) rfl M.1 (by decide +kernel) (by decide) rfl (fun r h => by injection h with h; subst h; rfl) (by decide +kernel) trivial ?_
  refine z_go2 M.1 12 [(.aload_n 0, 1), (.bipush 30, 2)] (15, [(0, z_r 19)], [.inl 30, z_r 19], Wc_42, 1, 30) (by decide +kernel) rfl ⟨trivial, trivial, trivial⟩ ?_
  refine z_newaC (n := 21) (aty := .int) (N := 30) (w' := Wc_43) (by decide) Wn_42 rfl M.1 (by decide +kernel) M.2.1 (z_wi 158 (by decide +kernel) rfl) (by decide) (by decide) (by decide) (by decide) (by decide) ?_
  refine z_putFC (idx := 15) (ci := 5) (j := 1) (kd := 1) (w' := Wc_44) rfl M.1 (by decide +kernel) (by decide) rfl (fun r h => by injection h with h; subst h; rfl) (by decide +kernel) trivial ?_
  refine z_go2 M.1 20 [(.aload_n 0, 1), (.bipush 30, 2)] (23, [(0, z_r 19)], [.inl 30, z_r 19], Wc_44, 2, 60) (by decide +kernel) rfl ⟨trivial, trivial, trivial⟩ ?_
  refine z_newaC (n := 22) (aty := .int) (N := 30) (w' := Wc_45) (by decide) Wn_44 rfl M.1 (by decide +kernel) M.2.1 (z_wi 158 (by decide +kernel) rfl) (by decide) (by decide) (by decide) (by decide) (by decide) ?_
  refine z_putFC (idx := 19) (ci := 5) (j := 2) (kd := 1) (w' := Wc_46) rfl M.1 (by decide +kernel) (by decide) rfl (fun r h => by injection h with h; subst h; rfl) (by decide +kernel) trivial ?_
  refine z_go2 M.1 28 [(.aload_n 0, 1), (.bipush 30, 2)] (31, [(0, z_r 19)], [.inl 30, z_r 19], Wc_46, 3, 90) (by decide +kernel) rfl ⟨trivial, trivial, trivial⟩ ?_
  refine z_newaC (n := 23) (aty := .int) (N := 30) (w' := Wc_47) (by decide) Wn_46 rfl M.1 (by decide +kernel) M.2.1 (z_wi 158 (by decide +kernel) rfl) (by decide) (by decide) (by decide) (by decide) (by decide) ?_
  refine z_putFC (idx := 22) (ci := 5) (j := 3) (kd := 1) (w' := Wc_48) rfl M.1 (by decide +kernel) (by decide) rfl (fun r h => by injection h with h; subst h; rfl) (by decide +kernel) trivial ?_
  refine z_go2 M.1 36 [(.aload_n 0, 1), (.bipush 30, 2)] (39, [(0, z_r 19)], [.inl 30, z_r 19], Wc_48, 4, 120) (by decide +kernel) rfl ⟨trivial, trivial, trivial⟩ ?_
  refine z_newaC (n := 24) (aty := .int) (N := 30) (w' := Wc_49) (by decide) Wn_48 rfl M.1 (by decide +kernel) M.2.1 (z_wi 158 (by decide +kernel) rfl) (by decide) (by decide) (by decide) (by decide) (by decide) ?_
  refine z_putFC (idx := 25) (ci := 5) (j := 4) (kd := 1) (w' := Wc_50) rfl M.1 (by decide +kernel) (by decide) rfl (fun r h => by injection h with h; subst h; rfl) (by decide +kernel) trivial ?_
  refine z_go2 M.1 44 [(.aload_n 0, 1), (.bipush 30, 2)] (47, [(0, z_r 19)], [.inl 30, z_r 19], Wc_50, 5, 150) (by decide +kernel) rfl ⟨trivial, trivial, trivial⟩ ?_
  refine z_newaC (n := 25) (aty := .int) (N := 30) (w' := Wc_51) (by decide) Wn_50 rfl M.1 (by decide +kernel) M.2.1 (z_wi 158 (by decide +kernel) rfl) (by decide) (by decide) (by decide) (by decide) (by decide) ?_
  refine z_putFC (idx := 28) (ci := 5) (j := 5) (kd := 1) (w' := Wc_52) rfl M.1 (by decide +kernel) (by decide) rfl (fun r h => by injection h with h; subst h; rfl) (by decide +kernel) trivial ?_
  refine z_go2 M.1 52 [(.aload_n 0, 1), (.bipush 30, 2)] (55, [(0, z_r 19)], [.inl 30, z_r 19], Wc_52, 6, 180) (by decide +kernel) rfl ⟨trivial, trivial, trivial⟩ ?_
  refine z_newaC (n := 26) (aty := .int) (N := 30) (w' := Wc_53) (by decide) Wn_52 rfl M.1 (by decide +kernel) M.2.1 (z_wi 158 (by decide +kernel) rfl) (by decide) (by decide) (by decide) (by decide) (by decide) ?_
  refine z_putFC (idx := 31) (ci := 5) (j := 6) (kd := 1) (w' := Wc_54) rfl M.1 (by decide +kernel) (by decide) rfl (fun r h => by injection h with h; subst h; rfl) (by decide +kernel) trivial ?_
  refine z_go2 M.1 60 [(.aload_n 0, 1), (.iconst 0, 1)] (62, [(0, z_r 19)], [.inl 0, z_r 19], Wc_54, 7, 210) (by decide +kernel) rfl ⟨trivial, trivial, trivial⟩ ?_
  refine z_putC (idx := 34) (ci := 5) (j := 7) (kd := 0) (w' := Wc_55) rfl M.1 (by decide +kernel) (by decide) (by decide +kernel) trivial ?_
  refine z_go2 M.1 65 [(.aload_n 0, 1), (.iconst 0, 1)] (67, [(0, z_r 19)], [.inl 0, z_r 19], Wc_55, 7, 210) (by decide +kernel) rfl ⟨trivial, trivial, trivial⟩ ?_
  refine z_putC (idx := 38) (ci := 5) (j := 8) (kd := 0) (w' := Wc_56) rfl M.1 (by decide +kernel) (by decide) (by decide +kernel) trivial ?_
  refine z_go2 M.1 70 [(.aload_n 0, 1), (.iconst 0, 1)] (72, [(0, z_r 19)], [.inl 0, z_r 19], Wc_56, 7, 210) (by decide +kernel) rfl ⟨trivial, trivial, trivial⟩ ?_
  refine z_putC (idx := 41) (ci := 5) (j := 9) (kd := 0) (w' := Wc_57) rfl M.1 (by decide +kernel) (by decide) (by decide +kernel) trivial ?_
  refine z_go2 M.1 75 [(.aload_n 0, 1), (.iconst 0, 1)] (77, [(0, z_r 19)], [.inl 0, z_r 19], Wc_57, 7, 210) (by decide +kernel) rfl ⟨trivial, trivial, trivial⟩ ?_
  refine z_putC (idx := 44) (ci := 5) (j := 10) (kd := 0) (w' := Wc_58) rfl M.1 (by decide +kernel) (by decide) (by decide +kernel) trivial ?_
  refine z_go2 M.1 80 [(.aload_n 0, 1), (.iconst 1, 1)] (82, [(0, z_r 19)], [.inl 1, z_r 19], Wc_58, 7, 210) (by decide +kernel) rfl ⟨trivial, trivial, trivial⟩ ?_
  refine z_putC (idx := 47) (ci := 5) (j := 11) (kd := 2) (w' := Wc_59) rfl M.1 (by decide +kernel) (by decide) (by decide +kernel) (Or.inr rfl) ?_
  exact z_vret M (by decide +kernel) rfl (by decide) (by decide) ⟨rfl, rfl⟩
def Wc_60 : z_W := z_wr Wc_59 17 1 (z_r 19)
theorem Wn_60 : Wc_60.2.2.2 = 27 := Wn_59
def Wc_61 : z_W := z_nw Wc_60 (1, 9)
theorem Wn_61 : Wc_61.2.2.2 = 28 := congrArg (· + 1) Wn_60
def Wc_62 : z_W := z_nw Wc_61 (1, 10)
theorem Wn_62 : Wc_62.2.2.2 = 29 := congrArg (· + 1) Wn_61
def Wc_63 : z_W := z_nw Wc_62 (2, 300)
theorem Wn_63 : Wc_63.2.2.2 = 30 := congrArg (· + 1) Wn_62
def Wc_64 : z_W := z_wr Wc_63 28 0 (z_r 29)
theorem Wn_64 : Wc_64.2.2.2 = 30 := Wn_63
def Wc_65 : z_W := z_nw Wc_64 (2, 90)
theorem Wn_65 : Wc_65.2.2.2 = 31 := congrArg (· + 1) Wn_64
def Wc_66 : z_W := z_wr Wc_65 28 1 (z_r 30)
theorem Wn_66 : Wc_66.2.2.2 = 31 := Wn_65
def Wc_67 : z_W := z_nw Wc_66 (2, 24)
theorem Wn_67 : Wc_67.2.2.2 = 32 := congrArg (· + 1) Wn_66
def Wc_68 : z_W := z_wr Wc_67 28 2 (z_r 31)
theorem Wn_68 : Wc_68.2.2.2 = 32 := Wn_67
def Wc_69 : z_W := z_wr Wc_68 28 3 (.inl 0)
theorem Wn_69 : Wc_69.2.2.2 = 32 := Wn_68
theorem ci_62_World_init : z_Run (zg 1 3 414) zm_World_init [z_r 28] Wc_62 (zq none Wc_69) := by
  refine z_body (by decide) zf_World_ok (Nat.le_of_ble_eq_true rfl) (fun X M => ?_)
  show z_G X zm_World_init (0, [(0, z_r 28)], [], Wc_62, 0, 0)
  refine z_go2 M.1 0 [(.aload_n 0, 1)] (1, [(0, z_r 28)], [z_r 28], Wc_62, 0, 0) (by decide +kernel) rfl ⟨trivial, trivial⟩ ?_
  refine z_objInit (idx := 3) M.1 (by decide +kernel) M.2.1 (z_wi 164 (by decide +kernel) rfl) (z_wi 108 (by decide +kernel) rfl) (z_wi 109 (by decide +kernel) rfl) rfl (by decide) (by decide) (Nat.le_of_ble_eq_true rfl) ?_
  refine z_go2 M.1 4 [(.aload_n 0, 1), (.sipush 300, 3)] (8, [(0, z_r 28)], [.inl 300, z_r 28], Wc_62, 0, 0) (by decide +kernel) rfl ⟨trivial, trivial, trivial⟩ ?_
  refine z_newaC (n := 29) (aty := .int) (N := 300) (w' := Wc_63) (by decide) Wn_62 rfl M.1 (by decide +kernel) M.2.1 (z_wi 158 (by decide +kernel) rfl) (by decide) (by decide) (by decide) (by decide) (by decide) ?_
  refine z_putFC (idx := 9) (ci := 10) (j := 0) (kd := 1) (w' := Wc_64) rfl M.1 (by decide +kernel) (by decide) rfl (fun r h => by injection h with h; subst h; rfl) (by decide +kernel) trivial ?_
  refine z_go2 M.1 13 [(.aload_n 0, 1), (.bipush 90, 2)] (16, [(0, z_r 28)], [.inl 90, z_r 28], Wc_64, 1, 300) (by decide +kernel) rfl ⟨trivial, trivial, trivial⟩ ?_
  refine z_newaC (n := 30) (aty := .int) (N := 90) (w' := Wc_65) (by decide) Wn_64 rfl M.1 (by decide +kernel) M.2.1 (z_wi 158 (by decide +kernel) rfl) (by decide) (by decide) (by decide) (by decide) (by decide) ?_
  refine z_putFC (idx := 15) (ci := 10) (j := 1) (kd := 1) (w' := Wc_66) rfl M.1 (by decide +kernel) (by decide) rfl (fun r h => by injection h with h; subst h; rfl) (by decide +kernel) trivial ?_
  refine z_go2 M.1 21 [(.aload_n 0, 1), (.bipush 24, 2)] (24, [(0, z_r 28)], [.inl 24, z_r 28], Wc_66, 2, 390) (by decide +kernel) rfl ⟨trivial, trivial, trivial⟩ ?_
  refine z_newaC (n := 31) (aty := .int) (N := 24) (w' := Wc_67) (by decide) Wn_66 rfl M.1 (by decide +kernel) M.2.1 (z_wi 158 (by decide +kernel) rfl) (by decide) (by decide) (by decide) (by decide) (by decide) ?_
  refine z_putFC (idx := 18) (ci := 10) (j := 2) (kd := 1) (w' := Wc_68) rfl M.1 (by decide +kernel) (by decide) rfl (fun r h => by injection h with h; subst h; rfl) (by decide +kernel) trivial ?_
  refine z_go2 M.1 29 [(.aload_n 0, 1), (.iconst 0, 1)] (31, [(0, z_r 28)], [.inl 0, z_r 28], Wc_68, 3, 414) (by decide +kernel) rfl ⟨trivial, trivial, trivial⟩ ?_
  refine z_putC (idx := 21) (ci := 10) (j := 3) (kd := 0) (w' := Wc_69) rfl M.1 (by decide +kernel) (by decide) (by decide +kernel) trivial ?_
  exact z_vret M (by decide +kernel) rfl (by decide) (by decide) ⟨rfl, rfl⟩
def Wc_70 : z_W := z_wr Wc_69 27 0 (z_r 28)
theorem Wn_70 : Wc_70.2.2.2 = 32 := Wn_69
def Wc_71 : z_W := z_nw Wc_70 (2, 30)
theorem Wn_71 : Wc_71.2.2.2 = 33 := congrArg (· + 1) Wn_70
def Wc_72 : z_W := z_wr Wc_71 27 1 (z_r 32)
theorem Wn_72 : Wc_72.2.2.2 = 33 := Wn_71
def Wc_73 : z_W := z_nw Wc_72 (2, 180)
theorem Wn_73 : Wc_73.2.2.2 = 34 := congrArg (· + 1) Wn_72
def Wc_74 : z_W := z_wr Wc_73 27 2 (z_r 33)
theorem Wn_74 : Wc_74.2.2.2 = 34 := Wn_73
def Wc_75 : z_W := z_nw Wc_74 (2, 30)
theorem Wn_75 : Wc_75.2.2.2 = 35 := congrArg (· + 1) Wn_74
def Wc_76 : z_W := z_wr Wc_75 27 3 (z_r 34)
theorem Wn_76 : Wc_76.2.2.2 = 35 := Wn_75
def Wc_77 : z_W := z_nw Wc_76 (2, 30)
theorem Wn_77 : Wc_77.2.2.2 = 36 := congrArg (· + 1) Wn_76
def Wc_78 : z_W := z_wr Wc_77 27 4 (z_r 35)
theorem Wn_78 : Wc_78.2.2.2 = 36 := Wn_77
def Wc_79 : z_W := z_wr Wc_78 27 5 (.inl 0)
theorem Wn_79 : Wc_79.2.2.2 = 36 := Wn_78
theorem ci_61_View_init : z_Run (zg 2 8 688) zm_View_init [z_r 27] Wc_61 (zq none Wc_79) := by
  refine z_body (by decide) zf_View_ok (Nat.le_of_ble_eq_true rfl) (fun X M => ?_)
  show z_G X zm_View_init (0, [(0, z_r 27)], [], Wc_61, 0, 0)
  refine z_go2 M.1 0 [(.aload_n 0, 1)] (1, [(0, z_r 27)], [z_r 27], Wc_61, 0, 0) (by decide +kernel) rfl ⟨trivial, trivial⟩ ?_
  refine z_objInit (idx := 3) M.1 (by decide +kernel) M.2.1 (z_wi 240 (by decide +kernel) rfl) (z_wi 108 (by decide +kernel) rfl) (z_wi 109 (by decide +kernel) rfl) rfl (by decide) (by decide) (Nat.le_of_ble_eq_true rfl) ?_
  refine z_go2 M.1 4 [(.aload_n 0, 1)] (5, [(0, z_r 27)], [z_r 27], Wc_61, 0, 0) (by decide +kernel) rfl ⟨trivial, trivial⟩ ?_
  refine z_newC (idx := 9) (n := 28) (ci := 10) (r := (RX10, TX10, 4)) (w' := Wc_62) Wn_61 rfl M.1 (by decide +kernel) M.2.1 rfl (z_wi 241 (by decide +kernel) rfl) (z_wi 160 (by decide +kernel) rfl) (z_wi 82 (by decide +kernel) rfl) (by decide) (by decide) ?_
  refine z_go2 M.1 8 [(.dup, 1)] (9, [(0, z_r 27)], [z_r 28, z_r 28, z_r 27], Wc_62, 1, 4) (by decide +kernel) rfl ⟨rfl, trivial⟩ ?_
  refine z_callI M.1 (av := []) (st := [z_r 28, z_r 27]) (a := 28) (by decide +kernel) ci_62_World_init M.2.1 zl_View_11 rfl rfl zi_World_init ⟨by decide, by decide, by decide, by decide⟩ rfl (Nat.le_of_ble_eq_true rfl) (fun v w' hv => ?_)
  obtain ⟨rfl, rfl⟩ := hv
  show z_G X zm_View_init (12, [(0, z_r 27)], [z_r 28, z_r 27], Wc_69, 4, 418)
  refine z_putFC (idx := 12) (ci := 9) (j := 0) (kd := 1) (w' := Wc_70) rfl M.1 (by decide +kernel) (by decide) rfl (fun r h => by injection h with h; subst h; rfl) (by decide +kernel) trivial ?_
  refine z_go2 M.1 15 [(.aload_n 0, 1), (.bipush 30, 2)] (18, [(0, z_r 27)], [.inl 30, z_r 27], Wc_70, 4, 418) (by decide +kernel) rfl ⟨trivial, trivial, trivial⟩ ?_
  refine z_newaC (n := 32) (aty := .int) (N := 30) (w' := Wc_71) (by decide) Wn_70 rfl M.1 (by decide +kernel) M.2.1 (z_wi 158 (by decide +kernel) rfl) (by decide) (by decide) (by decide) (by decide) (by decide) ?_
  refine z_putFC (idx := 18) (ci := 9) (j := 1) (kd := 1) (w' := Wc_72) rfl M.1 (by decide +kernel) (by decide) rfl (fun r h => by injection h with h; subst h; rfl) (by decide +kernel) trivial ?_
  refine z_go2 M.1 23 [(.aload_n 0, 1), (.sipush 180, 3)] (27, [(0, z_r 27)], [.inl 180, z_r 27], Wc_72, 5, 448) (by decide +kernel) rfl ⟨trivial, trivial, trivial⟩ ?_
  refine z_newaC (n := 33) (aty := .int) (N := 180) (w' := Wc_73) (by decide) Wn_72 rfl M.1 (by decide +kernel) M.2.1 (z_wi 158 (by decide +kernel) rfl) (by decide) (by decide) (by decide) (by decide) (by decide) ?_
  refine z_putFC (idx := 22) (ci := 9) (j := 2) (kd := 1) (w' := Wc_74) rfl M.1 (by decide +kernel) (by decide) rfl (fun r h => by injection h with h; subst h; rfl) (by decide +kernel) trivial ?_
  refine z_go2 M.1 32 [(.aload_n 0, 1), (.bipush 30, 2)] (35, [(0, z_r 27)], [.inl 30, z_r 27], Wc_74, 6, 628) (by decide +kernel) rfl ⟨trivial, trivial, trivial⟩ ?_
  refine z_newaC (n := 34) (aty := .int) (N := 30) (w' := Wc_75) (by decide) Wn_74 rfl M.1 (by decide +kernel) M.2.1 (z_wi 158 (by decide +kernel) rfl) (by decide) (by decide) (by decide) (by decide) (by decide) ?_
  refine z_putFC (idx := 25) (ci := 9) (j := 3) (kd := 1) (w' := Wc_76) rfl M.1 (by decide +kernel) (by decide) rfl (fun r h => by injection h with h; subst h; rfl) (by decide +kernel) trivial ?_
  refine z_go2 M.1 40 [(.aload_n 0, 1), (.bipush 30, 2)] (43, [(0, z_r 27)], [.inl 30, z_r 27], Wc_76, 7, 658) (by decide +kernel) rfl ⟨trivial, trivial, trivial⟩ ?_
  refine z_newaC (n := 35) (aty := .int) (N := 30) (w' := Wc_77) (by decide) Wn_76 rfl M.1 (by decide +kernel) M.2.1 (z_wi 158 (by decide +kernel) rfl) (by decide) (by decide) (by decide) (by decide) (by decide) ?_
  refine z_putFC (idx := 28) (ci := 9) (j := 4) (kd := 1) (w' := Wc_78) rfl M.1 (by decide +kernel) (by decide) rfl (fun r h => by injection h with h; subst h; rfl) (by decide +kernel) trivial ?_
  refine z_go2 M.1 48 [(.aload_n 0, 1), (.iconst 0, 1)] (50, [(0, z_r 27)], [.inl 0, z_r 27], Wc_78, 8, 688) (by decide +kernel) rfl ⟨trivial, trivial, trivial⟩ ?_
  refine z_putC (idx := 31) (ci := 9) (j := 5) (kd := 0) (w' := Wc_79) rfl M.1 (by decide +kernel) (by decide) (by decide +kernel) trivial ?_
  exact z_vret M (by decide +kernel) rfl (by decide) (by decide) ⟨rfl, rfl⟩
def Wc_80 : z_W := z_wr Wc_79 17 2 (z_r 27)
theorem Wn_80 : Wc_80.2.2.2 = 36 := Wn_79
def Wc_81 : z_W := z_nw Wc_80 (1, 8)
theorem Wn_81 : Wc_81.2.2.2 = 37 := congrArg (· + 1) Wn_80
def Wc_82 : z_W := z_nw Wc_81 (2, 3)
theorem Wn_82 : Wc_82.2.2.2 = 38 := congrArg (· + 1) Wn_81
def Wc_83 : z_W := z_wr Wc_82 36 0 (z_r 37)
theorem Wn_83 : Wc_83.2.2.2 = 38 := Wn_82
def Wc_84 : z_W := z_nw Wc_83 (2, 3)
theorem Wn_84 : Wc_84.2.2.2 = 39 := congrArg (· + 1) Wn_83
def Wc_85 : z_W := z_wr Wc_84 36 1 (z_r 38)
theorem Wn_85 : Wc_85.2.2.2 = 39 := Wn_84
def Wc_86 : z_W := z_nw Wc_85 (2, 3)
theorem Wn_86 : Wc_86.2.2.2 = 40 := congrArg (· + 1) Wn_85
def Wc_87 : z_W := z_wr Wc_86 36 2 (z_r 39)
theorem Wn_87 : Wc_87.2.2.2 = 40 := Wn_86
def Wc_88 : z_W := z_nw Wc_87 (2, 4)
theorem Wn_88 : Wc_88.2.2.2 = 41 := congrArg (· + 1) Wn_87
def Wc_89 : z_W := z_wr Wc_88 36 3 (z_r 40)
theorem Wn_89 : Wc_89.2.2.2 = 41 := Wn_88
def Wc_90 : z_W := z_nw Wc_89 (2, 4)
theorem Wn_90 : Wc_90.2.2.2 = 42 := congrArg (· + 1) Wn_89
def Wc_91 : z_W := z_wr Wc_90 36 4 (z_r 41)
theorem Wn_91 : Wc_91.2.2.2 = 42 := Wn_90
def Wc_92 : z_W := z_nw Wc_91 (2, 3)
theorem Wn_92 : Wc_92.2.2.2 = 43 := congrArg (· + 1) Wn_91
def Wc_93 : z_W := z_wr Wc_92 36 5 (z_r 42)
theorem Wn_93 : Wc_93.2.2.2 = 43 := Wn_92
def Wc_94 : z_W := z_nw Wc_93 (1, 3)
theorem Wn_94 : Wc_94.2.2.2 = 44 := congrArg (· + 1) Wn_93
def Wc_95 : z_W := z_nw Wc_94 (2, 3)
theorem Wn_95 : Wc_95.2.2.2 = 45 := congrArg (· + 1) Wn_94
def Wc_96 : z_W := z_wr Wc_95 43 0 (z_r 44)
theorem Wn_96 : Wc_96.2.2.2 = 45 := Wn_95
def Wc_97 : z_W := z_nw Wc_96 (2, 3)
theorem Wn_97 : Wc_97.2.2.2 = 46 := congrArg (· + 1) Wn_96
def Wc_98 : z_W := z_wr Wc_97 43 1 (z_r 45)
theorem Wn_98 : Wc_98.2.2.2 = 46 := Wn_97
def Wc_99 : z_W := z_nw Wc_98 (2, 3)
theorem Wn_99 : Wc_99.2.2.2 = 47 := congrArg (· + 1) Wn_98
def Wc_100 : z_W := z_wr Wc_99 43 2 (z_r 46)
theorem Wn_100 : Wc_100.2.2.2 = 47 := Wn_99
def Wc_101 : z_W := z_nw Wc_100 (2, 3)
theorem Wn_101 : Wc_101.2.2.2 = 48 := congrArg (· + 1) Wn_100
def Wc_102 : z_W := z_wr Wc_101 43 3 (z_r 47)
theorem Wn_102 : Wc_102.2.2.2 = 48 := Wn_101
def Wc_103 : z_W := z_nw Wc_102 (2, 3)
theorem Wn_103 : Wc_103.2.2.2 = 49 := congrArg (· + 1) Wn_102
def Wc_104 : z_W := z_wr Wc_103 43 4 (z_r 48)
theorem Wn_104 : Wc_104.2.2.2 = 49 := Wn_103
def Wc_105 : z_W := z_nw Wc_104 (2, 3)
theorem Wn_105 : Wc_105.2.2.2 = 50 := congrArg (· + 1) Wn_104
def Wc_106 : z_W := z_wr Wc_105 43 5 (z_r 49)
theorem Wn_106 : Wc_106.2.2.2 = 50 := Wn_105
def Wc_107 : z_W := (Wc_106.1, Wc_106.2.1, zFill Wc_106.2.2.1 44 3 7, Wc_106.2.2.2)
theorem Wn_107 : Wc_107.2.2.2 = 50 := Wn_106
def Wc_108 : z_W := (Wc_107.1, Wc_107.2.1, zFill Wc_107.2.2.1 45 3 (-1), Wc_107.2.2.2)
theorem Wn_108 : Wc_108.2.2.2 = 50 := Wn_107
def Wc_109 : z_W := (Wc_108.1, Wc_108.2.1, zFill Wc_108.2.2.1 47 3 (-1), Wc_108.2.2.2)
theorem Wn_109 : Wc_109.2.2.2 = 50 := Wn_108
theorem ci_94_Kinds_init : z_Run (zg 1 6 18) zm_Kinds_init [z_r 43] Wc_94 (zq none Wc_109) := by
  refine z_body (by decide) zf_Kinds_ok (Nat.le_of_ble_eq_true rfl) (fun X M => ?_)
  show z_G X zm_Kinds_init (0, [(0, z_r 43)], [], Wc_94, 0, 0)
  refine z_go2 M.1 0 [(.aload_n 0, 1)] (1, [(0, z_r 43)], [z_r 43], Wc_94, 0, 0) (by decide +kernel) rfl ⟨trivial, trivial⟩ ?_
  refine z_objInit (idx := 3) M.1 (by decide +kernel) M.2.1 (z_wi 279 (by decide +kernel) rfl) (z_wi 108 (by decide +kernel) rfl) (z_wi 109 (by decide +kernel) rfl) rfl (by decide) (by decide) (Nat.le_of_ble_eq_true rfl) ?_
  refine z_go2 M.1 4 [(.aload_n 0, 1), (.iconst 3, 1)] (6, [(0, z_r 43)], [.inl 3, z_r 43], Wc_94, 0, 0) (by decide +kernel) rfl ⟨trivial, trivial, trivial⟩ ?_
  refine z_newaC (n := 44) (aty := .int) (N := 3) (w' := Wc_95) (by decide) Wn_94 rfl M.1 (by decide +kernel) M.2.1 (z_wi 158 (by decide +kernel) rfl) (by decide) (by decide) (by decide) (by decide) (by decide) ?_
  refine z_putFC (idx := 9) (ci := 3) (j := 0) (kd := 1) (w' := Wc_96) rfl M.1 (by decide +kernel) (by decide) rfl (fun r h => by injection h with h; subst h; rfl) (by decide +kernel) trivial ?_
  refine z_go2 M.1 11 [(.aload_n 0, 1), (.iconst 3, 1)] (13, [(0, z_r 43)], [.inl 3, z_r 43], Wc_96, 1, 3) (by decide +kernel) rfl ⟨trivial, trivial, trivial⟩ ?_
  refine z_newaC (n := 45) (aty := .int) (N := 3) (w' := Wc_97) (by decide) Wn_96 rfl M.1 (by decide +kernel) M.2.1 (z_wi 158 (by decide +kernel) rfl) (by decide) (by decide) (by decide) (by decide) (by decide) ?_
  refine z_putFC (idx := 15) (ci := 3) (j := 1) (kd := 1) (w' := Wc_98) rfl M.1 (by decide +kernel) (by decide) rfl (fun r h => by injection h with h; subst h; rfl) (by decide +kernel) trivial ?_
  refine z_go2 M.1 18 [(.aload_n 0, 1), (.iconst 3, 1)] (20, [(0, z_r 43)], [.inl 3, z_r 43], Wc_98, 2, 6) (by decide +kernel) rfl ⟨trivial, trivial, trivial⟩ ?_
  refine z_newaC (n := 46) (aty := .int) (N := 3) (w' := Wc_99) (by decide) Wn_98 rfl M.1 (by decide +kernel) M.2.1 (z_wi 158 (by decide +kernel) rfl) (by decide) (by decide) (by decide) (by decide) (by decide) ?_
  refine z_putFC (idx := 18) (ci := 3) (j := 2) (kd := 1) (w' := Wc_100) rfl M.1 (by decide +kernel) (by decide) rfl (fun r h => by injection h with h; subst h; rfl) (by decide +kernel) trivial ?_
  refine z_go2 M.1 25 [(.aload_n 0, 1), (.iconst 3, 1)] (27, [(0, z_r 43)], [.inl 3, z_r 43], Wc_100, 3, 9) (by decide +kernel) rfl ⟨trivial, trivial, trivial⟩ ?_
  refine z_newaC (n := 47) (aty := .int) (N := 3) (w' := Wc_101) (by decide) Wn_100 rfl M.1 (by decide +kernel) M.2.1 (z_wi 158 (by decide +kernel) rfl) (by decide) (by decide) (by decide) (by decide) (by decide) ?_
  refine z_putFC (idx := 21) (ci := 3) (j := 3) (kd := 1) (w' := Wc_102) rfl M.1 (by decide +kernel) (by decide) rfl (fun r h => by injection h with h; subst h; rfl) (by decide +kernel) trivial ?_
  refine z_go2 M.1 32 [(.aload_n 0, 1), (.iconst 3, 1)] (34, [(0, z_r 43)], [.inl 3, z_r 43], Wc_102, 4, 12) (by decide +kernel) rfl ⟨trivial, trivial, trivial⟩ ?_
  refine z_newaC (n := 48) (aty := .int) (N := 3) (w' := Wc_103) (by decide) Wn_102 rfl M.1 (by decide +kernel) M.2.1 (z_wi 158 (by decide +kernel) rfl) (by decide) (by decide) (by decide) (by decide) (by decide) ?_
  refine z_putFC (idx := 24) (ci := 3) (j := 4) (kd := 1) (w' := Wc_104) rfl M.1 (by decide +kernel) (by decide) rfl (fun r h => by injection h with h; subst h; rfl) (by decide +kernel) trivial ?_
  refine z_go2 M.1 39 [(.aload_n 0, 1), (.iconst 3, 1)] (41, [(0, z_r 43)], [.inl 3, z_r 43], Wc_104, 5, 15) (by decide +kernel) rfl ⟨trivial, trivial, trivial⟩ ?_
  refine z_newaC (n := 49) (aty := .int) (N := 3) (w' := Wc_105) (by decide) Wn_104 rfl M.1 (by decide +kernel) M.2.1 (z_wi 158 (by decide +kernel) rfl) (by decide) (by decide) (by decide) (by decide) (by decide) ?_
  refine z_putFC (idx := 27) (ci := 3) (j := 5) (kd := 1) (w' := Wc_106) rfl M.1 (by decide +kernel) (by decide) rfl (fun r h => by injection h with h; subst h; rfl) (by decide +kernel) trivial ?_
  refine z_go2 M.1 46 [(.aload_n 0, 1)] (47, [(0, z_r 43)], [z_r 43], Wc_106, 6, 18) (by decide +kernel) rfl ⟨trivial, trivial⟩ ?_
  refine z_getRC (idx := 9) (ci := 3) (j := 0) (kd := 5) (r := 44) M.1 (by decide +kernel) (by decide) (by decide) (by decide +kernel) (by decide +kernel) ?_
  refine z_go2 M.1 50 [(.bipush 7, 2)] (52, [(0, z_r 43)], [.inl 7, z_r 44], Wc_106, 6, 18) (by decide +kernel) rfl ⟨trivial, trivial⟩ ?_
  refine z_callS M.1 (av := [z_r 44, .inl 7]) (st := []) (by decide +kernel) (c_fill Wc_106.1 Wc_106.2.1 Wc_106.2.2.1 Wc_106.2.2.2 44 3 (by decide +kernel) (by decide) 7) M.2.1 zl_Kinds_30 zs_Arrays_fill ⟨by decide, by decide, by decide, by decide⟩ rfl (Nat.le_of_ble_eq_true rfl) (fun v w' hv => ?_)
  obtain ⟨rfl, rfl⟩ := hv
  show z_G X zm_Kinds_init (55, [(0, z_r 43)], [], Wc_107, 6, 18)
  refine z_go2 M.1 55 [(.aload_n 0, 1)] (56, [(0, z_r 43)], [z_r 43], Wc_107, 6, 18) (by decide +kernel) rfl ⟨trivial, trivial⟩ ?_
  refine z_getRC (idx := 15) (ci := 3) (j := 1) (kd := 5) (r := 45) M.1 (by decide +kernel) (by decide) (by decide) (by decide +kernel) (by decide +kernel) ?_
  refine z_go2 M.1 59 [(.iconst (-1), 1)] (60, [(0, z_r 43)], [.inl (-1), z_r 45], Wc_107, 6, 18) (by decide +kernel) rfl ⟨trivial, trivial⟩ ?_
  refine z_callS M.1 (av := [z_r 45, .inl (-1)]) (st := []) (by decide +kernel) (c_fill Wc_107.1 Wc_107.2.1 Wc_107.2.2.1 Wc_107.2.2.2 45 3 (by decide +kernel) (by decide) (-1)) M.2.1 zl_Kinds_30 zs_Arrays_fill ⟨by decide, by decide, by decide, by decide⟩ rfl (Nat.le_of_ble_eq_true rfl) (fun v w' hv => ?_)
  obtain ⟨rfl, rfl⟩ := hv
  show z_G X zm_Kinds_init (63, [(0, z_r 43)], [], Wc_108, 6, 18)
  refine z_go2 M.1 63 [(.aload_n 0, 1)] (64, [(0, z_r 43)], [z_r 43], Wc_108, 6, 18) (by decide +kernel) rfl ⟨trivial, trivial⟩ ?_
  refine z_getRC (idx := 21) (ci := 3) (j := 3) (kd := 5) (r := 47) M.1 (by decide +kernel) (by decide) (by decide) (by decide +kernel) (by decide +kernel) ?_
  refine z_go2 M.1 67 [(.iconst (-1), 1)] (68, [(0, z_r 43)], [.inl (-1), z_r 47], Wc_108, 6, 18) (by decide +kernel) rfl ⟨trivial, trivial⟩ ?_
  refine z_callS M.1 (av := [z_r 47, .inl (-1)]) (st := []) (by decide +kernel) (c_fill Wc_108.1 Wc_108.2.1 Wc_108.2.2.1 Wc_108.2.2.2 47 3 (by decide +kernel) (by decide) (-1)) M.2.1 zl_Kinds_30 zs_Arrays_fill ⟨by decide, by decide, by decide, by decide⟩ rfl (Nat.le_of_ble_eq_true rfl) (fun v w' hv => ?_)
  obtain ⟨rfl, rfl⟩ := hv
  show z_G X zm_Kinds_init (71, [(0, z_r 43)], [], Wc_109, 6, 18)
  exact z_vret M (by decide +kernel) rfl (by decide) (by decide) ⟨rfl, rfl⟩
def Wc_110 : z_W := z_wr Wc_109 36 6 (z_r 43)
theorem Wn_110 : Wc_110.2.2.2 = 50 := Wn_109
def Wc_111 : z_W := z_nw Wc_110 (1, 10)
theorem Wn_111 : Wc_111.2.2.2 = 51 := congrArg (· + 1) Wn_110
def Wc_112 : z_W := z_nw Wc_111 (2, 300)
theorem Wn_112 : Wc_112.2.2.2 = 52 := congrArg (· + 1) Wn_111
def Wc_113 : z_W := z_wr Wc_112 50 0 (z_r 51)
theorem Wn_113 : Wc_113.2.2.2 = 52 := Wn_112
def Wc_114 : z_W := z_nw Wc_113 (2, 90)
theorem Wn_114 : Wc_114.2.2.2 = 53 := congrArg (· + 1) Wn_113
def Wc_115 : z_W := z_wr Wc_114 50 1 (z_r 52)
theorem Wn_115 : Wc_115.2.2.2 = 53 := Wn_114
def Wc_116 : z_W := z_nw Wc_115 (2, 24)
theorem Wn_116 : Wc_116.2.2.2 = 54 := congrArg (· + 1) Wn_115
def Wc_117 : z_W := z_wr Wc_116 50 2 (z_r 53)
theorem Wn_117 : Wc_117.2.2.2 = 54 := Wn_116
def Wc_118 : z_W := z_wr Wc_117 50 3 (.inl 0)
theorem Wn_118 : Wc_118.2.2.2 = 54 := Wn_117
theorem ci_111_World_init : z_Run (zg 1 3 414) zm_World_init [z_r 50] Wc_111 (zq none Wc_118) := by
  refine z_body (by decide) zf_World_ok (Nat.le_of_ble_eq_true rfl) (fun X M => ?_)
  show z_G X zm_World_init (0, [(0, z_r 50)], [], Wc_111, 0, 0)
  refine z_go2 M.1 0 [(.aload_n 0, 1)] (1, [(0, z_r 50)], [z_r 50], Wc_111, 0, 0) (by decide +kernel) rfl ⟨trivial, trivial⟩ ?_
  refine z_objInit (idx := 3) M.1 (by decide +kernel) M.2.1 (z_wi 164 (by decide +kernel) rfl) (z_wi 108 (by decide +kernel) rfl) (z_wi 109 (by decide +kernel) rfl) rfl (by decide) (by decide) (Nat.le_of_ble_eq_true rfl) ?_
  refine z_go2 M.1 4 [(.aload_n 0, 1), (.sipush 300, 3)] (8, [(0, z_r 50)], [.inl 300, z_r 50], Wc_111, 0, 0) (by decide +kernel) rfl ⟨trivial, trivial, trivial⟩ ?_
  refine z_newaC (n := 51) (aty := .int) (N := 300) (w' := Wc_112) (by decide) Wn_111 rfl M.1 (by decide +kernel) M.2.1 (z_wi 158 (by decide +kernel) rfl) (by decide) (by decide) (by decide) (by decide) (by decide) ?_
  refine z_putFC (idx := 9) (ci := 10) (j := 0) (kd := 1) (w' := Wc_113) rfl M.1 (by decide +kernel) (by decide) rfl (fun r h => by injection h with h; subst h; rfl) (by decide +kernel) trivial ?_
  refine z_go2 M.1 13 [(.aload_n 0, 1), (.bipush 90, 2)] (16, [(0, z_r 50)], [.inl 90, z_r 50], Wc_113, 1, 300) (by decide +kernel) rfl ⟨trivial, trivial, trivial⟩ ?_
  refine z_newaC (n := 52) (aty := .int) (N := 90) (w' := Wc_114) (by decide) Wn_113 rfl M.1 (by decide +kernel) M.2.1 (z_wi 158 (by decide +kernel) rfl) (by decide) (by decide) (by decide) (by decide) (by decide) ?_
  refine z_putFC (idx := 15) (ci := 10) (j := 1) (kd := 1) (w' := Wc_115) rfl M.1 (by decide +kernel) (by decide) rfl (fun r h => by injection h with h; subst h; rfl) (by decide +kernel) trivial ?_
  refine z_go2 M.1 21 [(.aload_n 0, 1), (.bipush 24, 2)] (24, [(0, z_r 50)], [.inl 24, z_r 50], Wc_115, 2, 390) (by decide +kernel) rfl ⟨trivial, trivial, trivial⟩ ?_
  refine z_newaC (n := 53) (aty := .int) (N := 24) (w' := Wc_116) (by decide) Wn_115 rfl M.1 (by decide +kernel) M.2.1 (z_wi 158 (by decide +kernel) rfl) (by decide) (by decide) (by decide) (by decide) (by decide) ?_
  refine z_putFC (idx := 18) (ci := 10) (j := 2) (kd := 1) (w' := Wc_117) rfl M.1 (by decide +kernel) (by decide) rfl (fun r h => by injection h with h; subst h; rfl) (by decide +kernel) trivial ?_
  refine z_go2 M.1 29 [(.aload_n 0, 1), (.iconst 0, 1)] (31, [(0, z_r 50)], [.inl 0, z_r 50], Wc_117, 3, 414) (by decide +kernel) rfl ⟨trivial, trivial, trivial⟩ ?_
  refine z_putC (idx := 21) (ci := 10) (j := 3) (kd := 0) (w' := Wc_118) rfl M.1 (by decide +kernel) (by decide) (by decide +kernel) trivial ?_
  exact z_vret M (by decide +kernel) rfl (by decide) (by decide) ⟨rfl, rfl⟩
def Wc_119 : z_W := z_wr Wc_118 36 7 (z_r 50)
theorem Wn_119 : Wc_119.2.2.2 = 54 := Wn_118
def Wc_120 : z_W := z_wr Wc_119 36 8 (.inl 0)
theorem Wn_120 : Wc_120.2.2.2 = 54 := Wn_119
def Wc_121 : z_W := z_wr Wc_120 36 9 (.inl 0)
theorem Wn_121 : Wc_121.2.2.2 = 54 := Wn_120
def Wc_122 : z_W := (Wc_121.1, Wc_121.2.1, zFill Wc_121.2.2.1 37 3 15, Wc_121.2.2.2)
theorem Wn_122 : Wc_122.2.2.2 = 54 := Wn_121
def Wc_123 : z_W := (Wc_122.1, Wc_122.2.1, zFill Wc_122.2.2.1 38 3 15, Wc_122.2.2.2)
theorem Wn_123 : Wc_123.2.2.2 = 54 := Wn_122
def Wc_124 : z_W := (Wc_123.1, Wc_123.2.1, zFill Wc_123.2.2.1 39 3 15, Wc_123.2.2.2)
theorem Wn_124 : Wc_124.2.2.2 = 54 := Wn_123
def Wc_125 : z_W := (Wc_124.1, Wc_124.2.1, zFill Wc_124.2.2.1 40 4 15, Wc_124.2.2.2)
theorem Wn_125 : Wc_125.2.2.2 = 54 := Wn_124
theorem ci_81_Sight_init : z_Run (zg 2 17 462) zm_Sight_init [z_r 36] Wc_81 (zq none Wc_125) := by
  refine z_body (by decide) zf_Sight_ok (Nat.le_of_ble_eq_true rfl) (fun X M => ?_)
  show z_G X zm_Sight_init (0, [(0, z_r 36)], [], Wc_81, 0, 0)
  refine z_go2 M.1 0 [(.aload_n 0, 1)] (1, [(0, z_r 36)], [z_r 36], Wc_81, 0, 0) (by decide +kernel) rfl ⟨trivial, trivial⟩ ?_
  refine z_objInit (idx := 3) M.1 (by decide +kernel) M.2.1 (z_wi 273 (by decide +kernel) rfl) (z_wi 108 (by decide +kernel) rfl) (z_wi 109 (by decide +kernel) rfl) rfl (by decide) (by decide) (Nat.le_of_ble_eq_true rfl) ?_
  refine z_go2 M.1 4 [(.aload_n 0, 1), (.iconst 3, 1)] (6, [(0, z_r 36)], [.inl 3, z_r 36], Wc_81, 0, 0) (by decide +kernel) rfl ⟨trivial, trivial, trivial⟩ ?_
  refine z_newaC (n := 37) (aty := .int) (N := 3) (w' := Wc_82) (by decide) Wn_81 rfl M.1 (by decide +kernel) M.2.1 (z_wi 158 (by decide +kernel) rfl) (by decide) (by decide) (by decide) (by decide) (by decide) ?_
  refine z_putFC (idx := 9) (ci := 8) (j := 0) (kd := 1) (w' := Wc_83) rfl M.1 (by decide +kernel) (by decide) rfl (fun r h => by injection h with h; subst h; rfl) (by decide +kernel) trivial ?_
  refine z_go2 M.1 11 [(.aload_n 0, 1), (.iconst 3, 1)] (13, [(0, z_r 36)], [.inl 3, z_r 36], Wc_83, 1, 3) (by decide +kernel) rfl ⟨trivial, trivial, trivial⟩ ?_
  refine z_newaC (n := 38) (aty := .int) (N := 3) (w' := Wc_84) (by decide) Wn_83 rfl M.1 (by decide +kernel) M.2.1 (z_wi 158 (by decide +kernel) rfl) (by decide) (by decide) (by decide) (by decide) (by decide) ?_
  refine z_putFC (idx := 15) (ci := 8) (j := 1) (kd := 1) (w' := Wc_85) rfl M.1 (by decide +kernel) (by decide) rfl (fun r h => by injection h with h; subst h; rfl) (by decide +kernel) trivial ?_
  refine z_go2 M.1 18 [(.aload_n 0, 1), (.iconst 3, 1)] (20, [(0, z_r 36)], [.inl 3, z_r 36], Wc_85, 2, 6) (by decide +kernel) rfl ⟨trivial, trivial, trivial⟩ ?_
  refine z_newaC (n := 39) (aty := .int) (N := 3) (w' := Wc_86) (by decide) Wn_85 rfl M.1 (by decide +kernel) M.2.1 (z_wi 158 (by decide +kernel) rfl) (by decide) (by decide) (by decide) (by decide) (by decide) ?_
  refine z_putFC (idx := 18) (ci := 8) (j := 2) (kd := 1) (w' := Wc_87) rfl M.1 (by decide +kernel) (by decide) rfl (fun r h => by injection h with h; subst h; rfl) (by decide +kernel) trivial ?_
  refine z_go2 M.1 25 [(.aload_n 0, 1), (.iconst 4, 1)] (27, [(0, z_r 36)], [.inl 4, z_r 36], Wc_87, 3, 9) (by decide +kernel) rfl ⟨trivial, trivial, trivial⟩ ?_
  refine z_newaC (n := 40) (aty := .int) (N := 4) (w' := Wc_88) (by decide) Wn_87 rfl M.1 (by decide +kernel) M.2.1 (z_wi 158 (by decide +kernel) rfl) (by decide) (by decide) (by decide) (by decide) (by decide) ?_
  refine z_putFC (idx := 21) (ci := 8) (j := 3) (kd := 1) (w' := Wc_89) rfl M.1 (by decide +kernel) (by decide) rfl (fun r h => by injection h with h; subst h; rfl) (by decide +kernel) trivial ?_
  refine z_go2 M.1 32 [(.aload_n 0, 1), (.iconst 4, 1)] (34, [(0, z_r 36)], [.inl 4, z_r 36], Wc_89, 4, 13) (by decide +kernel) rfl ⟨trivial, trivial, trivial⟩ ?_
  refine z_newaC (n := 41) (aty := .int) (N := 4) (w' := Wc_90) (by decide) Wn_89 rfl M.1 (by decide +kernel) M.2.1 (z_wi 158 (by decide +kernel) rfl) (by decide) (by decide) (by decide) (by decide) (by decide) ?_
  refine z_putFC (idx := 24) (ci := 8) (j := 4) (kd := 1) (w' := Wc_91) rfl M.1 (by decide +kernel) (by decide) rfl (fun r h => by injection h with h; subst h; rfl) (by decide +kernel) trivial ?_
  refine z_go2 M.1 39 [(.aload_n 0, 1), (.iconst 3, 1)] (41, [(0, z_r 36)], [.inl 3, z_r 36], Wc_91, 5, 17) (by decide +kernel) rfl ⟨trivial, trivial, trivial⟩ ?_
  refine z_newaC (n := 42) (aty := .int) (N := 3) (w' := Wc_92) (by decide) Wn_91 rfl M.1 (by decide +kernel) M.2.1 (z_wi 158 (by decide +kernel) rfl) (by decide) (by decide) (by decide) (by decide) (by decide) ?_
  refine z_putFC (idx := 27) (ci := 8) (j := 5) (kd := 1) (w' := Wc_93) rfl M.1 (by decide +kernel) (by decide) rfl (fun r h => by injection h with h; subst h; rfl) (by decide +kernel) trivial ?_
  refine z_go2 M.1 46 [(.aload_n 0, 1)] (47, [(0, z_r 36)], [z_r 36], Wc_93, 6, 20) (by decide +kernel) rfl ⟨trivial, trivial⟩ ?_
  refine z_newC (idx := 30) (n := 43) (ci := 3) (r := (RX3, TX3, 6)) (w' := Wc_94) Wn_93 rfl M.1 (by decide +kernel) M.2.1 rfl (z_wi 274 (by decide +kernel) rfl) (z_wi 275 (by decide +kernel) rfl) (z_wi 87 (by decide +kernel) rfl) (by decide) (by decide) ?_
  refine z_go2 M.1 50 [(.dup, 1)] (51, [(0, z_r 36)], [z_r 43, z_r 43, z_r 36], Wc_94, 7, 26) (by decide +kernel) rfl ⟨rfl, trivial⟩ ?_
  refine z_callI M.1 (av := []) (st := [z_r 43, z_r 36]) (a := 43) (by decide +kernel) ci_94_Kinds_init M.2.1 zl_Sight_32 rfl rfl zi_Kinds_init ⟨by decide, by decide, by decide, by decide⟩ rfl (Nat.le_of_ble_eq_true rfl) (fun v w' hv => ?_)
  obtain ⟨rfl, rfl⟩ := hv
  show z_G X zm_Sight_init (54, [(0, z_r 36)], [z_r 43, z_r 36], Wc_109, 13, 44)
  refine z_putFC (idx := 33) (ci := 8) (j := 6) (kd := 1) (w' := Wc_110) rfl M.1 (by decide +kernel) (by decide) rfl (fun r h => by injection h with h; subst h; rfl) (by decide +kernel) trivial ?_
  refine z_go2 M.1 57 [(.aload_n 0, 1)] (58, [(0, z_r 36)], [z_r 36], Wc_110, 13, 44) (by decide +kernel) rfl ⟨trivial, trivial⟩ ?_
  refine z_newC (idx := 37) (n := 50) (ci := 10) (r := (RX10, TX10, 4)) (w' := Wc_111) Wn_110 rfl M.1 (by decide +kernel) M.2.1 rfl (z_wi 307 (by decide +kernel) rfl) (z_wi 160 (by decide +kernel) rfl) (z_wi 82 (by decide +kernel) rfl) (by decide) (by decide) ?_
  refine z_go2 M.1 61 [(.dup, 1)] (62, [(0, z_r 36)], [z_r 50, z_r 50, z_r 36], Wc_111, 14, 48) (by decide +kernel) rfl ⟨rfl, trivial⟩ ?_
  refine z_callI M.1 (av := []) (st := [z_r 50, z_r 36]) (a := 50) (by decide +kernel) ci_111_World_init M.2.1 zl_Sight_39 rfl rfl zi_World_init ⟨by decide, by decide, by decide, by decide⟩ rfl (Nat.le_of_ble_eq_true rfl) (fun v w' hv => ?_)
  obtain ⟨rfl, rfl⟩ := hv
  show z_G X zm_Sight_init (65, [(0, z_r 36)], [z_r 50, z_r 36], Wc_118, 17, 462)
  refine z_putC (idx := 40) (ci := 8) (j := 7) (kd := 1) (w' := Wc_119) rfl M.1 (by decide +kernel) (by decide) (by decide +kernel) trivial ?_
  refine z_go2 M.1 68 [(.aload_n 0, 1), (.iconst 0, 1)] (70, [(0, z_r 36)], [.inl 0, z_r 36], Wc_119, 17, 462) (by decide +kernel) rfl ⟨trivial, trivial, trivial⟩ ?_
  refine z_putC (idx := 44) (ci := 8) (j := 8) (kd := 0) (w' := Wc_120) rfl M.1 (by decide +kernel) (by decide) (by decide +kernel) trivial ?_
  refine z_go2 M.1 73 [(.aload_n 0, 1), (.iconst 0, 1)] (75, [(0, z_r 36)], [.inl 0, z_r 36], Wc_120, 17, 462) (by decide +kernel) rfl ⟨trivial, trivial, trivial⟩ ?_
  refine z_putC (idx := 48) (ci := 8) (j := 9) (kd := 0) (w' := Wc_121) rfl M.1 (by decide +kernel) (by decide) (by decide +kernel) trivial ?_
  refine z_go2 M.1 78 [(.aload_n 0, 1)] (79, [(0, z_r 36)], [z_r 36], Wc_121, 17, 462) (by decide +kernel) rfl ⟨trivial, trivial⟩ ?_
  refine z_getRC (idx := 9) (ci := 8) (j := 0) (kd := 5) (r := 37) M.1 (by decide +kernel) (by decide) (by decide) (by decide +kernel) (by decide +kernel) ?_
  refine z_go2 M.1 82 [(.bipush 15, 2)] (84, [(0, z_r 36)], [.inl 15, z_r 37], Wc_121, 17, 462) (by decide +kernel) rfl ⟨trivial, trivial⟩ ?_
  refine z_callS M.1 (av := [z_r 37, .inl 15]) (st := []) (by decide +kernel) (c_fill Wc_121.1 Wc_121.2.1 Wc_121.2.2.1 Wc_121.2.2.2 37 3 (by decide +kernel) (by decide) 15) M.2.1 zl_Sight_51 zs_Arrays_fill ⟨by decide, by decide, by decide, by decide⟩ rfl (Nat.le_of_ble_eq_true rfl) (fun v w' hv => ?_)
  obtain ⟨rfl, rfl⟩ := hv
  show z_G X zm_Sight_init (87, [(0, z_r 36)], [], Wc_122, 17, 462)
  refine z_go2 M.1 87 [(.aload_n 0, 1)] (88, [(0, z_r 36)], [z_r 36], Wc_122, 17, 462) (by decide +kernel) rfl ⟨trivial, trivial⟩ ?_
  refine z_getRC (idx := 15) (ci := 8) (j := 1) (kd := 5) (r := 38) M.1 (by decide +kernel) (by decide) (by decide) (by decide +kernel) (by decide +kernel) ?_
  refine z_go2 M.1 91 [(.bipush 15, 2)] (93, [(0, z_r 36)], [.inl 15, z_r 38], Wc_122, 17, 462) (by decide +kernel) rfl ⟨trivial, trivial⟩ ?_
  refine z_callS M.1 (av := [z_r 38, .inl 15]) (st := []) (by decide +kernel) (c_fill Wc_122.1 Wc_122.2.1 Wc_122.2.2.1 Wc_122.2.2.2 38 3 (by decide +kernel) (by decide) 15) M.2.1 zl_Sight_51 zs_Arrays_fill ⟨by decide, by decide, by decide, by decide⟩ rfl (Nat.le_of_ble_eq_true rfl) (fun v w' hv => ?_)
  obtain ⟨rfl, rfl⟩ := hv
  show z_G X zm_Sight_init (96, [(0, z_r 36)], [], Wc_123, 17, 462)
  refine z_go2 M.1 96 [(.aload_n 0, 1)] (97, [(0, z_r 36)], [z_r 36], Wc_123, 17, 462) (by decide +kernel) rfl ⟨trivial, trivial⟩ ?_
  refine z_getRC (idx := 18) (ci := 8) (j := 2) (kd := 5) (r := 39) M.1 (by decide +kernel) (by decide) (by decide) (by decide +kernel) (by decide +kernel) ?_
  refine z_go2 M.1 100 [(.bipush 15, 2)] (102, [(0, z_r 36)], [.inl 15, z_r 39], Wc_123, 17, 462) (by decide +kernel) rfl ⟨trivial, trivial⟩ ?_
  refine z_callS M.1 (av := [z_r 39, .inl 15]) (st := []) (by decide +kernel) (c_fill Wc_123.1 Wc_123.2.1 Wc_123.2.2.1 Wc_123.2.2.2 39 3 (by decide +kernel) (by decide) 15) M.2.1 zl_Sight_51 zs_Arrays_fill ⟨by decide, by decide, by decide, by decide⟩ rfl (Nat.le_of_ble_eq_true rfl) (fun v w' hv => ?_)
  obtain ⟨rfl, rfl⟩ := hv
  show z_G X zm_Sight_init (105, [(0, z_r 36)], [], Wc_124, 17, 462)
  refine z_go2 M.1 105 [(.aload_n 0, 1)] (106, [(0, z_r 36)], [z_r 36], Wc_124, 17, 462) (by decide +kernel) rfl ⟨trivial, trivial⟩ ?_
  refine z_getRC (idx := 21) (ci := 8) (j := 3) (kd := 5) (r := 40) M.1 (by decide +kernel) (by decide) (by decide) (by decide +kernel) (by decide +kernel) ?_
  refine z_go2 M.1 109 [(.bipush 15, 2)] (111, [(0, z_r 36)], [.inl 15, z_r 40], Wc_124, 17, 462) (by decide +kernel) rfl ⟨trivial, trivial⟩ ?_
  refine z_callS M.1 (av := [z_r 40, .inl 15]) (st := []) (by decide +kernel) (c_fill Wc_124.1 Wc_124.2.1 Wc_124.2.2.1 Wc_124.2.2.2 40 4 (by decide +kernel) (by decide) 15) M.2.1 zl_Sight_51 zs_Arrays_fill ⟨by decide, by decide, by decide, by decide⟩ rfl (Nat.le_of_ble_eq_true rfl) (fun v w' hv => ?_)
  obtain ⟨rfl, rfl⟩ := hv
  show z_G X zm_Sight_init (114, [(0, z_r 36)], [], Wc_125, 17, 462)
  exact z_vret M (by decide +kernel) rfl (by decide) (by decide) ⟨rfl, rfl⟩
def Wc_126 : z_W := z_wr Wc_125 17 3 (z_r 36)
theorem Wn_126 : Wc_126.2.2.2 = 54 := Wn_125
theorem ci_37_Finder_init : z_Run (zg 3 36 1418) zm_Finder_init [z_r 17] Wc_37 (zq none Wc_126) := by
  refine z_body (by decide) zf_Finder_ok (Nat.le_of_ble_eq_true rfl) (fun X M => ?_)
  show z_G X zm_Finder_init (0, [(0, z_r 17)], [], Wc_37, 0, 0)
  refine z_go2 M.1 0 [(.aload_n 0, 1)] (1, [(0, z_r 17)], [z_r 17], Wc_37, 0, 0) (by decide +kernel) rfl ⟨trivial, trivial⟩ ?_
  refine z_objInit (idx := 3) M.1 (by decide +kernel) M.2.1 (z_wi 184 (by decide +kernel) rfl) (z_wi 108 (by decide +kernel) rfl) (z_wi 109 (by decide +kernel) rfl) rfl (by decide) (by decide) (Nat.le_of_ble_eq_true rfl) ?_
  refine z_go2 M.1 4 [(.aload_n 0, 1), (.bipush 30, 2)] (7, [(0, z_r 17)], [.inl 30, z_r 17], Wc_37, 0, 0) (by decide +kernel) rfl ⟨trivial, trivial, trivial⟩ ?_
  refine z_newaC (n := 18) (aty := .int) (N := 30) (w' := Wc_38) (by decide) Wn_37 rfl M.1 (by decide +kernel) M.2.1 (z_wi 158 (by decide +kernel) rfl) (by decide) (by decide) (by decide) (by decide) (by decide) ?_
  refine z_putFC (idx := 9) (ci := 1) (j := 0) (kd := 1) (w' := Wc_39) rfl M.1 (by decide +kernel) (by decide) rfl (fun r h => by injection h with h; subst h; rfl) (by decide +kernel) trivial ?_
  refine z_go2 M.1 12 [(.aload_n 0, 1)] (13, [(0, z_r 17)], [z_r 17], Wc_39, 1, 30) (by decide +kernel) rfl ⟨trivial, trivial⟩ ?_
  refine z_newC (idx := 15) (n := 19) (ci := 5) (r := (RX5, TX5, 12)) (w' := Wc_40) Wn_39 rfl M.1 (by decide +kernel) M.2.1 rfl (z_wi 185 (by decide +kernel) rfl) (z_wi 186 (by decide +kernel) rfl) (z_wi 84 (by decide +kernel) rfl) (by decide) (by decide) ?_
  refine z_go2 M.1 16 [(.dup, 1)] (17, [(0, z_r 17)], [z_r 19, z_r 19, z_r 17], Wc_40, 2, 42) (by decide +kernel) rfl ⟨rfl, trivial⟩ ?_
  refine z_callI M.1 (av := []) (st := [z_r 19, z_r 17]) (a := 19) (by decide +kernel) ci_40_Query_init M.2.1 zl_Finder_17 rfl rfl zi_Query_init ⟨by decide, by decide, by decide, by decide⟩ rfl (Nat.le_of_ble_eq_true rfl) (fun v w' hv => ?_)
  obtain ⟨rfl, rfl⟩ := hv
  show z_G X zm_Finder_init (20, [(0, z_r 17)], [z_r 19, z_r 17], Wc_59, 9, 252)
  refine z_putFC (idx := 18) (ci := 1) (j := 1) (kd := 1) (w' := Wc_60) rfl M.1 (by decide +kernel) (by decide) rfl (fun r h => by injection h with h; subst h; rfl) (by decide +kernel) trivial ?_
  refine z_go2 M.1 23 [(.aload_n 0, 1)] (24, [(0, z_r 17)], [z_r 17], Wc_60, 9, 252) (by decide +kernel) rfl ⟨trivial, trivial⟩ ?_
  refine z_newC (idx := 22) (n := 27) (ci := 9) (r := (RX9, TX9, 6)) (w' := Wc_61) Wn_60 rfl M.1 (by decide +kernel) M.2.1 rfl (z_wi 235 (by decide +kernel) rfl) (z_wi 236 (by decide +kernel) rfl) (z_wi 85 (by decide +kernel) rfl) (by decide) (by decide) ?_
  refine z_go2 M.1 27 [(.dup, 1)] (28, [(0, z_r 17)], [z_r 27, z_r 27, z_r 17], Wc_61, 10, 258) (by decide +kernel) rfl ⟨rfl, trivial⟩ ?_
  refine z_callI M.1 (av := []) (st := [z_r 27, z_r 17]) (a := 27) (by decide +kernel) ci_61_View_init M.2.1 zl_Finder_24 rfl rfl zi_View_init ⟨by decide, by decide, by decide, by decide⟩ rfl (Nat.le_of_ble_eq_true rfl) (fun v w' hv => ?_)
  obtain ⟨rfl, rfl⟩ := hv
  show z_G X zm_Finder_init (31, [(0, z_r 17)], [z_r 27, z_r 17], Wc_79, 18, 946)
  refine z_putFC (idx := 25) (ci := 1) (j := 2) (kd := 1) (w' := Wc_80) rfl M.1 (by decide +kernel) (by decide) rfl (fun r h => by injection h with h; subst h; rfl) (by decide +kernel) trivial ?_
  refine z_go2 M.1 34 [(.aload_n 0, 1)] (35, [(0, z_r 17)], [z_r 17], Wc_80, 18, 946) (by decide +kernel) rfl ⟨trivial, trivial⟩ ?_
  refine z_newC (idx := 29) (n := 36) (ci := 8) (r := (RX8, TX8, 10)) (w' := Wc_81) Wn_80 rfl M.1 (by decide +kernel) M.2.1 rfl (z_wi 268 (by decide +kernel) rfl) (z_wi 269 (by decide +kernel) rfl) (z_wi 86 (by decide +kernel) rfl) (by decide) (by decide) ?_
  refine z_go2 M.1 38 [(.dup, 1)] (39, [(0, z_r 17)], [z_r 36, z_r 36, z_r 17], Wc_81, 19, 956) (by decide +kernel) rfl ⟨rfl, trivial⟩ ?_
  refine z_callI M.1 (av := []) (st := [z_r 36, z_r 17]) (a := 36) (by decide +kernel) ci_81_Sight_init M.2.1 zl_Finder_31 rfl rfl zi_Sight_init ⟨by decide, by decide, by decide, by decide⟩ rfl (Nat.le_of_ble_eq_true rfl) (fun v w' hv => ?_)
  obtain ⟨rfl, rfl⟩ := hv
  show z_G X zm_Finder_init (42, [(0, z_r 17)], [z_r 36, z_r 17], Wc_125, 36, 1418)
  refine z_putFC (idx := 32) (ci := 1) (j := 3) (kd := 1) (w' := Wc_126) rfl M.1 (by decide +kernel) (by decide) rfl (fun r h => by injection h with h; subst h; rfl) (by decide +kernel) trivial ?_
  exact z_vret M (by decide +kernel) rfl (by decide) (by decide) ⟨rfl, rfl⟩
def Wc_127 : z_W := z_wr Wc_126 0 3 (z_r 17)
theorem Wn_127 : Wc_127.2.2.2 = 54 := Wn_126
def Wc_128 : z_W := z_wr Wc_127 0 4 (z_r 19)
theorem Wn_128 : Wc_128.2.2.2 = 54 := Wn_127
def Wc_129 : z_W := z_wr Wc_128 0 5 (z_r 27)
theorem Wn_129 : Wc_129.2.2.2 = 54 := Wn_128
def Wc_130 : z_W := z_wr Wc_129 0 6 (z_r 36)
theorem Wn_130 : Wc_130.2.2.2 = 54 := Wn_129
def Wc_131 : z_W := z_wr Wc_130 0 7 (z_r 43)
theorem Wn_131 : Wc_131.2.2.2 = 54 := Wn_130
def Wc_132 : z_W := z_nw Wc_131 (1, 2)
theorem Wn_132 : Wc_132.2.2.2 = 55 := congrArg (· + 1) Wn_131
def Wc_133 : z_W := z_nw Wc_132 (2, 4)
theorem Wn_133 : Wc_133.2.2.2 = 56 := congrArg (· + 1) Wn_132
def Wc_134 : z_W := z_wr Wc_133 54 0 (z_r 55)
theorem Wn_134 : Wc_134.2.2.2 = 56 := Wn_133
def Wc_135 : z_W := z_nw Wc_134 (2, 4)
theorem Wn_135 : Wc_135.2.2.2 = 57 := congrArg (· + 1) Wn_134
def Wc_136 : z_W := z_wr Wc_135 54 1 (z_r 56)
theorem Wn_136 : Wc_136.2.2.2 = 57 := Wn_135
def Wc_137 : z_W := z_nw Wc_136 (2, 192)
theorem Wn_137 : Wc_137.2.2.2 = 58 := congrArg (· + 1) Wn_136
def Wc_138 : z_W := z_wr Wc_137 54 2 (z_r 57)
theorem Wn_138 : Wc_138.2.2.2 = 58 := Wn_137
def Wc_139 : z_W := z_nw Wc_138 (2, 6)
theorem Wn_139 : Wc_139.2.2.2 = 59 := congrArg (· + 1) Wn_138
def Wc_140 : z_W := z_wr Wc_139 54 3 (z_r 58)
theorem Wn_140 : Wc_140.2.2.2 = 59 := Wn_139
def Wc_141 : z_W := z_wr Wc_140 54 4 (.inl (-1))
theorem Wn_141 : Wc_141.2.2.2 = 59 := Wn_140
def Wc_142 : z_W := (Wc_141.1, Wc_141.2.1, zFill Wc_141.2.2.1 55 4 1, Wc_141.2.2.2)
theorem Wn_142 : Wc_142.2.2.2 = 59 := Wn_141
theorem ci_132_Flows_init : z_Run (zg 1 4 206) zm_Flows_init [z_r 54] Wc_132 (zq none Wc_142) := by
  refine z_body (by decide) zf_Flows_ok (Nat.le_of_ble_eq_true rfl) (fun X M => ?_)
  show z_G X zm_Flows_init (0, [(0, z_r 54)], [], Wc_132, 0, 0)
  refine z_go2 M.1 0 [(.aload_n 0, 1)] (1, [(0, z_r 54)], [z_r 54], Wc_132, 0, 0) (by decide +kernel) rfl ⟨trivial, trivial⟩ ?_
  refine z_objInit (idx := 3) M.1 (by decide +kernel) M.2.1 (z_wi 368 (by decide +kernel) rfl) (z_wi 108 (by decide +kernel) rfl) (z_wi 109 (by decide +kernel) rfl) rfl (by decide) (by decide) (Nat.le_of_ble_eq_true rfl) ?_
  refine z_go2 M.1 4 [(.aload_n 0, 1), (.iconst 4, 1)] (6, [(0, z_r 54)], [.inl 4, z_r 54], Wc_132, 0, 0) (by decide +kernel) rfl ⟨trivial, trivial, trivial⟩ ?_
  refine z_newaC (n := 55) (aty := .int) (N := 4) (w' := Wc_133) (by decide) Wn_132 rfl M.1 (by decide +kernel) M.2.1 (z_wi 158 (by decide +kernel) rfl) (by decide) (by decide) (by decide) (by decide) (by decide) ?_
  refine z_putFC (idx := 9) (ci := 2) (j := 0) (kd := 1) (w' := Wc_134) rfl M.1 (by decide +kernel) (by decide) rfl (fun r h => by injection h with h; subst h; rfl) (by decide +kernel) trivial ?_
  refine z_go2 M.1 11 [(.aload_n 0, 1), (.iconst 4, 1)] (13, [(0, z_r 54)], [.inl 4, z_r 54], Wc_134, 1, 4) (by decide +kernel) rfl ⟨trivial, trivial, trivial⟩ ?_
  refine z_newaC (n := 56) (aty := .int) (N := 4) (w' := Wc_135) (by decide) Wn_134 rfl M.1 (by decide +kernel) M.2.1 (z_wi 158 (by decide +kernel) rfl) (by decide) (by decide) (by decide) (by decide) (by decide) ?_
  refine z_putFC (idx := 15) (ci := 2) (j := 1) (kd := 1) (w' := Wc_136) rfl M.1 (by decide +kernel) (by decide) rfl (fun r h => by injection h with h; subst h; rfl) (by decide +kernel) trivial ?_
  refine z_go2 M.1 18 [(.aload_n 0, 1), (.sipush 192, 3)] (22, [(0, z_r 54)], [.inl 192, z_r 54], Wc_136, 2, 8) (by decide +kernel) rfl ⟨trivial, trivial, trivial⟩ ?_
  refine z_newaC (n := 57) (aty := .int) (N := 192) (w' := Wc_137) (by decide) Wn_136 rfl M.1 (by decide +kernel) M.2.1 (z_wi 158 (by decide +kernel) rfl) (by decide) (by decide) (by decide) (by decide) (by decide) ?_
  refine z_putFC (idx := 18) (ci := 2) (j := 2) (kd := 1) (w' := Wc_138) rfl M.1 (by decide +kernel) (by decide) rfl (fun r h => by injection h with h; subst h; rfl) (by decide +kernel) trivial ?_
  refine z_go2 M.1 27 [(.aload_n 0, 1), (.bipush 6, 2)] (30, [(0, z_r 54)], [.inl 6, z_r 54], Wc_138, 3, 200) (by decide +kernel) rfl ⟨trivial, trivial, trivial⟩ ?_
  refine z_newaC (n := 58) (aty := .int) (N := 6) (w' := Wc_139) (by decide) Wn_138 rfl M.1 (by decide +kernel) M.2.1 (z_wi 158 (by decide +kernel) rfl) (by decide) (by decide) (by decide) (by decide) (by decide) ?_
  refine z_putFC (idx := 21) (ci := 2) (j := 3) (kd := 1) (w' := Wc_140) rfl M.1 (by decide +kernel) (by decide) rfl (fun r h => by injection h with h; subst h; rfl) (by decide +kernel) trivial ?_
  refine z_go2 M.1 35 [(.aload_n 0, 1), (.iconst (-1), 1)] (37, [(0, z_r 54)], [.inl (-1), z_r 54], Wc_140, 4, 206) (by decide +kernel) rfl ⟨trivial, trivial, trivial⟩ ?_
  refine z_putC (idx := 24) (ci := 2) (j := 4) (kd := 0) (w' := Wc_141) rfl M.1 (by decide +kernel) (by decide) (by decide +kernel) trivial ?_
  refine z_go2 M.1 40 [(.aload_n 0, 1)] (41, [(0, z_r 54)], [z_r 54], Wc_141, 4, 206) (by decide +kernel) rfl ⟨trivial, trivial⟩ ?_
  refine z_getRC (idx := 9) (ci := 2) (j := 0) (kd := 5) (r := 55) M.1 (by decide +kernel) (by decide) (by decide) (by decide +kernel) (by decide +kernel) ?_
  refine z_go2 M.1 44 [(.iconst 1, 1)] (45, [(0, z_r 54)], [.inl 1, z_r 55], Wc_141, 4, 206) (by decide +kernel) rfl ⟨trivial, trivial⟩ ?_
  refine z_callS M.1 (av := [z_r 55, .inl 1]) (st := []) (by decide +kernel) (c_fill Wc_141.1 Wc_141.2.1 Wc_141.2.2.1 Wc_141.2.2.2 55 4 (by decide +kernel) (by decide) 1) M.2.1 zl_Flows_28 zs_Arrays_fill ⟨by decide, by decide, by decide, by decide⟩ rfl (Nat.le_of_ble_eq_true rfl) (fun v w' hv => ?_)
  obtain ⟨rfl, rfl⟩ := hv
  show z_G X zm_Flows_init (48, [(0, z_r 54)], [], Wc_142, 4, 206)
  exact z_vret M (by decide +kernel) rfl (by decide) (by decide) ⟨rfl, rfl⟩
def Wc_143 : z_W := z_wr Wc_142 0 8 (z_r 54)
theorem Wn_143 : Wc_143.2.2.2 = 59 := Wn_142
def Wc_144 : z_W := z_nw Wc_143 (1, 7)
theorem Wn_144 : Wc_144.2.2.2 = 60 := congrArg (· + 1) Wn_143
def Wc_145 : z_W := z_nw Wc_144 (2, 6)
theorem Wn_145 : Wc_145.2.2.2 = 61 := congrArg (· + 1) Wn_144
def Wc_146 : z_W := z_wr Wc_145 59 0 (z_r 60)
theorem Wn_146 : Wc_146.2.2.2 = 61 := Wn_145
def Wc_147 : z_W := z_nw Wc_146 (2, 6)
theorem Wn_147 : Wc_147.2.2.2 = 62 := congrArg (· + 1) Wn_146
def Wc_148 : z_W := z_wr Wc_147 59 1 (z_r 61)
theorem Wn_148 : Wc_148.2.2.2 = 62 := Wn_147
def Wc_149 : z_W := z_nw Wc_148 (2, 6)
theorem Wn_149 : Wc_149.2.2.2 = 63 := congrArg (· + 1) Wn_148
def Wc_150 : z_W := z_wr Wc_149 59 2 (z_r 62)
theorem Wn_150 : Wc_150.2.2.2 = 63 := Wn_149
def Wc_151 : z_W := z_nw Wc_150 (2, 6)
theorem Wn_151 : Wc_151.2.2.2 = 64 := congrArg (· + 1) Wn_150
def Wc_152 : z_W := z_wr Wc_151 59 3 (z_r 63)
theorem Wn_152 : Wc_152.2.2.2 = 64 := Wn_151
def Wc_153 : z_W := z_nw Wc_152 (2, 6)
theorem Wn_153 : Wc_153.2.2.2 = 65 := congrArg (· + 1) Wn_152
def Wc_154 : z_W := z_wr Wc_153 59 4 (z_r 64)
theorem Wn_154 : Wc_154.2.2.2 = 65 := Wn_153
def Wc_155 : z_W := z_nw Wc_154 (2, 6)
theorem Wn_155 : Wc_155.2.2.2 = 66 := congrArg (· + 1) Wn_154
def Wc_156 : z_W := z_wr Wc_155 59 5 (z_r 65)
theorem Wn_156 : Wc_156.2.2.2 = 66 := Wn_155
def Wc_157 : z_W := z_nw Wc_156 (2, 6)
theorem Wn_157 : Wc_157.2.2.2 = 67 := congrArg (· + 1) Wn_156
def Wc_158 : z_W := z_wr Wc_157 59 6 (z_r 66)
theorem Wn_158 : Wc_158.2.2.2 = 67 := Wn_157
def Wc_159 : z_W := z_nw Wc_158 (2, 6)
theorem Wn_159 : Wc_159.2.2.2 = 68 := congrArg (· + 1) Wn_158
def Wc_160 : z_W := z_wr Wc_159 59 7 (z_r 67)
theorem Wn_160 : Wc_160.2.2.2 = 68 := Wn_159
def Wc_161 : z_W := z_wr Wc_160 59 8 (.inl 0)
theorem Wn_161 : Wc_161.2.2.2 = 68 := Wn_160
theorem ci_144_Rules_init : z_Run (zg 1 8 48) zm_Rules_init [z_r 59] Wc_144 (zq none Wc_161) := by
  refine z_body (by decide) zf_Rules_ok (Nat.le_of_ble_eq_true rfl) (fun X M => ?_)
  show z_G X zm_Rules_init (0, [(0, z_r 59)], [], Wc_144, 0, 0)
  refine z_go2 M.1 0 [(.aload_n 0, 1)] (1, [(0, z_r 59)], [z_r 59], Wc_144, 0, 0) (by decide +kernel) rfl ⟨trivial, trivial⟩ ?_
  refine z_objInit (idx := 3) M.1 (by decide +kernel) M.2.1 (z_wi 394 (by decide +kernel) rfl) (z_wi 108 (by decide +kernel) rfl) (z_wi 109 (by decide +kernel) rfl) rfl (by decide) (by decide) (Nat.le_of_ble_eq_true rfl) ?_
  refine z_go2 M.1 4 [(.aload_n 0, 1), (.bipush 6, 2)] (7, [(0, z_r 59)], [.inl 6, z_r 59], Wc_144, 0, 0) (by decide +kernel) rfl ⟨trivial, trivial, trivial⟩ ?_
  refine z_newaC (n := 60) (aty := .int) (N := 6) (w' := Wc_145) (by decide) Wn_144 rfl M.1 (by decide +kernel) M.2.1 (z_wi 158 (by decide +kernel) rfl) (by decide) (by decide) (by decide) (by decide) (by decide) ?_
  refine z_putFC (idx := 9) (ci := 7) (j := 0) (kd := 1) (w' := Wc_146) rfl M.1 (by decide +kernel) (by decide) rfl (fun r h => by injection h with h; subst h; rfl) (by decide +kernel) trivial ?_
  refine z_go2 M.1 12 [(.aload_n 0, 1), (.bipush 6, 2)] (15, [(0, z_r 59)], [.inl 6, z_r 59], Wc_146, 1, 6) (by decide +kernel) rfl ⟨trivial, trivial, trivial⟩ ?_
  refine z_newaC (n := 61) (aty := .int) (N := 6) (w' := Wc_147) (by decide) Wn_146 rfl M.1 (by decide +kernel) M.2.1 (z_wi 158 (by decide +kernel) rfl) (by decide) (by decide) (by decide) (by decide) (by decide) ?_
  refine z_putFC (idx := 15) (ci := 7) (j := 1) (kd := 1) (w' := Wc_148) rfl M.1 (by decide +kernel) (by decide) rfl (fun r h => by injection h with h; subst h; rfl) (by decide +kernel) trivial ?_
  refine z_go2 M.1 20 [(.aload_n 0, 1), (.bipush 6, 2)] (23, [(0, z_r 59)], [.inl 6, z_r 59], Wc_148, 2, 12) (by decide +kernel) rfl ⟨trivial, trivial, trivial⟩ ?_
  refine z_newaC (n := 62) (aty := .int) (N := 6) (w' := Wc_149) (by decide) Wn_148 rfl M.1 (by decide +kernel) M.2.1 (z_wi 158 (by decide +kernel) rfl) (by decide) (by decide) (by decide) (by decide) (by decide) ?_
  refine z_putFC (idx := 18) (ci := 7) (j := 2) (kd := 1) (w' := Wc_150) rfl M.1 (by decide +kernel) (by decide) rfl (fun r h => by injection h with h; subst h; rfl) (by decide +kernel) trivial ?_
  refine z_go2 M.1 28 [(.aload_n 0, 1), (.bipush 6, 2)] (31, [(0, z_r 59)], [.inl 6, z_r 59], Wc_150, 3, 18) (by decide +kernel) rfl ⟨trivial, trivial, trivial⟩ ?_
  refine z_newaC (n := 63) (aty := .int) (N := 6) (w' := Wc_151) (by decide) Wn_150 rfl M.1 (by decide +kernel) M.2.1 (z_wi 158 (by decide +kernel) rfl) (by decide) (by decide) (by decide) (by decide) (by decide) ?_
  refine z_putFC (idx := 21) (ci := 7) (j := 3) (kd := 1) (w' := Wc_152) rfl M.1 (by decide +kernel) (by decide) rfl (fun r h => by injection h with h; subst h; rfl) (by decide +kernel) trivial ?_
  refine z_go2 M.1 36 [(.aload_n 0, 1), (.bipush 6, 2)] (39, [(0, z_r 59)], [.inl 6, z_r 59], Wc_152, 4, 24) (by decide +kernel) rfl ⟨trivial, trivial, trivial⟩ ?_
  refine z_newaC (n := 64) (aty := .int) (N := 6) (w' := Wc_153) (by decide) Wn_152 rfl M.1 (by decide +kernel) M.2.1 (z_wi 158 (by decide +kernel) rfl) (by decide) (by decide) (by decide) (by decide) (by decide) ?_
  refine z_putFC (idx := 24) (ci := 7) (j := 4) (kd := 1) (w' := Wc_154) rfl M.1 (by decide +kernel) (by decide) rfl (fun r h => by injection h with h; subst h; rfl) (by decide +kernel) trivial ?_
  refine z_go2 M.1 44 [(.aload_n 0, 1), (.bipush 6, 2)] (47, [(0, z_r 59)], [.inl 6, z_r 59], Wc_154, 5, 30) (by decide +kernel) rfl ⟨trivial, trivial, trivial⟩ ?_
  refine z_newaC (n := 65) (aty := .int) (N := 6) (w' := Wc_155) (by decide) Wn_154 rfl M.1 (by decide +kernel) M.2.1 (z_wi 158 (by decide +kernel) rfl) (by decide) (by decide) (by decide) (by decide) (by decide) ?_
  refine z_putFC (idx := 27) (ci := 7) (j := 5) (kd := 1) (w' := Wc_156) rfl M.1 (by decide +kernel) (by decide) rfl (fun r h => by injection h with h; subst h; rfl) (by decide +kernel) trivial ?_
  refine z_go2 M.1 52 [(.aload_n 0, 1), (.bipush 6, 2)] (55, [(0, z_r 59)], [.inl 6, z_r 59], Wc_156, 6, 36) (by decide +kernel) rfl ⟨trivial, trivial, trivial⟩ ?_
  refine z_newaC (n := 66) (aty := .int) (N := 6) (w' := Wc_157) (by decide) Wn_156 rfl M.1 (by decide +kernel) M.2.1 (z_wi 158 (by decide +kernel) rfl) (by decide) (by decide) (by decide) (by decide) (by decide) ?_
  refine z_putFC (idx := 30) (ci := 7) (j := 6) (kd := 1) (w' := Wc_158) rfl M.1 (by decide +kernel) (by decide) rfl (fun r h => by injection h with h; subst h; rfl) (by decide +kernel) trivial ?_
  refine z_go2 M.1 60 [(.aload_n 0, 1), (.bipush 6, 2)] (63, [(0, z_r 59)], [.inl 6, z_r 59], Wc_158, 7, 42) (by decide +kernel) rfl ⟨trivial, trivial, trivial⟩ ?_
  refine z_newaC (n := 67) (aty := .int) (N := 6) (w' := Wc_159) (by decide) Wn_158 rfl M.1 (by decide +kernel) M.2.1 (z_wi 158 (by decide +kernel) rfl) (by decide) (by decide) (by decide) (by decide) (by decide) ?_
  refine z_putFC (idx := 33) (ci := 7) (j := 7) (kd := 1) (w' := Wc_160) rfl M.1 (by decide +kernel) (by decide) rfl (fun r h => by injection h with h; subst h; rfl) (by decide +kernel) trivial ?_
  refine z_go2 M.1 68 [(.aload_n 0, 1), (.iconst 0, 1)] (70, [(0, z_r 59)], [.inl 0, z_r 59], Wc_160, 8, 48) (by decide +kernel) rfl ⟨trivial, trivial, trivial⟩ ?_
  refine z_putC (idx := 36) (ci := 7) (j := 8) (kd := 0) (w' := Wc_161) rfl M.1 (by decide +kernel) (by decide) (by decide +kernel) trivial ?_
  exact z_vret M (by decide +kernel) rfl (by decide) (by decide) ⟨rfl, rfl⟩
def Wc_162 : z_W := z_wr Wc_161 0 9 (z_r 59)
theorem Wn_162 : Wc_162.2.2.2 = 68 := Wn_161
def Wc_163 : z_W := z_nw Wc_162 (1, 6)
theorem Wn_163 : Wc_163.2.2.2 = 69 := congrArg (· + 1) Wn_162
def Wc_164 : z_W := z_nw Wc_163 (2, 30)
theorem Wn_164 : Wc_164.2.2.2 = 70 := congrArg (· + 1) Wn_163
def Wc_165 : z_W := z_wr Wc_164 68 0 (z_r 69)
theorem Wn_165 : Wc_165.2.2.2 = 70 := Wn_164
def Wc_166 : z_W := z_nw Wc_165 (2, 30)
theorem Wn_166 : Wc_166.2.2.2 = 71 := congrArg (· + 1) Wn_165
def Wc_167 : z_W := z_wr Wc_166 68 1 (z_r 70)
theorem Wn_167 : Wc_167.2.2.2 = 71 := Wn_166
def Wc_168 : z_W := z_wr Wc_167 68 2 (.inl 0)
theorem Wn_168 : Wc_168.2.2.2 = 71 := Wn_167
theorem ci_163_Ranks_init : z_Run (zg 1 2 60) zm_Ranks_init [z_r 68] Wc_163 (zq none Wc_168) := by
  refine z_body (by decide) zf_Ranks_ok (Nat.le_of_ble_eq_true rfl) (fun X M => ?_)
  show z_G X zm_Ranks_init (0, [(0, z_r 68)], [], Wc_163, 0, 0)
  refine z_go2 M.1 0 [(.aload_n 0, 1)] (1, [(0, z_r 68)], [z_r 68], Wc_163, 0, 0) (by decide +kernel) rfl ⟨trivial, trivial⟩ ?_
  refine z_objInit (idx := 3) M.1 (by decide +kernel) M.2.1 (z_wi 435 (by decide +kernel) rfl) (z_wi 108 (by decide +kernel) rfl) (z_wi 109 (by decide +kernel) rfl) rfl (by decide) (by decide) (Nat.le_of_ble_eq_true rfl) ?_
  refine z_go2 M.1 4 [(.aload_n 0, 1), (.bipush 30, 2)] (7, [(0, z_r 68)], [.inl 30, z_r 68], Wc_163, 0, 0) (by decide +kernel) rfl ⟨trivial, trivial, trivial⟩ ?_
  refine z_newaC (n := 69) (aty := .int) (N := 30) (w' := Wc_164) (by decide) Wn_163 rfl M.1 (by decide +kernel) M.2.1 (z_wi 158 (by decide +kernel) rfl) (by decide) (by decide) (by decide) (by decide) (by decide) ?_
  refine z_putFC (idx := 9) (ci := 6) (j := 0) (kd := 1) (w' := Wc_165) rfl M.1 (by decide +kernel) (by decide) rfl (fun r h => by injection h with h; subst h; rfl) (by decide +kernel) trivial ?_
  refine z_go2 M.1 12 [(.aload_n 0, 1), (.bipush 30, 2)] (15, [(0, z_r 68)], [.inl 30, z_r 68], Wc_165, 1, 30) (by decide +kernel) rfl ⟨trivial, trivial, trivial⟩ ?_
  refine z_newaC (n := 70) (aty := .int) (N := 30) (w' := Wc_166) (by decide) Wn_165 rfl M.1 (by decide +kernel) M.2.1 (z_wi 158 (by decide +kernel) rfl) (by decide) (by decide) (by decide) (by decide) (by decide) ?_
  refine z_putFC (idx := 15) (ci := 6) (j := 1) (kd := 1) (w' := Wc_167) rfl M.1 (by decide +kernel) (by decide) rfl (fun r h => by injection h with h; subst h; rfl) (by decide +kernel) trivial ?_
  refine z_go2 M.1 20 [(.aload_n 0, 1), (.iconst 0, 1)] (22, [(0, z_r 68)], [.inl 0, z_r 68], Wc_167, 2, 60) (by decide +kernel) rfl ⟨trivial, trivial, trivial⟩ ?_
  refine z_putC (idx := 18) (ci := 6) (j := 2) (kd := 0) (w' := Wc_168) rfl M.1 (by decide +kernel) (by decide) (by decide +kernel) trivial ?_
  exact z_vret M (by decide +kernel) rfl (by decide) (by decide) ⟨rfl, rfl⟩
def Wc_169 : z_W := z_wr Wc_168 0 10 (z_r 68)
theorem Wn_169 : Wc_169.2.2.2 = 71 := Wn_168
def Wc_170 : z_W := z_nw Wc_169 (1, 0)
theorem Wn_170 : Wc_170.2.2.2 = 72 := congrArg (· + 1) Wn_169
def Wc_171 : z_W := z_nw Wc_170 (2, 512)
theorem Wn_171 : Wc_171.2.2.2 = 73 := congrArg (· + 1) Wn_170
def Wc_172 : z_W := z_wr Wc_171 71 0 (z_r 72)
theorem Wn_172 : Wc_172.2.2.2 = 73 := Wn_171
def Wc_173 : z_W := z_nw Wc_172 (2, 512)
theorem Wn_173 : Wc_173.2.2.2 = 74 := congrArg (· + 1) Wn_172
def Wc_174 : z_W := z_wr Wc_173 71 1 (z_r 73)
theorem Wn_174 : Wc_174.2.2.2 = 74 := Wn_173
def Wc_175 : z_W := z_nw Wc_174 (2, 512)
theorem Wn_175 : Wc_175.2.2.2 = 75 := congrArg (· + 1) Wn_174
def Wc_176 : z_W := z_wr Wc_175 71 2 (z_r 74)
theorem Wn_176 : Wc_176.2.2.2 = 75 := Wn_175
def Wc_177 : z_W := z_nw Wc_176 (2, 512)
theorem Wn_177 : Wc_177.2.2.2 = 76 := congrArg (· + 1) Wn_176
def Wc_178 : z_W := z_wr Wc_177 71 3 (z_r 75)
theorem Wn_178 : Wc_178.2.2.2 = 76 := Wn_177
def Wc_179 : z_W := z_wr Wc_178 71 4 (.inl 0)
theorem Wn_179 : Wc_179.2.2.2 = 76 := Wn_178
theorem ci_170_Bulks_init : z_Run (zg 1 4 2048) zm_Bulks_init [z_r 71] Wc_170 (zq none Wc_179) := by
  refine z_body (by decide) zf_Bulks_ok (Nat.le_of_ble_eq_true rfl) (fun X M => ?_)
  show z_G X zm_Bulks_init (0, [(0, z_r 71)], [], Wc_170, 0, 0)
  refine z_go2 M.1 0 [(.aload_n 0, 1)] (1, [(0, z_r 71)], [z_r 71], Wc_170, 0, 0) (by decide +kernel) rfl ⟨trivial, trivial⟩ ?_
  refine z_objInit (idx := 3) M.1 (by decide +kernel) M.2.1 (z_wi 451 (by decide +kernel) rfl) (z_wi 108 (by decide +kernel) rfl) (z_wi 109 (by decide +kernel) rfl) rfl (by decide) (by decide) (Nat.le_of_ble_eq_true rfl) ?_
  refine z_go2 M.1 4 [(.aload_n 0, 1), (.sipush 512, 3)] (8, [(0, z_r 71)], [.inl 512, z_r 71], Wc_170, 0, 0) (by decide +kernel) rfl ⟨trivial, trivial, trivial⟩ ?_
  refine z_newaC (n := 72) (aty := .int) (N := 512) (w' := Wc_171) (by decide) Wn_170 rfl M.1 (by decide +kernel) M.2.1 (z_wi 158 (by decide +kernel) rfl) (by decide) (by decide) (by decide) (by decide) (by decide) ?_
  refine z_putFC (idx := 9) (ci := 0) (j := 0) (kd := 1) (w' := Wc_172) rfl M.1 (by decide +kernel) (by decide) rfl (fun r h => by injection h with h; subst h; rfl) (by decide +kernel) trivial ?_
  refine z_go2 M.1 13 [(.aload_n 0, 1), (.sipush 512, 3)] (17, [(0, z_r 71)], [.inl 512, z_r 71], Wc_172, 1, 512) (by decide +kernel) rfl ⟨trivial, trivial, trivial⟩ ?_
  refine z_newaC (n := 73) (aty := .int) (N := 512) (w' := Wc_173) (by decide) Wn_172 rfl M.1 (by decide +kernel) M.2.1 (z_wi 158 (by decide +kernel) rfl) (by decide) (by decide) (by decide) (by decide) (by decide) ?_
  refine z_putFC (idx := 15) (ci := 0) (j := 1) (kd := 1) (w' := Wc_174) rfl M.1 (by decide +kernel) (by decide) rfl (fun r h => by injection h with h; subst h; rfl) (by decide +kernel) trivial ?_
  refine z_go2 M.1 22 [(.aload_n 0, 1), (.sipush 512, 3)] (26, [(0, z_r 71)], [.inl 512, z_r 71], Wc_174, 2, 1024) (by decide +kernel) rfl ⟨trivial, trivial, trivial⟩ ?_
  refine z_newaC (n := 74) (aty := .int) (N := 512) (w' := Wc_175) (by decide) Wn_174 rfl M.1 (by decide +kernel) M.2.1 (z_wi 158 (by decide +kernel) rfl) (by decide) (by decide) (by decide) (by decide) (by decide) ?_
  refine z_putFC (idx := 18) (ci := 0) (j := 2) (kd := 1) (w' := Wc_176) rfl M.1 (by decide +kernel) (by decide) rfl (fun r h => by injection h with h; subst h; rfl) (by decide +kernel) trivial ?_
  refine z_go2 M.1 31 [(.aload_n 0, 1), (.sipush 512, 3)] (35, [(0, z_r 71)], [.inl 512, z_r 71], Wc_176, 3, 1536) (by decide +kernel) rfl ⟨trivial, trivial, trivial⟩ ?_
  refine z_newaC (n := 75) (aty := .int) (N := 512) (w' := Wc_177) (by decide) Wn_176 rfl M.1 (by decide +kernel) M.2.1 (z_wi 158 (by decide +kernel) rfl) (by decide) (by decide) (by decide) (by decide) (by decide) ?_
  refine z_putFC (idx := 21) (ci := 0) (j := 3) (kd := 1) (w' := Wc_178) rfl M.1 (by decide +kernel) (by decide) rfl (fun r h => by injection h with h; subst h; rfl) (by decide +kernel) trivial ?_
  refine z_go2 M.1 40 [(.aload_n 0, 1), (.iconst 0, 1)] (42, [(0, z_r 71)], [.inl 0, z_r 71], Wc_178, 4, 2048) (by decide +kernel) rfl ⟨trivial, trivial, trivial⟩ ?_
  refine z_putC (idx := 24) (ci := 0) (j := 4) (kd := 0) (w' := Wc_179) rfl M.1 (by decide +kernel) (by decide) (by decide +kernel) trivial ?_
  exact z_vret M (by decide +kernel) rfl (by decide) (by decide) ⟨rfl, rfl⟩
def Wc_180 : z_W := z_wr Wc_179 0 11 (z_r 71)
theorem Wn_180 : Wc_180.2.2.2 = 76 := Wn_179
def Wc_181 : z_W := z_nw Wc_180 (2, 8)
theorem Wn_181 : Wc_181.2.2.2 = 77 := congrArg (· + 1) Wn_180
def Wc_182 : z_W := z_wr Wc_181 0 12 (z_r 76)
theorem Wn_182 : Wc_182.2.2.2 = 77 := Wn_181
def Wc_183 : z_W := z_nw Wc_182 (2, 8)
theorem Wn_183 : Wc_183.2.2.2 = 78 := congrArg (· + 1) Wn_182
def Wc_184 : z_W := z_wr Wc_183 0 13 (z_r 77)
theorem Wn_184 : Wc_184.2.2.2 = 78 := Wn_183
def Wc_185 : z_W := z_wr Wc_184 0 14 (.inl 0)
theorem Wn_185 : Wc_185.2.2.2 = 78 := Wn_184
def Wc_186 : z_W := z_wr Wc_185 0 15 (.inl 0)
theorem Wn_186 : Wc_186.2.2.2 = 78 := Wn_185
theorem ci_1_T_init : z_Run (zg 4 77 10966) zm_T_init [z_r 0] Wc_1 (zq none Wc_186) := by
  refine z_body (by decide) zf_T_ok (Nat.le_of_ble_eq_true rfl) (fun X M => ?_)
  show z_G X zm_T_init (0, [(0, z_r 0)], [], Wc_1, 0, 0)
  refine z_go2 M.1 0 [(.aload_n 0, 1)] (1, [(0, z_r 0)], [z_r 0], Wc_1, 0, 0) (by decide +kernel) rfl ⟨trivial, trivial⟩ ?_
  refine z_objInit (idx := 3) M.1 (by decide +kernel) M.2.1 (z_wi 107 (by decide +kernel) rfl) (z_wi 108 (by decide +kernel) rfl) (z_wi 109 (by decide +kernel) rfl) rfl (by decide) (by decide) (Nat.le_of_ble_eq_true rfl) ?_
  refine z_go2 M.1 4 [(.aload_n 0, 1)] (5, [(0, z_r 0)], [z_r 0], Wc_1, 0, 0) (by decide +kernel) rfl ⟨trivial, trivial⟩ ?_
  refine z_newC (idx := 9) (n := 1) (ci := 4) (r := (RX4, TX4, 8)) (w' := Wc_2) Wn_1 rfl M.1 (by decide +kernel) M.2.1 rfl (z_wi 110 (by decide +kernel) rfl) (z_wi 111 (by decide +kernel) rfl) (z_wi 81 (by decide +kernel) rfl) (by decide) (by decide) ?_
  refine z_go2 M.1 8 [(.dup, 1)] (9, [(0, z_r 0)], [z_r 1, z_r 1, z_r 0], Wc_2, 1, 8) (by decide +kernel) rfl ⟨rfl, trivial⟩ ?_
  refine z_callI M.1 (av := []) (st := [z_r 1, z_r 0]) (a := 1) (by decide +kernel) ci_2_Log_init M.2.1 zl_T_11 rfl rfl zi_Log_init ⟨by decide, by decide, by decide, by decide⟩ rfl (Nat.le_of_ble_eq_true rfl) (fun v w' hv => ?_)
  obtain ⟨rfl, rfl⟩ := hv
  show z_G X zm_T_init (12, [(0, z_r 0)], [z_r 1, z_r 0], Wc_17, 8, 6308)
  refine z_putFC (idx := 12) (ci := 11) (j := 0) (kd := 1) (w' := Wc_18) rfl M.1 (by decide +kernel) (by decide) rfl (fun r h => by injection h with h; subst h; rfl) (by decide +kernel) trivial ?_
  refine z_go2 M.1 15 [(.aload_n 0, 1)] (16, [(0, z_r 0)], [z_r 0], Wc_18, 8, 6308) (by decide +kernel) rfl ⟨trivial, trivial⟩ ?_
  refine z_newC (idx := 16) (n := 9) (ci := 10) (r := (RX10, TX10, 4)) (w' := Wc_19) Wn_18 rfl M.1 (by decide +kernel) M.2.1 rfl (z_wi 159 (by decide +kernel) rfl) (z_wi 160 (by decide +kernel) rfl) (z_wi 82 (by decide +kernel) rfl) (by decide) (by decide) ?_
  refine z_go2 M.1 19 [(.dup, 1)] (20, [(0, z_r 0)], [z_r 9, z_r 9, z_r 0], Wc_19, 9, 6312) (by decide +kernel) rfl ⟨rfl, trivial⟩ ?_
  refine z_callI M.1 (av := []) (st := [z_r 9, z_r 0]) (a := 9) (by decide +kernel) ci_19_World_init M.2.1 zl_T_18 rfl rfl zi_World_init ⟨by decide, by decide, by decide, by decide⟩ rfl (Nat.le_of_ble_eq_true rfl) (fun v w' hv => ?_)
  obtain ⟨rfl, rfl⟩ := hv
  show z_G X zm_T_init (23, [(0, z_r 0)], [z_r 9, z_r 0], Wc_26, 12, 6726)
  refine z_putFC (idx := 19) (ci := 11) (j := 1) (kd := 1) (w' := Wc_27) rfl M.1 (by decide +kernel) (by decide) rfl (fun r h => by injection h with h; subst h; rfl) (by decide +kernel) trivial ?_
  refine z_go2 M.1 26 [(.aload_n 0, 1)] (27, [(0, z_r 0)], [z_r 0], Wc_27, 12, 6726) (by decide +kernel) rfl ⟨trivial, trivial⟩ ?_
  refine z_newC (idx := 16) (n := 13) (ci := 10) (r := (RX10, TX10, 4)) (w' := Wc_28) Wn_27 rfl M.1 (by decide +kernel) M.2.1 rfl (z_wi 159 (by decide +kernel) rfl) (z_wi 160 (by decide +kernel) rfl) (z_wi 82 (by decide +kernel) rfl) (by decide) (by decide) ?_
  refine z_go2 M.1 30 [(.dup, 1)] (31, [(0, z_r 0)], [z_r 13, z_r 13, z_r 0], Wc_28, 13, 6730) (by decide +kernel) rfl ⟨rfl, trivial⟩ ?_
  refine z_callI M.1 (av := []) (st := [z_r 13, z_r 0]) (a := 13) (by decide +kernel) ci_28_World_init M.2.1 zl_T_18 rfl rfl zi_World_init ⟨by decide, by decide, by decide, by decide⟩ rfl (Nat.le_of_ble_eq_true rfl) (fun v w' hv => ?_)
  obtain ⟨rfl, rfl⟩ := hv
  show z_G X zm_T_init (34, [(0, z_r 0)], [z_r 13, z_r 0], Wc_35, 16, 7144)
  refine z_putFC (idx := 23) (ci := 11) (j := 2) (kd := 1) (w' := Wc_36) rfl M.1 (by decide +kernel) (by decide) rfl (fun r h => by injection h with h; subst h; rfl) (by decide +kernel) trivial ?_
  refine z_go2 M.1 37 [(.aload_n 0, 1)] (38, [(0, z_r 0)], [z_r 0], Wc_36, 16, 7144) (by decide +kernel) rfl ⟨trivial, trivial⟩ ?_
  refine z_newC (idx := 26) (n := 17) (ci := 1) (r := (RX1, TX1, 4)) (w' := Wc_37) Wn_36 rfl M.1 (by decide +kernel) M.2.1 rfl (z_wi 179 (by decide +kernel) rfl) (z_wi 180 (by decide +kernel) rfl) (z_wi 83 (by decide +kernel) rfl) (by decide) (by decide) ?_
  refine z_go2 M.1 41 [(.dup, 1)] (42, [(0, z_r 0)], [z_r 17, z_r 17, z_r 0], Wc_37, 17, 7148) (by decide +kernel) rfl ⟨rfl, trivial⟩ ?_
  refine z_callI M.1 (av := []) (st := [z_r 17, z_r 0]) (a := 17) (by decide +kernel) ci_37_Finder_init M.2.1 zl_T_28 rfl rfl zi_Finder_init ⟨by decide, by decide, by decide, by decide⟩ rfl (Nat.le_of_ble_eq_true rfl) (fun v w' hv => ?_)
  obtain ⟨rfl, rfl⟩ := hv
  show z_G X zm_T_init (45, [(0, z_r 0)], [z_r 17, z_r 0], Wc_126, 53, 8566)
  refine z_putFC (idx := 29) (ci := 11) (j := 3) (kd := 1) (w' := Wc_127) rfl M.1 (by decide +kernel) (by decide) rfl (fun r h => by injection h with h; subst h; rfl) (by decide +kernel) trivial ?_
  refine z_go2 M.1 48 [(.aload_n 0, 1), (.aload_n 0, 1)] (50, [(0, z_r 0)], [z_r 0, z_r 0], Wc_127, 53, 8566) (by decide +kernel) rfl ⟨trivial, trivial, trivial⟩ ?_
  refine z_getRC (idx := 29) (ci := 11) (j := 3) (kd := 5) (r := 17) M.1 (by decide +kernel) (by decide) (by decide) (by decide +kernel) (by decide +kernel) ?_
  refine z_getRC (idx := 33) (ci := 1) (j := 1) (kd := 5) (r := 19) M.1 (by decide +kernel) (by decide) (by decide) (by decide +kernel) (by decide +kernel) ?_
  refine z_putFC (idx := 37) (ci := 11) (j := 4) (kd := 1) (w' := Wc_128) rfl M.1 (by decide +kernel) (by decide) rfl (fun r h => by injection h with h; subst h; rfl) (by decide +kernel) trivial ?_
  refine z_go2 M.1 59 [(.aload_n 0, 1), (.aload_n 0, 1)] (61, [(0, z_r 0)], [z_r 0, z_r 0], Wc_128, 53, 8566) (by decide +kernel) rfl ⟨trivial, trivial, trivial⟩ ?_
  refine z_getRC (idx := 29) (ci := 11) (j := 3) (kd := 5) (r := 17) M.1 (by decide +kernel) (by decide) (by decide) (by decide +kernel) (by decide +kernel) ?_
  refine z_getRC (idx := 38) (ci := 1) (j := 2) (kd := 5) (r := 27) M.1 (by decide +kernel) (by decide) (by decide) (by decide +kernel) (by decide +kernel) ?_
  refine z_putFC (idx := 42) (ci := 11) (j := 5) (kd := 1) (w' := Wc_129) rfl M.1 (by decide +kernel) (by decide) rfl (fun r h => by injection h with h; subst h; rfl) (by decide +kernel) trivial ?_
  refine z_go2 M.1 70 [(.aload_n 0, 1), (.aload_n 0, 1)] (72, [(0, z_r 0)], [z_r 0, z_r 0], Wc_129, 53, 8566) (by decide +kernel) rfl ⟨trivial, trivial, trivial⟩ ?_
  refine z_getRC (idx := 29) (ci := 11) (j := 3) (kd := 5) (r := 17) M.1 (by decide +kernel) (by decide) (by decide) (by decide +kernel) (by decide +kernel) ?_
  refine z_getRC (idx := 43) (ci := 1) (j := 3) (kd := 5) (r := 36) M.1 (by decide +kernel) (by decide) (by decide) (by decide +kernel) (by decide +kernel) ?_
  refine z_putFC (idx := 47) (ci := 11) (j := 6) (kd := 1) (w' := Wc_130) rfl M.1 (by decide +kernel) (by decide) rfl (fun r h => by injection h with h; subst h; rfl) (by decide +kernel) trivial ?_
  refine z_go2 M.1 81 [(.aload_n 0, 1), (.aload_n 0, 1)] (83, [(0, z_r 0)], [z_r 0, z_r 0], Wc_130, 53, 8566) (by decide +kernel) rfl ⟨trivial, trivial, trivial⟩ ?_
  refine z_getRC (idx := 47) (ci := 11) (j := 6) (kd := 5) (r := 36) M.1 (by decide +kernel) (by decide) (by decide) (by decide +kernel) (by decide +kernel) ?_
  refine z_getRC (idx := 48) (ci := 8) (j := 6) (kd := 5) (r := 43) M.1 (by decide +kernel) (by decide) (by decide) (by decide +kernel) (by decide +kernel) ?_
  refine z_putFC (idx := 54) (ci := 11) (j := 7) (kd := 1) (w' := Wc_131) rfl M.1 (by decide +kernel) (by decide) rfl (fun r h => by injection h with h; subst h; rfl) (by decide +kernel) trivial ?_
  refine z_go2 M.1 92 [(.aload_n 0, 1)] (93, [(0, z_r 0)], [z_r 0], Wc_131, 53, 8566) (by decide +kernel) rfl ⟨trivial, trivial⟩ ?_
  refine z_newC (idx := 55) (n := 54) (ci := 2) (r := (RX2, TX2, 5)) (w' := Wc_132) Wn_131 rfl M.1 (by decide +kernel) M.2.1 rfl (z_wi 363 (by decide +kernel) rfl) (z_wi 364 (by decide +kernel) rfl) (z_wi 89 (by decide +kernel) rfl) (by decide) (by decide) ?_
  refine z_go2 M.1 96 [(.dup, 1)] (97, [(0, z_r 0)], [z_r 54, z_r 54, z_r 0], Wc_132, 54, 8571) (by decide +kernel) rfl ⟨rfl, trivial⟩ ?_
  refine z_callI M.1 (av := []) (st := [z_r 54, z_r 0]) (a := 54) (by decide +kernel) ci_132_Flows_init M.2.1 zl_T_57 rfl rfl zi_Flows_init ⟨by decide, by decide, by decide, by decide⟩ rfl (Nat.le_of_ble_eq_true rfl) (fun v w' hv => ?_)
  obtain ⟨rfl, rfl⟩ := hv
  show z_G X zm_T_init (100, [(0, z_r 0)], [z_r 54, z_r 0], Wc_142, 58, 8777)
  refine z_putFC (idx := 58) (ci := 11) (j := 8) (kd := 1) (w' := Wc_143) rfl M.1 (by decide +kernel) (by decide) rfl (fun r h => by injection h with h; subst h; rfl) (by decide +kernel) trivial ?_
  refine z_go2 M.1 103 [(.aload_n 0, 1)] (104, [(0, z_r 0)], [z_r 0], Wc_143, 58, 8777) (by decide +kernel) rfl ⟨trivial, trivial⟩ ?_
  refine z_newC (idx := 62) (n := 59) (ci := 7) (r := (RX7, TX7, 9)) (w' := Wc_144) Wn_143 rfl M.1 (by decide +kernel) M.2.1 rfl (z_wi 389 (by decide +kernel) rfl) (z_wi 390 (by decide +kernel) rfl) (z_wi 90 (by decide +kernel) rfl) (by decide) (by decide) ?_
  refine z_go2 M.1 107 [(.dup, 1)] (108, [(0, z_r 0)], [z_r 59, z_r 59, z_r 0], Wc_144, 59, 8786) (by decide +kernel) rfl ⟨rfl, trivial⟩ ?_
  refine z_callI M.1 (av := []) (st := [z_r 59, z_r 0]) (a := 59) (by decide +kernel) ci_144_Rules_init M.2.1 zl_T_64 rfl rfl zi_Rules_init ⟨by decide, by decide, by decide, by decide⟩ rfl (Nat.le_of_ble_eq_true rfl) (fun v w' hv => ?_)
  obtain ⟨rfl, rfl⟩ := hv
  show z_G X zm_T_init (111, [(0, z_r 0)], [z_r 59, z_r 0], Wc_161, 67, 8834)
  refine z_putFC (idx := 65) (ci := 11) (j := 9) (kd := 1) (w' := Wc_162) rfl M.1 (by decide +kernel) (by decide) rfl (fun r h => by injection h with h; subst h; rfl) (by decide +kernel) trivial ?_
  refine z_go2 M.1 114 [(.aload_n 0, 1)] (115, [(0, z_r 0)], [z_r 0], Wc_162, 67, 8834) (by decide +kernel) rfl ⟨trivial, trivial⟩ ?_
  refine z_newC (idx := 69) (n := 68) (ci := 6) (r := (RX6, TX6, 3)) (w' := Wc_163) Wn_162 rfl M.1 (by decide +kernel) M.2.1 rfl (z_wi 430 (by decide +kernel) rfl) (z_wi 431 (by decide +kernel) rfl) (z_wi 91 (by decide +kernel) rfl) (by decide) (by decide) ?_
  refine z_go2 M.1 118 [(.dup, 1)] (119, [(0, z_r 0)], [z_r 68, z_r 68, z_r 0], Wc_163, 68, 8837) (by decide +kernel) rfl ⟨rfl, trivial⟩ ?_
  refine z_callI M.1 (av := []) (st := [z_r 68, z_r 0]) (a := 68) (by decide +kernel) ci_163_Ranks_init M.2.1 zl_T_71 rfl rfl zi_Ranks_init ⟨by decide, by decide, by decide, by decide⟩ rfl (Nat.le_of_ble_eq_true rfl) (fun v w' hv => ?_)
  obtain ⟨rfl, rfl⟩ := hv
  show z_G X zm_T_init (122, [(0, z_r 0)], [z_r 68, z_r 0], Wc_168, 70, 8897)
  refine z_putFC (idx := 72) (ci := 11) (j := 10) (kd := 1) (w' := Wc_169) rfl M.1 (by decide +kernel) (by decide) rfl (fun r h => by injection h with h; subst h; rfl) (by decide +kernel) trivial ?_
  refine z_go2 M.1 125 [(.aload_n 0, 1)] (126, [(0, z_r 0)], [z_r 0], Wc_169, 70, 8897) (by decide +kernel) rfl ⟨trivial, trivial⟩ ?_
  refine z_newC (idx := 76) (n := 71) (ci := 0) (r := (RX0, TX0, 5)) (w' := Wc_170) Wn_169 rfl M.1 (by decide +kernel) M.2.1 rfl (z_wi 446 (by decide +kernel) rfl) (z_wi 447 (by decide +kernel) rfl) (z_wi 92 (by decide +kernel) rfl) (by decide) (by decide) ?_
  refine z_go2 M.1 129 [(.dup, 1)] (130, [(0, z_r 0)], [z_r 71, z_r 71, z_r 0], Wc_170, 71, 8902) (by decide +kernel) rfl ⟨rfl, trivial⟩ ?_
  refine z_callI M.1 (av := []) (st := [z_r 71, z_r 0]) (a := 71) (by decide +kernel) ci_170_Bulks_init M.2.1 zl_T_78 rfl rfl zi_Bulks_init ⟨by decide, by decide, by decide, by decide⟩ rfl (Nat.le_of_ble_eq_true rfl) (fun v w' hv => ?_)
  obtain ⟨rfl, rfl⟩ := hv
  show z_G X zm_T_init (133, [(0, z_r 0)], [z_r 71, z_r 0], Wc_179, 75, 10950)
  refine z_putFC (idx := 79) (ci := 11) (j := 11) (kd := 1) (w' := Wc_180) rfl M.1 (by decide +kernel) (by decide) rfl (fun r h => by injection h with h; subst h; rfl) (by decide +kernel) trivial ?_
  refine z_go2 M.1 136 [(.aload_n 0, 1), (.bipush 8, 2)] (139, [(0, z_r 0)], [.inl 8, z_r 0], Wc_180, 75, 10950) (by decide +kernel) rfl ⟨trivial, trivial, trivial⟩ ?_
  refine z_newaC (n := 76) (aty := .int) (N := 8) (w' := Wc_181) (by decide) Wn_180 rfl M.1 (by decide +kernel) M.2.1 (z_wi 158 (by decide +kernel) rfl) (by decide) (by decide) (by decide) (by decide) (by decide) ?_
  refine z_putFC (idx := 83) (ci := 11) (j := 12) (kd := 1) (w' := Wc_182) rfl M.1 (by decide +kernel) (by decide) rfl (fun r h => by injection h with h; subst h; rfl) (by decide +kernel) trivial ?_
  refine z_go2 M.1 144 [(.aload_n 0, 1), (.bipush 8, 2)] (147, [(0, z_r 0)], [.inl 8, z_r 0], Wc_182, 76, 10958) (by decide +kernel) rfl ⟨trivial, trivial, trivial⟩ ?_
  refine z_newaC (n := 77) (aty := .int) (N := 8) (w' := Wc_183) (by decide) Wn_182 rfl M.1 (by decide +kernel) M.2.1 (z_wi 158 (by decide +kernel) rfl) (by decide) (by decide) (by decide) (by decide) (by decide) ?_
  refine z_putFC (idx := 87) (ci := 11) (j := 13) (kd := 1) (w' := Wc_184) rfl M.1 (by decide +kernel) (by decide) rfl (fun r h => by injection h with h; subst h; rfl) (by decide +kernel) trivial ?_
  refine z_go2 M.1 152 [(.aload_n 0, 1), (.iconst 0, 1)] (154, [(0, z_r 0)], [.inl 0, z_r 0], Wc_184, 77, 10966) (by decide +kernel) rfl ⟨trivial, trivial, trivial⟩ ?_
  refine z_putC (idx := 90) (ci := 11) (j := 14) (kd := 0) (w' := Wc_185) rfl M.1 (by decide +kernel) (by decide) (by decide +kernel) trivial ?_
  refine z_go2 M.1 157 [(.aload_n 0, 1), (.iconst 0, 1)] (159, [(0, z_r 0)], [.inl 0, z_r 0], Wc_185, 77, 10966) (by decide +kernel) rfl ⟨trivial, trivial, trivial⟩ ?_
  refine z_putC (idx := 94) (ci := 11) (j := 15) (kd := 0) (w' := Wc_186) rfl M.1 (by decide +kernel) (by decide) (by decide +kernel) trivial ?_
  exact z_vret M (by decide +kernel) rfl (by decide) (by decide) ⟨rfl, rfl⟩
def Wc_187 : z_W := z_nw Wc_186 (2, 60)
theorem Wn_187 : Wc_187.2.2.2 = 79 := congrArg (· + 1) Wn_186
def Wc_188 : z_W := z_nw Wc_187 (2, 30)
theorem Wn_188 : Wc_188.2.2.2 = 80 := congrArg (· + 1) Wn_187
def Wc_189 : z_W := z_nw Wc_188 (2, 6)
theorem Wn_189 : Wc_189.2.2.2 = 81 := congrArg (· + 1) Wn_188
def Wc_190 : z_W := z_nw Wc_189 (2, 10)
theorem Wn_190 : Wc_190.2.2.2 = 82 := congrArg (· + 1) Wn_189
def Wc_191 : z_W := z_nw Wc_190 (2, 3)
theorem Wn_191 : Wc_191.2.2.2 = 83 := congrArg (· + 1) Wn_190
def Wc_192 : z_W := z_nw Wc_191 (2, 60)
theorem Wn_192 : Wc_192.2.2.2 = 84 := congrArg (· + 1) Wn_191
def Wc_193 : z_W := z_nw Wc_192 (2, 18)
theorem Wn_193 : Wc_193.2.2.2 = 85 := congrArg (· + 1) Wn_192
