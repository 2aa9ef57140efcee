/-! THE LAW's OWN METHODS, along the one run -/
abbrev zbX (X : z_X) : z_B := X.2.2.2.2.2.2.2.2.2.2.2.2.2.2
section Z70
variable {X : z_X} {Y : z_Y} {pc nc ns idx : Nat} {lv : List (Nat × z_V)} {st : List z_V} {w : z_W}
theorem z_sld {i v : Int32} (C : z_C X Y) (hd : decode Y.2.1 pc = .ok (.iaload, 1)) (hin : vp_in i (zbX X).2.1) (hv : (zbX X).2.2 i.toNatClampNeg = v) (k : z_G X Y (pc + 1, lv, .inl v :: st, w, nc, ns)) : z_G X Y (pc, lv, .inl i :: z_s :: st, w, nc, ns) := by
  obtain ⟨p, l, e, R, s, m, args, below, meth, c, Q, D, cA, N0, b⟩ := X
  obtain ⟨y0, bs, nL, ret, ft⟩ := Y
  obtain ⟨hx, hb, hml, hown, hts, henv, hlk, hrt, hnm, hft, htr, hN0⟩ := C
  intro H locs ls hR hS hl
  subst hv
  exact va_ti hx hb henv.2.2.2.2.2.2 hS hin rfl hd (k H locs ls hR hS hl)
theorem z_slen {v : Int32} (C : z_C X Y) (hd : decode Y.2.1 pc = .ok (.arraylength, 1)) (hv : Int32.ofNat (zbX X).2.1 = v) (k : z_G X Y (pc + 1, lv, .inl v :: st, w, nc, ns)) : z_G X Y (pc, lv, z_s :: st, w, nc, ns) := by
  obtain ⟨p, l, e, R, s, m, args, below, meth, c, Q, D, cA, N0, b⟩ := X
  obtain ⟨y0, bs, nL, ret, ft⟩ := Y
  obtain ⟨hx, hb, hml, hown, hts, henv, hlk, hrt, hnm, hft, htr, hN0⟩ := C
  intro H locs ls hR hS hl
  exact va_tlen hx hb henv.2.2.2.2.2.2 hS hv hd (k H locs ls hR hS hl)
theorem z_ldc {x : Int32} (C : z_C X Y) (hd : decode Y.2.1 pc = .ok (.ldc idx, 2)) (hw : Cond.constant Y.1.cls idx x ∈ z_WB) (k : z_G X Y (pc + 2, lv, .inl x :: st, w, nc, ns)) : z_G X Y (pc, lv, st, w, nc, ns) := by
  obtain ⟨p, l, e, R, s, m, args, below, meth, c, Q, D, cA, N0, b⟩ := X
  obtain ⟨y0, bs, nL, ret, ft⟩ := Y
  obtain ⟨hx, hb, hml, hown, hts, henv, hlk, hrt, hnm, hft, htr, hN0⟩ := C
  intro H locs ls hR hS hl
  exact lv_ldc hx hb hown (hts _ hw) hd (k H locs ls hR hS hl)
end Z70
/-- a contract that speaks of one script -/
def z_RunB (b : z_B) (rm : Room) (Y : z_Y) (av : List z_V) (w : z_W) (Post : Option z_V → z_W → Prop) : Prop :=
  ∀ (l : Launch) (D : va_G) (cA : Nat → ClassId) (N0 : Nat), l.stackTraces = false → Met l Y.1 (z_wsY Y) rm (z_Pc D cA N0 b av w) (z_Qc D cA N0 b Post) rm.cells rm.slots (fun q => N0 ≤ q)
theorem z_bodyB {b : z_B} {rm : Room} {Y : z_Y} {av : List z_V} {w : z_W} {Post : Option z_V → z_W → Prop} (hy : plainName Y.1.cls = true) (hft : ∀ q ∈ Y.2.2.2.2, z_fok Y.1.cls q) (hn : (av.map z_ct).sum ≤ Y.2.2.1)
    (hb : ∀ X : z_X, zbX X = b → z_M X Y rm Post → z_G X Y (0, z_args 0 av, [], w, 0, 0)) : z_RunB b rm Y av w Post := by
  intro l D cA N0 htr
  obtain ⟨y, bs, nL, ret, ft⟩ := Y
  refine Met.ofW (cc := bs) (maxL := nL) (ret := ret) hy rfl ?_
  intro p e s m args below meth c s₁ B hml hv
  obtain ⟨rfl, henv, hrep⟩ := hv
  have hts := atoms_spec (ws := z_wsY (y, bs, nL, ret, ft)) B.pre
  have hl := lv_entry (av.map (z_c N0 b)) (n := nL) (by rw [z_sl_len]; exact hn)
  rw [z_args_eq] at hl
  rw [lg_entry_eq]
  refine hb (p, l, e, rm, s, m, (av.map (z_c N0 b)).toArray, below, meth, c, MQ below (z_Qc D cA N0 b Post) (av.map (z_c N0 b)).toArray s rm.cells rm.slots (fun q => N0 ≤ q), D, cA, N0, b) rfl
    ⟨⟨B.exec, B.bytes, hml, findClass_of_methodNamed B.named, fun w h => hts w (List.mem_cons_of_mem _ h), henv, B.notSynchronized, B.returns, (name_of_methodNamed B.named B.method).1, hft, htr, by have := hrep.1; omega⟩, rfl, fun H locs g k => k⟩ s.heap [] _ hrep va_S.rf hl
section Z70B
variable {X : z_X} {Y Y' : z_Y} {pc nc ns idx : Nat} {lv : List (Nat × z_V)} {st stk av : List z_V} {w : z_W} {rm rm' : Room} {Post : Option z_V → z_W → Prop}
theorem z_callSB {b0 : z_B} (C : z_C X Y) (hd : decode Y.2.1 pc = .ok (.invokestatic idx, 3)) (hB : zbX X = b0) (hrun : z_RunB b0 rm' Y' av w Post) (hrm : X.2.2.2.1 = rm) (hk : z_lk Y.1.cls idx Y' av.length) (hst9 : Cond.static Y'.1 ∈ z_WB) (hf : z_fit rm rm' Y' nc ns) (hstk : stk = av.reverse ++ st) (h8 : (st.map z_ct).sum ≤ 8)
    (kk : ∀ v w', Post v w' → z_G X Y (pc + 3, lv, v.toList ++ st, w', nc + rm'.cells, ns + rm'.slots)) : z_G X Y (pc, lv, stk, w, nc, ns) := by
  obtain ⟨p, l, e, R, s, m, args, below, meth, c, Q, D, cA, N0, b⟩ := X
  obtain ⟨y0, bs, nL, ret, ft⟩ := Y
  obtain ⟨y1, bs1, nL1, ret1, ft1⟩ := Y'
  obtain ⟨hx, hb, hml, hown, hts, henv, hlk, hrt, hnm, hft, htr, hN0⟩ := C
  cases hB
  intro H locs ls hR hS hl
  cases hrm
  subst hstk
  obtain ⟨hcode, hini, hy, hn, hl2⟩ := hk
  obtain ⟨f1, f2, f3, f4⟩ := hf
  have hpre := z_pre (p := p) (l := l) (e := e) (R := R) (m := m) (args := args) (b := b) (av := av) henv hR hS
  have hn2 : ∀ sig, parseMethodDescriptor y1.desc = some sig → av.length = sig.parameters.length := fun sig h => by
    rw [h] at hn; exact (Option.some.inj hn).symm
  have hlen : (av.map (z_c N0 b)).length = av.length := List.length_map ..
  have hstack : ((av.reverse ++ st).map (z_c N0 b)) = (av.map (z_c N0 b)).reverse ++ st.map (z_c N0 b) := by rw [List.map_append, List.map_reverse]
  have h88 : ((st.map (z_c N0 b)).map fun v => v.category).sum ≤ 8 := by rw [z_cat]; exact h8
  have kk' : ∀ (v : Option z_V) (w' : z_W) (H1 : Heap) (locs1 : List Loc), Post v w' → z_rep D cA N0 w' H1 → va_S (fun q => N0 ≤ q) s.heap H1 locs1 → W p l e R s m args below meth c H1 locs1 (nc + rm'.cells) (ns + rm'.slots) Q (F0 m (pc + 3) ls ((v.map (z_c N0 b)).toList ++ st.map (z_c N0 b))) := by
    intro v w' H1 locs1 h1 h2 h3
    have h9 := kk v w' h1 H1 locs1 ls h2 h3 hl
    cases v <;> exact h9
  rcases hl2 with h1 | ⟨host, h1⟩
  · refine z_cont (rest := st.map (z_c N0 b)) (a := (av.map (z_c N0 b)).toArray) (va_runS (nL := nL) (own := y0.cls) ⟨hx, hb, hml, hown, hts⟩ (hrun l D cA N0 htr) ⟨⟨rfl, rfl, f1, f2, z_good hts hcode, List.mem_cons_self, hts _ hcode, hts _ hini, hy, hn2, hts _ h1⟩, hts _ hst9⟩ hpre rfl hlen hl.1 hstack (lv_room h88) hd ⟨f3, f4⟩) hS kk'
  · refine z_cont (rest := st.map (z_c N0 b)) (a := (av.map (z_c N0 b)).toArray) (va_runSN (nL := nL) (own := y0.cls) ⟨hx, hb, hml, hown, hts⟩ (hrun l D cA N0 htr) ⟨⟨⟨rfl, rfl, f1, f2, z_good hts hcode, List.mem_cons_self⟩, hts _ hcode, hts _ hini, hy, hn2, va_Nw.use rfl (henv.2.2.2.1 _ h1)⟩, hts _ hst9, trivial⟩ hpre rfl hlen hl.1 hstack (lv_room h88) hd ⟨f3, f4⟩) hS kk'
end Z70B
/-! THE LAW's METHODS WITH HANDLERS -/
def z_wsH (Y : z_Y) (hh : List (Nat × Nat × Nat × Nat)) : List Cond := Cond.codeWith Y.1 Y.2.1 Y.2.2.1 Y.2.2.2.1 hh :: z_WB
def z_RunH (rm : Room) (Y : z_Y) (hh : List (Nat × Nat × Nat × Nat)) (av : List z_V) (w : z_W) (Post : Option z_V → z_W → Prop) : Prop :=
  ∀ (l : Launch) (D : va_G) (cA : Nat → ClassId) (N0 : Nat) (b : z_B), l.stackTraces = false → vx_Met l Y.1 (z_wsH Y hh) rm (z_Pc D cA N0 b av w) (z_Qc D cA N0 b Post) (z_XC D cA N0 (fun _ _ => False)) rm.cells rm.slots (fun q => N0 ≤ q)
def z_TB (X : z_X) (hh : List (Nat × Nat × Nat × Nat)) : Prop := X.2.2.2.2.2.2.2.2.2.1.exceptionTable.toList = tableOf hh
theorem z_bodyH {rm : Room} {Y : z_Y} {hh : List (Nat × Nat × Nat × Nat)} {av : List z_V} {w : z_W} {Post : Option z_V → z_W → Prop} (hy : plainName Y.1.cls = true) (hft : ∀ q ∈ Y.2.2.2.2, z_fok Y.1.cls q) (hn : (av.map z_ct).sum ≤ Y.2.2.1)
    (hb : ∀ X : z_X, z_M X Y rm Post → z_TB X hh → z_G X Y (0, z_args 0 av, [], w, 0, 0)) : z_RunH rm Y hh av w Post := by
  intro l D cA N0 b htr
  obtain ⟨y, bs, nL, ret, ft⟩ := Y
  refine vx_ofWH (cc := bs) (maxL := nL) (ret := ret) (hh := hh) hy rfl ?_
  intro p e s m args below meth c s₁ B hml hv
  obtain ⟨rfl, henv, hrep⟩ := hv
  have hts := atoms_spec (ws := z_wsH (y, bs, nL, ret, ft) hh) B.pre
  have htb := vx_table (x := y) B (hts _ List.mem_cons_self)
  have hl := lv_entry (av.map (z_c N0 b)) (n := nL) (by rw [z_sl_len]; exact hn)
  rw [z_args_eq] at hl
  rw [lg_entry_eq]
  exact hb (p, l, e, rm, s, m, (av.map (z_c N0 b)).toArray, below, meth, c, vx_MQ below (z_Qc D cA N0 b Post) (z_XC D cA N0 (fun _ _ => False)) (av.map (z_c N0 b)).toArray s rm.cells rm.slots (fun q => N0 ≤ q), D, cA, N0, b)
    ⟨⟨B.exec, B.bytes, hml, findClass_of_methodNamed B.named, fun w h => hts w (List.mem_cons_of_mem _ h), henv, B.notSynchronized, B.returns, (name_of_methodNamed B.named B.method).1, hft, htr, by have := hrep.1; omega⟩, rfl, fun H locs g k => vx_ret k⟩ htb s.heap [] _ hrep va_S.rf hl
theorem z_catch {X : z_X} {Y : z_Y} {hh : List (Nat × Nat × Nat × Nat)} {pc nc ns : Nat} {lv : List (Nat × z_V)} {st : List z_V} {w : z_W} {E : String} (C : z_C X Y) (TB : z_TB X hh) (pre suf : List (Nat × Nat × Nat × Nat)) (f t h ct : Nat) (hs : hh = pre ++ (f, t, h, ct) :: suf)
    (hp : ∀ z ∈ pre, z.2.2.2 ≠ 0 ∧ ∃ nm, Cond.classLink Y.1.cls z.2.2.2 nm ∈ z_WB ∧ (E, nm) ∈ z_NC) (hcov : covers ⟨f, t, h, ct⟩ pc = true) (h0 : ct ≠ 0) (hl1 : Cond.classLink Y.1.cls ct E ∈ z_WB) (hca : Cond.castable E E ∈ z_NB) {i : Nat}
    (hd : decode Y.2.1 h = .ok (.astore i, 2) ∨ (∃ k : Fin 4, (k : Nat) = i ∧ decode Y.2.1 h = .ok (.astore_n k, 1))) (hi : i < Y.2.2.1) (k : ∀ g, (g = h + 2 ∧ decode Y.2.1 h = .ok (.astore i, 2)) ∨ (g = h + 1 ∧ ∃ k : Fin 4, decode Y.2.1 h = .ok (.astore_n k, 1)) → z_G X Y (g, [], [], w, nc, ns)) : z_GX X Y E (pc, lv, st, w, nc, ns) := by
  obtain ⟨p, l, e, R, s, m, args, below, meth, c, Q, D, cA, N0, b⟩ := X
  obtain ⟨y0, bs, nL, ret, ft⟩ := Y
  obtain ⟨hx, hb, hml, hown, hts, henv, hlk, hrt, hnm, hft, htr, hN0⟩ := C
  intro H locs ls ce q hR hS hl hce hcv hcl
  have hTB : c.exceptionTable.toList = tableOf hh := TB
  refine vx_catch (own := y0.cls) (name := E) (E := E) (ce := ce) hown (tableOf pre) ⟨f, t, h, ct⟩ (tableOf suf) (by rw [hTB, hs]; simp [tableOf]) (fun z hz => ?_) hcov h0 (hts _ hl1) (va_Nw.use rfl (henv.2.2.2.1 _ hca)) hce hcv hcl ?_
  · obtain ⟨z0, hz0, rfl⟩ := List.mem_map.mp hz
    obtain ⟨g1, nm, g2, g3⟩ := hp z0 hz0
    exact Or.inr ⟨g1, nm, hts _ g2, henv.2.2.2.2.2.1 _ g3⟩
  · have weak : ∀ (ls' : Array Slot) (lv' : List (Nat × Value)), lv_has ls' nL lv' → lv_has ls' nL [] := fun ls' lv' h => ⟨h.1, h.2.1, fun q hq => nomatch hq⟩
    rcases hd with hd | ⟨kf, hkf, hd⟩
    · exact lv_astore hx hb hd hl hi rfl (fun ls' h' => k _ (Or.inl ⟨rfl, hd⟩) H locs ls' hR hS (weak _ _ h'))
    · exact lv_astore_n hx hb hd hkf hl hi rfl (fun ls' h' => k _ (Or.inr ⟨rfl, kf, hd⟩) H locs ls' hR hS (weak _ _ h'))
theorem z_goodH {args : Array Value} {s : State} (hts : ∀ w ∈ z_WB, w.before args s = true) {Y' : z_Y} {hh : List (Nat × Nat × Nat × Nat)} (hc : Cond.codeWith Y'.1 Y'.2.1 Y'.2.2.1 Y'.2.2.2.1 hh ∈ z_WB) : ∀ w ∈ z_wsH Y' hh, ∀ (a' : Array Value) (U : State), s.WarmedH U.vm → w.before a' U = true := by
  have h1 : GoodIn z_WB (z_wsH Y' hh) := by
    intro w hw
    have hm : w ∈ z_WB := by
      rcases List.mem_cons.mp hw with h | h
      · rw [h]; exact hc
      · exact h
    exact ⟨hm, good_of_word (List.mem_filter.mp hm).2⟩
  exact pay_in hts h1
theorem z_callH {X : z_X} {Y Y' : z_Y} {hh : List (Nat × Nat × Nat × Nat)} {pc nc ns idx : Nat} {lv : List (Nat × z_V)} {st stk av : List z_V} {w : z_W} {rm rm' : Room} {Post : Option z_V → z_W → Prop} (C : z_C X Y) (hd : decode Y.2.1 pc = .ok (.invokestatic idx, 3)) (hrun : z_RunH rm' Y' hh av w Post) (hrm : X.2.2.2.1 = rm)
    (hcode : Cond.codeWith Y'.1 Y'.2.1 Y'.2.2.1 Y'.2.2.2.1 hh ∈ z_WB) (hini : Cond.initialized Y'.1.cls ∈ z_WB) (hy : Y'.1.cls ≠ "java/lang/invoke/MethodHandle" ∧ Y'.1.cls ≠ "java/lang/invoke/VarHandle") (hn : (parseMethodDescriptor Y'.1.desc).map (fun d => d.parameters.length) = some av.length) (hl9 : Cond.methodLink Y.1.cls idx Y'.1 ∈ z_WB) (hst9 : Cond.static Y'.1 ∈ z_WB) (hf : z_fit rm rm' Y' nc ns) (hstk : stk = av.reverse ++ st) (h8 : (st.map z_ct).sum ≤ 8)
    (kk : ∀ v w', Post v w' → z_G X Y (pc + 3, lv, v.toList ++ st, w', nc + rm'.cells, ns + rm'.slots)) : z_G X Y (pc, lv, stk, w, nc, ns) := by
  obtain ⟨p, l, e, R, s, m, args, below, meth, c, Q, D, cA, N0, b⟩ := X
  obtain ⟨y0, bs, nL, ret, ft⟩ := Y
  obtain ⟨y1, bs1, nL1, ret1, ft1⟩ := Y'
  obtain ⟨hx, hb, hml, hown, hts, henv, hlk, hrt, hnm, hft, htr, hN0⟩ := C
  intro H locs ls hR hS hl
  cases hrm
  subst hstk
  obtain ⟨f1, f2, f3, f4⟩ := hf
  have hpre := z_pre (p := p) (l := l) (e := e) (R := R) (m := m) (args := args) (b := b) (av := av) henv hR hS
  have hn2 : ∀ sig, parseMethodDescriptor y1.desc = some sig → av.length = sig.parameters.length := fun sig h => by
    rw [h] at hn; exact (Option.some.inj hn).symm
  have hlen : (av.map (z_c N0 b)).length = av.length := List.length_map ..
  have hstack : ((av.reverse ++ st).map (z_c N0 b)) = (av.map (z_c N0 b)).reverse ++ st.map (z_c N0 b) := by rw [List.map_append, List.map_reverse]
  have h88 : ((st.map (z_c N0 b)).map fun v => v.category).sum ≤ 8 := by rw [z_cat]; exact h8
  refine z_contX (PX := fun _ _ => False) (rest := st.map (z_c N0 b)) (a := (av.map (z_c N0 b)).toArray) (vx_runSX (hh := hh) (nL := nL) (own := y0.cls) ⟨hx, hb, hml, hown, hts⟩ (hrun l D cA N0 b htr) ⟨⟨rfl, rfl, f1, f2, z_goodH hts hcode, List.mem_cons_self⟩, hts _ hcode, hts _ hini, hy, hn2, hts _ hl9, hts _ hst9⟩ hpre rfl hlen hl.1 hstack (lv_room h88) hd ⟨f3, f4⟩) hS (fun E w' H1 locs1 ce q h1 => h1.elim) ?_
  intro v w' H1 locs1 h1 h2 h3
  have h9 := kk v w' h1 H1 locs1 ls h2 h3 hl
  cases v <;> exact h9

def zLow (v n : Int32) : Int32 := (v &&& 2147483647) - (v &&& 2147483647) / n * n
theorem c_L_low (w : z_W) (v k : Int32) (hk : ¬ k = 0) : z_Run (zr 0) zm_L_low [.inl v, .inl k] w (zq (some (.inl (zLow v k))) w) := by
  refine z_body (by decide) (fun q h => nomatch h) (Nat.le_of_ble_eq_true rfl) (fun X M => ?_)
  show z_G X zm_L_low (0, [(0, .inl v), (1, .inl k)], [], w, 0, 0)
  refine z_go2 M.1 0 [(.iload_n 0, 1)] (1, [(0, .inl v), (1, .inl k)], [.inl v], w, 0, 0) (by decide +kernel) rfl ⟨trivial, trivial⟩ ?_
  refine z_ldc M.1 (idx := 9) (x := 2147483647) (by decide +kernel) (z_wi 1157 (by decide +kernel) rfl) ?_
  refine z_go2 M.1 3 [(.iand, 1), (.iload_n 1, 1), (.irem, 1)] (6, [(0, .inl v), (1, .inl k)], [.inl (zLow v k)], w, 0, 0) (by decide +kernel) rfl ⟨trivial, trivial, hk, trivial⟩ ?_
  exact z_iret M (by decide +kernel) .int rfl rfl (by decide) (by decide) ⟨rfl, rfl⟩
theorem c_L_cell (b : z_B) (w : z_W) (k v len : Int32) (hlen : Int32.ofNat b.2.1 = len) (hin : vp_in k b.2.1) (hlt : ¬ len ≤ k) (hv : b.2.2 k.toNatClampNeg = v) : z_RunB b (zr 0) zm_L_cell [z_s, .inl k] w (zq (some (.inl v)) w) := by
  refine z_bodyB (by decide) (fun q h => nomatch h) (Nat.le_of_ble_eq_true rfl) (fun X hB M => ?_)
  subst hB
  show z_G X zm_L_cell (0, [(0, z_s), (1, .inl k)], [], w, 0, 0)
  refine z_go2 M.1 0 [(.iload_n 1, 1), (.aload_n 0, 1)] (2, [(0, z_s), (1, .inl k)], [z_s, .inl k], w, 0, 0) (by decide +kernel) rfl ⟨trivial, trivial, trivial⟩ ?_
  refine z_slen M.1 (by decide +kernel) hlen ?_
  refine z_icmp_ge 12 M.1 (off := 9) (by decide +kernel) (by decide) (fun c => absurd c hlt) (fun _ => ?_)
  refine z_go2 M.1 6 [(.aload_n 0, 1), (.iload_n 1, 1)] (8, [(0, z_s), (1, .inl k)], [.inl k, z_s], w, 0, 0) (by decide +kernel) rfl ⟨trivial, trivial, trivial⟩ ?_
  refine z_sld M.1 (by decide +kernel) hin hv ?_
  refine z_go2 M.1 9 [(.goto 12, 3)] (21, [(0, z_s), (1, .inl k)], [.inl v], w, 0, 0) (by decide +kernel) rfl ⟨trivial, trivial⟩ ?_
  exact z_iret M (by decide +kernel) .int rfl rfl (by decide) (by decide) ⟨rfl, rfl⟩
theorem c_L_sees (T' : Nat → Nat × Nat) (G' : Nat → Nat → Option Nat) (S : Nat → Nat → Int32) (n : Nat) (h780 : S 78 0 = 0) (h800 : S 80 0 = 15) (h810 : S 81 0 = 0) : z_Run (zr 0) zm_L_sees [z_r 78, z_r 80, z_r 81, .inl 0, .inl 0] (zW T' G' S n) (zq (some (.inl 0)) (zW T' G' S n)) := by
  refine z_body (by decide) (fun q h => nomatch h) (Nat.le_of_ble_eq_true rfl) (fun X M => ?_)
  show z_G X zm_L_sees (0, [(0, z_r 78), (1, z_r 80), (2, z_r 81), (3, .inl 0), (4, .inl 0)], [], zW T' G' S n, 0, 0)
  refine z_go2 M.1 0 [(.bipush 6, 2), (.iload 4, 2), (.imul, 1), (.istore 5, 2), (.aload_n 1, 1), (.iconst 2, 1), (.iload_n 3, 1), (.imul, 1), (.aload_n 0, 1), (.iload 5, 2), (.iaload, 1)] (15, [(5, .inl 0), (0, z_r 78), (1, z_r 80), (2, z_r 81), (3, .inl 0), (4, .inl 0)], [.inl (S 78 0), .inl 0, z_r 80], zW T' G' S n, 0, 0) (by decide +kernel) rfl ⟨trivial, trivial, trivial, trivial, trivial, trivial, trivial, trivial, trivial, trivial, ⟨rfl, (show vp_in 0 60 by unfold vp_in; decide)⟩, trivial⟩ ?_
  rw [show (S 78 0) = 0 from h780]
  refine z_go2 M.1 15 [(.iadd, 1), (.iaload, 1)] (17, [(5, .inl 0), (0, z_r 78), (1, z_r 80), (2, z_r 81), (3, .inl 0), (4, .inl 0)], [.inl (S 80 0)], zW T' G' S n, 0, 0) (by decide +kernel) rfl ⟨trivial, ⟨rfl, (show vp_in 0 6 by unfold vp_in; decide)⟩, trivial⟩ ?_
  rw [show (S 80 0) = 15 from h800]
  refine z_go2 M.1 17 [(.istore 6, 2), (.iload 6, 2), (.aload_n 2, 1), (.iconst 2, 1), (.aload_n 0, 1), (.iload 5, 2), (.iaload, 1)] (27, [(6, .inl 15), (5, .inl 0), (0, z_r 78), (1, z_r 80), (2, z_r 81), (3, .inl 0), (4, .inl 0)], [.inl (S 78 0), .inl 2, z_r 81, .inl 15], zW T' G' S n, 0, 0) (by decide +kernel) rfl ⟨trivial, trivial, trivial, trivial, trivial, trivial, ⟨rfl, (show vp_in 0 60 by unfold vp_in; decide)⟩, trivial⟩ ?_
  rw [show (S 78 0) = 0 from h780]
  refine z_go2 M.1 27 [(.imul, 1), (.iaload, 1)] (29, [(6, .inl 15), (5, .inl 0), (0, z_r 78), (1, z_r 80), (2, z_r 81), (3, .inl 0), (4, .inl 0)], [.inl (S 81 0), .inl 15], zW T' G' S n, 0, 0) (by decide +kernel) rfl ⟨trivial, ⟨rfl, (show vp_in 0 10 by unfold vp_in; decide)⟩, trivial⟩ ?_
  rw [show (S 81 0) = 0 from h810]
  refine z_go2 M.1 29 [(.iand, 1)] (30, [(6, .inl 15), (5, .inl 0), (0, z_r 78), (1, z_r 80), (2, z_r 81), (3, .inl 0), (4, .inl 0)], [.inl 0], zW T' G' S n, 0, 0) (by decide +kernel) rfl ⟨trivial, trivial⟩ ?_
  refine z_if_eq 62 M.1 (off := 32) (by decide +kernel) (by decide) (fun _ => ?_) (fun c => absurd c (by decide))
  refine z_go2 M.1 62 [(.iconst 0, 1)] (63, [(6, .inl 15), (5, .inl 0), (0, z_r 78), (1, z_r 80), (2, z_r 81), (3, .inl 0), (4, .inl 0)], [.inl 0], zW T' G' S n, 0, 0) (by decide +kernel) rfl ⟨trivial, trivial⟩ ?_
  exact z_iret M (by decide +kernel) .boolean rfl rfl (by decide) (by decide) ⟨rfl, rfl⟩
theorem c_L_changes_a (T' : Nat → Nat × Nat) (G' : Nat → Nat → Option Nat) (S : Nat → Nat → Int32) (n : Nat) (h800 : S 80 0 = 0) (h821 : S 82 1 = 0) : z_Run (zr 0) zm_L_changes [z_r 80, .inl 0, .inl 15, z_r 82] (zW T' G' S n) (zq none (zW T' G' (z_uS (z_uS S 82 1 1) 80 0 15) n)) := by
  refine z_body (by decide) (fun q h => nomatch h) (Nat.le_of_ble_eq_true rfl) (fun X M => ?_)
  show z_G X zm_L_changes (0, [(0, z_r 80), (1, .inl 0), (2, .inl 15), (3, z_r 82)], [], zW T' G' S n, 0, 0)
  refine z_go2 M.1 0 [(.aload_n 0, 1), (.iload_n 1, 1), (.iaload, 1)] (3, [(0, z_r 80), (1, .inl 0), (2, .inl 15), (3, z_r 82)], [.inl (S 80 0)], zW T' G' S n, 0, 0) (by decide +kernel) rfl ⟨trivial, trivial, ⟨rfl, (show vp_in 0 6 by unfold vp_in; decide)⟩, trivial⟩ ?_
  rw [show (S 80 0) = 0 from h800]
  refine z_go2 M.1 3 [(.iload_n 2, 1)] (4, [(0, z_r 80), (1, .inl 0), (2, .inl 15), (3, z_r 82)], [.inl 15, .inl 0], zW T' G' S n, 0, 0) (by decide +kernel) rfl ⟨trivial, trivial⟩ ?_
  refine z_icmp_eq 14 M.1 (off := 10) (by decide +kernel) (by decide) (fun c => absurd c (by decide)) (fun _ => ?_)
  refine z_go2 M.1 7 [(.aload_n 3, 1), (.iconst 1, 1), (.dup2, 1), (.iaload, 1)] (11, [(0, z_r 80), (1, .inl 0), (2, .inl 15), (3, z_r 82)], [.inl (S 82 1), .inl 1, z_r 82], zW T' G' S n, 0, 0) (by decide +kernel) rfl ⟨trivial, trivial, ⟨rfl, rfl⟩, ⟨rfl, (show vp_in 1 3 by unfold vp_in; decide)⟩, trivial⟩ ?_
  rw [show (S 82 1) = 0 from h821]
  refine z_go2 M.1 11 [(.iconst 1, 1), (.iadd, 1), (.iastore, 1), (.aload_n 0, 1), (.iload_n 1, 1), (.iload_n 2, 1), (.iastore, 1)] (18, [(0, z_r 80), (1, .inl 0), (2, .inl 15), (3, z_r 82)], [], zW T' G' (z_uS (z_uS S 82 1 1) 80 0 15) n, 0, 0) (by decide +kernel) rfl ⟨trivial, trivial, ⟨rfl, (show vp_in 1 3 by unfold vp_in; decide)⟩, trivial, trivial, trivial, ⟨rfl, (show vp_in 0 6 by unfold vp_in; decide)⟩, trivial⟩ ?_
  exact z_vret M (by decide +kernel) rfl (by decide) (by decide) ⟨rfl, rfl⟩
theorem c_L_changes_b (T' : Nat → Nat × Nat) (G' : Nat → Nat → Option Nat) (S : Nat → Nat → Int32) (n : Nat) (h802 : S 80 2 = 0) : z_Run (zr 0) zm_L_changes [z_r 80, .inl 2, .inl 0, z_r 82] (zW T' G' S n) (zq none (zW T' G' (z_uS S 80 2 0) n)) := by
  refine z_body (by decide) (fun q h => nomatch h) (Nat.le_of_ble_eq_true rfl) (fun X M => ?_)
  show z_G X zm_L_changes (0, [(0, z_r 80), (1, .inl 2), (2, .inl 0), (3, z_r 82)], [], zW T' G' S n, 0, 0)
  refine z_go2 M.1 0 [(.aload_n 0, 1), (.iload_n 1, 1), (.iaload, 1)] (3, [(0, z_r 80), (1, .inl 2), (2, .inl 0), (3, z_r 82)], [.inl (S 80 2)], zW T' G' S n, 0, 0) (by decide +kernel) rfl ⟨trivial, trivial, ⟨rfl, (show vp_in 2 6 by unfold vp_in; decide)⟩, trivial⟩ ?_
  rw [show (S 80 2) = 0 from h802]
  refine z_go2 M.1 3 [(.iload_n 2, 1)] (4, [(0, z_r 80), (1, .inl 2), (2, .inl 0), (3, z_r 82)], [.inl 0, .inl 0], zW T' G' S n, 0, 0) (by decide +kernel) rfl ⟨trivial, trivial⟩ ?_
  refine z_icmp_eq 14 M.1 (off := 10) (by decide +kernel) (by decide) (fun _ => ?_) (fun c => absurd c (by decide))
  refine z_go2 M.1 14 [(.aload_n 0, 1), (.iload_n 1, 1), (.iload_n 2, 1), (.iastore, 1)] (18, [(0, z_r 80), (1, .inl 2), (2, .inl 0), (3, z_r 82)], [], zW T' G' (z_uS S 80 2 0) n, 0, 0) (by decide +kernel) rfl ⟨trivial, trivial, trivial, ⟨rfl, (show vp_in 2 6 by unfold vp_in; decide)⟩, trivial⟩ ?_
  exact z_vret M (by decide +kernel) rfl (by decide) (by decide) ⟨rfl, rfl⟩
abbrev zm_L_refused : z_Y := (⟨"TrackHouseLaw", "refused", "(LTrackHouse;IIIII)I"⟩, method_10_code, 7, some .int, [])
abbrev hh_L : List (Nat × Nat × Nat × Nat) := [(0, 149, 150, 60), (0, 149, 154, 62), (0, 149, 158, 64)]
abbrev rm_L_refused : Room := { frames := 15, cells := 2, slots := 12, locals := 1000 }
theorem c_L_refused (T' : Nat → Nat × Nat) (G' : Nat → Nat → Option Nat) (q0 : Nat) (S : Nat → Nat → Int32) (n : Nat) (f : Int32) (hs : Sf_T_field S 0 0 f) (hF : F_T_field S 0 0 f = (.inl "java/lang/IndexOutOfBoundsException", S)) : z_RunH rm_L_refused zm_L_refused hh_L [z_r 0, .inl 8, .inl 0, .inl 0, .inl f, .inl 0] (zW T' (zwG G' q0) S n) (fun v w' => ∃ n2 q, n < n2 ∧ v = some (.inl 1 : z_V) ∧ w' = zW T' (zwG G' q) S n2) := by
  refine z_bodyH (by decide) (fun q h => nomatch h) (Nat.le_of_ble_eq_true rfl) (fun X M TB => ?_)
  show z_G X zm_L_refused (0, [(0, z_r 0), (1, .inl 8), (2, .inl 0), (3, .inl 0), (4, .inl f), (5, .inl 0)], [], zW T' (zwG G' q0) S n, 0, 0)
  refine z_go2 M.1 0 [(.iload_n 1, 1)] (1, [(0, z_r 0), (1, .inl 8), (2, .inl 0), (3, .inl 0), (4, .inl f), (5, .inl 0)], [.inl 8], zW T' (zwG G' q0) S n, 0, 0) (by decide +kernel) rfl ⟨trivial, trivial⟩ ?_
  refine z_if_ne 15 M.1 (off := 14) (by decide +kernel) (by decide) (fun _ => ?_) (fun c => absurd c (by decide))
  refine z_go2 M.1 15 [(.iload_n 1, 1), (.iconst 1, 1)] (17, [(0, z_r 0), (1, .inl 8), (2, .inl 0), (3, .inl 0), (4, .inl f), (5, .inl 0)], [.inl 1, .inl 8], zW T' (zwG G' q0) S n, 0, 0) (by decide +kernel) rfl ⟨trivial, trivial, trivial⟩ ?_
  refine z_icmp_ne 33 M.1 (off := 16) (by decide +kernel) (by decide) (fun _ => ?_) (fun c => absurd c (by decide))
  refine z_go2 M.1 33 [(.iload_n 1, 1), (.iconst 2, 1)] (35, [(0, z_r 0), (1, .inl 8), (2, .inl 0), (3, .inl 0), (4, .inl f), (5, .inl 0)], [.inl 2, .inl 8], zW T' (zwG G' q0) S n, 0, 0) (by decide +kernel) rfl ⟨trivial, trivial, trivial⟩ ?_
  refine z_icmp_ne 49 M.1 (off := 14) (by decide +kernel) (by decide) (fun _ => ?_) (fun c => absurd c (by decide))
  refine z_go2 M.1 49 [(.iload_n 1, 1), (.iconst 3, 1)] (51, [(0, z_r 0), (1, .inl 8), (2, .inl 0), (3, .inl 0), (4, .inl f), (5, .inl 0)], [.inl 3, .inl 8], zW T' (zwG G' q0) S n, 0, 0) (by decide +kernel) rfl ⟨trivial, trivial, trivial⟩ ?_
  refine z_icmp_ne 65 M.1 (off := 14) (by decide +kernel) (by decide) (fun _ => ?_) (fun c => absurd c (by decide))
  refine z_go2 M.1 65 [(.iload_n 1, 1), (.iconst 4, 1)] (67, [(0, z_r 0), (1, .inl 8), (2, .inl 0), (3, .inl 0), (4, .inl f), (5, .inl 0)], [.inl 4, .inl 8], zW T' (zwG G' q0) S n, 0, 0) (by decide +kernel) rfl ⟨trivial, trivial, trivial⟩ ?_
  refine z_icmp_ne 81 M.1 (off := 14) (by decide +kernel) (by decide) (fun _ => ?_) (fun c => absurd c (by decide))
  refine z_go2 M.1 81 [(.iload_n 1, 1), (.iconst 5, 1)] (83, [(0, z_r 0), (1, .inl 8), (2, .inl 0), (3, .inl 0), (4, .inl f), (5, .inl 0)], [.inl 5, .inl 8], zW T' (zwG G' q0) S n, 0, 0) (by decide +kernel) rfl ⟨trivial, trivial, trivial⟩ ?_
  refine z_icmp_ne 105 M.1 (off := 22) (by decide +kernel) (by decide) (fun _ => ?_) (fun c => absurd c (by decide))
  refine z_go2 M.1 105 [(.iload_n 1, 1), (.bipush 6, 2)] (108, [(0, z_r 0), (1, .inl 8), (2, .inl 0), (3, .inl 0), (4, .inl f), (5, .inl 0)], [.inl 6, .inl 8], zW T' (zwG G' q0) S n, 0, 0) (by decide +kernel) rfl ⟨trivial, trivial, trivial⟩ ?_
  refine z_icmp_ne 122 M.1 (off := 14) (by decide +kernel) (by decide) (fun _ => ?_) (fun c => absurd c (by decide))
  refine z_go2 M.1 122 [(.iload_n 1, 1), (.bipush 7, 2)] (125, [(0, z_r 0), (1, .inl 8), (2, .inl 0), (3, .inl 0), (4, .inl f), (5, .inl 0)], [.inl 7, .inl 8], zW T' (zwG G' q0) S n, 0, 0) (by decide +kernel) rfl ⟨trivial, trivial, trivial⟩ ?_
  refine z_icmp_ne 139 M.1 (off := 14) (by decide +kernel) (by decide) (fun _ => ?_) (fun c => absurd c (by decide))
  refine z_go2 M.1 139 [(.aload_n 0, 1), (.iload_n 2, 1), (.iload_n 3, 1), (.iload 4, 2)] (144, [(0, z_r 0), (1, .inl 8), (2, .inl 0), (3, .inl 0), (4, .inl f), (5, .inl 0)], [.inl f, .inl 0, .inl 0, z_r 0], zW T' (zwG G' q0) S n, 0, 0) (by decide +kernel) rfl ⟨trivial, trivial, trivial, trivial, trivial⟩ ?_
  refine z_callVX M.1 (av := [.inl 0, .inl 0, .inl f]) (st := []) (a := 0) (ci := 11) (by decide +kernel) (c_T_field T' G' q0 S n 0 0 f hs) M.2.1 zl_L_57 (z_wi 1182 (by decide +kernel) rfl) zv_T_field rfl rfl rfl ⟨by decide, by decide, by decide, by decide⟩ rfl (Nat.le_of_ble_eq_true rfl) (fun E w' hx => ?_) (fun v w' hv => ?_)
  · obtain ⟨S2, n2, q, hn2, h0, rfl⟩ := hx
    rw [hF] at h0
    have h1 : S = S2 := congrArg Prod.snd h0
    have h2 : "java/lang/IndexOutOfBoundsException" = E := Sum.inl.inj (congrArg Prod.fst h0)
    subst h1
    subst h2
    refine z_catch M.1 TB [] [(0, 149, 154, 62), (0, 149, 158, 64)] 0 149 150 60 rfl (fun z hz => nomatch hz) (by decide) (by decide) (z_wi 1179 (by decide +kernel) rfl) (z_ni 532 (by decide +kernel) rfl) (i := 6) (Or.inl (by decide +kernel)) (by decide) (fun g hg => ?_)
    have KK : z_G X zm_L_refused (152, [], [], zW T' (zwG G' q) S n2, 2, 12) := by
      refine z_go2 M.1 152 [(.iconst 1, 1)] (153, [], [.inl 1], zW T' (zwG G' q) S n2, 2, 12) (by decide +kernel) rfl ⟨trivial, trivial⟩ ?_
      exact z_iret M (by decide +kernel) .int rfl rfl (by decide) (by decide) ⟨n2, q, hn2, rfl, rfl⟩
    rcases hg with ⟨rfl, -⟩ | ⟨rfl, kk, h9⟩
    · exact KK
    · exact absurd (h9.symm.trans (show decode zm_L_refused.2.1 150 = .ok (.astore 6, 2) by decide +kernel)) (by simp)
  · obtain ⟨x, S2, q, h0, -, -⟩ := hv
    rw [hF] at h0
    cases h0
abbrev rm_L_same : Room := { frames := 20, cells := 12, slots := 72, locals := 2000 }
theorem c_L_same0a (T' : Nat → Nat × Nat) (G' : Nat → Nat → Option Nat) (q0 : Nat) (S : Nat → Nat → Int32) (n : Nat) (h820 : S 82 0 = 0) (h821 : S 82 1 = 1) (h17 : S 1 7 = 1) : z_Run rm_L_same zm_L_same [z_r 0, z_r 78, z_r 79, z_r 80, z_r 81, z_r 82, z_r 83, .inl 0] (zW T' (zwG G' q0) S n) (fun v w' => ∃ n2 q, n ≤ n2 ∧ v = some (.inl 1 : z_V) ∧ w' = zW T' (zwG G' q) S n2) := by
  refine z_body (by decide) (fun q h => nomatch h) (Nat.le_of_ble_eq_true rfl) (fun X M => ?_)
  show z_G X zm_L_same (0, [(0, z_r 0), (1, z_r 78), (2, z_r 79), (3, z_r 80), (4, z_r 81), (5, z_r 82), (6, z_r 83), (7, .inl 0)], [], zW T' (zwG G' q0) S n, 0, 0)
  refine z_go2 M.1 0 [(.iconst 0, 1), (.istore 8, 2), (.iload 8, 2), (.aload 5, 2), (.iconst 0, 1), (.iaload, 1)] (9, [(8, .inl 0), (0, z_r 0), (1, z_r 78), (2, z_r 79), (3, z_r 80), (4, z_r 81), (5, z_r 82), (6, z_r 83), (7, .inl 0)], [.inl (S 82 0), .inl 0], zW T' (zwG G' q0) S n, 0, 0) (by decide +kernel) rfl ⟨trivial, trivial, trivial, trivial, trivial, ⟨rfl, (show vp_in 0 3 by unfold vp_in; decide)⟩, trivial⟩ ?_
  rw [show (S 82 0) = 0 from h820]
  refine z_icmp_ge 182 M.1 (off := 173) (by decide +kernel) (by decide) (fun _ => ?_) (fun c => absurd c (by decide))
  refine z_go2 M.1 182 [(.aload_n 0, 1)] (183, [(8, .inl 0), (0, z_r 0), (1, z_r 78), (2, z_r 79), (3, z_r 80), (4, z_r 81), (5, z_r 82), (6, z_r 83), (7, .inl 0)], [z_r 0], zW T' (zwG G' q0) S n, 0, 0) (by decide +kernel) rfl ⟨trivial, trivial⟩ ?_
  refine z_callV M.1 (av := []) (st := []) (a := 0) (ci := 11) (by decide +kernel) (c_T_entries T' (zwG G' q0) S n) M.2.1 zl_L_77 zv_T_entries rfl rfl rfl ⟨by decide, by decide, by decide, by decide⟩ rfl (Nat.le_of_ble_eq_true rfl) (fun v w' hv => ?_)
  obtain ⟨rfl, rfl⟩ := hv
  rw [show F_T_entries S = 1 from h17]
  show z_G X zm_L_same (186, [(8, .inl 0), (0, z_r 0), (1, z_r 78), (2, z_r 79), (3, z_r 80), (4, z_r 81), (5, z_r 82), (6, z_r 83), (7, .inl 0)], [.inl 1], zW T' (zwG G' q0) S n, 0, 0)
  refine z_go2 M.1 186 [(.aload 5, 2), (.iconst 1, 1), (.iaload, 1)] (190, [(8, .inl 0), (0, z_r 0), (1, z_r 78), (2, z_r 79), (3, z_r 80), (4, z_r 81), (5, z_r 82), (6, z_r 83), (7, .inl 0)], [.inl (S 82 1), .inl 1], zW T' (zwG G' q0) S n, 0, 0) (by decide +kernel) rfl ⟨trivial, trivial, ⟨rfl, (show vp_in 1 3 by unfold vp_in; decide)⟩, trivial⟩ ?_
  rw [show (S 82 1) = 1 from h821]
  refine z_icmp_ne 197 M.1 (off := 7) (by decide +kernel) (by decide) (fun c => absurd c (by decide)) (fun _ => ?_)
  refine z_go2 M.1 193 [(.iconst 1, 1), (.goto 4, 3)] (198, [(8, .inl 0), (0, z_r 0), (1, z_r 78), (2, z_r 79), (3, z_r 80), (4, z_r 81), (5, z_r 82), (6, z_r 83), (7, .inl 0)], [.inl 1], zW T' (zwG G' q0) S n, 0, 0) (by decide +kernel) rfl ⟨trivial, trivial, trivial⟩ ?_
  exact z_iret M (by decide +kernel) .boolean rfl rfl (by decide) (by decide) ⟨n, q0, Nat.le_refl n, rfl, rfl⟩
theorem c_L_same0b (T' : Nat → Nat × Nat) (G' : Nat → Nat → Option Nat) (q0 : Nat) (S : Nat → Nat → Int32) (n : Nat) (h820 : S 82 0 = 0) (h821 : S 82 1 = 1) (h17 : S 1 7 = 1) : z_Run rm_L_same zm_L_same [z_r 0, z_r 78, z_r 79, z_r 80, z_r 81, z_r 82, z_r 83, .inl 1] (zW T' (zwG G' q0) S n) (fun v w' => ∃ n2 q, n ≤ n2 ∧ v = some (.inl 1 : z_V) ∧ w' = zW T' (zwG G' q) S n2) := by
  refine z_body (by decide) (fun q h => nomatch h) (Nat.le_of_ble_eq_true rfl) (fun X M => ?_)
  show z_G X zm_L_same (0, [(0, z_r 0), (1, z_r 78), (2, z_r 79), (3, z_r 80), (4, z_r 81), (5, z_r 82), (6, z_r 83), (7, .inl 1)], [], zW T' (zwG G' q0) S n, 0, 0)
  refine z_go2 M.1 0 [(.iconst 0, 1), (.istore 8, 2), (.iload 8, 2), (.aload 5, 2), (.iconst 0, 1), (.iaload, 1)] (9, [(8, .inl 0), (0, z_r 0), (1, z_r 78), (2, z_r 79), (3, z_r 80), (4, z_r 81), (5, z_r 82), (6, z_r 83), (7, .inl 1)], [.inl (S 82 0), .inl 0], zW T' (zwG G' q0) S n, 0, 0) (by decide +kernel) rfl ⟨trivial, trivial, trivial, trivial, trivial, ⟨rfl, (show vp_in 0 3 by unfold vp_in; decide)⟩, trivial⟩ ?_
  rw [show (S 82 0) = 0 from h820]
  refine z_icmp_ge 182 M.1 (off := 173) (by decide +kernel) (by decide) (fun _ => ?_) (fun c => absurd c (by decide))
  refine z_go2 M.1 182 [(.aload_n 0, 1)] (183, [(8, .inl 0), (0, z_r 0), (1, z_r 78), (2, z_r 79), (3, z_r 80), (4, z_r 81), (5, z_r 82), (6, z_r 83), (7, .inl 1)], [z_r 0], zW T' (zwG G' q0) S n, 0, 0) (by decide +kernel) rfl ⟨trivial, trivial⟩ ?_
  refine z_callV M.1 (av := []) (st := []) (a := 0) (ci := 11) (by decide +kernel) (c_T_entries T' (zwG G' q0) S n) M.2.1 zl_L_77 zv_T_entries rfl rfl rfl ⟨by decide, by decide, by decide, by decide⟩ rfl (Nat.le_of_ble_eq_true rfl) (fun v w' hv => ?_)
  obtain ⟨rfl, rfl⟩ := hv
  rw [show F_T_entries S = 1 from h17]
  show z_G X zm_L_same (186, [(8, .inl 0), (0, z_r 0), (1, z_r 78), (2, z_r 79), (3, z_r 80), (4, z_r 81), (5, z_r 82), (6, z_r 83), (7, .inl 1)], [.inl 1], zW T' (zwG G' q0) S n, 0, 0)
  refine z_go2 M.1 186 [(.aload 5, 2), (.iconst 1, 1), (.iaload, 1)] (190, [(8, .inl 0), (0, z_r 0), (1, z_r 78), (2, z_r 79), (3, z_r 80), (4, z_r 81), (5, z_r 82), (6, z_r 83), (7, .inl 1)], [.inl (S 82 1), .inl 1], zW T' (zwG G' q0) S n, 0, 0) (by decide +kernel) rfl ⟨trivial, trivial, ⟨rfl, (show vp_in 1 3 by unfold vp_in; decide)⟩, trivial⟩ ?_
  rw [show (S 82 1) = 1 from h821]
  refine z_icmp_ne 197 M.1 (off := 7) (by decide +kernel) (by decide) (fun c => absurd c (by decide)) (fun _ => ?_)
  refine z_go2 M.1 193 [(.iconst 1, 1), (.goto 4, 3)] (198, [(8, .inl 0), (0, z_r 0), (1, z_r 78), (2, z_r 79), (3, z_r 80), (4, z_r 81), (5, z_r 82), (6, z_r 83), (7, .inl 1)], [.inl 1], zW T' (zwG G' q0) S n, 0, 0) (by decide +kernel) rfl ⟨trivial, trivial, trivial⟩ ?_
  exact z_iret M (by decide +kernel) .boolean rfl rfl (by decide) (by decide) ⟨n, q0, Nat.le_refl n, rfl, rfl⟩
/-- what holds of the memory from the fourth act on -/
def z_Fix (S : Nat → Nat → Int32) : Prop := (S 82 0 = 1 ∧ S 82 1 = 2 ∧ S 82 2 = 0 ∧ S 78 0 = 0 ∧ S 78 1 = 0 ∧ S 80 0 = 15 ∧ S 81 0 = 0) ∧ (∀ f : Int32, f = 0 ∨ f = 1 ∨ f = 2 ∨ f = 3 → Sf_T_field S 0 0 f) ∧ (∀ f : Int32, f = 0 ∨ f = 1 ∨ f = 2 ∨ f = 3 → F_T_field S 0 0 f = (.inl "java/lang/IndexOutOfBoundsException", S)) ∧
  Sf_T_stateOn S 0 0 ∧ F_T_stateOn S 0 0 = (.inr 0, S) ∧ Sf_T_stateOnAnew S 0 0 ∧ F_T_stateOnAnew S 0 0 = (.inr 0, S) ∧ F_T_entries S = 2
theorem z_Fix.g0 {S : Nat → Nat → Int32} (h : z_Fix S) : S 82 0 = 1 := h.1.1
theorem z_Fix.g1 {S : Nat → Nat → Int32} (h : z_Fix S) : S 82 1 = 2 := h.1.2.1
theorem z_Fix.g2 {S : Nat → Nat → Int32} (h : z_Fix S) : S 82 2 = 0 := h.1.2.2.1
theorem z_Fix.a0 {S : Nat → Nat → Int32} (h : z_Fix S) : S 78 0 = 0 := h.1.2.2.2.1
theorem z_Fix.a1 {S : Nat → Nat → Int32} (h : z_Fix S) : S 78 1 = 0 := h.1.2.2.2.2.1
theorem z_Fix.r0 {S : Nat → Nat → Int32} (h : z_Fix S) : S 80 0 = 15 := h.1.2.2.2.2.2.1
theorem z_Fix.c0 {S : Nat → Nat → Int32} (h : z_Fix S) : S 81 0 = 0 := h.1.2.2.2.2.2.2
theorem z_Fix.sf {S : Nat → Nat → Int32} (h : z_Fix S) (f : Int32) (hf : f = 0 ∨ f = 1 ∨ f = 2 ∨ f = 3) : Sf_T_field S 0 0 f := h.2.1 f hf
theorem z_Fix.ff {S : Nat → Nat → Int32} (h : z_Fix S) (f : Int32) (hf : f = 0 ∨ f = 1 ∨ f = 2 ∨ f = 3) : F_T_field S 0 0 f = (.inl "java/lang/IndexOutOfBoundsException", S) := h.2.2.1 f hf
theorem z_Fix.so {S : Nat → Nat → Int32} (h : z_Fix S) : Sf_T_stateOn S 0 0 := h.2.2.2.1
theorem z_Fix.fo {S : Nat → Nat → Int32} (h : z_Fix S) : F_T_stateOn S 0 0 = (.inr 0, S) := h.2.2.2.2.1
theorem z_Fix.sn {S : Nat → Nat → Int32} (h : z_Fix S) : Sf_T_stateOnAnew S 0 0 := h.2.2.2.2.2.1
theorem z_Fix.fn {S : Nat → Nat → Int32} (h : z_Fix S) : F_T_stateOnAnew S 0 0 = (.inr 0, S) := h.2.2.2.2.2.2.1
theorem z_Fix.e {S : Nat → Nat → Int32} (h : z_Fix S) : F_T_entries S = 2 := h.2.2.2.2.2.2.2
theorem c_L_same1 (T' : Nat → Nat × Nat) (G' : Nat → Nat → Option Nat) (q0 : Nat) (S : Nat → Nat → Int32) (n : Nat) (h : z_Fix S) : z_Run rm_L_same zm_L_same [z_r 0, z_r 78, z_r 79, z_r 80, z_r 81, z_r 82, z_r 83, .inl 0] (zW T' (zwG G' q0) S n) (fun v w' => ∃ n2 q, n + 4 ≤ n2 ∧ v = some (.inl 1 : z_V) ∧ w' = zW T' (zwG G' q) S n2) := by
  refine z_body (by decide) (fun q h => nomatch h) (Nat.le_of_ble_eq_true rfl) (fun X M => ?_)
  show z_G X zm_L_same (0, [(0, z_r 0), (1, z_r 78), (2, z_r 79), (3, z_r 80), (4, z_r 81), (5, z_r 82), (6, z_r 83), (7, .inl 0)], [], zW T' (zwG G' q0) S n, 0, 0)
  refine z_go2 M.1 0 [(.iconst 0, 1), (.istore 8, 2), (.iload 8, 2), (.aload 5, 2), (.iconst 0, 1), (.iaload, 1)] (9, [(8, .inl 0), (0, z_r 0), (1, z_r 78), (2, z_r 79), (3, z_r 80), (4, z_r 81), (5, z_r 82), (6, z_r 83), (7, .inl 0)], [.inl (S 82 0), .inl 0], zW T' (zwG G' q0) S n, 0, 0) (by decide +kernel) rfl ⟨trivial, trivial, trivial, trivial, trivial, ⟨rfl, (show vp_in 0 3 by unfold vp_in; decide)⟩, trivial⟩ ?_
  rw [show (S 82 0) = 1 from h.g0]
  refine z_icmp_ge 182 M.1 (off := 173) (by decide +kernel) (by decide) (fun c => absurd c (by decide)) (fun _ => ?_)
  refine z_go2 M.1 12 [(.aload_n 1, 1), (.aload_n 3, 1), (.aload 4, 2), (.iload 7, 2), (.iload 8, 2)] (20, [(8, .inl 0), (0, z_r 0), (1, z_r 78), (2, z_r 79), (3, z_r 80), (4, z_r 81), (5, z_r 82), (6, z_r 83), (7, .inl 0)], [.inl 0, .inl 0, z_r 81, z_r 80, z_r 78], zW T' (zwG G' q0) S n, 0, 0) (by decide +kernel) rfl ⟨trivial, trivial, trivial, trivial, trivial, trivial⟩ ?_
  refine z_callS M.1 (av := [z_r 78, z_r 80, z_r 81, .inl 0, .inl 0]) (st := []) (by decide +kernel) (c_L_sees T' (zwG G' q0) S n h.a0 h.r0 h.c0) M.2.1 zl_L_10 zs_L_sees ⟨by decide, by decide, by decide, by decide⟩ rfl (Nat.le_of_ble_eq_true rfl) (fun v w' hv => ?_)
  obtain ⟨rfl, rfl⟩ := hv
  show z_G X zm_L_same (23, [(8, .inl 0), (0, z_r 0), (1, z_r 78), (2, z_r 79), (3, z_r 80), (4, z_r 81), (5, z_r 82), (6, z_r 83), (7, .inl 0)], [.inl 0], zW T' (zwG G' q0) S n, 0, 0)
  refine z_go2 M.1 23 [(.istore 9, 2), (.iconst 0, 1), (.istore 10, 2), (.iload 10, 2), (.iconst 4, 1)] (31, [(10, .inl 0), (9, .inl 0), (8, .inl 0), (0, z_r 0), (1, z_r 78), (2, z_r 79), (3, z_r 80), (4, z_r 81), (5, z_r 82), (6, z_r 83), (7, .inl 0)], [.inl 4, .inl 0], zW T' (zwG G' q0) S n, 0, 0) (by decide +kernel) rfl ⟨trivial, trivial, trivial, trivial, trivial, trivial⟩ ?_
  refine z_icmp_ge 96 M.1 (off := 65) (by decide +kernel) (by decide) (fun c => absurd c (by decide)) (fun _ => ?_)
  refine z_go2 M.1 34 [(.iload 9, 2)] (36, [(10, .inl 0), (9, .inl 0), (8, .inl 0), (0, z_r 0), (1, z_r 78), (2, z_r 79), (3, z_r 80), (4, z_r 81), (5, z_r 82), (6, z_r 83), (7, .inl 0)], [.inl 0], zW T' (zwG G' q0) S n, 0, 0) (by decide +kernel) rfl ⟨trivial, trivial⟩ ?_
  refine z_if_ne 59 M.1 (off := 23) (by decide +kernel) (by decide) (fun c => absurd c (by decide)) (fun _ => ?_)
  refine z_go2 M.1 39 [(.aload_n 0, 1), (.bipush 8, 2), (.iload 7, 2), (.iload 8, 2), (.iload 10, 2), (.iconst 0, 1)] (49, [(10, .inl 0), (9, .inl 0), (8, .inl 0), (0, z_r 0), (1, z_r 78), (2, z_r 79), (3, z_r 80), (4, z_r 81), (5, z_r 82), (6, z_r 83), (7, .inl 0)], [.inl 0, .inl 0, .inl 0, .inl 0, .inl 8, z_r 0], zW T' (zwG G' q0) S n, 0, 0) (by decide +kernel) rfl ⟨trivial, trivial, trivial, trivial, trivial, trivial, trivial⟩ ?_
  refine z_callH (idx := 66) (hh := hh_L) M.1 (av := [z_r 0, .inl 8, .inl 0, .inl 0, .inl 0, .inl 0]) (st := []) (by decide +kernel) (c_L_refused T' G' q0 S n 0 (h.sf 0 (by decide)) (h.ff 0 (by decide))) M.2.1 (z_wi 1178 (by decide +kernel) rfl) (z_wi 79 (by decide +kernel) rfl) ⟨by decide +kernel, by decide +kernel⟩ (show (parseMethodDescriptor zm_L_refused.1.desc).map (fun d => d.parameters.length) = some 6 by decide +kernel) (z_wi 1176 (by decide +kernel) rfl) (z_wi 1177 (by decide +kernel) rfl) ⟨by decide, by decide, by decide, by decide⟩ rfl (Nat.le_of_ble_eq_true rfl) (fun v w' hv => ?_)
  obtain ⟨n1, q1, hn1, rfl, rfl⟩ := hv
  show z_G X zm_L_same (52, [(10, .inl 0), (9, .inl 0), (8, .inl 0), (0, z_r 0), (1, z_r 78), (2, z_r 79), (3, z_r 80), (4, z_r 81), (5, z_r 82), (6, z_r 83), (7, .inl 0)], [.inl 1], zW T' (zwG G' q1) S n1, 2, 12)
  refine z_go2 M.1 52 [(.iconst 1, 1)] (53, [(10, .inl 0), (9, .inl 0), (8, .inl 0), (0, z_r 0), (1, z_r 78), (2, z_r 79), (3, z_r 80), (4, z_r 81), (5, z_r 82), (6, z_r 83), (7, .inl 0)], [.inl 1, .inl 1], zW T' (zwG G' q1) S n1, 2, 12) (by decide +kernel) rfl ⟨trivial, trivial⟩ ?_
  refine z_icmp_eq 90 M.1 (off := 37) (by decide +kernel) (by decide) (fun _ => ?_) (fun c => absurd c (by decide))
  refine z_go2 M.1 90 [(.iinc 10 1, 3), (.goto (-65), 3), (.iload 10, 2), (.iconst 4, 1)] (31, [(10, .inl 1), (9, .inl 0), (8, .inl 0), (0, z_r 0), (1, z_r 78), (2, z_r 79), (3, z_r 80), (4, z_r 81), (5, z_r 82), (6, z_r 83), (7, .inl 0)], [.inl 4, .inl 1], zW T' (zwG G' q1) S n1, 2, 12) (by decide +kernel) rfl ⟨trivial, trivial, trivial, trivial, trivial⟩ ?_
  refine z_icmp_ge 96 M.1 (off := 65) (by decide +kernel) (by decide) (fun c => absurd c (by decide)) (fun _ => ?_)
  refine z_go2 M.1 34 [(.iload 9, 2)] (36, [(10, .inl 1), (9, .inl 0), (8, .inl 0), (0, z_r 0), (1, z_r 78), (2, z_r 79), (3, z_r 80), (4, z_r 81), (5, z_r 82), (6, z_r 83), (7, .inl 0)], [.inl 0], zW T' (zwG G' q1) S n1, 2, 12) (by decide +kernel) rfl ⟨trivial, trivial⟩ ?_
  refine z_if_ne 59 M.1 (off := 23) (by decide +kernel) (by decide) (fun c => absurd c (by decide)) (fun _ => ?_)
  refine z_go2 M.1 39 [(.aload_n 0, 1), (.bipush 8, 2), (.iload 7, 2), (.iload 8, 2), (.iload 10, 2), (.iconst 0, 1)] (49, [(10, .inl 1), (9, .inl 0), (8, .inl 0), (0, z_r 0), (1, z_r 78), (2, z_r 79), (3, z_r 80), (4, z_r 81), (5, z_r 82), (6, z_r 83), (7, .inl 0)], [.inl 0, .inl 1, .inl 0, .inl 0, .inl 8, z_r 0], zW T' (zwG G' q1) S n1, 2, 12) (by decide +kernel) rfl ⟨trivial, trivial, trivial, trivial, trivial, trivial, trivial⟩ ?_
  refine z_callH (idx := 66) (hh := hh_L) M.1 (av := [z_r 0, .inl 8, .inl 0, .inl 0, .inl 1, .inl 0]) (st := []) (by decide +kernel) (c_L_refused T' G' q1 S n1 1 (h.sf 1 (by decide)) (h.ff 1 (by decide))) M.2.1 (z_wi 1178 (by decide +kernel) rfl) (z_wi 79 (by decide +kernel) rfl) ⟨by decide +kernel, by decide +kernel⟩ (show (parseMethodDescriptor zm_L_refused.1.desc).map (fun d => d.parameters.length) = some 6 by decide +kernel) (z_wi 1176 (by decide +kernel) rfl) (z_wi 1177 (by decide +kernel) rfl) ⟨by decide, by decide, by decide, by decide⟩ rfl (Nat.le_of_ble_eq_true rfl) (fun v w' hv => ?_)
  obtain ⟨n2, q2, hn2, rfl, rfl⟩ := hv
  show z_G X zm_L_same (52, [(10, .inl 1), (9, .inl 0), (8, .inl 0), (0, z_r 0), (1, z_r 78), (2, z_r 79), (3, z_r 80), (4, z_r 81), (5, z_r 82), (6, z_r 83), (7, .inl 0)], [.inl 1], zW T' (zwG G' q2) S n2, 4, 24)
  refine z_go2 M.1 52 [(.iconst 1, 1)] (53, [(10, .inl 1), (9, .inl 0), (8, .inl 0), (0, z_r 0), (1, z_r 78), (2, z_r 79), (3, z_r 80), (4, z_r 81), (5, z_r 82), (6, z_r 83), (7, .inl 0)], [.inl 1, .inl 1], zW T' (zwG G' q2) S n2, 4, 24) (by decide +kernel) rfl ⟨trivial, trivial⟩ ?_
  refine z_icmp_eq 90 M.1 (off := 37) (by decide +kernel) (by decide) (fun _ => ?_) (fun c => absurd c (by decide))
  refine z_go2 M.1 90 [(.iinc 10 1, 3), (.goto (-65), 3), (.iload 10, 2), (.iconst 4, 1)] (31, [(10, .inl 2), (9, .inl 0), (8, .inl 0), (0, z_r 0), (1, z_r 78), (2, z_r 79), (3, z_r 80), (4, z_r 81), (5, z_r 82), (6, z_r 83), (7, .inl 0)], [.inl 4, .inl 2], zW T' (zwG G' q2) S n2, 4, 24) (by decide +kernel) rfl ⟨trivial, trivial, trivial, trivial, trivial⟩ ?_
  refine z_icmp_ge 96 M.1 (off := 65) (by decide +kernel) (by decide) (fun c => absurd c (by decide)) (fun _ => ?_)
  refine z_go2 M.1 34 [(.iload 9, 2)] (36, [(10, .inl 2), (9, .inl 0), (8, .inl 0), (0, z_r 0), (1, z_r 78), (2, z_r 79), (3, z_r 80), (4, z_r 81), (5, z_r 82), (6, z_r 83), (7, .inl 0)], [.inl 0], zW T' (zwG G' q2) S n2, 4, 24) (by decide +kernel) rfl ⟨trivial, trivial⟩ ?_
  refine z_if_ne 59 M.1 (off := 23) (by decide +kernel) (by decide) (fun c => absurd c (by decide)) (fun _ => ?_)
  refine z_go2 M.1 39 [(.aload_n 0, 1), (.bipush 8, 2), (.iload 7, 2), (.iload 8, 2), (.iload 10, 2), (.iconst 0, 1)] (49, [(10, .inl 2), (9, .inl 0), (8, .inl 0), (0, z_r 0), (1, z_r 78), (2, z_r 79), (3, z_r 80), (4, z_r 81), (5, z_r 82), (6, z_r 83), (7, .inl 0)], [.inl 0, .inl 2, .inl 0, .inl 0, .inl 8, z_r 0], zW T' (zwG G' q2) S n2, 4, 24) (by decide +kernel) rfl ⟨trivial, trivial, trivial, trivial, trivial, trivial, trivial⟩ ?_
  refine z_callH (idx := 66) (hh := hh_L) M.1 (av := [z_r 0, .inl 8, .inl 0, .inl 0, .inl 2, .inl 0]) (st := []) (by decide +kernel) (c_L_refused T' G' q2 S n2 2 (h.sf 2 (by decide)) (h.ff 2 (by decide))) M.2.1 (z_wi 1178 (by decide +kernel) rfl) (z_wi 79 (by decide +kernel) rfl) ⟨by decide +kernel, by decide +kernel⟩ (show (parseMethodDescriptor zm_L_refused.1.desc).map (fun d => d.parameters.length) = some 6 by decide +kernel) (z_wi 1176 (by decide +kernel) rfl) (z_wi 1177 (by decide +kernel) rfl) ⟨by decide, by decide, by decide, by decide⟩ rfl (Nat.le_of_ble_eq_true rfl) (fun v w' hv => ?_)
  obtain ⟨n3, q3, hn3, rfl, rfl⟩ := hv
  show z_G X zm_L_same (52, [(10, .inl 2), (9, .inl 0), (8, .inl 0), (0, z_r 0), (1, z_r 78), (2, z_r 79), (3, z_r 80), (4, z_r 81), (5, z_r 82), (6, z_r 83), (7, .inl 0)], [.inl 1], zW T' (zwG G' q3) S n3, 6, 36)
  refine z_go2 M.1 52 [(.iconst 1, 1)] (53, [(10, .inl 2), (9, .inl 0), (8, .inl 0), (0, z_r 0), (1, z_r 78), (2, z_r 79), (3, z_r 80), (4, z_r 81), (5, z_r 82), (6, z_r 83), (7, .inl 0)], [.inl 1, .inl 1], zW T' (zwG G' q3) S n3, 6, 36) (by decide +kernel) rfl ⟨trivial, trivial⟩ ?_
  refine z_icmp_eq 90 M.1 (off := 37) (by decide +kernel) (by decide) (fun _ => ?_) (fun c => absurd c (by decide))
  refine z_go2 M.1 90 [(.iinc 10 1, 3), (.goto (-65), 3), (.iload 10, 2), (.iconst 4, 1)] (31, [(10, .inl 3), (9, .inl 0), (8, .inl 0), (0, z_r 0), (1, z_r 78), (2, z_r 79), (3, z_r 80), (4, z_r 81), (5, z_r 82), (6, z_r 83), (7, .inl 0)], [.inl 4, .inl 3], zW T' (zwG G' q3) S n3, 6, 36) (by decide +kernel) rfl ⟨trivial, trivial, trivial, trivial, trivial⟩ ?_
  refine z_icmp_ge 96 M.1 (off := 65) (by decide +kernel) (by decide) (fun c => absurd c (by decide)) (fun _ => ?_)
  refine z_go2 M.1 34 [(.iload 9, 2)] (36, [(10, .inl 3), (9, .inl 0), (8, .inl 0), (0, z_r 0), (1, z_r 78), (2, z_r 79), (3, z_r 80), (4, z_r 81), (5, z_r 82), (6, z_r 83), (7, .inl 0)], [.inl 0], zW T' (zwG G' q3) S n3, 6, 36) (by decide +kernel) rfl ⟨trivial, trivial⟩ ?_
  refine z_if_ne 59 M.1 (off := 23) (by decide +kernel) (by decide) (fun c => absurd c (by decide)) (fun _ => ?_)
  refine z_go2 M.1 39 [(.aload_n 0, 1), (.bipush 8, 2), (.iload 7, 2), (.iload 8, 2), (.iload 10, 2), (.iconst 0, 1)] (49, [(10, .inl 3), (9, .inl 0), (8, .inl 0), (0, z_r 0), (1, z_r 78), (2, z_r 79), (3, z_r 80), (4, z_r 81), (5, z_r 82), (6, z_r 83), (7, .inl 0)], [.inl 0, .inl 3, .inl 0, .inl 0, .inl 8, z_r 0], zW T' (zwG G' q3) S n3, 6, 36) (by decide +kernel) rfl ⟨trivial, trivial, trivial, trivial, trivial, trivial, trivial⟩ ?_
  refine z_callH (idx := 66) (hh := hh_L) M.1 (av := [z_r 0, .inl 8, .inl 0, .inl 0, .inl 3, .inl 0]) (st := []) (by decide +kernel) (c_L_refused T' G' q3 S n3 3 (h.sf 3 (by decide)) (h.ff 3 (by decide))) M.2.1 (z_wi 1178 (by decide +kernel) rfl) (z_wi 79 (by decide +kernel) rfl) ⟨by decide +kernel, by decide +kernel⟩ (show (parseMethodDescriptor zm_L_refused.1.desc).map (fun d => d.parameters.length) = some 6 by decide +kernel) (z_wi 1176 (by decide +kernel) rfl) (z_wi 1177 (by decide +kernel) rfl) ⟨by decide, by decide, by decide, by decide⟩ rfl (Nat.le_of_ble_eq_true rfl) (fun v w' hv => ?_)
  obtain ⟨n4, q4, hn4, rfl, rfl⟩ := hv
  show z_G X zm_L_same (52, [(10, .inl 3), (9, .inl 0), (8, .inl 0), (0, z_r 0), (1, z_r 78), (2, z_r 79), (3, z_r 80), (4, z_r 81), (5, z_r 82), (6, z_r 83), (7, .inl 0)], [.inl 1], zW T' (zwG G' q4) S n4, 8, 48)
  refine z_go2 M.1 52 [(.iconst 1, 1)] (53, [(10, .inl 3), (9, .inl 0), (8, .inl 0), (0, z_r 0), (1, z_r 78), (2, z_r 79), (3, z_r 80), (4, z_r 81), (5, z_r 82), (6, z_r 83), (7, .inl 0)], [.inl 1, .inl 1], zW T' (zwG G' q4) S n4, 8, 48) (by decide +kernel) rfl ⟨trivial, trivial⟩ ?_
  refine z_icmp_eq 90 M.1 (off := 37) (by decide +kernel) (by decide) (fun _ => ?_) (fun c => absurd c (by decide))
  refine z_go2 M.1 90 [(.iinc 10 1, 3), (.goto (-65), 3), (.iload 10, 2), (.iconst 4, 1)] (31, [(10, .inl 4), (9, .inl 0), (8, .inl 0), (0, z_r 0), (1, z_r 78), (2, z_r 79), (3, z_r 80), (4, z_r 81), (5, z_r 82), (6, z_r 83), (7, .inl 0)], [.inl 4, .inl 4], zW T' (zwG G' q4) S n4, 8, 48) (by decide +kernel) rfl ⟨trivial, trivial, trivial, trivial, trivial⟩ ?_
  refine z_icmp_ge 96 M.1 (off := 65) (by decide +kernel) (by decide) (fun _ => ?_) (fun c => absurd c (by decide))
  refine z_go2 M.1 96 [(.iconst 0, 1), (.istore 10, 2), (.iload 10, 2), (.aload 5, 2), (.iconst 2, 1), (.iaload, 1)] (105, [(10, .inl 0), (9, .inl 0), (8, .inl 0), (0, z_r 0), (1, z_r 78), (2, z_r 79), (3, z_r 80), (4, z_r 81), (5, z_r 82), (6, z_r 83), (7, .inl 0)], [.inl (S 82 2), .inl 0], zW T' (zwG G' q4) S n4, 8, 48) (by decide +kernel) rfl ⟨trivial, trivial, trivial, trivial, trivial, ⟨rfl, (show vp_in 2 3 by unfold vp_in; decide)⟩, trivial⟩ ?_
  rw [show (S 82 2) = 0 from h.g2]
  refine z_icmp_gt 176 M.1 (off := 71) (by decide +kernel) (by decide) (fun c => absurd c (by decide)) (fun _ => ?_)
  refine z_go2 M.1 108 [(.iload 10, 2), (.aload 5, 2), (.iconst 2, 1), (.iaload, 1)] (114, [(10, .inl 0), (9, .inl 0), (8, .inl 0), (0, z_r 0), (1, z_r 78), (2, z_r 79), (3, z_r 80), (4, z_r 81), (5, z_r 82), (6, z_r 83), (7, .inl 0)], [.inl (S 82 2), .inl 0], zW T' (zwG G' q4) S n4, 8, 48) (by decide +kernel) rfl ⟨trivial, trivial, trivial, ⟨rfl, (show vp_in 2 3 by unfold vp_in; decide)⟩, trivial⟩ ?_
  rw [show (S 82 2) = 0 from h.g2]
  refine z_icmp_ge 131 M.1 (off := 17) (by decide +kernel) (by decide) (fun _ => ?_) (fun c => absurd c (by decide))
  refine z_go2 M.1 131 [(.aload_n 1, 1), (.bipush 6, 2), (.iload 8, 2), (.imul, 1), (.iconst 1, 1), (.iadd, 1), (.iaload, 1)] (140, [(10, .inl 0), (9, .inl 0), (8, .inl 0), (0, z_r 0), (1, z_r 78), (2, z_r 79), (3, z_r 80), (4, z_r 81), (5, z_r 82), (6, z_r 83), (7, .inl 0)], [.inl (S 78 1)], zW T' (zwG G' q4) S n4, 8, 48) (by decide +kernel) rfl ⟨trivial, trivial, trivial, trivial, trivial, trivial, ⟨rfl, (show vp_in 1 60 by unfold vp_in; decide)⟩, trivial⟩ ?_
  rw [show (S 78 1) = 0 from h.a1]
  refine z_go2 M.1 140 [(.istore 11, 2), (.aload_n 0, 1), (.iload 8, 2), (.iload 10, 2)] (147, [(11, .inl 0), (10, .inl 0), (9, .inl 0), (8, .inl 0), (0, z_r 0), (1, z_r 78), (2, z_r 79), (3, z_r 80), (4, z_r 81), (5, z_r 82), (6, z_r 83), (7, .inl 0)], [.inl 0, .inl 0, z_r 0], zW T' (zwG G' q4) S n4, 8, 48) (by decide +kernel) rfl ⟨trivial, trivial, trivial, trivial, trivial⟩ ?_
  refine z_callVX M.1 (av := [.inl 0, .inl 0]) (st := []) (a := 0) (ci := 11) (by decide +kernel) (c_T_stateOn T' (zwG G' q4) S n4 0 0 h.so) M.2.1 zl_L_70 (z_wi 1193 (by decide +kernel) rfl) zv_T_stateOn rfl rfl rfl ⟨by decide, by decide, by decide, by decide⟩ rfl (Nat.le_of_ble_eq_true rfl) (fun E w' hx => ?_) (fun v w' hv => ?_)
  · obtain ⟨S', n2, hn2, h0, rfl⟩ := hx
    rw [h.fo] at h0
    cases h0
  obtain ⟨x, S', h0, rfl, rfl⟩ := hv
  rw [h.fo] at h0
  have h1 : S = S' := congrArg Prod.snd h0
  have h2 : (0 : Int32) = x := Sum.inr.inj (congrArg Prod.fst h0)
  subst h1
  subst h2
  show z_G X zm_L_same (150, [(11, .inl 0), (10, .inl 0), (9, .inl 0), (8, .inl 0), (0, z_r 0), (1, z_r 78), (2, z_r 79), (3, z_r 80), (4, z_r 81), (5, z_r 82), (6, z_r 83), (7, .inl 0)], [.inl 0], zW T' (zwG G' q4) S n4, 9, 54)
  refine z_go2 M.1 150 [(.iload 11, 2)] (152, [(11, .inl 0), (10, .inl 0), (9, .inl 0), (8, .inl 0), (0, z_r 0), (1, z_r 78), (2, z_r 79), (3, z_r 80), (4, z_r 81), (5, z_r 82), (6, z_r 83), (7, .inl 0)], [.inl 0, .inl 0], zW T' (zwG G' q4) S n4, 9, 54) (by decide +kernel) rfl ⟨trivial, trivial⟩ ?_
  refine z_icmp_ne 168 M.1 (off := 16) (by decide +kernel) (by decide) (fun c => absurd c (by decide)) (fun _ => ?_)
  refine z_go2 M.1 155 [(.aload_n 0, 1), (.iload 8, 2), (.iload 10, 2)] (160, [(11, .inl 0), (10, .inl 0), (9, .inl 0), (8, .inl 0), (0, z_r 0), (1, z_r 78), (2, z_r 79), (3, z_r 80), (4, z_r 81), (5, z_r 82), (6, z_r 83), (7, .inl 0)], [.inl 0, .inl 0, z_r 0], zW T' (zwG G' q4) S n4, 9, 54) (by decide +kernel) rfl ⟨trivial, trivial, trivial, trivial⟩ ?_
  refine z_callVX M.1 (av := [.inl 0, .inl 0]) (st := []) (a := 0) (ci := 11) (by decide +kernel) (c_T_stateOnAnew T' (zwG G' q4) S n4 0 0 h.sn) M.2.1 zl_L_74 (z_wi 1197 (by decide +kernel) rfl) zv_T_stateOnAnew rfl rfl rfl ⟨by decide, by decide, by decide, by decide⟩ rfl (Nat.le_of_ble_eq_true rfl) (fun E w' hx => ?_) (fun v w' hv => ?_)
  · obtain ⟨S', n2, hn2, h0, rfl⟩ := hx
    rw [h.fn] at h0
    cases h0
  obtain ⟨x, S', h0, rfl, rfl⟩ := hv
  rw [h.fn] at h0
  have h1 : S = S' := congrArg Prod.snd h0
  have h2 : (0 : Int32) = x := Sum.inr.inj (congrArg Prod.fst h0)
  subst h1
  subst h2
  show z_G X zm_L_same (163, [(11, .inl 0), (10, .inl 0), (9, .inl 0), (8, .inl 0), (0, z_r 0), (1, z_r 78), (2, z_r 79), (3, z_r 80), (4, z_r 81), (5, z_r 82), (6, z_r 83), (7, .inl 0)], [.inl 0], zW T' (zwG G' q4) S n4, 10, 60)
  refine z_go2 M.1 163 [(.iload 11, 2)] (165, [(11, .inl 0), (10, .inl 0), (9, .inl 0), (8, .inl 0), (0, z_r 0), (1, z_r 78), (2, z_r 79), (3, z_r 80), (4, z_r 81), (5, z_r 82), (6, z_r 83), (7, .inl 0)], [.inl 0, .inl 0], zW T' (zwG G' q4) S n4, 10, 60) (by decide +kernel) rfl ⟨trivial, trivial⟩ ?_
  refine z_icmp_eq 170 M.1 (off := 5) (by decide +kernel) (by decide) (fun _ => ?_) (fun c => absurd c (by decide))
  refine z_go2 M.1 170 [(.iinc 10 1, 3), (.goto (-74), 3), (.iload 10, 2), (.aload 5, 2), (.iconst 2, 1), (.iaload, 1)] (105, [(10, .inl 1), (11, .inl 0), (9, .inl 0), (8, .inl 0), (0, z_r 0), (1, z_r 78), (2, z_r 79), (3, z_r 80), (4, z_r 81), (5, z_r 82), (6, z_r 83), (7, .inl 0)], [.inl (S 82 2), .inl 1], zW T' (zwG G' q4) S n4, 10, 60) (by decide +kernel) rfl ⟨trivial, trivial, trivial, trivial, trivial, ⟨rfl, (show vp_in 2 3 by unfold vp_in; decide)⟩, trivial⟩ ?_
  rw [show (S 82 2) = 0 from h.g2]
  refine z_icmp_gt 176 M.1 (off := 71) (by decide +kernel) (by decide) (fun _ => ?_) (fun c => absurd c (by decide))
  refine z_go2 M.1 176 [(.iinc 8 1, 3), (.goto (-176), 3), (.iload 8, 2), (.aload 5, 2), (.iconst 0, 1), (.iaload, 1)] (9, [(8, .inl 1), (10, .inl 1), (11, .inl 0), (9, .inl 0), (0, z_r 0), (1, z_r 78), (2, z_r 79), (3, z_r 80), (4, z_r 81), (5, z_r 82), (6, z_r 83), (7, .inl 0)], [.inl (S 82 0), .inl 1], zW T' (zwG G' q4) S n4, 10, 60) (by decide +kernel) rfl ⟨trivial, trivial, trivial, trivial, trivial, ⟨rfl, (show vp_in 0 3 by unfold vp_in; decide)⟩, trivial⟩ ?_
  rw [show (S 82 0) = 1 from h.g0]
  refine z_icmp_ge 182 M.1 (off := 173) (by decide +kernel) (by decide) (fun _ => ?_) (fun c => absurd c (by decide))
  refine z_go2 M.1 182 [(.aload_n 0, 1)] (183, [(8, .inl 1), (10, .inl 1), (11, .inl 0), (9, .inl 0), (0, z_r 0), (1, z_r 78), (2, z_r 79), (3, z_r 80), (4, z_r 81), (5, z_r 82), (6, z_r 83), (7, .inl 0)], [z_r 0], zW T' (zwG G' q4) S n4, 10, 60) (by decide +kernel) rfl ⟨trivial, trivial⟩ ?_
  refine z_callV M.1 (av := []) (st := []) (a := 0) (ci := 11) (by decide +kernel) (c_T_entries T' (zwG G' q4) S n4) M.2.1 zl_L_77 zv_T_entries rfl rfl rfl ⟨by decide, by decide, by decide, by decide⟩ rfl (Nat.le_of_ble_eq_true rfl) (fun v w' hv => ?_)
  obtain ⟨rfl, rfl⟩ := hv
  rw [show F_T_entries S = 2 from h.e]
  show z_G X zm_L_same (186, [(8, .inl 1), (10, .inl 1), (11, .inl 0), (9, .inl 0), (0, z_r 0), (1, z_r 78), (2, z_r 79), (3, z_r 80), (4, z_r 81), (5, z_r 82), (6, z_r 83), (7, .inl 0)], [.inl 2], zW T' (zwG G' q4) S n4, 10, 60)
  refine z_go2 M.1 186 [(.aload 5, 2), (.iconst 1, 1), (.iaload, 1)] (190, [(8, .inl 1), (10, .inl 1), (11, .inl 0), (9, .inl 0), (0, z_r 0), (1, z_r 78), (2, z_r 79), (3, z_r 80), (4, z_r 81), (5, z_r 82), (6, z_r 83), (7, .inl 0)], [.inl (S 82 1), .inl 2], zW T' (zwG G' q4) S n4, 10, 60) (by decide +kernel) rfl ⟨trivial, trivial, ⟨rfl, (show vp_in 1 3 by unfold vp_in; decide)⟩, trivial⟩ ?_
  rw [show (S 82 1) = 2 from h.g1]
  refine z_icmp_ne 197 M.1 (off := 7) (by decide +kernel) (by decide) (fun c => absurd c (by decide)) (fun _ => ?_)
  refine z_go2 M.1 193 [(.iconst 1, 1), (.goto 4, 3)] (198, [(8, .inl 1), (10, .inl 1), (11, .inl 0), (9, .inl 0), (0, z_r 0), (1, z_r 78), (2, z_r 79), (3, z_r 80), (4, z_r 81), (5, z_r 82), (6, z_r 83), (7, .inl 0)], [.inl 1], zW T' (zwG G' q4) S n4, 10, 60) (by decide +kernel) rfl ⟨trivial, trivial, trivial⟩ ?_
  exact z_iret M (by decide +kernel) .boolean rfl rfl (by decide) (by decide) ⟨n4, q4, by omega, rfl, rfl⟩
