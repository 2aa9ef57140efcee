section ZCALL
variable {X : z_X} {Y Y' : z_Y} {pc nc ns idx : Nat} {lv : List (Nat × z_V)} {st stk av : List z_V} {w : z_W} {rm rm' : Room} {Post : Option z_V → z_W → Prop} {PX : String → z_W → Prop}
theorem z_pre {p : Program} {l : Launch} {e : Env} {R : Room} {s : State} {m : MethodId} {args : Array Value} {D : va_G} {cA : Nat → ClassId} {N0 : Nat} {b : z_B} {H : Heap} {locs : List Loc} (henv : z_env D cA N0 b s s.heap) (hR : z_rep D cA N0 w H) (hS : va_S (fun q => N0 ≤ q) s.heap H locs) :
    FrameBlind (z_Pc D cA N0 b av w) ∧ ∀ U : State, U.heap = H → s.WarmedH U.vm → z_Pc D cA N0 b av w (av.map (z_c N0 b)).toArray U :=
  ⟨z_Pc_blind, fun U hU hW => ⟨rfl, by rw [hU]; exact (henv.kept hS.2.1).warm hW, by rw [hU]; exact hR⟩⟩
theorem z_callS (C : z_C X Y) (hd : decode Y.2.1 pc = .ok (.invokestatic idx, 3)) (hrun : z_Run rm' Y' av w Post) (hrm : X.2.2.2.1 = rm) (hk : z_lk Y.1.cls idx Y' av.length) (hst9 : Cond.static Y'.1 ∈ z_WB) (hf : z_fit rm rm' Y' nc ns) (hstk : stk = av.reverse ++ st) (h8 : (st.map z_ct).sum ≤ 8)
    (kk : ∀ v w', Post v w' → z_G X Y (pc + 3, lv, v.toList ++ st, w', nc + rm'.cells, ns + rm'.slots)) : z_G X Y (pc, lv, stk, w, nc, ns) := by
  obtain ⟨p, l, e, R, s, m, args, below, meth, c, Q, D, cA, N0, b⟩ := X
  obtain ⟨y0, bs, nL, ret, ft⟩ := Y
  obtain ⟨y1, bs1, nL1, ret1, ft1⟩ := Y'
  obtain ⟨hx, hb, hml, hown, hts, henv, hlk, hrt, hnm, hft, htr, hN0⟩ := C
  intro H locs ls hR hS hl
  cases hrm
  subst hstk
  obtain ⟨hcode, hini, hy, hn, hl2⟩ := hk
  obtain ⟨f1, f2, f3, f4⟩ := hf
  have hpre := z_pre (p := p) (l := l) (e := e) (R := R) (m := m) (args := args) (b := b) (av := av) henv hR hS
  have hn2 : ∀ sig, parseMethodDescriptor y1.desc = some sig → av.length = sig.parameters.length := fun sig h => by
    rw [h] at hn; exact (Option.some.inj hn).symm
  have hlen : (av.map (z_c N0 b)).length = av.length := List.length_map ..
  have hstack : ((av.reverse ++ st).map (z_c N0 b)) = (av.map (z_c N0 b)).reverse ++ st.map (z_c N0 b) := by rw [List.map_append, List.map_reverse]
  have h88 : ((st.map (z_c N0 b)).map fun v => v.category).sum ≤ 8 := by rw [z_cat]; exact h8
  have kk' : ∀ (v : Option z_V) (w' : z_W) (H1 : Heap) (locs1 : List Loc), Post v w' → z_rep D cA N0 w' H1 → va_S (fun q => N0 ≤ q) s.heap H1 locs1 → W p l e R s m args below meth c H1 locs1 (nc + rm'.cells) (ns + rm'.slots) Q (F0 m (pc + 3) ls ((v.map (z_c N0 b)).toList ++ st.map (z_c N0 b))) := by
    intro v w' H1 locs1 h1 h2 h3
    have h9 := kk v w' h1 H1 locs1 ls h2 h3 hl
    cases v <;> exact h9
  rcases hl2 with h1 | ⟨host, h1⟩
  · refine z_cont (rest := st.map (z_c N0 b)) (a := (av.map (z_c N0 b)).toArray) (va_runS (nL := nL) (own := y0.cls) ⟨hx, hb, hml, hown, hts⟩ (hrun l D cA N0 b htr) ⟨⟨rfl, rfl, f1, f2, z_good hts hcode, List.mem_cons_self, hts _ hcode, hts _ hini, hy, hn2, hts _ h1⟩, hts _ hst9⟩ hpre rfl hlen hl.1 hstack (lv_room h88) hd ⟨f3, f4⟩) hS kk'
  · refine z_cont (rest := st.map (z_c N0 b)) (a := (av.map (z_c N0 b)).toArray) (va_runSN (nL := nL) (own := y0.cls) ⟨hx, hb, hml, hown, hts⟩ (hrun l D cA N0 b htr) ⟨⟨⟨rfl, rfl, f1, f2, z_good hts hcode, List.mem_cons_self⟩, hts _ hcode, hts _ hini, hy, hn2, va_Nw.use rfl (henv.2.2.2.1 _ h1)⟩, hts _ hst9, trivial⟩ hpre rfl hlen hl.1 hstack (lv_room h88) hd ⟨f3, f4⟩) hS kk'
theorem z_callV {a ci : Nat} {r : vw_C} (C : z_C X Y) (hd : decode Y.2.1 pc = .ok (.invokevirtual idx, 3)) (hrun : z_Run rm' Y' (z_r a :: av) w Post) (hrm : X.2.2.2.1 = rm) (hk : z_lk Y.1.cls idx Y' av.length) (h2 : Cond.instanceMethod Y'.1 ∈ z_WB ∧ Cond.selects Y'.1.cls Y'.1 Y'.1 ∈ z_WB) (hT : w.1 a = (1, ci)) (hc : vwCl[ci]? = some r) (hcl : r.1 = Y'.1.cls) (hf : z_fit rm rm' Y' nc ns) (hstk : stk = av.reverse ++ z_r a :: st) (h8 : (st.map z_ct).sum ≤ 8)
    (kk : ∀ v w', Post v w' → z_G X Y (pc + 3, lv, v.toList ++ st, w', nc + rm'.cells, ns + rm'.slots)) : z_G X Y (pc, lv, stk, w, nc, ns) := by
  obtain ⟨p, l, e, R, s, m, args, below, meth, c, Q, D, cA, N0, b⟩ := X
  obtain ⟨y0, bs, nL, ret, ft⟩ := Y
  obtain ⟨y1, bs1, nL1, ret1, ft1⟩ := Y'
  obtain ⟨hx, hb, hml, hown, hts, henv, hlk, hrt, hnm, hft, htr, hN0⟩ := C
  intro H locs ls hR hS hl
  cases hrm
  subst hstk
  obtain ⟨hcode, hini, hy, hn, hl2⟩ := hk
  obtain ⟨f1, f2, f3, f4⟩ := hf
  have hpre := z_pre (p := p) (l := l) (e := e) (R := R) (m := m) (args := args) (b := b) (av := z_r a :: av) henv hR hS
  have hA := hR.2 a
  rw [hT] at hA
  obtain ⟨r', hr', cell, g1, g2, g3, -⟩ := hA
  cases hc.symm.trans hr'
  have hrecv : ∃ cellB : Cell, H[N0 + a]? = some cellB ∧ cellB.vm.isStatics = false ∧ s.vm.findClass y1.cls = some cellB.cls := ⟨cell, g1, by rw [g3]; rfl, by rw [g2, ← hcl]; exact (henv.1.1 ci r hc).2.1⟩
  have hn2 : ∀ sig, parseMethodDescriptor y1.desc = some sig → av.length = sig.parameters.length := fun sig h => by
    rw [h] at hn; exact (Option.some.inj hn).symm
  have hlen : (av.map (z_c N0 b)).length = av.length := List.length_map ..
  have hstack : ((av.reverse ++ z_r a :: st).map (z_c N0 b)) = (av.map (z_c N0 b)).reverse ++ Value.ref (N0 + a) :: st.map (z_c N0 b) := by rw [List.map_append, List.map_reverse]; rfl
  have h88 : ((st.map (z_c N0 b)).map fun v => v.category).sum ≤ 8 := by rw [z_cat]; exact h8
  have kk' : ∀ (v : Option z_V) (w' : z_W) (H1 : Heap) (locs1 : List Loc), Post v w' → z_rep D cA N0 w' H1 → va_S (fun q => N0 ≤ q) s.heap H1 locs1 → W p l e R s m args below meth c H1 locs1 (nc + rm'.cells) (ns + rm'.slots) Q (F0 m (pc + 3) ls ((v.map (z_c N0 b)).toList ++ st.map (z_c N0 b))) := by
    intro v w' H1 locs1 h1 h2 h3
    have h9 := kk v w' h1 H1 locs1 ls h2 h3 hl
    cases v <;> exact h9
  rcases hl2 with h1 | ⟨host, h1⟩
  · refine z_cont (rest := st.map (z_c N0 b)) (a := (Value.ref (N0 + a) :: av.map (z_c N0 b)).toArray) (va_runV (nL := nL) (own := y0.cls) (C := y1.cls) ⟨hx, hb, hml, hown, hts⟩ (hrun l D cA N0 b htr) ⟨⟨rfl, rfl, f1, f2, z_good hts hcode, List.mem_cons_self, hts _ hcode, hts _ hini, hy, hn2, hts _ h1⟩, hts _ h2.1, hts _ h2.2⟩ ⟨hpre.1, hrecv, hpre.2⟩ rfl hlen hl.1 hstack (lv_room h88) hd ⟨f3, f4⟩) hS kk'
  · refine z_cont (rest := st.map (z_c N0 b)) (a := (Value.ref (N0 + a) :: av.map (z_c N0 b)).toArray) (va_runVN (nL := nL) (own := y0.cls) (C := y1.cls) ⟨hx, hb, hml, hown, hts⟩ (hrun l D cA N0 b htr) ⟨⟨⟨rfl, rfl, f1, f2, z_good hts hcode, List.mem_cons_self⟩, hts _ hcode, hts _ hini, hy, hn2, va_Nw.use rfl (henv.2.2.2.1 _ h1)⟩, hts _ h2.1, hts _ h2.2⟩ ⟨hpre.1, hrecv, hpre.2⟩ rfl hlen hl.1 hstack (lv_room h88) hd ⟨f3, f4⟩) hS kk'
theorem z_callI {a : Nat} (C : z_C X Y) (hd : decode Y.2.1 pc = .ok (.invokespecial idx, 3)) (hrun : z_Run rm' Y' (z_r a :: av) w Post) (hrm : X.2.2.2.1 = rm) (hk : z_lk Y.1.cls idx Y' av.length) (hin : Y'.1.name = "<init>") (hret : Y'.2.2.2.1 = none) (h2 : Cond.instanceMethod Y'.1 ∈ z_WB) (hf : z_fit rm rm' Y' nc ns) (hstk : stk = av.reverse ++ z_r a :: st) (h8 : (st.map z_ct).sum ≤ 8)
    (kk : ∀ v w', Post v w' → z_G X Y (pc + 3, lv, v.toList ++ st, w', nc + rm'.cells, ns + rm'.slots)) : z_G X Y (pc, lv, stk, w, nc, ns) := by
  obtain ⟨p, l, e, R, s, m, args, below, meth, c, Q, D, cA, N0, b⟩ := X
  obtain ⟨y0, bs, nL, ret, ft⟩ := Y
  obtain ⟨y1, bs1, nL1, ret1, ft1⟩ := Y'
  obtain ⟨hx, hb, hml, hown, hts, henv, hlk, hrt, hnm, hft, htr, hN0⟩ := C
  intro H locs ls hR hS hl
  cases hrm
  subst hstk
  cases hret
  obtain ⟨hcode, hini, hy, hn, hl2⟩ := hk
  obtain ⟨f1, f2, f3, f4⟩ := hf
  have hpre := z_pre (p := p) (l := l) (e := e) (R := R) (m := m) (args := args) (b := b) (av := z_r a :: av) henv hR hS
  have hn2 : ∀ sig, parseMethodDescriptor y1.desc = some sig → av.length = sig.parameters.length := fun sig h => by
    rw [h] at hn; exact (Option.some.inj hn).symm
  have hlen : (av.map (z_c N0 b)).length = av.length := List.length_map ..
  have hstack : ((av.reverse ++ z_r a :: st).map (z_c N0 b)) = (av.map (z_c N0 b)).reverse ++ Value.ref (N0 + a) :: st.map (z_c N0 b) := by rw [List.map_append, List.map_reverse]; rfl
  have h88 : ((st.map (z_c N0 b)).map fun v => v.category).sum ≤ 8 := by rw [z_cat]; exact h8
  have kk' : ∀ (v : Option z_V) (w' : z_W) (H1 : Heap) (locs1 : List Loc), Post v w' → z_rep D cA N0 w' H1 → va_S (fun q => N0 ≤ q) s.heap H1 locs1 → W p l e R s m args below meth c H1 locs1 (nc + rm'.cells) (ns + rm'.slots) Q (F0 m (pc + 3) ls ((v.map (z_c N0 b)).toList ++ st.map (z_c N0 b))) := by
    intro v w' H1 locs1 h1 h2 h3
    have h9 := kk v w' h1 H1 locs1 ls h2 h3 hl
    cases v <;> exact h9
  rcases hl2 with h1 | ⟨host, h1⟩
  · refine z_cont (rest := st.map (z_c N0 b)) (a := (Value.ref (N0 + a) :: av.map (z_c N0 b)).toArray) (va_runI (nL := nL) (own := y0.cls) ⟨hx, hb, hml, hown, hts⟩ (hrun l D cA N0 b htr) ⟨⟨rfl, rfl, f1, f2, z_good hts hcode, List.mem_cons_self, hts _ hcode, hts _ hini, hy, hn2, hts _ h1⟩, hin, hts _ h2⟩ ⟨hpre.1, hpre.2⟩ rfl hlen hl.1 hstack (lv_room h88) hd ⟨f3, f4⟩) hS kk'
  · refine z_cont (rest := st.map (z_c N0 b)) (a := (Value.ref (N0 + a) :: av.map (z_c N0 b)).toArray) (va_runIN (nL := nL) (own := y0.cls) ⟨hx, hb, hml, hown, hts⟩ (hrun l D cA N0 b htr) ⟨⟨⟨rfl, rfl, f1, f2, z_good hts hcode, List.mem_cons_self⟩, hts _ hcode, hts _ hini, hy, hn2, va_Nw.use rfl (henv.2.2.2.1 _ h1)⟩, hin, hts _ h2⟩ ⟨hpre.1, hpre.2⟩ rfl hlen hl.1 hstack (lv_room h88) hd ⟨f3, f4⟩) hS kk'
theorem z_callSX (C : z_C X Y) (hd : decode Y.2.1 pc = .ok (.invokestatic idx, 3)) (hrun : z_RunX rm' Y' av w Post PX) (hrm : X.2.2.2.1 = rm) (hk : z_lk Y.1.cls idx Y' av.length) (hl9 : Cond.methodLink Y.1.cls idx Y'.1 ∈ z_WB) (hst9 : Cond.static Y'.1 ∈ z_WB) (hf : z_fit rm rm' Y' nc ns) (hstk : stk = av.reverse ++ st) (h8 : (st.map z_ct).sum ≤ 8)
    (kx : ∀ E w', PX E w' → z_GX X Y E (pc, lv, st, w', nc + rm'.cells, ns + rm'.slots)) (kk : ∀ v w', Post v w' → z_G X Y (pc + 3, lv, v.toList ++ st, w', nc + rm'.cells, ns + rm'.slots)) : z_G X Y (pc, lv, stk, w, nc, ns) := by
  obtain ⟨p, l, e, R, s, m, args, below, meth, c, Q, D, cA, N0, b⟩ := X
  obtain ⟨y0, bs, nL, ret, ft⟩ := Y
  obtain ⟨y1, bs1, nL1, ret1, ft1⟩ := Y'
  obtain ⟨hx, hb, hml, hown, hts, henv, hlk, hrt, hnm, hft, htr, hN0⟩ := C
  intro H locs ls hR hS hl
  cases hrm
  subst hstk
  obtain ⟨hcode, hini, hy, hn, hl2⟩ := hk
  obtain ⟨f1, f2, f3, f4⟩ := hf
  have hpre := z_pre (p := p) (l := l) (e := e) (R := R) (m := m) (args := args) (b := b) (av := av) henv hR hS
  have hn2 : ∀ sig, parseMethodDescriptor y1.desc = some sig → av.length = sig.parameters.length := fun sig h => by
    rw [h] at hn; exact (Option.some.inj hn).symm
  have hlen : (av.map (z_c N0 b)).length = av.length := List.length_map ..
  have hstack : ((av.reverse ++ st).map (z_c N0 b)) = (av.map (z_c N0 b)).reverse ++ st.map (z_c N0 b) := by rw [List.map_append, List.map_reverse]
  have h88 : ((st.map (z_c N0 b)).map fun v => v.category).sum ≤ 8 := by rw [z_cat]; exact h8
  refine z_contX (rest := st.map (z_c N0 b)) (a := (av.map (z_c N0 b)).toArray) (vx_runS (nL := nL) (own := y0.cls) ⟨hx, hb, hml, hown, hts⟩ (hrun l D cA N0 b htr) ⟨⟨rfl, rfl, f1, f2, z_good hts hcode, List.mem_cons_self, hts _ hcode, hts _ hini, hy, hn2, hts _ hl9⟩, hts _ hst9⟩ hpre rfl hlen hl.1 hstack (lv_room h88) hd ⟨f3, f4⟩) hS (fun E w' H1 locs1 ce q h1 h2 h3 h4 h5 h6 => kx E w' h1 H1 locs1 ls ce q h2 h3 hl h4 h5 h6) ?_
  intro v w' H1 locs1 h1 h2 h3
  have h9 := kk v w' h1 H1 locs1 ls h2 h3 hl
  cases v <;> exact h9
theorem z_callVX {a ci : Nat} {r : vw_C} (C : z_C X Y) (hd : decode Y.2.1 pc = .ok (.invokevirtual idx, 3)) (hrun : z_RunX rm' Y' (z_r a :: av) w Post PX) (hrm : X.2.2.2.1 = rm) (hk : z_lk Y.1.cls idx Y' av.length) (hl9 : Cond.methodLink Y.1.cls idx Y'.1 ∈ z_WB) (h2 : Cond.instanceMethod Y'.1 ∈ z_WB ∧ Cond.selects Y'.1.cls Y'.1 Y'.1 ∈ z_WB) (hT : w.1 a = (1, ci)) (hc : vwCl[ci]? = some r) (hcl : r.1 = Y'.1.cls) (hf : z_fit rm rm' Y' nc ns) (hstk : stk = av.reverse ++ z_r a :: st) (h8 : (st.map z_ct).sum ≤ 8)
    (kx : ∀ E w', PX E w' → z_GX X Y E (pc, lv, st, w', nc + rm'.cells, ns + rm'.slots)) (kk : ∀ v w', Post v w' → z_G X Y (pc + 3, lv, v.toList ++ st, w', nc + rm'.cells, ns + rm'.slots)) : z_G X Y (pc, lv, stk, w, nc, ns) := by
  obtain ⟨p, l, e, R, s, m, args, below, meth, c, Q, D, cA, N0, b⟩ := X
  obtain ⟨y0, bs, nL, ret, ft⟩ := Y
  obtain ⟨y1, bs1, nL1, ret1, ft1⟩ := Y'
  obtain ⟨hx, hb, hml, hown, hts, henv, hlk, hrt, hnm, hft, htr, hN0⟩ := C
  intro H locs ls hR hS hl
  cases hrm
  subst hstk
  obtain ⟨hcode, hini, hy, hn, hl2⟩ := hk
  obtain ⟨f1, f2, f3, f4⟩ := hf
  have hpre := z_pre (p := p) (l := l) (e := e) (R := R) (m := m) (args := args) (b := b) (av := z_r a :: av) henv hR hS
  have hA := hR.2 a
  rw [hT] at hA
  obtain ⟨r', hr', cell, g1, g2, g3, -⟩ := hA
  cases hc.symm.trans hr'
  have hrecv : ∃ cellB : Cell, H[N0 + a]? = some cellB ∧ cellB.vm.isStatics = false ∧ s.vm.findClass y1.cls = some cellB.cls := ⟨cell, g1, by rw [g3]; rfl, by rw [g2, ← hcl]; exact (henv.1.1 ci r hc).2.1⟩
  have hn2 : ∀ sig, parseMethodDescriptor y1.desc = some sig → av.length = sig.parameters.length := fun sig h => by
    rw [h] at hn; exact (Option.some.inj hn).symm
  have hlen : (av.map (z_c N0 b)).length = av.length := List.length_map ..
  have hstack : ((av.reverse ++ z_r a :: st).map (z_c N0 b)) = (av.map (z_c N0 b)).reverse ++ Value.ref (N0 + a) :: st.map (z_c N0 b) := by rw [List.map_append, List.map_reverse]; rfl
  have h88 : ((st.map (z_c N0 b)).map fun v => v.category).sum ≤ 8 := by rw [z_cat]; exact h8
  refine z_contX (rest := st.map (z_c N0 b)) (a := (Value.ref (N0 + a) :: av.map (z_c N0 b)).toArray) (vx_runV (nL := nL) (own := y0.cls) (C := y1.cls) ⟨hx, hb, hml, hown, hts⟩ (hrun l D cA N0 b htr) ⟨⟨rfl, rfl, f1, f2, z_good hts hcode, List.mem_cons_self, hts _ hcode, hts _ hini, hy, hn2, hts _ hl9⟩, hts _ h2.1, hts _ h2.2⟩ ⟨hpre.1, hrecv, hpre.2⟩ rfl hlen hl.1 hstack (lv_room h88) hd ⟨f3, f4⟩) hS (fun E w' H1 locs1 ce q h1 h2 h3 h4 h5 h6 => kx E w' h1 H1 locs1 ls ce q h2 h3 hl h4 h5 h6) ?_
  intro v w' H1 locs1 h1 h2 h3
  have h9 := kk v w' h1 H1 locs1 ls h2 h3 hl
  cases v <;> exact h9
theorem z_objInit {a : Option Nat} (C : z_C X Y) (hd : decode Y.2.1 pc = .ok (.invokespecial idx, 3)) (hrm : X.2.2.2.1 = rm) (h1 : Cond.methodLink Y.1.cls idx Lib.objectInit ∈ z_WB) (h2 : Cond.instanceMethod Lib.objectInit ∈ z_WB) (h3 : Cond.code Lib.objectInit ⟨#[0xb1]⟩ 1 none ∈ z_WB) (ha : a.isSome) (hf : 1 ≤ rm.frames) (hlo : 20 ≤ rm.locals) (h8 : (st.map z_ct).sum ≤ 8)
    (kk : z_G X Y (pc + 3, lv, st, w, nc, ns)) : z_G X Y (pc, lv, .inr (.inl a) :: st, w, nc, ns) := by
  obtain ⟨p, l, e, R, s, m, args, below, meth, c, Q, D, cA, N0, b⟩ := X
  obtain ⟨y0, bs, nL, ret, ft⟩ := Y
  obtain ⟨hx, hb, hml, hown, hts, henv, hlk, hrt, hnm, hft, htr, hN0⟩ := C
  intro H locs ls hR hS hl
  cases hrm
  cases a with
  | none => cases ha
  | some a =>
    have h88 : ((st.map (z_c N0 b)).map fun v => v.category).sum ≤ 8 := by rw [z_cat]; exact h8
    have h9 := lv_room (m := m) (pc := pc) (ls := ls) (rest := z_c N0 b (z_r a) :: st.map (z_c N0 b)) h88
    exact W.objInit hx hb hown (hts _ h1) (hts _ h2) (hts _ h3) (g := F0 m pc ls (z_c N0 b (z_r a) :: st.map (z_c N0 b))) rfl (hl.1.trans hml.symm) rfl hd hf (by have h20 : 20 ≤ R.locals := hlo; omega) (kk H locs ls hR hS hl)
end ZCALL
