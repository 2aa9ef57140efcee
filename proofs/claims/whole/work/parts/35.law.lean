/-! THE LAW's METHODS WITH HANDLERS -/
def z_wsH (Y : z_Y) (hh : List (Nat × Nat × Nat × Nat)) : List Cond := Cond.codeWith Y.1 Y.2.1 Y.2.2.1 Y.2.2.2.1 hh :: z_WB
def z_RunH (rm : Room) (Y : z_Y) (hh : List (Nat × Nat × Nat × Nat)) (av : List z_V) (w : z_W) (Post : Option z_V → z_W → Prop) : Prop :=
  ∀ (l : Launch) (D : va_G) (cA : Nat → ClassId) (N0 : Nat) (b : z_B), l.stackTraces = false → vx_Met l Y.1 (z_wsH Y hh) rm (z_Pc D cA N0 b av w) (z_Qc D cA N0 b Post) (z_XC D cA N0 (fun _ _ => False)) rm.cells rm.slots (fun q => N0 ≤ q)
def z_TB (X : z_X) (hh : List (Nat × Nat × Nat × Nat)) : Prop := X.2.2.2.2.2.2.2.2.2.1.exceptionTable.toList = tableOf hh
theorem z_bodyH {rm : Room} {Y : z_Y} {hh : List (Nat × Nat × Nat × Nat)} {av : List z_V} {w : z_W} {Post : Option z_V → z_W → Prop} (hy : plainName Y.1.cls = true) (hft : ∀ q ∈ Y.2.2.2.2, z_fok Y.1.cls q) (hn : (av.map z_ct).sum ≤ Y.2.2.1)
    (hb : ∀ X : z_X, z_M X Y rm Post → z_TB X hh → z_G X Y (0, z_args 0 av, [], w, 0, 0)) : z_RunH rm Y hh av w Post := by
  intro l D cA N0 b htr
  obtain ⟨y, bs, nL, ret, ft⟩ := Y
  refine vx_ofWH (cc := bs) (maxL := nL) (ret := ret) (hh := hh) hy rfl ?_
  intro p e s m args below meth c s₁ B hml hv
  obtain ⟨rfl, henv, hrep⟩ := hv
  have hts := atoms_spec (ws := z_wsH (y, bs, nL, ret, ft) hh) B.pre
  have htb := vx_table (x := y) B (hts _ List.mem_cons_self)
  have hl := lv_entry (av.map (z_c N0 b)) (n := nL) (by rw [z_sl_len]; exact hn)
  rw [z_args_eq] at hl
  rw [lg_entry_eq]
  exact hb (p, l, e, rm, s, m, (av.map (z_c N0 b)).toArray, below, meth, c, vx_MQ below (z_Qc D cA N0 b Post) (z_XC D cA N0 (fun _ _ => False)) (av.map (z_c N0 b)).toArray s rm.cells rm.slots (fun q => N0 ≤ q), D, cA, N0, b)
    ⟨⟨B.exec, B.bytes, hml, findClass_of_methodNamed B.named, fun w h => hts w (List.mem_cons_of_mem _ h), henv, B.notSynchronized, B.returns, (name_of_methodNamed B.named B.method).1, hft, htr, by have := hrep.1; omega⟩, rfl, fun H locs g k => vx_ret k⟩ htb s.heap [] _ hrep va_S.rf hl
theorem z_catch {X : z_X} {Y : z_Y} {hh : List (Nat × Nat × Nat × Nat)} {pc nc ns : Nat} {lv : List (Nat × z_V)} {st : List z_V} {w : z_W} {E : String} (C : z_C X Y) (TB : z_TB X hh) (pre suf : List (Nat × Nat × Nat × Nat)) (f t h ct : Nat) (hs : hh = pre ++ (f, t, h, ct) :: suf)
    (hp : ∀ z ∈ pre, z.2.2.2 ≠ 0 ∧ ∃ nm, Cond.classLink Y.1.cls z.2.2.2 nm ∈ z_WB ∧ (E, nm) ∈ z_NC) (hcov : covers ⟨f, t, h, ct⟩ pc = true) (h0 : ct ≠ 0) (hl1 : Cond.classLink Y.1.cls ct E ∈ z_WB) (hca : Cond.castable E E ∈ z_NB) {i : Nat}
    (hd : decode Y.2.1 h = .ok (.astore i, 2) ∨ (∃ k : Fin 4, (k : Nat) = i ∧ decode Y.2.1 h = .ok (.astore_n k, 1))) (hi : i < Y.2.2.1) (k : ∀ g, (g = h + 2 ∧ decode Y.2.1 h = .ok (.astore i, 2)) ∨ (g = h + 1 ∧ ∃ k : Fin 4, decode Y.2.1 h = .ok (.astore_n k, 1)) → z_G X Y (g, [], [], w, nc, ns)) : z_GX X Y E (pc, lv, st, w, nc, ns) := by
  obtain ⟨p, l, e, R, s, m, args, below, meth, c, Q, D, cA, N0, b⟩ := X
  obtain ⟨y0, bs, nL, ret, ft⟩ := Y
  obtain ⟨hx, hb, hml, hown, hts, henv, hlk, hrt, hnm, hft, htr, hN0⟩ := C
  intro H locs ls ce q hR hS hl hce hcv hcl
  have hTB : c.exceptionTable.toList = tableOf hh := TB
  refine vx_catch (own := y0.cls) (name := E) (E := E) (ce := ce) hown (tableOf pre) ⟨f, t, h, ct⟩ (tableOf suf) (by rw [hTB, hs]; simp [tableOf]) (fun z hz => ?_) hcov h0 (hts _ hl1) (va_Nw.use rfl (henv.2.2.2.1 _ hca)) hce hcv hcl ?_
  · obtain ⟨z0, hz0, rfl⟩ := List.mem_map.mp hz
    obtain ⟨g1, nm, g2, g3⟩ := hp z0 hz0
    exact Or.inr ⟨g1, nm, hts _ g2, henv.2.2.2.2.2.1 _ g3⟩
  · have weak : ∀ (ls' : Array Slot) (lv' : List (Nat × Value)), lv_has ls' nL lv' → lv_has ls' nL [] := fun ls' lv' h => ⟨h.1, h.2.1, fun q hq => nomatch hq⟩
    rcases hd with hd | ⟨kf, hkf, hd⟩
    · exact lv_astore hx hb hd hl hi rfl (fun ls' h' => k _ (Or.inl ⟨rfl, hd⟩) H locs ls' hR hS (weak _ _ h'))
    · exact lv_astore_n hx hb hd hkf hl hi rfl (fun ls' h' => k _ (Or.inr ⟨rfl, kf, hd⟩) H locs ls' hR hS (weak _ _ h'))
theorem z_goodH {args : Array Value} {s : State} (hts : ∀ w ∈ z_WB, w.before args s = true) {Y' : z_Y} {hh : List (Nat × Nat × Nat × Nat)} (hc : Cond.codeWith Y'.1 Y'.2.1 Y'.2.2.1 Y'.2.2.2.1 hh ∈ z_WB) : ∀ w ∈ z_wsH Y' hh, ∀ (a' : Array Value) (U : State), s.WarmedH U.vm → w.before a' U = true := by
  have h1 : GoodIn z_WB (z_wsH Y' hh) := by
    intro w hw
    have hm : w ∈ z_WB := by
      rcases List.mem_cons.mp hw with h | h
      · rw [h]; exact hc
      · exact h
    exact ⟨hm, good_of_word (List.mem_filter.mp hm).2⟩
  exact pay_in hts h1
theorem z_callH {X : z_X} {Y Y' : z_Y} {hh : List (Nat × Nat × Nat × Nat)} {pc nc ns idx : Nat} {lv : List (Nat × z_V)} {st stk av : List z_V} {w : z_W} {rm rm' : Room} {Post : Option z_V → z_W → Prop} (C : z_C X Y) (hd : decode Y.2.1 pc = .ok (.invokestatic idx, 3)) (hrun : z_RunH rm' Y' hh av w Post) (hrm : X.2.2.2.1 = rm)
    (hcode : Cond.codeWith Y'.1 Y'.2.1 Y'.2.2.1 Y'.2.2.2.1 hh ∈ z_WB) (hini : Cond.initialized Y'.1.cls ∈ z_WB) (hy : Y'.1.cls ≠ "java/lang/invoke/MethodHandle" ∧ Y'.1.cls ≠ "java/lang/invoke/VarHandle") (hn : (parseMethodDescriptor Y'.1.desc).map (fun d => d.parameters.length) = some av.length) (hl9 : Cond.methodLink Y.1.cls idx Y'.1 ∈ z_WB) (hst9 : Cond.static Y'.1 ∈ z_WB) (hf : z_fit rm rm' Y' nc ns) (hstk : stk = av.reverse ++ st) (h8 : (st.map z_ct).sum ≤ 8)
    (kk : ∀ v w', Post v w' → z_G X Y (pc + 3, lv, v.toList ++ st, w', nc + rm'.cells, ns + rm'.slots)) : z_G X Y (pc, lv, stk, w, nc, ns) := by
  obtain ⟨p, l, e, R, s, m, args, below, meth, c, Q, D, cA, N0, b⟩ := X
  obtain ⟨y0, bs, nL, ret, ft⟩ := Y
  obtain ⟨y1, bs1, nL1, ret1, ft1⟩ := Y'
  obtain ⟨hx, hb, hml, hown, hts, henv, hlk, hrt, hnm, hft, htr, hN0⟩ := C
  intro H locs ls hR hS hl
  cases hrm
  subst hstk
  obtain ⟨f1, f2, f3, f4⟩ := hf
  have hpre := z_pre (p := p) (l := l) (e := e) (R := R) (m := m) (args := args) (b := b) (av := av) henv hR hS
  have hn2 : ∀ sig, parseMethodDescriptor y1.desc = some sig → av.length = sig.parameters.length := fun sig h => by
    rw [h] at hn; exact (Option.some.inj hn).symm
  have hlen : (av.map (z_c N0 b)).length = av.length := List.length_map ..
  have hstack : ((av.reverse ++ st).map (z_c N0 b)) = (av.map (z_c N0 b)).reverse ++ st.map (z_c N0 b) := by rw [List.map_append, List.map_reverse]
  have h88 : ((st.map (z_c N0 b)).map fun v => v.category).sum ≤ 8 := by rw [z_cat]; exact h8
  refine z_contX (PX := fun _ _ => False) (rest := st.map (z_c N0 b)) (a := (av.map (z_c N0 b)).toArray) (vx_runSX (hh := hh) (nL := nL) (own := y0.cls) ⟨hx, hb, hml, hown, hts⟩ (hrun l D cA N0 b htr) ⟨⟨rfl, rfl, f1, f2, z_goodH hts hcode, List.mem_cons_self⟩, hts _ hcode, hts _ hini, hy, hn2, hts _ hl9, hts _ hst9⟩ hpre rfl hlen hl.1 hstack (lv_room h88) hd ⟨f3, f4⟩) hS (fun E w' H1 locs1 ce q h1 => h1.elim) ?_
  intro v w' H1 locs1 h1 h2 h3
  have h9 := kk v w' h1 H1 locs1 ls h2 h3 hl
  cases v <;> exact h9

abbrev zm_L_grant : z_Y := (⟨"TrackHouseLaw", "grant", "(LTrackHouse;III[J)I"⟩, method_3_code, 6, some .int, [])
abbrev hh_L_grant : List (Nat × Nat × Nat × Nat) := [(0, 12, 15, 13), (0, 12, 19, 15), (0, 12, 23, 17)]
def F_L_grant (S : (Nat → Nat → Int32)) (p1 : Int32) (p2 : Int32) (p3 : Int32) : Int32 × (Nat → Nat → Int32) := match F_T_grant S p1 p2 p3 with | (.inl E, S2) => ((if E = "java/lang/IndexOutOfBoundsException" then 1 else (if E = "java/lang/IllegalArgumentException" then 2 else (if E = "java/lang/IllegalStateException" then 3 else 0))), S2) | (.inr x, S2) => (0, z_uS S2 193 0 x)
def Sf_L_grant (S : (Nat → Nat → Int32)) (p1 : Int32) (p2 : Int32) (p3 : Int32) : Prop := Sf_T_grant S p1 p2 p3 ∧ (∀ E S2, F_T_grant S p1 p2 p3 = (.inl E, S2) → E = "java/lang/IndexOutOfBoundsException" ∨ E = "java/lang/IllegalArgumentException" ∨ E = "java/lang/IllegalStateException")
abbrev rm_L_grant : Room := { frames := 8, cells := 3, slots := 18, locals := 480 }
theorem c_L_grant (T' : Nat → Nat × Nat) (G' : Nat → Nat → Option Nat) (q0 : Nat) (S : (Nat → Nat → Int32)) (n : Nat) (p1 : Int32) (p2 : Int32) (p3 : Int32) (hs : Sf_L_grant S p1 p2 p3) : z_RunH rm_L_grant zm_L_grant hh_L_grant [z_r 0, .inl p1, .inl p2, .inl p3, z_r 193] (zW T' (zwG G' q0) S n) (fun v w' => ∃ n2 q, n ≤ n2 ∧ v = some (.inl (F_L_grant S p1 p2 p3).1 : z_V) ∧ w' = zW T' (zwG G' q) (F_L_grant S p1 p2 p3).2 n2) := by
  refine z_bodyH (by decide) (fun q h => nomatch h) (Nat.le_of_ble_eq_true rfl) (fun X M TB => ?_)
  obtain ⟨hs, hE⟩ := hs
  show z_G X zm_L_grant (0, [(0, z_r 0), (1, .inl p1), (2, .inl p2), (3, .inl p3), (4, z_r 193)], [], zW T' (zwG G' q0) S n, 0, 0)
  refine z_go2 M.1 0 [(.aload 4, 2), (.iconst 0, 1), (.aload_n 0, 1), (.iload_n 1, 1), (.iload_n 2, 1), (.iload_n 3, 1)] (7, [(0, z_r 0), (1, .inl p1), (2, .inl p2), (3, .inl p3), (4, z_r 193)], [.inl p3, .inl p2, .inl p1, z_r 0, .inl 0, z_r 193], zW T' (zwG G' q0) S n, 0, 0) (by decide +kernel) rfl ⟨trivial, trivial, trivial, trivial, trivial, trivial, trivial⟩ ?_
  refine z_callVX M.1 (av := [.inl p1, .inl p2, .inl p3]) (st := [.inl 0, z_r 193]) (a := 0) (ci := 11) (by decide +kernel) (c_T_grant T' (zwG G' q0) S n p1 p2 p3 hs) M.2.1 zl_L_7 (z_wi 688 (by decide +kernel) rfl) zv_T_grant rfl rfl rfl ⟨by decide, by decide, by decide, by decide⟩ rfl (Nat.le_of_ble_eq_true rfl) (fun E w' hx => ?_) (fun v w' hv => ?_)
  · obtain ⟨S2, n2, hn2, h0, rfl⟩ := hx
    have hEE := hE _ _ h0
    have hF : F_L_grant S p1 p2 p3 = ((if E = "java/lang/IndexOutOfBoundsException" then 1 else (if E = "java/lang/IllegalArgumentException" then 2 else (if E = "java/lang/IllegalStateException" then 3 else 0))), S2) := by unfold F_L_grant; rw [h0]
    rcases hEE with rfl | rfl | rfl
    · refine z_catch M.1 TB [] [(0, 12, 19, 15), (0, 12, 23, 17)] 0 12 15 13 rfl (fun z hz => nomatch hz) (by decide) (by decide) (z_wi 685 (by decide +kernel) rfl) (z_ni 703 (by decide +kernel) rfl) (i := 5) (Or.inl (by decide +kernel)) (by decide) (fun g hg => ?_)
      have KK : z_G X zm_L_grant (17, [], [], zW T' (zwG G' q0) S2 n2, 3, 18) := by
        refine z_go2 M.1 17 [(.iconst 1, 1)] (18, [], [.inl 1], zW T' (zwG G' q0) S2 n2, 3, 18) (by decide +kernel) rfl ⟨trivial, trivial⟩ ?_
        exact z_iret M (by decide +kernel) .int rfl rfl (by decide) (by decide) ⟨n2, q0, hn2, by rw [hF]; simp, by rw [hF]⟩
      rcases hg with ⟨rfl, -⟩ | ⟨rfl, kk, h9⟩
      · exact KK
      · exact absurd (h9.symm.trans (show decode zm_L_grant.2.1 15 = .ok (.astore 5, 2) by decide +kernel)) (by simp)
    · refine z_catch M.1 TB [(0, 12, 15, 13)] [(0, 12, 23, 17)] 0 12 19 15 rfl (fun z hz => by obtain rfl := List.mem_singleton.mp hz; exact ⟨by decide, "java/lang/IndexOutOfBoundsException", z_wi 685 (by decide +kernel) rfl, by simp [z_NC]⟩) (by decide) (by decide) (z_wi 686 (by decide +kernel) rfl) (z_ni 777 (by decide +kernel) rfl) (i := 5) (Or.inl (by decide +kernel)) (by decide) (fun g hg => ?_)
      have KK : z_G X zm_L_grant (21, [], [], zW T' (zwG G' q0) S2 n2, 3, 18) := by
        refine z_go2 M.1 21 [(.iconst 2, 1)] (22, [], [.inl 2], zW T' (zwG G' q0) S2 n2, 3, 18) (by decide +kernel) rfl ⟨trivial, trivial⟩ ?_
        exact z_iret M (by decide +kernel) .int rfl rfl (by decide) (by decide) ⟨n2, q0, hn2, by rw [hF]; simp, by rw [hF]⟩
      rcases hg with ⟨rfl, -⟩ | ⟨rfl, kk, h9⟩
      · exact KK
      · exact absurd (h9.symm.trans (show decode zm_L_grant.2.1 19 = .ok (.astore 5, 2) by decide +kernel)) (by simp)
    · refine z_catch M.1 TB [(0, 12, 15, 13), (0, 12, 19, 15)] [] 0 12 23 17 rfl (fun z hz => by rcases List.mem_cons.mp hz with rfl | hz; exact ⟨by decide, "java/lang/IndexOutOfBoundsException", z_wi 685 (by decide +kernel) rfl, by simp [z_NC]⟩; obtain rfl := List.mem_singleton.mp hz; exact ⟨by decide, "java/lang/IllegalArgumentException", z_wi 686 (by decide +kernel) rfl, by simp [z_NC]⟩) (by decide) (by decide) (z_wi 687 (by decide +kernel) rfl) (z_ni 852 (by decide +kernel) rfl) (i := 5) (Or.inl (by decide +kernel)) (by decide) (fun g hg => ?_)
      have KK : z_G X zm_L_grant (25, [], [], zW T' (zwG G' q0) S2 n2, 3, 18) := by
        refine z_go2 M.1 25 [(.iconst 3, 1)] (26, [], [.inl 3], zW T' (zwG G' q0) S2 n2, 3, 18) (by decide +kernel) rfl ⟨trivial, trivial⟩ ?_
        exact z_iret M (by decide +kernel) .int rfl rfl (by decide) (by decide) ⟨n2, q0, hn2, by rw [hF]; simp, by rw [hF]⟩
      rcases hg with ⟨rfl, -⟩ | ⟨rfl, kk, h9⟩
      · exact KK
      · exact absurd (h9.symm.trans (show decode zm_L_grant.2.1 23 = .ok (.astore 5, 2) by decide +kernel)) (by simp)
  · obtain ⟨x, S2, h0, rfl, rfl⟩ := hv
    have hF : F_L_grant S p1 p2 p3 = (0, z_uS S2 193 0 x) := by unfold F_L_grant; rw [h0]
    show z_G X zm_L_grant (10, [(0, z_r 0), (1, .inl p1), (2, .inl p2), (3, .inl p3), (4, z_r 193)], [.inl x, .inl 0, z_r 193], zW T' (zwG G' q0) S2 n, 3, 18)
    refine z_go2 M.1 10 [(.i2l, 1), (.lastore, 1), (.goto 15, 3), (.iconst 0, 1)] (28, [(0, z_r 0), (1, .inl p1), (2, .inl p2), (3, .inl p3), (4, z_r 193)], [.inl 0], zW T' (zwG G' q0) (z_uS S2 193 0 x) n, 3, 18) (by decide +kernel) rfl ⟨trivial, ⟨rfl, (show vp_in 0 1 by unfold vp_in; decide)⟩, trivial, trivial, trivial⟩ ?_
    exact z_iret M (by decide +kernel) .int rfl rfl (by decide) (by decide) ⟨n, q0, Nat.le_refl n, by rw [hF], by rw [hF]⟩
abbrev zm_L_scheme : z_Y := (⟨"TrackHouseLaw", "scheme", "(LTrackHouse;III[J)I"⟩, method_4_code, 6, some .int, [])
abbrev hh_L_scheme : List (Nat × Nat × Nat × Nat) := [(0, 12, 15, 13), (0, 12, 19, 15)]
def F_L_scheme (S : (Nat → Nat → Int32)) (p1 : Int32) (p2 : Int32) (p3 : Int32) : Int32 × (Nat → Nat → Int32) := match F_T_scheme S p1 p2 p3 with | (.inl E, S2) => ((if E = "java/lang/IndexOutOfBoundsException" then 1 else (if E = "java/lang/IllegalArgumentException" then 2 else 0)), S2) | (.inr x, S2) => (0, z_uS S2 193 0 x)
def Sf_L_scheme (S : (Nat → Nat → Int32)) (p1 : Int32) (p2 : Int32) (p3 : Int32) : Prop := (∀ E S2, F_T_scheme S p1 p2 p3 = (.inl E, S2) → E = "java/lang/IndexOutOfBoundsException" ∨ E = "java/lang/IllegalArgumentException")
abbrev rm_L_scheme : Room := { frames := 8, cells := 2, slots := 12, locals := 480 }
theorem c_L_scheme (T' : Nat → Nat × Nat) (G' : Nat → Nat → Option Nat) (q0 : Nat) (S : (Nat → Nat → Int32)) (n : Nat) (p1 : Int32) (p2 : Int32) (p3 : Int32) (hs : Sf_L_scheme S p1 p2 p3) : z_RunH rm_L_scheme zm_L_scheme hh_L_scheme [z_r 0, .inl p1, .inl p2, .inl p3, z_r 193] (zW T' (zwG G' q0) S n) (fun v w' => ∃ n2 q, n ≤ n2 ∧ v = some (.inl (F_L_scheme S p1 p2 p3).1 : z_V) ∧ w' = zW T' (zwG G' q) (F_L_scheme S p1 p2 p3).2 n2) := by
  refine z_bodyH (by decide) (fun q h => nomatch h) (Nat.le_of_ble_eq_true rfl) (fun X M TB => ?_)
  have hE := hs
  show z_G X zm_L_scheme (0, [(0, z_r 0), (1, .inl p1), (2, .inl p2), (3, .inl p3), (4, z_r 193)], [], zW T' (zwG G' q0) S n, 0, 0)
  refine z_go2 M.1 0 [(.aload 4, 2), (.iconst 0, 1), (.aload_n 0, 1), (.iload_n 1, 1), (.iload_n 2, 1), (.iload_n 3, 1)] (7, [(0, z_r 0), (1, .inl p1), (2, .inl p2), (3, .inl p3), (4, z_r 193)], [.inl p3, .inl p2, .inl p1, z_r 0, .inl 0, z_r 193], zW T' (zwG G' q0) S n, 0, 0) (by decide +kernel) rfl ⟨trivial, trivial, trivial, trivial, trivial, trivial, trivial⟩ ?_
  refine z_callVX M.1 (av := [.inl p1, .inl p2, .inl p3]) (st := [.inl 0, z_r 193]) (a := 0) (ci := 11) (by decide +kernel) (c_T_scheme T' (zwG G' q0) S n p1 p2 p3) M.2.1 zl_L_19 (z_wi 869 (by decide +kernel) rfl) zv_T_scheme rfl rfl rfl ⟨by decide, by decide, by decide, by decide⟩ rfl (Nat.le_of_ble_eq_true rfl) (fun E w' hx => ?_) (fun v w' hv => ?_)
  · obtain ⟨S2, n2, hn2, h0, rfl⟩ := hx
    have hEE := hE _ _ h0
    have hF : F_L_scheme S p1 p2 p3 = ((if E = "java/lang/IndexOutOfBoundsException" then 1 else (if E = "java/lang/IllegalArgumentException" then 2 else 0)), S2) := by unfold F_L_scheme; rw [h0]
    rcases hEE with rfl | rfl
    · refine z_catch M.1 TB [] [(0, 12, 19, 15)] 0 12 15 13 rfl (fun z hz => nomatch hz) (by decide) (by decide) (z_wi 685 (by decide +kernel) rfl) (z_ni 703 (by decide +kernel) rfl) (i := 5) (Or.inl (by decide +kernel)) (by decide) (fun g hg => ?_)
      have KK : z_G X zm_L_scheme (17, [], [], zW T' (zwG G' q0) S2 n2, 2, 12) := by
        refine z_go2 M.1 17 [(.iconst 1, 1)] (18, [], [.inl 1], zW T' (zwG G' q0) S2 n2, 2, 12) (by decide +kernel) rfl ⟨trivial, trivial⟩ ?_
        exact z_iret M (by decide +kernel) .int rfl rfl (by decide) (by decide) ⟨n2, q0, hn2, by rw [hF]; simp, by rw [hF]⟩
      rcases hg with ⟨rfl, -⟩ | ⟨rfl, kk, h9⟩
      · exact KK
      · exact absurd (h9.symm.trans (show decode zm_L_scheme.2.1 15 = .ok (.astore 5, 2) by decide +kernel)) (by simp)
    · refine z_catch M.1 TB [(0, 12, 15, 13)] [] 0 12 19 15 rfl (fun z hz => by obtain rfl := List.mem_singleton.mp hz; exact ⟨by decide, "java/lang/IndexOutOfBoundsException", z_wi 685 (by decide +kernel) rfl, by simp [z_NC]⟩) (by decide) (by decide) (z_wi 686 (by decide +kernel) rfl) (z_ni 777 (by decide +kernel) rfl) (i := 5) (Or.inl (by decide +kernel)) (by decide) (fun g hg => ?_)
      have KK : z_G X zm_L_scheme (21, [], [], zW T' (zwG G' q0) S2 n2, 2, 12) := by
        refine z_go2 M.1 21 [(.iconst 2, 1)] (22, [], [.inl 2], zW T' (zwG G' q0) S2 n2, 2, 12) (by decide +kernel) rfl ⟨trivial, trivial⟩ ?_
        exact z_iret M (by decide +kernel) .int rfl rfl (by decide) (by decide) ⟨n2, q0, hn2, by rw [hF]; simp, by rw [hF]⟩
      rcases hg with ⟨rfl, -⟩ | ⟨rfl, kk, h9⟩
      · exact KK
      · exact absurd (h9.symm.trans (show decode zm_L_scheme.2.1 19 = .ok (.astore 5, 2) by decide +kernel)) (by simp)
  · obtain ⟨x, S2, h0, rfl, rfl⟩ := hv
    have hF : F_L_scheme S p1 p2 p3 = (0, z_uS S2 193 0 x) := by unfold F_L_scheme; rw [h0]
    show z_G X zm_L_scheme (10, [(0, z_r 0), (1, .inl p1), (2, .inl p2), (3, .inl p3), (4, z_r 193)], [.inl x, .inl 0, z_r 193], zW T' (zwG G' q0) S2 n, 2, 12)
    refine z_go2 M.1 10 [(.i2l, 1), (.lastore, 1), (.goto 11, 3), (.iconst 0, 1)] (24, [(0, z_r 0), (1, .inl p1), (2, .inl p2), (3, .inl p3), (4, z_r 193)], [.inl 0], zW T' (zwG G' q0) (z_uS S2 193 0 x) n, 2, 12) (by decide +kernel) rfl ⟨trivial, ⟨rfl, (show vp_in 0 1 by unfold vp_in; decide)⟩, trivial, trivial, trivial⟩ ?_
    exact z_iret M (by decide +kernel) .int rfl rfl (by decide) (by decide) ⟨n, q0, Nat.le_refl n, by rw [hF], by rw [hF]⟩
abbrev zm_L_secure : z_Y := (⟨"TrackHouseLaw", "secure", "(LTrackHouse;II[J)I"⟩, method_5_code, 5, some .int, [])
abbrev hh_L_secure : List (Nat × Nat × Nat × Nat) := [(0, 10, 13, 15)]
def F_L_secure (S : (Nat → Nat → Int32)) (p1 : Int32) (p2 : Int32) : Int32 × (Nat → Nat → Int32) := match F_T_secure S p1 p2 with | (.inl E, S2) => ((if E = "java/lang/IllegalArgumentException" then 1 else 0), S2) | (.inr x, S2) => (0, z_uS S2 193 0 x)
def Sf_L_secure (S : (Nat → Nat → Int32)) (p1 : Int32) (p2 : Int32) : Prop := (∀ E S2, F_T_secure S p1 p2 = (.inl E, S2) → E = "java/lang/IllegalArgumentException")
abbrev rm_L_secure : Room := { frames := 8, cells := 1, slots := 6, locals := 480 }
theorem c_L_secure (T' : Nat → Nat × Nat) (G' : Nat → Nat → Option Nat) (q0 : Nat) (S : (Nat → Nat → Int32)) (n : Nat) (p1 : Int32) (p2 : Int32) (hs : Sf_L_secure S p1 p2) : z_RunH rm_L_secure zm_L_secure hh_L_secure [z_r 0, .inl p1, .inl p2, z_r 193] (zW T' (zwG G' q0) S n) (fun v w' => ∃ n2 q, n ≤ n2 ∧ v = some (.inl (F_L_secure S p1 p2).1 : z_V) ∧ w' = zW T' (zwG G' q) (F_L_secure S p1 p2).2 n2) := by
  refine z_bodyH (by decide) (fun q h => nomatch h) (Nat.le_of_ble_eq_true rfl) (fun X M TB => ?_)
  have hE := hs
  show z_G X zm_L_secure (0, [(0, z_r 0), (1, .inl p1), (2, .inl p2), (3, z_r 193)], [], zW T' (zwG G' q0) S n, 0, 0)
  refine z_go2 M.1 0 [(.aload_n 3, 1), (.iconst 0, 1), (.aload_n 0, 1), (.iload_n 1, 1), (.iload_n 2, 1)] (5, [(0, z_r 0), (1, .inl p1), (2, .inl p2), (3, z_r 193)], [.inl p2, .inl p1, z_r 0, .inl 0, z_r 193], zW T' (zwG G' q0) S n, 0, 0) (by decide +kernel) rfl ⟨trivial, trivial, trivial, trivial, trivial, trivial⟩ ?_
  refine z_callVX M.1 (av := [.inl p1, .inl p2]) (st := [.inl 0, z_r 193]) (a := 0) (ci := 11) (by decide +kernel) (c_T_secure T' (zwG G' q0) S n p1 p2) M.2.1 zl_L_22 (z_wi 878 (by decide +kernel) rfl) zv_T_secure rfl rfl rfl ⟨by decide, by decide, by decide, by decide⟩ rfl (Nat.le_of_ble_eq_true rfl) (fun E w' hx => ?_) (fun v w' hv => ?_)
  · obtain ⟨S2, n2, hn2, h0, rfl⟩ := hx
    have hEE := hE _ _ h0
    have hF : F_L_secure S p1 p2 = ((if E = "java/lang/IllegalArgumentException" then 1 else 0), S2) := by unfold F_L_secure; rw [h0]
    subst hEE
    refine z_catch M.1 TB [] [] 0 10 13 15 rfl (fun z hz => nomatch hz) (by decide) (by decide) (z_wi 686 (by decide +kernel) rfl) (z_ni 777 (by decide +kernel) rfl) (i := 4) (Or.inl (by decide +kernel)) (by decide) (fun g hg => ?_)
    have KK : z_G X zm_L_secure (15, [], [], zW T' (zwG G' q0) S2 n2, 1, 6) := by
      refine z_go2 M.1 15 [(.iconst 1, 1)] (16, [], [.inl 1], zW T' (zwG G' q0) S2 n2, 1, 6) (by decide +kernel) rfl ⟨trivial, trivial⟩ ?_
      exact z_iret M (by decide +kernel) .int rfl rfl (by decide) (by decide) ⟨n2, q0, hn2, by rw [hF]; simp, by rw [hF]⟩
    rcases hg with ⟨rfl, -⟩ | ⟨rfl, kk, h9⟩
    · exact KK
    · exact absurd (h9.symm.trans (show decode zm_L_secure.2.1 13 = .ok (.astore 4, 2) by decide +kernel)) (by simp)
  · obtain ⟨x, S2, h0, rfl, rfl⟩ := hv
    have hF : F_L_secure S p1 p2 = (0, z_uS S2 193 0 x) := by unfold F_L_secure; rw [h0]
    show z_G X zm_L_secure (8, [(0, z_r 0), (1, .inl p1), (2, .inl p2), (3, z_r 193)], [.inl x, .inl 0, z_r 193], zW T' (zwG G' q0) S2 n, 1, 6)
    refine z_go2 M.1 8 [(.i2l, 1), (.lastore, 1), (.goto 7, 3), (.iconst 0, 1)] (18, [(0, z_r 0), (1, .inl p1), (2, .inl p2), (3, z_r 193)], [.inl 0], zW T' (zwG G' q0) (z_uS S2 193 0 x) n, 1, 6) (by decide +kernel) rfl ⟨trivial, ⟨rfl, (show vp_in 0 1 by unfold vp_in; decide)⟩, trivial, trivial, trivial⟩ ?_
    exact z_iret M (by decide +kernel) .int rfl rfl (by decide) (by decide) ⟨n, q0, Nat.le_refl n, by rw [hF], by rw [hF]⟩
abbrev zm_L_reads : z_Y := (⟨"TrackHouseLaw", "reads", "(LTrackHouse;II[J)I"⟩, method_6_code, 5, some .int, [])
abbrev hh_L_reads : List (Nat × Nat × Nat × Nat) := [(0, 10, 13, 15)]
def F_L_reads (S : (Nat → Nat → Int32)) (p1 : Int32) (p2 : Int32) : Int32 × (Nat → Nat → Int32) := match F_T_reads S p1 p2 with | (.inl E, S2) => ((if E = "java/lang/IllegalArgumentException" then 1 else 0), S2) | (.inr x, S2) => (0, z_uS S2 193 0 x)
def Sf_L_reads (S : (Nat → Nat → Int32)) (p1 : Int32) (p2 : Int32) : Prop := (∀ E S2, F_T_reads S p1 p2 = (.inl E, S2) → E = "java/lang/IllegalArgumentException")
abbrev rm_L_reads : Room := { frames := 8, cells := 1, slots := 6, locals := 480 }
theorem c_L_reads (T' : Nat → Nat × Nat) (G' : Nat → Nat → Option Nat) (q0 : Nat) (S : (Nat → Nat → Int32)) (n : Nat) (p1 : Int32) (p2 : Int32) (hs : Sf_L_reads S p1 p2) : z_RunH rm_L_reads zm_L_reads hh_L_reads [z_r 0, .inl p1, .inl p2, z_r 193] (zW T' (zwG G' q0) S n) (fun v w' => ∃ n2 q, n ≤ n2 ∧ v = some (.inl (F_L_reads S p1 p2).1 : z_V) ∧ w' = zW T' (zwG G' q) (F_L_reads S p1 p2).2 n2) := by
  refine z_bodyH (by decide) (fun q h => nomatch h) (Nat.le_of_ble_eq_true rfl) (fun X M TB => ?_)
  have hE := hs
  show z_G X zm_L_reads (0, [(0, z_r 0), (1, .inl p1), (2, .inl p2), (3, z_r 193)], [], zW T' (zwG G' q0) S n, 0, 0)
  refine z_go2 M.1 0 [(.aload_n 3, 1), (.iconst 0, 1), (.aload_n 0, 1), (.iload_n 1, 1), (.iload_n 2, 1)] (5, [(0, z_r 0), (1, .inl p1), (2, .inl p2), (3, z_r 193)], [.inl p2, .inl p1, z_r 0, .inl 0, z_r 193], zW T' (zwG G' q0) S n, 0, 0) (by decide +kernel) rfl ⟨trivial, trivial, trivial, trivial, trivial, trivial⟩ ?_
  refine z_callVX M.1 (av := [.inl p1, .inl p2]) (st := [.inl 0, z_r 193]) (a := 0) (ci := 11) (by decide +kernel) (c_T_reads T' (zwG G' q0) S n p1 p2) M.2.1 zl_L_26 (z_wi 885 (by decide +kernel) rfl) zv_T_reads rfl rfl rfl ⟨by decide, by decide, by decide, by decide⟩ rfl (Nat.le_of_ble_eq_true rfl) (fun E w' hx => ?_) (fun v w' hv => ?_)
  · obtain ⟨S2, n2, hn2, h0, rfl⟩ := hx
    have hEE := hE _ _ h0
    have hF : F_L_reads S p1 p2 = ((if E = "java/lang/IllegalArgumentException" then 1 else 0), S2) := by unfold F_L_reads; rw [h0]
    subst hEE
    refine z_catch M.1 TB [] [] 0 10 13 15 rfl (fun z hz => nomatch hz) (by decide) (by decide) (z_wi 686 (by decide +kernel) rfl) (z_ni 777 (by decide +kernel) rfl) (i := 4) (Or.inl (by decide +kernel)) (by decide) (fun g hg => ?_)
    have KK : z_G X zm_L_reads (15, [], [], zW T' (zwG G' q0) S2 n2, 1, 6) := by
      refine z_go2 M.1 15 [(.iconst 1, 1)] (16, [], [.inl 1], zW T' (zwG G' q0) S2 n2, 1, 6) (by decide +kernel) rfl ⟨trivial, trivial⟩ ?_
      exact z_iret M (by decide +kernel) .int rfl rfl (by decide) (by decide) ⟨n2, q0, hn2, by rw [hF]; simp, by rw [hF]⟩
    rcases hg with ⟨rfl, -⟩ | ⟨rfl, kk, h9⟩
    · exact KK
    · exact absurd (h9.symm.trans (show decode zm_L_reads.2.1 13 = .ok (.astore 4, 2) by decide +kernel)) (by simp)
  · obtain ⟨x, S2, h0, rfl, rfl⟩ := hv
    have hF : F_L_reads S p1 p2 = (0, z_uS S2 193 0 x) := by unfold F_L_reads; rw [h0]
    show z_G X zm_L_reads (8, [(0, z_r 0), (1, .inl p1), (2, .inl p2), (3, z_r 193)], [.inl x, .inl 0, z_r 193], zW T' (zwG G' q0) S2 n, 1, 6)
    refine z_go2 M.1 8 [(.i2l, 1), (.lastore, 1), (.goto 7, 3), (.iconst 0, 1)] (18, [(0, z_r 0), (1, .inl p1), (2, .inl p2), (3, z_r 193)], [.inl 0], zW T' (zwG G' q0) (z_uS S2 193 0 x) n, 1, 6) (by decide +kernel) rfl ⟨trivial, ⟨rfl, (show vp_in 0 1 by unfold vp_in; decide)⟩, trivial, trivial, trivial⟩ ?_
    exact z_iret M (by decide +kernel) .int rfl rfl (by decide) (by decide) ⟨n, q0, Nat.le_refl n, by rw [hF], by rw [hF]⟩
abbrev zm_L_pass : z_Y := (⟨"TrackHouseLaw", "pass", "(LTrackHouse;I[J)I"⟩, method_7_code, 4, some .int, [])
abbrev hh_L_pass : List (Nat × Nat × Nat × Nat) := [(0, 9, 12, 15), (0, 9, 15, 17)]
def F_L_pass (S : (Nat → Nat → Int32)) (p1 : Int32) : Int32 × (Nat → Nat → Int32) := match F_T_pass S p1 with | (.inl E, S2) => ((if E = "java/lang/IllegalArgumentException" then 1 else (if E = "java/lang/IllegalStateException" then 2 else 0)), S2) | (.inr x, S2) => (0, z_uS S2 193 0 x)
def Sf_L_pass (S : (Nat → Nat → Int32)) (p1 : Int32) : Prop := (∀ E S2, F_T_pass S p1 = (.inl E, S2) → E = "java/lang/IllegalArgumentException" ∨ E = "java/lang/IllegalStateException")
abbrev rm_L_pass : Room := { frames := 8, cells := 2, slots := 12, locals := 480 }
theorem c_L_pass (T' : Nat → Nat × Nat) (G' : Nat → Nat → Option Nat) (q0 : Nat) (S : (Nat → Nat → Int32)) (n : Nat) (p1 : Int32) (hs : Sf_L_pass S p1) : z_RunH rm_L_pass zm_L_pass hh_L_pass [z_r 0, .inl p1, z_r 193] (zW T' (zwG G' q0) S n) (fun v w' => ∃ n2 q, n ≤ n2 ∧ v = some (.inl (F_L_pass S p1).1 : z_V) ∧ w' = zW T' (zwG G' q) (F_L_pass S p1).2 n2) := by
  refine z_bodyH (by decide) (fun q h => nomatch h) (Nat.le_of_ble_eq_true rfl) (fun X M TB => ?_)
  have hE := hs
  show z_G X zm_L_pass (0, [(0, z_r 0), (1, .inl p1), (2, z_r 193)], [], zW T' (zwG G' q0) S n, 0, 0)
  refine z_go2 M.1 0 [(.aload_n 2, 1), (.iconst 0, 1), (.aload_n 0, 1), (.iload_n 1, 1)] (4, [(0, z_r 0), (1, .inl p1), (2, z_r 193)], [.inl p1, z_r 0, .inl 0, z_r 193], zW T' (zwG G' q0) S n, 0, 0) (by decide +kernel) rfl ⟨trivial, trivial, trivial, trivial, trivial⟩ ?_
  refine z_callVX M.1 (av := [.inl p1]) (st := [.inl 0, z_r 193]) (a := 0) (ci := 11) (by decide +kernel) (c_T_pass T' (zwG G' q0) S n p1) M.2.1 zl_L_29 (z_wi 895 (by decide +kernel) rfl) zv_T_pass rfl rfl rfl ⟨by decide, by decide, by decide, by decide⟩ rfl (Nat.le_of_ble_eq_true rfl) (fun E w' hx => ?_) (fun v w' hv => ?_)
  · obtain ⟨S2, n2, hn2, h0, rfl⟩ := hx
    have hEE := hE _ _ h0
    have hF : F_L_pass S p1 = ((if E = "java/lang/IllegalArgumentException" then 1 else (if E = "java/lang/IllegalStateException" then 2 else 0)), S2) := by unfold F_L_pass; rw [h0]
    rcases hEE with rfl | rfl
    · refine z_catch M.1 TB [] [(0, 9, 15, 17)] 0 9 12 15 rfl (fun z hz => nomatch hz) (by decide) (by decide) (z_wi 686 (by decide +kernel) rfl) (z_ni 777 (by decide +kernel) rfl) (i := 3) (Or.inr ⟨3, rfl, by decide +kernel⟩) (by decide) (fun g hg => ?_)
      have KK : z_G X zm_L_pass (13, [], [], zW T' (zwG G' q0) S2 n2, 2, 12) := by
        refine z_go2 M.1 13 [(.iconst 1, 1)] (14, [], [.inl 1], zW T' (zwG G' q0) S2 n2, 2, 12) (by decide +kernel) rfl ⟨trivial, trivial⟩ ?_
        exact z_iret M (by decide +kernel) .int rfl rfl (by decide) (by decide) ⟨n2, q0, hn2, by rw [hF]; simp, by rw [hF]⟩
      rcases hg with ⟨rfl, h9⟩ | ⟨rfl, -⟩
      · exact absurd (h9.symm.trans (show decode zm_L_pass.2.1 12 = .ok (.astore_n 3, 1) by decide +kernel)) (by simp)
      · exact KK
    · refine z_catch M.1 TB [(0, 9, 12, 15)] [] 0 9 15 17 rfl (fun z hz => by obtain rfl := List.mem_singleton.mp hz; exact ⟨by decide, "java/lang/IllegalArgumentException", z_wi 686 (by decide +kernel) rfl, by simp [z_NC]⟩) (by decide) (by decide) (z_wi 687 (by decide +kernel) rfl) (z_ni 852 (by decide +kernel) rfl) (i := 3) (Or.inr ⟨3, rfl, by decide +kernel⟩) (by decide) (fun g hg => ?_)
      have KK : z_G X zm_L_pass (16, [], [], zW T' (zwG G' q0) S2 n2, 2, 12) := by
        refine z_go2 M.1 16 [(.iconst 2, 1)] (17, [], [.inl 2], zW T' (zwG G' q0) S2 n2, 2, 12) (by decide +kernel) rfl ⟨trivial, trivial⟩ ?_
        exact z_iret M (by decide +kernel) .int rfl rfl (by decide) (by decide) ⟨n2, q0, hn2, by rw [hF]; simp, by rw [hF]⟩
      rcases hg with ⟨rfl, h9⟩ | ⟨rfl, -⟩
      · exact absurd (h9.symm.trans (show decode zm_L_pass.2.1 15 = .ok (.astore_n 3, 1) by decide +kernel)) (by simp)
      · exact KK
  · obtain ⟨x, S2, h0, rfl, rfl⟩ := hv
    have hF : F_L_pass S p1 = (0, z_uS S2 193 0 x) := by unfold F_L_pass; rw [h0]
    show z_G X zm_L_pass (7, [(0, z_r 0), (1, .inl p1), (2, z_r 193)], [.inl x, .inl 0, z_r 193], zW T' (zwG G' q0) S2 n, 2, 12)
    refine z_go2 M.1 7 [(.i2l, 1), (.lastore, 1), (.goto 9, 3), (.iconst 0, 1)] (19, [(0, z_r 0), (1, .inl p1), (2, z_r 193)], [.inl 0], zW T' (zwG G' q0) (z_uS S2 193 0 x) n, 2, 12) (by decide +kernel) rfl ⟨trivial, ⟨rfl, (show vp_in 0 1 by unfold vp_in; decide)⟩, trivial, trivial, trivial⟩ ?_
    exact z_iret M (by decide +kernel) .int rfl rfl (by decide) (by decide) ⟨n, q0, Nat.le_refl n, by rw [hF], by rw [hF]⟩
abbrev zm_L_kind : z_Y := (⟨"TrackHouseLaw", "kind", "(LTrackHouse;IIII)I"⟩, method_8_code, 6, some .int, [])
abbrev hh_L_kind : List (Nat × Nat × Nat × Nat) := [(0, 9, 12, 13), (0, 9, 16, 15)]
def F_L_kind (S : (Nat → Nat → Int32)) (p1 : Int32) (p2 : Int32) (p3 : Int32) (p4 : Int32) : Int32 × (Nat → Nat → Int32) := match F_T_kind S p1 p2 p3 p4 with | (.inl E, S2) => ((if E = "java/lang/IndexOutOfBoundsException" then 1 else (if E = "java/lang/IllegalArgumentException" then 2 else 0)), S2) | (.inr (), S2) => (0, S2)
def Sf_L_kind (S : (Nat → Nat → Int32)) (p1 : Int32) (p2 : Int32) (p3 : Int32) (p4 : Int32) : Prop := (∀ E S2, F_T_kind S p1 p2 p3 p4 = (.inl E, S2) → E = "java/lang/IndexOutOfBoundsException" ∨ E = "java/lang/IllegalArgumentException")
abbrev rm_L_kind : Room := { frames := 8, cells := 2, slots := 12, locals := 480 }
theorem c_L_kind (T' : Nat → Nat × Nat) (G' : Nat → Nat → Option Nat) (q0 : Nat) (S : (Nat → Nat → Int32)) (n : Nat) (p1 : Int32) (p2 : Int32) (p3 : Int32) (p4 : Int32) (hs : Sf_L_kind S p1 p2 p3 p4) : z_RunH rm_L_kind zm_L_kind hh_L_kind [z_r 0, .inl p1, .inl p2, .inl p3, .inl p4] (zW T' (zwG G' q0) S n) (fun v w' => ∃ n2 q, n ≤ n2 ∧ v = some (.inl (F_L_kind S p1 p2 p3 p4).1 : z_V) ∧ w' = zW T' (zwG G' q) (F_L_kind S p1 p2 p3 p4).2 n2) := by
  refine z_bodyH (by decide) (fun q h => nomatch h) (Nat.le_of_ble_eq_true rfl) (fun X M TB => ?_)
  have hE := hs
  show z_G X zm_L_kind (0, [(0, z_r 0), (1, .inl p1), (2, .inl p2), (3, .inl p3), (4, .inl p4)], [], zW T' (zwG G' q0) S n, 0, 0)
  refine z_go2 M.1 0 [(.aload_n 0, 1), (.iload_n 1, 1), (.iload_n 2, 1), (.iload_n 3, 1), (.iload 4, 2)] (6, [(0, z_r 0), (1, .inl p1), (2, .inl p2), (3, .inl p3), (4, .inl p4)], [.inl p4, .inl p3, .inl p2, .inl p1, z_r 0], zW T' (zwG G' q0) S n, 0, 0) (by decide +kernel) rfl ⟨trivial, trivial, trivial, trivial, trivial, trivial⟩ ?_
  refine z_callVX M.1 (av := [.inl p1, .inl p2, .inl p3, .inl p4]) (st := []) (a := 0) (ci := 11) (by decide +kernel) (c_T_kind T' (zwG G' q0) S n p1 p2 p3 p4) M.2.1 zl_L_33 (z_wi 902 (by decide +kernel) rfl) zv_T_kind rfl rfl rfl ⟨by decide, by decide, by decide, by decide⟩ rfl (Nat.le_of_ble_eq_true rfl) (fun E w' hx => ?_) (fun v w' hv => ?_)
  · obtain ⟨S2, n2, hn2, h0, rfl⟩ := hx
    have hEE := hE _ _ h0
    have hF : F_L_kind S p1 p2 p3 p4 = ((if E = "java/lang/IndexOutOfBoundsException" then 1 else (if E = "java/lang/IllegalArgumentException" then 2 else 0)), S2) := by unfold F_L_kind; rw [h0]
    rcases hEE with rfl | rfl
    · refine z_catch M.1 TB [] [(0, 9, 16, 15)] 0 9 12 13 rfl (fun z hz => nomatch hz) (by decide) (by decide) (z_wi 685 (by decide +kernel) rfl) (z_ni 703 (by decide +kernel) rfl) (i := 5) (Or.inl (by decide +kernel)) (by decide) (fun g hg => ?_)
      have KK : z_G X zm_L_kind (14, [], [], zW T' (zwG G' q0) S2 n2, 2, 12) := by
        refine z_go2 M.1 14 [(.iconst 1, 1)] (15, [], [.inl 1], zW T' (zwG G' q0) S2 n2, 2, 12) (by decide +kernel) rfl ⟨trivial, trivial⟩ ?_
        exact z_iret M (by decide +kernel) .int rfl rfl (by decide) (by decide) ⟨n2, q0, hn2, by rw [hF]; simp, by rw [hF]⟩
      rcases hg with ⟨rfl, -⟩ | ⟨rfl, kk, h9⟩
      · exact KK
      · exact absurd (h9.symm.trans (show decode zm_L_kind.2.1 12 = .ok (.astore 5, 2) by decide +kernel)) (by simp)
    · refine z_catch M.1 TB [(0, 9, 12, 13)] [] 0 9 16 15 rfl (fun z hz => by obtain rfl := List.mem_singleton.mp hz; exact ⟨by decide, "java/lang/IndexOutOfBoundsException", z_wi 685 (by decide +kernel) rfl, by simp [z_NC]⟩) (by decide) (by decide) (z_wi 686 (by decide +kernel) rfl) (z_ni 777 (by decide +kernel) rfl) (i := 5) (Or.inl (by decide +kernel)) (by decide) (fun g hg => ?_)
      have KK : z_G X zm_L_kind (18, [], [], zW T' (zwG G' q0) S2 n2, 2, 12) := by
        refine z_go2 M.1 18 [(.iconst 2, 1)] (19, [], [.inl 2], zW T' (zwG G' q0) S2 n2, 2, 12) (by decide +kernel) rfl ⟨trivial, trivial⟩ ?_
        exact z_iret M (by decide +kernel) .int rfl rfl (by decide) (by decide) ⟨n2, q0, hn2, by rw [hF]; simp, by rw [hF]⟩
      rcases hg with ⟨rfl, -⟩ | ⟨rfl, kk, h9⟩
      · exact KK
      · exact absurd (h9.symm.trans (show decode zm_L_kind.2.1 16 = .ok (.astore 5, 2) by decide +kernel)) (by simp)
  · obtain ⟨S2, h0, rfl, rfl⟩ := hv
    have hF : F_L_kind S p1 p2 p3 p4 = (0, S2) := by unfold F_L_kind; rw [h0]
    show z_G X zm_L_kind (9, [(0, z_r 0), (1, .inl p1), (2, .inl p2), (3, .inl p3), (4, .inl p4)], [], zW T' (zwG G' q0) S2 n, 2, 12)
    refine z_go2 M.1 9 [(.goto 11, 3), (.iconst 0, 1)] (21, [(0, z_r 0), (1, .inl p1), (2, .inl p2), (3, .inl p3), (4, .inl p4)], [.inl 0], zW T' (zwG G' q0) S2 n, 2, 12) (by decide +kernel) rfl ⟨trivial, trivial, trivial⟩ ?_
    exact z_iret M (by decide +kernel) .int rfl rfl (by decide) (by decide) ⟨n, q0, Nat.le_refl n, by rw [hF], by rw [hF]⟩
abbrev zm_L_draft : z_Y := (⟨"TrackHouseLaw", "draft", "(LTrackHouse;I[J)I"⟩, method_9_code, 4, some .int, [])
abbrev hh_L_draft : List (Nat × Nat × Nat × Nat) := [(0, 9, 12, 13), (0, 9, 15, 17)]
def F_L_draft (S : (Nat → Nat → Int32)) (p1 : Int32) : Int32 × (Nat → Nat → Int32) := match F_T_draft S p1 with | (.inl E, S2) => ((if E = "java/lang/IndexOutOfBoundsException" then 1 else (if E = "java/lang/IllegalStateException" then 2 else 0)), S2) | (.inr x, S2) => (0, z_uS S2 193 0 x)
def Sf_L_draft (S : (Nat → Nat → Int32)) (p1 : Int32) : Prop := Sf_T_draft S p1 ∧ (∀ E S2, F_T_draft S p1 = (.inl E, S2) → E = "java/lang/IndexOutOfBoundsException" ∨ E = "java/lang/IllegalStateException")
abbrev rm_L_draft : Room := { frames := 8, cells := 2, slots := 12, locals := 480 }
theorem c_L_draft (T' : Nat → Nat × Nat) (G' : Nat → Nat → Option Nat) (q0 : Nat) (S : (Nat → Nat → Int32)) (n : Nat) (p1 : Int32) (hs : Sf_L_draft S p1) : z_RunH rm_L_draft zm_L_draft hh_L_draft [z_r 0, .inl p1, z_r 193] (zW T' (zwG G' q0) S n) (fun v w' => ∃ n2 q, n ≤ n2 ∧ v = some (.inl (F_L_draft S p1).1 : z_V) ∧ w' = zW T' (zwG G' q) (F_L_draft S p1).2 n2) := by
  refine z_bodyH (by decide) (fun q h => nomatch h) (Nat.le_of_ble_eq_true rfl) (fun X M TB => ?_)
  obtain ⟨hs, hE⟩ := hs
  show z_G X zm_L_draft (0, [(0, z_r 0), (1, .inl p1), (2, z_r 193)], [], zW T' (zwG G' q0) S n, 0, 0)
  refine z_go2 M.1 0 [(.aload_n 2, 1), (.iconst 0, 1), (.aload_n 0, 1), (.iload_n 1, 1)] (4, [(0, z_r 0), (1, .inl p1), (2, z_r 193)], [.inl p1, z_r 0, .inl 0, z_r 193], zW T' (zwG G' q0) S n, 0, 0) (by decide +kernel) rfl ⟨trivial, trivial, trivial, trivial, trivial⟩ ?_
  refine z_callVX M.1 (av := [.inl p1]) (st := [.inl 0, z_r 193]) (a := 0) (ci := 11) (by decide +kernel) (c_T_draft T' (zwG G' q0) S n p1 hs) M.2.1 zl_L_37 (z_wi 915 (by decide +kernel) rfl) zv_T_draft rfl rfl rfl ⟨by decide, by decide, by decide, by decide⟩ rfl (Nat.le_of_ble_eq_true rfl) (fun E w' hx => ?_) (fun v w' hv => ?_)
  · obtain ⟨S2, n2, hn2, h0, rfl⟩ := hx
    have hEE := hE _ _ h0
    have hF : F_L_draft S p1 = ((if E = "java/lang/IndexOutOfBoundsException" then 1 else (if E = "java/lang/IllegalStateException" then 2 else 0)), S2) := by unfold F_L_draft; rw [h0]
    rcases hEE with rfl | rfl
    · refine z_catch M.1 TB [] [(0, 9, 15, 17)] 0 9 12 13 rfl (fun z hz => nomatch hz) (by decide) (by decide) (z_wi 685 (by decide +kernel) rfl) (z_ni 703 (by decide +kernel) rfl) (i := 3) (Or.inr ⟨3, rfl, by decide +kernel⟩) (by decide) (fun g hg => ?_)
      have KK : z_G X zm_L_draft (13, [], [], zW T' (zwG G' q0) S2 n2, 2, 12) := by
        refine z_go2 M.1 13 [(.iconst 1, 1)] (14, [], [.inl 1], zW T' (zwG G' q0) S2 n2, 2, 12) (by decide +kernel) rfl ⟨trivial, trivial⟩ ?_
        exact z_iret M (by decide +kernel) .int rfl rfl (by decide) (by decide) ⟨n2, q0, hn2, by rw [hF]; simp, by rw [hF]⟩
      rcases hg with ⟨rfl, h9⟩ | ⟨rfl, -⟩
      · exact absurd (h9.symm.trans (show decode zm_L_draft.2.1 12 = .ok (.astore_n 3, 1) by decide +kernel)) (by simp)
      · exact KK
    · refine z_catch M.1 TB [(0, 9, 12, 13)] [] 0 9 15 17 rfl (fun z hz => by obtain rfl := List.mem_singleton.mp hz; exact ⟨by decide, "java/lang/IndexOutOfBoundsException", z_wi 685 (by decide +kernel) rfl, by simp [z_NC]⟩) (by decide) (by decide) (z_wi 687 (by decide +kernel) rfl) (z_ni 852 (by decide +kernel) rfl) (i := 3) (Or.inr ⟨3, rfl, by decide +kernel⟩) (by decide) (fun g hg => ?_)
      have KK : z_G X zm_L_draft (16, [], [], zW T' (zwG G' q0) S2 n2, 2, 12) := by
        refine z_go2 M.1 16 [(.iconst 2, 1)] (17, [], [.inl 2], zW T' (zwG G' q0) S2 n2, 2, 12) (by decide +kernel) rfl ⟨trivial, trivial⟩ ?_
        exact z_iret M (by decide +kernel) .int rfl rfl (by decide) (by decide) ⟨n2, q0, hn2, by rw [hF]; simp, by rw [hF]⟩
      rcases hg with ⟨rfl, h9⟩ | ⟨rfl, -⟩
      · exact absurd (h9.symm.trans (show decode zm_L_draft.2.1 15 = .ok (.astore_n 3, 1) by decide +kernel)) (by simp)
      · exact KK
  · obtain ⟨x, S2, h0, rfl, rfl⟩ := hv
    have hF : F_L_draft S p1 = (0, z_uS S2 193 0 x) := by unfold F_L_draft; rw [h0]
    show z_G X zm_L_draft (7, [(0, z_r 0), (1, .inl p1), (2, z_r 193)], [.inl x, .inl 0, z_r 193], zW T' (zwG G' q0) S2 n, 2, 12)
    refine z_go2 M.1 7 [(.i2l, 1), (.lastore, 1), (.goto 9, 3), (.iconst 0, 1)] (19, [(0, z_r 0), (1, .inl p1), (2, z_r 193)], [.inl 0], zW T' (zwG G' q0) (z_uS S2 193 0 x) n, 2, 12) (by decide +kernel) rfl ⟨trivial, ⟨rfl, (show vp_in 0 1 by unfold vp_in; decide)⟩, trivial, trivial, trivial⟩ ?_
    exact z_iret M (by decide +kernel) .int rfl rfl (by decide) (by decide) ⟨n, q0, Nat.le_refl n, by rw [hF], by rw [hF]⟩
abbrev zm_L_state : z_Y := (⟨"TrackHouseLaw", "state", "(LTrackHouse;I[J)I"⟩, method_10_code, 4, some .int, [])
abbrev hh_L_state : List (Nat × Nat × Nat × Nat) := [(0, 9, 12, 15), (0, 9, 15, 17)]
def F_L_state (S : (Nat → Nat → Int32)) (p1 : Int32) : Int32 × (Nat → Nat → Int32) := match F_T_state S p1 with | (.inl E, S2) => ((if E = "java/lang/IllegalArgumentException" then 1 else (if E = "java/lang/IllegalStateException" then 2 else 0)), S2) | (.inr x, S2) => (0, z_uS S2 193 0 x)
def Sf_L_state (S : (Nat → Nat → Int32)) (p1 : Int32) : Prop := Sf_T_state S p1 ∧ (∀ E S2, F_T_state S p1 = (.inl E, S2) → E = "java/lang/IllegalArgumentException" ∨ E = "java/lang/IllegalStateException")
abbrev rm_L_state : Room := { frames := 8, cells := 2, slots := 12, locals := 480 }
theorem c_L_state (T' : Nat → Nat × Nat) (G' : Nat → Nat → Option Nat) (q0 : Nat) (S : (Nat → Nat → Int32)) (n : Nat) (p1 : Int32) (hs : Sf_L_state S p1) : z_RunH rm_L_state zm_L_state hh_L_state [z_r 0, .inl p1, z_r 193] (zW T' (zwG G' q0) S n) (fun v w' => ∃ n2 q, n ≤ n2 ∧ v = some (.inl (F_L_state S p1).1 : z_V) ∧ w' = zW T' (zwG G' q) (F_L_state S p1).2 n2) := by
  refine z_bodyH (by decide) (fun q h => nomatch h) (Nat.le_of_ble_eq_true rfl) (fun X M TB => ?_)
  obtain ⟨hs, hE⟩ := hs
  show z_G X zm_L_state (0, [(0, z_r 0), (1, .inl p1), (2, z_r 193)], [], zW T' (zwG G' q0) S n, 0, 0)
  refine z_go2 M.1 0 [(.aload_n 2, 1), (.iconst 0, 1), (.aload_n 0, 1), (.iload_n 1, 1)] (4, [(0, z_r 0), (1, .inl p1), (2, z_r 193)], [.inl p1, z_r 0, .inl 0, z_r 193], zW T' (zwG G' q0) S n, 0, 0) (by decide +kernel) rfl ⟨trivial, trivial, trivial, trivial, trivial⟩ ?_
  refine z_callVX M.1 (av := [.inl p1]) (st := [.inl 0, z_r 193]) (a := 0) (ci := 11) (by decide +kernel) (c_T_state T' (zwG G' q0) S n p1 hs) M.2.1 zl_L_40 (z_wi 928 (by decide +kernel) rfl) zv_T_state rfl rfl rfl ⟨by decide, by decide, by decide, by decide⟩ rfl (Nat.le_of_ble_eq_true rfl) (fun E w' hx => ?_) (fun v w' hv => ?_)
  · obtain ⟨S2, n2, hn2, h0, rfl⟩ := hx
    have hEE := hE _ _ h0
    have hF : F_L_state S p1 = ((if E = "java/lang/IllegalArgumentException" then 1 else (if E = "java/lang/IllegalStateException" then 2 else 0)), S2) := by unfold F_L_state; rw [h0]
    rcases hEE with rfl | rfl
    · refine z_catch M.1 TB [] [(0, 9, 15, 17)] 0 9 12 15 rfl (fun z hz => nomatch hz) (by decide) (by decide) (z_wi 686 (by decide +kernel) rfl) (z_ni 777 (by decide +kernel) rfl) (i := 3) (Or.inr ⟨3, rfl, by decide +kernel⟩) (by decide) (fun g hg => ?_)
      have KK : z_G X zm_L_state (13, [], [], zW T' (zwG G' q0) S2 n2, 2, 12) := by
        refine z_go2 M.1 13 [(.iconst 1, 1)] (14, [], [.inl 1], zW T' (zwG G' q0) S2 n2, 2, 12) (by decide +kernel) rfl ⟨trivial, trivial⟩ ?_
        exact z_iret M (by decide +kernel) .int rfl rfl (by decide) (by decide) ⟨n2, q0, hn2, by rw [hF]; simp, by rw [hF]⟩
      rcases hg with ⟨rfl, h9⟩ | ⟨rfl, -⟩
      · exact absurd (h9.symm.trans (show decode zm_L_state.2.1 12 = .ok (.astore_n 3, 1) by decide +kernel)) (by simp)
      · exact KK
    · refine z_catch M.1 TB [(0, 9, 12, 15)] [] 0 9 15 17 rfl (fun z hz => by obtain rfl := List.mem_singleton.mp hz; exact ⟨by decide, "java/lang/IllegalArgumentException", z_wi 686 (by decide +kernel) rfl, by simp [z_NC]⟩) (by decide) (by decide) (z_wi 687 (by decide +kernel) rfl) (z_ni 852 (by decide +kernel) rfl) (i := 3) (Or.inr ⟨3, rfl, by decide +kernel⟩) (by decide) (fun g hg => ?_)
      have KK : z_G X zm_L_state (16, [], [], zW T' (zwG G' q0) S2 n2, 2, 12) := by
        refine z_go2 M.1 16 [(.iconst 2, 1)] (17, [], [.inl 2], zW T' (zwG G' q0) S2 n2, 2, 12) (by decide +kernel) rfl ⟨trivial, trivial⟩ ?_
        exact z_iret M (by decide +kernel) .int rfl rfl (by decide) (by decide) ⟨n2, q0, hn2, by rw [hF]; simp, by rw [hF]⟩
      rcases hg with ⟨rfl, h9⟩ | ⟨rfl, -⟩
      · exact absurd (h9.symm.trans (show decode zm_L_state.2.1 15 = .ok (.astore_n 3, 1) by decide +kernel)) (by simp)
      · exact KK
  · obtain ⟨x, S2, h0, rfl, rfl⟩ := hv
    have hF : F_L_state S p1 = (0, z_uS S2 193 0 x) := by unfold F_L_state; rw [h0]
    show z_G X zm_L_state (7, [(0, z_r 0), (1, .inl p1), (2, z_r 193)], [.inl x, .inl 0, z_r 193], zW T' (zwG G' q0) S2 n, 2, 12)
    refine z_go2 M.1 7 [(.i2l, 1), (.lastore, 1), (.goto 9, 3), (.iconst 0, 1)] (19, [(0, z_r 0), (1, .inl p1), (2, z_r 193)], [.inl 0], zW T' (zwG G' q0) (z_uS S2 193 0 x) n, 2, 12) (by decide +kernel) rfl ⟨trivial, ⟨rfl, (show vp_in 0 1 by unfold vp_in; decide)⟩, trivial, trivial, trivial⟩ ?_
    exact z_iret M (by decide +kernel) .int rfl rfl (by decide) (by decide) ⟨n, q0, Nat.le_refl n, by rw [hF], by rw [hF]⟩
abbrev zm_L_drop : z_Y := (⟨"TrackHouseLaw", "drop", "(LTrackHouse;II[J)I"⟩, method_11_code, 5, some .int, [])
abbrev hh_L_drop : List (Nat × Nat × Nat × Nat) := [(0, 10, 13, 15), (0, 10, 17, 17)]
def F_L_drop (S : (Nat → Nat → Int32)) (p1 : Int32) (p2 : Int32) : Int32 × (Nat → Nat → Int32) := match F_T_drop S p1 p2 with | (.inl E, S2) => ((if E = "java/lang/IllegalArgumentException" then 1 else (if E = "java/lang/IllegalStateException" then 2 else 0)), S2) | (.inr x, S2) => (0, z_uS S2 193 0 x)
def Sf_L_drop (S : (Nat → Nat → Int32)) (p1 : Int32) (p2 : Int32) : Prop := Sf_T_drop S p1 p2 ∧ (∀ E S2, F_T_drop S p1 p2 = (.inl E, S2) → E = "java/lang/IllegalArgumentException" ∨ E = "java/lang/IllegalStateException")
abbrev rm_L_drop : Room := { frames := 8, cells := 2, slots := 12, locals := 480 }
theorem c_L_drop (T' : Nat → Nat × Nat) (G' : Nat → Nat → Option Nat) (q0 : Nat) (S : (Nat → Nat → Int32)) (n : Nat) (p1 : Int32) (p2 : Int32) (hs : Sf_L_drop S p1 p2) : z_RunH rm_L_drop zm_L_drop hh_L_drop [z_r 0, .inl p1, .inl p2, z_r 193] (zW T' (zwG G' q0) S n) (fun v w' => ∃ n2 q, n ≤ n2 ∧ v = some (.inl (F_L_drop S p1 p2).1 : z_V) ∧ w' = zW T' (zwG G' q) (F_L_drop S p1 p2).2 n2) := by
  refine z_bodyH (by decide) (fun q h => nomatch h) (Nat.le_of_ble_eq_true rfl) (fun X M TB => ?_)
  obtain ⟨hs, hE⟩ := hs
  show z_G X zm_L_drop (0, [(0, z_r 0), (1, .inl p1), (2, .inl p2), (3, z_r 193)], [], zW T' (zwG G' q0) S n, 0, 0)
  refine z_go2 M.1 0 [(.aload_n 3, 1), (.iconst 0, 1), (.aload_n 0, 1), (.iload_n 1, 1), (.iload_n 2, 1)] (5, [(0, z_r 0), (1, .inl p1), (2, .inl p2), (3, z_r 193)], [.inl p2, .inl p1, z_r 0, .inl 0, z_r 193], zW T' (zwG G' q0) S n, 0, 0) (by decide +kernel) rfl ⟨trivial, trivial, trivial, trivial, trivial, trivial⟩ ?_
  refine z_callVX M.1 (av := [.inl p1, .inl p2]) (st := [.inl 0, z_r 193]) (a := 0) (ci := 11) (by decide +kernel) (c_T_drop T' (zwG G' q0) S n p1 p2 hs) M.2.1 zl_L_43 (z_wi 945 (by decide +kernel) rfl) zv_T_drop rfl rfl rfl ⟨by decide, by decide, by decide, by decide⟩ rfl (Nat.le_of_ble_eq_true rfl) (fun E w' hx => ?_) (fun v w' hv => ?_)
  · obtain ⟨S2, n2, hn2, h0, rfl⟩ := hx
    have hEE := hE _ _ h0
    have hF : F_L_drop S p1 p2 = ((if E = "java/lang/IllegalArgumentException" then 1 else (if E = "java/lang/IllegalStateException" then 2 else 0)), S2) := by unfold F_L_drop; rw [h0]
    rcases hEE with rfl | rfl
    · refine z_catch M.1 TB [] [(0, 10, 17, 17)] 0 10 13 15 rfl (fun z hz => nomatch hz) (by decide) (by decide) (z_wi 686 (by decide +kernel) rfl) (z_ni 777 (by decide +kernel) rfl) (i := 4) (Or.inl (by decide +kernel)) (by decide) (fun g hg => ?_)
      have KK : z_G X zm_L_drop (15, [], [], zW T' (zwG G' q0) S2 n2, 2, 12) := by
        refine z_go2 M.1 15 [(.iconst 1, 1)] (16, [], [.inl 1], zW T' (zwG G' q0) S2 n2, 2, 12) (by decide +kernel) rfl ⟨trivial, trivial⟩ ?_
        exact z_iret M (by decide +kernel) .int rfl rfl (by decide) (by decide) ⟨n2, q0, hn2, by rw [hF]; simp, by rw [hF]⟩
      rcases hg with ⟨rfl, -⟩ | ⟨rfl, kk, h9⟩
      · exact KK
      · exact absurd (h9.symm.trans (show decode zm_L_drop.2.1 13 = .ok (.astore 4, 2) by decide +kernel)) (by simp)
    · refine z_catch M.1 TB [(0, 10, 13, 15)] [] 0 10 17 17 rfl (fun z hz => by obtain rfl := List.mem_singleton.mp hz; exact ⟨by decide, "java/lang/IllegalArgumentException", z_wi 686 (by decide +kernel) rfl, by simp [z_NC]⟩) (by decide) (by decide) (z_wi 687 (by decide +kernel) rfl) (z_ni 852 (by decide +kernel) rfl) (i := 4) (Or.inl (by decide +kernel)) (by decide) (fun g hg => ?_)
      have KK : z_G X zm_L_drop (19, [], [], zW T' (zwG G' q0) S2 n2, 2, 12) := by
        refine z_go2 M.1 19 [(.iconst 2, 1)] (20, [], [.inl 2], zW T' (zwG G' q0) S2 n2, 2, 12) (by decide +kernel) rfl ⟨trivial, trivial⟩ ?_
        exact z_iret M (by decide +kernel) .int rfl rfl (by decide) (by decide) ⟨n2, q0, hn2, by rw [hF]; simp, by rw [hF]⟩
      rcases hg with ⟨rfl, -⟩ | ⟨rfl, kk, h9⟩
      · exact KK
      · exact absurd (h9.symm.trans (show decode zm_L_drop.2.1 17 = .ok (.astore 4, 2) by decide +kernel)) (by simp)
  · obtain ⟨x, S2, h0, rfl, rfl⟩ := hv
    have hF : F_L_drop S p1 p2 = (0, z_uS S2 193 0 x) := by unfold F_L_drop; rw [h0]
    show z_G X zm_L_drop (8, [(0, z_r 0), (1, .inl p1), (2, .inl p2), (3, z_r 193)], [.inl x, .inl 0, z_r 193], zW T' (zwG G' q0) S2 n, 2, 12)
    refine z_go2 M.1 8 [(.i2l, 1), (.lastore, 1), (.goto 11, 3), (.iconst 0, 1)] (22, [(0, z_r 0), (1, .inl p1), (2, .inl p2), (3, z_r 193)], [.inl 0], zW T' (zwG G' q0) (z_uS S2 193 0 x) n, 2, 12) (by decide +kernel) rfl ⟨trivial, ⟨rfl, (show vp_in 0 1 by unfold vp_in; decide)⟩, trivial, trivial, trivial⟩ ?_
    exact z_iret M (by decide +kernel) .int rfl rfl (by decide) (by decide) ⟨n, q0, Nat.le_refl n, by rw [hF], by rw [hF]⟩
abbrev zm_L_transition : z_Y := (⟨"TrackHouseLaw", "transition", "(LTrackHouse;IIIIII[J)I"⟩, method_12_code, 9, some .int, [])
abbrev hh_L_transition : List (Nat × Nat × Nat × Nat) := [(0, 18, 21, 15), (0, 18, 25, 17)]
def F_L_transition (S : (Nat → Nat → Int32)) (p1 : Int32) (p2 : Int32) (p3 : Int32) (p4 : Int32) (p5 : Int32) (p6 : Int32) : Int32 × (Nat → Nat → Int32) := match F_T_transition S p1 p2 p3 p4 p5 p6 with | (.inl E, S2) => ((if E = "java/lang/IllegalArgumentException" then 1 else (if E = "java/lang/IllegalStateException" then 2 else 0)), S2) | (.inr x, S2) => (0, z_uS S2 193 0 x)
def Sf_L_transition (S : (Nat → Nat → Int32)) (p1 : Int32) (p2 : Int32) (p3 : Int32) (p4 : Int32) (p5 : Int32) (p6 : Int32) : Prop := Sf_T_transition S p1 p2 p3 p4 p5 p6 ∧ (∀ E S2, F_T_transition S p1 p2 p3 p4 p5 p6 = (.inl E, S2) → E = "java/lang/IllegalArgumentException" ∨ E = "java/lang/IllegalStateException")
abbrev rm_L_transition : Room := { frames := 8, cells := 5, slots := 30, locals := 480 }
theorem c_L_transition (T' : Nat → Nat × Nat) (G' : Nat → Nat → Option Nat) (q0 : Nat) (S : (Nat → Nat → Int32)) (n : Nat) (p1 : Int32) (p2 : Int32) (p3 : Int32) (p4 : Int32) (p5 : Int32) (p6 : Int32) (hs : Sf_L_transition S p1 p2 p3 p4 p5 p6) : z_RunH rm_L_transition zm_L_transition hh_L_transition [z_r 0, .inl p1, .inl p2, .inl p3, .inl p4, .inl p5, .inl p6, z_r 193] (zW T' (zwG G' q0) S n) (fun v w' => ∃ n2 q, n ≤ n2 ∧ v = some (.inl (F_L_transition S p1 p2 p3 p4 p5 p6).1 : z_V) ∧ w' = zW T' (zwG G' q) (F_L_transition S p1 p2 p3 p4 p5 p6).2 n2) := by
  refine z_bodyH (by decide) (fun q h => nomatch h) (Nat.le_of_ble_eq_true rfl) (fun X M TB => ?_)
  obtain ⟨hs, hE⟩ := hs
  show z_G X zm_L_transition (0, [(0, z_r 0), (1, .inl p1), (2, .inl p2), (3, .inl p3), (4, .inl p4), (5, .inl p5), (6, .inl p6), (7, z_r 193)], [], zW T' (zwG G' q0) S n, 0, 0)
  refine z_go2 M.1 0 [(.aload 7, 2), (.iconst 0, 1), (.aload_n 0, 1), (.iload_n 1, 1), (.iload_n 2, 1), (.iload_n 3, 1), (.iload 4, 2), (.iload 5, 2), (.iload 6, 2)] (13, [(0, z_r 0), (1, .inl p1), (2, .inl p2), (3, .inl p3), (4, .inl p4), (5, .inl p5), (6, .inl p6), (7, z_r 193)], [.inl p6, .inl p5, .inl p4, .inl p3, .inl p2, .inl p1, z_r 0, .inl 0, z_r 193], zW T' (zwG G' q0) S n, 0, 0) (by decide +kernel) rfl ⟨trivial, trivial, trivial, trivial, trivial, trivial, trivial, trivial, trivial, trivial⟩ ?_
  refine z_callVX M.1 (av := [.inl p1, .inl p2, .inl p3, .inl p4, .inl p5, .inl p6]) (st := [.inl 0, z_r 193]) (a := 0) (ci := 11) (by decide +kernel) (c_T_transition T' (zwG G' q0) S n p1 p2 p3 p4 p5 p6 hs) M.2.1 zl_L_46 (z_wi 967 (by decide +kernel) rfl) zv_T_transition rfl rfl rfl ⟨by decide, by decide, by decide, by decide⟩ rfl (Nat.le_of_ble_eq_true rfl) (fun E w' hx => ?_) (fun v w' hv => ?_)
  · obtain ⟨S2, n2, hn2, h0, rfl⟩ := hx
    have hEE := hE _ _ h0
    have hF : F_L_transition S p1 p2 p3 p4 p5 p6 = ((if E = "java/lang/IllegalArgumentException" then 1 else (if E = "java/lang/IllegalStateException" then 2 else 0)), S2) := by unfold F_L_transition; rw [h0]
    rcases hEE with rfl | rfl
    · refine z_catch M.1 TB [] [(0, 18, 25, 17)] 0 18 21 15 rfl (fun z hz => nomatch hz) (by decide) (by decide) (z_wi 686 (by decide +kernel) rfl) (z_ni 777 (by decide +kernel) rfl) (i := 8) (Or.inl (by decide +kernel)) (by decide) (fun g hg => ?_)
      have KK : z_G X zm_L_transition (23, [], [], zW T' (zwG G' q0) S2 n2, 5, 30) := by
        refine z_go2 M.1 23 [(.iconst 1, 1)] (24, [], [.inl 1], zW T' (zwG G' q0) S2 n2, 5, 30) (by decide +kernel) rfl ⟨trivial, trivial⟩ ?_
        exact z_iret M (by decide +kernel) .int rfl rfl (by decide) (by decide) ⟨n2, q0, hn2, by rw [hF]; simp, by rw [hF]⟩
      rcases hg with ⟨rfl, -⟩ | ⟨rfl, kk, h9⟩
      · exact KK
      · exact absurd (h9.symm.trans (show decode zm_L_transition.2.1 21 = .ok (.astore 8, 2) by decide +kernel)) (by simp)
    · refine z_catch M.1 TB [(0, 18, 21, 15)] [] 0 18 25 17 rfl (fun z hz => by obtain rfl := List.mem_singleton.mp hz; exact ⟨by decide, "java/lang/IllegalArgumentException", z_wi 686 (by decide +kernel) rfl, by simp [z_NC]⟩) (by decide) (by decide) (z_wi 687 (by decide +kernel) rfl) (z_ni 852 (by decide +kernel) rfl) (i := 8) (Or.inl (by decide +kernel)) (by decide) (fun g hg => ?_)
      have KK : z_G X zm_L_transition (27, [], [], zW T' (zwG G' q0) S2 n2, 5, 30) := by
        refine z_go2 M.1 27 [(.iconst 2, 1)] (28, [], [.inl 2], zW T' (zwG G' q0) S2 n2, 5, 30) (by decide +kernel) rfl ⟨trivial, trivial⟩ ?_
        exact z_iret M (by decide +kernel) .int rfl rfl (by decide) (by decide) ⟨n2, q0, hn2, by rw [hF]; simp, by rw [hF]⟩
      rcases hg with ⟨rfl, -⟩ | ⟨rfl, kk, h9⟩
      · exact KK
      · exact absurd (h9.symm.trans (show decode zm_L_transition.2.1 25 = .ok (.astore 8, 2) by decide +kernel)) (by simp)
  · obtain ⟨x, S2, h0, rfl, rfl⟩ := hv
    have hF : F_L_transition S p1 p2 p3 p4 p5 p6 = (0, z_uS S2 193 0 x) := by unfold F_L_transition; rw [h0]
    show z_G X zm_L_transition (16, [(0, z_r 0), (1, .inl p1), (2, .inl p2), (3, .inl p3), (4, .inl p4), (5, .inl p5), (6, .inl p6), (7, z_r 193)], [.inl x, .inl 0, z_r 193], zW T' (zwG G' q0) S2 n, 5, 30)
    refine z_go2 M.1 16 [(.i2l, 1), (.lastore, 1), (.goto 11, 3), (.iconst 0, 1)] (30, [(0, z_r 0), (1, .inl p1), (2, .inl p2), (3, .inl p3), (4, .inl p4), (5, .inl p5), (6, .inl p6), (7, z_r 193)], [.inl 0], zW T' (zwG G' q0) (z_uS S2 193 0 x) n, 5, 30) (by decide +kernel) rfl ⟨trivial, ⟨rfl, (show vp_in 0 1 by unfold vp_in; decide)⟩, trivial, trivial, trivial⟩ ?_
    exact z_iret M (by decide +kernel) .int rfl rfl (by decide) (by decide) ⟨n, q0, Nat.le_refl n, by rw [hF], by rw [hF]⟩
abbrev zm_L_publish : z_Y := (⟨"TrackHouseLaw", "publish", "(LTrackHouse;I[J)I"⟩, method_13_code, 4, some .int, [])
abbrev hh_L_publish : List (Nat × Nat × Nat × Nat) := [(0, 9, 12, 13), (0, 9, 15, 17)]
def F_L_publish (S : (Nat → Nat → Int32)) (p1 : Int32) : Int32 × (Nat → Nat → Int32) := match F_T_publish S p1 with | (.inl E, S2) => ((if E = "java/lang/IndexOutOfBoundsException" then 1 else (if E = "java/lang/IllegalStateException" then 2 else 0)), S2) | (.inr x, S2) => (0, z_uS S2 193 0 x)
def Sf_L_publish (S : (Nat → Nat → Int32)) (p1 : Int32) : Prop := Sf_T_publish S p1 ∧ (∀ E S2, F_T_publish S p1 = (.inl E, S2) → E = "java/lang/IndexOutOfBoundsException" ∨ E = "java/lang/IllegalStateException")
abbrev rm_L_publish : Room := { frames := 8, cells := 3, slots := 18, locals := 480 }
theorem c_L_publish (T' : Nat → Nat × Nat) (G' : Nat → Nat → Option Nat) (q0 : Nat) (S : (Nat → Nat → Int32)) (n : Nat) (p1 : Int32) (hs : Sf_L_publish S p1) : z_RunH rm_L_publish zm_L_publish hh_L_publish [z_r 0, .inl p1, z_r 193] (zW T' (zwG G' q0) S n) (fun v w' => ∃ n2 q, n ≤ n2 ∧ v = some (.inl (F_L_publish S p1).1 : z_V) ∧ w' = zW T' (zwG G' q) (F_L_publish S p1).2 n2) := by
  refine z_bodyH (by decide) (fun q h => nomatch h) (Nat.le_of_ble_eq_true rfl) (fun X M TB => ?_)
  obtain ⟨hs, hE⟩ := hs
  show z_G X zm_L_publish (0, [(0, z_r 0), (1, .inl p1), (2, z_r 193)], [], zW T' (zwG G' q0) S n, 0, 0)
  refine z_go2 M.1 0 [(.aload_n 2, 1), (.iconst 0, 1), (.aload_n 0, 1), (.iload_n 1, 1)] (4, [(0, z_r 0), (1, .inl p1), (2, z_r 193)], [.inl p1, z_r 0, .inl 0, z_r 193], zW T' (zwG G' q0) S n, 0, 0) (by decide +kernel) rfl ⟨trivial, trivial, trivial, trivial, trivial⟩ ?_
  refine z_callVX M.1 (av := [.inl p1]) (st := [.inl 0, z_r 193]) (a := 0) (ci := 11) (by decide +kernel) (c_T_publish T' (zwG G' q0) S n p1 hs) M.2.1 zl_L_50 (z_wi 985 (by decide +kernel) rfl) zv_T_publish rfl rfl rfl ⟨by decide, by decide, by decide, by decide⟩ rfl (Nat.le_of_ble_eq_true rfl) (fun E w' hx => ?_) (fun v w' hv => ?_)
  · obtain ⟨S2, n2, hn2, h0, rfl⟩ := hx
    have hEE := hE _ _ h0
    have hF : F_L_publish S p1 = ((if E = "java/lang/IndexOutOfBoundsException" then 1 else (if E = "java/lang/IllegalStateException" then 2 else 0)), S2) := by unfold F_L_publish; rw [h0]
    rcases hEE with rfl | rfl
    · refine z_catch M.1 TB [] [(0, 9, 15, 17)] 0 9 12 13 rfl (fun z hz => nomatch hz) (by decide) (by decide) (z_wi 685 (by decide +kernel) rfl) (z_ni 703 (by decide +kernel) rfl) (i := 3) (Or.inr ⟨3, rfl, by decide +kernel⟩) (by decide) (fun g hg => ?_)
      have KK : z_G X zm_L_publish (13, [], [], zW T' (zwG G' q0) S2 n2, 3, 18) := by
        refine z_go2 M.1 13 [(.iconst 1, 1)] (14, [], [.inl 1], zW T' (zwG G' q0) S2 n2, 3, 18) (by decide +kernel) rfl ⟨trivial, trivial⟩ ?_
        exact z_iret M (by decide +kernel) .int rfl rfl (by decide) (by decide) ⟨n2, q0, hn2, by rw [hF]; simp, by rw [hF]⟩
      rcases hg with ⟨rfl, h9⟩ | ⟨rfl, -⟩
      · exact absurd (h9.symm.trans (show decode zm_L_publish.2.1 12 = .ok (.astore_n 3, 1) by decide +kernel)) (by simp)
      · exact KK
    · refine z_catch M.1 TB [(0, 9, 12, 13)] [] 0 9 15 17 rfl (fun z hz => by obtain rfl := List.mem_singleton.mp hz; exact ⟨by decide, "java/lang/IndexOutOfBoundsException", z_wi 685 (by decide +kernel) rfl, by simp [z_NC]⟩) (by decide) (by decide) (z_wi 687 (by decide +kernel) rfl) (z_ni 852 (by decide +kernel) rfl) (i := 3) (Or.inr ⟨3, rfl, by decide +kernel⟩) (by decide) (fun g hg => ?_)
      have KK : z_G X zm_L_publish (16, [], [], zW T' (zwG G' q0) S2 n2, 3, 18) := by
        refine z_go2 M.1 16 [(.iconst 2, 1)] (17, [], [.inl 2], zW T' (zwG G' q0) S2 n2, 3, 18) (by decide +kernel) rfl ⟨trivial, trivial⟩ ?_
        exact z_iret M (by decide +kernel) .int rfl rfl (by decide) (by decide) ⟨n2, q0, hn2, by rw [hF]; simp, by rw [hF]⟩
      rcases hg with ⟨rfl, h9⟩ | ⟨rfl, -⟩
      · exact absurd (h9.symm.trans (show decode zm_L_publish.2.1 15 = .ok (.astore_n 3, 1) by decide +kernel)) (by simp)
      · exact KK
  · obtain ⟨x, S2, h0, rfl, rfl⟩ := hv
    have hF : F_L_publish S p1 = (0, z_uS S2 193 0 x) := by unfold F_L_publish; rw [h0]
    show z_G X zm_L_publish (7, [(0, z_r 0), (1, .inl p1), (2, z_r 193)], [.inl x, .inl 0, z_r 193], zW T' (zwG G' q0) S2 n, 3, 18)
    refine z_go2 M.1 7 [(.i2l, 1), (.lastore, 1), (.goto 9, 3), (.iconst 0, 1)] (19, [(0, z_r 0), (1, .inl p1), (2, z_r 193)], [.inl 0], zW T' (zwG G' q0) (z_uS S2 193 0 x) n, 3, 18) (by decide +kernel) rfl ⟨trivial, ⟨rfl, (show vp_in 0 1 by unfold vp_in; decide)⟩, trivial, trivial, trivial⟩ ?_
    exact z_iret M (by decide +kernel) .int rfl rfl (by decide) (by decide) ⟨n, q0, Nat.le_refl n, by rw [hF], by rw [hF]⟩
abbrev zm_L_create : z_Y := (⟨"TrackHouseLaw", "create", "(LTrackHouse;III[J)I"⟩, method_14_code, 6, some .int, [])
abbrev hh_L_create : List (Nat × Nat × Nat × Nat) := [(0, 12, 15, 13), (0, 12, 19, 17)]
def F_L_create (S : (Nat → Nat → Int32)) (p1 : Int32) (p2 : Int32) (p3 : Int32) : Int32 × (Nat → Nat → Int32) := match F_T_create S p1 p2 p3 with | (.inl E, S2) => ((if E = "java/lang/IndexOutOfBoundsException" then 1 else (if E = "java/lang/IllegalStateException" then 2 else 0)), S2) | (.inr x, S2) => (0, z_uS S2 193 0 x)
def Sf_L_create (S : (Nat → Nat → Int32)) (p1 : Int32) (p2 : Int32) (p3 : Int32) : Prop := Sf_T_create S p1 p2 p3 ∧ (∀ E S2, F_T_create S p1 p2 p3 = (.inl E, S2) → E = "java/lang/IndexOutOfBoundsException" ∨ E = "java/lang/IllegalStateException")
abbrev rm_L_create : Room := { frames := 8, cells := 3, slots := 18, locals := 480 }
theorem c_L_create (T' : Nat → Nat × Nat) (G' : Nat → Nat → Option Nat) (q0 : Nat) (S : (Nat → Nat → Int32)) (n : Nat) (p1 : Int32) (p2 : Int32) (p3 : Int32) (hs : Sf_L_create S p1 p2 p3) : z_RunH rm_L_create zm_L_create hh_L_create [z_r 0, .inl p1, .inl p2, .inl p3, z_r 193] (zW T' (zwG G' q0) S n) (fun v w' => ∃ n2 q, n ≤ n2 ∧ v = some (.inl (F_L_create S p1 p2 p3).1 : z_V) ∧ w' = zW T' (zwG G' q) (F_L_create S p1 p2 p3).2 n2) := by
  refine z_bodyH (by decide) (fun q h => nomatch h) (Nat.le_of_ble_eq_true rfl) (fun X M TB => ?_)
  obtain ⟨hs, hE⟩ := hs
  show z_G X zm_L_create (0, [(0, z_r 0), (1, .inl p1), (2, .inl p2), (3, .inl p3), (4, z_r 193)], [], zW T' (zwG G' q0) S n, 0, 0)
  refine z_go2 M.1 0 [(.aload 4, 2), (.iconst 0, 1), (.aload_n 0, 1), (.iload_n 1, 1), (.iload_n 2, 1), (.iload_n 3, 1)] (7, [(0, z_r 0), (1, .inl p1), (2, .inl p2), (3, .inl p3), (4, z_r 193)], [.inl p3, .inl p2, .inl p1, z_r 0, .inl 0, z_r 193], zW T' (zwG G' q0) S n, 0, 0) (by decide +kernel) rfl ⟨trivial, trivial, trivial, trivial, trivial, trivial, trivial⟩ ?_
  refine z_callVX M.1 (av := [.inl p1, .inl p2, .inl p3]) (st := [.inl 0, z_r 193]) (a := 0) (ci := 11) (by decide +kernel) (c_T_create T' (zwG G' q0) S n p1 p2 p3 hs) M.2.1 zl_L_53 (z_wi 1068 (by decide +kernel) rfl) zv_T_create rfl rfl rfl ⟨by decide, by decide, by decide, by decide⟩ rfl (Nat.le_of_ble_eq_true rfl) (fun E w' hx => ?_) (fun v w' hv => ?_)
  · obtain ⟨S2, n2, hn2, h0, rfl⟩ := hx
    have hEE := hE _ _ h0
    have hF : F_L_create S p1 p2 p3 = ((if E = "java/lang/IndexOutOfBoundsException" then 1 else (if E = "java/lang/IllegalStateException" then 2 else 0)), S2) := by unfold F_L_create; rw [h0]
    rcases hEE with rfl | rfl
    · refine z_catch M.1 TB [] [(0, 12, 19, 17)] 0 12 15 13 rfl (fun z hz => nomatch hz) (by decide) (by decide) (z_wi 685 (by decide +kernel) rfl) (z_ni 703 (by decide +kernel) rfl) (i := 5) (Or.inl (by decide +kernel)) (by decide) (fun g hg => ?_)
      have KK : z_G X zm_L_create (17, [], [], zW T' (zwG G' q0) S2 n2, 3, 18) := by
        refine z_go2 M.1 17 [(.iconst 1, 1)] (18, [], [.inl 1], zW T' (zwG G' q0) S2 n2, 3, 18) (by decide +kernel) rfl ⟨trivial, trivial⟩ ?_
        exact z_iret M (by decide +kernel) .int rfl rfl (by decide) (by decide) ⟨n2, q0, hn2, by rw [hF]; simp, by rw [hF]⟩
      rcases hg with ⟨rfl, -⟩ | ⟨rfl, kk, h9⟩
      · exact KK
      · exact absurd (h9.symm.trans (show decode zm_L_create.2.1 15 = .ok (.astore 5, 2) by decide +kernel)) (by simp)
    · refine z_catch M.1 TB [(0, 12, 15, 13)] [] 0 12 19 17 rfl (fun z hz => by obtain rfl := List.mem_singleton.mp hz; exact ⟨by decide, "java/lang/IndexOutOfBoundsException", z_wi 685 (by decide +kernel) rfl, by simp [z_NC]⟩) (by decide) (by decide) (z_wi 687 (by decide +kernel) rfl) (z_ni 852 (by decide +kernel) rfl) (i := 5) (Or.inl (by decide +kernel)) (by decide) (fun g hg => ?_)
      have KK : z_G X zm_L_create (21, [], [], zW T' (zwG G' q0) S2 n2, 3, 18) := by
        refine z_go2 M.1 21 [(.iconst 2, 1)] (22, [], [.inl 2], zW T' (zwG G' q0) S2 n2, 3, 18) (by decide +kernel) rfl ⟨trivial, trivial⟩ ?_
        exact z_iret M (by decide +kernel) .int rfl rfl (by decide) (by decide) ⟨n2, q0, hn2, by rw [hF]; simp, by rw [hF]⟩
      rcases hg with ⟨rfl, -⟩ | ⟨rfl, kk, h9⟩
      · exact KK
      · exact absurd (h9.symm.trans (show decode zm_L_create.2.1 19 = .ok (.astore 5, 2) by decide +kernel)) (by simp)
  · obtain ⟨x, S2, h0, rfl, rfl⟩ := hv
    have hF : F_L_create S p1 p2 p3 = (0, z_uS S2 193 0 x) := by unfold F_L_create; rw [h0]
    show z_G X zm_L_create (10, [(0, z_r 0), (1, .inl p1), (2, .inl p2), (3, .inl p3), (4, z_r 193)], [.inl x, .inl 0, z_r 193], zW T' (zwG G' q0) S2 n, 3, 18)
    refine z_go2 M.1 10 [(.i2l, 1), (.lastore, 1), (.goto 11, 3), (.iconst 0, 1)] (24, [(0, z_r 0), (1, .inl p1), (2, .inl p2), (3, .inl p3), (4, z_r 193)], [.inl 0], zW T' (zwG G' q0) (z_uS S2 193 0 x) n, 3, 18) (by decide +kernel) rfl ⟨trivial, ⟨rfl, (show vp_in 0 1 by unfold vp_in; decide)⟩, trivial, trivial, trivial⟩ ?_
    exact z_iret M (by decide +kernel) .int rfl rfl (by decide) (by decide) ⟨n, q0, Nat.le_refl n, by rw [hF], by rw [hF]⟩
abbrev zm_L_set : z_Y := (⟨"TrackHouseLaw", "set", "(LTrackHouse;IIII[J)I"⟩, method_15_code, 7, some .int, [])
abbrev hh_L_set : List (Nat × Nat × Nat × Nat) := [(0, 14, 17, 13), (0, 14, 21, 15), (0, 14, 25, 17)]
def F_L_set (S : (Nat → Nat → Int32)) (p1 : Int32) (p2 : Int32) (p3 : Int32) (p4 : Int32) : Int32 × (Nat → Nat → Int32) := match F_T_set S p1 p2 p3 p4 with | (.inl E, S2) => ((if E = "java/lang/IndexOutOfBoundsException" then 1 else (if E = "java/lang/IllegalArgumentException" then 2 else (if E = "java/lang/IllegalStateException" then 3 else 0))), S2) | (.inr x, S2) => (0, z_uS S2 193 0 x)
def Sf_L_set (S : (Nat → Nat → Int32)) (p1 : Int32) (p2 : Int32) (p3 : Int32) (p4 : Int32) : Prop := Sf_T_set S p1 p2 p3 p4 ∧ (∀ E S2, F_T_set S p1 p2 p3 p4 = (.inl E, S2) → E = "java/lang/IndexOutOfBoundsException" ∨ E = "java/lang/IllegalArgumentException" ∨ E = "java/lang/IllegalStateException")
abbrev rm_L_set : Room := { frames := 8, cells := 4, slots := 24, locals := 480 }
theorem c_L_set (T' : Nat → Nat × Nat) (G' : Nat → Nat → Option Nat) (q0 : Nat) (S : (Nat → Nat → Int32)) (n : Nat) (p1 : Int32) (p2 : Int32) (p3 : Int32) (p4 : Int32) (hs : Sf_L_set S p1 p2 p3 p4) : z_RunH rm_L_set zm_L_set hh_L_set [z_r 0, .inl p1, .inl p2, .inl p3, .inl p4, z_r 193] (zW T' (zwG G' q0) S n) (fun v w' => ∃ n2 q, n ≤ n2 ∧ v = some (.inl (F_L_set S p1 p2 p3 p4).1 : z_V) ∧ w' = zW T' (zwG G' q) (F_L_set S p1 p2 p3 p4).2 n2) := by
  refine z_bodyH (by decide) (fun q h => nomatch h) (Nat.le_of_ble_eq_true rfl) (fun X M TB => ?_)
  obtain ⟨hs, hE⟩ := hs
  show z_G X zm_L_set (0, [(0, z_r 0), (1, .inl p1), (2, .inl p2), (3, .inl p3), (4, .inl p4), (5, z_r 193)], [], zW T' (zwG G' q0) S n, 0, 0)
  refine z_go2 M.1 0 [(.aload 5, 2), (.iconst 0, 1), (.aload_n 0, 1), (.iload_n 1, 1), (.iload_n 2, 1), (.iload_n 3, 1), (.iload 4, 2)] (9, [(0, z_r 0), (1, .inl p1), (2, .inl p2), (3, .inl p3), (4, .inl p4), (5, z_r 193)], [.inl p4, .inl p3, .inl p2, .inl p1, z_r 0, .inl 0, z_r 193], zW T' (zwG G' q0) S n, 0, 0) (by decide +kernel) rfl ⟨trivial, trivial, trivial, trivial, trivial, trivial, trivial, trivial⟩ ?_
  refine z_callVX M.1 (av := [.inl p1, .inl p2, .inl p3, .inl p4]) (st := [.inl 0, z_r 193]) (a := 0) (ci := 11) (by decide +kernel) (c_T_set T' G' q0 S n p1 p2 p3 p4 hs) M.2.1 zl_L_56 (z_wi 1106 (by decide +kernel) rfl) zv_T_set rfl rfl rfl ⟨by decide, by decide, by decide, by decide⟩ rfl (Nat.le_of_ble_eq_true rfl) (fun E w' hx => ?_) (fun v w' hv => ?_)
  · obtain ⟨S2, n2, q, hn2, h0, rfl⟩ := hx
    have hEE := hE _ _ h0
    have hF : F_L_set S p1 p2 p3 p4 = ((if E = "java/lang/IndexOutOfBoundsException" then 1 else (if E = "java/lang/IllegalArgumentException" then 2 else (if E = "java/lang/IllegalStateException" then 3 else 0))), S2) := by unfold F_L_set; rw [h0]
    rcases hEE with rfl | rfl | rfl
    · refine z_catch M.1 TB [] [(0, 14, 21, 15), (0, 14, 25, 17)] 0 14 17 13 rfl (fun z hz => nomatch hz) (by decide) (by decide) (z_wi 685 (by decide +kernel) rfl) (z_ni 703 (by decide +kernel) rfl) (i := 6) (Or.inl (by decide +kernel)) (by decide) (fun g hg => ?_)
      have KK : z_G X zm_L_set (19, [], [], zW T' (zwG G' q) S2 n2, 4, 24) := by
        refine z_go2 M.1 19 [(.iconst 1, 1)] (20, [], [.inl 1], zW T' (zwG G' q) S2 n2, 4, 24) (by decide +kernel) rfl ⟨trivial, trivial⟩ ?_
        exact z_iret M (by decide +kernel) .int rfl rfl (by decide) (by decide) ⟨n2, q, hn2, by rw [hF]; simp, by rw [hF]⟩
      rcases hg with ⟨rfl, -⟩ | ⟨rfl, kk, h9⟩
      · exact KK
      · exact absurd (h9.symm.trans (show decode zm_L_set.2.1 17 = .ok (.astore 6, 2) by decide +kernel)) (by simp)
    · refine z_catch M.1 TB [(0, 14, 17, 13)] [(0, 14, 25, 17)] 0 14 21 15 rfl (fun z hz => by obtain rfl := List.mem_singleton.mp hz; exact ⟨by decide, "java/lang/IndexOutOfBoundsException", z_wi 685 (by decide +kernel) rfl, by simp [z_NC]⟩) (by decide) (by decide) (z_wi 686 (by decide +kernel) rfl) (z_ni 777 (by decide +kernel) rfl) (i := 6) (Or.inl (by decide +kernel)) (by decide) (fun g hg => ?_)
      have KK : z_G X zm_L_set (23, [], [], zW T' (zwG G' q) S2 n2, 4, 24) := by
        refine z_go2 M.1 23 [(.iconst 2, 1)] (24, [], [.inl 2], zW T' (zwG G' q) S2 n2, 4, 24) (by decide +kernel) rfl ⟨trivial, trivial⟩ ?_
        exact z_iret M (by decide +kernel) .int rfl rfl (by decide) (by decide) ⟨n2, q, hn2, by rw [hF]; simp, by rw [hF]⟩
      rcases hg with ⟨rfl, -⟩ | ⟨rfl, kk, h9⟩
      · exact KK
      · exact absurd (h9.symm.trans (show decode zm_L_set.2.1 21 = .ok (.astore 6, 2) by decide +kernel)) (by simp)
    · refine z_catch M.1 TB [(0, 14, 17, 13), (0, 14, 21, 15)] [] 0 14 25 17 rfl (fun z hz => by rcases List.mem_cons.mp hz with rfl | hz; exact ⟨by decide, "java/lang/IndexOutOfBoundsException", z_wi 685 (by decide +kernel) rfl, by simp [z_NC]⟩; obtain rfl := List.mem_singleton.mp hz; exact ⟨by decide, "java/lang/IllegalArgumentException", z_wi 686 (by decide +kernel) rfl, by simp [z_NC]⟩) (by decide) (by decide) (z_wi 687 (by decide +kernel) rfl) (z_ni 852 (by decide +kernel) rfl) (i := 6) (Or.inl (by decide +kernel)) (by decide) (fun g hg => ?_)
      have KK : z_G X zm_L_set (27, [], [], zW T' (zwG G' q) S2 n2, 4, 24) := by
        refine z_go2 M.1 27 [(.iconst 3, 1)] (28, [], [.inl 3], zW T' (zwG G' q) S2 n2, 4, 24) (by decide +kernel) rfl ⟨trivial, trivial⟩ ?_
        exact z_iret M (by decide +kernel) .int rfl rfl (by decide) (by decide) ⟨n2, q, hn2, by rw [hF]; simp, by rw [hF]⟩
      rcases hg with ⟨rfl, -⟩ | ⟨rfl, kk, h9⟩
      · exact KK
      · exact absurd (h9.symm.trans (show decode zm_L_set.2.1 25 = .ok (.astore 6, 2) by decide +kernel)) (by simp)
  · obtain ⟨x, S2, q, h0, rfl, rfl⟩ := hv
    have hF : F_L_set S p1 p2 p3 p4 = (0, z_uS S2 193 0 x) := by unfold F_L_set; rw [h0]
    show z_G X zm_L_set (12, [(0, z_r 0), (1, .inl p1), (2, .inl p2), (3, .inl p3), (4, .inl p4), (5, z_r 193)], [.inl x, .inl 0, z_r 193], zW T' (zwG G' q) S2 n, 4, 24)
    refine z_go2 M.1 12 [(.i2l, 1), (.lastore, 1), (.goto 15, 3), (.iconst 0, 1)] (30, [(0, z_r 0), (1, .inl p1), (2, .inl p2), (3, .inl p3), (4, .inl p4), (5, z_r 193)], [.inl 0], zW T' (zwG G' q) (z_uS S2 193 0 x) n, 4, 24) (by decide +kernel) rfl ⟨trivial, ⟨rfl, (show vp_in 0 1 by unfold vp_in; decide)⟩, trivial, trivial, trivial⟩ ?_
    exact z_iret M (by decide +kernel) .int rfl rfl (by decide) (by decide) ⟨n, q, Nat.le_refl n, by rw [hF], by rw [hF]⟩
abbrev zm_L_assign : z_Y := (⟨"TrackHouseLaw", "assign", "(LTrackHouse;III[J)I"⟩, method_16_code, 6, some .int, [])
abbrev hh_L_assign : List (Nat × Nat × Nat × Nat) := [(0, 12, 15, 13), (0, 12, 19, 17)]
def F_L_assign (S : (Nat → Nat → Int32)) (p1 : Int32) (p2 : Int32) (p3 : Int32) : Int32 × (Nat → Nat → Int32) := match F_T_assign S p1 p2 p3 with | (.inl E, S2) => ((if E = "java/lang/IndexOutOfBoundsException" then 1 else (if E = "java/lang/IllegalStateException" then 2 else 0)), S2) | (.inr x, S2) => (0, z_uS S2 193 0 x)
def Sf_L_assign (S : (Nat → Nat → Int32)) (p1 : Int32) (p2 : Int32) (p3 : Int32) : Prop := Sf_T_assign S p1 p2 p3 ∧ (∀ E S2, F_T_assign S p1 p2 p3 = (.inl E, S2) → E = "java/lang/IndexOutOfBoundsException" ∨ E = "java/lang/IllegalStateException")
abbrev rm_L_assign : Room := { frames := 9, cells := 3, slots := 18, locals := 540 }
theorem c_L_assign (T' : Nat → Nat × Nat) (G' : Nat → Nat → Option Nat) (q0 : Nat) (S : (Nat → Nat → Int32)) (n : Nat) (p1 : Int32) (p2 : Int32) (p3 : Int32) (hs : Sf_L_assign S p1 p2 p3) : z_RunH rm_L_assign zm_L_assign hh_L_assign [z_r 0, .inl p1, .inl p2, .inl p3, z_r 193] (zW T' (zwG G' q0) S n) (fun v w' => ∃ n2 q, n ≤ n2 ∧ v = some (.inl (F_L_assign S p1 p2 p3).1 : z_V) ∧ w' = zW T' (zwG G' q) (F_L_assign S p1 p2 p3).2 n2) := by
  refine z_bodyH (by decide) (fun q h => nomatch h) (Nat.le_of_ble_eq_true rfl) (fun X M TB => ?_)
  obtain ⟨hs, hE⟩ := hs
  show z_G X zm_L_assign (0, [(0, z_r 0), (1, .inl p1), (2, .inl p2), (3, .inl p3), (4, z_r 193)], [], zW T' (zwG G' q0) S n, 0, 0)
  refine z_go2 M.1 0 [(.aload 4, 2), (.iconst 0, 1), (.aload_n 0, 1), (.iload_n 1, 1), (.iload_n 2, 1), (.iload_n 3, 1)] (7, [(0, z_r 0), (1, .inl p1), (2, .inl p2), (3, .inl p3), (4, z_r 193)], [.inl p3, .inl p2, .inl p1, z_r 0, .inl 0, z_r 193], zW T' (zwG G' q0) S n, 0, 0) (by decide +kernel) rfl ⟨trivial, trivial, trivial, trivial, trivial, trivial, trivial⟩ ?_
  refine z_callVX M.1 (av := [.inl p1, .inl p2, .inl p3]) (st := [.inl 0, z_r 193]) (a := 0) (ci := 11) (by decide +kernel) (c_T_assign T' G' q0 S n p1 p2 p3 hs) M.2.1 zl_L_60 (z_wi 1156 (by decide +kernel) rfl) zv_T_assign rfl rfl rfl ⟨by decide, by decide, by decide, by decide⟩ rfl (Nat.le_of_ble_eq_true rfl) (fun E w' hx => ?_) (fun v w' hv => ?_)
  · obtain ⟨S2, n2, q, hn2, h0, rfl⟩ := hx
    have hEE := hE _ _ h0
    have hF : F_L_assign S p1 p2 p3 = ((if E = "java/lang/IndexOutOfBoundsException" then 1 else (if E = "java/lang/IllegalStateException" then 2 else 0)), S2) := by unfold F_L_assign; rw [h0]
    rcases hEE with rfl | rfl
    · refine z_catch M.1 TB [] [(0, 12, 19, 17)] 0 12 15 13 rfl (fun z hz => nomatch hz) (by decide) (by decide) (z_wi 685 (by decide +kernel) rfl) (z_ni 703 (by decide +kernel) rfl) (i := 5) (Or.inl (by decide +kernel)) (by decide) (fun g hg => ?_)
      have KK : z_G X zm_L_assign (17, [], [], zW T' (zwG G' q) S2 n2, 3, 18) := by
        refine z_go2 M.1 17 [(.iconst 1, 1)] (18, [], [.inl 1], zW T' (zwG G' q) S2 n2, 3, 18) (by decide +kernel) rfl ⟨trivial, trivial⟩ ?_
        exact z_iret M (by decide +kernel) .int rfl rfl (by decide) (by decide) ⟨n2, q, hn2, by rw [hF]; simp, by rw [hF]⟩
      rcases hg with ⟨rfl, -⟩ | ⟨rfl, kk, h9⟩
      · exact KK
      · exact absurd (h9.symm.trans (show decode zm_L_assign.2.1 15 = .ok (.astore 5, 2) by decide +kernel)) (by simp)
    · refine z_catch M.1 TB [(0, 12, 15, 13)] [] 0 12 19 17 rfl (fun z hz => by obtain rfl := List.mem_singleton.mp hz; exact ⟨by decide, "java/lang/IndexOutOfBoundsException", z_wi 685 (by decide +kernel) rfl, by simp [z_NC]⟩) (by decide) (by decide) (z_wi 687 (by decide +kernel) rfl) (z_ni 852 (by decide +kernel) rfl) (i := 5) (Or.inl (by decide +kernel)) (by decide) (fun g hg => ?_)
      have KK : z_G X zm_L_assign (21, [], [], zW T' (zwG G' q) S2 n2, 3, 18) := by
        refine z_go2 M.1 21 [(.iconst 2, 1)] (22, [], [.inl 2], zW T' (zwG G' q) S2 n2, 3, 18) (by decide +kernel) rfl ⟨trivial, trivial⟩ ?_
        exact z_iret M (by decide +kernel) .int rfl rfl (by decide) (by decide) ⟨n2, q, hn2, by rw [hF]; simp, by rw [hF]⟩
      rcases hg with ⟨rfl, -⟩ | ⟨rfl, kk, h9⟩
      · exact KK
      · exact absurd (h9.symm.trans (show decode zm_L_assign.2.1 19 = .ok (.astore 5, 2) by decide +kernel)) (by simp)
  · obtain ⟨x, S2, q, h0, rfl, rfl⟩ := hv
    have hF : F_L_assign S p1 p2 p3 = (0, z_uS S2 193 0 x) := by unfold F_L_assign; rw [h0]
    show z_G X zm_L_assign (10, [(0, z_r 0), (1, .inl p1), (2, .inl p2), (3, .inl p3), (4, z_r 193)], [.inl x, .inl 0, z_r 193], zW T' (zwG G' q) S2 n, 3, 18)
    refine z_go2 M.1 10 [(.i2l, 1), (.lastore, 1), (.goto 11, 3), (.iconst 0, 1)] (24, [(0, z_r 0), (1, .inl p1), (2, .inl p2), (3, .inl p3), (4, z_r 193)], [.inl 0], zW T' (zwG G' q) (z_uS S2 193 0 x) n, 3, 18) (by decide +kernel) rfl ⟨trivial, ⟨rfl, (show vp_in 0 1 by unfold vp_in; decide)⟩, trivial, trivial, trivial⟩ ?_
    exact z_iret M (by decide +kernel) .int rfl rfl (by decide) (by decide) ⟨n, q, Nat.le_refl n, by rw [hF], by rw [hF]⟩
abbrev zm_L_move : z_Y := (⟨"TrackHouseLaw", "move", "(LTrackHouse;III[J)I"⟩, method_17_code, 6, some .int, [])
abbrev hh_L_move : List (Nat × Nat × Nat × Nat) := [(0, 12, 15, 13), (0, 12, 19, 15), (0, 12, 23, 17)]
def F_L_move (S : (Nat → Nat → Int32)) (p1 : Int32) (p2 : Int32) (p3 : Int32) : Int32 × (Nat → Nat → Int32) := match F_T_move S p1 p2 p3 with | (.inl E, S2) => ((if E = "java/lang/IndexOutOfBoundsException" then 1 else (if E = "java/lang/IllegalArgumentException" then 2 else (if E = "java/lang/IllegalStateException" then 3 else 0))), S2) | (.inr x, S2) => (0, z_uS S2 193 0 x)
def Sf_L_move (S : (Nat → Nat → Int32)) (p1 : Int32) (p2 : Int32) (p3 : Int32) : Prop := Sf_T_move S p1 p2 p3 ∧ (∀ E S2, F_T_move S p1 p2 p3 = (.inl E, S2) → E = "java/lang/IndexOutOfBoundsException" ∨ E = "java/lang/IllegalArgumentException" ∨ E = "java/lang/IllegalStateException")
abbrev rm_L_move : Room := { frames := 8, cells := 4, slots := 24, locals := 480 }
theorem c_L_move (T' : Nat → Nat × Nat) (G' : Nat → Nat → Option Nat) (q0 : Nat) (S : (Nat → Nat → Int32)) (n : Nat) (p1 : Int32) (p2 : Int32) (p3 : Int32) (hs : Sf_L_move S p1 p2 p3) : z_RunH rm_L_move zm_L_move hh_L_move [z_r 0, .inl p1, .inl p2, .inl p3, z_r 193] (zW T' (zwG G' q0) S n) (fun v w' => ∃ n2 q, n ≤ n2 ∧ v = some (.inl (F_L_move S p1 p2 p3).1 : z_V) ∧ w' = zW T' (zwG G' q) (F_L_move S p1 p2 p3).2 n2) := by
  refine z_bodyH (by decide) (fun q h => nomatch h) (Nat.le_of_ble_eq_true rfl) (fun X M TB => ?_)
  obtain ⟨hs, hE⟩ := hs
  show z_G X zm_L_move (0, [(0, z_r 0), (1, .inl p1), (2, .inl p2), (3, .inl p3), (4, z_r 193)], [], zW T' (zwG G' q0) S n, 0, 0)
  refine z_go2 M.1 0 [(.aload 4, 2), (.iconst 0, 1), (.aload_n 0, 1), (.iload_n 1, 1), (.iload_n 2, 1), (.iload_n 3, 1)] (7, [(0, z_r 0), (1, .inl p1), (2, .inl p2), (3, .inl p3), (4, z_r 193)], [.inl p3, .inl p2, .inl p1, z_r 0, .inl 0, z_r 193], zW T' (zwG G' q0) S n, 0, 0) (by decide +kernel) rfl ⟨trivial, trivial, trivial, trivial, trivial, trivial, trivial⟩ ?_
  refine z_callVX M.1 (av := [.inl p1, .inl p2, .inl p3]) (st := [.inl 0, z_r 193]) (a := 0) (ci := 11) (by decide +kernel) (c_T_move T' G' q0 S n p1 p2 p3 hs) M.2.1 zl_L_63 (z_wi 1167 (by decide +kernel) rfl) zv_T_move rfl rfl rfl ⟨by decide, by decide, by decide, by decide⟩ rfl (Nat.le_of_ble_eq_true rfl) (fun E w' hx => ?_) (fun v w' hv => ?_)
  · obtain ⟨S2, n2, q, hn2, h0, rfl⟩ := hx
    have hEE := hE _ _ h0
    have hF : F_L_move S p1 p2 p3 = ((if E = "java/lang/IndexOutOfBoundsException" then 1 else (if E = "java/lang/IllegalArgumentException" then 2 else (if E = "java/lang/IllegalStateException" then 3 else 0))), S2) := by unfold F_L_move; rw [h0]
    rcases hEE with rfl | rfl | rfl
    · refine z_catch M.1 TB [] [(0, 12, 19, 15), (0, 12, 23, 17)] 0 12 15 13 rfl (fun z hz => nomatch hz) (by decide) (by decide) (z_wi 685 (by decide +kernel) rfl) (z_ni 703 (by decide +kernel) rfl) (i := 5) (Or.inl (by decide +kernel)) (by decide) (fun g hg => ?_)
      have KK : z_G X zm_L_move (17, [], [], zW T' (zwG G' q) S2 n2, 4, 24) := by
        refine z_go2 M.1 17 [(.iconst 1, 1)] (18, [], [.inl 1], zW T' (zwG G' q) S2 n2, 4, 24) (by decide +kernel) rfl ⟨trivial, trivial⟩ ?_
        exact z_iret M (by decide +kernel) .int rfl rfl (by decide) (by decide) ⟨n2, q, hn2, by rw [hF]; simp, by rw [hF]⟩
      rcases hg with ⟨rfl, -⟩ | ⟨rfl, kk, h9⟩
      · exact KK
      · exact absurd (h9.symm.trans (show decode zm_L_move.2.1 15 = .ok (.astore 5, 2) by decide +kernel)) (by simp)
    · refine z_catch M.1 TB [(0, 12, 15, 13)] [(0, 12, 23, 17)] 0 12 19 15 rfl (fun z hz => by obtain rfl := List.mem_singleton.mp hz; exact ⟨by decide, "java/lang/IndexOutOfBoundsException", z_wi 685 (by decide +kernel) rfl, by simp [z_NC]⟩) (by decide) (by decide) (z_wi 686 (by decide +kernel) rfl) (z_ni 777 (by decide +kernel) rfl) (i := 5) (Or.inl (by decide +kernel)) (by decide) (fun g hg => ?_)
      have KK : z_G X zm_L_move (21, [], [], zW T' (zwG G' q) S2 n2, 4, 24) := by
        refine z_go2 M.1 21 [(.iconst 2, 1)] (22, [], [.inl 2], zW T' (zwG G' q) S2 n2, 4, 24) (by decide +kernel) rfl ⟨trivial, trivial⟩ ?_
        exact z_iret M (by decide +kernel) .int rfl rfl (by decide) (by decide) ⟨n2, q, hn2, by rw [hF]; simp, by rw [hF]⟩
      rcases hg with ⟨rfl, -⟩ | ⟨rfl, kk, h9⟩
      · exact KK
      · exact absurd (h9.symm.trans (show decode zm_L_move.2.1 19 = .ok (.astore 5, 2) by decide +kernel)) (by simp)
    · refine z_catch M.1 TB [(0, 12, 15, 13), (0, 12, 19, 15)] [] 0 12 23 17 rfl (fun z hz => by rcases List.mem_cons.mp hz with rfl | hz; exact ⟨by decide, "java/lang/IndexOutOfBoundsException", z_wi 685 (by decide +kernel) rfl, by simp [z_NC]⟩; obtain rfl := List.mem_singleton.mp hz; exact ⟨by decide, "java/lang/IllegalArgumentException", z_wi 686 (by decide +kernel) rfl, by simp [z_NC]⟩) (by decide) (by decide) (z_wi 687 (by decide +kernel) rfl) (z_ni 852 (by decide +kernel) rfl) (i := 5) (Or.inl (by decide +kernel)) (by decide) (fun g hg => ?_)
      have KK : z_G X zm_L_move (25, [], [], zW T' (zwG G' q) S2 n2, 4, 24) := by
        refine z_go2 M.1 25 [(.iconst 3, 1)] (26, [], [.inl 3], zW T' (zwG G' q) S2 n2, 4, 24) (by decide +kernel) rfl ⟨trivial, trivial⟩ ?_
        exact z_iret M (by decide +kernel) .int rfl rfl (by decide) (by decide) ⟨n2, q, hn2, by rw [hF]; simp, by rw [hF]⟩
      rcases hg with ⟨rfl, -⟩ | ⟨rfl, kk, h9⟩
      · exact KK
      · exact absurd (h9.symm.trans (show decode zm_L_move.2.1 23 = .ok (.astore 5, 2) by decide +kernel)) (by simp)
  · obtain ⟨x, S2, q, h0, rfl, rfl⟩ := hv
    have hF : F_L_move S p1 p2 p3 = (0, z_uS S2 193 0 x) := by unfold F_L_move; rw [h0]
    show z_G X zm_L_move (10, [(0, z_r 0), (1, .inl p1), (2, .inl p2), (3, .inl p3), (4, z_r 193)], [.inl x, .inl 0, z_r 193], zW T' (zwG G' q) S2 n, 4, 24)
    refine z_go2 M.1 10 [(.i2l, 1), (.lastore, 1), (.goto 15, 3), (.iconst 0, 1)] (28, [(0, z_r 0), (1, .inl p1), (2, .inl p2), (3, .inl p3), (4, z_r 193)], [.inl 0], zW T' (zwG G' q) (z_uS S2 193 0 x) n, 4, 24) (by decide +kernel) rfl ⟨trivial, ⟨rfl, (show vp_in 0 1 by unfold vp_in; decide)⟩, trivial, trivial, trivial⟩ ?_
    exact z_iret M (by decide +kernel) .int rfl rfl (by decide) (by decide) ⟨n, q, Nat.le_refl n, by rw [hF], by rw [hF]⟩
abbrev zm_L_nest : z_Y := (⟨"TrackHouseLaw", "nest", "(LTrackHouse;III[J)I"⟩, method_18_code, 6, some .int, [])
abbrev hh_L_nest : List (Nat × Nat × Nat × Nat) := [(0, 12, 15, 13), (0, 12, 19, 17)]
def F_L_nest (S : (Nat → Nat → Int32)) (p1 : Int32) (p2 : Int32) (p3 : Int32) : Int32 × (Nat → Nat → Int32) := match F_T_nest S p1 p2 p3 with | (.inl E, S2) => ((if E = "java/lang/IndexOutOfBoundsException" then 1 else (if E = "java/lang/IllegalStateException" then 2 else 0)), S2) | (.inr x, S2) => (0, z_uS S2 193 0 x)
def Sf_L_nest (S : (Nat → Nat → Int32)) (p1 : Int32) (p2 : Int32) (p3 : Int32) : Prop := Sf_T_nest S p1 p2 p3 ∧ (∀ E S2, F_T_nest S p1 p2 p3 = (.inl E, S2) → E = "java/lang/IndexOutOfBoundsException" ∨ E = "java/lang/IllegalStateException")
abbrev rm_L_nest : Room := { frames := 9, cells := 4, slots := 24, locals := 540 }
theorem c_L_nest (T' : Nat → Nat × Nat) (G' : Nat → Nat → Option Nat) (q0 : Nat) (S : (Nat → Nat → Int32)) (n : Nat) (p1 : Int32) (p2 : Int32) (p3 : Int32) (hs : Sf_L_nest S p1 p2 p3) : z_RunH rm_L_nest zm_L_nest hh_L_nest [z_r 0, .inl p1, .inl p2, .inl p3, z_r 193] (zW T' (zwG G' q0) S n) (fun v w' => ∃ n2 q, n ≤ n2 ∧ v = some (.inl (F_L_nest S p1 p2 p3).1 : z_V) ∧ w' = zW T' (zwG G' q) (F_L_nest S p1 p2 p3).2 n2) := by
  refine z_bodyH (by decide) (fun q h => nomatch h) (Nat.le_of_ble_eq_true rfl) (fun X M TB => ?_)
  obtain ⟨hs, hE⟩ := hs
  show z_G X zm_L_nest (0, [(0, z_r 0), (1, .inl p1), (2, .inl p2), (3, .inl p3), (4, z_r 193)], [], zW T' (zwG G' q0) S n, 0, 0)
  refine z_go2 M.1 0 [(.aload 4, 2), (.iconst 0, 1), (.aload_n 0, 1), (.iload_n 1, 1), (.iload_n 2, 1), (.iload_n 3, 1)] (7, [(0, z_r 0), (1, .inl p1), (2, .inl p2), (3, .inl p3), (4, z_r 193)], [.inl p3, .inl p2, .inl p1, z_r 0, .inl 0, z_r 193], zW T' (zwG G' q0) S n, 0, 0) (by decide +kernel) rfl ⟨trivial, trivial, trivial, trivial, trivial, trivial, trivial⟩ ?_
  refine z_callVX M.1 (av := [.inl p1, .inl p2, .inl p3]) (st := [.inl 0, z_r 193]) (a := 0) (ci := 11) (by decide +kernel) (c_T_nest T' G' q0 S n p1 p2 p3 hs) M.2.1 zl_L_66 (z_wi 1179 (by decide +kernel) rfl) zv_T_nest rfl rfl rfl ⟨by decide, by decide, by decide, by decide⟩ rfl (Nat.le_of_ble_eq_true rfl) (fun E w' hx => ?_) (fun v w' hv => ?_)
  · obtain ⟨S2, n2, q, hn2, h0, rfl⟩ := hx
    have hEE := hE _ _ h0
    have hF : F_L_nest S p1 p2 p3 = ((if E = "java/lang/IndexOutOfBoundsException" then 1 else (if E = "java/lang/IllegalStateException" then 2 else 0)), S2) := by unfold F_L_nest; rw [h0]
    rcases hEE with rfl | rfl
    · refine z_catch M.1 TB [] [(0, 12, 19, 17)] 0 12 15 13 rfl (fun z hz => nomatch hz) (by decide) (by decide) (z_wi 685 (by decide +kernel) rfl) (z_ni 703 (by decide +kernel) rfl) (i := 5) (Or.inl (by decide +kernel)) (by decide) (fun g hg => ?_)
      have KK : z_G X zm_L_nest (17, [], [], zW T' (zwG G' q) S2 n2, 4, 24) := by
        refine z_go2 M.1 17 [(.iconst 1, 1)] (18, [], [.inl 1], zW T' (zwG G' q) S2 n2, 4, 24) (by decide +kernel) rfl ⟨trivial, trivial⟩ ?_
        exact z_iret M (by decide +kernel) .int rfl rfl (by decide) (by decide) ⟨n2, q, hn2, by rw [hF]; simp, by rw [hF]⟩
      rcases hg with ⟨rfl, -⟩ | ⟨rfl, kk, h9⟩
      · exact KK
      · exact absurd (h9.symm.trans (show decode zm_L_nest.2.1 15 = .ok (.astore 5, 2) by decide +kernel)) (by simp)
    · refine z_catch M.1 TB [(0, 12, 15, 13)] [] 0 12 19 17 rfl (fun z hz => by obtain rfl := List.mem_singleton.mp hz; exact ⟨by decide, "java/lang/IndexOutOfBoundsException", z_wi 685 (by decide +kernel) rfl, by simp [z_NC]⟩) (by decide) (by decide) (z_wi 687 (by decide +kernel) rfl) (z_ni 852 (by decide +kernel) rfl) (i := 5) (Or.inl (by decide +kernel)) (by decide) (fun g hg => ?_)
      have KK : z_G X zm_L_nest (21, [], [], zW T' (zwG G' q) S2 n2, 4, 24) := by
        refine z_go2 M.1 21 [(.iconst 2, 1)] (22, [], [.inl 2], zW T' (zwG G' q) S2 n2, 4, 24) (by decide +kernel) rfl ⟨trivial, trivial⟩ ?_
        exact z_iret M (by decide +kernel) .int rfl rfl (by decide) (by decide) ⟨n2, q, hn2, by rw [hF]; simp, by rw [hF]⟩
      rcases hg with ⟨rfl, -⟩ | ⟨rfl, kk, h9⟩
      · exact KK
      · exact absurd (h9.symm.trans (show decode zm_L_nest.2.1 19 = .ok (.astore 5, 2) by decide +kernel)) (by simp)
  · obtain ⟨x, S2, q, h0, rfl, rfl⟩ := hv
    have hF : F_L_nest S p1 p2 p3 = (0, z_uS S2 193 0 x) := by unfold F_L_nest; rw [h0]
    show z_G X zm_L_nest (10, [(0, z_r 0), (1, .inl p1), (2, .inl p2), (3, .inl p3), (4, z_r 193)], [.inl x, .inl 0, z_r 193], zW T' (zwG G' q) S2 n, 4, 24)
    refine z_go2 M.1 10 [(.i2l, 1), (.lastore, 1), (.goto 11, 3), (.iconst 0, 1)] (24, [(0, z_r 0), (1, .inl p1), (2, .inl p2), (3, .inl p3), (4, z_r 193)], [.inl 0], zW T' (zwG G' q) (z_uS S2 193 0 x) n, 4, 24) (by decide +kernel) rfl ⟨trivial, ⟨rfl, (show vp_in 0 1 by unfold vp_in; decide)⟩, trivial, trivial, trivial⟩ ?_
    exact z_iret M (by decide +kernel) .int rfl rfl (by decide) (by decide) ⟨n, q, Nat.le_refl n, by rw [hF], by rw [hF]⟩
abbrev zm_L_link : z_Y := (⟨"TrackHouseLaw", "link", "(LTrackHouse;IIIIZ[J)I"⟩, method_19_code, 8, some .int, [])
abbrev hh_L_link : List (Nat × Nat × Nat × Nat) := [(0, 23, 26, 13), (0, 23, 30, 15), (0, 23, 34, 17)]
def F_L_link (S : (Nat → Nat → Int32)) (p1 : Int32) (p2 : Int32) (p3 : Int32) (p4 : Int32) (p5 : Int32) : Int32 × (Nat → Nat → Int32) := match F_T_link S p1 p2 p3 p4 p5 with | (.inl E, S2) => ((if E = "java/lang/IndexOutOfBoundsException" then 1 else (if E = "java/lang/IllegalArgumentException" then 2 else (if E = "java/lang/IllegalStateException" then 3 else 0))), S2) | (.inr x, S2) => (0, z_uS S2 193 0 (if x = 0 then 0 else 1))
def Sf_L_link (S : (Nat → Nat → Int32)) (p1 : Int32) (p2 : Int32) (p3 : Int32) (p4 : Int32) (p5 : Int32) : Prop := Sf_T_link S p1 p2 p3 p4 p5 ∧ (∀ E S2, F_T_link S p1 p2 p3 p4 p5 = (.inl E, S2) → E = "java/lang/IndexOutOfBoundsException" ∨ E = "java/lang/IllegalArgumentException" ∨ E = "java/lang/IllegalStateException")
abbrev rm_L_link : Room := { frames := 8, cells := 4, slots := 24, locals := 480 }
theorem c_L_link (T' : Nat → Nat × Nat) (G' : Nat → Nat → Option Nat) (q0 : Nat) (S : (Nat → Nat → Int32)) (n : Nat) (p1 : Int32) (p2 : Int32) (p3 : Int32) (p4 : Int32) (p5 : Int32) (hs : Sf_L_link S p1 p2 p3 p4 p5) : z_RunH rm_L_link zm_L_link hh_L_link [z_r 0, .inl p1, .inl p2, .inl p3, .inl p4, .inl p5, z_r 193] (zW T' (zwG G' q0) S n) (fun v w' => ∃ n2 q, n ≤ n2 ∧ v = some (.inl (F_L_link S p1 p2 p3 p4 p5).1 : z_V) ∧ w' = zW T' (zwG G' q) (F_L_link S p1 p2 p3 p4 p5).2 n2) := by
  refine z_bodyH (by decide) (fun q h => nomatch h) (Nat.le_of_ble_eq_true rfl) (fun X M TB => ?_)
  obtain ⟨hs, hE⟩ := hs
  show z_G X zm_L_link (0, [(0, z_r 0), (1, .inl p1), (2, .inl p2), (3, .inl p3), (4, .inl p4), (5, .inl p5), (6, z_r 193)], [], zW T' (zwG G' q0) S n, 0, 0)
  refine z_go2 M.1 0 [(.aload 6, 2), (.iconst 0, 1), (.aload_n 0, 1), (.iload_n 1, 1), (.iload_n 2, 1), (.iload_n 3, 1), (.iload 4, 2), (.iload 5, 2)] (11, [(0, z_r 0), (1, .inl p1), (2, .inl p2), (3, .inl p3), (4, .inl p4), (5, .inl p5), (6, z_r 193)], [.inl p5, .inl p4, .inl p3, .inl p2, .inl p1, z_r 0, .inl 0, z_r 193], zW T' (zwG G' q0) S n, 0, 0) (by decide +kernel) rfl ⟨trivial, trivial, trivial, trivial, trivial, trivial, trivial, trivial, trivial⟩ ?_
  refine z_callVX M.1 (av := [.inl p1, .inl p2, .inl p3, .inl p4, .inl p5]) (st := [.inl 0, z_r 193]) (a := 0) (ci := 11) (by decide +kernel) (c_T_link T' G' q0 S n p1 p2 p3 p4 p5 hs) M.2.1 zl_L_69 (z_wi 1190 (by decide +kernel) rfl) zv_T_link rfl rfl rfl ⟨by decide, by decide, by decide, by decide⟩ rfl (Nat.le_of_ble_eq_true rfl) (fun E w' hx => ?_) (fun v w' hv => ?_)
  · obtain ⟨S2, n2, q, hn2, h0, rfl⟩ := hx
    have hEE := hE _ _ h0
    have hF : F_L_link S p1 p2 p3 p4 p5 = ((if E = "java/lang/IndexOutOfBoundsException" then 1 else (if E = "java/lang/IllegalArgumentException" then 2 else (if E = "java/lang/IllegalStateException" then 3 else 0))), S2) := by unfold F_L_link; rw [h0]
    rcases hEE with rfl | rfl | rfl
    · refine z_catch M.1 TB [] [(0, 23, 30, 15), (0, 23, 34, 17)] 0 23 26 13 rfl (fun z hz => nomatch hz) (by decide) (by decide) (z_wi 685 (by decide +kernel) rfl) (z_ni 703 (by decide +kernel) rfl) (i := 7) (Or.inl (by decide +kernel)) (by decide) (fun g hg => ?_)
      have KK : z_G X zm_L_link (28, [], [], zW T' (zwG G' q) S2 n2, 4, 24) := by
        refine z_go2 M.1 28 [(.iconst 1, 1)] (29, [], [.inl 1], zW T' (zwG G' q) S2 n2, 4, 24) (by decide +kernel) rfl ⟨trivial, trivial⟩ ?_
        exact z_iret M (by decide +kernel) .int rfl rfl (by decide) (by decide) ⟨n2, q, hn2, by rw [hF]; simp, by rw [hF]⟩
      rcases hg with ⟨rfl, -⟩ | ⟨rfl, kk, h9⟩
      · exact KK
      · exact absurd (h9.symm.trans (show decode zm_L_link.2.1 26 = .ok (.astore 7, 2) by decide +kernel)) (by simp)
    · refine z_catch M.1 TB [(0, 23, 26, 13)] [(0, 23, 34, 17)] 0 23 30 15 rfl (fun z hz => by obtain rfl := List.mem_singleton.mp hz; exact ⟨by decide, "java/lang/IndexOutOfBoundsException", z_wi 685 (by decide +kernel) rfl, by simp [z_NC]⟩) (by decide) (by decide) (z_wi 686 (by decide +kernel) rfl) (z_ni 777 (by decide +kernel) rfl) (i := 7) (Or.inl (by decide +kernel)) (by decide) (fun g hg => ?_)
      have KK : z_G X zm_L_link (32, [], [], zW T' (zwG G' q) S2 n2, 4, 24) := by
        refine z_go2 M.1 32 [(.iconst 2, 1)] (33, [], [.inl 2], zW T' (zwG G' q) S2 n2, 4, 24) (by decide +kernel) rfl ⟨trivial, trivial⟩ ?_
        exact z_iret M (by decide +kernel) .int rfl rfl (by decide) (by decide) ⟨n2, q, hn2, by rw [hF]; simp, by rw [hF]⟩
      rcases hg with ⟨rfl, -⟩ | ⟨rfl, kk, h9⟩
      · exact KK
      · exact absurd (h9.symm.trans (show decode zm_L_link.2.1 30 = .ok (.astore 7, 2) by decide +kernel)) (by simp)
    · refine z_catch M.1 TB [(0, 23, 26, 13), (0, 23, 30, 15)] [] 0 23 34 17 rfl (fun z hz => by rcases List.mem_cons.mp hz with rfl | hz; exact ⟨by decide, "java/lang/IndexOutOfBoundsException", z_wi 685 (by decide +kernel) rfl, by simp [z_NC]⟩; obtain rfl := List.mem_singleton.mp hz; exact ⟨by decide, "java/lang/IllegalArgumentException", z_wi 686 (by decide +kernel) rfl, by simp [z_NC]⟩) (by decide) (by decide) (z_wi 687 (by decide +kernel) rfl) (z_ni 852 (by decide +kernel) rfl) (i := 7) (Or.inl (by decide +kernel)) (by decide) (fun g hg => ?_)
      have KK : z_G X zm_L_link (36, [], [], zW T' (zwG G' q) S2 n2, 4, 24) := by
        refine z_go2 M.1 36 [(.iconst 3, 1)] (37, [], [.inl 3], zW T' (zwG G' q) S2 n2, 4, 24) (by decide +kernel) rfl ⟨trivial, trivial⟩ ?_
        exact z_iret M (by decide +kernel) .int rfl rfl (by decide) (by decide) ⟨n2, q, hn2, by rw [hF]; simp, by rw [hF]⟩
      rcases hg with ⟨rfl, -⟩ | ⟨rfl, kk, h9⟩
      · exact KK
      · exact absurd (h9.symm.trans (show decode zm_L_link.2.1 34 = .ok (.astore 7, 2) by decide +kernel)) (by simp)
  · obtain ⟨x, S2, q, h0, rfl, rfl⟩ := hv
    have hF : F_L_link S p1 p2 p3 p4 p5 = (0, z_uS S2 193 0 (if x = 0 then 0 else 1)) := by unfold F_L_link; rw [h0]
    show z_G X zm_L_link (14, [(0, z_r 0), (1, .inl p1), (2, .inl p2), (3, .inl p3), (4, .inl p4), (5, .inl p5), (6, z_r 193)], [.inl x, .inl 0, z_r 193], zW T' (zwG G' q) S2 n, 4, 24)
    refine z_if_eq 21 M.1 (off := 7) (by decide +kernel) (by decide) (fun c => ?_) (fun c => ?_)
    · refine z_go2 M.1 21 [(.lconst 0, 1), (.lastore, 1), (.goto 15, 3), (.iconst 0, 1)] (39, [(0, z_r 0), (1, .inl p1), (2, .inl p2), (3, .inl p3), (4, .inl p4), (5, .inl p5), (6, z_r 193)], [.inl 0], zW T' (zwG G' q) (z_uS S2 193 0 0) n, 4, 24) (by decide +kernel) rfl ⟨trivial, ⟨rfl, (show vp_in 0 1 by unfold vp_in; decide)⟩, trivial, trivial, trivial⟩ ?_
      exact z_iret M (by decide +kernel) .int rfl rfl (by decide) (by decide) ⟨n, q, Nat.le_refl n, by rw [hF], by rw [hF]; simp only [if_pos c]⟩
    · refine z_go2 M.1 17 [(.lconst 1, 1), (.goto 4, 3), (.lastore, 1), (.goto 15, 3), (.iconst 0, 1)] (39, [(0, z_r 0), (1, .inl p1), (2, .inl p2), (3, .inl p3), (4, .inl p4), (5, .inl p5), (6, z_r 193)], [.inl 0], zW T' (zwG G' q) (z_uS S2 193 0 1) n, 4, 24) (by decide +kernel) rfl ⟨trivial, trivial, ⟨rfl, (show vp_in 0 1 by unfold vp_in; decide)⟩, trivial, trivial, trivial⟩ ?_
      exact z_iret M (by decide +kernel) .int rfl rfl (by decide) (by decide) ⟨n, q, Nat.le_refl n, by rw [hF], by rw [hF]; simp only [if_neg c]⟩
abbrev zm_L_level : z_Y := (⟨"TrackHouseLaw", "level", "(LTrackHouse;III[J)I"⟩, method_20_code, 6, some .int, [])
abbrev hh_L_level : List (Nat × Nat × Nat × Nat) := [(0, 19, 22, 13), (0, 19, 26, 15), (0, 19, 30, 17)]
def F_L_level (S : (Nat → Nat → Int32)) (p1 : Int32) (p2 : Int32) (p3 : Int32) : Int32 × (Nat → Nat → Int32) := match F_T_level S p1 p2 p3 with | (.inl E, S2) => ((if E = "java/lang/IndexOutOfBoundsException" then 1 else (if E = "java/lang/IllegalArgumentException" then 2 else (if E = "java/lang/IllegalStateException" then 3 else 0))), S2) | (.inr x, S2) => (0, z_uS S2 193 0 (if x = 0 then 0 else 1))
def Sf_L_level (S : (Nat → Nat → Int32)) (p1 : Int32) (p2 : Int32) (p3 : Int32) : Prop := Sf_T_level S p1 p2 p3 ∧ (∀ E S2, F_T_level S p1 p2 p3 = (.inl E, S2) → E = "java/lang/IndexOutOfBoundsException" ∨ E = "java/lang/IllegalArgumentException" ∨ E = "java/lang/IllegalStateException")
abbrev rm_L_level : Room := { frames := 9, cells := 4, slots := 24, locals := 540 }
theorem c_L_level (T' : Nat → Nat × Nat) (G' : Nat → Nat → Option Nat) (q0 : Nat) (S : (Nat → Nat → Int32)) (n : Nat) (p1 : Int32) (p2 : Int32) (p3 : Int32) (hs : Sf_L_level S p1 p2 p3) : z_RunH rm_L_level zm_L_level hh_L_level [z_r 0, .inl p1, .inl p2, .inl p3, z_r 193] (zW T' (zwG G' q0) S n) (fun v w' => ∃ n2 q, n ≤ n2 ∧ v = some (.inl (F_L_level S p1 p2 p3).1 : z_V) ∧ w' = zW T' (zwG G' q) (F_L_level S p1 p2 p3).2 n2) := by
  refine z_bodyH (by decide) (fun q h => nomatch h) (Nat.le_of_ble_eq_true rfl) (fun X M TB => ?_)
  obtain ⟨hs, hE⟩ := hs
  show z_G X zm_L_level (0, [(0, z_r 0), (1, .inl p1), (2, .inl p2), (3, .inl p3), (4, z_r 193)], [], zW T' (zwG G' q0) S n, 0, 0)
  refine z_go2 M.1 0 [(.aload 4, 2), (.iconst 0, 1), (.aload_n 0, 1), (.iload_n 1, 1), (.iload_n 2, 1), (.iload_n 3, 1)] (7, [(0, z_r 0), (1, .inl p1), (2, .inl p2), (3, .inl p3), (4, z_r 193)], [.inl p3, .inl p2, .inl p1, z_r 0, .inl 0, z_r 193], zW T' (zwG G' q0) S n, 0, 0) (by decide +kernel) rfl ⟨trivial, trivial, trivial, trivial, trivial, trivial, trivial⟩ ?_
  refine z_callVX M.1 (av := [.inl p1, .inl p2, .inl p3]) (st := [.inl 0, z_r 193]) (a := 0) (ci := 11) (by decide +kernel) (c_T_level T' G' q0 S n p1 p2 p3 hs) M.2.1 zl_L_73 (z_wi 1201 (by decide +kernel) rfl) zv_T_level rfl rfl rfl ⟨by decide, by decide, by decide, by decide⟩ rfl (Nat.le_of_ble_eq_true rfl) (fun E w' hx => ?_) (fun v w' hv => ?_)
  · obtain ⟨S2, n2, q, hn2, h0, rfl⟩ := hx
    have hEE := hE _ _ h0
    have hF : F_L_level S p1 p2 p3 = ((if E = "java/lang/IndexOutOfBoundsException" then 1 else (if E = "java/lang/IllegalArgumentException" then 2 else (if E = "java/lang/IllegalStateException" then 3 else 0))), S2) := by unfold F_L_level; rw [h0]
    rcases hEE with rfl | rfl | rfl
    · refine z_catch M.1 TB [] [(0, 19, 26, 15), (0, 19, 30, 17)] 0 19 22 13 rfl (fun z hz => nomatch hz) (by decide) (by decide) (z_wi 685 (by decide +kernel) rfl) (z_ni 703 (by decide +kernel) rfl) (i := 5) (Or.inl (by decide +kernel)) (by decide) (fun g hg => ?_)
      have KK : z_G X zm_L_level (24, [], [], zW T' (zwG G' q) S2 n2, 4, 24) := by
        refine z_go2 M.1 24 [(.iconst 1, 1)] (25, [], [.inl 1], zW T' (zwG G' q) S2 n2, 4, 24) (by decide +kernel) rfl ⟨trivial, trivial⟩ ?_
        exact z_iret M (by decide +kernel) .int rfl rfl (by decide) (by decide) ⟨n2, q, hn2, by rw [hF]; simp, by rw [hF]⟩
      rcases hg with ⟨rfl, -⟩ | ⟨rfl, kk, h9⟩
      · exact KK
      · exact absurd (h9.symm.trans (show decode zm_L_level.2.1 22 = .ok (.astore 5, 2) by decide +kernel)) (by simp)
    · refine z_catch M.1 TB [(0, 19, 22, 13)] [(0, 19, 30, 17)] 0 19 26 15 rfl (fun z hz => by obtain rfl := List.mem_singleton.mp hz; exact ⟨by decide, "java/lang/IndexOutOfBoundsException", z_wi 685 (by decide +kernel) rfl, by simp [z_NC]⟩) (by decide) (by decide) (z_wi 686 (by decide +kernel) rfl) (z_ni 777 (by decide +kernel) rfl) (i := 5) (Or.inl (by decide +kernel)) (by decide) (fun g hg => ?_)
      have KK : z_G X zm_L_level (28, [], [], zW T' (zwG G' q) S2 n2, 4, 24) := by
        refine z_go2 M.1 28 [(.iconst 2, 1)] (29, [], [.inl 2], zW T' (zwG G' q) S2 n2, 4, 24) (by decide +kernel) rfl ⟨trivial, trivial⟩ ?_
        exact z_iret M (by decide +kernel) .int rfl rfl (by decide) (by decide) ⟨n2, q, hn2, by rw [hF]; simp, by rw [hF]⟩
      rcases hg with ⟨rfl, -⟩ | ⟨rfl, kk, h9⟩
      · exact KK
      · exact absurd (h9.symm.trans (show decode zm_L_level.2.1 26 = .ok (.astore 5, 2) by decide +kernel)) (by simp)
    · refine z_catch M.1 TB [(0, 19, 22, 13), (0, 19, 26, 15)] [] 0 19 30 17 rfl (fun z hz => by rcases List.mem_cons.mp hz with rfl | hz; exact ⟨by decide, "java/lang/IndexOutOfBoundsException", z_wi 685 (by decide +kernel) rfl, by simp [z_NC]⟩; obtain rfl := List.mem_singleton.mp hz; exact ⟨by decide, "java/lang/IllegalArgumentException", z_wi 686 (by decide +kernel) rfl, by simp [z_NC]⟩) (by decide) (by decide) (z_wi 687 (by decide +kernel) rfl) (z_ni 852 (by decide +kernel) rfl) (i := 5) (Or.inl (by decide +kernel)) (by decide) (fun g hg => ?_)
      have KK : z_G X zm_L_level (32, [], [], zW T' (zwG G' q) S2 n2, 4, 24) := by
        refine z_go2 M.1 32 [(.iconst 3, 1)] (33, [], [.inl 3], zW T' (zwG G' q) S2 n2, 4, 24) (by decide +kernel) rfl ⟨trivial, trivial⟩ ?_
        exact z_iret M (by decide +kernel) .int rfl rfl (by decide) (by decide) ⟨n2, q, hn2, by rw [hF]; simp, by rw [hF]⟩
      rcases hg with ⟨rfl, -⟩ | ⟨rfl, kk, h9⟩
      · exact KK
      · exact absurd (h9.symm.trans (show decode zm_L_level.2.1 30 = .ok (.astore 5, 2) by decide +kernel)) (by simp)
  · obtain ⟨x, S2, q, h0, rfl, rfl⟩ := hv
    have hF : F_L_level S p1 p2 p3 = (0, z_uS S2 193 0 (if x = 0 then 0 else 1)) := by unfold F_L_level; rw [h0]
    show z_G X zm_L_level (10, [(0, z_r 0), (1, .inl p1), (2, .inl p2), (3, .inl p3), (4, z_r 193)], [.inl x, .inl 0, z_r 193], zW T' (zwG G' q) S2 n, 4, 24)
    refine z_if_eq 17 M.1 (off := 7) (by decide +kernel) (by decide) (fun c => ?_) (fun c => ?_)
    · refine z_go2 M.1 17 [(.lconst 0, 1), (.lastore, 1), (.goto 15, 3), (.iconst 0, 1)] (35, [(0, z_r 0), (1, .inl p1), (2, .inl p2), (3, .inl p3), (4, z_r 193)], [.inl 0], zW T' (zwG G' q) (z_uS S2 193 0 0) n, 4, 24) (by decide +kernel) rfl ⟨trivial, ⟨rfl, (show vp_in 0 1 by unfold vp_in; decide)⟩, trivial, trivial, trivial⟩ ?_
      exact z_iret M (by decide +kernel) .int rfl rfl (by decide) (by decide) ⟨n, q, Nat.le_refl n, by rw [hF], by rw [hF]; simp only [if_pos c]⟩
    · refine z_go2 M.1 13 [(.lconst 1, 1), (.goto 4, 3), (.lastore, 1), (.goto 15, 3), (.iconst 0, 1)] (35, [(0, z_r 0), (1, .inl p1), (2, .inl p2), (3, .inl p3), (4, z_r 193)], [.inl 0], zW T' (zwG G' q) (z_uS S2 193 0 1) n, 4, 24) (by decide +kernel) rfl ⟨trivial, trivial, ⟨rfl, (show vp_in 0 1 by unfold vp_in; decide)⟩, trivial, trivial, trivial⟩ ?_
      exact z_iret M (by decide +kernel) .int rfl rfl (by decide) (by decide) ⟨n, q, Nat.le_refl n, by rw [hF], by rw [hF]; simp only [if_neg c]⟩
abbrev zm_L_transfer : z_Y := (⟨"TrackHouseLaw", "transfer", "(LTrackHouse;III[J)I"⟩, method_21_code, 6, some .int, [])
abbrev hh_L_transfer : List (Nat × Nat × Nat × Nat) := [(0, 12, 15, 13), (0, 12, 19, 15), (0, 12, 23, 17)]
def F_L_transfer (S : (Nat → Nat → Int32)) (p1 : Int32) (p2 : Int32) (p3 : Int32) : Int32 × (Nat → Nat → Int32) := match F_T_transfer S p1 p2 p3 with | (.inl E, S2) => ((if E = "java/lang/IndexOutOfBoundsException" then 1 else (if E = "java/lang/IllegalArgumentException" then 2 else (if E = "java/lang/IllegalStateException" then 3 else 0))), S2) | (.inr x, S2) => (0, z_uS S2 193 0 x)
def Sf_L_transfer (S : (Nat → Nat → Int32)) (p1 : Int32) (p2 : Int32) (p3 : Int32) : Prop := Sf_T_transfer S p1 p2 p3 ∧ (∀ E S2, F_T_transfer S p1 p2 p3 = (.inl E, S2) → E = "java/lang/IndexOutOfBoundsException" ∨ E = "java/lang/IllegalArgumentException" ∨ E = "java/lang/IllegalStateException")
abbrev rm_L_transfer : Room := { frames := 8, cells := 4, slots := 24, locals := 480 }
theorem c_L_transfer (T' : Nat → Nat × Nat) (G' : Nat → Nat → Option Nat) (q0 : Nat) (S : (Nat → Nat → Int32)) (n : Nat) (p1 : Int32) (p2 : Int32) (p3 : Int32) (hs : Sf_L_transfer S p1 p2 p3) : z_RunH rm_L_transfer zm_L_transfer hh_L_transfer [z_r 0, .inl p1, .inl p2, .inl p3, z_r 193] (zW T' (zwG G' q0) S n) (fun v w' => ∃ n2 q, n ≤ n2 ∧ v = some (.inl (F_L_transfer S p1 p2 p3).1 : z_V) ∧ w' = zW T' (zwG G' q) (F_L_transfer S p1 p2 p3).2 n2) := by
  refine z_bodyH (by decide) (fun q h => nomatch h) (Nat.le_of_ble_eq_true rfl) (fun X M TB => ?_)
  obtain ⟨hs, hE⟩ := hs
  show z_G X zm_L_transfer (0, [(0, z_r 0), (1, .inl p1), (2, .inl p2), (3, .inl p3), (4, z_r 193)], [], zW T' (zwG G' q0) S n, 0, 0)
  refine z_go2 M.1 0 [(.aload 4, 2), (.iconst 0, 1), (.aload_n 0, 1), (.iload_n 1, 1), (.iload_n 2, 1), (.iload_n 3, 1)] (7, [(0, z_r 0), (1, .inl p1), (2, .inl p2), (3, .inl p3), (4, z_r 193)], [.inl p3, .inl p2, .inl p1, z_r 0, .inl 0, z_r 193], zW T' (zwG G' q0) S n, 0, 0) (by decide +kernel) rfl ⟨trivial, trivial, trivial, trivial, trivial, trivial, trivial⟩ ?_
  refine z_callVX M.1 (av := [.inl p1, .inl p2, .inl p3]) (st := [.inl 0, z_r 193]) (a := 0) (ci := 11) (by decide +kernel) (c_T_transfer T' G' q0 S n p1 p2 p3 hs) M.2.1 zl_L_77 (z_wi 1208 (by decide +kernel) rfl) zv_T_transfer rfl rfl rfl ⟨by decide, by decide, by decide, by decide⟩ rfl (Nat.le_of_ble_eq_true rfl) (fun E w' hx => ?_) (fun v w' hv => ?_)
  · obtain ⟨S2, n2, q, hn2, h0, rfl⟩ := hx
    have hEE := hE _ _ h0
    have hF : F_L_transfer S p1 p2 p3 = ((if E = "java/lang/IndexOutOfBoundsException" then 1 else (if E = "java/lang/IllegalArgumentException" then 2 else (if E = "java/lang/IllegalStateException" then 3 else 0))), S2) := by unfold F_L_transfer; rw [h0]
    rcases hEE with rfl | rfl | rfl
    · refine z_catch M.1 TB [] [(0, 12, 19, 15), (0, 12, 23, 17)] 0 12 15 13 rfl (fun z hz => nomatch hz) (by decide) (by decide) (z_wi 685 (by decide +kernel) rfl) (z_ni 703 (by decide +kernel) rfl) (i := 5) (Or.inl (by decide +kernel)) (by decide) (fun g hg => ?_)
      have KK : z_G X zm_L_transfer (17, [], [], zW T' (zwG G' q) S2 n2, 4, 24) := by
        refine z_go2 M.1 17 [(.iconst 1, 1)] (18, [], [.inl 1], zW T' (zwG G' q) S2 n2, 4, 24) (by decide +kernel) rfl ⟨trivial, trivial⟩ ?_
        exact z_iret M (by decide +kernel) .int rfl rfl (by decide) (by decide) ⟨n2, q, hn2, by rw [hF]; simp, by rw [hF]⟩
      rcases hg with ⟨rfl, -⟩ | ⟨rfl, kk, h9⟩
      · exact KK
      · exact absurd (h9.symm.trans (show decode zm_L_transfer.2.1 15 = .ok (.astore 5, 2) by decide +kernel)) (by simp)
    · refine z_catch M.1 TB [(0, 12, 15, 13)] [(0, 12, 23, 17)] 0 12 19 15 rfl (fun z hz => by obtain rfl := List.mem_singleton.mp hz; exact ⟨by decide, "java/lang/IndexOutOfBoundsException", z_wi 685 (by decide +kernel) rfl, by simp [z_NC]⟩) (by decide) (by decide) (z_wi 686 (by decide +kernel) rfl) (z_ni 777 (by decide +kernel) rfl) (i := 5) (Or.inl (by decide +kernel)) (by decide) (fun g hg => ?_)
      have KK : z_G X zm_L_transfer (21, [], [], zW T' (zwG G' q) S2 n2, 4, 24) := by
        refine z_go2 M.1 21 [(.iconst 2, 1)] (22, [], [.inl 2], zW T' (zwG G' q) S2 n2, 4, 24) (by decide +kernel) rfl ⟨trivial, trivial⟩ ?_
        exact z_iret M (by decide +kernel) .int rfl rfl (by decide) (by decide) ⟨n2, q, hn2, by rw [hF]; simp, by rw [hF]⟩
      rcases hg with ⟨rfl, -⟩ | ⟨rfl, kk, h9⟩
      · exact KK
      · exact absurd (h9.symm.trans (show decode zm_L_transfer.2.1 19 = .ok (.astore 5, 2) by decide +kernel)) (by simp)
    · refine z_catch M.1 TB [(0, 12, 15, 13), (0, 12, 19, 15)] [] 0 12 23 17 rfl (fun z hz => by rcases List.mem_cons.mp hz with rfl | hz; exact ⟨by decide, "java/lang/IndexOutOfBoundsException", z_wi 685 (by decide +kernel) rfl, by simp [z_NC]⟩; obtain rfl := List.mem_singleton.mp hz; exact ⟨by decide, "java/lang/IllegalArgumentException", z_wi 686 (by decide +kernel) rfl, by simp [z_NC]⟩) (by decide) (by decide) (z_wi 687 (by decide +kernel) rfl) (z_ni 852 (by decide +kernel) rfl) (i := 5) (Or.inl (by decide +kernel)) (by decide) (fun g hg => ?_)
      have KK : z_G X zm_L_transfer (25, [], [], zW T' (zwG G' q) S2 n2, 4, 24) := by
        refine z_go2 M.1 25 [(.iconst 3, 1)] (26, [], [.inl 3], zW T' (zwG G' q) S2 n2, 4, 24) (by decide +kernel) rfl ⟨trivial, trivial⟩ ?_
        exact z_iret M (by decide +kernel) .int rfl rfl (by decide) (by decide) ⟨n2, q, hn2, by rw [hF]; simp, by rw [hF]⟩
      rcases hg with ⟨rfl, -⟩ | ⟨rfl, kk, h9⟩
      · exact KK
      · exact absurd (h9.symm.trans (show decode zm_L_transfer.2.1 23 = .ok (.astore 5, 2) by decide +kernel)) (by simp)
  · obtain ⟨x, S2, q, h0, rfl, rfl⟩ := hv
    have hF : F_L_transfer S p1 p2 p3 = (0, z_uS S2 193 0 x) := by unfold F_L_transfer; rw [h0]
    show z_G X zm_L_transfer (10, [(0, z_r 0), (1, .inl p1), (2, .inl p2), (3, .inl p3), (4, z_r 193)], [.inl x, .inl 0, z_r 193], zW T' (zwG G' q) S2 n, 4, 24)
    refine z_go2 M.1 10 [(.i2l, 1), (.lastore, 1), (.goto 15, 3), (.iconst 0, 1)] (28, [(0, z_r 0), (1, .inl p1), (2, .inl p2), (3, .inl p3), (4, z_r 193)], [.inl 0], zW T' (zwG G' q) (z_uS S2 193 0 x) n, 4, 24) (by decide +kernel) rfl ⟨trivial, ⟨rfl, (show vp_in 0 1 by unfold vp_in; decide)⟩, trivial, trivial, trivial⟩ ?_
    exact z_iret M (by decide +kernel) .int rfl rfl (by decide) (by decide) ⟨n, q, Nat.le_refl n, by rw [hF], by rw [hF]⟩
abbrev zm_L_sprint : z_Y := (⟨"TrackHouseLaw", "sprint", "(LTrackHouse;III[J)I"⟩, method_22_code, 6, some .int, [])
abbrev hh_L_sprint : List (Nat × Nat × Nat × Nat) := [(0, 12, 15, 13), (0, 12, 19, 15), (0, 12, 23, 17)]
def F_L_sprint (S : (Nat → Nat → Int32)) (p1 : Int32) (p2 : Int32) (p3 : Int32) : Int32 × (Nat → Nat → Int32) := match F_T_sprint S p1 p2 p3 with | (.inl E, S2) => ((if E = "java/lang/IndexOutOfBoundsException" then 1 else (if E = "java/lang/IllegalArgumentException" then 2 else (if E = "java/lang/IllegalStateException" then 3 else 0))), S2) | (.inr x, S2) => (0, z_uS S2 193 0 x)
def Sf_L_sprint (S : (Nat → Nat → Int32)) (p1 : Int32) (p2 : Int32) (p3 : Int32) : Prop := Sf_T_sprint S p1 p2 p3 ∧ (∀ E S2, F_T_sprint S p1 p2 p3 = (.inl E, S2) → E = "java/lang/IndexOutOfBoundsException" ∨ E = "java/lang/IllegalArgumentException" ∨ E = "java/lang/IllegalStateException")
abbrev rm_L_sprint : Room := { frames := 9, cells := 4, slots := 24, locals := 540 }
theorem c_L_sprint (T' : Nat → Nat × Nat) (G' : Nat → Nat → Option Nat) (q0 : Nat) (S : (Nat → Nat → Int32)) (n : Nat) (p1 : Int32) (p2 : Int32) (p3 : Int32) (hs : Sf_L_sprint S p1 p2 p3) : z_RunH rm_L_sprint zm_L_sprint hh_L_sprint [z_r 0, .inl p1, .inl p2, .inl p3, z_r 193] (zW T' (zwG G' q0) S n) (fun v w' => ∃ n2 q, n ≤ n2 ∧ v = some (.inl (F_L_sprint S p1 p2 p3).1 : z_V) ∧ w' = zW T' (zwG G' q) (F_L_sprint S p1 p2 p3).2 n2) := by
  refine z_bodyH (by decide) (fun q h => nomatch h) (Nat.le_of_ble_eq_true rfl) (fun X M TB => ?_)
  obtain ⟨hs, hE⟩ := hs
  show z_G X zm_L_sprint (0, [(0, z_r 0), (1, .inl p1), (2, .inl p2), (3, .inl p3), (4, z_r 193)], [], zW T' (zwG G' q0) S n, 0, 0)
  refine z_go2 M.1 0 [(.aload 4, 2), (.iconst 0, 1), (.aload_n 0, 1), (.iload_n 1, 1), (.iload_n 2, 1), (.iload_n 3, 1)] (7, [(0, z_r 0), (1, .inl p1), (2, .inl p2), (3, .inl p3), (4, z_r 193)], [.inl p3, .inl p2, .inl p1, z_r 0, .inl 0, z_r 193], zW T' (zwG G' q0) S n, 0, 0) (by decide +kernel) rfl ⟨trivial, trivial, trivial, trivial, trivial, trivial, trivial⟩ ?_
  refine z_callVX M.1 (av := [.inl p1, .inl p2, .inl p3]) (st := [.inl 0, z_r 193]) (a := 0) (ci := 11) (by decide +kernel) (c_T_sprint T' G' q0 S n p1 p2 p3 hs) M.2.1 zl_L_80 (z_wi 1215 (by decide +kernel) rfl) zv_T_sprint rfl rfl rfl ⟨by decide, by decide, by decide, by decide⟩ rfl (Nat.le_of_ble_eq_true rfl) (fun E w' hx => ?_) (fun v w' hv => ?_)
  · obtain ⟨S2, n2, q, hn2, h0, rfl⟩ := hx
    have hEE := hE _ _ h0
    have hF : F_L_sprint S p1 p2 p3 = ((if E = "java/lang/IndexOutOfBoundsException" then 1 else (if E = "java/lang/IllegalArgumentException" then 2 else (if E = "java/lang/IllegalStateException" then 3 else 0))), S2) := by unfold F_L_sprint; rw [h0]
    rcases hEE with rfl | rfl | rfl
    · refine z_catch M.1 TB [] [(0, 12, 19, 15), (0, 12, 23, 17)] 0 12 15 13 rfl (fun z hz => nomatch hz) (by decide) (by decide) (z_wi 685 (by decide +kernel) rfl) (z_ni 703 (by decide +kernel) rfl) (i := 5) (Or.inl (by decide +kernel)) (by decide) (fun g hg => ?_)
      have KK : z_G X zm_L_sprint (17, [], [], zW T' (zwG G' q) S2 n2, 4, 24) := by
        refine z_go2 M.1 17 [(.iconst 1, 1)] (18, [], [.inl 1], zW T' (zwG G' q) S2 n2, 4, 24) (by decide +kernel) rfl ⟨trivial, trivial⟩ ?_
        exact z_iret M (by decide +kernel) .int rfl rfl (by decide) (by decide) ⟨n2, q, hn2, by rw [hF]; simp, by rw [hF]⟩
      rcases hg with ⟨rfl, -⟩ | ⟨rfl, kk, h9⟩
      · exact KK
      · exact absurd (h9.symm.trans (show decode zm_L_sprint.2.1 15 = .ok (.astore 5, 2) by decide +kernel)) (by simp)
    · refine z_catch M.1 TB [(0, 12, 15, 13)] [(0, 12, 23, 17)] 0 12 19 15 rfl (fun z hz => by obtain rfl := List.mem_singleton.mp hz; exact ⟨by decide, "java/lang/IndexOutOfBoundsException", z_wi 685 (by decide +kernel) rfl, by simp [z_NC]⟩) (by decide) (by decide) (z_wi 686 (by decide +kernel) rfl) (z_ni 777 (by decide +kernel) rfl) (i := 5) (Or.inl (by decide +kernel)) (by decide) (fun g hg => ?_)
      have KK : z_G X zm_L_sprint (21, [], [], zW T' (zwG G' q) S2 n2, 4, 24) := by
        refine z_go2 M.1 21 [(.iconst 2, 1)] (22, [], [.inl 2], zW T' (zwG G' q) S2 n2, 4, 24) (by decide +kernel) rfl ⟨trivial, trivial⟩ ?_
        exact z_iret M (by decide +kernel) .int rfl rfl (by decide) (by decide) ⟨n2, q, hn2, by rw [hF]; simp, by rw [hF]⟩
      rcases hg with ⟨rfl, -⟩ | ⟨rfl, kk, h9⟩
      · exact KK
      · exact absurd (h9.symm.trans (show decode zm_L_sprint.2.1 19 = .ok (.astore 5, 2) by decide +kernel)) (by simp)
    · refine z_catch M.1 TB [(0, 12, 15, 13), (0, 12, 19, 15)] [] 0 12 23 17 rfl (fun z hz => by rcases List.mem_cons.mp hz with rfl | hz; exact ⟨by decide, "java/lang/IndexOutOfBoundsException", z_wi 685 (by decide +kernel) rfl, by simp [z_NC]⟩; obtain rfl := List.mem_singleton.mp hz; exact ⟨by decide, "java/lang/IllegalArgumentException", z_wi 686 (by decide +kernel) rfl, by simp [z_NC]⟩) (by decide) (by decide) (z_wi 687 (by decide +kernel) rfl) (z_ni 852 (by decide +kernel) rfl) (i := 5) (Or.inl (by decide +kernel)) (by decide) (fun g hg => ?_)
      have KK : z_G X zm_L_sprint (25, [], [], zW T' (zwG G' q) S2 n2, 4, 24) := by
        refine z_go2 M.1 25 [(.iconst 3, 1)] (26, [], [.inl 3], zW T' (zwG G' q) S2 n2, 4, 24) (by decide +kernel) rfl ⟨trivial, trivial⟩ ?_
        exact z_iret M (by decide +kernel) .int rfl rfl (by decide) (by decide) ⟨n2, q, hn2, by rw [hF]; simp, by rw [hF]⟩
      rcases hg with ⟨rfl, -⟩ | ⟨rfl, kk, h9⟩
      · exact KK
      · exact absurd (h9.symm.trans (show decode zm_L_sprint.2.1 23 = .ok (.astore 5, 2) by decide +kernel)) (by simp)
  · obtain ⟨x, S2, q, h0, rfl, rfl⟩ := hv
    have hF : F_L_sprint S p1 p2 p3 = (0, z_uS S2 193 0 x) := by unfold F_L_sprint; rw [h0]
    show z_G X zm_L_sprint (10, [(0, z_r 0), (1, .inl p1), (2, .inl p2), (3, .inl p3), (4, z_r 193)], [.inl x, .inl 0, z_r 193], zW T' (zwG G' q) S2 n, 4, 24)
    refine z_go2 M.1 10 [(.i2l, 1), (.lastore, 1), (.goto 15, 3), (.iconst 0, 1)] (28, [(0, z_r 0), (1, .inl p1), (2, .inl p2), (3, .inl p3), (4, z_r 193)], [.inl 0], zW T' (zwG G' q) (z_uS S2 193 0 x) n, 4, 24) (by decide +kernel) rfl ⟨trivial, ⟨rfl, (show vp_in 0 1 by unfold vp_in; decide)⟩, trivial, trivial, trivial⟩ ?_
    exact z_iret M (by decide +kernel) .int rfl rfl (by decide) (by decide) ⟨n, q, Nat.le_refl n, by rw [hF], by rw [hF]⟩
abbrev zm_L_drag : z_Y := (⟨"TrackHouseLaw", "drag", "(LTrackHouse;III[J)I"⟩, method_23_code, 6, some .int, [])
abbrev hh_L_drag : List (Nat × Nat × Nat × Nat) := [(0, 12, 15, 13), (0, 12, 19, 15), (0, 12, 23, 17)]
def F_L_drag (S : (Nat → Nat → Int32)) (p1 : Int32) (p2 : Int32) (p3 : Int32) : Int32 × (Nat → Nat → Int32) := match F_T_drag S p1 p2 p3 with | (.inl E, S2) => ((if E = "java/lang/IndexOutOfBoundsException" then 1 else (if E = "java/lang/IllegalArgumentException" then 2 else (if E = "java/lang/IllegalStateException" then 3 else 0))), S2) | (.inr x, S2) => (0, z_uS S2 193 0 x)
def Sf_L_drag (S : (Nat → Nat → Int32)) (p1 : Int32) (p2 : Int32) (p3 : Int32) : Prop := Sf_T_drag S p1 p2 p3 ∧ (∀ E S2, F_T_drag S p1 p2 p3 = (.inl E, S2) → E = "java/lang/IndexOutOfBoundsException" ∨ E = "java/lang/IllegalArgumentException" ∨ E = "java/lang/IllegalStateException")
abbrev rm_L_drag : Room := { frames := 8, cells := 3, slots := 18, locals := 480 }
theorem c_L_drag (T' : Nat → Nat × Nat) (G' : Nat → Nat → Option Nat) (q0 : Nat) (S : (Nat → Nat → Int32)) (n : Nat) (p1 : Int32) (p2 : Int32) (p3 : Int32) (hs : Sf_L_drag S p1 p2 p3) : z_RunH rm_L_drag zm_L_drag hh_L_drag [z_r 0, .inl p1, .inl p2, .inl p3, z_r 193] (zW T' (zwG G' q0) S n) (fun v w' => ∃ n2 q, n ≤ n2 ∧ v = some (.inl (F_L_drag S p1 p2 p3).1 : z_V) ∧ w' = zW T' (zwG G' q) (F_L_drag S p1 p2 p3).2 n2) := by
  refine z_bodyH (by decide) (fun q h => nomatch h) (Nat.le_of_ble_eq_true rfl) (fun X M TB => ?_)
  obtain ⟨hs, hE⟩ := hs
  show z_G X zm_L_drag (0, [(0, z_r 0), (1, .inl p1), (2, .inl p2), (3, .inl p3), (4, z_r 193)], [], zW T' (zwG G' q0) S n, 0, 0)
  refine z_go2 M.1 0 [(.aload 4, 2), (.iconst 0, 1), (.aload_n 0, 1), (.iload_n 1, 1), (.iload_n 2, 1), (.iload_n 3, 1)] (7, [(0, z_r 0), (1, .inl p1), (2, .inl p2), (3, .inl p3), (4, z_r 193)], [.inl p3, .inl p2, .inl p1, z_r 0, .inl 0, z_r 193], zW T' (zwG G' q0) S n, 0, 0) (by decide +kernel) rfl ⟨trivial, trivial, trivial, trivial, trivial, trivial, trivial⟩ ?_
  refine z_callVX M.1 (av := [.inl p1, .inl p2, .inl p3]) (st := [.inl 0, z_r 193]) (a := 0) (ci := 11) (by decide +kernel) (c_T_drag T' G' q0 S n p1 p2 p3 hs) M.2.1 zl_L_83 (z_wi 1225 (by decide +kernel) rfl) zv_T_drag rfl rfl rfl ⟨by decide, by decide, by decide, by decide⟩ rfl (Nat.le_of_ble_eq_true rfl) (fun E w' hx => ?_) (fun v w' hv => ?_)
  · obtain ⟨S2, n2, q, hn2, h0, rfl⟩ := hx
    have hEE := hE _ _ h0
    have hF : F_L_drag S p1 p2 p3 = ((if E = "java/lang/IndexOutOfBoundsException" then 1 else (if E = "java/lang/IllegalArgumentException" then 2 else (if E = "java/lang/IllegalStateException" then 3 else 0))), S2) := by unfold F_L_drag; rw [h0]
    rcases hEE with rfl | rfl | rfl
    · refine z_catch M.1 TB [] [(0, 12, 19, 15), (0, 12, 23, 17)] 0 12 15 13 rfl (fun z hz => nomatch hz) (by decide) (by decide) (z_wi 685 (by decide +kernel) rfl) (z_ni 703 (by decide +kernel) rfl) (i := 5) (Or.inl (by decide +kernel)) (by decide) (fun g hg => ?_)
      have KK : z_G X zm_L_drag (17, [], [], zW T' (zwG G' q) S2 n2, 3, 18) := by
        refine z_go2 M.1 17 [(.iconst 1, 1)] (18, [], [.inl 1], zW T' (zwG G' q) S2 n2, 3, 18) (by decide +kernel) rfl ⟨trivial, trivial⟩ ?_
        exact z_iret M (by decide +kernel) .int rfl rfl (by decide) (by decide) ⟨n2, q, hn2, by rw [hF]; simp, by rw [hF]⟩
      rcases hg with ⟨rfl, -⟩ | ⟨rfl, kk, h9⟩
      · exact KK
      · exact absurd (h9.symm.trans (show decode zm_L_drag.2.1 15 = .ok (.astore 5, 2) by decide +kernel)) (by simp)
    · refine z_catch M.1 TB [(0, 12, 15, 13)] [(0, 12, 23, 17)] 0 12 19 15 rfl (fun z hz => by obtain rfl := List.mem_singleton.mp hz; exact ⟨by decide, "java/lang/IndexOutOfBoundsException", z_wi 685 (by decide +kernel) rfl, by simp [z_NC]⟩) (by decide) (by decide) (z_wi 686 (by decide +kernel) rfl) (z_ni 777 (by decide +kernel) rfl) (i := 5) (Or.inl (by decide +kernel)) (by decide) (fun g hg => ?_)
      have KK : z_G X zm_L_drag (21, [], [], zW T' (zwG G' q) S2 n2, 3, 18) := by
        refine z_go2 M.1 21 [(.iconst 2, 1)] (22, [], [.inl 2], zW T' (zwG G' q) S2 n2, 3, 18) (by decide +kernel) rfl ⟨trivial, trivial⟩ ?_
        exact z_iret M (by decide +kernel) .int rfl rfl (by decide) (by decide) ⟨n2, q, hn2, by rw [hF]; simp, by rw [hF]⟩
      rcases hg with ⟨rfl, -⟩ | ⟨rfl, kk, h9⟩
      · exact KK
      · exact absurd (h9.symm.trans (show decode zm_L_drag.2.1 19 = .ok (.astore 5, 2) by decide +kernel)) (by simp)
    · refine z_catch M.1 TB [(0, 12, 15, 13), (0, 12, 19, 15)] [] 0 12 23 17 rfl (fun z hz => by rcases List.mem_cons.mp hz with rfl | hz; exact ⟨by decide, "java/lang/IndexOutOfBoundsException", z_wi 685 (by decide +kernel) rfl, by simp [z_NC]⟩; obtain rfl := List.mem_singleton.mp hz; exact ⟨by decide, "java/lang/IllegalArgumentException", z_wi 686 (by decide +kernel) rfl, by simp [z_NC]⟩) (by decide) (by decide) (z_wi 687 (by decide +kernel) rfl) (z_ni 852 (by decide +kernel) rfl) (i := 5) (Or.inl (by decide +kernel)) (by decide) (fun g hg => ?_)
      have KK : z_G X zm_L_drag (25, [], [], zW T' (zwG G' q) S2 n2, 3, 18) := by
        refine z_go2 M.1 25 [(.iconst 3, 1)] (26, [], [.inl 3], zW T' (zwG G' q) S2 n2, 3, 18) (by decide +kernel) rfl ⟨trivial, trivial⟩ ?_
        exact z_iret M (by decide +kernel) .int rfl rfl (by decide) (by decide) ⟨n2, q, hn2, by rw [hF]; simp, by rw [hF]⟩
      rcases hg with ⟨rfl, -⟩ | ⟨rfl, kk, h9⟩
      · exact KK
      · exact absurd (h9.symm.trans (show decode zm_L_drag.2.1 23 = .ok (.astore 5, 2) by decide +kernel)) (by simp)
  · obtain ⟨x, S2, q, h0, rfl, rfl⟩ := hv
    have hF : F_L_drag S p1 p2 p3 = (0, z_uS S2 193 0 x) := by unfold F_L_drag; rw [h0]
    show z_G X zm_L_drag (10, [(0, z_r 0), (1, .inl p1), (2, .inl p2), (3, .inl p3), (4, z_r 193)], [.inl x, .inl 0, z_r 193], zW T' (zwG G' q) S2 n, 3, 18)
    refine z_go2 M.1 10 [(.i2l, 1), (.lastore, 1), (.goto 15, 3), (.iconst 0, 1)] (28, [(0, z_r 0), (1, .inl p1), (2, .inl p2), (3, .inl p3), (4, z_r 193)], [.inl 0], zW T' (zwG G' q) (z_uS S2 193 0 x) n, 3, 18) (by decide +kernel) rfl ⟨trivial, ⟨rfl, (show vp_in 0 1 by unfold vp_in; decide)⟩, trivial, trivial, trivial⟩ ?_
    exact z_iret M (by decide +kernel) .int rfl rfl (by decide) (by decide) ⟨n, q, Nat.le_refl n, by rw [hF], by rw [hF]⟩
abbrev zm_L_type : z_Y := (⟨"TrackHouseLaw", "type", "(LTrackHouse;C[J)I"⟩, method_24_code, 4, some .int, [])
abbrev hh_L_type : List (Nat × Nat × Nat × Nat) := [(0, 9, 12, 15), (0, 9, 15, 17)]
def F_L_type (S : (Nat → Nat → Int32)) (p1 : Int32) : Int32 × (Nat → Nat → Int32) := match F_T_type S p1 with | (.inl E, S2) => ((if E = "java/lang/IllegalArgumentException" then 1 else (if E = "java/lang/IllegalStateException" then 2 else 0)), S2) | (.inr x, S2) => (0, z_uS S2 193 0 x)
def Sf_L_type (S : (Nat → Nat → Int32)) (p1 : Int32) : Prop := Sf_T_type S p1 ∧ (∀ E S2, F_T_type S p1 = (.inl E, S2) → E = "java/lang/IllegalArgumentException" ∨ E = "java/lang/IllegalStateException")
abbrev rm_L_type : Room := { frames := 8, cells := 2, slots := 12, locals := 480 }
theorem c_L_type (T' : Nat → Nat × Nat) (G' : Nat → Nat → Option Nat) (q0 : Nat) (S : (Nat → Nat → Int32)) (n : Nat) (p1 : Int32) (hs : Sf_L_type S p1) : z_RunH rm_L_type zm_L_type hh_L_type [z_r 0, .inl p1, z_r 193] (zW T' (zwG G' q0) S n) (fun v w' => ∃ n2 q, n ≤ n2 ∧ v = some (.inl (F_L_type S p1).1 : z_V) ∧ w' = zW T' (zwG G' q) (F_L_type S p1).2 n2) := by
  refine z_bodyH (by decide) (fun q h => nomatch h) (Nat.le_of_ble_eq_true rfl) (fun X M TB => ?_)
  obtain ⟨hs, hE⟩ := hs
  show z_G X zm_L_type (0, [(0, z_r 0), (1, .inl p1), (2, z_r 193)], [], zW T' (zwG G' q0) S n, 0, 0)
  refine z_go2 M.1 0 [(.aload_n 2, 1), (.iconst 0, 1), (.aload_n 0, 1), (.iload_n 1, 1)] (4, [(0, z_r 0), (1, .inl p1), (2, z_r 193)], [.inl p1, z_r 0, .inl 0, z_r 193], zW T' (zwG G' q0) S n, 0, 0) (by decide +kernel) rfl ⟨trivial, trivial, trivial, trivial, trivial⟩ ?_
  refine z_callVX M.1 (av := [.inl p1]) (st := [.inl 0, z_r 193]) (a := 0) (ci := 11) (by decide +kernel) (c_T_type T' (zwG G' q0) S n p1 hs) M.2.1 zl_L_86 (z_wi 1250 (by decide +kernel) rfl) zv_T_type rfl rfl rfl ⟨by decide, by decide, by decide, by decide⟩ rfl (Nat.le_of_ble_eq_true rfl) (fun E w' hx => ?_) (fun v w' hv => ?_)
  · obtain ⟨S2, n2, hn2, h0, rfl⟩ := hx
    have hEE := hE _ _ h0
    have hF : F_L_type S p1 = ((if E = "java/lang/IllegalArgumentException" then 1 else (if E = "java/lang/IllegalStateException" then 2 else 0)), S2) := by unfold F_L_type; rw [h0]
    rcases hEE with rfl | rfl
    · refine z_catch M.1 TB [] [(0, 9, 15, 17)] 0 9 12 15 rfl (fun z hz => nomatch hz) (by decide) (by decide) (z_wi 686 (by decide +kernel) rfl) (z_ni 777 (by decide +kernel) rfl) (i := 3) (Or.inr ⟨3, rfl, by decide +kernel⟩) (by decide) (fun g hg => ?_)
      have KK : z_G X zm_L_type (13, [], [], zW T' (zwG G' q0) S2 n2, 2, 12) := by
        refine z_go2 M.1 13 [(.iconst 1, 1)] (14, [], [.inl 1], zW T' (zwG G' q0) S2 n2, 2, 12) (by decide +kernel) rfl ⟨trivial, trivial⟩ ?_
        exact z_iret M (by decide +kernel) .int rfl rfl (by decide) (by decide) ⟨n2, q0, hn2, by rw [hF]; simp, by rw [hF]⟩
      rcases hg with ⟨rfl, h9⟩ | ⟨rfl, -⟩
      · exact absurd (h9.symm.trans (show decode zm_L_type.2.1 12 = .ok (.astore_n 3, 1) by decide +kernel)) (by simp)
      · exact KK
    · refine z_catch M.1 TB [(0, 9, 12, 15)] [] 0 9 15 17 rfl (fun z hz => by obtain rfl := List.mem_singleton.mp hz; exact ⟨by decide, "java/lang/IllegalArgumentException", z_wi 686 (by decide +kernel) rfl, by simp [z_NC]⟩) (by decide) (by decide) (z_wi 687 (by decide +kernel) rfl) (z_ni 852 (by decide +kernel) rfl) (i := 3) (Or.inr ⟨3, rfl, by decide +kernel⟩) (by decide) (fun g hg => ?_)
      have KK : z_G X zm_L_type (16, [], [], zW T' (zwG G' q0) S2 n2, 2, 12) := by
        refine z_go2 M.1 16 [(.iconst 2, 1)] (17, [], [.inl 2], zW T' (zwG G' q0) S2 n2, 2, 12) (by decide +kernel) rfl ⟨trivial, trivial⟩ ?_
        exact z_iret M (by decide +kernel) .int rfl rfl (by decide) (by decide) ⟨n2, q0, hn2, by rw [hF]; simp, by rw [hF]⟩
      rcases hg with ⟨rfl, h9⟩ | ⟨rfl, -⟩
      · exact absurd (h9.symm.trans (show decode zm_L_type.2.1 15 = .ok (.astore_n 3, 1) by decide +kernel)) (by simp)
      · exact KK
  · obtain ⟨x, S2, h0, rfl, rfl⟩ := hv
    have hF : F_L_type S p1 = (0, z_uS S2 193 0 x) := by unfold F_L_type; rw [h0]
    show z_G X zm_L_type (7, [(0, z_r 0), (1, .inl p1), (2, z_r 193)], [.inl x, .inl 0, z_r 193], zW T' (zwG G' q0) S2 n, 2, 12)
    refine z_go2 M.1 7 [(.i2l, 1), (.lastore, 1), (.goto 9, 3), (.iconst 0, 1)] (19, [(0, z_r 0), (1, .inl p1), (2, z_r 193)], [.inl 0], zW T' (zwG G' q0) (z_uS S2 193 0 x) n, 2, 12) (by decide +kernel) rfl ⟨trivial, ⟨rfl, (show vp_in 0 1 by unfold vp_in; decide)⟩, trivial, trivial, trivial⟩ ?_
    exact z_iret M (by decide +kernel) .int rfl rfl (by decide) (by decide) ⟨n, q0, Nat.le_refl n, by rw [hF], by rw [hF]⟩
abbrev zm_L_count : z_Y := (⟨"TrackHouseLaw", "count", "(LTrackHouse;II[J)I"⟩, method_25_code, 5, some .int, [])
abbrev hh_L_count : List (Nat × Nat × Nat × Nat) := [(0, 10, 13, 13), (0, 10, 17, 17)]
def F_L_count (S : (Nat → Nat → Int32)) (p1 : Int32) (p2 : Int32) : Int32 × (Nat → Nat → Int32) := match F_T_count S p1 p2 with | (.inl E, S2) => ((if E = "java/lang/IndexOutOfBoundsException" then 1 else (if E = "java/lang/IllegalStateException" then 2 else 0)), S2) | (.inr x, S2) => (0, z_uS S2 193 0 x)
def Sf_L_count (S : (Nat → Nat → Int32)) (p1 : Int32) (p2 : Int32) : Prop := Sf_T_count S p1 p2 ∧ (∀ E S2, F_T_count S p1 p2 = (.inl E, S2) → E = "java/lang/IndexOutOfBoundsException" ∨ E = "java/lang/IllegalStateException")
abbrev rm_L_count : Room := { frames := 8, cells := 2, slots := 12, locals := 480 }
theorem c_L_count (T' : Nat → Nat × Nat) (G' : Nat → Nat → Option Nat) (q0 : Nat) (S : (Nat → Nat → Int32)) (n : Nat) (p1 : Int32) (p2 : Int32) (hs : Sf_L_count S p1 p2) : z_RunH rm_L_count zm_L_count hh_L_count [z_r 0, .inl p1, .inl p2, z_r 193] (zW T' (zwG G' q0) S n) (fun v w' => ∃ n2 q, n ≤ n2 ∧ v = some (.inl (F_L_count S p1 p2).1 : z_V) ∧ w' = zW T' (zwG G' q) (F_L_count S p1 p2).2 n2) := by
  refine z_bodyH (by decide) (fun q h => nomatch h) (Nat.le_of_ble_eq_true rfl) (fun X M TB => ?_)
  obtain ⟨hs, hE⟩ := hs
  show z_G X zm_L_count (0, [(0, z_r 0), (1, .inl p1), (2, .inl p2), (3, z_r 193)], [], zW T' (zwG G' q0) S n, 0, 0)
  refine z_go2 M.1 0 [(.aload_n 3, 1), (.iconst 0, 1), (.aload_n 0, 1), (.iload_n 1, 1), (.iload_n 2, 1)] (5, [(0, z_r 0), (1, .inl p1), (2, .inl p2), (3, z_r 193)], [.inl p2, .inl p1, z_r 0, .inl 0, z_r 193], zW T' (zwG G' q0) S n, 0, 0) (by decide +kernel) rfl ⟨trivial, trivial, trivial, trivial, trivial, trivial⟩ ?_
  refine z_callVX M.1 (av := [.inl p1, .inl p2]) (st := [.inl 0, z_r 193]) (a := 0) (ci := 11) (by decide +kernel) (c_T_count T' G' q0 S n p1 p2 hs) M.2.1 zl_L_90 (z_wi 1261 (by decide +kernel) rfl) zv_T_count rfl rfl rfl ⟨by decide, by decide, by decide, by decide⟩ rfl (Nat.le_of_ble_eq_true rfl) (fun E w' hx => ?_) (fun v w' hv => ?_)
  · obtain ⟨S2, n2, q, hn2, h0, rfl⟩ := hx
    have hEE := hE _ _ h0
    have hF : F_L_count S p1 p2 = ((if E = "java/lang/IndexOutOfBoundsException" then 1 else (if E = "java/lang/IllegalStateException" then 2 else 0)), S2) := by unfold F_L_count; rw [h0]
    rcases hEE with rfl | rfl
    · refine z_catch M.1 TB [] [(0, 10, 17, 17)] 0 10 13 13 rfl (fun z hz => nomatch hz) (by decide) (by decide) (z_wi 685 (by decide +kernel) rfl) (z_ni 703 (by decide +kernel) rfl) (i := 4) (Or.inl (by decide +kernel)) (by decide) (fun g hg => ?_)
      have KK : z_G X zm_L_count (15, [], [], zW T' (zwG G' q) S2 n2, 2, 12) := by
        refine z_go2 M.1 15 [(.iconst 1, 1)] (16, [], [.inl 1], zW T' (zwG G' q) S2 n2, 2, 12) (by decide +kernel) rfl ⟨trivial, trivial⟩ ?_
        exact z_iret M (by decide +kernel) .int rfl rfl (by decide) (by decide) ⟨n2, q, hn2, by rw [hF]; simp, by rw [hF]⟩
      rcases hg with ⟨rfl, -⟩ | ⟨rfl, kk, h9⟩
      · exact KK
      · exact absurd (h9.symm.trans (show decode zm_L_count.2.1 13 = .ok (.astore 4, 2) by decide +kernel)) (by simp)
    · refine z_catch M.1 TB [(0, 10, 13, 13)] [] 0 10 17 17 rfl (fun z hz => by obtain rfl := List.mem_singleton.mp hz; exact ⟨by decide, "java/lang/IndexOutOfBoundsException", z_wi 685 (by decide +kernel) rfl, by simp [z_NC]⟩) (by decide) (by decide) (z_wi 687 (by decide +kernel) rfl) (z_ni 852 (by decide +kernel) rfl) (i := 4) (Or.inl (by decide +kernel)) (by decide) (fun g hg => ?_)
      have KK : z_G X zm_L_count (19, [], [], zW T' (zwG G' q) S2 n2, 2, 12) := by
        refine z_go2 M.1 19 [(.iconst 2, 1)] (20, [], [.inl 2], zW T' (zwG G' q) S2 n2, 2, 12) (by decide +kernel) rfl ⟨trivial, trivial⟩ ?_
        exact z_iret M (by decide +kernel) .int rfl rfl (by decide) (by decide) ⟨n2, q, hn2, by rw [hF]; simp, by rw [hF]⟩
      rcases hg with ⟨rfl, -⟩ | ⟨rfl, kk, h9⟩
      · exact KK
      · exact absurd (h9.symm.trans (show decode zm_L_count.2.1 17 = .ok (.astore 4, 2) by decide +kernel)) (by simp)
  · obtain ⟨x, S2, q, h0, rfl, rfl⟩ := hv
    have hF : F_L_count S p1 p2 = (0, z_uS S2 193 0 x) := by unfold F_L_count; rw [h0]
    show z_G X zm_L_count (8, [(0, z_r 0), (1, .inl p1), (2, .inl p2), (3, z_r 193)], [.inl x, .inl 0, z_r 193], zW T' (zwG G' q) S2 n, 2, 12)
    refine z_go2 M.1 8 [(.i2l, 1), (.lastore, 1), (.goto 11, 3), (.iconst 0, 1)] (22, [(0, z_r 0), (1, .inl p1), (2, .inl p2), (3, z_r 193)], [.inl 0], zW T' (zwG G' q) (z_uS S2 193 0 x) n, 2, 12) (by decide +kernel) rfl ⟨trivial, ⟨rfl, (show vp_in 0 1 by unfold vp_in; decide)⟩, trivial, trivial, trivial⟩ ?_
    exact z_iret M (by decide +kernel) .int rfl rfl (by decide) (by decide) ⟨n, q, Nat.le_refl n, by rw [hF], by rw [hF]⟩
abbrev zm_L_found : z_Y := (⟨"TrackHouseLaw", "found", "(LTrackHouse;III[J)I"⟩, method_26_code, 6, some .int, [])
abbrev hh_L_found : List (Nat × Nat × Nat × Nat) := [(0, 12, 15, 13), (0, 12, 19, 17)]
def F_L_found (S : (Nat → Nat → Int32)) (p1 : Int32) (p2 : Int32) (p3 : Int32) : Int32 × (Nat → Nat → Int32) := match F_T_found S p1 p2 p3 with | (.inl E, S2) => ((if E = "java/lang/IndexOutOfBoundsException" then 1 else (if E = "java/lang/IllegalStateException" then 2 else 0)), S2) | (.inr x, S2) => (0, z_uS S2 193 0 x)
def Sf_L_found (S : (Nat → Nat → Int32)) (p1 : Int32) (p2 : Int32) (p3 : Int32) : Prop := Sf_T_found S p1 p2 p3 ∧ (∀ E S2, F_T_found S p1 p2 p3 = (.inl E, S2) → E = "java/lang/IndexOutOfBoundsException" ∨ E = "java/lang/IllegalStateException")
abbrev rm_L_found : Room := { frames := 8, cells := 3, slots := 18, locals := 480 }
theorem c_L_found (T' : Nat → Nat × Nat) (G' : Nat → Nat → Option Nat) (q0 : Nat) (S : (Nat → Nat → Int32)) (n : Nat) (p1 : Int32) (p2 : Int32) (p3 : Int32) (hs : Sf_L_found S p1 p2 p3) : z_RunH rm_L_found zm_L_found hh_L_found [z_r 0, .inl p1, .inl p2, .inl p3, z_r 193] (zW T' (zwG G' q0) S n) (fun v w' => ∃ n2 q, n ≤ n2 ∧ v = some (.inl (F_L_found S p1 p2 p3).1 : z_V) ∧ w' = zW T' (zwG G' q) (F_L_found S p1 p2 p3).2 n2) := by
  refine z_bodyH (by decide) (fun q h => nomatch h) (Nat.le_of_ble_eq_true rfl) (fun X M TB => ?_)
  obtain ⟨hs, hE⟩ := hs
  show z_G X zm_L_found (0, [(0, z_r 0), (1, .inl p1), (2, .inl p2), (3, .inl p3), (4, z_r 193)], [], zW T' (zwG G' q0) S n, 0, 0)
  refine z_go2 M.1 0 [(.aload 4, 2), (.iconst 0, 1), (.aload_n 0, 1), (.iload_n 1, 1), (.iload_n 2, 1), (.iload_n 3, 1)] (7, [(0, z_r 0), (1, .inl p1), (2, .inl p2), (3, .inl p3), (4, z_r 193)], [.inl p3, .inl p2, .inl p1, z_r 0, .inl 0, z_r 193], zW T' (zwG G' q0) S n, 0, 0) (by decide +kernel) rfl ⟨trivial, trivial, trivial, trivial, trivial, trivial, trivial⟩ ?_
  refine z_callVX M.1 (av := [.inl p1, .inl p2, .inl p3]) (st := [.inl 0, z_r 193]) (a := 0) (ci := 11) (by decide +kernel) (c_T_found T' G' q0 S n p1 p2 p3 hs) M.2.1 zl_L_93 (z_wi 1345 (by decide +kernel) rfl) zv_T_found rfl rfl rfl ⟨by decide, by decide, by decide, by decide⟩ rfl (Nat.le_of_ble_eq_true rfl) (fun E w' hx => ?_) (fun v w' hv => ?_)
  · obtain ⟨S2, n2, q, hn2, h0, rfl⟩ := hx
    have hEE := hE _ _ h0
    have hF : F_L_found S p1 p2 p3 = ((if E = "java/lang/IndexOutOfBoundsException" then 1 else (if E = "java/lang/IllegalStateException" then 2 else 0)), S2) := by unfold F_L_found; rw [h0]
    rcases hEE with rfl | rfl
    · refine z_catch M.1 TB [] [(0, 12, 19, 17)] 0 12 15 13 rfl (fun z hz => nomatch hz) (by decide) (by decide) (z_wi 685 (by decide +kernel) rfl) (z_ni 703 (by decide +kernel) rfl) (i := 5) (Or.inl (by decide +kernel)) (by decide) (fun g hg => ?_)
      have KK : z_G X zm_L_found (17, [], [], zW T' (zwG G' q) S2 n2, 3, 18) := by
        refine z_go2 M.1 17 [(.iconst 1, 1)] (18, [], [.inl 1], zW T' (zwG G' q) S2 n2, 3, 18) (by decide +kernel) rfl ⟨trivial, trivial⟩ ?_
        exact z_iret M (by decide +kernel) .int rfl rfl (by decide) (by decide) ⟨n2, q, hn2, by rw [hF]; simp, by rw [hF]⟩
      rcases hg with ⟨rfl, -⟩ | ⟨rfl, kk, h9⟩
      · exact KK
      · exact absurd (h9.symm.trans (show decode zm_L_found.2.1 15 = .ok (.astore 5, 2) by decide +kernel)) (by simp)
    · refine z_catch M.1 TB [(0, 12, 15, 13)] [] 0 12 19 17 rfl (fun z hz => by obtain rfl := List.mem_singleton.mp hz; exact ⟨by decide, "java/lang/IndexOutOfBoundsException", z_wi 685 (by decide +kernel) rfl, by simp [z_NC]⟩) (by decide) (by decide) (z_wi 687 (by decide +kernel) rfl) (z_ni 852 (by decide +kernel) rfl) (i := 5) (Or.inl (by decide +kernel)) (by decide) (fun g hg => ?_)
      have KK : z_G X zm_L_found (21, [], [], zW T' (zwG G' q) S2 n2, 3, 18) := by
        refine z_go2 M.1 21 [(.iconst 2, 1)] (22, [], [.inl 2], zW T' (zwG G' q) S2 n2, 3, 18) (by decide +kernel) rfl ⟨trivial, trivial⟩ ?_
        exact z_iret M (by decide +kernel) .int rfl rfl (by decide) (by decide) ⟨n2, q, hn2, by rw [hF]; simp, by rw [hF]⟩
      rcases hg with ⟨rfl, -⟩ | ⟨rfl, kk, h9⟩
      · exact KK
      · exact absurd (h9.symm.trans (show decode zm_L_found.2.1 19 = .ok (.astore 5, 2) by decide +kernel)) (by simp)
  · obtain ⟨x, S2, q, h0, rfl, rfl⟩ := hv
    have hF : F_L_found S p1 p2 p3 = (0, z_uS S2 193 0 x) := by unfold F_L_found; rw [h0]
    show z_G X zm_L_found (10, [(0, z_r 0), (1, .inl p1), (2, .inl p2), (3, .inl p3), (4, z_r 193)], [.inl x, .inl 0, z_r 193], zW T' (zwG G' q) S2 n, 3, 18)
    refine z_go2 M.1 10 [(.i2l, 1), (.lastore, 1), (.goto 11, 3), (.iconst 0, 1)] (24, [(0, z_r 0), (1, .inl p1), (2, .inl p2), (3, .inl p3), (4, z_r 193)], [.inl 0], zW T' (zwG G' q) (z_uS S2 193 0 x) n, 3, 18) (by decide +kernel) rfl ⟨trivial, ⟨rfl, (show vp_in 0 1 by unfold vp_in; decide)⟩, trivial, trivial, trivial⟩ ?_
    exact z_iret M (by decide +kernel) .int rfl rfl (by decide) (by decide) ⟨n, q, Nat.le_refl n, by rw [hF], by rw [hF]⟩
abbrev zm_L_sum : z_Y := (⟨"TrackHouseLaw", "sum", "(LTrackHouse;III[J)I"⟩, method_27_code, 6, some .int, [])
abbrev hh_L_sum : List (Nat × Nat × Nat × Nat) := [(0, 12, 15, 13), (0, 12, 19, 15), (0, 12, 23, 17)]
def F_L_sum (S : (Nat → Nat → Int32)) (p1 : Int32) (p2 : Int32) (p3 : Int32) : Int32 × (Nat → Nat → Int32) := match F_T_sum S p1 p2 p3 with | (.inl E, S2) => ((if E = "java/lang/IndexOutOfBoundsException" then 1 else (if E = "java/lang/IllegalArgumentException" then 2 else (if E = "java/lang/IllegalStateException" then 3 else 0))), S2) | (.inr x, S2) => (0, z_uS S2 193 0 x)
def Sf_L_sum (S : (Nat → Nat → Int32)) (p1 : Int32) (p2 : Int32) (p3 : Int32) : Prop := Sf_T_sum S p1 p2 p3 ∧ (∀ E S2, F_T_sum S p1 p2 p3 = (.inl E, S2) → E = "java/lang/IndexOutOfBoundsException" ∨ E = "java/lang/IllegalArgumentException" ∨ E = "java/lang/IllegalStateException")
abbrev rm_L_sum : Room := { frames := 8, cells := 3, slots := 18, locals := 480 }
theorem c_L_sum (T' : Nat → Nat × Nat) (G' : Nat → Nat → Option Nat) (q0 : Nat) (S : (Nat → Nat → Int32)) (n : Nat) (p1 : Int32) (p2 : Int32) (p3 : Int32) (hs : Sf_L_sum S p1 p2 p3) : z_RunH rm_L_sum zm_L_sum hh_L_sum [z_r 0, .inl p1, .inl p2, .inl p3, z_r 193] (zW T' (zwG G' q0) S n) (fun v w' => ∃ n2 q, n ≤ n2 ∧ v = some (.inl (F_L_sum S p1 p2 p3).1 : z_V) ∧ w' = zW T' (zwG G' q) (F_L_sum S p1 p2 p3).2 n2) := by
  refine z_bodyH (by decide) (fun q h => nomatch h) (Nat.le_of_ble_eq_true rfl) (fun X M TB => ?_)
  obtain ⟨hs, hE⟩ := hs
  show z_G X zm_L_sum (0, [(0, z_r 0), (1, .inl p1), (2, .inl p2), (3, .inl p3), (4, z_r 193)], [], zW T' (zwG G' q0) S n, 0, 0)
  refine z_go2 M.1 0 [(.aload 4, 2), (.iconst 0, 1), (.aload_n 0, 1), (.iload_n 1, 1), (.iload_n 2, 1), (.iload_n 3, 1)] (7, [(0, z_r 0), (1, .inl p1), (2, .inl p2), (3, .inl p3), (4, z_r 193)], [.inl p3, .inl p2, .inl p1, z_r 0, .inl 0, z_r 193], zW T' (zwG G' q0) S n, 0, 0) (by decide +kernel) rfl ⟨trivial, trivial, trivial, trivial, trivial, trivial, trivial⟩ ?_
  refine z_callVX M.1 (av := [.inl p1, .inl p2, .inl p3]) (st := [.inl 0, z_r 193]) (a := 0) (ci := 11) (by decide +kernel) (c_T_sum T' G' q0 S n p1 p2 p3 hs) M.2.1 zl_L_96 (z_wi 1352 (by decide +kernel) rfl) zv_T_sum rfl rfl rfl ⟨by decide, by decide, by decide, by decide⟩ rfl (Nat.le_of_ble_eq_true rfl) (fun E w' hx => ?_) (fun v w' hv => ?_)
  · obtain ⟨S2, n2, q, hn2, h0, rfl⟩ := hx
    have hEE := hE _ _ h0
    have hF : F_L_sum S p1 p2 p3 = ((if E = "java/lang/IndexOutOfBoundsException" then 1 else (if E = "java/lang/IllegalArgumentException" then 2 else (if E = "java/lang/IllegalStateException" then 3 else 0))), S2) := by unfold F_L_sum; rw [h0]
    rcases hEE with rfl | rfl | rfl
    · refine z_catch M.1 TB [] [(0, 12, 19, 15), (0, 12, 23, 17)] 0 12 15 13 rfl (fun z hz => nomatch hz) (by decide) (by decide) (z_wi 685 (by decide +kernel) rfl) (z_ni 703 (by decide +kernel) rfl) (i := 5) (Or.inl (by decide +kernel)) (by decide) (fun g hg => ?_)
      have KK : z_G X zm_L_sum (17, [], [], zW T' (zwG G' q) S2 n2, 3, 18) := by
        refine z_go2 M.1 17 [(.iconst 1, 1)] (18, [], [.inl 1], zW T' (zwG G' q) S2 n2, 3, 18) (by decide +kernel) rfl ⟨trivial, trivial⟩ ?_
        exact z_iret M (by decide +kernel) .int rfl rfl (by decide) (by decide) ⟨n2, q, hn2, by rw [hF]; simp, by rw [hF]⟩
      rcases hg with ⟨rfl, -⟩ | ⟨rfl, kk, h9⟩
      · exact KK
      · exact absurd (h9.symm.trans (show decode zm_L_sum.2.1 15 = .ok (.astore 5, 2) by decide +kernel)) (by simp)
    · refine z_catch M.1 TB [(0, 12, 15, 13)] [(0, 12, 23, 17)] 0 12 19 15 rfl (fun z hz => by obtain rfl := List.mem_singleton.mp hz; exact ⟨by decide, "java/lang/IndexOutOfBoundsException", z_wi 685 (by decide +kernel) rfl, by simp [z_NC]⟩) (by decide) (by decide) (z_wi 686 (by decide +kernel) rfl) (z_ni 777 (by decide +kernel) rfl) (i := 5) (Or.inl (by decide +kernel)) (by decide) (fun g hg => ?_)
      have KK : z_G X zm_L_sum (21, [], [], zW T' (zwG G' q) S2 n2, 3, 18) := by
        refine z_go2 M.1 21 [(.iconst 2, 1)] (22, [], [.inl 2], zW T' (zwG G' q) S2 n2, 3, 18) (by decide +kernel) rfl ⟨trivial, trivial⟩ ?_
        exact z_iret M (by decide +kernel) .int rfl rfl (by decide) (by decide) ⟨n2, q, hn2, by rw [hF]; simp, by rw [hF]⟩
      rcases hg with ⟨rfl, -⟩ | ⟨rfl, kk, h9⟩
      · exact KK
      · exact absurd (h9.symm.trans (show decode zm_L_sum.2.1 19 = .ok (.astore 5, 2) by decide +kernel)) (by simp)
    · refine z_catch M.1 TB [(0, 12, 15, 13), (0, 12, 19, 15)] [] 0 12 23 17 rfl (fun z hz => by rcases List.mem_cons.mp hz with rfl | hz; exact ⟨by decide, "java/lang/IndexOutOfBoundsException", z_wi 685 (by decide +kernel) rfl, by simp [z_NC]⟩; obtain rfl := List.mem_singleton.mp hz; exact ⟨by decide, "java/lang/IllegalArgumentException", z_wi 686 (by decide +kernel) rfl, by simp [z_NC]⟩) (by decide) (by decide) (z_wi 687 (by decide +kernel) rfl) (z_ni 852 (by decide +kernel) rfl) (i := 5) (Or.inl (by decide +kernel)) (by decide) (fun g hg => ?_)
      have KK : z_G X zm_L_sum (25, [], [], zW T' (zwG G' q) S2 n2, 3, 18) := by
        refine z_go2 M.1 25 [(.iconst 3, 1)] (26, [], [.inl 3], zW T' (zwG G' q) S2 n2, 3, 18) (by decide +kernel) rfl ⟨trivial, trivial⟩ ?_
        exact z_iret M (by decide +kernel) .int rfl rfl (by decide) (by decide) ⟨n2, q, hn2, by rw [hF]; simp, by rw [hF]⟩
      rcases hg with ⟨rfl, -⟩ | ⟨rfl, kk, h9⟩
      · exact KK
      · exact absurd (h9.symm.trans (show decode zm_L_sum.2.1 23 = .ok (.astore 5, 2) by decide +kernel)) (by simp)
  · obtain ⟨x, S2, q, h0, rfl, rfl⟩ := hv
    have hF : F_L_sum S p1 p2 p3 = (0, z_uS S2 193 0 x) := by unfold F_L_sum; rw [h0]
    show z_G X zm_L_sum (10, [(0, z_r 0), (1, .inl p1), (2, .inl p2), (3, .inl p3), (4, z_r 193)], [.inl x, .inl 0, z_r 193], zW T' (zwG G' q) S2 n, 3, 18)
    refine z_go2 M.1 10 [(.i2l, 1), (.lastore, 1), (.goto 15, 3), (.iconst 0, 1)] (28, [(0, z_r 0), (1, .inl p1), (2, .inl p2), (3, .inl p3), (4, z_r 193)], [.inl 0], zW T' (zwG G' q) (z_uS S2 193 0 x) n, 3, 18) (by decide +kernel) rfl ⟨trivial, ⟨rfl, (show vp_in 0 1 by unfold vp_in; decide)⟩, trivial, trivial, trivial⟩ ?_
    exact z_iret M (by decide +kernel) .int rfl rfl (by decide) (by decide) ⟨n, q, Nat.le_refl n, by rw [hF], by rw [hF]⟩
abbrev zm_L_stateOn : z_Y := (⟨"TrackHouseLaw", "stateOn", "(LTrackHouse;II[J)I"⟩, method_28_code, 5, some .int, [])
abbrev hh_L_stateOn : List (Nat × Nat × Nat × Nat) := [(0, 10, 13, 13)]
def F_L_stateOn (S : (Nat → Nat → Int32)) (p1 : Int32) (p2 : Int32) : Int32 × (Nat → Nat → Int32) := match F_T_stateOn S p1 p2 with | (.inl E, S2) => ((if E = "java/lang/IndexOutOfBoundsException" then 1 else 0), S2) | (.inr x, S2) => (0, z_uS S2 193 0 x)
def Sf_L_stateOn (S : (Nat → Nat → Int32)) (p1 : Int32) (p2 : Int32) : Prop := Sf_T_stateOn S p1 p2 ∧ (∀ E S2, F_T_stateOn S p1 p2 = (.inl E, S2) → E = "java/lang/IndexOutOfBoundsException")
abbrev rm_L_stateOn : Room := { frames := 8, cells := 1, slots := 6, locals := 480 }
theorem c_L_stateOn (T' : Nat → Nat × Nat) (G' : Nat → Nat → Option Nat) (q0 : Nat) (S : (Nat → Nat → Int32)) (n : Nat) (p1 : Int32) (p2 : Int32) (hs : Sf_L_stateOn S p1 p2) : z_RunH rm_L_stateOn zm_L_stateOn hh_L_stateOn [z_r 0, .inl p1, .inl p2, z_r 193] (zW T' (zwG G' q0) S n) (fun v w' => ∃ n2 q, n ≤ n2 ∧ v = some (.inl (F_L_stateOn S p1 p2).1 : z_V) ∧ w' = zW T' (zwG G' q) (F_L_stateOn S p1 p2).2 n2) := by
  refine z_bodyH (by decide) (fun q h => nomatch h) (Nat.le_of_ble_eq_true rfl) (fun X M TB => ?_)
  obtain ⟨hs, hE⟩ := hs
  show z_G X zm_L_stateOn (0, [(0, z_r 0), (1, .inl p1), (2, .inl p2), (3, z_r 193)], [], zW T' (zwG G' q0) S n, 0, 0)
  refine z_go2 M.1 0 [(.aload_n 3, 1), (.iconst 0, 1), (.aload_n 0, 1), (.iload_n 1, 1), (.iload_n 2, 1)] (5, [(0, z_r 0), (1, .inl p1), (2, .inl p2), (3, z_r 193)], [.inl p2, .inl p1, z_r 0, .inl 0, z_r 193], zW T' (zwG G' q0) S n, 0, 0) (by decide +kernel) rfl ⟨trivial, trivial, trivial, trivial, trivial, trivial⟩ ?_
  refine z_callVX M.1 (av := [.inl p1, .inl p2]) (st := [.inl 0, z_r 193]) (a := 0) (ci := 11) (by decide +kernel) (c_T_stateOn T' (zwG G' q0) S n p1 p2 hs) M.2.1 zl_L_99 (z_wi 1364 (by decide +kernel) rfl) zv_T_stateOn rfl rfl rfl ⟨by decide, by decide, by decide, by decide⟩ rfl (Nat.le_of_ble_eq_true rfl) (fun E w' hx => ?_) (fun v w' hv => ?_)
  · obtain ⟨S2, n2, hn2, h0, rfl⟩ := hx
    have hEE := hE _ _ h0
    have hF : F_L_stateOn S p1 p2 = ((if E = "java/lang/IndexOutOfBoundsException" then 1 else 0), S2) := by unfold F_L_stateOn; rw [h0]
    subst hEE
    refine z_catch M.1 TB [] [] 0 10 13 13 rfl (fun z hz => nomatch hz) (by decide) (by decide) (z_wi 685 (by decide +kernel) rfl) (z_ni 703 (by decide +kernel) rfl) (i := 4) (Or.inl (by decide +kernel)) (by decide) (fun g hg => ?_)
    have KK : z_G X zm_L_stateOn (15, [], [], zW T' (zwG G' q0) S2 n2, 1, 6) := by
      refine z_go2 M.1 15 [(.iconst 1, 1)] (16, [], [.inl 1], zW T' (zwG G' q0) S2 n2, 1, 6) (by decide +kernel) rfl ⟨trivial, trivial⟩ ?_
      exact z_iret M (by decide +kernel) .int rfl rfl (by decide) (by decide) ⟨n2, q0, hn2, by rw [hF]; simp, by rw [hF]⟩
    rcases hg with ⟨rfl, -⟩ | ⟨rfl, kk, h9⟩
    · exact KK
    · exact absurd (h9.symm.trans (show decode zm_L_stateOn.2.1 13 = .ok (.astore 4, 2) by decide +kernel)) (by simp)
  · obtain ⟨x, S2, h0, rfl, rfl⟩ := hv
    have hF : F_L_stateOn S p1 p2 = (0, z_uS S2 193 0 x) := by unfold F_L_stateOn; rw [h0]
    show z_G X zm_L_stateOn (8, [(0, z_r 0), (1, .inl p1), (2, .inl p2), (3, z_r 193)], [.inl x, .inl 0, z_r 193], zW T' (zwG G' q0) S2 n, 1, 6)
    refine z_go2 M.1 8 [(.i2l, 1), (.lastore, 1), (.goto 7, 3), (.iconst 0, 1)] (18, [(0, z_r 0), (1, .inl p1), (2, .inl p2), (3, z_r 193)], [.inl 0], zW T' (zwG G' q0) (z_uS S2 193 0 x) n, 1, 6) (by decide +kernel) rfl ⟨trivial, ⟨rfl, (show vp_in 0 1 by unfold vp_in; decide)⟩, trivial, trivial, trivial⟩ ?_
    exact z_iret M (by decide +kernel) .int rfl rfl (by decide) (by decide) ⟨n, q0, Nat.le_refl n, by rw [hF], by rw [hF]⟩
abbrev zm_L_stateOnAnew : z_Y := (⟨"TrackHouseLaw", "stateOnAnew", "(LTrackHouse;II[J)I"⟩, method_29_code, 5, some .int, [])
abbrev hh_L_stateOnAnew : List (Nat × Nat × Nat × Nat) := [(0, 10, 13, 13)]
def F_L_stateOnAnew (S : (Nat → Nat → Int32)) (p1 : Int32) (p2 : Int32) : Int32 × (Nat → Nat → Int32) := match F_T_stateOnAnew S p1 p2 with | (.inl E, S2) => ((if E = "java/lang/IndexOutOfBoundsException" then 1 else 0), S2) | (.inr x, S2) => (0, z_uS S2 193 0 x)
def Sf_L_stateOnAnew (S : (Nat → Nat → Int32)) (p1 : Int32) (p2 : Int32) : Prop := Sf_T_stateOnAnew S p1 p2 ∧ (∀ E S2, F_T_stateOnAnew S p1 p2 = (.inl E, S2) → E = "java/lang/IndexOutOfBoundsException")
abbrev rm_L_stateOnAnew : Room := { frames := 8, cells := 1, slots := 6, locals := 480 }
theorem c_L_stateOnAnew (T' : Nat → Nat × Nat) (G' : Nat → Nat → Option Nat) (q0 : Nat) (S : (Nat → Nat → Int32)) (n : Nat) (p1 : Int32) (p2 : Int32) (hs : Sf_L_stateOnAnew S p1 p2) : z_RunH rm_L_stateOnAnew zm_L_stateOnAnew hh_L_stateOnAnew [z_r 0, .inl p1, .inl p2, z_r 193] (zW T' (zwG G' q0) S n) (fun v w' => ∃ n2 q, n ≤ n2 ∧ v = some (.inl (F_L_stateOnAnew S p1 p2).1 : z_V) ∧ w' = zW T' (zwG G' q) (F_L_stateOnAnew S p1 p2).2 n2) := by
  refine z_bodyH (by decide) (fun q h => nomatch h) (Nat.le_of_ble_eq_true rfl) (fun X M TB => ?_)
  obtain ⟨hs, hE⟩ := hs
  show z_G X zm_L_stateOnAnew (0, [(0, z_r 0), (1, .inl p1), (2, .inl p2), (3, z_r 193)], [], zW T' (zwG G' q0) S n, 0, 0)
  refine z_go2 M.1 0 [(.aload_n 3, 1), (.iconst 0, 1), (.aload_n 0, 1), (.iload_n 1, 1), (.iload_n 2, 1)] (5, [(0, z_r 0), (1, .inl p1), (2, .inl p2), (3, z_r 193)], [.inl p2, .inl p1, z_r 0, .inl 0, z_r 193], zW T' (zwG G' q0) S n, 0, 0) (by decide +kernel) rfl ⟨trivial, trivial, trivial, trivial, trivial, trivial⟩ ?_
  refine z_callVX M.1 (av := [.inl p1, .inl p2]) (st := [.inl 0, z_r 193]) (a := 0) (ci := 11) (by decide +kernel) (c_T_stateOnAnew T' (zwG G' q0) S n p1 p2 hs) M.2.1 zl_L_102 (z_wi 1371 (by decide +kernel) rfl) zv_T_stateOnAnew rfl rfl rfl ⟨by decide, by decide, by decide, by decide⟩ rfl (Nat.le_of_ble_eq_true rfl) (fun E w' hx => ?_) (fun v w' hv => ?_)
  · obtain ⟨S2, n2, hn2, h0, rfl⟩ := hx
    have hEE := hE _ _ h0
    have hF : F_L_stateOnAnew S p1 p2 = ((if E = "java/lang/IndexOutOfBoundsException" then 1 else 0), S2) := by unfold F_L_stateOnAnew; rw [h0]
    subst hEE
    refine z_catch M.1 TB [] [] 0 10 13 13 rfl (fun z hz => nomatch hz) (by decide) (by decide) (z_wi 685 (by decide +kernel) rfl) (z_ni 703 (by decide +kernel) rfl) (i := 4) (Or.inl (by decide +kernel)) (by decide) (fun g hg => ?_)
    have KK : z_G X zm_L_stateOnAnew (15, [], [], zW T' (zwG G' q0) S2 n2, 1, 6) := by
      refine z_go2 M.1 15 [(.iconst 1, 1)] (16, [], [.inl 1], zW T' (zwG G' q0) S2 n2, 1, 6) (by decide +kernel) rfl ⟨trivial, trivial⟩ ?_
      exact z_iret M (by decide +kernel) .int rfl rfl (by decide) (by decide) ⟨n2, q0, hn2, by rw [hF]; simp, by rw [hF]⟩
    rcases hg with ⟨rfl, -⟩ | ⟨rfl, kk, h9⟩
    · exact KK
    · exact absurd (h9.symm.trans (show decode zm_L_stateOnAnew.2.1 13 = .ok (.astore 4, 2) by decide +kernel)) (by simp)
  · obtain ⟨x, S2, h0, rfl, rfl⟩ := hv
    have hF : F_L_stateOnAnew S p1 p2 = (0, z_uS S2 193 0 x) := by unfold F_L_stateOnAnew; rw [h0]
    show z_G X zm_L_stateOnAnew (8, [(0, z_r 0), (1, .inl p1), (2, .inl p2), (3, z_r 193)], [.inl x, .inl 0, z_r 193], zW T' (zwG G' q0) S2 n, 1, 6)
    refine z_go2 M.1 8 [(.i2l, 1), (.lastore, 1), (.goto 7, 3), (.iconst 0, 1)] (18, [(0, z_r 0), (1, .inl p1), (2, .inl p2), (3, z_r 193)], [.inl 0], zW T' (zwG G' q0) (z_uS S2 193 0 x) n, 1, 6) (by decide +kernel) rfl ⟨trivial, ⟨rfl, (show vp_in 0 1 by unfold vp_in; decide)⟩, trivial, trivial, trivial⟩ ?_
    exact z_iret M (by decide +kernel) .int rfl rfl (by decide) (by decide) ⟨n, q0, Nat.le_refl n, by rw [hF], by rw [hF]⟩
abbrev zm_L_field : z_Y := (⟨"TrackHouseLaw", "field", "(LTrackHouse;III[J)I"⟩, method_30_code, 6, some .int, [])
abbrev hh_L_field : List (Nat × Nat × Nat × Nat) := [(0, 12, 15, 13), (0, 12, 19, 15)]
def F_L_field (S : (Nat → Nat → Int32)) (p1 : Int32) (p2 : Int32) (p3 : Int32) : Int32 × (Nat → Nat → Int32) := match F_T_field S p1 p2 p3 with | (.inl E, S2) => ((if E = "java/lang/IndexOutOfBoundsException" then 1 else (if E = "java/lang/IllegalArgumentException" then 2 else 0)), S2) | (.inr x, S2) => (0, z_uS S2 193 0 x)
def Sf_L_field (S : (Nat → Nat → Int32)) (p1 : Int32) (p2 : Int32) (p3 : Int32) : Prop := Sf_T_field S p1 p2 p3 ∧ (∀ E S2, F_T_field S p1 p2 p3 = (.inl E, S2) → E = "java/lang/IndexOutOfBoundsException" ∨ E = "java/lang/IllegalArgumentException")
abbrev rm_L_field : Room := { frames := 8, cells := 2, slots := 12, locals := 480 }
theorem c_L_field (T' : Nat → Nat × Nat) (G' : Nat → Nat → Option Nat) (q0 : Nat) (S : (Nat → Nat → Int32)) (n : Nat) (p1 : Int32) (p2 : Int32) (p3 : Int32) (hs : Sf_L_field S p1 p2 p3) : z_RunH rm_L_field zm_L_field hh_L_field [z_r 0, .inl p1, .inl p2, .inl p3, z_r 193] (zW T' (zwG G' q0) S n) (fun v w' => ∃ n2 q, n ≤ n2 ∧ v = some (.inl (F_L_field S p1 p2 p3).1 : z_V) ∧ w' = zW T' (zwG G' q) (F_L_field S p1 p2 p3).2 n2) := by
  refine z_bodyH (by decide) (fun q h => nomatch h) (Nat.le_of_ble_eq_true rfl) (fun X M TB => ?_)
  obtain ⟨hs, hE⟩ := hs
  show z_G X zm_L_field (0, [(0, z_r 0), (1, .inl p1), (2, .inl p2), (3, .inl p3), (4, z_r 193)], [], zW T' (zwG G' q0) S n, 0, 0)
  refine z_go2 M.1 0 [(.aload 4, 2), (.iconst 0, 1), (.aload_n 0, 1), (.iload_n 1, 1), (.iload_n 2, 1), (.iload_n 3, 1)] (7, [(0, z_r 0), (1, .inl p1), (2, .inl p2), (3, .inl p3), (4, z_r 193)], [.inl p3, .inl p2, .inl p1, z_r 0, .inl 0, z_r 193], zW T' (zwG G' q0) S n, 0, 0) (by decide +kernel) rfl ⟨trivial, trivial, trivial, trivial, trivial, trivial, trivial⟩ ?_
  refine z_callVX M.1 (av := [.inl p1, .inl p2, .inl p3]) (st := [.inl 0, z_r 193]) (a := 0) (ci := 11) (by decide +kernel) (c_T_field T' G' q0 S n p1 p2 p3 hs) M.2.1 zl_L_105 (z_wi 1378 (by decide +kernel) rfl) zv_T_field rfl rfl rfl ⟨by decide, by decide, by decide, by decide⟩ rfl (Nat.le_of_ble_eq_true rfl) (fun E w' hx => ?_) (fun v w' hv => ?_)
  · obtain ⟨S2, n2, q, hn2, h0, rfl⟩ := hx
    have hEE := hE _ _ h0
    have hF : F_L_field S p1 p2 p3 = ((if E = "java/lang/IndexOutOfBoundsException" then 1 else (if E = "java/lang/IllegalArgumentException" then 2 else 0)), S2) := by unfold F_L_field; rw [h0]
    rcases hEE with rfl | rfl
    · refine z_catch M.1 TB [] [(0, 12, 19, 15)] 0 12 15 13 rfl (fun z hz => nomatch hz) (by decide) (by decide) (z_wi 685 (by decide +kernel) rfl) (z_ni 703 (by decide +kernel) rfl) (i := 5) (Or.inl (by decide +kernel)) (by decide) (fun g hg => ?_)
      have KK : z_G X zm_L_field (17, [], [], zW T' (zwG G' q) S2 n2, 2, 12) := by
        refine z_go2 M.1 17 [(.iconst 1, 1)] (18, [], [.inl 1], zW T' (zwG G' q) S2 n2, 2, 12) (by decide +kernel) rfl ⟨trivial, trivial⟩ ?_
        exact z_iret M (by decide +kernel) .int rfl rfl (by decide) (by decide) ⟨n2, q, hn2, by rw [hF]; simp, by rw [hF]⟩
      rcases hg with ⟨rfl, -⟩ | ⟨rfl, kk, h9⟩
      · exact KK
      · exact absurd (h9.symm.trans (show decode zm_L_field.2.1 15 = .ok (.astore 5, 2) by decide +kernel)) (by simp)
    · refine z_catch M.1 TB [(0, 12, 15, 13)] [] 0 12 19 15 rfl (fun z hz => by obtain rfl := List.mem_singleton.mp hz; exact ⟨by decide, "java/lang/IndexOutOfBoundsException", z_wi 685 (by decide +kernel) rfl, by simp [z_NC]⟩) (by decide) (by decide) (z_wi 686 (by decide +kernel) rfl) (z_ni 777 (by decide +kernel) rfl) (i := 5) (Or.inl (by decide +kernel)) (by decide) (fun g hg => ?_)
      have KK : z_G X zm_L_field (21, [], [], zW T' (zwG G' q) S2 n2, 2, 12) := by
        refine z_go2 M.1 21 [(.iconst 2, 1)] (22, [], [.inl 2], zW T' (zwG G' q) S2 n2, 2, 12) (by decide +kernel) rfl ⟨trivial, trivial⟩ ?_
        exact z_iret M (by decide +kernel) .int rfl rfl (by decide) (by decide) ⟨n2, q, hn2, by rw [hF]; simp, by rw [hF]⟩
      rcases hg with ⟨rfl, -⟩ | ⟨rfl, kk, h9⟩
      · exact KK
      · exact absurd (h9.symm.trans (show decode zm_L_field.2.1 19 = .ok (.astore 5, 2) by decide +kernel)) (by simp)
  · obtain ⟨x, S2, q, h0, rfl, rfl⟩ := hv
    have hF : F_L_field S p1 p2 p3 = (0, z_uS S2 193 0 x) := by unfold F_L_field; rw [h0]
    show z_G X zm_L_field (10, [(0, z_r 0), (1, .inl p1), (2, .inl p2), (3, .inl p3), (4, z_r 193)], [.inl x, .inl 0, z_r 193], zW T' (zwG G' q) S2 n, 2, 12)
    refine z_go2 M.1 10 [(.i2l, 1), (.lastore, 1), (.goto 11, 3), (.iconst 0, 1)] (24, [(0, z_r 0), (1, .inl p1), (2, .inl p2), (3, .inl p3), (4, z_r 193)], [.inl 0], zW T' (zwG G' q) (z_uS S2 193 0 x) n, 2, 12) (by decide +kernel) rfl ⟨trivial, ⟨rfl, (show vp_in 0 1 by unfold vp_in; decide)⟩, trivial, trivial, trivial⟩ ?_
    exact z_iret M (by decide +kernel) .int rfl rfl (by decide) (by decide) ⟨n, q, Nat.le_refl n, by rw [hF], by rw [hF]⟩
abbrev zm_L_ranked : z_Y := (⟨"TrackHouseLaw", "ranked", "(LTrackHouse;II[J)I"⟩, method_31_code, 5, some .int, [])
abbrev hh_L_ranked : List (Nat × Nat × Nat × Nat) := [(0, 10, 13, 13)]
def F_L_ranked (S : (Nat → Nat → Int32)) (p1 : Int32) (p2 : Int32) : Int32 × (Nat → Nat → Int32) := match F_T_ranked S p1 p2 with | (.inl E, S2) => ((if E = "java/lang/IndexOutOfBoundsException" then 1 else 0), S2) | (.inr x, S2) => (0, z_uS S2 193 0 x)
def Sf_L_ranked (S : (Nat → Nat → Int32)) (p1 : Int32) (p2 : Int32) : Prop := Sf_T_ranked S p1 p2 ∧ (∀ E S2, F_T_ranked S p1 p2 = (.inl E, S2) → E = "java/lang/IndexOutOfBoundsException")
abbrev rm_L_ranked : Room := { frames := 8, cells := 2, slots := 12, locals := 480 }
theorem c_L_ranked (T' : Nat → Nat × Nat) (G' : Nat → Nat → Option Nat) (q0 : Nat) (S : (Nat → Nat → Int32)) (n : Nat) (p1 : Int32) (p2 : Int32) (hs : Sf_L_ranked S p1 p2) : z_RunH rm_L_ranked zm_L_ranked hh_L_ranked [z_r 0, .inl p1, .inl p2, z_r 193] (zW T' (zwG G' q0) S n) (fun v w' => ∃ n2 q, n ≤ n2 ∧ v = some (.inl (F_L_ranked S p1 p2).1 : z_V) ∧ w' = zW T' (zwG G' q) (F_L_ranked S p1 p2).2 n2) := by
  refine z_bodyH (by decide) (fun q h => nomatch h) (Nat.le_of_ble_eq_true rfl) (fun X M TB => ?_)
  obtain ⟨hs, hE⟩ := hs
  show z_G X zm_L_ranked (0, [(0, z_r 0), (1, .inl p1), (2, .inl p2), (3, z_r 193)], [], zW T' (zwG G' q0) S n, 0, 0)
  refine z_go2 M.1 0 [(.aload_n 3, 1), (.iconst 0, 1), (.aload_n 0, 1), (.iload_n 1, 1), (.iload_n 2, 1)] (5, [(0, z_r 0), (1, .inl p1), (2, .inl p2), (3, z_r 193)], [.inl p2, .inl p1, z_r 0, .inl 0, z_r 193], zW T' (zwG G' q0) S n, 0, 0) (by decide +kernel) rfl ⟨trivial, trivial, trivial, trivial, trivial, trivial⟩ ?_
  refine z_callVX M.1 (av := [.inl p1, .inl p2]) (st := [.inl 0, z_r 193]) (a := 0) (ci := 11) (by decide +kernel) (c_T_ranked T' G' q0 S n p1 p2 hs) M.2.1 zl_L_108 (z_wi 1386 (by decide +kernel) rfl) zv_T_ranked rfl rfl rfl ⟨by decide, by decide, by decide, by decide⟩ rfl (Nat.le_of_ble_eq_true rfl) (fun E w' hx => ?_) (fun v w' hv => ?_)
  · obtain ⟨S2, n2, q, hn2, h0, rfl⟩ := hx
    have hEE := hE _ _ h0
    have hF : F_L_ranked S p1 p2 = ((if E = "java/lang/IndexOutOfBoundsException" then 1 else 0), S2) := by unfold F_L_ranked; rw [h0]
    subst hEE
    refine z_catch M.1 TB [] [] 0 10 13 13 rfl (fun z hz => nomatch hz) (by decide) (by decide) (z_wi 685 (by decide +kernel) rfl) (z_ni 703 (by decide +kernel) rfl) (i := 4) (Or.inl (by decide +kernel)) (by decide) (fun g hg => ?_)
    have KK : z_G X zm_L_ranked (15, [], [], zW T' (zwG G' q) S2 n2, 2, 12) := by
      refine z_go2 M.1 15 [(.iconst 1, 1)] (16, [], [.inl 1], zW T' (zwG G' q) S2 n2, 2, 12) (by decide +kernel) rfl ⟨trivial, trivial⟩ ?_
      exact z_iret M (by decide +kernel) .int rfl rfl (by decide) (by decide) ⟨n2, q, hn2, by rw [hF]; simp, by rw [hF]⟩
    rcases hg with ⟨rfl, -⟩ | ⟨rfl, kk, h9⟩
    · exact KK
    · exact absurd (h9.symm.trans (show decode zm_L_ranked.2.1 13 = .ok (.astore 4, 2) by decide +kernel)) (by simp)
  · obtain ⟨x, S2, q, h0, rfl, rfl⟩ := hv
    have hF : F_L_ranked S p1 p2 = (0, z_uS S2 193 0 x) := by unfold F_L_ranked; rw [h0]
    show z_G X zm_L_ranked (8, [(0, z_r 0), (1, .inl p1), (2, .inl p2), (3, z_r 193)], [.inl x, .inl 0, z_r 193], zW T' (zwG G' q) S2 n, 2, 12)
    refine z_go2 M.1 8 [(.i2l, 1), (.lastore, 1), (.goto 7, 3), (.iconst 0, 1)] (18, [(0, z_r 0), (1, .inl p1), (2, .inl p2), (3, z_r 193)], [.inl 0], zW T' (zwG G' q) (z_uS S2 193 0 x) n, 2, 12) (by decide +kernel) rfl ⟨trivial, ⟨rfl, (show vp_in 0 1 by unfold vp_in; decide)⟩, trivial, trivial, trivial⟩ ?_
    exact z_iret M (by decide +kernel) .int rfl rfl (by decide) (by decide) ⟨n, q, Nat.le_refl n, by rw [hF], by rw [hF]⟩
abbrev zm_L_burn : z_Y := (⟨"TrackHouseLaw", "burn", "(LTrackHouse;III[J)I"⟩, method_32_code, 6, some .int, [])
abbrev hh_L_burn : List (Nat × Nat × Nat × Nat) := [(0, 12, 15, 13)]
def F_L_burn (S : (Nat → Nat → Int32)) (p1 : Int32) (p2 : Int32) (p3 : Int32) : Int32 × (Nat → Nat → Int32) := match F_T_burn S p1 p2 p3 with | (.inl E, S2) => ((if E = "java/lang/IndexOutOfBoundsException" then 1 else 0), S2) | (.inr x, S2) => (0, z_uS S2 193 0 x)
def Sf_L_burn (S : (Nat → Nat → Int32)) (p1 : Int32) (p2 : Int32) (p3 : Int32) : Prop := Sf_T_burn S p1 p2 p3 ∧ (∀ E S2, F_T_burn S p1 p2 p3 = (.inl E, S2) → E = "java/lang/IndexOutOfBoundsException")
abbrev rm_L_burn : Room := { frames := 8, cells := 1, slots := 6, locals := 480 }
theorem c_L_burn (T' : Nat → Nat × Nat) (G' : Nat → Nat → Option Nat) (q0 : Nat) (S : (Nat → Nat → Int32)) (n : Nat) (p1 : Int32) (p2 : Int32) (p3 : Int32) (hs : Sf_L_burn S p1 p2 p3) : z_RunH rm_L_burn zm_L_burn hh_L_burn [z_r 0, .inl p1, .inl p2, .inl p3, z_r 193] (zW T' (zwG G' q0) S n) (fun v w' => ∃ n2 q, n ≤ n2 ∧ v = some (.inl (F_L_burn S p1 p2 p3).1 : z_V) ∧ w' = zW T' (zwG G' q) (F_L_burn S p1 p2 p3).2 n2) := by
  refine z_bodyH (by decide) (fun q h => nomatch h) (Nat.le_of_ble_eq_true rfl) (fun X M TB => ?_)
  obtain ⟨hs, hE⟩ := hs
  show z_G X zm_L_burn (0, [(0, z_r 0), (1, .inl p1), (2, .inl p2), (3, .inl p3), (4, z_r 193)], [], zW T' (zwG G' q0) S n, 0, 0)
  refine z_go2 M.1 0 [(.aload 4, 2), (.iconst 0, 1), (.aload_n 0, 1), (.iload_n 1, 1), (.iload_n 2, 1), (.iload_n 3, 1)] (7, [(0, z_r 0), (1, .inl p1), (2, .inl p2), (3, .inl p3), (4, z_r 193)], [.inl p3, .inl p2, .inl p1, z_r 0, .inl 0, z_r 193], zW T' (zwG G' q0) S n, 0, 0) (by decide +kernel) rfl ⟨trivial, trivial, trivial, trivial, trivial, trivial, trivial⟩ ?_
  refine z_callVX M.1 (av := [.inl p1, .inl p2, .inl p3]) (st := [.inl 0, z_r 193]) (a := 0) (ci := 11) (by decide +kernel) (c_T_burn T' G' q0 S n p1 p2 p3 hs) M.2.1 zl_L_111 (z_wi 1397 (by decide +kernel) rfl) zv_T_burn rfl rfl rfl ⟨by decide, by decide, by decide, by decide⟩ rfl (Nat.le_of_ble_eq_true rfl) (fun E w' hx => ?_) (fun v w' hv => ?_)
  · obtain ⟨S2, n2, q, hn2, h0, rfl⟩ := hx
    have hEE := hE _ _ h0
    have hF : F_L_burn S p1 p2 p3 = ((if E = "java/lang/IndexOutOfBoundsException" then 1 else 0), S2) := by unfold F_L_burn; rw [h0]
    subst hEE
    refine z_catch M.1 TB [] [] 0 12 15 13 rfl (fun z hz => nomatch hz) (by decide) (by decide) (z_wi 685 (by decide +kernel) rfl) (z_ni 703 (by decide +kernel) rfl) (i := 5) (Or.inl (by decide +kernel)) (by decide) (fun g hg => ?_)
    have KK : z_G X zm_L_burn (17, [], [], zW T' (zwG G' q) S2 n2, 1, 6) := by
      refine z_go2 M.1 17 [(.iconst 1, 1)] (18, [], [.inl 1], zW T' (zwG G' q) S2 n2, 1, 6) (by decide +kernel) rfl ⟨trivial, trivial⟩ ?_
      exact z_iret M (by decide +kernel) .int rfl rfl (by decide) (by decide) ⟨n2, q, hn2, by rw [hF]; simp, by rw [hF]⟩
    rcases hg with ⟨rfl, -⟩ | ⟨rfl, kk, h9⟩
    · exact KK
    · exact absurd (h9.symm.trans (show decode zm_L_burn.2.1 15 = .ok (.astore 5, 2) by decide +kernel)) (by simp)
  · obtain ⟨x, S2, q, h0, rfl, rfl⟩ := hv
    have hF : F_L_burn S p1 p2 p3 = (0, z_uS S2 193 0 x) := by unfold F_L_burn; rw [h0]
    show z_G X zm_L_burn (10, [(0, z_r 0), (1, .inl p1), (2, .inl p2), (3, .inl p3), (4, z_r 193)], [.inl x, .inl 0, z_r 193], zW T' (zwG G' q) S2 n, 1, 6)
    refine z_go2 M.1 10 [(.i2l, 1), (.lastore, 1), (.goto 7, 3), (.iconst 0, 1)] (20, [(0, z_r 0), (1, .inl p1), (2, .inl p2), (3, .inl p3), (4, z_r 193)], [.inl 0], zW T' (zwG G' q) (z_uS S2 193 0 x) n, 1, 6) (by decide +kernel) rfl ⟨trivial, ⟨rfl, (show vp_in 0 1 by unfold vp_in; decide)⟩, trivial, trivial, trivial⟩ ?_
    exact z_iret M (by decide +kernel) .int rfl rfl (by decide) (by decide) ⟨n, q, Nat.le_refl n, by rw [hF], by rw [hF]⟩
abbrev zm_L_rule : z_Y := (⟨"TrackHouseLaw", "rule", "(LTrackHouse;IIIIII[J)I"⟩, method_33_code, 9, some .int, [])
abbrev hh_L_rule : List (Nat × Nat × Nat × Nat) := [(0, 18, 21, 15), (0, 18, 25, 17)]
def F_L_rule (S : (Nat → Nat → Int32)) (p1 : Int32) (p2 : Int32) (p3 : Int32) (p4 : Int32) (p5 : Int32) (p6 : Int32) : Int32 × (Nat → Nat → Int32) := match F_T_rule S p1 p2 p3 p4 p5 p6 with | (.inl E, S2) => ((if E = "java/lang/IllegalArgumentException" then 1 else (if E = "java/lang/IllegalStateException" then 2 else 0)), S2) | (.inr x, S2) => (0, z_uS S2 193 0 x)
def Sf_L_rule (S : (Nat → Nat → Int32)) (p1 : Int32) (p2 : Int32) (p3 : Int32) (p4 : Int32) (p5 : Int32) (p6 : Int32) : Prop := Sf_T_rule S p1 p2 p3 p4 p5 p6 ∧ (∀ E S2, F_T_rule S p1 p2 p3 p4 p5 p6 = (.inl E, S2) → E = "java/lang/IllegalArgumentException" ∨ E = "java/lang/IllegalStateException")
abbrev rm_L_rule : Room := { frames := 8, cells := 3, slots := 18, locals := 480 }
theorem c_L_rule (T' : Nat → Nat × Nat) (G' : Nat → Nat → Option Nat) (q0 : Nat) (S : (Nat → Nat → Int32)) (n : Nat) (p1 : Int32) (p2 : Int32) (p3 : Int32) (p4 : Int32) (p5 : Int32) (p6 : Int32) (hs : Sf_L_rule S p1 p2 p3 p4 p5 p6) : z_RunH rm_L_rule zm_L_rule hh_L_rule [z_r 0, .inl p1, .inl p2, .inl p3, .inl p4, .inl p5, .inl p6, z_r 193] (zW T' (zwG G' q0) S n) (fun v w' => ∃ n2 q, n ≤ n2 ∧ v = some (.inl (F_L_rule S p1 p2 p3 p4 p5 p6).1 : z_V) ∧ w' = zW T' (zwG G' q) (F_L_rule S p1 p2 p3 p4 p5 p6).2 n2) := by
  refine z_bodyH (by decide) (fun q h => nomatch h) (Nat.le_of_ble_eq_true rfl) (fun X M TB => ?_)
  obtain ⟨hs, hE⟩ := hs
  show z_G X zm_L_rule (0, [(0, z_r 0), (1, .inl p1), (2, .inl p2), (3, .inl p3), (4, .inl p4), (5, .inl p5), (6, .inl p6), (7, z_r 193)], [], zW T' (zwG G' q0) S n, 0, 0)
  refine z_go2 M.1 0 [(.aload 7, 2), (.iconst 0, 1), (.aload_n 0, 1), (.iload_n 1, 1), (.iload_n 2, 1), (.iload_n 3, 1), (.iload 4, 2), (.iload 5, 2), (.iload 6, 2)] (13, [(0, z_r 0), (1, .inl p1), (2, .inl p2), (3, .inl p3), (4, .inl p4), (5, .inl p5), (6, .inl p6), (7, z_r 193)], [.inl p6, .inl p5, .inl p4, .inl p3, .inl p2, .inl p1, z_r 0, .inl 0, z_r 193], zW T' (zwG G' q0) S n, 0, 0) (by decide +kernel) rfl ⟨trivial, trivial, trivial, trivial, trivial, trivial, trivial, trivial, trivial, trivial⟩ ?_
  refine z_callVX M.1 (av := [.inl p1, .inl p2, .inl p3, .inl p4, .inl p5, .inl p6]) (st := [.inl 0, z_r 193]) (a := 0) (ci := 11) (by decide +kernel) (c_T_rule T' (zwG G' q0) S n p1 p2 p3 p4 p5 p6 hs) M.2.1 zl_L_114 (z_wi 1404 (by decide +kernel) rfl) zv_T_rule rfl rfl rfl ⟨by decide, by decide, by decide, by decide⟩ rfl (Nat.le_of_ble_eq_true rfl) (fun E w' hx => ?_) (fun v w' hv => ?_)
  · obtain ⟨S2, n2, hn2, h0, rfl⟩ := hx
    have hEE := hE _ _ h0
    have hF : F_L_rule S p1 p2 p3 p4 p5 p6 = ((if E = "java/lang/IllegalArgumentException" then 1 else (if E = "java/lang/IllegalStateException" then 2 else 0)), S2) := by unfold F_L_rule; rw [h0]
    rcases hEE with rfl | rfl
    · refine z_catch M.1 TB [] [(0, 18, 25, 17)] 0 18 21 15 rfl (fun z hz => nomatch hz) (by decide) (by decide) (z_wi 686 (by decide +kernel) rfl) (z_ni 777 (by decide +kernel) rfl) (i := 8) (Or.inl (by decide +kernel)) (by decide) (fun g hg => ?_)
      have KK : z_G X zm_L_rule (23, [], [], zW T' (zwG G' q0) S2 n2, 3, 18) := by
        refine z_go2 M.1 23 [(.iconst 1, 1)] (24, [], [.inl 1], zW T' (zwG G' q0) S2 n2, 3, 18) (by decide +kernel) rfl ⟨trivial, trivial⟩ ?_
        exact z_iret M (by decide +kernel) .int rfl rfl (by decide) (by decide) ⟨n2, q0, hn2, by rw [hF]; simp, by rw [hF]⟩
      rcases hg with ⟨rfl, -⟩ | ⟨rfl, kk, h9⟩
      · exact KK
      · exact absurd (h9.symm.trans (show decode zm_L_rule.2.1 21 = .ok (.astore 8, 2) by decide +kernel)) (by simp)
    · refine z_catch M.1 TB [(0, 18, 21, 15)] [] 0 18 25 17 rfl (fun z hz => by obtain rfl := List.mem_singleton.mp hz; exact ⟨by decide, "java/lang/IllegalArgumentException", z_wi 686 (by decide +kernel) rfl, by simp [z_NC]⟩) (by decide) (by decide) (z_wi 687 (by decide +kernel) rfl) (z_ni 852 (by decide +kernel) rfl) (i := 8) (Or.inl (by decide +kernel)) (by decide) (fun g hg => ?_)
      have KK : z_G X zm_L_rule (27, [], [], zW T' (zwG G' q0) S2 n2, 3, 18) := by
        refine z_go2 M.1 27 [(.iconst 2, 1)] (28, [], [.inl 2], zW T' (zwG G' q0) S2 n2, 3, 18) (by decide +kernel) rfl ⟨trivial, trivial⟩ ?_
        exact z_iret M (by decide +kernel) .int rfl rfl (by decide) (by decide) ⟨n2, q0, hn2, by rw [hF]; simp, by rw [hF]⟩
      rcases hg with ⟨rfl, -⟩ | ⟨rfl, kk, h9⟩
      · exact KK
      · exact absurd (h9.symm.trans (show decode zm_L_rule.2.1 25 = .ok (.astore 8, 2) by decide +kernel)) (by simp)
  · obtain ⟨x, S2, h0, rfl, rfl⟩ := hv
    have hF : F_L_rule S p1 p2 p3 p4 p5 p6 = (0, z_uS S2 193 0 x) := by unfold F_L_rule; rw [h0]
    show z_G X zm_L_rule (16, [(0, z_r 0), (1, .inl p1), (2, .inl p2), (3, .inl p3), (4, .inl p4), (5, .inl p5), (6, .inl p6), (7, z_r 193)], [.inl x, .inl 0, z_r 193], zW T' (zwG G' q0) S2 n, 3, 18)
    refine z_go2 M.1 16 [(.i2l, 1), (.lastore, 1), (.goto 11, 3), (.iconst 0, 1)] (30, [(0, z_r 0), (1, .inl p1), (2, .inl p2), (3, .inl p3), (4, .inl p4), (5, .inl p5), (6, .inl p6), (7, z_r 193)], [.inl 0], zW T' (zwG G' q0) (z_uS S2 193 0 x) n, 3, 18) (by decide +kernel) rfl ⟨trivial, ⟨rfl, (show vp_in 0 1 by unfold vp_in; decide)⟩, trivial, trivial, trivial⟩ ?_
    exact z_iret M (by decide +kernel) .int rfl rfl (by decide) (by decide) ⟨n, q0, Nat.le_refl n, by rw [hF], by rw [hF]⟩
abbrev zm_L_narrow : z_Y := (⟨"TrackHouseLaw", "narrow", "(LTrackHouse;IIII)I"⟩, method_34_code, 6, some .int, [])
abbrev hh_L_narrow : List (Nat × Nat × Nat × Nat) := [(0, 9, 12, 13), (0, 9, 16, 15)]
def F_L_narrow (S : (Nat → Nat → Int32)) (p1 : Int32) (p2 : Int32) (p3 : Int32) (p4 : Int32) : Int32 × (Nat → Nat → Int32) := match F_T_narrow S p1 p2 p3 p4 with | (.inl E, S2) => ((if E = "java/lang/IndexOutOfBoundsException" then 1 else (if E = "java/lang/IllegalArgumentException" then 2 else 0)), S2) | (.inr (), S2) => (0, S2)
def Sf_L_narrow (S : (Nat → Nat → Int32)) (p1 : Int32) (p2 : Int32) (p3 : Int32) (p4 : Int32) : Prop := (∀ E S2, F_T_narrow S p1 p2 p3 p4 = (.inl E, S2) → E = "java/lang/IndexOutOfBoundsException" ∨ E = "java/lang/IllegalArgumentException")
abbrev rm_L_narrow : Room := { frames := 8, cells := 2, slots := 12, locals := 480 }
theorem c_L_narrow (T' : Nat → Nat × Nat) (G' : Nat → Nat → Option Nat) (q0 : Nat) (S : (Nat → Nat → Int32)) (n : Nat) (p1 : Int32) (p2 : Int32) (p3 : Int32) (p4 : Int32) (hs : Sf_L_narrow S p1 p2 p3 p4) : z_RunH rm_L_narrow zm_L_narrow hh_L_narrow [z_r 0, .inl p1, .inl p2, .inl p3, .inl p4] (zW T' (zwG G' q0) S n) (fun v w' => ∃ n2 q, n ≤ n2 ∧ v = some (.inl (F_L_narrow S p1 p2 p3 p4).1 : z_V) ∧ w' = zW T' (zwG G' q) (F_L_narrow S p1 p2 p3 p4).2 n2) := by
  refine z_bodyH (by decide) (fun q h => nomatch h) (Nat.le_of_ble_eq_true rfl) (fun X M TB => ?_)
  have hE := hs
  show z_G X zm_L_narrow (0, [(0, z_r 0), (1, .inl p1), (2, .inl p2), (3, .inl p3), (4, .inl p4)], [], zW T' (zwG G' q0) S n, 0, 0)
  refine z_go2 M.1 0 [(.aload_n 0, 1), (.iload_n 1, 1), (.iload_n 2, 1), (.iload_n 3, 1), (.iload 4, 2)] (6, [(0, z_r 0), (1, .inl p1), (2, .inl p2), (3, .inl p3), (4, .inl p4)], [.inl p4, .inl p3, .inl p2, .inl p1, z_r 0], zW T' (zwG G' q0) S n, 0, 0) (by decide +kernel) rfl ⟨trivial, trivial, trivial, trivial, trivial, trivial⟩ ?_
  refine z_callVX M.1 (av := [.inl p1, .inl p2, .inl p3, .inl p4]) (st := []) (a := 0) (ci := 11) (by decide +kernel) (c_T_narrow T' (zwG G' q0) S n p1 p2 p3 p4) M.2.1 zl_L_117 (z_wi 1430 (by decide +kernel) rfl) zv_T_narrow rfl rfl rfl ⟨by decide, by decide, by decide, by decide⟩ rfl (Nat.le_of_ble_eq_true rfl) (fun E w' hx => ?_) (fun v w' hv => ?_)
  · obtain ⟨S2, n2, hn2, h0, rfl⟩ := hx
    have hEE := hE _ _ h0
    have hF : F_L_narrow S p1 p2 p3 p4 = ((if E = "java/lang/IndexOutOfBoundsException" then 1 else (if E = "java/lang/IllegalArgumentException" then 2 else 0)), S2) := by unfold F_L_narrow; rw [h0]
    rcases hEE with rfl | rfl
    · refine z_catch M.1 TB [] [(0, 9, 16, 15)] 0 9 12 13 rfl (fun z hz => nomatch hz) (by decide) (by decide) (z_wi 685 (by decide +kernel) rfl) (z_ni 703 (by decide +kernel) rfl) (i := 5) (Or.inl (by decide +kernel)) (by decide) (fun g hg => ?_)
      have KK : z_G X zm_L_narrow (14, [], [], zW T' (zwG G' q0) S2 n2, 2, 12) := by
        refine z_go2 M.1 14 [(.iconst 1, 1)] (15, [], [.inl 1], zW T' (zwG G' q0) S2 n2, 2, 12) (by decide +kernel) rfl ⟨trivial, trivial⟩ ?_
        exact z_iret M (by decide +kernel) .int rfl rfl (by decide) (by decide) ⟨n2, q0, hn2, by rw [hF]; simp, by rw [hF]⟩
      rcases hg with ⟨rfl, -⟩ | ⟨rfl, kk, h9⟩
      · exact KK
      · exact absurd (h9.symm.trans (show decode zm_L_narrow.2.1 12 = .ok (.astore 5, 2) by decide +kernel)) (by simp)
    · refine z_catch M.1 TB [(0, 9, 12, 13)] [] 0 9 16 15 rfl (fun z hz => by obtain rfl := List.mem_singleton.mp hz; exact ⟨by decide, "java/lang/IndexOutOfBoundsException", z_wi 685 (by decide +kernel) rfl, by simp [z_NC]⟩) (by decide) (by decide) (z_wi 686 (by decide +kernel) rfl) (z_ni 777 (by decide +kernel) rfl) (i := 5) (Or.inl (by decide +kernel)) (by decide) (fun g hg => ?_)
      have KK : z_G X zm_L_narrow (18, [], [], zW T' (zwG G' q0) S2 n2, 2, 12) := by
        refine z_go2 M.1 18 [(.iconst 2, 1)] (19, [], [.inl 2], zW T' (zwG G' q0) S2 n2, 2, 12) (by decide +kernel) rfl ⟨trivial, trivial⟩ ?_
        exact z_iret M (by decide +kernel) .int rfl rfl (by decide) (by decide) ⟨n2, q0, hn2, by rw [hF]; simp, by rw [hF]⟩
      rcases hg with ⟨rfl, -⟩ | ⟨rfl, kk, h9⟩
      · exact KK
      · exact absurd (h9.symm.trans (show decode zm_L_narrow.2.1 16 = .ok (.astore 5, 2) by decide +kernel)) (by simp)
  · obtain ⟨S2, h0, rfl, rfl⟩ := hv
    have hF : F_L_narrow S p1 p2 p3 p4 = (0, S2) := by unfold F_L_narrow; rw [h0]
    show z_G X zm_L_narrow (9, [(0, z_r 0), (1, .inl p1), (2, .inl p2), (3, .inl p3), (4, .inl p4)], [], zW T' (zwG G' q0) S2 n, 2, 12)
    refine z_go2 M.1 9 [(.goto 11, 3), (.iconst 0, 1)] (21, [(0, z_r 0), (1, .inl p1), (2, .inl p2), (3, .inl p3), (4, .inl p4)], [.inl 0], zW T' (zwG G' q0) S2 n, 2, 12) (by decide +kernel) rfl ⟨trivial, trivial, trivial⟩ ?_
    exact z_iret M (by decide +kernel) .int rfl rfl (by decide) (by decide) ⟨n, q0, Nat.le_refl n, by rw [hF], by rw [hF]⟩
abbrev zm_L_goal : z_Y := (⟨"TrackHouseLaw", "goal", "(LTrackHouse;IIII[J)I"⟩, method_35_code, 7, some .int, [])
abbrev hh_L_goal : List (Nat × Nat × Nat × Nat) := [(0, 14, 17, 13), (0, 14, 21, 15)]
def F_L_goal (S : (Nat → Nat → Int32)) (p1 : Int32) (p2 : Int32) (p3 : Int32) (p4 : Int32) : Int32 × (Nat → Nat → Int32) := match F_T_goal S p1 p2 p3 p4 with | (.inl E, S2) => ((if E = "java/lang/IndexOutOfBoundsException" then 1 else (if E = "java/lang/IllegalArgumentException" then 2 else 0)), S2) | (.inr x, S2) => (0, z_uS S2 193 0 x)
def Sf_L_goal (S : (Nat → Nat → Int32)) (p1 : Int32) (p2 : Int32) (p3 : Int32) (p4 : Int32) : Prop := (∀ E S2, F_T_goal S p1 p2 p3 p4 = (.inl E, S2) → E = "java/lang/IndexOutOfBoundsException" ∨ E = "java/lang/IllegalArgumentException")
abbrev rm_L_goal : Room := { frames := 8, cells := 2, slots := 12, locals := 480 }
theorem c_L_goal (T' : Nat → Nat × Nat) (G' : Nat → Nat → Option Nat) (q0 : Nat) (S : (Nat → Nat → Int32)) (n : Nat) (p1 : Int32) (p2 : Int32) (p3 : Int32) (p4 : Int32) (hs : Sf_L_goal S p1 p2 p3 p4) : z_RunH rm_L_goal zm_L_goal hh_L_goal [z_r 0, .inl p1, .inl p2, .inl p3, .inl p4, z_r 193] (zW T' (zwG G' q0) S n) (fun v w' => ∃ n2 q, n ≤ n2 ∧ v = some (.inl (F_L_goal S p1 p2 p3 p4).1 : z_V) ∧ w' = zW T' (zwG G' q) (F_L_goal S p1 p2 p3 p4).2 n2) := by
  refine z_bodyH (by decide) (fun q h => nomatch h) (Nat.le_of_ble_eq_true rfl) (fun X M TB => ?_)
  have hE := hs
  show z_G X zm_L_goal (0, [(0, z_r 0), (1, .inl p1), (2, .inl p2), (3, .inl p3), (4, .inl p4), (5, z_r 193)], [], zW T' (zwG G' q0) S n, 0, 0)
  refine z_go2 M.1 0 [(.aload 5, 2), (.iconst 0, 1), (.aload_n 0, 1), (.iload_n 1, 1), (.iload_n 2, 1), (.iload_n 3, 1), (.iload 4, 2)] (9, [(0, z_r 0), (1, .inl p1), (2, .inl p2), (3, .inl p3), (4, .inl p4), (5, z_r 193)], [.inl p4, .inl p3, .inl p2, .inl p1, z_r 0, .inl 0, z_r 193], zW T' (zwG G' q0) S n, 0, 0) (by decide +kernel) rfl ⟨trivial, trivial, trivial, trivial, trivial, trivial, trivial, trivial⟩ ?_
  refine z_callVX M.1 (av := [.inl p1, .inl p2, .inl p3, .inl p4]) (st := [.inl 0, z_r 193]) (a := 0) (ci := 11) (by decide +kernel) (c_T_goal T' (zwG G' q0) S n p1 p2 p3 p4) M.2.1 zl_L_120 (z_wi 1437 (by decide +kernel) rfl) zv_T_goal rfl rfl rfl ⟨by decide, by decide, by decide, by decide⟩ rfl (Nat.le_of_ble_eq_true rfl) (fun E w' hx => ?_) (fun v w' hv => ?_)
  · obtain ⟨S2, n2, hn2, h0, rfl⟩ := hx
    have hEE := hE _ _ h0
    have hF : F_L_goal S p1 p2 p3 p4 = ((if E = "java/lang/IndexOutOfBoundsException" then 1 else (if E = "java/lang/IllegalArgumentException" then 2 else 0)), S2) := by unfold F_L_goal; rw [h0]
    rcases hEE with rfl | rfl
    · refine z_catch M.1 TB [] [(0, 14, 21, 15)] 0 14 17 13 rfl (fun z hz => nomatch hz) (by decide) (by decide) (z_wi 685 (by decide +kernel) rfl) (z_ni 703 (by decide +kernel) rfl) (i := 6) (Or.inl (by decide +kernel)) (by decide) (fun g hg => ?_)
      have KK : z_G X zm_L_goal (19, [], [], zW T' (zwG G' q0) S2 n2, 2, 12) := by
        refine z_go2 M.1 19 [(.iconst 1, 1)] (20, [], [.inl 1], zW T' (zwG G' q0) S2 n2, 2, 12) (by decide +kernel) rfl ⟨trivial, trivial⟩ ?_
        exact z_iret M (by decide +kernel) .int rfl rfl (by decide) (by decide) ⟨n2, q0, hn2, by rw [hF]; simp, by rw [hF]⟩
      rcases hg with ⟨rfl, -⟩ | ⟨rfl, kk, h9⟩
      · exact KK
      · exact absurd (h9.symm.trans (show decode zm_L_goal.2.1 17 = .ok (.astore 6, 2) by decide +kernel)) (by simp)
    · refine z_catch M.1 TB [(0, 14, 17, 13)] [] 0 14 21 15 rfl (fun z hz => by obtain rfl := List.mem_singleton.mp hz; exact ⟨by decide, "java/lang/IndexOutOfBoundsException", z_wi 685 (by decide +kernel) rfl, by simp [z_NC]⟩) (by decide) (by decide) (z_wi 686 (by decide +kernel) rfl) (z_ni 777 (by decide +kernel) rfl) (i := 6) (Or.inl (by decide +kernel)) (by decide) (fun g hg => ?_)
      have KK : z_G X zm_L_goal (23, [], [], zW T' (zwG G' q0) S2 n2, 2, 12) := by
        refine z_go2 M.1 23 [(.iconst 2, 1)] (24, [], [.inl 2], zW T' (zwG G' q0) S2 n2, 2, 12) (by decide +kernel) rfl ⟨trivial, trivial⟩ ?_
        exact z_iret M (by decide +kernel) .int rfl rfl (by decide) (by decide) ⟨n2, q0, hn2, by rw [hF]; simp, by rw [hF]⟩
      rcases hg with ⟨rfl, -⟩ | ⟨rfl, kk, h9⟩
      · exact KK
      · exact absurd (h9.symm.trans (show decode zm_L_goal.2.1 21 = .ok (.astore 6, 2) by decide +kernel)) (by simp)
  · obtain ⟨x, S2, h0, rfl, rfl⟩ := hv
    have hF : F_L_goal S p1 p2 p3 p4 = (0, z_uS S2 193 0 x) := by unfold F_L_goal; rw [h0]
    show z_G X zm_L_goal (12, [(0, z_r 0), (1, .inl p1), (2, .inl p2), (3, .inl p3), (4, .inl p4), (5, z_r 193)], [.inl x, .inl 0, z_r 193], zW T' (zwG G' q0) S2 n, 2, 12)
    refine z_go2 M.1 12 [(.i2l, 1), (.lastore, 1), (.goto 11, 3), (.iconst 0, 1)] (26, [(0, z_r 0), (1, .inl p1), (2, .inl p2), (3, .inl p3), (4, .inl p4), (5, z_r 193)], [.inl 0], zW T' (zwG G' q0) (z_uS S2 193 0 x) n, 2, 12) (by decide +kernel) rfl ⟨trivial, ⟨rfl, (show vp_in 0 1 by unfold vp_in; decide)⟩, trivial, trivial, trivial⟩ ?_
    exact z_iret M (by decide +kernel) .int rfl rfl (by decide) (by decide) ⟨n, q0, Nat.le_refl n, by rw [hF], by rw [hF]⟩
abbrev zm_L_left : z_Y := (⟨"TrackHouseLaw", "left", "(LTrackHouse;I[J)I"⟩, method_36_code, 4, some .int, [])
abbrev hh_L_left : List (Nat × Nat × Nat × Nat) := [(0, 9, 12, 13), (0, 9, 15, 17)]
def F_L_left (S : (Nat → Nat → Int32)) (p1 : Int32) : Int32 × (Nat → Nat → Int32) := match F_T_left S p1 with | (.inl E, S2) => ((if E = "java/lang/IndexOutOfBoundsException" then 1 else (if E = "java/lang/IllegalStateException" then 2 else 0)), S2) | (.inr x, S2) => (0, z_uS S2 193 0 x)
def Sf_L_left (S : (Nat → Nat → Int32)) (p1 : Int32) : Prop := Sf_T_left S p1 ∧ (∀ E S2, F_T_left S p1 = (.inl E, S2) → E = "java/lang/IndexOutOfBoundsException" ∨ E = "java/lang/IllegalStateException")
abbrev rm_L_left : Room := { frames := 8, cells := 2, slots := 12, locals := 480 }
theorem c_L_left (T' : Nat → Nat × Nat) (G' : Nat → Nat → Option Nat) (q0 : Nat) (S : (Nat → Nat → Int32)) (n : Nat) (p1 : Int32) (hs : Sf_L_left S p1) : z_RunH rm_L_left zm_L_left hh_L_left [z_r 0, .inl p1, z_r 193] (zW T' (zwG G' q0) S n) (fun v w' => ∃ n2 q, n ≤ n2 ∧ v = some (.inl (F_L_left S p1).1 : z_V) ∧ w' = zW T' (zwG G' q) (F_L_left S p1).2 n2) := by
  refine z_bodyH (by decide) (fun q h => nomatch h) (Nat.le_of_ble_eq_true rfl) (fun X M TB => ?_)
  obtain ⟨hs, hE⟩ := hs
  show z_G X zm_L_left (0, [(0, z_r 0), (1, .inl p1), (2, z_r 193)], [], zW T' (zwG G' q0) S n, 0, 0)
  refine z_go2 M.1 0 [(.aload_n 2, 1), (.iconst 0, 1), (.aload_n 0, 1), (.iload_n 1, 1)] (4, [(0, z_r 0), (1, .inl p1), (2, z_r 193)], [.inl p1, z_r 0, .inl 0, z_r 193], zW T' (zwG G' q0) S n, 0, 0) (by decide +kernel) rfl ⟨trivial, trivial, trivial, trivial, trivial⟩ ?_
  refine z_callVX M.1 (av := [.inl p1]) (st := [.inl 0, z_r 193]) (a := 0) (ci := 11) (by decide +kernel) (c_T_left T' (zwG G' q0) S n p1 hs) M.2.1 zl_L_123 (z_wi 1444 (by decide +kernel) rfl) zv_T_left rfl rfl rfl ⟨by decide, by decide, by decide, by decide⟩ rfl (Nat.le_of_ble_eq_true rfl) (fun E w' hx => ?_) (fun v w' hv => ?_)
  · obtain ⟨S2, n2, hn2, h0, rfl⟩ := hx
    have hEE := hE _ _ h0
    have hF : F_L_left S p1 = ((if E = "java/lang/IndexOutOfBoundsException" then 1 else (if E = "java/lang/IllegalStateException" then 2 else 0)), S2) := by unfold F_L_left; rw [h0]
    rcases hEE with rfl | rfl
    · refine z_catch M.1 TB [] [(0, 9, 15, 17)] 0 9 12 13 rfl (fun z hz => nomatch hz) (by decide) (by decide) (z_wi 685 (by decide +kernel) rfl) (z_ni 703 (by decide +kernel) rfl) (i := 3) (Or.inr ⟨3, rfl, by decide +kernel⟩) (by decide) (fun g hg => ?_)
      have KK : z_G X zm_L_left (13, [], [], zW T' (zwG G' q0) S2 n2, 2, 12) := by
        refine z_go2 M.1 13 [(.iconst 1, 1)] (14, [], [.inl 1], zW T' (zwG G' q0) S2 n2, 2, 12) (by decide +kernel) rfl ⟨trivial, trivial⟩ ?_
        exact z_iret M (by decide +kernel) .int rfl rfl (by decide) (by decide) ⟨n2, q0, hn2, by rw [hF]; simp, by rw [hF]⟩
      rcases hg with ⟨rfl, h9⟩ | ⟨rfl, -⟩
      · exact absurd (h9.symm.trans (show decode zm_L_left.2.1 12 = .ok (.astore_n 3, 1) by decide +kernel)) (by simp)
      · exact KK
    · refine z_catch M.1 TB [(0, 9, 12, 13)] [] 0 9 15 17 rfl (fun z hz => by obtain rfl := List.mem_singleton.mp hz; exact ⟨by decide, "java/lang/IndexOutOfBoundsException", z_wi 685 (by decide +kernel) rfl, by simp [z_NC]⟩) (by decide) (by decide) (z_wi 687 (by decide +kernel) rfl) (z_ni 852 (by decide +kernel) rfl) (i := 3) (Or.inr ⟨3, rfl, by decide +kernel⟩) (by decide) (fun g hg => ?_)
      have KK : z_G X zm_L_left (16, [], [], zW T' (zwG G' q0) S2 n2, 2, 12) := by
        refine z_go2 M.1 16 [(.iconst 2, 1)] (17, [], [.inl 2], zW T' (zwG G' q0) S2 n2, 2, 12) (by decide +kernel) rfl ⟨trivial, trivial⟩ ?_
        exact z_iret M (by decide +kernel) .int rfl rfl (by decide) (by decide) ⟨n2, q0, hn2, by rw [hF]; simp, by rw [hF]⟩
      rcases hg with ⟨rfl, h9⟩ | ⟨rfl, -⟩
      · exact absurd (h9.symm.trans (show decode zm_L_left.2.1 15 = .ok (.astore_n 3, 1) by decide +kernel)) (by simp)
      · exact KK
  · obtain ⟨x, S2, h0, rfl, rfl⟩ := hv
    have hF : F_L_left S p1 = (0, z_uS S2 193 0 x) := by unfold F_L_left; rw [h0]
    show z_G X zm_L_left (7, [(0, z_r 0), (1, .inl p1), (2, z_r 193)], [.inl x, .inl 0, z_r 193], zW T' (zwG G' q0) S2 n, 2, 12)
    refine z_go2 M.1 7 [(.i2l, 1), (.lastore, 1), (.goto 9, 3), (.iconst 0, 1)] (19, [(0, z_r 0), (1, .inl p1), (2, z_r 193)], [.inl 0], zW T' (zwG G' q0) (z_uS S2 193 0 x) n, 2, 12) (by decide +kernel) rfl ⟨trivial, ⟨rfl, (show vp_in 0 1 by unfold vp_in; decide)⟩, trivial, trivial, trivial⟩ ?_
    exact z_iret M (by decide +kernel) .int rfl rfl (by decide) (by decide) ⟨n, q0, Nat.le_refl n, by rw [hF], by rw [hF]⟩
abbrev zm_L_breach : z_Y := (⟨"TrackHouseLaw", "breach", "(LTrackHouse;I[J)I"⟩, method_37_code, 4, some .int, [])
abbrev hh_L_breach : List (Nat × Nat × Nat × Nat) := [(0, 9, 12, 13), (0, 9, 15, 17)]
def F_L_breach (S : (Nat → Nat → Int32)) (p1 : Int32) : Int32 × (Nat → Nat → Int32) := match F_T_breach S p1 with | (.inl E, S2) => ((if E = "java/lang/IndexOutOfBoundsException" then 1 else (if E = "java/lang/IllegalStateException" then 2 else 0)), S2) | (.inr x, S2) => (0, z_uS S2 193 0 x)
def Sf_L_breach (S : (Nat → Nat → Int32)) (p1 : Int32) : Prop := Sf_T_breach S p1 ∧ (∀ E S2, F_T_breach S p1 = (.inl E, S2) → E = "java/lang/IndexOutOfBoundsException" ∨ E = "java/lang/IllegalStateException")
abbrev rm_L_breach : Room := { frames := 8, cells := 2, slots := 12, locals := 480 }
theorem c_L_breach (T' : Nat → Nat × Nat) (G' : Nat → Nat → Option Nat) (q0 : Nat) (S : (Nat → Nat → Int32)) (n : Nat) (p1 : Int32) (hs : Sf_L_breach S p1) : z_RunH rm_L_breach zm_L_breach hh_L_breach [z_r 0, .inl p1, z_r 193] (zW T' (zwG G' q0) S n) (fun v w' => ∃ n2 q, n ≤ n2 ∧ v = some (.inl (F_L_breach S p1).1 : z_V) ∧ w' = zW T' (zwG G' q) (F_L_breach S p1).2 n2) := by
  refine z_bodyH (by decide) (fun q h => nomatch h) (Nat.le_of_ble_eq_true rfl) (fun X M TB => ?_)
  obtain ⟨hs, hE⟩ := hs
  show z_G X zm_L_breach (0, [(0, z_r 0), (1, .inl p1), (2, z_r 193)], [], zW T' (zwG G' q0) S n, 0, 0)
  refine z_go2 M.1 0 [(.aload_n 2, 1), (.iconst 0, 1), (.aload_n 0, 1), (.iload_n 1, 1)] (4, [(0, z_r 0), (1, .inl p1), (2, z_r 193)], [.inl p1, z_r 0, .inl 0, z_r 193], zW T' (zwG G' q0) S n, 0, 0) (by decide +kernel) rfl ⟨trivial, trivial, trivial, trivial, trivial⟩ ?_
  refine z_callVX M.1 (av := [.inl p1]) (st := [.inl 0, z_r 193]) (a := 0) (ci := 11) (by decide +kernel) (c_T_breach T' (zwG G' q0) S n p1 hs) M.2.1 zl_L_126 (z_wi 1462 (by decide +kernel) rfl) zv_T_breach rfl rfl rfl ⟨by decide, by decide, by decide, by decide⟩ rfl (Nat.le_of_ble_eq_true rfl) (fun E w' hx => ?_) (fun v w' hv => ?_)
  · obtain ⟨S2, n2, hn2, h0, rfl⟩ := hx
    have hEE := hE _ _ h0
    have hF : F_L_breach S p1 = ((if E = "java/lang/IndexOutOfBoundsException" then 1 else (if E = "java/lang/IllegalStateException" then 2 else 0)), S2) := by unfold F_L_breach; rw [h0]
    rcases hEE with rfl | rfl
    · refine z_catch M.1 TB [] [(0, 9, 15, 17)] 0 9 12 13 rfl (fun z hz => nomatch hz) (by decide) (by decide) (z_wi 685 (by decide +kernel) rfl) (z_ni 703 (by decide +kernel) rfl) (i := 3) (Or.inr ⟨3, rfl, by decide +kernel⟩) (by decide) (fun g hg => ?_)
      have KK : z_G X zm_L_breach (13, [], [], zW T' (zwG G' q0) S2 n2, 2, 12) := by
        refine z_go2 M.1 13 [(.iconst 1, 1)] (14, [], [.inl 1], zW T' (zwG G' q0) S2 n2, 2, 12) (by decide +kernel) rfl ⟨trivial, trivial⟩ ?_
        exact z_iret M (by decide +kernel) .int rfl rfl (by decide) (by decide) ⟨n2, q0, hn2, by rw [hF]; simp, by rw [hF]⟩
      rcases hg with ⟨rfl, h9⟩ | ⟨rfl, -⟩
      · exact absurd (h9.symm.trans (show decode zm_L_breach.2.1 12 = .ok (.astore_n 3, 1) by decide +kernel)) (by simp)
      · exact KK
    · refine z_catch M.1 TB [(0, 9, 12, 13)] [] 0 9 15 17 rfl (fun z hz => by obtain rfl := List.mem_singleton.mp hz; exact ⟨by decide, "java/lang/IndexOutOfBoundsException", z_wi 685 (by decide +kernel) rfl, by simp [z_NC]⟩) (by decide) (by decide) (z_wi 687 (by decide +kernel) rfl) (z_ni 852 (by decide +kernel) rfl) (i := 3) (Or.inr ⟨3, rfl, by decide +kernel⟩) (by decide) (fun g hg => ?_)
      have KK : z_G X zm_L_breach (16, [], [], zW T' (zwG G' q0) S2 n2, 2, 12) := by
        refine z_go2 M.1 16 [(.iconst 2, 1)] (17, [], [.inl 2], zW T' (zwG G' q0) S2 n2, 2, 12) (by decide +kernel) rfl ⟨trivial, trivial⟩ ?_
        exact z_iret M (by decide +kernel) .int rfl rfl (by decide) (by decide) ⟨n2, q0, hn2, by rw [hF]; simp, by rw [hF]⟩
      rcases hg with ⟨rfl, h9⟩ | ⟨rfl, -⟩
      · exact absurd (h9.symm.trans (show decode zm_L_breach.2.1 15 = .ok (.astore_n 3, 1) by decide +kernel)) (by simp)
      · exact KK
  · obtain ⟨x, S2, h0, rfl, rfl⟩ := hv
    have hF : F_L_breach S p1 = (0, z_uS S2 193 0 x) := by unfold F_L_breach; rw [h0]
    show z_G X zm_L_breach (7, [(0, z_r 0), (1, .inl p1), (2, z_r 193)], [.inl x, .inl 0, z_r 193], zW T' (zwG G' q0) S2 n, 2, 12)
    refine z_go2 M.1 7 [(.i2l, 1), (.lastore, 1), (.goto 9, 3), (.iconst 0, 1)] (19, [(0, z_r 0), (1, .inl p1), (2, z_r 193)], [.inl 0], zW T' (zwG G' q0) (z_uS S2 193 0 x) n, 2, 12) (by decide +kernel) rfl ⟨trivial, ⟨rfl, (show vp_in 0 1 by unfold vp_in; decide)⟩, trivial, trivial, trivial⟩ ?_
    exact z_iret M (by decide +kernel) .int rfl rfl (by decide) (by decide) ⟨n, q0, Nat.le_refl n, by rw [hF], by rw [hF]⟩
abbrev zm_L_bulk : z_Y := (⟨"TrackHouseLaw", "bulk", "(LTrackHouse;III[J)I"⟩, method_38_code, 6, some .int, [])
abbrev hh_L_bulk : List (Nat × Nat × Nat × Nat) := [(0, 12, 15, 13), (0, 12, 19, 15), (0, 12, 23, 17)]
def F_L_bulk (S : (Nat → Nat → Int32)) (p1 : Int32) (p2 : Int32) (p3 : Int32) : Int32 × (Nat → Nat → Int32) := match F_T_bulk S p1 p2 p3 with | (.inl E, S2) => ((if E = "java/lang/IndexOutOfBoundsException" then 1 else (if E = "java/lang/IllegalArgumentException" then 2 else (if E = "java/lang/IllegalStateException" then 3 else 0))), S2) | (.inr x, S2) => (0, z_uS S2 193 0 x)
def Sf_L_bulk (S : (Nat → Nat → Int32)) (p1 : Int32) (p2 : Int32) (p3 : Int32) : Prop := Sf_T_bulk S p1 p2 p3 ∧ (∀ E S2, F_T_bulk S p1 p2 p3 = (.inl E, S2) → E = "java/lang/IndexOutOfBoundsException" ∨ E = "java/lang/IllegalArgumentException" ∨ E = "java/lang/IllegalStateException")
abbrev rm_L_bulk : Room := { frames := 8, cells := 4, slots := 24, locals := 480 }
theorem c_L_bulk (T' : Nat → Nat × Nat) (G' : Nat → Nat → Option Nat) (q0 : Nat) (S : (Nat → Nat → Int32)) (n : Nat) (p1 : Int32) (p2 : Int32) (p3 : Int32) (hs : Sf_L_bulk S p1 p2 p3) : z_RunH rm_L_bulk zm_L_bulk hh_L_bulk [z_r 0, .inl p1, .inl p2, .inl p3, z_r 193] (zW T' (zwG G' q0) S n) (fun v w' => ∃ n2 q, n ≤ n2 ∧ v = some (.inl (F_L_bulk S p1 p2 p3).1 : z_V) ∧ w' = zW T' (zwG G' q) (F_L_bulk S p1 p2 p3).2 n2) := by
  refine z_bodyH (by decide) (fun q h => nomatch h) (Nat.le_of_ble_eq_true rfl) (fun X M TB => ?_)
  obtain ⟨hs, hE⟩ := hs
  show z_G X zm_L_bulk (0, [(0, z_r 0), (1, .inl p1), (2, .inl p2), (3, .inl p3), (4, z_r 193)], [], zW T' (zwG G' q0) S n, 0, 0)
  refine z_go2 M.1 0 [(.aload 4, 2), (.iconst 0, 1), (.aload_n 0, 1), (.iload_n 1, 1), (.iload_n 2, 1), (.iload_n 3, 1)] (7, [(0, z_r 0), (1, .inl p1), (2, .inl p2), (3, .inl p3), (4, z_r 193)], [.inl p3, .inl p2, .inl p1, z_r 0, .inl 0, z_r 193], zW T' (zwG G' q0) S n, 0, 0) (by decide +kernel) rfl ⟨trivial, trivial, trivial, trivial, trivial, trivial, trivial⟩ ?_
  refine z_callVX M.1 (av := [.inl p1, .inl p2, .inl p3]) (st := [.inl 0, z_r 193]) (a := 0) (ci := 11) (by decide +kernel) (c_T_bulk T' G' q0 S n p1 p2 p3 hs) M.2.1 zl_L_129 (z_wi 1473 (by decide +kernel) rfl) zv_T_bulk rfl rfl rfl ⟨by decide, by decide, by decide, by decide⟩ rfl (Nat.le_of_ble_eq_true rfl) (fun E w' hx => ?_) (fun v w' hv => ?_)
  · obtain ⟨S2, n2, q, hn2, h0, rfl⟩ := hx
    have hEE := hE _ _ h0
    have hF : F_L_bulk S p1 p2 p3 = ((if E = "java/lang/IndexOutOfBoundsException" then 1 else (if E = "java/lang/IllegalArgumentException" then 2 else (if E = "java/lang/IllegalStateException" then 3 else 0))), S2) := by unfold F_L_bulk; rw [h0]
    rcases hEE with rfl | rfl | rfl
    · refine z_catch M.1 TB [] [(0, 12, 19, 15), (0, 12, 23, 17)] 0 12 15 13 rfl (fun z hz => nomatch hz) (by decide) (by decide) (z_wi 685 (by decide +kernel) rfl) (z_ni 703 (by decide +kernel) rfl) (i := 5) (Or.inl (by decide +kernel)) (by decide) (fun g hg => ?_)
      have KK : z_G X zm_L_bulk (17, [], [], zW T' (zwG G' q) S2 n2, 4, 24) := by
        refine z_go2 M.1 17 [(.iconst 1, 1)] (18, [], [.inl 1], zW T' (zwG G' q) S2 n2, 4, 24) (by decide +kernel) rfl ⟨trivial, trivial⟩ ?_
        exact z_iret M (by decide +kernel) .int rfl rfl (by decide) (by decide) ⟨n2, q, hn2, by rw [hF]; simp, by rw [hF]⟩
      rcases hg with ⟨rfl, -⟩ | ⟨rfl, kk, h9⟩
      · exact KK
      · exact absurd (h9.symm.trans (show decode zm_L_bulk.2.1 15 = .ok (.astore 5, 2) by decide +kernel)) (by simp)
    · refine z_catch M.1 TB [(0, 12, 15, 13)] [(0, 12, 23, 17)] 0 12 19 15 rfl (fun z hz => by obtain rfl := List.mem_singleton.mp hz; exact ⟨by decide, "java/lang/IndexOutOfBoundsException", z_wi 685 (by decide +kernel) rfl, by simp [z_NC]⟩) (by decide) (by decide) (z_wi 686 (by decide +kernel) rfl) (z_ni 777 (by decide +kernel) rfl) (i := 5) (Or.inl (by decide +kernel)) (by decide) (fun g hg => ?_)
      have KK : z_G X zm_L_bulk (21, [], [], zW T' (zwG G' q) S2 n2, 4, 24) := by
        refine z_go2 M.1 21 [(.iconst 2, 1)] (22, [], [.inl 2], zW T' (zwG G' q) S2 n2, 4, 24) (by decide +kernel) rfl ⟨trivial, trivial⟩ ?_
        exact z_iret M (by decide +kernel) .int rfl rfl (by decide) (by decide) ⟨n2, q, hn2, by rw [hF]; simp, by rw [hF]⟩
      rcases hg with ⟨rfl, -⟩ | ⟨rfl, kk, h9⟩
      · exact KK
      · exact absurd (h9.symm.trans (show decode zm_L_bulk.2.1 19 = .ok (.astore 5, 2) by decide +kernel)) (by simp)
    · refine z_catch M.1 TB [(0, 12, 15, 13), (0, 12, 19, 15)] [] 0 12 23 17 rfl (fun z hz => by rcases List.mem_cons.mp hz with rfl | hz; exact ⟨by decide, "java/lang/IndexOutOfBoundsException", z_wi 685 (by decide +kernel) rfl, by simp [z_NC]⟩; obtain rfl := List.mem_singleton.mp hz; exact ⟨by decide, "java/lang/IllegalArgumentException", z_wi 686 (by decide +kernel) rfl, by simp [z_NC]⟩) (by decide) (by decide) (z_wi 687 (by decide +kernel) rfl) (z_ni 852 (by decide +kernel) rfl) (i := 5) (Or.inl (by decide +kernel)) (by decide) (fun g hg => ?_)
      have KK : z_G X zm_L_bulk (25, [], [], zW T' (zwG G' q) S2 n2, 4, 24) := by
        refine z_go2 M.1 25 [(.iconst 3, 1)] (26, [], [.inl 3], zW T' (zwG G' q) S2 n2, 4, 24) (by decide +kernel) rfl ⟨trivial, trivial⟩ ?_
        exact z_iret M (by decide +kernel) .int rfl rfl (by decide) (by decide) ⟨n2, q, hn2, by rw [hF]; simp, by rw [hF]⟩
      rcases hg with ⟨rfl, -⟩ | ⟨rfl, kk, h9⟩
      · exact KK
      · exact absurd (h9.symm.trans (show decode zm_L_bulk.2.1 23 = .ok (.astore 5, 2) by decide +kernel)) (by simp)
  · obtain ⟨x, S2, q, h0, rfl, rfl⟩ := hv
    have hF : F_L_bulk S p1 p2 p3 = (0, z_uS S2 193 0 x) := by unfold F_L_bulk; rw [h0]
    show z_G X zm_L_bulk (10, [(0, z_r 0), (1, .inl p1), (2, .inl p2), (3, .inl p3), (4, z_r 193)], [.inl x, .inl 0, z_r 193], zW T' (zwG G' q) S2 n, 4, 24)
    refine z_go2 M.1 10 [(.i2l, 1), (.lastore, 1), (.goto 15, 3), (.iconst 0, 1)] (28, [(0, z_r 0), (1, .inl p1), (2, .inl p2), (3, .inl p3), (4, z_r 193)], [.inl 0], zW T' (zwG G' q) (z_uS S2 193 0 x) n, 4, 24) (by decide +kernel) rfl ⟨trivial, ⟨rfl, (show vp_in 0 1 by unfold vp_in; decide)⟩, trivial, trivial, trivial⟩ ?_
    exact z_iret M (by decide +kernel) .int rfl rfl (by decide) (by decide) ⟨n, q, Nat.le_refl n, by rw [hF], by rw [hF]⟩
abbrev zm_L_unbulk : z_Y := (⟨"TrackHouseLaw", "unbulk", "(LTrackHouse;[J)I"⟩, method_39_code, 3, some .int, [])
abbrev hh_L_unbulk : List (Nat × Nat × Nat × Nat) := [(0, 8, 11, 17)]
def F_L_unbulk (S : (Nat → Nat → Int32)) : Int32 × (Nat → Nat → Int32) := match F_T_unbulk S with | (.inl E, S2) => ((if E = "java/lang/IllegalStateException" then 1 else 0), S2) | (.inr x, S2) => (0, z_uS S2 193 0 x)
def Sf_L_unbulk (S : (Nat → Nat → Int32)) : Prop := Sf_T_unbulk S ∧ (∀ E S2, F_T_unbulk S = (.inl E, S2) → E = "java/lang/IllegalStateException")
abbrev rm_L_unbulk : Room := { frames := 8, cells := 2, slots := 12, locals := 480 }
theorem c_L_unbulk (T' : Nat → Nat × Nat) (G' : Nat → Nat → Option Nat) (q0 : Nat) (S : (Nat → Nat → Int32)) (n : Nat) (hs : Sf_L_unbulk S) : z_RunH rm_L_unbulk zm_L_unbulk hh_L_unbulk [z_r 0, z_r 193] (zW T' (zwG G' q0) S n) (fun v w' => ∃ n2 q, n ≤ n2 ∧ v = some (.inl (F_L_unbulk S).1 : z_V) ∧ w' = zW T' (zwG G' q) (F_L_unbulk S).2 n2) := by
  refine z_bodyH (by decide) (fun q h => nomatch h) (Nat.le_of_ble_eq_true rfl) (fun X M TB => ?_)
  obtain ⟨hs, hE⟩ := hs
  show z_G X zm_L_unbulk (0, [(0, z_r 0), (1, z_r 193)], [], zW T' (zwG G' q0) S n, 0, 0)
  refine z_go2 M.1 0 [(.aload_n 1, 1), (.iconst 0, 1), (.aload_n 0, 1)] (3, [(0, z_r 0), (1, z_r 193)], [z_r 0, .inl 0, z_r 193], zW T' (zwG G' q0) S n, 0, 0) (by decide +kernel) rfl ⟨trivial, trivial, trivial, trivial⟩ ?_
  refine z_callVX M.1 (av := []) (st := [.inl 0, z_r 193]) (a := 0) (ci := 11) (by decide +kernel) (c_T_unbulk T' (zwG G' q0) S n hs) M.2.1 zl_L_132 (z_wi 1485 (by decide +kernel) rfl) zv_T_unbulk rfl rfl rfl ⟨by decide, by decide, by decide, by decide⟩ rfl (Nat.le_of_ble_eq_true rfl) (fun E w' hx => ?_) (fun v w' hv => ?_)
  · obtain ⟨S2, n2, hn2, h0, rfl⟩ := hx
    have hEE := hE _ _ h0
    have hF : F_L_unbulk S = ((if E = "java/lang/IllegalStateException" then 1 else 0), S2) := by unfold F_L_unbulk; rw [h0]
    subst hEE
    refine z_catch M.1 TB [] [] 0 8 11 17 rfl (fun z hz => nomatch hz) (by decide) (by decide) (z_wi 687 (by decide +kernel) rfl) (z_ni 852 (by decide +kernel) rfl) (i := 2) (Or.inr ⟨2, rfl, by decide +kernel⟩) (by decide) (fun g hg => ?_)
    have KK : z_G X zm_L_unbulk (12, [], [], zW T' (zwG G' q0) S2 n2, 2, 12) := by
      refine z_go2 M.1 12 [(.iconst 1, 1)] (13, [], [.inl 1], zW T' (zwG G' q0) S2 n2, 2, 12) (by decide +kernel) rfl ⟨trivial, trivial⟩ ?_
      exact z_iret M (by decide +kernel) .int rfl rfl (by decide) (by decide) ⟨n2, q0, hn2, by rw [hF]; simp, by rw [hF]⟩
    rcases hg with ⟨rfl, h9⟩ | ⟨rfl, -⟩
    · exact absurd (h9.symm.trans (show decode zm_L_unbulk.2.1 11 = .ok (.astore_n 2, 1) by decide +kernel)) (by simp)
    · exact KK
  · obtain ⟨x, S2, h0, rfl, rfl⟩ := hv
    have hF : F_L_unbulk S = (0, z_uS S2 193 0 x) := by unfold F_L_unbulk; rw [h0]
    show z_G X zm_L_unbulk (6, [(0, z_r 0), (1, z_r 193)], [.inl x, .inl 0, z_r 193], zW T' (zwG G' q0) S2 n, 2, 12)
    refine z_go2 M.1 6 [(.i2l, 1), (.lastore, 1), (.goto 6, 3), (.iconst 0, 1)] (15, [(0, z_r 0), (1, z_r 193)], [.inl 0], zW T' (zwG G' q0) (z_uS S2 193 0 x) n, 2, 12) (by decide +kernel) rfl ⟨trivial, ⟨rfl, (show vp_in 0 1 by unfold vp_in; decide)⟩, trivial, trivial, trivial⟩ ?_
    exact z_iret M (by decide +kernel) .int rfl rfl (by decide) (by decide) ⟨n, q0, Nat.le_refl n, by rw [hF], by rw [hF]⟩
abbrev zm_L_unite : z_Y := (⟨"TrackHouseLaw", "unite", "(LTrackHouse;II[J)I"⟩, method_40_code, 5, some .int, [])
abbrev hh_L_unite : List (Nat × Nat × Nat × Nat) := [(0, 10, 13, 13), (0, 10, 17, 15), (0, 10, 21, 17)]
def F_L_unite (S : (Nat → Nat → Int32)) (p1 : Int32) (p2 : Int32) : Int32 × (Nat → Nat → Int32) := match F_T_unite S p1 p2 with | (.inl E, S2) => ((if E = "java/lang/IndexOutOfBoundsException" then 1 else (if E = "java/lang/IllegalArgumentException" then 2 else (if E = "java/lang/IllegalStateException" then 3 else 0))), S2) | (.inr x, S2) => (0, z_uS S2 193 0 x)
def Sf_L_unite (S : (Nat → Nat → Int32)) (p1 : Int32) (p2 : Int32) : Prop := Sf_T_unite S p1 p2 ∧ (∀ E S2, F_T_unite S p1 p2 = (.inl E, S2) → E = "java/lang/IndexOutOfBoundsException" ∨ E = "java/lang/IllegalArgumentException" ∨ E = "java/lang/IllegalStateException")
abbrev rm_L_unite : Room := { frames := 8, cells := 3, slots := 18, locals := 480 }
theorem c_L_unite (T' : Nat → Nat × Nat) (G' : Nat → Nat → Option Nat) (q0 : Nat) (S : (Nat → Nat → Int32)) (n : Nat) (p1 : Int32) (p2 : Int32) (hs : Sf_L_unite S p1 p2) : z_RunH rm_L_unite zm_L_unite hh_L_unite [z_r 0, .inl p1, .inl p2, z_r 193] (zW T' (zwG G' q0) S n) (fun v w' => ∃ n2 q, n ≤ n2 ∧ v = some (.inl (F_L_unite S p1 p2).1 : z_V) ∧ w' = zW T' (zwG G' q) (F_L_unite S p1 p2).2 n2) := by
  refine z_bodyH (by decide) (fun q h => nomatch h) (Nat.le_of_ble_eq_true rfl) (fun X M TB => ?_)
  obtain ⟨hs, hE⟩ := hs
  show z_G X zm_L_unite (0, [(0, z_r 0), (1, .inl p1), (2, .inl p2), (3, z_r 193)], [], zW T' (zwG G' q0) S n, 0, 0)
  refine z_go2 M.1 0 [(.aload_n 3, 1), (.iconst 0, 1), (.aload_n 0, 1), (.iload_n 1, 1), (.iload_n 2, 1)] (5, [(0, z_r 0), (1, .inl p1), (2, .inl p2), (3, z_r 193)], [.inl p2, .inl p1, z_r 0, .inl 0, z_r 193], zW T' (zwG G' q0) S n, 0, 0) (by decide +kernel) rfl ⟨trivial, trivial, trivial, trivial, trivial, trivial⟩ ?_
  refine z_callVX M.1 (av := [.inl p1, .inl p2]) (st := [.inl 0, z_r 193]) (a := 0) (ci := 11) (by decide +kernel) (c_T_unite T' (zwG G' q0) S n p1 p2 hs) M.2.1 zl_L_136 (z_wi 1492 (by decide +kernel) rfl) zv_T_unite rfl rfl rfl ⟨by decide, by decide, by decide, by decide⟩ rfl (Nat.le_of_ble_eq_true rfl) (fun E w' hx => ?_) (fun v w' hv => ?_)
  · obtain ⟨S2, n2, hn2, h0, rfl⟩ := hx
    have hEE := hE _ _ h0
    have hF : F_L_unite S p1 p2 = ((if E = "java/lang/IndexOutOfBoundsException" then 1 else (if E = "java/lang/IllegalArgumentException" then 2 else (if E = "java/lang/IllegalStateException" then 3 else 0))), S2) := by unfold F_L_unite; rw [h0]
    rcases hEE with rfl | rfl | rfl
    · refine z_catch M.1 TB [] [(0, 10, 17, 15), (0, 10, 21, 17)] 0 10 13 13 rfl (fun z hz => nomatch hz) (by decide) (by decide) (z_wi 685 (by decide +kernel) rfl) (z_ni 703 (by decide +kernel) rfl) (i := 4) (Or.inl (by decide +kernel)) (by decide) (fun g hg => ?_)
      have KK : z_G X zm_L_unite (15, [], [], zW T' (zwG G' q0) S2 n2, 3, 18) := by
        refine z_go2 M.1 15 [(.iconst 1, 1)] (16, [], [.inl 1], zW T' (zwG G' q0) S2 n2, 3, 18) (by decide +kernel) rfl ⟨trivial, trivial⟩ ?_
        exact z_iret M (by decide +kernel) .int rfl rfl (by decide) (by decide) ⟨n2, q0, hn2, by rw [hF]; simp, by rw [hF]⟩
      rcases hg with ⟨rfl, -⟩ | ⟨rfl, kk, h9⟩
      · exact KK
      · exact absurd (h9.symm.trans (show decode zm_L_unite.2.1 13 = .ok (.astore 4, 2) by decide +kernel)) (by simp)
    · refine z_catch M.1 TB [(0, 10, 13, 13)] [(0, 10, 21, 17)] 0 10 17 15 rfl (fun z hz => by obtain rfl := List.mem_singleton.mp hz; exact ⟨by decide, "java/lang/IndexOutOfBoundsException", z_wi 685 (by decide +kernel) rfl, by simp [z_NC]⟩) (by decide) (by decide) (z_wi 686 (by decide +kernel) rfl) (z_ni 777 (by decide +kernel) rfl) (i := 4) (Or.inl (by decide +kernel)) (by decide) (fun g hg => ?_)
      have KK : z_G X zm_L_unite (19, [], [], zW T' (zwG G' q0) S2 n2, 3, 18) := by
        refine z_go2 M.1 19 [(.iconst 2, 1)] (20, [], [.inl 2], zW T' (zwG G' q0) S2 n2, 3, 18) (by decide +kernel) rfl ⟨trivial, trivial⟩ ?_
        exact z_iret M (by decide +kernel) .int rfl rfl (by decide) (by decide) ⟨n2, q0, hn2, by rw [hF]; simp, by rw [hF]⟩
      rcases hg with ⟨rfl, -⟩ | ⟨rfl, kk, h9⟩
      · exact KK
      · exact absurd (h9.symm.trans (show decode zm_L_unite.2.1 17 = .ok (.astore 4, 2) by decide +kernel)) (by simp)
    · refine z_catch M.1 TB [(0, 10, 13, 13), (0, 10, 17, 15)] [] 0 10 21 17 rfl (fun z hz => by rcases List.mem_cons.mp hz with rfl | hz; exact ⟨by decide, "java/lang/IndexOutOfBoundsException", z_wi 685 (by decide +kernel) rfl, by simp [z_NC]⟩; obtain rfl := List.mem_singleton.mp hz; exact ⟨by decide, "java/lang/IllegalArgumentException", z_wi 686 (by decide +kernel) rfl, by simp [z_NC]⟩) (by decide) (by decide) (z_wi 687 (by decide +kernel) rfl) (z_ni 852 (by decide +kernel) rfl) (i := 4) (Or.inl (by decide +kernel)) (by decide) (fun g hg => ?_)
      have KK : z_G X zm_L_unite (23, [], [], zW T' (zwG G' q0) S2 n2, 3, 18) := by
        refine z_go2 M.1 23 [(.iconst 3, 1)] (24, [], [.inl 3], zW T' (zwG G' q0) S2 n2, 3, 18) (by decide +kernel) rfl ⟨trivial, trivial⟩ ?_
        exact z_iret M (by decide +kernel) .int rfl rfl (by decide) (by decide) ⟨n2, q0, hn2, by rw [hF]; simp, by rw [hF]⟩
      rcases hg with ⟨rfl, -⟩ | ⟨rfl, kk, h9⟩
      · exact KK
      · exact absurd (h9.symm.trans (show decode zm_L_unite.2.1 21 = .ok (.astore 4, 2) by decide +kernel)) (by simp)
  · obtain ⟨x, S2, h0, rfl, rfl⟩ := hv
    have hF : F_L_unite S p1 p2 = (0, z_uS S2 193 0 x) := by unfold F_L_unite; rw [h0]
    show z_G X zm_L_unite (8, [(0, z_r 0), (1, .inl p1), (2, .inl p2), (3, z_r 193)], [.inl x, .inl 0, z_r 193], zW T' (zwG G' q0) S2 n, 3, 18)
    refine z_go2 M.1 8 [(.i2l, 1), (.lastore, 1), (.goto 15, 3), (.iconst 0, 1)] (26, [(0, z_r 0), (1, .inl p1), (2, .inl p2), (3, z_r 193)], [.inl 0], zW T' (zwG G' q0) (z_uS S2 193 0 x) n, 3, 18) (by decide +kernel) rfl ⟨trivial, ⟨rfl, (show vp_in 0 1 by unfold vp_in; decide)⟩, trivial, trivial, trivial⟩ ?_
    exact z_iret M (by decide +kernel) .int rfl rfl (by decide) (by decide) ⟨n, q0, Nat.le_refl n, by rw [hF], by rw [hF]⟩
abbrev zm_L_watch : z_Y := (⟨"TrackHouseLaw", "watch", "(LTrackHouse;II[J)I"⟩, method_41_code, 5, some .int, [])
abbrev hh_L_watch : List (Nat × Nat × Nat × Nat) := [(0, 17, 20, 13)]
def F_L_watch (S : (Nat → Nat → Int32)) (p1 : Int32) (p2 : Int32) : Int32 × (Nat → Nat → Int32) := match F_T_watch S p1 p2 with | (.inl E, S2) => ((if E = "java/lang/IndexOutOfBoundsException" then 1 else 0), S2) | (.inr x, S2) => (0, z_uS S2 193 0 (if x = 0 then 0 else 1))
def Sf_L_watch (S : (Nat → Nat → Int32)) (p1 : Int32) (p2 : Int32) : Prop := Sf_T_watch S p1 p2 ∧ (∀ E S2, F_T_watch S p1 p2 = (.inl E, S2) → E = "java/lang/IndexOutOfBoundsException")
abbrev rm_L_watch : Room := { frames := 8, cells := 1, slots := 6, locals := 480 }
theorem c_L_watch (T' : Nat → Nat × Nat) (G' : Nat → Nat → Option Nat) (q0 : Nat) (S : (Nat → Nat → Int32)) (n : Nat) (p1 : Int32) (p2 : Int32) (hs : Sf_L_watch S p1 p2) : z_RunH rm_L_watch zm_L_watch hh_L_watch [z_r 0, .inl p1, .inl p2, z_r 193] (zW T' (zwG G' q0) S n) (fun v w' => ∃ n2 q, n ≤ n2 ∧ v = some (.inl (F_L_watch S p1 p2).1 : z_V) ∧ w' = zW T' (zwG G' q) (F_L_watch S p1 p2).2 n2) := by
  refine z_bodyH (by decide) (fun q h => nomatch h) (Nat.le_of_ble_eq_true rfl) (fun X M TB => ?_)
  obtain ⟨hs, hE⟩ := hs
  show z_G X zm_L_watch (0, [(0, z_r 0), (1, .inl p1), (2, .inl p2), (3, z_r 193)], [], zW T' (zwG G' q0) S n, 0, 0)
  refine z_go2 M.1 0 [(.aload_n 3, 1), (.iconst 0, 1), (.aload_n 0, 1), (.iload_n 1, 1), (.iload_n 2, 1)] (5, [(0, z_r 0), (1, .inl p1), (2, .inl p2), (3, z_r 193)], [.inl p2, .inl p1, z_r 0, .inl 0, z_r 193], zW T' (zwG G' q0) S n, 0, 0) (by decide +kernel) rfl ⟨trivial, trivial, trivial, trivial, trivial, trivial⟩ ?_
  refine z_callVX M.1 (av := [.inl p1, .inl p2]) (st := [.inl 0, z_r 193]) (a := 0) (ci := 11) (by decide +kernel) (c_T_watch T' G' q0 S n p1 p2 hs) M.2.1 zl_L_139 (z_wi 1499 (by decide +kernel) rfl) zv_T_watch rfl rfl rfl ⟨by decide, by decide, by decide, by decide⟩ rfl (Nat.le_of_ble_eq_true rfl) (fun E w' hx => ?_) (fun v w' hv => ?_)
  · obtain ⟨S2, n2, q, hn2, h0, rfl⟩ := hx
    have hEE := hE _ _ h0
    have hF : F_L_watch S p1 p2 = ((if E = "java/lang/IndexOutOfBoundsException" then 1 else 0), S2) := by unfold F_L_watch; rw [h0]
    subst hEE
    refine z_catch M.1 TB [] [] 0 17 20 13 rfl (fun z hz => nomatch hz) (by decide) (by decide) (z_wi 685 (by decide +kernel) rfl) (z_ni 703 (by decide +kernel) rfl) (i := 4) (Or.inl (by decide +kernel)) (by decide) (fun g hg => ?_)
    have KK : z_G X zm_L_watch (22, [], [], zW T' (zwG G' q) S2 n2, 1, 6) := by
      refine z_go2 M.1 22 [(.iconst 1, 1)] (23, [], [.inl 1], zW T' (zwG G' q) S2 n2, 1, 6) (by decide +kernel) rfl ⟨trivial, trivial⟩ ?_
      exact z_iret M (by decide +kernel) .int rfl rfl (by decide) (by decide) ⟨n2, q, hn2, by rw [hF]; simp, by rw [hF]⟩
    rcases hg with ⟨rfl, -⟩ | ⟨rfl, kk, h9⟩
    · exact KK
    · exact absurd (h9.symm.trans (show decode zm_L_watch.2.1 20 = .ok (.astore 4, 2) by decide +kernel)) (by simp)
  · obtain ⟨x, S2, q, h0, rfl, rfl⟩ := hv
    have hF : F_L_watch S p1 p2 = (0, z_uS S2 193 0 (if x = 0 then 0 else 1)) := by unfold F_L_watch; rw [h0]
    show z_G X zm_L_watch (8, [(0, z_r 0), (1, .inl p1), (2, .inl p2), (3, z_r 193)], [.inl x, .inl 0, z_r 193], zW T' (zwG G' q) S2 n, 1, 6)
    refine z_if_eq 15 M.1 (off := 7) (by decide +kernel) (by decide) (fun c => ?_) (fun c => ?_)
    · refine z_go2 M.1 15 [(.lconst 0, 1), (.lastore, 1), (.goto 7, 3), (.iconst 0, 1)] (25, [(0, z_r 0), (1, .inl p1), (2, .inl p2), (3, z_r 193)], [.inl 0], zW T' (zwG G' q) (z_uS S2 193 0 0) n, 1, 6) (by decide +kernel) rfl ⟨trivial, ⟨rfl, (show vp_in 0 1 by unfold vp_in; decide)⟩, trivial, trivial, trivial⟩ ?_
      exact z_iret M (by decide +kernel) .int rfl rfl (by decide) (by decide) ⟨n, q, Nat.le_refl n, by rw [hF], by rw [hF]; simp only [if_pos c]⟩
    · refine z_go2 M.1 11 [(.lconst 1, 1), (.goto 4, 3), (.lastore, 1), (.goto 7, 3), (.iconst 0, 1)] (25, [(0, z_r 0), (1, .inl p1), (2, .inl p2), (3, z_r 193)], [.inl 0], zW T' (zwG G' q) (z_uS S2 193 0 1) n, 1, 6) (by decide +kernel) rfl ⟨trivial, trivial, ⟨rfl, (show vp_in 0 1 by unfold vp_in; decide)⟩, trivial, trivial, trivial⟩ ?_
      exact z_iret M (by decide +kernel) .int rfl rfl (by decide) (by decide) ⟨n, q, Nat.le_refl n, by rw [hF], by rw [hF]; simp only [if_neg c]⟩
abbrev zm_L_inbox : z_Y := (⟨"TrackHouseLaw", "inbox", "(LTrackHouse;I[J)I"⟩, method_42_code, 4, some .int, [])
abbrev hh_L_inbox : List (Nat × Nat × Nat × Nat) := [(0, 9, 12, 13)]
def F_L_inbox (S : (Nat → Nat → Int32)) (p1 : Int32) : Int32 × (Nat → Nat → Int32) := match F_T_inbox S p1 with | (.inl E, S2) => ((if E = "java/lang/IndexOutOfBoundsException" then 1 else 0), S2) | (.inr x, S2) => (0, z_uS S2 193 0 x)
def Sf_L_inbox (S : (Nat → Nat → Int32)) (p1 : Int32) : Prop := Sf_T_inbox S p1 ∧ (∀ E S2, F_T_inbox S p1 = (.inl E, S2) → E = "java/lang/IndexOutOfBoundsException")
abbrev rm_L_inbox : Room := { frames := 8, cells := 1, slots := 6, locals := 480 }
theorem c_L_inbox (T' : Nat → Nat × Nat) (G' : Nat → Nat → Option Nat) (q0 : Nat) (S : (Nat → Nat → Int32)) (n : Nat) (p1 : Int32) (hs : Sf_L_inbox S p1) : z_RunH rm_L_inbox zm_L_inbox hh_L_inbox [z_r 0, .inl p1, z_r 193] (zW T' (zwG G' q0) S n) (fun v w' => ∃ n2 q, n ≤ n2 ∧ v = some (.inl (F_L_inbox S p1).1 : z_V) ∧ w' = zW T' (zwG G' q) (F_L_inbox S p1).2 n2) := by
  refine z_bodyH (by decide) (fun q h => nomatch h) (Nat.le_of_ble_eq_true rfl) (fun X M TB => ?_)
  obtain ⟨hs, hE⟩ := hs
  show z_G X zm_L_inbox (0, [(0, z_r 0), (1, .inl p1), (2, z_r 193)], [], zW T' (zwG G' q0) S n, 0, 0)
  refine z_go2 M.1 0 [(.aload_n 2, 1), (.iconst 0, 1), (.aload_n 0, 1), (.iload_n 1, 1)] (4, [(0, z_r 0), (1, .inl p1), (2, z_r 193)], [.inl p1, z_r 0, .inl 0, z_r 193], zW T' (zwG G' q0) S n, 0, 0) (by decide +kernel) rfl ⟨trivial, trivial, trivial, trivial, trivial⟩ ?_
  refine z_callVX M.1 (av := [.inl p1]) (st := [.inl 0, z_r 193]) (a := 0) (ci := 11) (by decide +kernel) (c_T_inbox T' G' q0 S n p1 hs) M.2.1 zl_L_143 (z_wi 1506 (by decide +kernel) rfl) zv_T_inbox rfl rfl rfl ⟨by decide, by decide, by decide, by decide⟩ rfl (Nat.le_of_ble_eq_true rfl) (fun E w' hx => ?_) (fun v w' hv => ?_)
  · obtain ⟨S2, n2, q, hn2, h0, rfl⟩ := hx
    have hEE := hE _ _ h0
    have hF : F_L_inbox S p1 = ((if E = "java/lang/IndexOutOfBoundsException" then 1 else 0), S2) := by unfold F_L_inbox; rw [h0]
    subst hEE
    refine z_catch M.1 TB [] [] 0 9 12 13 rfl (fun z hz => nomatch hz) (by decide) (by decide) (z_wi 685 (by decide +kernel) rfl) (z_ni 703 (by decide +kernel) rfl) (i := 3) (Or.inr ⟨3, rfl, by decide +kernel⟩) (by decide) (fun g hg => ?_)
    have KK : z_G X zm_L_inbox (13, [], [], zW T' (zwG G' q) S2 n2, 1, 6) := by
      refine z_go2 M.1 13 [(.iconst 1, 1)] (14, [], [.inl 1], zW T' (zwG G' q) S2 n2, 1, 6) (by decide +kernel) rfl ⟨trivial, trivial⟩ ?_
      exact z_iret M (by decide +kernel) .int rfl rfl (by decide) (by decide) ⟨n2, q, hn2, by rw [hF]; simp, by rw [hF]⟩
    rcases hg with ⟨rfl, h9⟩ | ⟨rfl, -⟩
    · exact absurd (h9.symm.trans (show decode zm_L_inbox.2.1 12 = .ok (.astore_n 3, 1) by decide +kernel)) (by simp)
    · exact KK
  · obtain ⟨x, S2, q, h0, rfl, rfl⟩ := hv
    have hF : F_L_inbox S p1 = (0, z_uS S2 193 0 x) := by unfold F_L_inbox; rw [h0]
    show z_G X zm_L_inbox (7, [(0, z_r 0), (1, .inl p1), (2, z_r 193)], [.inl x, .inl 0, z_r 193], zW T' (zwG G' q) S2 n, 1, 6)
    refine z_go2 M.1 7 [(.i2l, 1), (.lastore, 1), (.goto 6, 3), (.iconst 0, 1)] (16, [(0, z_r 0), (1, .inl p1), (2, z_r 193)], [.inl 0], zW T' (zwG G' q) (z_uS S2 193 0 x) n, 1, 6) (by decide +kernel) rfl ⟨trivial, ⟨rfl, (show vp_in 0 1 by unfold vp_in; decide)⟩, trivial, trivial, trivial⟩ ?_
    exact z_iret M (by decide +kernel) .int rfl rfl (by decide) (by decide) ⟨n, q, Nat.le_refl n, by rw [hF], by rw [hF]⟩
