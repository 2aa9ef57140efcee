/-! THE CLAIM's WALK, but for what each call keeps -/
def R_law : String := "TrackHouseLaw"
def lw_P (b : Addr) (xs : List Int32) (args : Array Value) (s : State) : Prop := args = #[.ref b] ∧ s.IntsAt b xs ∧ xs.length ≤ 3584 ∧ (Jvm.Cond.and given_1 narrow_1).before args s = true
def lw_Q (_ : Array Value) (s : State) (o : Outcome) (t : State) : Prop := o = .returned (some (.int 1)) ∧ Framed s o t [] 601024 7293034
def lw_Z (below : List Frame) (a : Array Value) (s : State) : State → Prop := fun t => ∃ o, t.status = .running ∧ Ended t below o ∧ lw_Q a s o t
/-- the law's own end, with 1 on the stack, nothing written that was there before, its room as the claim has it -/
theorem lw_ret {p : Program} {l : Launch} {e : Env} {s : State} {m : MethodId} {below : List Frame} {meth : Method} {c : Code} {b : Nat} (hx : p.tables.exec = Jvm.exec) (hb : c.code = code) (hr : meth.sig.returnType = ret) (hlocks : meth.locks = false) {pc : Nat} {H : Heap} {ls : Array Slot} (hdg : decode code pc = .ok (.ireturn, 1)) : W p l e room_1 s m #[Value.ref b] below meth c H [] 601024 7293034 (lw_Z below #[Value.ref b] s) (F0 m pc ls [.int 1]) := by
  intro T hT X
  obtain ⟨fs, hret, hrun, hended, hW, hframe⟩ := X.leave (v := some (.int 1)) (hlocks := hlocks) (fun h => by rw [hr] at h; cases h)
  have hmeth' : T.vm.method? m = some meth := X.method'
  refine ⟨T.setFrames fs, ?_, .returned (some (.int 1)), hrun, hended, rfl, ⟨_, rfl⟩, hW, hframe⟩
  jvm_step X.here [X.here.top, hx, hb, hdg, hmeth', hr, ret, narrow_b1]
  (try refine ⟨rfl, ?_⟩); (try refine ⟨rfl, ?_⟩)
  first | (intro acts; rw [hret _ acts rfl rfl rfl]) | rw [hret _ _ rfl rfl rfl]
  exact Steps.refl _
theorem z_arrP {s : State} {args : Array Value} {ty : FieldType} (h : (Cond.arrayClass ty).before args s = true) (hp : ∀ (cA : ClassId), s.vm.findClass ("[" ++ ty.toString) = some cA → va_RA s cA ty) : ∃ cA : ClassId, ArrOfT s cA ty ∧ va_RA s cA ty := by
  obtain ⟨c, k, comp, h1, h2, h3⟩ := Cond.arrayClass_spec h
  exact ⟨c, fun n z => ⟨fun k h => (by cases h), k, h2, comp, h3⟩, hp c h1⟩
theorem z_arrO {s : State} {args : Array Value} {n : String} (h : (Cond.arrayOver (.object n)).before args s = true) : ∃ cA : ClassId, ArrOfT s cA (.object n) ∧ va_RA s cA (.object n) := by
  obtain ⟨comp, c, k, h1, -, h3, h4, h5⟩ := Cond.arrayOver_spec h
  exact ⟨c, fun n z => ⟨fun k h => (by cases h), k, h3, comp, h4⟩, k, comp, h3, h4, h1, h5⟩
set_option maxHeartbeats 4000000 in
theorem z_env_start {s : State} {b L : Nat} {xs : Nat → Int32} (hts : ∀ w ∈ lw_tbl, w.before #[Value.ref b] s = true) (hX : va_X b L xs s s.heap) (hbl : b < s.heap.size) (hgv : (Jvm.Cond.and given_1 narrow_1).before #[Value.ref b] s = true) : ∃ (D : va_G) (cA : Nat → ClassId), z_env D cA s.heap.size (b, L, xs) s s.heap := by
  have htw : ∀ w ∈ z_WB, w.before #[Value.ref b] s = true := fun w hw => hts w (List.mem_filter.mp hw).1
  have hs := flat_of_before _ hgv
  obtain ⟨c0, i0, k0⟩ := u_known (C := RX0) (T := TX0) (N := 5) (n := 5) htw (z_cls (ci := 0) rfl).2.2 (htw _ (z_wi 529 (by decide +kernel) rfl))
  obtain ⟨c1, i1, k1⟩ := u_known (C := RX1) (T := TX1) (N := 4) (n := 4) htw (z_cls (ci := 1) rfl).2.2 (htw _ (z_wi 257 (by decide +kernel) rfl))
  obtain ⟨c2, i2, k2⟩ := u_known (C := RX2) (T := TX2) (N := 5) (n := 5) htw (z_cls (ci := 2) rfl).2.2 (htw _ (z_wi 445 (by decide +kernel) rfl))
  obtain ⟨c3, i3, k3⟩ := u_known (C := RX3) (T := TX3) (N := 6) (n := 6) htw (z_cls (ci := 3) rfl).2.2 (htw _ (z_wi 352 (by decide +kernel) rfl))
  obtain ⟨c4, i4, k4⟩ := u_known (C := RX4) (T := TX4) (N := 8) (n := 8) htw (z_cls (ci := 4) rfl).2.2 (htw _ (z_wi 187 (by decide +kernel) rfl))
  obtain ⟨c5, i5, k5⟩ := u_known (C := RX5) (T := TX5) (N := 12) (n := 12) htw (z_cls (ci := 5) rfl).2.2 (htw _ (z_wi 263 (by decide +kernel) rfl))
  obtain ⟨c6, i6, k6⟩ := u_known (C := RX6) (T := TX6) (N := 3) (n := 3) htw (z_cls (ci := 6) rfl).2.2 (htw _ (z_wi 512 (by decide +kernel) rfl))
  obtain ⟨c7, i7, k7⟩ := u_known (C := RX7) (T := TX7) (N := 9) (n := 9) htw (z_cls (ci := 7) rfl).2.2 (htw _ (z_wi 471 (by decide +kernel) rfl))
  obtain ⟨c8, i8, k8⟩ := u_known (C := RX8) (T := TX8) (N := 10) (n := 10) htw (z_cls (ci := 8) rfl).2.2 (htw _ (z_wi 346 (by decide +kernel) rfl))
  obtain ⟨c9, i9, k9⟩ := u_known (C := RX9) (T := TX9) (N := 6) (n := 6) htw (z_cls (ci := 9) rfl).2.2 (htw _ (z_wi 313 (by decide +kernel) rfl))
  obtain ⟨c10, i10, k10⟩ := u_known (C := RX10) (T := TX10) (N := 4) (n := 4) htw (z_cls (ci := 10) rfl).2.2 (htw _ (z_wi 237 (by decide +kernel) rfl))
  obtain ⟨c11, i11, k11⟩ := u_known (C := RX11) (T := TX11) (N := 16) (n := 16) htw (z_cls (ci := 11) rfl).2.2 (htw _ (z_wi 179 (by decide +kernel) rfl))
  obtain ⟨c12, i12, k12⟩ := u_known (C := RX12) (T := TX12) (N := 9) (n := 9) htw (z_cls (ci := 12) rfl).2.2 (htw _ (z_wi 1573 (by decide +kernel) rfl))
  obtain ⟨c13, i13, k13⟩ := u_known (C := RX13) (T := TX13) (N := 12) (n := 12) htw (z_cls (ci := 13) rfl).2.2 (htw _ (z_wi 1517 (by decide +kernel) rfl))
  obtain ⟨c14, i14, k14⟩ := u_known (C := RX14) (T := TX14) (N := 62) (n := 62) htw (z_cls (ci := 14) rfl).2.2 (htw _ (z_wi 1511 (by decide +kernel) rfl))
  obtain ⟨a0, u0, v0⟩ := z_arrP (ty := .int) (hts _ (List.mem_of_getElem? (i := 235) (by decide +kernel))) (fun cA h => h)
  obtain ⟨a1, u1, v1⟩ := z_arrP (ty := .boolean) (hts _ (List.mem_of_getElem? (i := 1570) (by decide +kernel))) (fun cA h => h)
  obtain ⟨a2, u2, v2⟩ := z_arrP (ty := .char) (hts _ (List.mem_of_getElem? (i := 311) (by decide +kernel))) (fun cA h => h)
  obtain ⟨a3, u3, v3⟩ := z_arrP (ty := .long) (hts _ (List.mem_of_getElem? (i := 2274) (by decide +kernel))) (fun cA h => h)
  obtain ⟨a4, u4, v4⟩ := z_arrO (n := "TrackHouseModel$Flow") (hts _ (List.mem_of_getElem? (i := 1572) (by decide +kernel)))
  refine ⟨(fun k => [c0, c1, c2, c3, c4, c5, c6, c7, c8, c9, c10, c11, c12, c13, c14].getD k 0, fun k => [i0, i1, i2, i3, i4, i5, i6, i7, i8, i9, i10, i11, i12, i13, i14].getD k (fun _ => 0)), fun k => [a0, a1, a2, a3, a4].getD k 0, ⟨?_, ?_⟩, ?_, ?_, ?_, ?_, ?_, ?_, ?_⟩
  · intro k q hq
    match k, hq with
    | 0, hq => cases hq; exact k0
    | 1, hq => cases hq; exact k1
    | 2, hq => cases hq; exact k2
    | 3, hq => cases hq; exact k3
    | 4, hq => cases hq; exact k4
    | 5, hq => cases hq; exact k5
    | 6, hq => cases hq; exact k6
    | 7, hq => cases hq; exact k7
    | 8, hq => cases hq; exact k8
    | 9, hq => cases hq; exact k9
    | 10, hq => cases hq; exact k10
    | 11, hq => cases hq; exact k11
    | 12, hq => cases hq; exact k12
    | 13, hq => cases hq; exact k13
    | 14, hq => cases hq; exact k14
    | k + 15, hq => exact absurd hq (by simp)
  · intro k q hq
    match k, hq with
    | 0, hq => cases hq; exact ⟨u0, v0⟩
    | 1, hq => cases hq; exact ⟨u1, v1⟩
    | 2, hq => cases hq; exact ⟨u2, v2⟩
    | 3, hq => cases hq; exact ⟨u3, v3⟩
    | 4, hq => cases hq; exact ⟨u4, v4⟩
    | k + 5, hq => exact absurd hq (by simp [z_tys])
  · exact vx_Zqof (hts _ (List.mem_of_getElem? (i := 728) (by decide +kernel))) (hts _ (List.mem_of_getElem? (i := 169) (by decide +kernel))) (hs _ (by decide +kernel)) (fun a h => Nat.not_le.mpr h)
  · exact vx_Zqof (hts _ (List.mem_of_getElem? (i := 730) (by decide +kernel))) (hts _ (List.mem_of_getElem? (i := 169) (by decide +kernel))) (hs _ (by decide +kernel)) (fun a h => Nat.not_le.mpr h)
  · exact fun w hw => va_Nw.of (z_N_tab (List.mem_filter.mp hw).2) (hts w (List.mem_filter.mp hw).1)
  · intro q hq
    have hTH : s.vm.findClass "TrackHouse" = some c11 := k11.2.1
    rcases List.mem_cons.mp hq with rfl | hq
    · obtain ⟨k, cf, i, a, -, -, -, -, -, hev⟩ := Cond.stringRef_spec hTH (hts (.stringRef "TrackHouse" 402 "no such person, project, kind, item, rule, day or place") (List.mem_of_getElem? (i := 742) (by decide +kernel)))
      exact ⟨a, vk_R.of (hts (.stringRef "TrackHouse" 402 "no such person, project, kind, item, rule, day or place") (List.mem_of_getElem? (i := 742) (by decide +kernel))) hev⟩
    · rcases List.mem_cons.mp hq with rfl | hq
      · obtain ⟨k, cf, i, a, -, -, -, -, -, hev⟩ := Cond.stringRef_spec hTH (hts (.stringRef "TrackHouse" 409 "an argument is out of its range") (List.mem_of_getElem? (i := 784) (by decide +kernel)))
        exact ⟨a, vk_R.of (hts (.stringRef "TrackHouse" 409 "an argument is out of its range") (List.mem_of_getElem? (i := 784) (by decide +kernel))) hev⟩
      · obtain rfl := List.mem_singleton.mp hq
        obtain ⟨k, cf, i, a, -, -, -, -, -, hev⟩ := Cond.stringRef_spec hTH (hts (.stringRef "TrackHouse" 414 "that is refused as things stand") (List.mem_of_getElem? (i := 859) (by decide +kernel)))
        exact ⟨a, vk_R.of (hts (.stringRef "TrackHouse" 414 "that is refused as things stand") (List.mem_of_getElem? (i := 859) (by decide +kernel))) hev⟩
  · intro q hq
    have h6 : ∀ q ∈ z_NC, (Cond.not (.castable q.1 q.2)).before #[Value.ref b] s = true := by
      intro q hq
      simp only [z_NC, List.mem_cons, List.not_mem_nil, or_false] at hq
      rcases hq with rfl | rfl | rfl | rfl | rfl | rfl <;> exact hs _ (by decide +kernel)
    exact va_Nc.of (h6 q hq)
  · exact va_AO.of (hts (.arrayOver (.object "TrackHouseModel$Flow")) (List.mem_of_getElem? (i := 1572) (by decide +kernel)))
  · obtain ⟨scr, h1, h2, h3, h4, h5⟩ := hX
    exact ⟨scr, h1, h2, h3, Nat.le_of_eq h4.symm, by rw [h4], h5, Nat.not_le.mpr hbl⟩
theorem walk_open {Inv : Nat → (Nat → Nat) → (Nat → Nat → Int32) → Prop} (hI : zSteps Inv) (h0 : Inv 0 fl0 S0) {p : Program} {e : Env} {s : State} {m : MethodId} {below : List Frame} {meth : Method} {c : Code} (l : Launch) (hflags : l.flags = flags0) {b L : Nat} {xs : Nat → Int32} (hL : L ≤ 3584)
    (hx : p.tables.exec = Jvm.exec) (hb : c.code = code) (hr : meth.sig.returnType = ret) (hml : c.maxLocals = 7) (hown : s.vm.findClass R_law = some m.cls) (hts : ∀ w ∈ lw_tbl, w.before #[Value.ref b] s = true) (hX : va_X b L xs s s.heap) (hbl : b < s.heap.size) (hlocks : meth.locks = false) (hgv : (Jvm.Cond.and given_1 narrow_1).before #[Value.ref b] s = true) (hnm : meth.name = "law") :
    W p l e room_1 s m #[Value.ref b] below meth c s.heap [] 0 0 (lw_Z below #[Value.ref b] s) (entryFrame m ([Value.ref b] : List Value).toArray 7) := by
  have htr : l.stackTraces = false := by rw [Launch.stackTraces, hflags]; decide
  obtain ⟨D, cA, henv⟩ := z_env_start hts hX hbl hgv
  have C : z_C (p, l, e, room_1, s, m, #[Value.ref b], below, meth, c, lw_Z below #[Value.ref b] s, D, cA, s.heap.size, (b, L, xs)) zm_law :=
    ⟨hx, hb, hml, hown, fun w hw => hts w (List.mem_filter.mp hw).1, henv, hlocks, hr, hnm, (fun q (h : q ∈ ([] : List (Nat × Nat × Nat × Nat))) => nomatch h), htr, Nat.le_refl _⟩
  have hl := lv_entry ([Value.ref b]) (n := 7) (Nat.le_of_ble_eq_true rfl)
  rw [lg_entry_eq]
  refine law_start hI h0 C rfl L rfl hL ?_ s.heap [] _ ⟨rfl, fun k => trivial⟩ va_S.rf hl
  intro T' G' S i n nc ns hnc hns H locs ls hR hS hl
  refine va_forget hS.2.2 (W.widen hnc hns ?_)
  refine lv_iconst (n := 1) (v := 1) hx hb (pc := 3318) (by decide +kernel) (by decide) ?_
  exact lw_ret hx hb hr hlocks (by decide +kernel)
