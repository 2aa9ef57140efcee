/-! THE START's environment -/
theorem z_arrP {s : State} {args : Array Value} {ty : FieldType} (h : (Cond.arrayClass ty).before args s = true) (hp : ∀ (cA : ClassId), s.vm.findClass ("[" ++ ty.toString) = some cA → va_RA s cA ty) : ∃ cA : ClassId, ArrOfT s cA ty ∧ va_RA s cA ty := by
  obtain ⟨c, k, comp, h1, h2, h3⟩ := Cond.arrayClass_spec h
  exact ⟨c, fun n z => ⟨fun k h => (by cases h), k, h2, comp, h3⟩, hp c h1⟩
set_option maxHeartbeats 4000000 in
theorem z_env_start {s : State} {b L : Nat} {xs : Nat → Int32} (hts : ∀ w ∈ lw_tbl, w.before #[Value.ref b] s = true) (hX : va_X b L xs s s.heap) (hbl : b < s.heap.size) (hgv : (Jvm.Cond.and given_1 narrow_1).before #[Value.ref b] s = true) : ∃ (D : va_G) (cA : Nat → ClassId), z_env D cA s.heap.size (b, L, xs) s s.heap := by
  have htw : ∀ w ∈ z_WB, w.before #[Value.ref b] s = true := fun w hw => hts w (List.mem_filter.mp hw).1
  have hs := flat_of_before _ hgv
  obtain ⟨c0, i0, k0⟩ := u_known (C := RX0) (T := TX0) (N := 5) (n := 5) htw (z_cls (ci := 0) rfl).2.2 (htw _ (z_wi 447 (by decide +kernel) rfl))
  obtain ⟨c1, i1, k1⟩ := u_known (C := RX1) (T := TX1) (N := 4) (n := 4) htw (z_cls (ci := 1) rfl).2.2 (htw _ (z_wi 180 (by decide +kernel) rfl))
  obtain ⟨c2, i2, k2⟩ := u_known (C := RX2) (T := TX2) (N := 5) (n := 5) htw (z_cls (ci := 2) rfl).2.2 (htw _ (z_wi 364 (by decide +kernel) rfl))
  obtain ⟨c3, i3, k3⟩ := u_known (C := RX3) (T := TX3) (N := 6) (n := 6) htw (z_cls (ci := 3) rfl).2.2 (htw _ (z_wi 275 (by decide +kernel) rfl))
  obtain ⟨c4, i4, k4⟩ := u_known (C := RX4) (T := TX4) (N := 8) (n := 8) htw (z_cls (ci := 4) rfl).2.2 (htw _ (z_wi 111 (by decide +kernel) rfl))
  obtain ⟨c5, i5, k5⟩ := u_known (C := RX5) (T := TX5) (N := 12) (n := 12) htw (z_cls (ci := 5) rfl).2.2 (htw _ (z_wi 186 (by decide +kernel) rfl))
  obtain ⟨c6, i6, k6⟩ := u_known (C := RX6) (T := TX6) (N := 3) (n := 3) htw (z_cls (ci := 6) rfl).2.2 (htw _ (z_wi 431 (by decide +kernel) rfl))
  obtain ⟨c7, i7, k7⟩ := u_known (C := RX7) (T := TX7) (N := 9) (n := 9) htw (z_cls (ci := 7) rfl).2.2 (htw _ (z_wi 390 (by decide +kernel) rfl))
  obtain ⟨c8, i8, k8⟩ := u_known (C := RX8) (T := TX8) (N := 10) (n := 10) htw (z_cls (ci := 8) rfl).2.2 (htw _ (z_wi 269 (by decide +kernel) rfl))
  obtain ⟨c9, i9, k9⟩ := u_known (C := RX9) (T := TX9) (N := 6) (n := 6) htw (z_cls (ci := 9) rfl).2.2 (htw _ (z_wi 236 (by decide +kernel) rfl))
  obtain ⟨c10, i10, k10⟩ := u_known (C := RX10) (T := TX10) (N := 4) (n := 4) htw (z_cls (ci := 10) rfl).2.2 (htw _ (z_wi 160 (by decide +kernel) rfl))
  obtain ⟨c11, i11, k11⟩ := u_known (C := RX11) (T := TX11) (N := 16) (n := 16) htw (z_cls (ci := 11) rfl).2.2 (htw _ (z_wi 103 (by decide +kernel) rfl))
  obtain ⟨a0, u0, v0⟩ := z_arrP (ty := .int) (hts _ (List.mem_of_getElem? (i := 158) (by decide +kernel))) (fun cA h => h)
  obtain ⟨a1, u1, v1⟩ := z_arrP (ty := .char) (hts _ (List.mem_of_getElem? (i := 234) (by decide +kernel))) (fun cA h => h)
  refine ⟨(fun k => [c0, c1, c2, c3, c4, c5, c6, c7, c8, c9, c10, c11].getD k 0, fun k => [i0, i1, i2, i3, i4, i5, i6, i7, i8, i9, i10, i11].getD k (fun _ => 0)), fun k => [a0, a0, a1].getD k 0, ⟨?_, ?_⟩, ?_, ?_, ?_, ?_, ?_, ?_⟩
  · intro k q hq
    match k, hq with
    | 0, hq => cases hq; exact k0
    | 1, hq => cases hq; exact k1
    | 2, hq => cases hq; exact k2
    | 3, hq => cases hq; exact k3
    | 4, hq => cases hq; exact k4
    | 5, hq => cases hq; exact k5
    | 6, hq => cases hq; exact k6
    | 7, hq => cases hq; exact k7
    | 8, hq => cases hq; exact k8
    | 9, hq => cases hq; exact k9
    | 10, hq => cases hq; exact k10
    | 11, hq => cases hq; exact k11
    | k + 12, hq => exact absurd hq (by simp)
  · intro k q hq
    match k, hq with
    | 0, hq => cases hq; exact ⟨u0, v0⟩
    | 1, hq => cases hq; exact ⟨u0, v0⟩
    | 2, hq => cases hq; exact ⟨u1, v1⟩
    | k + 3, hq => exact absurd hq (by simp [z_tys])
  · exact vx_Zqof (hts _ (List.mem_of_getElem? (i := 557) (by decide +kernel))) (hts _ (List.mem_of_getElem? (i := 93) (by decide +kernel))) (hs _ (by decide +kernel)) (fun a h => Nat.not_le.mpr h)
  · exact vx_Zqof (hts _ (List.mem_of_getElem? (i := 559) (by decide +kernel))) (hts _ (List.mem_of_getElem? (i := 93) (by decide +kernel))) (hs _ (by decide +kernel)) (fun a h => Nat.not_le.mpr h)
  · exact fun w hw => va_Nw.of (z_N_tab (List.mem_filter.mp hw).2) (hts w (List.mem_filter.mp hw).1)
  · intro q hq
    have hTH : s.vm.findClass "TrackHouse" = some c11 := k11.2.1
    rcases List.mem_cons.mp hq with rfl | hq
    · obtain ⟨k, cf, i, a, -, -, -, -, -, hev⟩ := Cond.stringRef_spec hTH (hts (.stringRef "TrackHouse" 402 "no such person, project, kind, item, rule, day or place") (List.mem_of_getElem? (i := 571) (by decide +kernel)))
      exact ⟨a, vk_R.of (hts (.stringRef "TrackHouse" 402 "no such person, project, kind, item, rule, day or place") (List.mem_of_getElem? (i := 571) (by decide +kernel))) hev⟩
    · rcases List.mem_cons.mp hq with rfl | hq
      · obtain ⟨k, cf, i, a, -, -, -, -, -, hev⟩ := Cond.stringRef_spec hTH (hts (.stringRef "TrackHouse" 409 "an argument is out of its range") (List.mem_of_getElem? (i := 613) (by decide +kernel)))
        exact ⟨a, vk_R.of (hts (.stringRef "TrackHouse" 409 "an argument is out of its range") (List.mem_of_getElem? (i := 613) (by decide +kernel))) hev⟩
      · obtain rfl := List.mem_singleton.mp hq
        obtain ⟨k, cf, i, a, -, -, -, -, -, hev⟩ := Cond.stringRef_spec hTH (hts (.stringRef "TrackHouse" 414 "that is refused as things stand") (List.mem_of_getElem? (i := 692) (by decide +kernel)))
        exact ⟨a, vk_R.of (hts (.stringRef "TrackHouse" 414 "that is refused as things stand") (List.mem_of_getElem? (i := 692) (by decide +kernel))) hev⟩
  · intro q hq
    have h6 : ∀ q ∈ z_NC, (Cond.not (.castable q.1 q.2)).before #[Value.ref b] s = true := by
      intro q hq
      simp only [z_NC, List.mem_cons, List.not_mem_nil, or_false] at hq
      rcases hq with rfl | rfl | rfl | rfl | rfl | rfl <;> exact hs _ (by decide +kernel)
    exact va_Nc.of (h6 q hq)
  · obtain ⟨scr, h1, h2, h3, h4, h5⟩ := hX
    exact ⟨scr, h1, h2, h3, Nat.le_of_eq h4.symm, by rw [h4], h5, Nat.not_le.mpr hbl⟩
