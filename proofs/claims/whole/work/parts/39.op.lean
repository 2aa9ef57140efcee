theorem zLfit {Y' : z_Y} {rm' : Room} {nc ns a b : Nat} (h1 : rm'.frames + 1 ≤ 2048) (h2 : 8 + (Y'.2.2.1 + 11) + rm'.locals ≤ 84000) (h3 : a + rm'.cells ≤ 20) (h4 : b + rm'.slots ≤ 200) (hnc : nc + 20 ≤ 601024) (hns : ns + 200 ≤ 7293034) : z_fit room_1 rm' Y' (nc + a) (ns + b) :=
  ⟨h1, h2, show nc + a + rm'.cells ≤ 601024 by omega, show ns + b + rm'.slots ≤ 7293034 by omega⟩
theorem zLwid {nc a b : Nat} (h : a ≤ b) : nc + a ≤ nc + b := Nat.add_le_add_left h nc
def Fl_0 (fl : Nat → Nat) (S : (Nat → Nat → Int32)) (a1 a2 a3 a4 a5 a6 : Int32) : (Nat → Nat → Int32) := (F_M_grant fl (F_L_grant S a1 a2 a3).2 a1 a2 a3).2
def Sl_0 (fl : Nat → Nat) (S : (Nat → Nat → Int32)) (a1 a2 a3 a4 a5 a6 : Int32) : Prop := Sf_L_grant S a1 a2 a3 ∧ Sf_M_grant fl (F_L_grant S a1 a2 a3).2 a1 a2 a3 ∧ (F_M_thrown (F_M_grant fl (F_L_grant S a1 a2 a3).2 a1 a2 a3).2 = (F_L_grant S a1 a2 a3).1 ∧ ((F_L_grant S a1 a2 a3).1 = 0 → (F_M_grant fl (F_L_grant S a1 a2 a3).2 a1 a2 a3).2 193 0 = (F_M_grant fl (F_L_grant S a1 a2 a3).2 a1 a2 a3).1))
theorem l_0 {X : z_X} (C : z_C X zm_law) (hrm : X.2.2.2.1 = room_1) {T' : Nat → Nat × Nat} {G' : Nat → Nat → Option Nat} {n q nc ns : Nat} {fl : Nat → Nat} (S : (Nat → Nat → Int32)) (i a1 a2 a3 a4 a5 a6 : Int32) (hA : zArg X i a1 a2 a3 a4 a5 a6) (hfl : zOK T' (zwG G' q) fl n) (hnc : nc + 20 ≤ 601024) (hns : ns + 200 ≤ 7293034) (hs : Sl_0 fl S a1 a2 a3 a4 a5 a6) (kk : ∀ T2 G2 n2 q2, n ≤ n2 → zOK T2 (zwG G2 q2) fl n2 → z_G X zm_law (3312, zLV i, [], zW T2 (zwG G2 q2) (Fl_0 fl S a1 a2 a3 a4 a5 a6) n2, nc + 20, ns + 200)) : z_G X zm_law (236, zLV i, [], zW T' (zwG G' q) S n, nc, ns) := by
  unfold Sl_0 at hs
  unfold Fl_0 at kk
  refine z_go2 C 236 [(.aload_n 1, 1), (.aload_n 0, 1), (.iload 4, 2), (.iconst 1, 1), (.iadd, 1)] (242, [(0, z_s), (1, z_r 0), (2, z_r 78), (3, z_r 193), (4, .inl i)], [.inl (i + 1), z_s, z_r 0], zW T' (zwG G' q) S n, nc, ns) (by decide +kernel) rfl ⟨trivial, trivial, trivial, trivial, trivial, trivial⟩ ?_
  refine z_sld (v := a1) C (by decide +kernel) hA.g1.1 hA.g1.2 ?_
  refine z_go2 C 243 [(.aload_n 0, 1), (.iload 4, 2), (.iconst 2, 1), (.iadd, 1)] (248, [(0, z_s), (1, z_r 0), (2, z_r 78), (3, z_r 193), (4, .inl i)], [.inl (i + 2), z_s, .inl a1, z_r 0], zW T' (zwG G' q) S n, nc, ns) (by decide +kernel) rfl ⟨trivial, trivial, trivial, trivial, trivial⟩ ?_
  refine z_sld (v := a2) C (by decide +kernel) hA.g2.1 hA.g2.2 ?_
  refine z_go2 C 249 [(.aload_n 0, 1), (.iload 4, 2), (.iconst 3, 1), (.iadd, 1)] (254, [(0, z_s), (1, z_r 0), (2, z_r 78), (3, z_r 193), (4, .inl i)], [.inl (i + 3), z_s, .inl a2, .inl a1, z_r 0], zW T' (zwG G' q) S n, nc, ns) (by decide +kernel) rfl ⟨trivial, trivial, trivial, trivial, trivial⟩ ?_
  refine z_sld (v := a3) C (by decide +kernel) hA.g3.1 hA.g3.2 ?_
  refine z_go2 C 255 [(.aload_n 3, 1)] (256, [(0, z_s), (1, z_r 0), (2, z_r 78), (3, z_r 193), (4, .inl i)], [z_r 193, .inl a3, .inl a2, .inl a1, z_r 0], zW T' (zwG G' q) S n, nc, ns) (by decide +kernel) rfl ⟨trivial, trivial⟩ ?_
  obtain ⟨hs1, hs⟩ := hs
  refine z_callH (idx := 150) (hh := hh_L_grant) C (av := [z_r 0, .inl a1, .inl a2, .inl a3, z_r 193]) (st := []) (by decide +kernel) (c_L_grant T' G' q S n a1 a2 a3 hs1) hrm (z_wi 684 (by decide +kernel) rfl) (z_wi 152 (by decide +kernel) rfl) ⟨by decide +kernel, by decide +kernel⟩ (show (parseMethodDescriptor zm_L_grant.1.desc).map (fun d => d.parameters.length) = some 5 by decide +kernel) (z_wi 682 (by decide +kernel) rfl) (z_wi 683 (by decide +kernel) rfl) (zLfit (a := 0) (b := 0) (by decide) (by decide) (by decide) (by decide) hnc hns) rfl (Nat.le_of_ble_eq_true rfl) (fun v w' hv => ?_)
  obtain ⟨n2, q2, hn2, rfl, rfl⟩ := hv
  replace hfl := (hfl.le hn2).q q2
  obtain ⟨S1, hS1⟩ : ∃ y, (F_L_grant S a1 a2 a3).2 = y := ⟨_, rfl⟩
  rw [hS1] at hs kk ⊢
  obtain ⟨k0, hk0⟩ : ∃ y, (F_L_grant S a1 a2 a3).1 = y := ⟨_, rfl⟩
  try rw [hk0] at hs
  rw [hk0]
  show z_G X zm_law (259, [(0, z_s), (1, z_r 0), (2, z_r 78), (3, z_r 193), (4, .inl i)], [.inl k0], zW T' (zwG G' q2) S1 n2, nc + 3, ns + 18)
  refine z_go2 C 259 [(.istore 5, 2), (.aload_n 2, 1), (.aload_n 0, 1), (.iload 4, 2), (.iconst 1, 1), (.iadd, 1)] (267, [(5, .inl k0), (0, z_s), (1, z_r 0), (2, z_r 78), (3, z_r 193), (4, .inl i)], [.inl (i + 1), z_s, z_r 78], zW T' (zwG G' q2) S1 n2, nc + 3, ns + 18) (by decide +kernel) rfl ⟨trivial, trivial, trivial, trivial, trivial, trivial, trivial⟩ ?_
  refine z_sld (v := a1) C (by decide +kernel) hA.g1.1 hA.g1.2 ?_
  refine z_go2 C 268 [(.aload_n 0, 1), (.iload 4, 2), (.iconst 2, 1), (.iadd, 1)] (273, [(5, .inl k0), (0, z_s), (1, z_r 0), (2, z_r 78), (3, z_r 193), (4, .inl i)], [.inl (i + 2), z_s, .inl a1, z_r 78], zW T' (zwG G' q2) S1 n2, nc + 3, ns + 18) (by decide +kernel) rfl ⟨trivial, trivial, trivial, trivial, trivial⟩ ?_
  refine z_sld (v := a2) C (by decide +kernel) hA.g2.1 hA.g2.2 ?_
  refine z_go2 C 274 [(.aload_n 0, 1), (.iload 4, 2), (.iconst 3, 1), (.iadd, 1)] (279, [(5, .inl k0), (0, z_s), (1, z_r 0), (2, z_r 78), (3, z_r 193), (4, .inl i)], [.inl (i + 3), z_s, .inl a2, .inl a1, z_r 78], zW T' (zwG G' q2) S1 n2, nc + 3, ns + 18) (by decide +kernel) rfl ⟨trivial, trivial, trivial, trivial, trivial⟩ ?_
  refine z_sld (v := a3) C (by decide +kernel) hA.g3.1 hA.g3.2 ?_
  obtain ⟨hs1, hs⟩ := hs
  refine z_callV C (av := [.inl a1, .inl a2, .inl a3]) (st := []) (a := 78) (ci := 14) (by decide +kernel) (c_M_grant T' (zwG G' q2) n2 fl hfl S1 a1 a2 a3 hs1) hrm zl_L_155 zv_M_grant rfl rfl rfl (zLfit (a := 3) (b := 18) (by decide) (by decide) (by decide) (by decide) hnc hns) rfl (Nat.le_of_ble_eq_true rfl) (fun v w' hv => ?_)
  obtain ⟨rfl, rfl⟩ := hv
  show z_G X zm_law (283, [(5, .inl k0), (0, z_s), (1, z_r 0), (2, z_r 78), (3, z_r 193), (4, .inl i)], [.inl (F_M_grant fl S1 a1 a2 a3).1], zW T' (zwG G' q2) (F_M_grant fl S1 a1 a2 a3).2 n2, nc + 3, ns + 18)
  refine z_go2 C 283 [(.istore 6, 2), (.aload_n 2, 1)] (286, [(6, .inl (F_M_grant fl S1 a1 a2 a3).1), (5, .inl k0), (0, z_s), (1, z_r 0), (2, z_r 78), (3, z_r 193), (4, .inl i)], [z_r 78], zW T' (zwG G' q2) (F_M_grant fl S1 a1 a2 a3).2 n2, nc + 3, ns + 18) (by decide +kernel) rfl ⟨trivial, trivial, trivial⟩ ?_
  refine z_callV C (av := []) (st := []) (a := 78) (ci := 14) (by decide +kernel) (c_M_thrown T' (zwG G' q2) (F_M_grant fl S1 a1 a2 a3).2 n2) hrm zl_L_156 zv_M_thrown rfl rfl rfl (zLfit (a := 3) (b := 18) (by decide) (by decide) (by decide) (by decide) hnc hns) rfl (Nat.le_of_ble_eq_true rfl) (fun v w' hv => ?_)
  obtain ⟨rfl, rfl⟩ := hv
  show z_G X zm_law (289, [(6, .inl (F_M_grant fl S1 a1 a2 a3).1), (5, .inl k0), (0, z_s), (1, z_r 0), (2, z_r 78), (3, z_r 193), (4, .inl i)], [.inl (F_M_thrown (F_M_grant fl S1 a1 a2 a3).2)], zW T' (zwG G' q2) (F_M_grant fl S1 a1 a2 a3).2 n2, nc + 3, ns + 18)
  refine z_go2 C 289 [(.iload 5, 2)] (291, [(6, .inl (F_M_grant fl S1 a1 a2 a3).1), (5, .inl k0), (0, z_s), (1, z_r 0), (2, z_r 78), (3, z_r 193), (4, .inl i)], [.inl k0, .inl (F_M_thrown (F_M_grant fl S1 a1 a2 a3).2)], zW T' (zwG G' q2) (F_M_grant fl S1 a1 a2 a3).2 n2, nc + 3, ns + 18) (by decide +kernel) rfl ⟨trivial, trivial⟩ ?_
  refine z_icmp_eq 296 C (off := 5) (by decide +kernel) (by decide) (fun c => ?_) (fun c => absurd hs.1 c)
  refine z_go2 C 296 [(.iload 5, 2)] (298, [(6, .inl (F_M_grant fl S1 a1 a2 a3).1), (5, .inl k0), (0, z_s), (1, z_r 0), (2, z_r 78), (3, z_r 193), (4, .inl i)], [.inl k0], zW T' (zwG G' q2) (F_M_grant fl S1 a1 a2 a3).2 n2, nc + 3, ns + 18) (by decide +kernel) rfl ⟨trivial, trivial⟩ ?_
  refine z_if_ne 313 C (off := 15) (by decide +kernel) (by decide) (fun c => ?_) (fun c => ?_)
  · refine z_go2 C 313 [(.goto 2999, 3)] (3312, [(6, .inl (F_M_grant fl S1 a1 a2 a3).1), (5, .inl k0), (0, z_s), (1, z_r 0), (2, z_r 78), (3, z_r 193), (4, .inl i)], [], zW T' (zwG G' q2) (F_M_grant fl S1 a1 a2 a3).2 n2, nc + 3, ns + 18) (by decide +kernel) rfl ⟨trivial, trivial⟩ ?_
    exact z_lvs (lv' := zLV i) [2, 3, 4, 5, 6] rfl (z_wid (nc' := nc + 20) (ns' := ns + 200) (zLwid (a := 3) (by decide)) (zLwid (a := 18) (by decide)) (kk _ _ _ _ hn2 hfl))
  · refine z_go2 C 301 [(.aload_n 3, 1), (.iconst 0, 1), (.laload, 1), (.iload 6, 2), (.i2l, 1), (.lcmp, 1)] (308, [(6, .inl (F_M_grant fl S1 a1 a2 a3).1), (5, .inl k0), (0, z_s), (1, z_r 0), (2, z_r 78), (3, z_r 193), (4, .inl i)], [.inl (lg_cmp ((F_M_grant fl S1 a1 a2 a3).2 193 0).toInt64 (F_M_grant fl S1 a1 a2 a3).1.toInt64)], zW T' (zwG G' q2) (F_M_grant fl S1 a1 a2 a3).2 n2, nc + 3, ns + 18) (by decide +kernel) rfl ⟨trivial, trivial, ⟨rfl, (show vp_in 0 1 by unfold vp_in; decide)⟩, trivial, trivial, trivial, trivial⟩ ?_
    refine z_if_eq 313 C (off := 5) (by decide +kernel) (by decide) (fun c2 => ?_) (fun c2 => absurd (by rw [hs.2 c]; exact lg_cmp_self _) c2)
    refine z_go2 C 313 [(.goto 2999, 3)] (3312, [(6, .inl (F_M_grant fl S1 a1 a2 a3).1), (5, .inl k0), (0, z_s), (1, z_r 0), (2, z_r 78), (3, z_r 193), (4, .inl i)], [], zW T' (zwG G' q2) (F_M_grant fl S1 a1 a2 a3).2 n2, nc + 3, ns + 18) (by decide +kernel) rfl ⟨trivial, trivial⟩ ?_
    exact z_lvs (lv' := zLV i) [2, 3, 4, 5, 6] rfl (z_wid (nc' := nc + 20) (ns' := ns + 200) (zLwid (a := 3) (by decide)) (zLwid (a := 18) (by decide)) (kk _ _ _ _ hn2 hfl))
def Fl_1 (fl : Nat → Nat) (S : (Nat → Nat → Int32)) (a1 a2 a3 a4 a5 a6 : Int32) : (Nat → Nat → Int32) := (F_M_scheme (F_L_scheme S a1 a2 a3).2 a1 a2 a3).2
def Sl_1 (fl : Nat → Nat) (S : (Nat → Nat → Int32)) (a1 a2 a3 a4 a5 a6 : Int32) : Prop := Sf_L_scheme S a1 a2 a3 ∧ Sf_M_scheme (F_L_scheme S a1 a2 a3).2 a1 a2 a3 ∧ (F_M_thrown (F_M_scheme (F_L_scheme S a1 a2 a3).2 a1 a2 a3).2 = (F_L_scheme S a1 a2 a3).1 ∧ ((F_L_scheme S a1 a2 a3).1 = 0 → (F_M_scheme (F_L_scheme S a1 a2 a3).2 a1 a2 a3).2 193 0 = (F_M_scheme (F_L_scheme S a1 a2 a3).2 a1 a2 a3).1))
theorem l_1 {X : z_X} (C : z_C X zm_law) (hrm : X.2.2.2.1 = room_1) {T' : Nat → Nat × Nat} {G' : Nat → Nat → Option Nat} {n q nc ns : Nat} {fl : Nat → Nat} (S : (Nat → Nat → Int32)) (i a1 a2 a3 a4 a5 a6 : Int32) (hA : zArg X i a1 a2 a3 a4 a5 a6) (hfl : zOK T' (zwG G' q) fl n) (hnc : nc + 20 ≤ 601024) (hns : ns + 200 ≤ 7293034) (hs : Sl_1 fl S a1 a2 a3 a4 a5 a6) (kk : ∀ T2 G2 n2 q2, n ≤ n2 → zOK T2 (zwG G2 q2) fl n2 → z_G X zm_law (3312, zLV i, [], zW T2 (zwG G2 q2) (Fl_1 fl S a1 a2 a3 a4 a5 a6) n2, nc + 20, ns + 200)) : z_G X zm_law (316, zLV i, [], zW T' (zwG G' q) S n, nc, ns) := by
  unfold Sl_1 at hs
  unfold Fl_1 at kk
  refine z_go2 C 316 [(.aload_n 1, 1), (.aload_n 0, 1), (.iload 4, 2), (.iconst 1, 1), (.iadd, 1)] (322, [(0, z_s), (1, z_r 0), (2, z_r 78), (3, z_r 193), (4, .inl i)], [.inl (i + 1), z_s, z_r 0], zW T' (zwG G' q) S n, nc, ns) (by decide +kernel) rfl ⟨trivial, trivial, trivial, trivial, trivial, trivial⟩ ?_
  refine z_sld (v := a1) C (by decide +kernel) hA.g1.1 hA.g1.2 ?_
  refine z_go2 C 323 [(.aload_n 0, 1), (.iload 4, 2), (.iconst 2, 1), (.iadd, 1)] (328, [(0, z_s), (1, z_r 0), (2, z_r 78), (3, z_r 193), (4, .inl i)], [.inl (i + 2), z_s, .inl a1, z_r 0], zW T' (zwG G' q) S n, nc, ns) (by decide +kernel) rfl ⟨trivial, trivial, trivial, trivial, trivial⟩ ?_
  refine z_sld (v := a2) C (by decide +kernel) hA.g2.1 hA.g2.2 ?_
  refine z_go2 C 329 [(.aload_n 0, 1), (.iload 4, 2), (.iconst 3, 1), (.iadd, 1)] (334, [(0, z_s), (1, z_r 0), (2, z_r 78), (3, z_r 193), (4, .inl i)], [.inl (i + 3), z_s, .inl a2, .inl a1, z_r 0], zW T' (zwG G' q) S n, nc, ns) (by decide +kernel) rfl ⟨trivial, trivial, trivial, trivial, trivial⟩ ?_
  refine z_sld (v := a3) C (by decide +kernel) hA.g3.1 hA.g3.2 ?_
  refine z_go2 C 335 [(.aload_n 3, 1)] (336, [(0, z_s), (1, z_r 0), (2, z_r 78), (3, z_r 193), (4, .inl i)], [z_r 193, .inl a3, .inl a2, .inl a1, z_r 0], zW T' (zwG G' q) S n, nc, ns) (by decide +kernel) rfl ⟨trivial, trivial⟩ ?_
  obtain ⟨hs1, hs⟩ := hs
  refine z_callH (idx := 159) (hh := hh_L_scheme) C (av := [z_r 0, .inl a1, .inl a2, .inl a3, z_r 193]) (st := []) (by decide +kernel) (c_L_scheme T' G' q S n a1 a2 a3 hs1) hrm (z_wi 868 (by decide +kernel) rfl) (z_wi 152 (by decide +kernel) rfl) ⟨by decide +kernel, by decide +kernel⟩ (show (parseMethodDescriptor zm_L_scheme.1.desc).map (fun d => d.parameters.length) = some 5 by decide +kernel) (z_wi 866 (by decide +kernel) rfl) (z_wi 867 (by decide +kernel) rfl) (zLfit (a := 0) (b := 0) (by decide) (by decide) (by decide) (by decide) hnc hns) rfl (Nat.le_of_ble_eq_true rfl) (fun v w' hv => ?_)
  obtain ⟨n2, q2, hn2, rfl, rfl⟩ := hv
  replace hfl := (hfl.le hn2).q q2
  obtain ⟨S1, hS1⟩ : ∃ y, (F_L_scheme S a1 a2 a3).2 = y := ⟨_, rfl⟩
  rw [hS1] at hs kk ⊢
  obtain ⟨k0, hk0⟩ : ∃ y, (F_L_scheme S a1 a2 a3).1 = y := ⟨_, rfl⟩
  try rw [hk0] at hs
  rw [hk0]
  show z_G X zm_law (339, [(0, z_s), (1, z_r 0), (2, z_r 78), (3, z_r 193), (4, .inl i)], [.inl k0], zW T' (zwG G' q2) S1 n2, nc + 2, ns + 12)
  refine z_go2 C 339 [(.istore 5, 2), (.aload_n 2, 1), (.aload_n 0, 1), (.iload 4, 2), (.iconst 1, 1), (.iadd, 1)] (347, [(5, .inl k0), (0, z_s), (1, z_r 0), (2, z_r 78), (3, z_r 193), (4, .inl i)], [.inl (i + 1), z_s, z_r 78], zW T' (zwG G' q2) S1 n2, nc + 2, ns + 12) (by decide +kernel) rfl ⟨trivial, trivial, trivial, trivial, trivial, trivial, trivial⟩ ?_
  refine z_sld (v := a1) C (by decide +kernel) hA.g1.1 hA.g1.2 ?_
  refine z_go2 C 348 [(.aload_n 0, 1), (.iload 4, 2), (.iconst 2, 1), (.iadd, 1)] (353, [(5, .inl k0), (0, z_s), (1, z_r 0), (2, z_r 78), (3, z_r 193), (4, .inl i)], [.inl (i + 2), z_s, .inl a1, z_r 78], zW T' (zwG G' q2) S1 n2, nc + 2, ns + 12) (by decide +kernel) rfl ⟨trivial, trivial, trivial, trivial, trivial⟩ ?_
  refine z_sld (v := a2) C (by decide +kernel) hA.g2.1 hA.g2.2 ?_
  refine z_go2 C 354 [(.aload_n 0, 1), (.iload 4, 2), (.iconst 3, 1), (.iadd, 1)] (359, [(5, .inl k0), (0, z_s), (1, z_r 0), (2, z_r 78), (3, z_r 193), (4, .inl i)], [.inl (i + 3), z_s, .inl a2, .inl a1, z_r 78], zW T' (zwG G' q2) S1 n2, nc + 2, ns + 12) (by decide +kernel) rfl ⟨trivial, trivial, trivial, trivial, trivial⟩ ?_
  refine z_sld (v := a3) C (by decide +kernel) hA.g3.1 hA.g3.2 ?_
  obtain ⟨hs1, hs⟩ := hs
  refine z_callV C (av := [.inl a1, .inl a2, .inl a3]) (st := []) (a := 78) (ci := 14) (by decide +kernel) (c_M_scheme T' (zwG G' q2) S1 n2 a1 a2 a3 hs1) hrm zl_L_161 zv_M_scheme rfl rfl rfl (zLfit (a := 2) (b := 12) (by decide) (by decide) (by decide) (by decide) hnc hns) rfl (Nat.le_of_ble_eq_true rfl) (fun v w' hv => ?_)
  obtain ⟨rfl, rfl⟩ := hv
  show z_G X zm_law (363, [(5, .inl k0), (0, z_s), (1, z_r 0), (2, z_r 78), (3, z_r 193), (4, .inl i)], [.inl (F_M_scheme S1 a1 a2 a3).1], zW T' (zwG G' q2) (F_M_scheme S1 a1 a2 a3).2 n2, nc + 2, ns + 12)
  refine z_go2 C 363 [(.istore 6, 2), (.aload_n 2, 1)] (366, [(6, .inl (F_M_scheme S1 a1 a2 a3).1), (5, .inl k0), (0, z_s), (1, z_r 0), (2, z_r 78), (3, z_r 193), (4, .inl i)], [z_r 78], zW T' (zwG G' q2) (F_M_scheme S1 a1 a2 a3).2 n2, nc + 2, ns + 12) (by decide +kernel) rfl ⟨trivial, trivial, trivial⟩ ?_
  refine z_callV C (av := []) (st := []) (a := 78) (ci := 14) (by decide +kernel) (c_M_thrown T' (zwG G' q2) (F_M_scheme S1 a1 a2 a3).2 n2) hrm zl_L_156 zv_M_thrown rfl rfl rfl (zLfit (a := 2) (b := 12) (by decide) (by decide) (by decide) (by decide) hnc hns) rfl (Nat.le_of_ble_eq_true rfl) (fun v w' hv => ?_)
  obtain ⟨rfl, rfl⟩ := hv
  show z_G X zm_law (369, [(6, .inl (F_M_scheme S1 a1 a2 a3).1), (5, .inl k0), (0, z_s), (1, z_r 0), (2, z_r 78), (3, z_r 193), (4, .inl i)], [.inl (F_M_thrown (F_M_scheme S1 a1 a2 a3).2)], zW T' (zwG G' q2) (F_M_scheme S1 a1 a2 a3).2 n2, nc + 2, ns + 12)
  refine z_go2 C 369 [(.iload 5, 2)] (371, [(6, .inl (F_M_scheme S1 a1 a2 a3).1), (5, .inl k0), (0, z_s), (1, z_r 0), (2, z_r 78), (3, z_r 193), (4, .inl i)], [.inl k0, .inl (F_M_thrown (F_M_scheme S1 a1 a2 a3).2)], zW T' (zwG G' q2) (F_M_scheme S1 a1 a2 a3).2 n2, nc + 2, ns + 12) (by decide +kernel) rfl ⟨trivial, trivial⟩ ?_
  refine z_icmp_eq 376 C (off := 5) (by decide +kernel) (by decide) (fun c => ?_) (fun c => absurd hs.1 c)
  refine z_go2 C 376 [(.iload 5, 2)] (378, [(6, .inl (F_M_scheme S1 a1 a2 a3).1), (5, .inl k0), (0, z_s), (1, z_r 0), (2, z_r 78), (3, z_r 193), (4, .inl i)], [.inl k0], zW T' (zwG G' q2) (F_M_scheme S1 a1 a2 a3).2 n2, nc + 2, ns + 12) (by decide +kernel) rfl ⟨trivial, trivial⟩ ?_
  refine z_if_ne 393 C (off := 15) (by decide +kernel) (by decide) (fun c => ?_) (fun c => ?_)
  · refine z_go2 C 393 [(.goto 2919, 3)] (3312, [(6, .inl (F_M_scheme S1 a1 a2 a3).1), (5, .inl k0), (0, z_s), (1, z_r 0), (2, z_r 78), (3, z_r 193), (4, .inl i)], [], zW T' (zwG G' q2) (F_M_scheme S1 a1 a2 a3).2 n2, nc + 2, ns + 12) (by decide +kernel) rfl ⟨trivial, trivial⟩ ?_
    exact z_lvs (lv' := zLV i) [2, 3, 4, 5, 6] rfl (z_wid (nc' := nc + 20) (ns' := ns + 200) (zLwid (a := 2) (by decide)) (zLwid (a := 12) (by decide)) (kk _ _ _ _ hn2 hfl))
  · refine z_go2 C 381 [(.aload_n 3, 1), (.iconst 0, 1), (.laload, 1), (.iload 6, 2), (.i2l, 1), (.lcmp, 1)] (388, [(6, .inl (F_M_scheme S1 a1 a2 a3).1), (5, .inl k0), (0, z_s), (1, z_r 0), (2, z_r 78), (3, z_r 193), (4, .inl i)], [.inl (lg_cmp ((F_M_scheme S1 a1 a2 a3).2 193 0).toInt64 (F_M_scheme S1 a1 a2 a3).1.toInt64)], zW T' (zwG G' q2) (F_M_scheme S1 a1 a2 a3).2 n2, nc + 2, ns + 12) (by decide +kernel) rfl ⟨trivial, trivial, ⟨rfl, (show vp_in 0 1 by unfold vp_in; decide)⟩, trivial, trivial, trivial, trivial⟩ ?_
    refine z_if_eq 393 C (off := 5) (by decide +kernel) (by decide) (fun c2 => ?_) (fun c2 => absurd (by rw [hs.2 c]; exact lg_cmp_self _) c2)
    refine z_go2 C 393 [(.goto 2919, 3)] (3312, [(6, .inl (F_M_scheme S1 a1 a2 a3).1), (5, .inl k0), (0, z_s), (1, z_r 0), (2, z_r 78), (3, z_r 193), (4, .inl i)], [], zW T' (zwG G' q2) (F_M_scheme S1 a1 a2 a3).2 n2, nc + 2, ns + 12) (by decide +kernel) rfl ⟨trivial, trivial⟩ ?_
    exact z_lvs (lv' := zLV i) [2, 3, 4, 5, 6] rfl (z_wid (nc' := nc + 20) (ns' := ns + 200) (zLwid (a := 2) (by decide)) (zLwid (a := 12) (by decide)) (kk _ _ _ _ hn2 hfl))
def Fl_2 (fl : Nat → Nat) (S : (Nat → Nat → Int32)) (a1 a2 a3 a4 a5 a6 : Int32) : (Nat → Nat → Int32) := (F_M_secure (F_L_secure S a1 a2).2 a1 a2).2
def Sl_2 (fl : Nat → Nat) (S : (Nat → Nat → Int32)) (a1 a2 a3 a4 a5 a6 : Int32) : Prop := Sf_L_secure S a1 a2 ∧ Sf_M_secure (F_L_secure S a1 a2).2 a1 a2 ∧ (F_M_thrown (F_M_secure (F_L_secure S a1 a2).2 a1 a2).2 = (F_L_secure S a1 a2).1 ∧ ((F_L_secure S a1 a2).1 = 0 → (F_M_secure (F_L_secure S a1 a2).2 a1 a2).2 193 0 = (F_M_secure (F_L_secure S a1 a2).2 a1 a2).1))
theorem l_2 {X : z_X} (C : z_C X zm_law) (hrm : X.2.2.2.1 = room_1) {T' : Nat → Nat × Nat} {G' : Nat → Nat → Option Nat} {n q nc ns : Nat} {fl : Nat → Nat} (S : (Nat → Nat → Int32)) (i a1 a2 a3 a4 a5 a6 : Int32) (hA : zArg X i a1 a2 a3 a4 a5 a6) (hfl : zOK T' (zwG G' q) fl n) (hnc : nc + 20 ≤ 601024) (hns : ns + 200 ≤ 7293034) (hs : Sl_2 fl S a1 a2 a3 a4 a5 a6) (kk : ∀ T2 G2 n2 q2, n ≤ n2 → zOK T2 (zwG G2 q2) fl n2 → z_G X zm_law (3312, zLV i, [], zW T2 (zwG G2 q2) (Fl_2 fl S a1 a2 a3 a4 a5 a6) n2, nc + 20, ns + 200)) : z_G X zm_law (396, zLV i, [], zW T' (zwG G' q) S n, nc, ns) := by
  unfold Sl_2 at hs
  unfold Fl_2 at kk
  refine z_go2 C 396 [(.aload_n 1, 1), (.aload_n 0, 1), (.iload 4, 2), (.iconst 1, 1), (.iadd, 1)] (402, [(0, z_s), (1, z_r 0), (2, z_r 78), (3, z_r 193), (4, .inl i)], [.inl (i + 1), z_s, z_r 0], zW T' (zwG G' q) S n, nc, ns) (by decide +kernel) rfl ⟨trivial, trivial, trivial, trivial, trivial, trivial⟩ ?_
  refine z_sld (v := a1) C (by decide +kernel) hA.g1.1 hA.g1.2 ?_
  refine z_go2 C 403 [(.aload_n 0, 1), (.iload 4, 2), (.iconst 2, 1), (.iadd, 1)] (408, [(0, z_s), (1, z_r 0), (2, z_r 78), (3, z_r 193), (4, .inl i)], [.inl (i + 2), z_s, .inl a1, z_r 0], zW T' (zwG G' q) S n, nc, ns) (by decide +kernel) rfl ⟨trivial, trivial, trivial, trivial, trivial⟩ ?_
  refine z_sld (v := a2) C (by decide +kernel) hA.g2.1 hA.g2.2 ?_
  refine z_go2 C 409 [(.aload_n 3, 1)] (410, [(0, z_s), (1, z_r 0), (2, z_r 78), (3, z_r 193), (4, .inl i)], [z_r 193, .inl a2, .inl a1, z_r 0], zW T' (zwG G' q) S n, nc, ns) (by decide +kernel) rfl ⟨trivial, trivial⟩ ?_
  obtain ⟨hs1, hs⟩ := hs
  refine z_callH (idx := 162) (hh := hh_L_secure) C (av := [z_r 0, .inl a1, .inl a2, z_r 193]) (st := []) (by decide +kernel) (c_L_secure T' G' q S n a1 a2 hs1) hrm (z_wi 877 (by decide +kernel) rfl) (z_wi 152 (by decide +kernel) rfl) ⟨by decide +kernel, by decide +kernel⟩ (show (parseMethodDescriptor zm_L_secure.1.desc).map (fun d => d.parameters.length) = some 4 by decide +kernel) (z_wi 875 (by decide +kernel) rfl) (z_wi 876 (by decide +kernel) rfl) (zLfit (a := 0) (b := 0) (by decide) (by decide) (by decide) (by decide) hnc hns) rfl (Nat.le_of_ble_eq_true rfl) (fun v w' hv => ?_)
  obtain ⟨n2, q2, hn2, rfl, rfl⟩ := hv
  replace hfl := (hfl.le hn2).q q2
  obtain ⟨S1, hS1⟩ : ∃ y, (F_L_secure S a1 a2).2 = y := ⟨_, rfl⟩
  rw [hS1] at hs kk ⊢
  obtain ⟨k0, hk0⟩ : ∃ y, (F_L_secure S a1 a2).1 = y := ⟨_, rfl⟩
  try rw [hk0] at hs
  rw [hk0]
  show z_G X zm_law (413, [(0, z_s), (1, z_r 0), (2, z_r 78), (3, z_r 193), (4, .inl i)], [.inl k0], zW T' (zwG G' q2) S1 n2, nc + 1, ns + 6)
  refine z_go2 C 413 [(.istore 5, 2), (.aload_n 2, 1), (.aload_n 0, 1), (.iload 4, 2), (.iconst 1, 1), (.iadd, 1)] (421, [(5, .inl k0), (0, z_s), (1, z_r 0), (2, z_r 78), (3, z_r 193), (4, .inl i)], [.inl (i + 1), z_s, z_r 78], zW T' (zwG G' q2) S1 n2, nc + 1, ns + 6) (by decide +kernel) rfl ⟨trivial, trivial, trivial, trivial, trivial, trivial, trivial⟩ ?_
  refine z_sld (v := a1) C (by decide +kernel) hA.g1.1 hA.g1.2 ?_
  refine z_go2 C 422 [(.aload_n 0, 1), (.iload 4, 2), (.iconst 2, 1), (.iadd, 1)] (427, [(5, .inl k0), (0, z_s), (1, z_r 0), (2, z_r 78), (3, z_r 193), (4, .inl i)], [.inl (i + 2), z_s, .inl a1, z_r 78], zW T' (zwG G' q2) S1 n2, nc + 1, ns + 6) (by decide +kernel) rfl ⟨trivial, trivial, trivial, trivial, trivial⟩ ?_
  refine z_sld (v := a2) C (by decide +kernel) hA.g2.1 hA.g2.2 ?_
  obtain ⟨hs1, hs⟩ := hs
  refine z_callV C (av := [.inl a1, .inl a2]) (st := []) (a := 78) (ci := 14) (by decide +kernel) (c_M_secure T' (zwG G' q2) S1 n2 a1 a2 hs1) hrm zl_L_165 zv_M_secure rfl rfl rfl (zLfit (a := 1) (b := 6) (by decide) (by decide) (by decide) (by decide) hnc hns) rfl (Nat.le_of_ble_eq_true rfl) (fun v w' hv => ?_)
  obtain ⟨rfl, rfl⟩ := hv
  show z_G X zm_law (431, [(5, .inl k0), (0, z_s), (1, z_r 0), (2, z_r 78), (3, z_r 193), (4, .inl i)], [.inl (F_M_secure S1 a1 a2).1], zW T' (zwG G' q2) (F_M_secure S1 a1 a2).2 n2, nc + 1, ns + 6)
  refine z_go2 C 431 [(.istore 6, 2), (.aload_n 2, 1)] (434, [(6, .inl (F_M_secure S1 a1 a2).1), (5, .inl k0), (0, z_s), (1, z_r 0), (2, z_r 78), (3, z_r 193), (4, .inl i)], [z_r 78], zW T' (zwG G' q2) (F_M_secure S1 a1 a2).2 n2, nc + 1, ns + 6) (by decide +kernel) rfl ⟨trivial, trivial, trivial⟩ ?_
  refine z_callV C (av := []) (st := []) (a := 78) (ci := 14) (by decide +kernel) (c_M_thrown T' (zwG G' q2) (F_M_secure S1 a1 a2).2 n2) hrm zl_L_156 zv_M_thrown rfl rfl rfl (zLfit (a := 1) (b := 6) (by decide) (by decide) (by decide) (by decide) hnc hns) rfl (Nat.le_of_ble_eq_true rfl) (fun v w' hv => ?_)
  obtain ⟨rfl, rfl⟩ := hv
  show z_G X zm_law (437, [(6, .inl (F_M_secure S1 a1 a2).1), (5, .inl k0), (0, z_s), (1, z_r 0), (2, z_r 78), (3, z_r 193), (4, .inl i)], [.inl (F_M_thrown (F_M_secure S1 a1 a2).2)], zW T' (zwG G' q2) (F_M_secure S1 a1 a2).2 n2, nc + 1, ns + 6)
  refine z_go2 C 437 [(.iload 5, 2)] (439, [(6, .inl (F_M_secure S1 a1 a2).1), (5, .inl k0), (0, z_s), (1, z_r 0), (2, z_r 78), (3, z_r 193), (4, .inl i)], [.inl k0, .inl (F_M_thrown (F_M_secure S1 a1 a2).2)], zW T' (zwG G' q2) (F_M_secure S1 a1 a2).2 n2, nc + 1, ns + 6) (by decide +kernel) rfl ⟨trivial, trivial⟩ ?_
  refine z_icmp_eq 444 C (off := 5) (by decide +kernel) (by decide) (fun c => ?_) (fun c => absurd hs.1 c)
  refine z_go2 C 444 [(.iload 5, 2)] (446, [(6, .inl (F_M_secure S1 a1 a2).1), (5, .inl k0), (0, z_s), (1, z_r 0), (2, z_r 78), (3, z_r 193), (4, .inl i)], [.inl k0], zW T' (zwG G' q2) (F_M_secure S1 a1 a2).2 n2, nc + 1, ns + 6) (by decide +kernel) rfl ⟨trivial, trivial⟩ ?_
  refine z_if_ne 461 C (off := 15) (by decide +kernel) (by decide) (fun c => ?_) (fun c => ?_)
  · refine z_go2 C 461 [(.goto 2851, 3)] (3312, [(6, .inl (F_M_secure S1 a1 a2).1), (5, .inl k0), (0, z_s), (1, z_r 0), (2, z_r 78), (3, z_r 193), (4, .inl i)], [], zW T' (zwG G' q2) (F_M_secure S1 a1 a2).2 n2, nc + 1, ns + 6) (by decide +kernel) rfl ⟨trivial, trivial⟩ ?_
    exact z_lvs (lv' := zLV i) [2, 3, 4, 5, 6] rfl (z_wid (nc' := nc + 20) (ns' := ns + 200) (zLwid (a := 1) (by decide)) (zLwid (a := 6) (by decide)) (kk _ _ _ _ hn2 hfl))
  · refine z_go2 C 449 [(.aload_n 3, 1), (.iconst 0, 1), (.laload, 1), (.iload 6, 2), (.i2l, 1), (.lcmp, 1)] (456, [(6, .inl (F_M_secure S1 a1 a2).1), (5, .inl k0), (0, z_s), (1, z_r 0), (2, z_r 78), (3, z_r 193), (4, .inl i)], [.inl (lg_cmp ((F_M_secure S1 a1 a2).2 193 0).toInt64 (F_M_secure S1 a1 a2).1.toInt64)], zW T' (zwG G' q2) (F_M_secure S1 a1 a2).2 n2, nc + 1, ns + 6) (by decide +kernel) rfl ⟨trivial, trivial, ⟨rfl, (show vp_in 0 1 by unfold vp_in; decide)⟩, trivial, trivial, trivial, trivial⟩ ?_
    refine z_if_eq 461 C (off := 5) (by decide +kernel) (by decide) (fun c2 => ?_) (fun c2 => absurd (by rw [hs.2 c]; exact lg_cmp_self _) c2)
    refine z_go2 C 461 [(.goto 2851, 3)] (3312, [(6, .inl (F_M_secure S1 a1 a2).1), (5, .inl k0), (0, z_s), (1, z_r 0), (2, z_r 78), (3, z_r 193), (4, .inl i)], [], zW T' (zwG G' q2) (F_M_secure S1 a1 a2).2 n2, nc + 1, ns + 6) (by decide +kernel) rfl ⟨trivial, trivial⟩ ?_
    exact z_lvs (lv' := zLV i) [2, 3, 4, 5, 6] rfl (z_wid (nc' := nc + 20) (ns' := ns + 200) (zLwid (a := 1) (by decide)) (zLwid (a := 6) (by decide)) (kk _ _ _ _ hn2 hfl))
def Fl_3 (fl : Nat → Nat) (S : (Nat → Nat → Int32)) (a1 a2 a3 a4 a5 a6 : Int32) : (Nat → Nat → Int32) := (F_M_reads_2 (F_L_reads S a1 a2).2 a1 a2).2
def Sl_3 (fl : Nat → Nat) (S : (Nat → Nat → Int32)) (a1 a2 a3 a4 a5 a6 : Int32) : Prop := Sf_L_reads S a1 a2 ∧ Sf_M_reads_2 (F_L_reads S a1 a2).2 a1 a2 ∧ (F_M_thrown (F_M_reads_2 (F_L_reads S a1 a2).2 a1 a2).2 = (F_L_reads S a1 a2).1 ∧ ((F_L_reads S a1 a2).1 = 0 → (F_M_reads_2 (F_L_reads S a1 a2).2 a1 a2).2 193 0 = (F_M_reads_2 (F_L_reads S a1 a2).2 a1 a2).1))
theorem l_3 {X : z_X} (C : z_C X zm_law) (hrm : X.2.2.2.1 = room_1) {T' : Nat → Nat × Nat} {G' : Nat → Nat → Option Nat} {n q nc ns : Nat} {fl : Nat → Nat} (S : (Nat → Nat → Int32)) (i a1 a2 a3 a4 a5 a6 : Int32) (hA : zArg X i a1 a2 a3 a4 a5 a6) (hfl : zOK T' (zwG G' q) fl n) (hnc : nc + 20 ≤ 601024) (hns : ns + 200 ≤ 7293034) (hs : Sl_3 fl S a1 a2 a3 a4 a5 a6) (kk : ∀ T2 G2 n2 q2, n ≤ n2 → zOK T2 (zwG G2 q2) fl n2 → z_G X zm_law (3312, zLV i, [], zW T2 (zwG G2 q2) (Fl_3 fl S a1 a2 a3 a4 a5 a6) n2, nc + 20, ns + 200)) : z_G X zm_law (464, zLV i, [], zW T' (zwG G' q) S n, nc, ns) := by
  unfold Sl_3 at hs
  unfold Fl_3 at kk
  refine z_go2 C 464 [(.aload_n 1, 1), (.aload_n 0, 1), (.iload 4, 2), (.iconst 1, 1), (.iadd, 1)] (470, [(0, z_s), (1, z_r 0), (2, z_r 78), (3, z_r 193), (4, .inl i)], [.inl (i + 1), z_s, z_r 0], zW T' (zwG G' q) S n, nc, ns) (by decide +kernel) rfl ⟨trivial, trivial, trivial, trivial, trivial, trivial⟩ ?_
  refine z_sld (v := a1) C (by decide +kernel) hA.g1.1 hA.g1.2 ?_
  refine z_go2 C 471 [(.aload_n 0, 1), (.iload 4, 2), (.iconst 2, 1), (.iadd, 1)] (476, [(0, z_s), (1, z_r 0), (2, z_r 78), (3, z_r 193), (4, .inl i)], [.inl (i + 2), z_s, .inl a1, z_r 0], zW T' (zwG G' q) S n, nc, ns) (by decide +kernel) rfl ⟨trivial, trivial, trivial, trivial, trivial⟩ ?_
  refine z_sld (v := a2) C (by decide +kernel) hA.g2.1 hA.g2.2 ?_
  refine z_go2 C 477 [(.aload_n 3, 1)] (478, [(0, z_s), (1, z_r 0), (2, z_r 78), (3, z_r 193), (4, .inl i)], [z_r 193, .inl a2, .inl a1, z_r 0], zW T' (zwG G' q) S n, nc, ns) (by decide +kernel) rfl ⟨trivial, trivial⟩ ?_
  obtain ⟨hs1, hs⟩ := hs
  refine z_callH (idx := 166) (hh := hh_L_reads) C (av := [z_r 0, .inl a1, .inl a2, z_r 193]) (st := []) (by decide +kernel) (c_L_reads T' G' q S n a1 a2 hs1) hrm (z_wi 884 (by decide +kernel) rfl) (z_wi 152 (by decide +kernel) rfl) ⟨by decide +kernel, by decide +kernel⟩ (show (parseMethodDescriptor zm_L_reads.1.desc).map (fun d => d.parameters.length) = some 4 by decide +kernel) (z_wi 882 (by decide +kernel) rfl) (z_wi 883 (by decide +kernel) rfl) (zLfit (a := 0) (b := 0) (by decide) (by decide) (by decide) (by decide) hnc hns) rfl (Nat.le_of_ble_eq_true rfl) (fun v w' hv => ?_)
  obtain ⟨n2, q2, hn2, rfl, rfl⟩ := hv
  replace hfl := (hfl.le hn2).q q2
  obtain ⟨S1, hS1⟩ : ∃ y, (F_L_reads S a1 a2).2 = y := ⟨_, rfl⟩
  rw [hS1] at hs kk ⊢
  obtain ⟨k0, hk0⟩ : ∃ y, (F_L_reads S a1 a2).1 = y := ⟨_, rfl⟩
  try rw [hk0] at hs
  rw [hk0]
  show z_G X zm_law (481, [(0, z_s), (1, z_r 0), (2, z_r 78), (3, z_r 193), (4, .inl i)], [.inl k0], zW T' (zwG G' q2) S1 n2, nc + 1, ns + 6)
  refine z_go2 C 481 [(.istore 5, 2), (.aload_n 2, 1), (.aload_n 0, 1), (.iload 4, 2), (.iconst 1, 1), (.iadd, 1)] (489, [(5, .inl k0), (0, z_s), (1, z_r 0), (2, z_r 78), (3, z_r 193), (4, .inl i)], [.inl (i + 1), z_s, z_r 78], zW T' (zwG G' q2) S1 n2, nc + 1, ns + 6) (by decide +kernel) rfl ⟨trivial, trivial, trivial, trivial, trivial, trivial, trivial⟩ ?_
  refine z_sld (v := a1) C (by decide +kernel) hA.g1.1 hA.g1.2 ?_
  refine z_go2 C 490 [(.aload_n 0, 1), (.iload 4, 2), (.iconst 2, 1), (.iadd, 1)] (495, [(5, .inl k0), (0, z_s), (1, z_r 0), (2, z_r 78), (3, z_r 193), (4, .inl i)], [.inl (i + 2), z_s, .inl a1, z_r 78], zW T' (zwG G' q2) S1 n2, nc + 1, ns + 6) (by decide +kernel) rfl ⟨trivial, trivial, trivial, trivial, trivial⟩ ?_
  refine z_sld (v := a2) C (by decide +kernel) hA.g2.1 hA.g2.2 ?_
  obtain ⟨hs1, hs⟩ := hs
  refine z_callV C (av := [.inl a1, .inl a2]) (st := []) (a := 78) (ci := 14) (by decide +kernel) (c_M_reads_2 T' (zwG G' q2) S1 n2 a1 a2 hs1) hrm zl_L_168 zv_M_reads_2 rfl rfl rfl (zLfit (a := 1) (b := 6) (by decide) (by decide) (by decide) (by decide) hnc hns) rfl (Nat.le_of_ble_eq_true rfl) (fun v w' hv => ?_)
  obtain ⟨rfl, rfl⟩ := hv
  show z_G X zm_law (499, [(5, .inl k0), (0, z_s), (1, z_r 0), (2, z_r 78), (3, z_r 193), (4, .inl i)], [.inl (F_M_reads_2 S1 a1 a2).1], zW T' (zwG G' q2) (F_M_reads_2 S1 a1 a2).2 n2, nc + 1, ns + 6)
  refine z_go2 C 499 [(.istore 6, 2), (.aload_n 2, 1)] (502, [(6, .inl (F_M_reads_2 S1 a1 a2).1), (5, .inl k0), (0, z_s), (1, z_r 0), (2, z_r 78), (3, z_r 193), (4, .inl i)], [z_r 78], zW T' (zwG G' q2) (F_M_reads_2 S1 a1 a2).2 n2, nc + 1, ns + 6) (by decide +kernel) rfl ⟨trivial, trivial, trivial⟩ ?_
  refine z_callV C (av := []) (st := []) (a := 78) (ci := 14) (by decide +kernel) (c_M_thrown T' (zwG G' q2) (F_M_reads_2 S1 a1 a2).2 n2) hrm zl_L_156 zv_M_thrown rfl rfl rfl (zLfit (a := 1) (b := 6) (by decide) (by decide) (by decide) (by decide) hnc hns) rfl (Nat.le_of_ble_eq_true rfl) (fun v w' hv => ?_)
  obtain ⟨rfl, rfl⟩ := hv
  show z_G X zm_law (505, [(6, .inl (F_M_reads_2 S1 a1 a2).1), (5, .inl k0), (0, z_s), (1, z_r 0), (2, z_r 78), (3, z_r 193), (4, .inl i)], [.inl (F_M_thrown (F_M_reads_2 S1 a1 a2).2)], zW T' (zwG G' q2) (F_M_reads_2 S1 a1 a2).2 n2, nc + 1, ns + 6)
  refine z_go2 C 505 [(.iload 5, 2)] (507, [(6, .inl (F_M_reads_2 S1 a1 a2).1), (5, .inl k0), (0, z_s), (1, z_r 0), (2, z_r 78), (3, z_r 193), (4, .inl i)], [.inl k0, .inl (F_M_thrown (F_M_reads_2 S1 a1 a2).2)], zW T' (zwG G' q2) (F_M_reads_2 S1 a1 a2).2 n2, nc + 1, ns + 6) (by decide +kernel) rfl ⟨trivial, trivial⟩ ?_
  refine z_icmp_eq 512 C (off := 5) (by decide +kernel) (by decide) (fun c => ?_) (fun c => absurd hs.1 c)
  refine z_go2 C 512 [(.iload 5, 2)] (514, [(6, .inl (F_M_reads_2 S1 a1 a2).1), (5, .inl k0), (0, z_s), (1, z_r 0), (2, z_r 78), (3, z_r 193), (4, .inl i)], [.inl k0], zW T' (zwG G' q2) (F_M_reads_2 S1 a1 a2).2 n2, nc + 1, ns + 6) (by decide +kernel) rfl ⟨trivial, trivial⟩ ?_
  refine z_if_ne 529 C (off := 15) (by decide +kernel) (by decide) (fun c => ?_) (fun c => ?_)
  · refine z_go2 C 529 [(.goto 2783, 3)] (3312, [(6, .inl (F_M_reads_2 S1 a1 a2).1), (5, .inl k0), (0, z_s), (1, z_r 0), (2, z_r 78), (3, z_r 193), (4, .inl i)], [], zW T' (zwG G' q2) (F_M_reads_2 S1 a1 a2).2 n2, nc + 1, ns + 6) (by decide +kernel) rfl ⟨trivial, trivial⟩ ?_
    exact z_lvs (lv' := zLV i) [2, 3, 4, 5, 6] rfl (z_wid (nc' := nc + 20) (ns' := ns + 200) (zLwid (a := 1) (by decide)) (zLwid (a := 6) (by decide)) (kk _ _ _ _ hn2 hfl))
  · refine z_go2 C 517 [(.aload_n 3, 1), (.iconst 0, 1), (.laload, 1), (.iload 6, 2), (.i2l, 1), (.lcmp, 1)] (524, [(6, .inl (F_M_reads_2 S1 a1 a2).1), (5, .inl k0), (0, z_s), (1, z_r 0), (2, z_r 78), (3, z_r 193), (4, .inl i)], [.inl (lg_cmp ((F_M_reads_2 S1 a1 a2).2 193 0).toInt64 (F_M_reads_2 S1 a1 a2).1.toInt64)], zW T' (zwG G' q2) (F_M_reads_2 S1 a1 a2).2 n2, nc + 1, ns + 6) (by decide +kernel) rfl ⟨trivial, trivial, ⟨rfl, (show vp_in 0 1 by unfold vp_in; decide)⟩, trivial, trivial, trivial, trivial⟩ ?_
    refine z_if_eq 529 C (off := 5) (by decide +kernel) (by decide) (fun c2 => ?_) (fun c2 => absurd (by rw [hs.2 c]; exact lg_cmp_self _) c2)
    refine z_go2 C 529 [(.goto 2783, 3)] (3312, [(6, .inl (F_M_reads_2 S1 a1 a2).1), (5, .inl k0), (0, z_s), (1, z_r 0), (2, z_r 78), (3, z_r 193), (4, .inl i)], [], zW T' (zwG G' q2) (F_M_reads_2 S1 a1 a2).2 n2, nc + 1, ns + 6) (by decide +kernel) rfl ⟨trivial, trivial⟩ ?_
    exact z_lvs (lv' := zLV i) [2, 3, 4, 5, 6] rfl (z_wid (nc' := nc + 20) (ns' := ns + 200) (zLwid (a := 1) (by decide)) (zLwid (a := 6) (by decide)) (kk _ _ _ _ hn2 hfl))
def Fl_4 (fl : Nat → Nat) (S : (Nat → Nat → Int32)) (a1 a2 a3 a4 a5 a6 : Int32) : (Nat → Nat → Int32) := (F_M_pass (F_L_pass S a1).2 a1).2
def Sl_4 (fl : Nat → Nat) (S : (Nat → Nat → Int32)) (a1 a2 a3 a4 a5 a6 : Int32) : Prop := Sf_L_pass S a1 ∧ (F_M_thrown (F_M_pass (F_L_pass S a1).2 a1).2 = (F_L_pass S a1).1 ∧ ((F_L_pass S a1).1 = 0 → (F_M_pass (F_L_pass S a1).2 a1).2 193 0 = (F_M_pass (F_L_pass S a1).2 a1).1))
theorem l_4 {X : z_X} (C : z_C X zm_law) (hrm : X.2.2.2.1 = room_1) {T' : Nat → Nat × Nat} {G' : Nat → Nat → Option Nat} {n q nc ns : Nat} {fl : Nat → Nat} (S : (Nat → Nat → Int32)) (i a1 a2 a3 a4 a5 a6 : Int32) (hA : zArg X i a1 a2 a3 a4 a5 a6) (hfl : zOK T' (zwG G' q) fl n) (hnc : nc + 20 ≤ 601024) (hns : ns + 200 ≤ 7293034) (hs : Sl_4 fl S a1 a2 a3 a4 a5 a6) (kk : ∀ T2 G2 n2 q2, n ≤ n2 → zOK T2 (zwG G2 q2) fl n2 → z_G X zm_law (3312, zLV i, [], zW T2 (zwG G2 q2) (Fl_4 fl S a1 a2 a3 a4 a5 a6) n2, nc + 20, ns + 200)) : z_G X zm_law (532, zLV i, [], zW T' (zwG G' q) S n, nc, ns) := by
  unfold Sl_4 at hs
  unfold Fl_4 at kk
  refine z_go2 C 532 [(.aload_n 1, 1), (.aload_n 0, 1), (.iload 4, 2), (.iconst 1, 1), (.iadd, 1)] (538, [(0, z_s), (1, z_r 0), (2, z_r 78), (3, z_r 193), (4, .inl i)], [.inl (i + 1), z_s, z_r 0], zW T' (zwG G' q) S n, nc, ns) (by decide +kernel) rfl ⟨trivial, trivial, trivial, trivial, trivial, trivial⟩ ?_
  refine z_sld (v := a1) C (by decide +kernel) hA.g1.1 hA.g1.2 ?_
  refine z_go2 C 539 [(.aload_n 3, 1)] (540, [(0, z_s), (1, z_r 0), (2, z_r 78), (3, z_r 193), (4, .inl i)], [z_r 193, .inl a1, z_r 0], zW T' (zwG G' q) S n, nc, ns) (by decide +kernel) rfl ⟨trivial, trivial⟩ ?_
  obtain ⟨hs1, hs⟩ := hs
  refine z_callH (idx := 169) (hh := hh_L_pass) C (av := [z_r 0, .inl a1, z_r 193]) (st := []) (by decide +kernel) (c_L_pass T' G' q S n a1 hs1) hrm (z_wi 894 (by decide +kernel) rfl) (z_wi 152 (by decide +kernel) rfl) ⟨by decide +kernel, by decide +kernel⟩ (show (parseMethodDescriptor zm_L_pass.1.desc).map (fun d => d.parameters.length) = some 3 by decide +kernel) (z_wi 892 (by decide +kernel) rfl) (z_wi 893 (by decide +kernel) rfl) (zLfit (a := 0) (b := 0) (by decide) (by decide) (by decide) (by decide) hnc hns) rfl (Nat.le_of_ble_eq_true rfl) (fun v w' hv => ?_)
  obtain ⟨n2, q2, hn2, rfl, rfl⟩ := hv
  replace hfl := (hfl.le hn2).q q2
  obtain ⟨S1, hS1⟩ : ∃ y, (F_L_pass S a1).2 = y := ⟨_, rfl⟩
  rw [hS1] at hs kk ⊢
  obtain ⟨k0, hk0⟩ : ∃ y, (F_L_pass S a1).1 = y := ⟨_, rfl⟩
  try rw [hk0] at hs
  rw [hk0]
  show z_G X zm_law (543, [(0, z_s), (1, z_r 0), (2, z_r 78), (3, z_r 193), (4, .inl i)], [.inl k0], zW T' (zwG G' q2) S1 n2, nc + 2, ns + 12)
  refine z_go2 C 543 [(.istore 5, 2), (.aload_n 2, 1), (.aload_n 0, 1), (.iload 4, 2), (.iconst 1, 1), (.iadd, 1)] (551, [(5, .inl k0), (0, z_s), (1, z_r 0), (2, z_r 78), (3, z_r 193), (4, .inl i)], [.inl (i + 1), z_s, z_r 78], zW T' (zwG G' q2) S1 n2, nc + 2, ns + 12) (by decide +kernel) rfl ⟨trivial, trivial, trivial, trivial, trivial, trivial, trivial⟩ ?_
  refine z_sld (v := a1) C (by decide +kernel) hA.g1.1 hA.g1.2 ?_
  refine z_callV C (av := [.inl a1]) (st := []) (a := 78) (ci := 14) (by decide +kernel) (c_M_pass T' (zwG G' q2) S1 n2 a1) hrm zl_L_172 zv_M_pass rfl rfl rfl (zLfit (a := 2) (b := 12) (by decide) (by decide) (by decide) (by decide) hnc hns) rfl (Nat.le_of_ble_eq_true rfl) (fun v w' hv => ?_)
  obtain ⟨rfl, rfl⟩ := hv
  show z_G X zm_law (555, [(5, .inl k0), (0, z_s), (1, z_r 0), (2, z_r 78), (3, z_r 193), (4, .inl i)], [.inl (F_M_pass S1 a1).1], zW T' (zwG G' q2) (F_M_pass S1 a1).2 n2, nc + 2, ns + 12)
  refine z_go2 C 555 [(.istore 6, 2), (.aload_n 2, 1)] (558, [(6, .inl (F_M_pass S1 a1).1), (5, .inl k0), (0, z_s), (1, z_r 0), (2, z_r 78), (3, z_r 193), (4, .inl i)], [z_r 78], zW T' (zwG G' q2) (F_M_pass S1 a1).2 n2, nc + 2, ns + 12) (by decide +kernel) rfl ⟨trivial, trivial, trivial⟩ ?_
  refine z_callV C (av := []) (st := []) (a := 78) (ci := 14) (by decide +kernel) (c_M_thrown T' (zwG G' q2) (F_M_pass S1 a1).2 n2) hrm zl_L_156 zv_M_thrown rfl rfl rfl (zLfit (a := 2) (b := 12) (by decide) (by decide) (by decide) (by decide) hnc hns) rfl (Nat.le_of_ble_eq_true rfl) (fun v w' hv => ?_)
  obtain ⟨rfl, rfl⟩ := hv
  show z_G X zm_law (561, [(6, .inl (F_M_pass S1 a1).1), (5, .inl k0), (0, z_s), (1, z_r 0), (2, z_r 78), (3, z_r 193), (4, .inl i)], [.inl (F_M_thrown (F_M_pass S1 a1).2)], zW T' (zwG G' q2) (F_M_pass S1 a1).2 n2, nc + 2, ns + 12)
  refine z_go2 C 561 [(.iload 5, 2)] (563, [(6, .inl (F_M_pass S1 a1).1), (5, .inl k0), (0, z_s), (1, z_r 0), (2, z_r 78), (3, z_r 193), (4, .inl i)], [.inl k0, .inl (F_M_thrown (F_M_pass S1 a1).2)], zW T' (zwG G' q2) (F_M_pass S1 a1).2 n2, nc + 2, ns + 12) (by decide +kernel) rfl ⟨trivial, trivial⟩ ?_
  refine z_icmp_eq 568 C (off := 5) (by decide +kernel) (by decide) (fun c => ?_) (fun c => absurd hs.1 c)
  refine z_go2 C 568 [(.iload 5, 2)] (570, [(6, .inl (F_M_pass S1 a1).1), (5, .inl k0), (0, z_s), (1, z_r 0), (2, z_r 78), (3, z_r 193), (4, .inl i)], [.inl k0], zW T' (zwG G' q2) (F_M_pass S1 a1).2 n2, nc + 2, ns + 12) (by decide +kernel) rfl ⟨trivial, trivial⟩ ?_
  refine z_if_ne 585 C (off := 15) (by decide +kernel) (by decide) (fun c => ?_) (fun c => ?_)
  · refine z_go2 C 585 [(.goto 2727, 3)] (3312, [(6, .inl (F_M_pass S1 a1).1), (5, .inl k0), (0, z_s), (1, z_r 0), (2, z_r 78), (3, z_r 193), (4, .inl i)], [], zW T' (zwG G' q2) (F_M_pass S1 a1).2 n2, nc + 2, ns + 12) (by decide +kernel) rfl ⟨trivial, trivial⟩ ?_
    exact z_lvs (lv' := zLV i) [2, 3, 4, 5, 6] rfl (z_wid (nc' := nc + 20) (ns' := ns + 200) (zLwid (a := 2) (by decide)) (zLwid (a := 12) (by decide)) (kk _ _ _ _ hn2 hfl))
  · refine z_go2 C 573 [(.aload_n 3, 1), (.iconst 0, 1), (.laload, 1), (.iload 6, 2), (.i2l, 1), (.lcmp, 1)] (580, [(6, .inl (F_M_pass S1 a1).1), (5, .inl k0), (0, z_s), (1, z_r 0), (2, z_r 78), (3, z_r 193), (4, .inl i)], [.inl (lg_cmp ((F_M_pass S1 a1).2 193 0).toInt64 (F_M_pass S1 a1).1.toInt64)], zW T' (zwG G' q2) (F_M_pass S1 a1).2 n2, nc + 2, ns + 12) (by decide +kernel) rfl ⟨trivial, trivial, ⟨rfl, (show vp_in 0 1 by unfold vp_in; decide)⟩, trivial, trivial, trivial, trivial⟩ ?_
    refine z_if_eq 585 C (off := 5) (by decide +kernel) (by decide) (fun c2 => ?_) (fun c2 => absurd (by rw [hs.2 c]; exact lg_cmp_self _) c2)
    refine z_go2 C 585 [(.goto 2727, 3)] (3312, [(6, .inl (F_M_pass S1 a1).1), (5, .inl k0), (0, z_s), (1, z_r 0), (2, z_r 78), (3, z_r 193), (4, .inl i)], [], zW T' (zwG G' q2) (F_M_pass S1 a1).2 n2, nc + 2, ns + 12) (by decide +kernel) rfl ⟨trivial, trivial⟩ ?_
    exact z_lvs (lv' := zLV i) [2, 3, 4, 5, 6] rfl (z_wid (nc' := nc + 20) (ns' := ns + 200) (zLwid (a := 2) (by decide)) (zLwid (a := 12) (by decide)) (kk _ _ _ _ hn2 hfl))
def Fl_5 (fl : Nat → Nat) (S : (Nat → Nat → Int32)) (a1 a2 a3 a4 a5 a6 : Int32) : (Nat → Nat → Int32) := (F_M_index (F_T_index S).2).2
def Sl_5 (fl : Nat → Nat) (S : (Nat → Nat → Int32)) (a1 a2 a3 a4 a5 a6 : Int32) : Prop := (F_T_index S).1 = (F_M_index (F_T_index S).2).1
theorem l_5 {X : z_X} (C : z_C X zm_law) (hrm : X.2.2.2.1 = room_1) {T' : Nat → Nat × Nat} {G' : Nat → Nat → Option Nat} {n q nc ns : Nat} {fl : Nat → Nat} (S : (Nat → Nat → Int32)) (i a1 a2 a3 a4 a5 a6 : Int32) (hA : zArg X i a1 a2 a3 a4 a5 a6) (hfl : zOK T' (zwG G' q) fl n) (hnc : nc + 20 ≤ 601024) (hns : ns + 200 ≤ 7293034) (hs : Sl_5 fl S a1 a2 a3 a4 a5 a6) (kk : ∀ T2 G2 n2 q2, n ≤ n2 → zOK T2 (zwG G2 q2) fl n2 → z_G X zm_law (3312, zLV i, [], zW T2 (zwG G2 q2) (Fl_5 fl S a1 a2 a3 a4 a5 a6) n2, nc + 20, ns + 200)) : z_G X zm_law (588, zLV i, [], zW T' (zwG G' q) S n, nc, ns) := by
  unfold Sl_5 at hs
  unfold Fl_5 at kk
  refine z_go2 C 588 [(.aload_n 1, 1)] (589, [(0, z_s), (1, z_r 0), (2, z_r 78), (3, z_r 193), (4, .inl i)], [z_r 0], zW T' (zwG G' q) S n, nc, ns) (by decide +kernel) rfl ⟨trivial, trivial⟩ ?_
  refine z_callV C (av := []) (st := []) (a := 0) (ci := 11) (by decide +kernel) (c_T_index T' (zwG G' q) S n) hrm zl_L_173 zv_T_index rfl rfl rfl (zLfit (a := 0) (b := 0) (by decide) (by decide) (by decide) (by decide) hnc hns) rfl (Nat.le_of_ble_eq_true rfl) (fun v w' hv => ?_)
  obtain ⟨rfl, rfl⟩ := hv
  show z_G X zm_law (592, [(0, z_s), (1, z_r 0), (2, z_r 78), (3, z_r 193), (4, .inl i)], [.inl (F_T_index S).1], zW T' (zwG G' q) (F_T_index S).2 n, nc, ns)
  refine z_go2 C 592 [(.aload_n 2, 1)] (593, [(0, z_s), (1, z_r 0), (2, z_r 78), (3, z_r 193), (4, .inl i)], [z_r 78, .inl (F_T_index S).1], zW T' (zwG G' q) (F_T_index S).2 n, nc, ns) (by decide +kernel) rfl ⟨trivial, trivial⟩ ?_
  refine z_callV C (av := []) (st := [.inl (F_T_index S).1]) (a := 78) (ci := 14) (by decide +kernel) (c_M_index T' (zwG G' q) (F_T_index S).2 n) hrm zl_L_176 zv_M_index rfl rfl rfl (zLfit (a := 0) (b := 0) (by decide) (by decide) (by decide) (by decide) hnc hns) rfl (Nat.le_of_ble_eq_true rfl) (fun v w' hv => ?_)
  obtain ⟨rfl, rfl⟩ := hv
  show z_G X zm_law (596, [(0, z_s), (1, z_r 0), (2, z_r 78), (3, z_r 193), (4, .inl i)], [.inl (F_M_index (F_T_index S).2).1, .inl (F_T_index S).1], zW T' (zwG G' q) (F_M_index (F_T_index S).2).2 n, nc, ns)
  refine z_icmp_eq 3312 C (off := 2716) (by decide +kernel) (by decide) (fun c => ?_) (fun c => absurd hs c)
  exact z_lvs (lv' := zLV i) [0, 1, 2, 3, 4] rfl (z_wid (nc' := nc + 20) (ns' := ns + 200) (zLwid (a := 0) (by decide)) (zLwid (a := 0) (by decide)) (kk _ _ _ _ (Nat.le_refl _) hfl))
def Fl_6 (fl : Nat → Nat) (S : (Nat → Nat → Int32)) (a1 a2 a3 a4 a5 a6 : Int32) : (Nat → Nat → Int32) := (F_M_entries S).2
def Sl_6 (fl : Nat → Nat) (S : (Nat → Nat → Int32)) (a1 a2 a3 a4 a5 a6 : Int32) : Prop := (F_T_entries S) = (F_M_entries S).1
theorem l_6 {X : z_X} (C : z_C X zm_law) (hrm : X.2.2.2.1 = room_1) {T' : Nat → Nat × Nat} {G' : Nat → Nat → Option Nat} {n q nc ns : Nat} {fl : Nat → Nat} (S : (Nat → Nat → Int32)) (i a1 a2 a3 a4 a5 a6 : Int32) (hA : zArg X i a1 a2 a3 a4 a5 a6) (hfl : zOK T' (zwG G' q) fl n) (hnc : nc + 20 ≤ 601024) (hns : ns + 200 ≤ 7293034) (hs : Sl_6 fl S a1 a2 a3 a4 a5 a6) (kk : ∀ T2 G2 n2 q2, n ≤ n2 → zOK T2 (zwG G2 q2) fl n2 → z_G X zm_law (3312, zLV i, [], zW T2 (zwG G2 q2) (Fl_6 fl S a1 a2 a3 a4 a5 a6) n2, nc + 20, ns + 200)) : z_G X zm_law (601, zLV i, [], zW T' (zwG G' q) S n, nc, ns) := by
  unfold Sl_6 at hs
  unfold Fl_6 at kk
  refine z_go2 C 601 [(.aload_n 1, 1)] (602, [(0, z_s), (1, z_r 0), (2, z_r 78), (3, z_r 193), (4, .inl i)], [z_r 0], zW T' (zwG G' q) S n, nc, ns) (by decide +kernel) rfl ⟨trivial, trivial⟩ ?_
  refine z_callV C (av := []) (st := []) (a := 0) (ci := 11) (by decide +kernel) (c_T_entries T' (zwG G' q) S n) hrm zl_L_177 zv_T_entries rfl rfl rfl (zLfit (a := 0) (b := 0) (by decide) (by decide) (by decide) (by decide) hnc hns) rfl (Nat.le_of_ble_eq_true rfl) (fun v w' hv => ?_)
  obtain ⟨rfl, rfl⟩ := hv
  show z_G X zm_law (605, [(0, z_s), (1, z_r 0), (2, z_r 78), (3, z_r 193), (4, .inl i)], [.inl (F_T_entries S)], zW T' (zwG G' q) S n, nc, ns)
  refine z_go2 C 605 [(.aload_n 2, 1)] (606, [(0, z_s), (1, z_r 0), (2, z_r 78), (3, z_r 193), (4, .inl i)], [z_r 78, .inl (F_T_entries S)], zW T' (zwG G' q) S n, nc, ns) (by decide +kernel) rfl ⟨trivial, trivial⟩ ?_
  refine z_callV C (av := []) (st := [.inl (F_T_entries S)]) (a := 78) (ci := 14) (by decide +kernel) (c_M_entries T' (zwG G' q) S n) hrm zl_L_180 zv_M_entries rfl rfl rfl (zLfit (a := 0) (b := 0) (by decide) (by decide) (by decide) (by decide) hnc hns) rfl (Nat.le_of_ble_eq_true rfl) (fun v w' hv => ?_)
  obtain ⟨rfl, rfl⟩ := hv
  show z_G X zm_law (609, [(0, z_s), (1, z_r 0), (2, z_r 78), (3, z_r 193), (4, .inl i)], [.inl (F_M_entries S).1, .inl (F_T_entries S)], zW T' (zwG G' q) (F_M_entries S).2 n, nc, ns)
  refine z_icmp_eq 3312 C (off := 2703) (by decide +kernel) (by decide) (fun c => ?_) (fun c => absurd hs c)
  exact z_lvs (lv' := zLV i) [0, 1, 2, 3, 4] rfl (z_wid (nc' := nc + 20) (ns' := ns + 200) (zLwid (a := 0) (by decide)) (zLwid (a := 0) (by decide)) (kk _ _ _ _ (Nat.le_refl _) hfl))
def Fl_7 (fl : Nat → Nat) (S : (Nat → Nat → Int32)) (a1 a2 a3 a4 a5 a6 : Int32) : (Nat → Nat → Int32) := (F_M_kind (F_L_kind S a1 a2 a3 a4).2 a1 a2 a3 a4)
def Sl_7 (fl : Nat → Nat) (S : (Nat → Nat → Int32)) (a1 a2 a3 a4 a5 a6 : Int32) : Prop := Sf_L_kind S a1 a2 a3 a4 ∧ Sf_M_kind (F_L_kind S a1 a2 a3 a4).2 a1 a2 a3 a4 ∧ F_M_thrown (F_M_kind (F_L_kind S a1 a2 a3 a4).2 a1 a2 a3 a4) = (F_L_kind S a1 a2 a3 a4).1
theorem l_7 {X : z_X} (C : z_C X zm_law) (hrm : X.2.2.2.1 = room_1) {T' : Nat → Nat × Nat} {G' : Nat → Nat → Option Nat} {n q nc ns : Nat} {fl : Nat → Nat} (S : (Nat → Nat → Int32)) (i a1 a2 a3 a4 a5 a6 : Int32) (hA : zArg X i a1 a2 a3 a4 a5 a6) (hfl : zOK T' (zwG G' q) fl n) (hnc : nc + 20 ≤ 601024) (hns : ns + 200 ≤ 7293034) (hs : Sl_7 fl S a1 a2 a3 a4 a5 a6) (kk : ∀ T2 G2 n2 q2, n ≤ n2 → zOK T2 (zwG G2 q2) fl n2 → z_G X zm_law (3312, zLV i, [], zW T2 (zwG G2 q2) (Fl_7 fl S a1 a2 a3 a4 a5 a6) n2, nc + 20, ns + 200)) : z_G X zm_law (614, zLV i, [], zW T' (zwG G' q) S n, nc, ns) := by
  unfold Sl_7 at hs
  unfold Fl_7 at kk
  refine z_go2 C 614 [(.aload_n 1, 1), (.aload_n 0, 1), (.iload 4, 2), (.iconst 1, 1), (.iadd, 1)] (620, [(0, z_s), (1, z_r 0), (2, z_r 78), (3, z_r 193), (4, .inl i)], [.inl (i + 1), z_s, z_r 0], zW T' (zwG G' q) S n, nc, ns) (by decide +kernel) rfl ⟨trivial, trivial, trivial, trivial, trivial, trivial⟩ ?_
  refine z_sld (v := a1) C (by decide +kernel) hA.g1.1 hA.g1.2 ?_
  refine z_go2 C 621 [(.aload_n 0, 1), (.iload 4, 2), (.iconst 2, 1), (.iadd, 1)] (626, [(0, z_s), (1, z_r 0), (2, z_r 78), (3, z_r 193), (4, .inl i)], [.inl (i + 2), z_s, .inl a1, z_r 0], zW T' (zwG G' q) S n, nc, ns) (by decide +kernel) rfl ⟨trivial, trivial, trivial, trivial, trivial⟩ ?_
  refine z_sld (v := a2) C (by decide +kernel) hA.g2.1 hA.g2.2 ?_
  refine z_go2 C 627 [(.aload_n 0, 1), (.iload 4, 2), (.iconst 3, 1), (.iadd, 1)] (632, [(0, z_s), (1, z_r 0), (2, z_r 78), (3, z_r 193), (4, .inl i)], [.inl (i + 3), z_s, .inl a2, .inl a1, z_r 0], zW T' (zwG G' q) S n, nc, ns) (by decide +kernel) rfl ⟨trivial, trivial, trivial, trivial, trivial⟩ ?_
  refine z_sld (v := a3) C (by decide +kernel) hA.g3.1 hA.g3.2 ?_
  refine z_go2 C 633 [(.aload_n 0, 1), (.iload 4, 2), (.iconst 4, 1), (.iadd, 1)] (638, [(0, z_s), (1, z_r 0), (2, z_r 78), (3, z_r 193), (4, .inl i)], [.inl (i + 4), z_s, .inl a3, .inl a2, .inl a1, z_r 0], zW T' (zwG G' q) S n, nc, ns) (by decide +kernel) rfl ⟨trivial, trivial, trivial, trivial, trivial⟩ ?_
  refine z_sld (v := a4) C (by decide +kernel) hA.g4.1 hA.g4.2 ?_
  obtain ⟨hs1, hs⟩ := hs
  refine z_callH (idx := 181) (hh := hh_L_kind) C (av := [z_r 0, .inl a1, .inl a2, .inl a3, .inl a4]) (st := []) (by decide +kernel) (c_L_kind T' G' q S n a1 a2 a3 a4 hs1) hrm (z_wi 901 (by decide +kernel) rfl) (z_wi 152 (by decide +kernel) rfl) ⟨by decide +kernel, by decide +kernel⟩ (show (parseMethodDescriptor zm_L_kind.1.desc).map (fun d => d.parameters.length) = some 5 by decide +kernel) (z_wi 899 (by decide +kernel) rfl) (z_wi 900 (by decide +kernel) rfl) (zLfit (a := 0) (b := 0) (by decide) (by decide) (by decide) (by decide) hnc hns) rfl (Nat.le_of_ble_eq_true rfl) (fun v w' hv => ?_)
  obtain ⟨n2, q2, hn2, rfl, rfl⟩ := hv
  replace hfl := (hfl.le hn2).q q2
  obtain ⟨S1, hS1⟩ : ∃ y, (F_L_kind S a1 a2 a3 a4).2 = y := ⟨_, rfl⟩
  rw [hS1] at hs kk ⊢
  obtain ⟨k0, hk0⟩ : ∃ y, (F_L_kind S a1 a2 a3 a4).1 = y := ⟨_, rfl⟩
  try rw [hk0] at hs
  rw [hk0]
  show z_G X zm_law (642, [(0, z_s), (1, z_r 0), (2, z_r 78), (3, z_r 193), (4, .inl i)], [.inl k0], zW T' (zwG G' q2) S1 n2, nc + 2, ns + 12)
  refine z_go2 C 642 [(.istore 5, 2), (.aload_n 2, 1), (.aload_n 0, 1), (.iload 4, 2), (.iconst 1, 1), (.iadd, 1)] (650, [(5, .inl k0), (0, z_s), (1, z_r 0), (2, z_r 78), (3, z_r 193), (4, .inl i)], [.inl (i + 1), z_s, z_r 78], zW T' (zwG G' q2) S1 n2, nc + 2, ns + 12) (by decide +kernel) rfl ⟨trivial, trivial, trivial, trivial, trivial, trivial, trivial⟩ ?_
  refine z_sld (v := a1) C (by decide +kernel) hA.g1.1 hA.g1.2 ?_
  refine z_go2 C 651 [(.aload_n 0, 1), (.iload 4, 2), (.iconst 2, 1), (.iadd, 1)] (656, [(5, .inl k0), (0, z_s), (1, z_r 0), (2, z_r 78), (3, z_r 193), (4, .inl i)], [.inl (i + 2), z_s, .inl a1, z_r 78], zW T' (zwG G' q2) S1 n2, nc + 2, ns + 12) (by decide +kernel) rfl ⟨trivial, trivial, trivial, trivial, trivial⟩ ?_
  refine z_sld (v := a2) C (by decide +kernel) hA.g2.1 hA.g2.2 ?_
  refine z_go2 C 657 [(.aload_n 0, 1), (.iload 4, 2), (.iconst 3, 1), (.iadd, 1)] (662, [(5, .inl k0), (0, z_s), (1, z_r 0), (2, z_r 78), (3, z_r 193), (4, .inl i)], [.inl (i + 3), z_s, .inl a2, .inl a1, z_r 78], zW T' (zwG G' q2) S1 n2, nc + 2, ns + 12) (by decide +kernel) rfl ⟨trivial, trivial, trivial, trivial, trivial⟩ ?_
  refine z_sld (v := a3) C (by decide +kernel) hA.g3.1 hA.g3.2 ?_
  refine z_go2 C 663 [(.aload_n 0, 1), (.iload 4, 2), (.iconst 4, 1), (.iadd, 1)] (668, [(5, .inl k0), (0, z_s), (1, z_r 0), (2, z_r 78), (3, z_r 193), (4, .inl i)], [.inl (i + 4), z_s, .inl a3, .inl a2, .inl a1, z_r 78], zW T' (zwG G' q2) S1 n2, nc + 2, ns + 12) (by decide +kernel) rfl ⟨trivial, trivial, trivial, trivial, trivial⟩ ?_
  refine z_sld (v := a4) C (by decide +kernel) hA.g4.1 hA.g4.2 ?_
  obtain ⟨hs1, hs⟩ := hs
  refine z_callV C (av := [.inl a1, .inl a2, .inl a3, .inl a4]) (st := []) (a := 78) (ci := 14) (by decide +kernel) (c_M_kind T' (zwG G' q2) S1 n2 a1 a2 a3 a4 hs1) hrm zl_L_184 zv_M_kind rfl rfl rfl (zLfit (a := 2) (b := 12) (by decide) (by decide) (by decide) (by decide) hnc hns) rfl (Nat.le_of_ble_eq_true rfl) (fun v w' hv => ?_)
  obtain ⟨rfl, rfl⟩ := hv
  show z_G X zm_law (672, [(5, .inl k0), (0, z_s), (1, z_r 0), (2, z_r 78), (3, z_r 193), (4, .inl i)], [], zW T' (zwG G' q2) (F_M_kind S1 a1 a2 a3 a4) n2, nc + 2, ns + 12)
  refine z_go2 C 672 [(.aload_n 2, 1)] (673, [(5, .inl k0), (0, z_s), (1, z_r 0), (2, z_r 78), (3, z_r 193), (4, .inl i)], [z_r 78], zW T' (zwG G' q2) (F_M_kind S1 a1 a2 a3 a4) n2, nc + 2, ns + 12) (by decide +kernel) rfl ⟨trivial, trivial⟩ ?_
  refine z_callV C (av := []) (st := []) (a := 78) (ci := 14) (by decide +kernel) (c_M_thrown T' (zwG G' q2) (F_M_kind S1 a1 a2 a3 a4) n2) hrm zl_L_156 zv_M_thrown rfl rfl rfl (zLfit (a := 2) (b := 12) (by decide) (by decide) (by decide) (by decide) hnc hns) rfl (Nat.le_of_ble_eq_true rfl) (fun v w' hv => ?_)
  obtain ⟨rfl, rfl⟩ := hv
  show z_G X zm_law (676, [(5, .inl k0), (0, z_s), (1, z_r 0), (2, z_r 78), (3, z_r 193), (4, .inl i)], [.inl (F_M_thrown (F_M_kind S1 a1 a2 a3 a4))], zW T' (zwG G' q2) (F_M_kind S1 a1 a2 a3 a4) n2, nc + 2, ns + 12)
  refine z_go2 C 676 [(.iload 5, 2)] (678, [(5, .inl k0), (0, z_s), (1, z_r 0), (2, z_r 78), (3, z_r 193), (4, .inl i)], [.inl k0, .inl (F_M_thrown (F_M_kind S1 a1 a2 a3 a4))], zW T' (zwG G' q2) (F_M_kind S1 a1 a2 a3 a4) n2, nc + 2, ns + 12) (by decide +kernel) rfl ⟨trivial, trivial⟩ ?_
  refine z_icmp_eq 683 C (off := 5) (by decide +kernel) (by decide) (fun c => ?_) (fun c => absurd hs c)
  refine z_go2 C 683 [(.goto 2629, 3)] (3312, [(5, .inl k0), (0, z_s), (1, z_r 0), (2, z_r 78), (3, z_r 193), (4, .inl i)], [], zW T' (zwG G' q2) (F_M_kind S1 a1 a2 a3 a4) n2, nc + 2, ns + 12) (by decide +kernel) rfl ⟨trivial, trivial⟩ ?_
  exact z_lvs (lv' := zLV i) [1, 2, 3, 4, 5] rfl (z_wid (nc' := nc + 20) (ns' := ns + 200) (zLwid (a := 2) (by decide)) (zLwid (a := 12) (by decide)) (kk _ _ _ _ hn2 hfl))
def Fl_8 (fl : Nat → Nat) (S : (Nat → Nat → Int32)) (a1 a2 a3 a4 a5 a6 : Int32) : (Nat → Nat → Int32) := (F_M_draft fl (F_L_draft S a1).2 a1).2
def Sl_8 (fl : Nat → Nat) (S : (Nat → Nat → Int32)) (a1 a2 a3 a4 a5 a6 : Int32) : Prop := Sf_L_draft S a1 ∧ Sf_M_draft fl (F_L_draft S a1).2 a1 ∧ (F_M_thrown (F_M_draft fl (F_L_draft S a1).2 a1).2 = (F_L_draft S a1).1 ∧ ((F_L_draft S a1).1 = 0 → (F_M_draft fl (F_L_draft S a1).2 a1).2 193 0 = (F_M_draft fl (F_L_draft S a1).2 a1).1))
theorem l_8 {X : z_X} (C : z_C X zm_law) (hrm : X.2.2.2.1 = room_1) {T' : Nat → Nat × Nat} {G' : Nat → Nat → Option Nat} {n q nc ns : Nat} {fl : Nat → Nat} (S : (Nat → Nat → Int32)) (i a1 a2 a3 a4 a5 a6 : Int32) (hA : zArg X i a1 a2 a3 a4 a5 a6) (hfl : zOK T' (zwG G' q) fl n) (hnc : nc + 20 ≤ 601024) (hns : ns + 200 ≤ 7293034) (hs : Sl_8 fl S a1 a2 a3 a4 a5 a6) (kk : ∀ T2 G2 n2 q2, n ≤ n2 → zOK T2 (zwG G2 q2) fl n2 → z_G X zm_law (3312, zLV i, [], zW T2 (zwG G2 q2) (Fl_8 fl S a1 a2 a3 a4 a5 a6) n2, nc + 20, ns + 200)) : z_G X zm_law (686, zLV i, [], zW T' (zwG G' q) S n, nc, ns) := by
  unfold Sl_8 at hs
  unfold Fl_8 at kk
  refine z_go2 C 686 [(.aload_n 1, 1), (.aload_n 0, 1), (.iload 4, 2), (.iconst 1, 1), (.iadd, 1)] (692, [(0, z_s), (1, z_r 0), (2, z_r 78), (3, z_r 193), (4, .inl i)], [.inl (i + 1), z_s, z_r 0], zW T' (zwG G' q) S n, nc, ns) (by decide +kernel) rfl ⟨trivial, trivial, trivial, trivial, trivial, trivial⟩ ?_
  refine z_sld (v := a1) C (by decide +kernel) hA.g1.1 hA.g1.2 ?_
  refine z_go2 C 693 [(.aload_n 3, 1)] (694, [(0, z_s), (1, z_r 0), (2, z_r 78), (3, z_r 193), (4, .inl i)], [z_r 193, .inl a1, z_r 0], zW T' (zwG G' q) S n, nc, ns) (by decide +kernel) rfl ⟨trivial, trivial⟩ ?_
  obtain ⟨hs1, hs⟩ := hs
  refine z_callH (idx := 185) (hh := hh_L_draft) C (av := [z_r 0, .inl a1, z_r 193]) (st := []) (by decide +kernel) (c_L_draft T' G' q S n a1 hs1) hrm (z_wi 914 (by decide +kernel) rfl) (z_wi 152 (by decide +kernel) rfl) ⟨by decide +kernel, by decide +kernel⟩ (show (parseMethodDescriptor zm_L_draft.1.desc).map (fun d => d.parameters.length) = some 3 by decide +kernel) (z_wi 912 (by decide +kernel) rfl) (z_wi 913 (by decide +kernel) rfl) (zLfit (a := 0) (b := 0) (by decide) (by decide) (by decide) (by decide) hnc hns) rfl (Nat.le_of_ble_eq_true rfl) (fun v w' hv => ?_)
  obtain ⟨n2, q2, hn2, rfl, rfl⟩ := hv
  replace hfl := (hfl.le hn2).q q2
  obtain ⟨S1, hS1⟩ : ∃ y, (F_L_draft S a1).2 = y := ⟨_, rfl⟩
  rw [hS1] at hs kk ⊢
  obtain ⟨k0, hk0⟩ : ∃ y, (F_L_draft S a1).1 = y := ⟨_, rfl⟩
  try rw [hk0] at hs
  rw [hk0]
  show z_G X zm_law (697, [(0, z_s), (1, z_r 0), (2, z_r 78), (3, z_r 193), (4, .inl i)], [.inl k0], zW T' (zwG G' q2) S1 n2, nc + 2, ns + 12)
  refine z_go2 C 697 [(.istore 5, 2), (.aload_n 2, 1), (.aload_n 0, 1), (.iload 4, 2), (.iconst 1, 1), (.iadd, 1)] (705, [(5, .inl k0), (0, z_s), (1, z_r 0), (2, z_r 78), (3, z_r 193), (4, .inl i)], [.inl (i + 1), z_s, z_r 78], zW T' (zwG G' q2) S1 n2, nc + 2, ns + 12) (by decide +kernel) rfl ⟨trivial, trivial, trivial, trivial, trivial, trivial, trivial⟩ ?_
  refine z_sld (v := a1) C (by decide +kernel) hA.g1.1 hA.g1.2 ?_
  obtain ⟨hs1, hs⟩ := hs
  refine z_callV C (av := [.inl a1]) (st := []) (a := 78) (ci := 14) (by decide +kernel) (c_M_draft T' (zwG G' q2) n2 fl hfl S1 a1 hs1) hrm zl_L_187 zv_M_draft rfl rfl rfl (zLfit (a := 2) (b := 12) (by decide) (by decide) (by decide) (by decide) hnc hns) rfl (Nat.le_of_ble_eq_true rfl) (fun v w' hv => ?_)
  obtain ⟨rfl, rfl⟩ := hv
  show z_G X zm_law (709, [(5, .inl k0), (0, z_s), (1, z_r 0), (2, z_r 78), (3, z_r 193), (4, .inl i)], [.inl (F_M_draft fl S1 a1).1], zW T' (zwG G' q2) (F_M_draft fl S1 a1).2 n2, nc + 2, ns + 12)
  refine z_go2 C 709 [(.istore 6, 2), (.aload_n 2, 1)] (712, [(6, .inl (F_M_draft fl S1 a1).1), (5, .inl k0), (0, z_s), (1, z_r 0), (2, z_r 78), (3, z_r 193), (4, .inl i)], [z_r 78], zW T' (zwG G' q2) (F_M_draft fl S1 a1).2 n2, nc + 2, ns + 12) (by decide +kernel) rfl ⟨trivial, trivial, trivial⟩ ?_
  refine z_callV C (av := []) (st := []) (a := 78) (ci := 14) (by decide +kernel) (c_M_thrown T' (zwG G' q2) (F_M_draft fl S1 a1).2 n2) hrm zl_L_156 zv_M_thrown rfl rfl rfl (zLfit (a := 2) (b := 12) (by decide) (by decide) (by decide) (by decide) hnc hns) rfl (Nat.le_of_ble_eq_true rfl) (fun v w' hv => ?_)
  obtain ⟨rfl, rfl⟩ := hv
  show z_G X zm_law (715, [(6, .inl (F_M_draft fl S1 a1).1), (5, .inl k0), (0, z_s), (1, z_r 0), (2, z_r 78), (3, z_r 193), (4, .inl i)], [.inl (F_M_thrown (F_M_draft fl S1 a1).2)], zW T' (zwG G' q2) (F_M_draft fl S1 a1).2 n2, nc + 2, ns + 12)
  refine z_go2 C 715 [(.iload 5, 2)] (717, [(6, .inl (F_M_draft fl S1 a1).1), (5, .inl k0), (0, z_s), (1, z_r 0), (2, z_r 78), (3, z_r 193), (4, .inl i)], [.inl k0, .inl (F_M_thrown (F_M_draft fl S1 a1).2)], zW T' (zwG G' q2) (F_M_draft fl S1 a1).2 n2, nc + 2, ns + 12) (by decide +kernel) rfl ⟨trivial, trivial⟩ ?_
  refine z_icmp_eq 722 C (off := 5) (by decide +kernel) (by decide) (fun c => ?_) (fun c => absurd hs.1 c)
  refine z_go2 C 722 [(.iload 5, 2)] (724, [(6, .inl (F_M_draft fl S1 a1).1), (5, .inl k0), (0, z_s), (1, z_r 0), (2, z_r 78), (3, z_r 193), (4, .inl i)], [.inl k0], zW T' (zwG G' q2) (F_M_draft fl S1 a1).2 n2, nc + 2, ns + 12) (by decide +kernel) rfl ⟨trivial, trivial⟩ ?_
  refine z_if_ne 739 C (off := 15) (by decide +kernel) (by decide) (fun c => ?_) (fun c => ?_)
  · refine z_go2 C 739 [(.goto 2573, 3)] (3312, [(6, .inl (F_M_draft fl S1 a1).1), (5, .inl k0), (0, z_s), (1, z_r 0), (2, z_r 78), (3, z_r 193), (4, .inl i)], [], zW T' (zwG G' q2) (F_M_draft fl S1 a1).2 n2, nc + 2, ns + 12) (by decide +kernel) rfl ⟨trivial, trivial⟩ ?_
    exact z_lvs (lv' := zLV i) [2, 3, 4, 5, 6] rfl (z_wid (nc' := nc + 20) (ns' := ns + 200) (zLwid (a := 2) (by decide)) (zLwid (a := 12) (by decide)) (kk _ _ _ _ hn2 hfl))
  · refine z_go2 C 727 [(.aload_n 3, 1), (.iconst 0, 1), (.laload, 1), (.iload 6, 2), (.i2l, 1), (.lcmp, 1)] (734, [(6, .inl (F_M_draft fl S1 a1).1), (5, .inl k0), (0, z_s), (1, z_r 0), (2, z_r 78), (3, z_r 193), (4, .inl i)], [.inl (lg_cmp ((F_M_draft fl S1 a1).2 193 0).toInt64 (F_M_draft fl S1 a1).1.toInt64)], zW T' (zwG G' q2) (F_M_draft fl S1 a1).2 n2, nc + 2, ns + 12) (by decide +kernel) rfl ⟨trivial, trivial, ⟨rfl, (show vp_in 0 1 by unfold vp_in; decide)⟩, trivial, trivial, trivial, trivial⟩ ?_
    refine z_if_eq 739 C (off := 5) (by decide +kernel) (by decide) (fun c2 => ?_) (fun c2 => absurd (by rw [hs.2 c]; exact lg_cmp_self _) c2)
    refine z_go2 C 739 [(.goto 2573, 3)] (3312, [(6, .inl (F_M_draft fl S1 a1).1), (5, .inl k0), (0, z_s), (1, z_r 0), (2, z_r 78), (3, z_r 193), (4, .inl i)], [], zW T' (zwG G' q2) (F_M_draft fl S1 a1).2 n2, nc + 2, ns + 12) (by decide +kernel) rfl ⟨trivial, trivial⟩ ?_
    exact z_lvs (lv' := zLV i) [2, 3, 4, 5, 6] rfl (z_wid (nc' := nc + 20) (ns' := ns + 200) (zLwid (a := 2) (by decide)) (zLwid (a := 12) (by decide)) (kk _ _ _ _ hn2 hfl))
def Fl_9 (fl : Nat → Nat) (S : (Nat → Nat → Int32)) (a1 a2 a3 a4 a5 a6 : Int32) : (Nat → Nat → Int32) := (F_M_state (F_L_state S a1).2 a1).2
def Sl_9 (fl : Nat → Nat) (S : (Nat → Nat → Int32)) (a1 a2 a3 a4 a5 a6 : Int32) : Prop := Sf_L_state S a1 ∧ (F_M_thrown (F_M_state (F_L_state S a1).2 a1).2 = (F_L_state S a1).1 ∧ ((F_L_state S a1).1 = 0 → (F_M_state (F_L_state S a1).2 a1).2 193 0 = (F_M_state (F_L_state S a1).2 a1).1))
theorem l_9 {X : z_X} (C : z_C X zm_law) (hrm : X.2.2.2.1 = room_1) {T' : Nat → Nat × Nat} {G' : Nat → Nat → Option Nat} {n q nc ns : Nat} {fl : Nat → Nat} (S : (Nat → Nat → Int32)) (i a1 a2 a3 a4 a5 a6 : Int32) (hA : zArg X i a1 a2 a3 a4 a5 a6) (hfl : zOK T' (zwG G' q) fl n) (hnc : nc + 20 ≤ 601024) (hns : ns + 200 ≤ 7293034) (hs : Sl_9 fl S a1 a2 a3 a4 a5 a6) (kk : ∀ T2 G2 n2 q2, n ≤ n2 → zOK T2 (zwG G2 q2) fl n2 → z_G X zm_law (3312, zLV i, [], zW T2 (zwG G2 q2) (Fl_9 fl S a1 a2 a3 a4 a5 a6) n2, nc + 20, ns + 200)) : z_G X zm_law (742, zLV i, [], zW T' (zwG G' q) S n, nc, ns) := by
  unfold Sl_9 at hs
  unfold Fl_9 at kk
  refine z_go2 C 742 [(.aload_n 1, 1), (.aload_n 0, 1), (.iload 4, 2), (.iconst 1, 1), (.iadd, 1)] (748, [(0, z_s), (1, z_r 0), (2, z_r 78), (3, z_r 193), (4, .inl i)], [.inl (i + 1), z_s, z_r 0], zW T' (zwG G' q) S n, nc, ns) (by decide +kernel) rfl ⟨trivial, trivial, trivial, trivial, trivial, trivial⟩ ?_
  refine z_sld (v := a1) C (by decide +kernel) hA.g1.1 hA.g1.2 ?_
  refine z_go2 C 749 [(.aload_n 3, 1)] (750, [(0, z_s), (1, z_r 0), (2, z_r 78), (3, z_r 193), (4, .inl i)], [z_r 193, .inl a1, z_r 0], zW T' (zwG G' q) S n, nc, ns) (by decide +kernel) rfl ⟨trivial, trivial⟩ ?_
  obtain ⟨hs1, hs⟩ := hs
  refine z_callH (idx := 188) (hh := hh_L_state) C (av := [z_r 0, .inl a1, z_r 193]) (st := []) (by decide +kernel) (c_L_state T' G' q S n a1 hs1) hrm (z_wi 927 (by decide +kernel) rfl) (z_wi 152 (by decide +kernel) rfl) ⟨by decide +kernel, by decide +kernel⟩ (show (parseMethodDescriptor zm_L_state.1.desc).map (fun d => d.parameters.length) = some 3 by decide +kernel) (z_wi 925 (by decide +kernel) rfl) (z_wi 926 (by decide +kernel) rfl) (zLfit (a := 0) (b := 0) (by decide) (by decide) (by decide) (by decide) hnc hns) rfl (Nat.le_of_ble_eq_true rfl) (fun v w' hv => ?_)
  obtain ⟨n2, q2, hn2, rfl, rfl⟩ := hv
  replace hfl := (hfl.le hn2).q q2
  obtain ⟨S1, hS1⟩ : ∃ y, (F_L_state S a1).2 = y := ⟨_, rfl⟩
  rw [hS1] at hs kk ⊢
  obtain ⟨k0, hk0⟩ : ∃ y, (F_L_state S a1).1 = y := ⟨_, rfl⟩
  try rw [hk0] at hs
  rw [hk0]
  show z_G X zm_law (753, [(0, z_s), (1, z_r 0), (2, z_r 78), (3, z_r 193), (4, .inl i)], [.inl k0], zW T' (zwG G' q2) S1 n2, nc + 2, ns + 12)
  refine z_go2 C 753 [(.istore 5, 2), (.aload_n 2, 1), (.aload_n 0, 1), (.iload 4, 2), (.iconst 1, 1), (.iadd, 1)] (761, [(5, .inl k0), (0, z_s), (1, z_r 0), (2, z_r 78), (3, z_r 193), (4, .inl i)], [.inl (i + 1), z_s, z_r 78], zW T' (zwG G' q2) S1 n2, nc + 2, ns + 12) (by decide +kernel) rfl ⟨trivial, trivial, trivial, trivial, trivial, trivial, trivial⟩ ?_
  refine z_sld (v := a1) C (by decide +kernel) hA.g1.1 hA.g1.2 ?_
  refine z_callV C (av := [.inl a1]) (st := []) (a := 78) (ci := 14) (by decide +kernel) (c_M_state T' (zwG G' q2) S1 n2 a1) hrm zl_L_190 zv_M_state rfl rfl rfl (zLfit (a := 2) (b := 12) (by decide) (by decide) (by decide) (by decide) hnc hns) rfl (Nat.le_of_ble_eq_true rfl) (fun v w' hv => ?_)
  obtain ⟨rfl, rfl⟩ := hv
  show z_G X zm_law (765, [(5, .inl k0), (0, z_s), (1, z_r 0), (2, z_r 78), (3, z_r 193), (4, .inl i)], [.inl (F_M_state S1 a1).1], zW T' (zwG G' q2) (F_M_state S1 a1).2 n2, nc + 2, ns + 12)
  refine z_go2 C 765 [(.istore 6, 2), (.aload_n 2, 1)] (768, [(6, .inl (F_M_state S1 a1).1), (5, .inl k0), (0, z_s), (1, z_r 0), (2, z_r 78), (3, z_r 193), (4, .inl i)], [z_r 78], zW T' (zwG G' q2) (F_M_state S1 a1).2 n2, nc + 2, ns + 12) (by decide +kernel) rfl ⟨trivial, trivial, trivial⟩ ?_
  refine z_callV C (av := []) (st := []) (a := 78) (ci := 14) (by decide +kernel) (c_M_thrown T' (zwG G' q2) (F_M_state S1 a1).2 n2) hrm zl_L_156 zv_M_thrown rfl rfl rfl (zLfit (a := 2) (b := 12) (by decide) (by decide) (by decide) (by decide) hnc hns) rfl (Nat.le_of_ble_eq_true rfl) (fun v w' hv => ?_)
  obtain ⟨rfl, rfl⟩ := hv
  show z_G X zm_law (771, [(6, .inl (F_M_state S1 a1).1), (5, .inl k0), (0, z_s), (1, z_r 0), (2, z_r 78), (3, z_r 193), (4, .inl i)], [.inl (F_M_thrown (F_M_state S1 a1).2)], zW T' (zwG G' q2) (F_M_state S1 a1).2 n2, nc + 2, ns + 12)
  refine z_go2 C 771 [(.iload 5, 2)] (773, [(6, .inl (F_M_state S1 a1).1), (5, .inl k0), (0, z_s), (1, z_r 0), (2, z_r 78), (3, z_r 193), (4, .inl i)], [.inl k0, .inl (F_M_thrown (F_M_state S1 a1).2)], zW T' (zwG G' q2) (F_M_state S1 a1).2 n2, nc + 2, ns + 12) (by decide +kernel) rfl ⟨trivial, trivial⟩ ?_
  refine z_icmp_eq 778 C (off := 5) (by decide +kernel) (by decide) (fun c => ?_) (fun c => absurd hs.1 c)
  refine z_go2 C 778 [(.iload 5, 2)] (780, [(6, .inl (F_M_state S1 a1).1), (5, .inl k0), (0, z_s), (1, z_r 0), (2, z_r 78), (3, z_r 193), (4, .inl i)], [.inl k0], zW T' (zwG G' q2) (F_M_state S1 a1).2 n2, nc + 2, ns + 12) (by decide +kernel) rfl ⟨trivial, trivial⟩ ?_
  refine z_if_ne 795 C (off := 15) (by decide +kernel) (by decide) (fun c => ?_) (fun c => ?_)
  · refine z_go2 C 795 [(.goto 2517, 3)] (3312, [(6, .inl (F_M_state S1 a1).1), (5, .inl k0), (0, z_s), (1, z_r 0), (2, z_r 78), (3, z_r 193), (4, .inl i)], [], zW T' (zwG G' q2) (F_M_state S1 a1).2 n2, nc + 2, ns + 12) (by decide +kernel) rfl ⟨trivial, trivial⟩ ?_
    exact z_lvs (lv' := zLV i) [2, 3, 4, 5, 6] rfl (z_wid (nc' := nc + 20) (ns' := ns + 200) (zLwid (a := 2) (by decide)) (zLwid (a := 12) (by decide)) (kk _ _ _ _ hn2 hfl))
  · refine z_go2 C 783 [(.aload_n 3, 1), (.iconst 0, 1), (.laload, 1), (.iload 6, 2), (.i2l, 1), (.lcmp, 1)] (790, [(6, .inl (F_M_state S1 a1).1), (5, .inl k0), (0, z_s), (1, z_r 0), (2, z_r 78), (3, z_r 193), (4, .inl i)], [.inl (lg_cmp ((F_M_state S1 a1).2 193 0).toInt64 (F_M_state S1 a1).1.toInt64)], zW T' (zwG G' q2) (F_M_state S1 a1).2 n2, nc + 2, ns + 12) (by decide +kernel) rfl ⟨trivial, trivial, ⟨rfl, (show vp_in 0 1 by unfold vp_in; decide)⟩, trivial, trivial, trivial, trivial⟩ ?_
    refine z_if_eq 795 C (off := 5) (by decide +kernel) (by decide) (fun c2 => ?_) (fun c2 => absurd (by rw [hs.2 c]; exact lg_cmp_self _) c2)
    refine z_go2 C 795 [(.goto 2517, 3)] (3312, [(6, .inl (F_M_state S1 a1).1), (5, .inl k0), (0, z_s), (1, z_r 0), (2, z_r 78), (3, z_r 193), (4, .inl i)], [], zW T' (zwG G' q2) (F_M_state S1 a1).2 n2, nc + 2, ns + 12) (by decide +kernel) rfl ⟨trivial, trivial⟩ ?_
    exact z_lvs (lv' := zLV i) [2, 3, 4, 5, 6] rfl (z_wid (nc' := nc + 20) (ns' := ns + 200) (zLwid (a := 2) (by decide)) (zLwid (a := 12) (by decide)) (kk _ _ _ _ hn2 hfl))
def Fl_10 (fl : Nat → Nat) (S : (Nat → Nat → Int32)) (a1 a2 a3 a4 a5 a6 : Int32) : (Nat → Nat → Int32) := (F_M_drop (F_L_drop S a1 a2).2 a1 a2).2
def Sl_10 (fl : Nat → Nat) (S : (Nat → Nat → Int32)) (a1 a2 a3 a4 a5 a6 : Int32) : Prop := Sf_L_drop S a1 a2 ∧ Sf_M_drop (F_L_drop S a1 a2).2 a1 a2 ∧ (F_M_thrown (F_M_drop (F_L_drop S a1 a2).2 a1 a2).2 = (F_L_drop S a1 a2).1 ∧ ((F_L_drop S a1 a2).1 = 0 → (F_M_drop (F_L_drop S a1 a2).2 a1 a2).2 193 0 = (F_M_drop (F_L_drop S a1 a2).2 a1 a2).1))
theorem l_10 {X : z_X} (C : z_C X zm_law) (hrm : X.2.2.2.1 = room_1) {T' : Nat → Nat × Nat} {G' : Nat → Nat → Option Nat} {n q nc ns : Nat} {fl : Nat → Nat} (S : (Nat → Nat → Int32)) (i a1 a2 a3 a4 a5 a6 : Int32) (hA : zArg X i a1 a2 a3 a4 a5 a6) (hfl : zOK T' (zwG G' q) fl n) (hnc : nc + 20 ≤ 601024) (hns : ns + 200 ≤ 7293034) (hs : Sl_10 fl S a1 a2 a3 a4 a5 a6) (kk : ∀ T2 G2 n2 q2, n ≤ n2 → zOK T2 (zwG G2 q2) fl n2 → z_G X zm_law (3312, zLV i, [], zW T2 (zwG G2 q2) (Fl_10 fl S a1 a2 a3 a4 a5 a6) n2, nc + 20, ns + 200)) : z_G X zm_law (798, zLV i, [], zW T' (zwG G' q) S n, nc, ns) := by
  unfold Sl_10 at hs
  unfold Fl_10 at kk
  refine z_go2 C 798 [(.aload_n 1, 1), (.aload_n 0, 1), (.iload 4, 2), (.iconst 1, 1), (.iadd, 1)] (804, [(0, z_s), (1, z_r 0), (2, z_r 78), (3, z_r 193), (4, .inl i)], [.inl (i + 1), z_s, z_r 0], zW T' (zwG G' q) S n, nc, ns) (by decide +kernel) rfl ⟨trivial, trivial, trivial, trivial, trivial, trivial⟩ ?_
  refine z_sld (v := a1) C (by decide +kernel) hA.g1.1 hA.g1.2 ?_
  refine z_go2 C 805 [(.aload_n 0, 1), (.iload 4, 2), (.iconst 2, 1), (.iadd, 1)] (810, [(0, z_s), (1, z_r 0), (2, z_r 78), (3, z_r 193), (4, .inl i)], [.inl (i + 2), z_s, .inl a1, z_r 0], zW T' (zwG G' q) S n, nc, ns) (by decide +kernel) rfl ⟨trivial, trivial, trivial, trivial, trivial⟩ ?_
  refine z_sld (v := a2) C (by decide +kernel) hA.g2.1 hA.g2.2 ?_
  refine z_go2 C 811 [(.aload_n 3, 1)] (812, [(0, z_s), (1, z_r 0), (2, z_r 78), (3, z_r 193), (4, .inl i)], [z_r 193, .inl a2, .inl a1, z_r 0], zW T' (zwG G' q) S n, nc, ns) (by decide +kernel) rfl ⟨trivial, trivial⟩ ?_
  obtain ⟨hs1, hs⟩ := hs
  refine z_callH (idx := 191) (hh := hh_L_drop) C (av := [z_r 0, .inl a1, .inl a2, z_r 193]) (st := []) (by decide +kernel) (c_L_drop T' G' q S n a1 a2 hs1) hrm (z_wi 944 (by decide +kernel) rfl) (z_wi 152 (by decide +kernel) rfl) ⟨by decide +kernel, by decide +kernel⟩ (show (parseMethodDescriptor zm_L_drop.1.desc).map (fun d => d.parameters.length) = some 4 by decide +kernel) (z_wi 942 (by decide +kernel) rfl) (z_wi 943 (by decide +kernel) rfl) (zLfit (a := 0) (b := 0) (by decide) (by decide) (by decide) (by decide) hnc hns) rfl (Nat.le_of_ble_eq_true rfl) (fun v w' hv => ?_)
  obtain ⟨n2, q2, hn2, rfl, rfl⟩ := hv
  replace hfl := (hfl.le hn2).q q2
  obtain ⟨S1, hS1⟩ : ∃ y, (F_L_drop S a1 a2).2 = y := ⟨_, rfl⟩
  rw [hS1] at hs kk ⊢
  obtain ⟨k0, hk0⟩ : ∃ y, (F_L_drop S a1 a2).1 = y := ⟨_, rfl⟩
  try rw [hk0] at hs
  rw [hk0]
  show z_G X zm_law (815, [(0, z_s), (1, z_r 0), (2, z_r 78), (3, z_r 193), (4, .inl i)], [.inl k0], zW T' (zwG G' q2) S1 n2, nc + 2, ns + 12)
  refine z_go2 C 815 [(.istore 5, 2), (.aload_n 2, 1), (.aload_n 0, 1), (.iload 4, 2), (.iconst 1, 1), (.iadd, 1)] (823, [(5, .inl k0), (0, z_s), (1, z_r 0), (2, z_r 78), (3, z_r 193), (4, .inl i)], [.inl (i + 1), z_s, z_r 78], zW T' (zwG G' q2) S1 n2, nc + 2, ns + 12) (by decide +kernel) rfl ⟨trivial, trivial, trivial, trivial, trivial, trivial, trivial⟩ ?_
  refine z_sld (v := a1) C (by decide +kernel) hA.g1.1 hA.g1.2 ?_
  refine z_go2 C 824 [(.aload_n 0, 1), (.iload 4, 2), (.iconst 2, 1), (.iadd, 1)] (829, [(5, .inl k0), (0, z_s), (1, z_r 0), (2, z_r 78), (3, z_r 193), (4, .inl i)], [.inl (i + 2), z_s, .inl a1, z_r 78], zW T' (zwG G' q2) S1 n2, nc + 2, ns + 12) (by decide +kernel) rfl ⟨trivial, trivial, trivial, trivial, trivial⟩ ?_
  refine z_sld (v := a2) C (by decide +kernel) hA.g2.1 hA.g2.2 ?_
  obtain ⟨hs1, hs⟩ := hs
  refine z_callV C (av := [.inl a1, .inl a2]) (st := []) (a := 78) (ci := 14) (by decide +kernel) (c_M_drop T' (zwG G' q2) S1 n2 a1 a2 hs1) hrm zl_L_193 zv_M_drop rfl rfl rfl (zLfit (a := 2) (b := 12) (by decide) (by decide) (by decide) (by decide) hnc hns) rfl (Nat.le_of_ble_eq_true rfl) (fun v w' hv => ?_)
  obtain ⟨rfl, rfl⟩ := hv
  show z_G X zm_law (833, [(5, .inl k0), (0, z_s), (1, z_r 0), (2, z_r 78), (3, z_r 193), (4, .inl i)], [.inl (F_M_drop S1 a1 a2).1], zW T' (zwG G' q2) (F_M_drop S1 a1 a2).2 n2, nc + 2, ns + 12)
  refine z_go2 C 833 [(.istore 6, 2), (.aload_n 2, 1)] (836, [(6, .inl (F_M_drop S1 a1 a2).1), (5, .inl k0), (0, z_s), (1, z_r 0), (2, z_r 78), (3, z_r 193), (4, .inl i)], [z_r 78], zW T' (zwG G' q2) (F_M_drop S1 a1 a2).2 n2, nc + 2, ns + 12) (by decide +kernel) rfl ⟨trivial, trivial, trivial⟩ ?_
  refine z_callV C (av := []) (st := []) (a := 78) (ci := 14) (by decide +kernel) (c_M_thrown T' (zwG G' q2) (F_M_drop S1 a1 a2).2 n2) hrm zl_L_156 zv_M_thrown rfl rfl rfl (zLfit (a := 2) (b := 12) (by decide) (by decide) (by decide) (by decide) hnc hns) rfl (Nat.le_of_ble_eq_true rfl) (fun v w' hv => ?_)
  obtain ⟨rfl, rfl⟩ := hv
  show z_G X zm_law (839, [(6, .inl (F_M_drop S1 a1 a2).1), (5, .inl k0), (0, z_s), (1, z_r 0), (2, z_r 78), (3, z_r 193), (4, .inl i)], [.inl (F_M_thrown (F_M_drop S1 a1 a2).2)], zW T' (zwG G' q2) (F_M_drop S1 a1 a2).2 n2, nc + 2, ns + 12)
  refine z_go2 C 839 [(.iload 5, 2)] (841, [(6, .inl (F_M_drop S1 a1 a2).1), (5, .inl k0), (0, z_s), (1, z_r 0), (2, z_r 78), (3, z_r 193), (4, .inl i)], [.inl k0, .inl (F_M_thrown (F_M_drop S1 a1 a2).2)], zW T' (zwG G' q2) (F_M_drop S1 a1 a2).2 n2, nc + 2, ns + 12) (by decide +kernel) rfl ⟨trivial, trivial⟩ ?_
  refine z_icmp_eq 846 C (off := 5) (by decide +kernel) (by decide) (fun c => ?_) (fun c => absurd hs.1 c)
  refine z_go2 C 846 [(.iload 5, 2)] (848, [(6, .inl (F_M_drop S1 a1 a2).1), (5, .inl k0), (0, z_s), (1, z_r 0), (2, z_r 78), (3, z_r 193), (4, .inl i)], [.inl k0], zW T' (zwG G' q2) (F_M_drop S1 a1 a2).2 n2, nc + 2, ns + 12) (by decide +kernel) rfl ⟨trivial, trivial⟩ ?_
  refine z_if_ne 863 C (off := 15) (by decide +kernel) (by decide) (fun c => ?_) (fun c => ?_)
  · refine z_go2 C 863 [(.goto 2449, 3)] (3312, [(6, .inl (F_M_drop S1 a1 a2).1), (5, .inl k0), (0, z_s), (1, z_r 0), (2, z_r 78), (3, z_r 193), (4, .inl i)], [], zW T' (zwG G' q2) (F_M_drop S1 a1 a2).2 n2, nc + 2, ns + 12) (by decide +kernel) rfl ⟨trivial, trivial⟩ ?_
    exact z_lvs (lv' := zLV i) [2, 3, 4, 5, 6] rfl (z_wid (nc' := nc + 20) (ns' := ns + 200) (zLwid (a := 2) (by decide)) (zLwid (a := 12) (by decide)) (kk _ _ _ _ hn2 hfl))
  · refine z_go2 C 851 [(.aload_n 3, 1), (.iconst 0, 1), (.laload, 1), (.iload 6, 2), (.i2l, 1), (.lcmp, 1)] (858, [(6, .inl (F_M_drop S1 a1 a2).1), (5, .inl k0), (0, z_s), (1, z_r 0), (2, z_r 78), (3, z_r 193), (4, .inl i)], [.inl (lg_cmp ((F_M_drop S1 a1 a2).2 193 0).toInt64 (F_M_drop S1 a1 a2).1.toInt64)], zW T' (zwG G' q2) (F_M_drop S1 a1 a2).2 n2, nc + 2, ns + 12) (by decide +kernel) rfl ⟨trivial, trivial, ⟨rfl, (show vp_in 0 1 by unfold vp_in; decide)⟩, trivial, trivial, trivial, trivial⟩ ?_
    refine z_if_eq 863 C (off := 5) (by decide +kernel) (by decide) (fun c2 => ?_) (fun c2 => absurd (by rw [hs.2 c]; exact lg_cmp_self _) c2)
    refine z_go2 C 863 [(.goto 2449, 3)] (3312, [(6, .inl (F_M_drop S1 a1 a2).1), (5, .inl k0), (0, z_s), (1, z_r 0), (2, z_r 78), (3, z_r 193), (4, .inl i)], [], zW T' (zwG G' q2) (F_M_drop S1 a1 a2).2 n2, nc + 2, ns + 12) (by decide +kernel) rfl ⟨trivial, trivial⟩ ?_
    exact z_lvs (lv' := zLV i) [2, 3, 4, 5, 6] rfl (z_wid (nc' := nc + 20) (ns' := ns + 200) (zLwid (a := 2) (by decide)) (zLwid (a := 12) (by decide)) (kk _ _ _ _ hn2 hfl))
def Fl_11 (fl : Nat → Nat) (S : (Nat → Nat → Int32)) (a1 a2 a3 a4 a5 a6 : Int32) : (Nat → Nat → Int32) := (F_M_transition (F_L_transition S a1 a2 a3 a4 a5 a6).2 a1 a2 a3 a4 a5 a6).2
def Sl_11 (fl : Nat → Nat) (S : (Nat → Nat → Int32)) (a1 a2 a3 a4 a5 a6 : Int32) : Prop := Sf_L_transition S a1 a2 a3 a4 a5 a6 ∧ Sf_M_transition (F_L_transition S a1 a2 a3 a4 a5 a6).2 a1 a2 a3 a4 a5 a6 ∧ (F_M_thrown (F_M_transition (F_L_transition S a1 a2 a3 a4 a5 a6).2 a1 a2 a3 a4 a5 a6).2 = (F_L_transition S a1 a2 a3 a4 a5 a6).1 ∧ ((F_L_transition S a1 a2 a3 a4 a5 a6).1 = 0 → (F_M_transition (F_L_transition S a1 a2 a3 a4 a5 a6).2 a1 a2 a3 a4 a5 a6).2 193 0 = (F_M_transition (F_L_transition S a1 a2 a3 a4 a5 a6).2 a1 a2 a3 a4 a5 a6).1))
theorem l_11 {X : z_X} (C : z_C X zm_law) (hrm : X.2.2.2.1 = room_1) {T' : Nat → Nat × Nat} {G' : Nat → Nat → Option Nat} {n q nc ns : Nat} {fl : Nat → Nat} (S : (Nat → Nat → Int32)) (i a1 a2 a3 a4 a5 a6 : Int32) (hA : zArg X i a1 a2 a3 a4 a5 a6) (hfl : zOK T' (zwG G' q) fl n) (hnc : nc + 20 ≤ 601024) (hns : ns + 200 ≤ 7293034) (hs : Sl_11 fl S a1 a2 a3 a4 a5 a6) (kk : ∀ T2 G2 n2 q2, n ≤ n2 → zOK T2 (zwG G2 q2) fl n2 → z_G X zm_law (3312, zLV i, [], zW T2 (zwG G2 q2) (Fl_11 fl S a1 a2 a3 a4 a5 a6) n2, nc + 20, ns + 200)) : z_G X zm_law (866, zLV i, [], zW T' (zwG G' q) S n, nc, ns) := by
  unfold Sl_11 at hs
  unfold Fl_11 at kk
  refine z_go2 C 866 [(.aload_n 1, 1), (.aload_n 0, 1), (.iload 4, 2), (.iconst 1, 1), (.iadd, 1)] (872, [(0, z_s), (1, z_r 0), (2, z_r 78), (3, z_r 193), (4, .inl i)], [.inl (i + 1), z_s, z_r 0], zW T' (zwG G' q) S n, nc, ns) (by decide +kernel) rfl ⟨trivial, trivial, trivial, trivial, trivial, trivial⟩ ?_
  refine z_sld (v := a1) C (by decide +kernel) hA.g1.1 hA.g1.2 ?_
  refine z_go2 C 873 [(.aload_n 0, 1), (.iload 4, 2), (.iconst 2, 1), (.iadd, 1)] (878, [(0, z_s), (1, z_r 0), (2, z_r 78), (3, z_r 193), (4, .inl i)], [.inl (i + 2), z_s, .inl a1, z_r 0], zW T' (zwG G' q) S n, nc, ns) (by decide +kernel) rfl ⟨trivial, trivial, trivial, trivial, trivial⟩ ?_
  refine z_sld (v := a2) C (by decide +kernel) hA.g2.1 hA.g2.2 ?_
  refine z_go2 C 879 [(.aload_n 0, 1), (.iload 4, 2), (.iconst 3, 1), (.iadd, 1)] (884, [(0, z_s), (1, z_r 0), (2, z_r 78), (3, z_r 193), (4, .inl i)], [.inl (i + 3), z_s, .inl a2, .inl a1, z_r 0], zW T' (zwG G' q) S n, nc, ns) (by decide +kernel) rfl ⟨trivial, trivial, trivial, trivial, trivial⟩ ?_
  refine z_sld (v := a3) C (by decide +kernel) hA.g3.1 hA.g3.2 ?_
  refine z_go2 C 885 [(.aload_n 0, 1), (.iload 4, 2), (.iconst 4, 1), (.iadd, 1)] (890, [(0, z_s), (1, z_r 0), (2, z_r 78), (3, z_r 193), (4, .inl i)], [.inl (i + 4), z_s, .inl a3, .inl a2, .inl a1, z_r 0], zW T' (zwG G' q) S n, nc, ns) (by decide +kernel) rfl ⟨trivial, trivial, trivial, trivial, trivial⟩ ?_
  refine z_sld (v := a4) C (by decide +kernel) hA.g4.1 hA.g4.2 ?_
  refine z_go2 C 891 [(.aload_n 0, 1), (.iload 4, 2), (.iconst 5, 1), (.iadd, 1)] (896, [(0, z_s), (1, z_r 0), (2, z_r 78), (3, z_r 193), (4, .inl i)], [.inl (i + 5), z_s, .inl a4, .inl a3, .inl a2, .inl a1, z_r 0], zW T' (zwG G' q) S n, nc, ns) (by decide +kernel) rfl ⟨trivial, trivial, trivial, trivial, trivial⟩ ?_
  refine z_sld (v := a5) C (by decide +kernel) hA.g5.1 hA.g5.2 ?_
  refine z_go2 C 897 [(.aload_n 0, 1), (.iload 4, 2), (.bipush 6, 2), (.iadd, 1)] (903, [(0, z_s), (1, z_r 0), (2, z_r 78), (3, z_r 193), (4, .inl i)], [.inl (i + 6), z_s, .inl a5, .inl a4, .inl a3, .inl a2, .inl a1, z_r 0], zW T' (zwG G' q) S n, nc, ns) (by decide +kernel) rfl ⟨trivial, trivial, trivial, trivial, trivial⟩ ?_
  refine z_sld (v := a6) C (by decide +kernel) hA.g6.1 hA.g6.2 ?_
  refine z_go2 C 904 [(.aload_n 3, 1)] (905, [(0, z_s), (1, z_r 0), (2, z_r 78), (3, z_r 193), (4, .inl i)], [z_r 193, .inl a6, .inl a5, .inl a4, .inl a3, .inl a2, .inl a1, z_r 0], zW T' (zwG G' q) S n, nc, ns) (by decide +kernel) rfl ⟨trivial, trivial⟩ ?_
  obtain ⟨hs1, hs⟩ := hs
  refine z_callH (idx := 194) (hh := hh_L_transition) C (av := [z_r 0, .inl a1, .inl a2, .inl a3, .inl a4, .inl a5, .inl a6, z_r 193]) (st := []) (by decide +kernel) (c_L_transition T' G' q S n a1 a2 a3 a4 a5 a6 hs1) hrm (z_wi 966 (by decide +kernel) rfl) (z_wi 152 (by decide +kernel) rfl) ⟨by decide +kernel, by decide +kernel⟩ (show (parseMethodDescriptor zm_L_transition.1.desc).map (fun d => d.parameters.length) = some 8 by decide +kernel) (z_wi 964 (by decide +kernel) rfl) (z_wi 965 (by decide +kernel) rfl) (zLfit (a := 0) (b := 0) (by decide) (by decide) (by decide) (by decide) hnc hns) rfl (Nat.le_of_ble_eq_true rfl) (fun v w' hv => ?_)
  obtain ⟨n2, q2, hn2, rfl, rfl⟩ := hv
  replace hfl := (hfl.le hn2).q q2
  obtain ⟨S1, hS1⟩ : ∃ y, (F_L_transition S a1 a2 a3 a4 a5 a6).2 = y := ⟨_, rfl⟩
  rw [hS1] at hs kk ⊢
  obtain ⟨k0, hk0⟩ : ∃ y, (F_L_transition S a1 a2 a3 a4 a5 a6).1 = y := ⟨_, rfl⟩
  try rw [hk0] at hs
  rw [hk0]
  show z_G X zm_law (908, [(0, z_s), (1, z_r 0), (2, z_r 78), (3, z_r 193), (4, .inl i)], [.inl k0], zW T' (zwG G' q2) S1 n2, nc + 5, ns + 30)
  refine z_go2 C 908 [(.istore 5, 2), (.aload_n 2, 1), (.aload_n 0, 1), (.iload 4, 2), (.iconst 1, 1), (.iadd, 1)] (916, [(5, .inl k0), (0, z_s), (1, z_r 0), (2, z_r 78), (3, z_r 193), (4, .inl i)], [.inl (i + 1), z_s, z_r 78], zW T' (zwG G' q2) S1 n2, nc + 5, ns + 30) (by decide +kernel) rfl ⟨trivial, trivial, trivial, trivial, trivial, trivial, trivial⟩ ?_
  refine z_sld (v := a1) C (by decide +kernel) hA.g1.1 hA.g1.2 ?_
  refine z_go2 C 917 [(.aload_n 0, 1), (.iload 4, 2), (.iconst 2, 1), (.iadd, 1)] (922, [(5, .inl k0), (0, z_s), (1, z_r 0), (2, z_r 78), (3, z_r 193), (4, .inl i)], [.inl (i + 2), z_s, .inl a1, z_r 78], zW T' (zwG G' q2) S1 n2, nc + 5, ns + 30) (by decide +kernel) rfl ⟨trivial, trivial, trivial, trivial, trivial⟩ ?_
  refine z_sld (v := a2) C (by decide +kernel) hA.g2.1 hA.g2.2 ?_
  refine z_go2 C 923 [(.aload_n 0, 1), (.iload 4, 2), (.iconst 3, 1), (.iadd, 1)] (928, [(5, .inl k0), (0, z_s), (1, z_r 0), (2, z_r 78), (3, z_r 193), (4, .inl i)], [.inl (i + 3), z_s, .inl a2, .inl a1, z_r 78], zW T' (zwG G' q2) S1 n2, nc + 5, ns + 30) (by decide +kernel) rfl ⟨trivial, trivial, trivial, trivial, trivial⟩ ?_
  refine z_sld (v := a3) C (by decide +kernel) hA.g3.1 hA.g3.2 ?_
  refine z_go2 C 929 [(.aload_n 0, 1), (.iload 4, 2), (.iconst 4, 1), (.iadd, 1)] (934, [(5, .inl k0), (0, z_s), (1, z_r 0), (2, z_r 78), (3, z_r 193), (4, .inl i)], [.inl (i + 4), z_s, .inl a3, .inl a2, .inl a1, z_r 78], zW T' (zwG G' q2) S1 n2, nc + 5, ns + 30) (by decide +kernel) rfl ⟨trivial, trivial, trivial, trivial, trivial⟩ ?_
  refine z_sld (v := a4) C (by decide +kernel) hA.g4.1 hA.g4.2 ?_
  refine z_go2 C 935 [(.aload_n 0, 1), (.iload 4, 2), (.iconst 5, 1), (.iadd, 1)] (940, [(5, .inl k0), (0, z_s), (1, z_r 0), (2, z_r 78), (3, z_r 193), (4, .inl i)], [.inl (i + 5), z_s, .inl a4, .inl a3, .inl a2, .inl a1, z_r 78], zW T' (zwG G' q2) S1 n2, nc + 5, ns + 30) (by decide +kernel) rfl ⟨trivial, trivial, trivial, trivial, trivial⟩ ?_
  refine z_sld (v := a5) C (by decide +kernel) hA.g5.1 hA.g5.2 ?_
  refine z_go2 C 941 [(.aload_n 0, 1), (.iload 4, 2), (.bipush 6, 2), (.iadd, 1)] (947, [(5, .inl k0), (0, z_s), (1, z_r 0), (2, z_r 78), (3, z_r 193), (4, .inl i)], [.inl (i + 6), z_s, .inl a5, .inl a4, .inl a3, .inl a2, .inl a1, z_r 78], zW T' (zwG G' q2) S1 n2, nc + 5, ns + 30) (by decide +kernel) rfl ⟨trivial, trivial, trivial, trivial, trivial⟩ ?_
  refine z_sld (v := a6) C (by decide +kernel) hA.g6.1 hA.g6.2 ?_
  obtain ⟨hs1, hs⟩ := hs
  refine z_callV C (av := [.inl a1, .inl a2, .inl a3, .inl a4, .inl a5, .inl a6]) (st := []) (a := 78) (ci := 14) (by decide +kernel) (c_M_transition T' (zwG G' q2) S1 n2 a1 a2 a3 a4 a5 a6 hs1) hrm zl_L_197 zv_M_transition rfl rfl rfl (zLfit (a := 5) (b := 30) (by decide) (by decide) (by decide) (by decide) hnc hns) rfl (Nat.le_of_ble_eq_true rfl) (fun v w' hv => ?_)
  obtain ⟨rfl, rfl⟩ := hv
  show z_G X zm_law (951, [(5, .inl k0), (0, z_s), (1, z_r 0), (2, z_r 78), (3, z_r 193), (4, .inl i)], [.inl (F_M_transition S1 a1 a2 a3 a4 a5 a6).1], zW T' (zwG G' q2) (F_M_transition S1 a1 a2 a3 a4 a5 a6).2 n2, nc + 5, ns + 30)
  refine z_go2 C 951 [(.istore 6, 2), (.aload_n 2, 1)] (954, [(6, .inl (F_M_transition S1 a1 a2 a3 a4 a5 a6).1), (5, .inl k0), (0, z_s), (1, z_r 0), (2, z_r 78), (3, z_r 193), (4, .inl i)], [z_r 78], zW T' (zwG G' q2) (F_M_transition S1 a1 a2 a3 a4 a5 a6).2 n2, nc + 5, ns + 30) (by decide +kernel) rfl ⟨trivial, trivial, trivial⟩ ?_
  refine z_callV C (av := []) (st := []) (a := 78) (ci := 14) (by decide +kernel) (c_M_thrown T' (zwG G' q2) (F_M_transition S1 a1 a2 a3 a4 a5 a6).2 n2) hrm zl_L_156 zv_M_thrown rfl rfl rfl (zLfit (a := 5) (b := 30) (by decide) (by decide) (by decide) (by decide) hnc hns) rfl (Nat.le_of_ble_eq_true rfl) (fun v w' hv => ?_)
  obtain ⟨rfl, rfl⟩ := hv
  show z_G X zm_law (957, [(6, .inl (F_M_transition S1 a1 a2 a3 a4 a5 a6).1), (5, .inl k0), (0, z_s), (1, z_r 0), (2, z_r 78), (3, z_r 193), (4, .inl i)], [.inl (F_M_thrown (F_M_transition S1 a1 a2 a3 a4 a5 a6).2)], zW T' (zwG G' q2) (F_M_transition S1 a1 a2 a3 a4 a5 a6).2 n2, nc + 5, ns + 30)
  refine z_go2 C 957 [(.iload 5, 2)] (959, [(6, .inl (F_M_transition S1 a1 a2 a3 a4 a5 a6).1), (5, .inl k0), (0, z_s), (1, z_r 0), (2, z_r 78), (3, z_r 193), (4, .inl i)], [.inl k0, .inl (F_M_thrown (F_M_transition S1 a1 a2 a3 a4 a5 a6).2)], zW T' (zwG G' q2) (F_M_transition S1 a1 a2 a3 a4 a5 a6).2 n2, nc + 5, ns + 30) (by decide +kernel) rfl ⟨trivial, trivial⟩ ?_
  refine z_icmp_eq 964 C (off := 5) (by decide +kernel) (by decide) (fun c => ?_) (fun c => absurd hs.1 c)
  refine z_go2 C 964 [(.iload 5, 2)] (966, [(6, .inl (F_M_transition S1 a1 a2 a3 a4 a5 a6).1), (5, .inl k0), (0, z_s), (1, z_r 0), (2, z_r 78), (3, z_r 193), (4, .inl i)], [.inl k0], zW T' (zwG G' q2) (F_M_transition S1 a1 a2 a3 a4 a5 a6).2 n2, nc + 5, ns + 30) (by decide +kernel) rfl ⟨trivial, trivial⟩ ?_
  refine z_if_ne 981 C (off := 15) (by decide +kernel) (by decide) (fun c => ?_) (fun c => ?_)
  · refine z_go2 C 981 [(.goto 2331, 3)] (3312, [(6, .inl (F_M_transition S1 a1 a2 a3 a4 a5 a6).1), (5, .inl k0), (0, z_s), (1, z_r 0), (2, z_r 78), (3, z_r 193), (4, .inl i)], [], zW T' (zwG G' q2) (F_M_transition S1 a1 a2 a3 a4 a5 a6).2 n2, nc + 5, ns + 30) (by decide +kernel) rfl ⟨trivial, trivial⟩ ?_
    exact z_lvs (lv' := zLV i) [2, 3, 4, 5, 6] rfl (z_wid (nc' := nc + 20) (ns' := ns + 200) (zLwid (a := 5) (by decide)) (zLwid (a := 30) (by decide)) (kk _ _ _ _ hn2 hfl))
  · refine z_go2 C 969 [(.aload_n 3, 1), (.iconst 0, 1), (.laload, 1), (.iload 6, 2), (.i2l, 1), (.lcmp, 1)] (976, [(6, .inl (F_M_transition S1 a1 a2 a3 a4 a5 a6).1), (5, .inl k0), (0, z_s), (1, z_r 0), (2, z_r 78), (3, z_r 193), (4, .inl i)], [.inl (lg_cmp ((F_M_transition S1 a1 a2 a3 a4 a5 a6).2 193 0).toInt64 (F_M_transition S1 a1 a2 a3 a4 a5 a6).1.toInt64)], zW T' (zwG G' q2) (F_M_transition S1 a1 a2 a3 a4 a5 a6).2 n2, nc + 5, ns + 30) (by decide +kernel) rfl ⟨trivial, trivial, ⟨rfl, (show vp_in 0 1 by unfold vp_in; decide)⟩, trivial, trivial, trivial, trivial⟩ ?_
    refine z_if_eq 981 C (off := 5) (by decide +kernel) (by decide) (fun c2 => ?_) (fun c2 => absurd (by rw [hs.2 c]; exact lg_cmp_self _) c2)
    refine z_go2 C 981 [(.goto 2331, 3)] (3312, [(6, .inl (F_M_transition S1 a1 a2 a3 a4 a5 a6).1), (5, .inl k0), (0, z_s), (1, z_r 0), (2, z_r 78), (3, z_r 193), (4, .inl i)], [], zW T' (zwG G' q2) (F_M_transition S1 a1 a2 a3 a4 a5 a6).2 n2, nc + 5, ns + 30) (by decide +kernel) rfl ⟨trivial, trivial⟩ ?_
    exact z_lvs (lv' := zLV i) [2, 3, 4, 5, 6] rfl (z_wid (nc' := nc + 20) (ns' := ns + 200) (zLwid (a := 5) (by decide)) (zLwid (a := 30) (by decide)) (kk _ _ _ _ hn2 hfl))
def Fl_12 (fl : Nat → Nat) (na : Nat) (S : (Nat → Nat → Int32)) (a1 a2 a3 a4 a5 a6 : Int32) : (Nat → Nat → Int32) := (F_M_publish fl na (F_L_publish S a1).2 a1).2.1
def Sl_12 (fl : Nat → Nat) (na : Nat) (S : (Nat → Nat → Int32)) (a1 a2 a3 a4 a5 a6 : Int32) : Prop := Sf_L_publish S a1 ∧ Sf_M_publish fl na (F_L_publish S a1).2 a1 ∧ (F_M_thrown (F_M_publish fl na (F_L_publish S a1).2 a1).2.1 = (F_L_publish S a1).1 ∧ ((F_L_publish S a1).1 = 0 → (F_M_publish fl na (F_L_publish S a1).2 a1).2.1 193 0 = (F_M_publish fl na (F_L_publish S a1).2 a1).1))
def Fg_12 (fl : Nat → Nat) (na : Nat) (S : (Nat → Nat → Int32)) (a1 a2 a3 a4 a5 a6 : Int32) : Nat → Nat := (F_M_publish fl na (F_L_publish S a1).2 a1).2.2
theorem l_12 {X : z_X} (C : z_C X zm_law) (hrm : X.2.2.2.1 = room_1) {T' : Nat → Nat × Nat} {G' : Nat → Nat → Option Nat} {n q nc ns : Nat} {fl : Nat → Nat} (S : (Nat → Nat → Int32)) (i a1 a2 a3 a4 a5 a6 : Int32) (hA : zArg X i a1 a2 a3 a4 a5 a6) (hfl : zOK T' (zwG G' q) fl n) (hnc : nc + 20 ≤ 601024) (hns : ns + 200 ≤ 7293034) (hs : ∀ na, n ≤ na → Sl_12 fl na S a1 a2 a3 a4 a5 a6) (kk : ∀ T2 G2 n2 q2 na, n ≤ na → n ≤ n2 → zOK T2 (zwG G2 q2) (Fg_12 fl na S a1 a2 a3 a4 a5 a6) n2 → z_G X zm_law (3312, zLV i, [], zW T2 (zwG G2 q2) (Fl_12 fl na S a1 a2 a3 a4 a5 a6) n2, nc + 20, ns + 200)) : z_G X zm_law (984, zLV i, [], zW T' (zwG G' q) S n, nc, ns) := by
  unfold Sl_12 at hs
  unfold Fl_12 Fg_12 at kk
  refine z_go2 C 984 [(.aload_n 1, 1), (.aload_n 0, 1), (.iload 4, 2), (.iconst 1, 1), (.iadd, 1)] (990, [(0, z_s), (1, z_r 0), (2, z_r 78), (3, z_r 193), (4, .inl i)], [.inl (i + 1), z_s, z_r 0], zW T' (zwG G' q) S n, nc, ns) (by decide +kernel) rfl ⟨trivial, trivial, trivial, trivial, trivial, trivial⟩ ?_
  refine z_sld (v := a1) C (by decide +kernel) hA.g1.1 hA.g1.2 ?_
  refine z_go2 C 991 [(.aload_n 3, 1)] (992, [(0, z_s), (1, z_r 0), (2, z_r 78), (3, z_r 193), (4, .inl i)], [z_r 193, .inl a1, z_r 0], zW T' (zwG G' q) S n, nc, ns) (by decide +kernel) rfl ⟨trivial, trivial⟩ ?_
  have hs1 := (hs n (Nat.le_refl n)).1
  refine z_callH (idx := 198) (hh := hh_L_publish) C (av := [z_r 0, .inl a1, z_r 193]) (st := []) (by decide +kernel) (c_L_publish T' G' q S n a1 hs1) hrm (z_wi 984 (by decide +kernel) rfl) (z_wi 152 (by decide +kernel) rfl) ⟨by decide +kernel, by decide +kernel⟩ (show (parseMethodDescriptor zm_L_publish.1.desc).map (fun d => d.parameters.length) = some 3 by decide +kernel) (z_wi 982 (by decide +kernel) rfl) (z_wi 983 (by decide +kernel) rfl) (zLfit (a := 0) (b := 0) (by decide) (by decide) (by decide) (by decide) hnc hns) rfl (Nat.le_of_ble_eq_true rfl) (fun v w' hv => ?_)
  obtain ⟨n2, q2, hn2, rfl, rfl⟩ := hv
  replace hs := (hs n2 hn2).2
  replace hfl := (hfl.le hn2).q q2
  obtain ⟨S1, hS1⟩ : ∃ y, (F_L_publish S a1).2 = y := ⟨_, rfl⟩
  rw [hS1] at hs kk ⊢
  obtain ⟨k0, hk0⟩ : ∃ y, (F_L_publish S a1).1 = y := ⟨_, rfl⟩
  try rw [hk0] at hs
  rw [hk0]
  show z_G X zm_law (995, [(0, z_s), (1, z_r 0), (2, z_r 78), (3, z_r 193), (4, .inl i)], [.inl k0], zW T' (zwG G' q2) S1 n2, nc + 3, ns + 18)
  refine z_go2 C 995 [(.istore 5, 2), (.aload_n 2, 1), (.aload_n 0, 1), (.iload 4, 2), (.iconst 1, 1), (.iadd, 1)] (1003, [(5, .inl k0), (0, z_s), (1, z_r 0), (2, z_r 78), (3, z_r 193), (4, .inl i)], [.inl (i + 1), z_s, z_r 78], zW T' (zwG G' q2) S1 n2, nc + 3, ns + 18) (by decide +kernel) rfl ⟨trivial, trivial, trivial, trivial, trivial, trivial, trivial⟩ ?_
  refine z_sld (v := a1) C (by decide +kernel) hA.g1.1 hA.g1.2 ?_
  obtain ⟨hs1, hs⟩ := hs
  refine z_callV C (av := [.inl a1]) (st := []) (a := 78) (ci := 14) (by decide +kernel) (c_M_publish T' (zwG G' q2) n2 fl hfl n2 rfl S1 a1 hs1) hrm zl_L_200 zv_M_publish rfl rfl rfl (zLfit (a := 3) (b := 18) (by decide) (by decide) (by decide) (by decide) hnc hns) rfl (Nat.le_of_ble_eq_true rfl) (fun v w' hv => ?_)
  obtain ⟨T2, G2, n3, hle3, hfl9, hgr, rfl, rfl⟩ := hv
  have hq3 : zG G2 36 7 = some q2 := by rw [(hgr 36 (Nat.lt_of_lt_of_le (by decide) hfl.1) (by decide)).2]; rfl
  have hfl2 : zOK T2 (zwG G2 q2) (F_M_publish fl n2 S1 a1).2.2 n3 := ⟨hfl9.1, fun k hk => ⟨by rw [zwG_self hq3]; exact (hfl9.2 k hk).1, ((hfl9.2 k hk).2.1).sg (by rw [zwG_self hq3]), (hfl9.2 k hk).2.2⟩⟩
  rw [show zW T2 G2 (F_M_publish fl n2 S1 a1).2.1 n3 = zW T2 (zwG G2 q2) (F_M_publish fl n2 S1 a1).2.1 n3 from by show (zT T2, zG G2, _, _) = (zT T2, zG (zwG G2 q2), _, _); rw [zwG_self hq3]]
  show z_G X zm_law (1007, [(5, .inl k0), (0, z_s), (1, z_r 0), (2, z_r 78), (3, z_r 193), (4, .inl i)], [.inl (F_M_publish fl n2 S1 a1).1], zW T2 (zwG G2 q2) (F_M_publish fl n2 S1 a1).2.1 n3, nc + 11, ns + 81)
  refine z_go2 C 1007 [(.istore 6, 2), (.aload_n 2, 1)] (1010, [(6, .inl (F_M_publish fl n2 S1 a1).1), (5, .inl k0), (0, z_s), (1, z_r 0), (2, z_r 78), (3, z_r 193), (4, .inl i)], [z_r 78], zW T2 (zwG G2 q2) (F_M_publish fl n2 S1 a1).2.1 n3, nc + 11, ns + 81) (by decide +kernel) rfl ⟨trivial, trivial, trivial⟩ ?_
  refine z_callV C (av := []) (st := []) (a := 78) (ci := 14) (by decide +kernel) (c_M_thrown T2 (zwG G2 q2) (F_M_publish fl n2 S1 a1).2.1 n3) hrm zl_L_156 zv_M_thrown rfl rfl rfl (zLfit (a := 11) (b := 81) (by decide) (by decide) (by decide) (by decide) hnc hns) rfl (Nat.le_of_ble_eq_true rfl) (fun v w' hv => ?_)
  obtain ⟨rfl, rfl⟩ := hv
  show z_G X zm_law (1013, [(6, .inl (F_M_publish fl n2 S1 a1).1), (5, .inl k0), (0, z_s), (1, z_r 0), (2, z_r 78), (3, z_r 193), (4, .inl i)], [.inl (F_M_thrown (F_M_publish fl n2 S1 a1).2.1)], zW T2 (zwG G2 q2) (F_M_publish fl n2 S1 a1).2.1 n3, nc + 11, ns + 81)
  refine z_go2 C 1013 [(.iload 5, 2)] (1015, [(6, .inl (F_M_publish fl n2 S1 a1).1), (5, .inl k0), (0, z_s), (1, z_r 0), (2, z_r 78), (3, z_r 193), (4, .inl i)], [.inl k0, .inl (F_M_thrown (F_M_publish fl n2 S1 a1).2.1)], zW T2 (zwG G2 q2) (F_M_publish fl n2 S1 a1).2.1 n3, nc + 11, ns + 81) (by decide +kernel) rfl ⟨trivial, trivial⟩ ?_
  refine z_icmp_eq 1020 C (off := 5) (by decide +kernel) (by decide) (fun c => ?_) (fun c => absurd hs.1 c)
  refine z_go2 C 1020 [(.iload 5, 2)] (1022, [(6, .inl (F_M_publish fl n2 S1 a1).1), (5, .inl k0), (0, z_s), (1, z_r 0), (2, z_r 78), (3, z_r 193), (4, .inl i)], [.inl k0], zW T2 (zwG G2 q2) (F_M_publish fl n2 S1 a1).2.1 n3, nc + 11, ns + 81) (by decide +kernel) rfl ⟨trivial, trivial⟩ ?_
  refine z_if_ne 1037 C (off := 15) (by decide +kernel) (by decide) (fun c => ?_) (fun c => ?_)
  · refine z_go2 C 1037 [(.goto 2275, 3)] (3312, [(6, .inl (F_M_publish fl n2 S1 a1).1), (5, .inl k0), (0, z_s), (1, z_r 0), (2, z_r 78), (3, z_r 193), (4, .inl i)], [], zW T2 (zwG G2 q2) (F_M_publish fl n2 S1 a1).2.1 n3, nc + 11, ns + 81) (by decide +kernel) rfl ⟨trivial, trivial⟩ ?_
    exact z_lvs (lv' := zLV i) [2, 3, 4, 5, 6] rfl (z_wid (nc' := nc + 20) (ns' := ns + 200) (zLwid (a := 11) (by decide)) (zLwid (a := 81) (by decide)) (kk _ _ _ _ _ hn2 (Nat.le_trans hn2 hle3) hfl2))
  · refine z_go2 C 1025 [(.aload_n 3, 1), (.iconst 0, 1), (.laload, 1), (.iload 6, 2), (.i2l, 1), (.lcmp, 1)] (1032, [(6, .inl (F_M_publish fl n2 S1 a1).1), (5, .inl k0), (0, z_s), (1, z_r 0), (2, z_r 78), (3, z_r 193), (4, .inl i)], [.inl (lg_cmp ((F_M_publish fl n2 S1 a1).2.1 193 0).toInt64 (F_M_publish fl n2 S1 a1).1.toInt64)], zW T2 (zwG G2 q2) (F_M_publish fl n2 S1 a1).2.1 n3, nc + 11, ns + 81) (by decide +kernel) rfl ⟨trivial, trivial, ⟨rfl, (show vp_in 0 1 by unfold vp_in; decide)⟩, trivial, trivial, trivial, trivial⟩ ?_
    refine z_if_eq 1037 C (off := 5) (by decide +kernel) (by decide) (fun c2 => ?_) (fun c2 => absurd (by rw [hs.2 c]; exact lg_cmp_self _) c2)
    refine z_go2 C 1037 [(.goto 2275, 3)] (3312, [(6, .inl (F_M_publish fl n2 S1 a1).1), (5, .inl k0), (0, z_s), (1, z_r 0), (2, z_r 78), (3, z_r 193), (4, .inl i)], [], zW T2 (zwG G2 q2) (F_M_publish fl n2 S1 a1).2.1 n3, nc + 11, ns + 81) (by decide +kernel) rfl ⟨trivial, trivial⟩ ?_
    exact z_lvs (lv' := zLV i) [2, 3, 4, 5, 6] rfl (z_wid (nc' := nc + 20) (ns' := ns + 200) (zLwid (a := 11) (by decide)) (zLwid (a := 81) (by decide)) (kk _ _ _ _ _ hn2 (Nat.le_trans hn2 hle3) hfl2))
def Fl_13 (fl : Nat → Nat) (S : (Nat → Nat → Int32)) (a1 a2 a3 a4 a5 a6 : Int32) : (Nat → Nat → Int32) := (F_M_forget (F_T_forget S).2).2
def Sl_13 (fl : Nat → Nat) (S : (Nat → Nat → Int32)) (a1 a2 a3 a4 a5 a6 : Int32) : Prop := Sf_T_forget S ∧ Sf_M_forget (F_T_forget S).2 ∧ (F_T_forget S).1 = (F_M_forget (F_T_forget S).2).1
theorem l_13 {X : z_X} (C : z_C X zm_law) (hrm : X.2.2.2.1 = room_1) {T' : Nat → Nat × Nat} {G' : Nat → Nat → Option Nat} {n q nc ns : Nat} {fl : Nat → Nat} (S : (Nat → Nat → Int32)) (i a1 a2 a3 a4 a5 a6 : Int32) (hA : zArg X i a1 a2 a3 a4 a5 a6) (hfl : zOK T' (zwG G' q) fl n) (hnc : nc + 20 ≤ 601024) (hns : ns + 200 ≤ 7293034) (hs : Sl_13 fl S a1 a2 a3 a4 a5 a6) (kk : ∀ T2 G2 n2 q2, n ≤ n2 → zOK T2 (zwG G2 q2) fl n2 → z_G X zm_law (3312, zLV i, [], zW T2 (zwG G2 q2) (Fl_13 fl S a1 a2 a3 a4 a5 a6) n2, nc + 20, ns + 200)) : z_G X zm_law (1040, zLV i, [], zW T' (zwG G' q) S n, nc, ns) := by
  unfold Sl_13 at hs
  unfold Fl_13 at kk
  refine z_go2 C 1040 [(.aload_n 1, 1)] (1041, [(0, z_s), (1, z_r 0), (2, z_r 78), (3, z_r 193), (4, .inl i)], [z_r 0], zW T' (zwG G' q) S n, nc, ns) (by decide +kernel) rfl ⟨trivial, trivial⟩ ?_
  obtain ⟨hs1, hs⟩ := hs
  refine z_callV C (av := []) (st := []) (a := 0) (ci := 11) (by decide +kernel) (c_T_forget T' (zwG G' q) S n hs1) hrm zl_L_201 zv_T_forget rfl rfl rfl (zLfit (a := 0) (b := 0) (by decide) (by decide) (by decide) (by decide) hnc hns) rfl (Nat.le_of_ble_eq_true rfl) (fun v w' hv => ?_)
  obtain ⟨rfl, rfl⟩ := hv
  show z_G X zm_law (1044, [(0, z_s), (1, z_r 0), (2, z_r 78), (3, z_r 193), (4, .inl i)], [.inl (F_T_forget S).1], zW T' (zwG G' q) (F_T_forget S).2 n, nc, ns)
  refine z_go2 C 1044 [(.aload_n 2, 1)] (1045, [(0, z_s), (1, z_r 0), (2, z_r 78), (3, z_r 193), (4, .inl i)], [z_r 78, .inl (F_T_forget S).1], zW T' (zwG G' q) (F_T_forget S).2 n, nc, ns) (by decide +kernel) rfl ⟨trivial, trivial⟩ ?_
  obtain ⟨hs1, hs⟩ := hs
  refine z_callV C (av := []) (st := [.inl (F_T_forget S).1]) (a := 78) (ci := 14) (by decide +kernel) (c_M_forget T' (zwG G' q) (F_T_forget S).2 n hs1) hrm zl_L_205 zv_M_forget rfl rfl rfl (zLfit (a := 0) (b := 0) (by decide) (by decide) (by decide) (by decide) hnc hns) rfl (Nat.le_of_ble_eq_true rfl) (fun v w' hv => ?_)
  obtain ⟨rfl, rfl⟩ := hv
  show z_G X zm_law (1048, [(0, z_s), (1, z_r 0), (2, z_r 78), (3, z_r 193), (4, .inl i)], [.inl (F_M_forget (F_T_forget S).2).1, .inl (F_T_forget S).1], zW T' (zwG G' q) (F_M_forget (F_T_forget S).2).2 n, nc, ns)
  refine z_icmp_eq 3312 C (off := 2264) (by decide +kernel) (by decide) (fun c => ?_) (fun c => absurd hs c)
  exact z_lvs (lv' := zLV i) [0, 1, 2, 3, 4] rfl (z_wid (nc' := nc + 20) (ns' := ns + 200) (zLwid (a := 0) (by decide)) (zLwid (a := 0) (by decide)) (kk _ _ _ _ (Nat.le_refl _) hfl))
def Fl_14 (fl : Nat → Nat) (S : (Nat → Nat → Int32)) (a1 a2 a3 a4 a5 a6 : Int32) : (Nat → Nat → Int32) := (F_M_create fl (F_L_create S a1 a2 a3).2 a1 a2 a3).2
def Sl_14 (fl : Nat → Nat) (S : (Nat → Nat → Int32)) (a1 a2 a3 a4 a5 a6 : Int32) : Prop := Sf_L_create S a1 a2 a3 ∧ Sf_M_create fl (F_L_create S a1 a2 a3).2 a1 a2 a3 ∧ (F_M_thrown (F_M_create fl (F_L_create S a1 a2 a3).2 a1 a2 a3).2 = (F_L_create S a1 a2 a3).1 ∧ ((F_L_create S a1 a2 a3).1 = 0 → (F_M_create fl (F_L_create S a1 a2 a3).2 a1 a2 a3).2 193 0 = (F_M_create fl (F_L_create S a1 a2 a3).2 a1 a2 a3).1))
theorem l_14 {X : z_X} (C : z_C X zm_law) (hrm : X.2.2.2.1 = room_1) {T' : Nat → Nat × Nat} {G' : Nat → Nat → Option Nat} {n q nc ns : Nat} {fl : Nat → Nat} (S : (Nat → Nat → Int32)) (i a1 a2 a3 a4 a5 a6 : Int32) (hA : zArg X i a1 a2 a3 a4 a5 a6) (hfl : zOK T' (zwG G' q) fl n) (hnc : nc + 20 ≤ 601024) (hns : ns + 200 ≤ 7293034) (hs : Sl_14 fl S a1 a2 a3 a4 a5 a6) (kk : ∀ T2 G2 n2 q2, n ≤ n2 → zOK T2 (zwG G2 q2) fl n2 → z_G X zm_law (3312, zLV i, [], zW T2 (zwG G2 q2) (Fl_14 fl S a1 a2 a3 a4 a5 a6) n2, nc + 20, ns + 200)) : z_G X zm_law (1053, zLV i, [], zW T' (zwG G' q) S n, nc, ns) := by
  unfold Sl_14 at hs
  unfold Fl_14 at kk
  refine z_go2 C 1053 [(.aload_n 1, 1), (.aload_n 0, 1), (.iload 4, 2), (.iconst 1, 1), (.iadd, 1)] (1059, [(0, z_s), (1, z_r 0), (2, z_r 78), (3, z_r 193), (4, .inl i)], [.inl (i + 1), z_s, z_r 0], zW T' (zwG G' q) S n, nc, ns) (by decide +kernel) rfl ⟨trivial, trivial, trivial, trivial, trivial, trivial⟩ ?_
  refine z_sld (v := a1) C (by decide +kernel) hA.g1.1 hA.g1.2 ?_
  refine z_go2 C 1060 [(.aload_n 0, 1), (.iload 4, 2), (.iconst 2, 1), (.iadd, 1)] (1065, [(0, z_s), (1, z_r 0), (2, z_r 78), (3, z_r 193), (4, .inl i)], [.inl (i + 2), z_s, .inl a1, z_r 0], zW T' (zwG G' q) S n, nc, ns) (by decide +kernel) rfl ⟨trivial, trivial, trivial, trivial, trivial⟩ ?_
  refine z_sld (v := a2) C (by decide +kernel) hA.g2.1 hA.g2.2 ?_
  refine z_go2 C 1066 [(.aload_n 0, 1), (.iload 4, 2), (.iconst 3, 1), (.iadd, 1)] (1071, [(0, z_s), (1, z_r 0), (2, z_r 78), (3, z_r 193), (4, .inl i)], [.inl (i + 3), z_s, .inl a2, .inl a1, z_r 0], zW T' (zwG G' q) S n, nc, ns) (by decide +kernel) rfl ⟨trivial, trivial, trivial, trivial, trivial⟩ ?_
  refine z_sld (v := a3) C (by decide +kernel) hA.g3.1 hA.g3.2 ?_
  refine z_go2 C 1072 [(.aload_n 3, 1)] (1073, [(0, z_s), (1, z_r 0), (2, z_r 78), (3, z_r 193), (4, .inl i)], [z_r 193, .inl a3, .inl a2, .inl a1, z_r 0], zW T' (zwG G' q) S n, nc, ns) (by decide +kernel) rfl ⟨trivial, trivial⟩ ?_
  obtain ⟨hs1, hs⟩ := hs
  refine z_callH (idx := 206) (hh := hh_L_create) C (av := [z_r 0, .inl a1, .inl a2, .inl a3, z_r 193]) (st := []) (by decide +kernel) (c_L_create T' G' q S n a1 a2 a3 hs1) hrm (z_wi 1067 (by decide +kernel) rfl) (z_wi 152 (by decide +kernel) rfl) ⟨by decide +kernel, by decide +kernel⟩ (show (parseMethodDescriptor zm_L_create.1.desc).map (fun d => d.parameters.length) = some 5 by decide +kernel) (z_wi 1065 (by decide +kernel) rfl) (z_wi 1066 (by decide +kernel) rfl) (zLfit (a := 0) (b := 0) (by decide) (by decide) (by decide) (by decide) hnc hns) rfl (Nat.le_of_ble_eq_true rfl) (fun v w' hv => ?_)
  obtain ⟨n2, q2, hn2, rfl, rfl⟩ := hv
  replace hfl := (hfl.le hn2).q q2
  obtain ⟨S1, hS1⟩ : ∃ y, (F_L_create S a1 a2 a3).2 = y := ⟨_, rfl⟩
  rw [hS1] at hs kk ⊢
  obtain ⟨k0, hk0⟩ : ∃ y, (F_L_create S a1 a2 a3).1 = y := ⟨_, rfl⟩
  try rw [hk0] at hs
  rw [hk0]
  show z_G X zm_law (1076, [(0, z_s), (1, z_r 0), (2, z_r 78), (3, z_r 193), (4, .inl i)], [.inl k0], zW T' (zwG G' q2) S1 n2, nc + 3, ns + 18)
  refine z_go2 C 1076 [(.istore 5, 2), (.aload_n 2, 1), (.aload_n 0, 1), (.iload 4, 2), (.iconst 1, 1), (.iadd, 1)] (1084, [(5, .inl k0), (0, z_s), (1, z_r 0), (2, z_r 78), (3, z_r 193), (4, .inl i)], [.inl (i + 1), z_s, z_r 78], zW T' (zwG G' q2) S1 n2, nc + 3, ns + 18) (by decide +kernel) rfl ⟨trivial, trivial, trivial, trivial, trivial, trivial, trivial⟩ ?_
  refine z_sld (v := a1) C (by decide +kernel) hA.g1.1 hA.g1.2 ?_
  refine z_go2 C 1085 [(.aload_n 0, 1), (.iload 4, 2), (.iconst 2, 1), (.iadd, 1)] (1090, [(5, .inl k0), (0, z_s), (1, z_r 0), (2, z_r 78), (3, z_r 193), (4, .inl i)], [.inl (i + 2), z_s, .inl a1, z_r 78], zW T' (zwG G' q2) S1 n2, nc + 3, ns + 18) (by decide +kernel) rfl ⟨trivial, trivial, trivial, trivial, trivial⟩ ?_
  refine z_sld (v := a2) C (by decide +kernel) hA.g2.1 hA.g2.2 ?_
  refine z_go2 C 1091 [(.aload_n 0, 1), (.iload 4, 2), (.iconst 3, 1), (.iadd, 1)] (1096, [(5, .inl k0), (0, z_s), (1, z_r 0), (2, z_r 78), (3, z_r 193), (4, .inl i)], [.inl (i + 3), z_s, .inl a2, .inl a1, z_r 78], zW T' (zwG G' q2) S1 n2, nc + 3, ns + 18) (by decide +kernel) rfl ⟨trivial, trivial, trivial, trivial, trivial⟩ ?_
  refine z_sld (v := a3) C (by decide +kernel) hA.g3.1 hA.g3.2 ?_
  obtain ⟨hs1, hs⟩ := hs
  refine z_callV C (av := [.inl a1, .inl a2, .inl a3]) (st := []) (a := 78) (ci := 14) (by decide +kernel) (c_M_create T' (zwG G' q2) n2 fl hfl S1 a1 a2 a3 hs1) hrm zl_L_208 zv_M_create rfl rfl rfl (zLfit (a := 3) (b := 18) (by decide) (by decide) (by decide) (by decide) hnc hns) rfl (Nat.le_of_ble_eq_true rfl) (fun v w' hv => ?_)
  obtain ⟨rfl, rfl⟩ := hv
  show z_G X zm_law (1100, [(5, .inl k0), (0, z_s), (1, z_r 0), (2, z_r 78), (3, z_r 193), (4, .inl i)], [.inl (F_M_create fl S1 a1 a2 a3).1], zW T' (zwG G' q2) (F_M_create fl S1 a1 a2 a3).2 n2, nc + 3, ns + 18)
  refine z_go2 C 1100 [(.istore 6, 2), (.aload_n 2, 1)] (1103, [(6, .inl (F_M_create fl S1 a1 a2 a3).1), (5, .inl k0), (0, z_s), (1, z_r 0), (2, z_r 78), (3, z_r 193), (4, .inl i)], [z_r 78], zW T' (zwG G' q2) (F_M_create fl S1 a1 a2 a3).2 n2, nc + 3, ns + 18) (by decide +kernel) rfl ⟨trivial, trivial, trivial⟩ ?_
  refine z_callV C (av := []) (st := []) (a := 78) (ci := 14) (by decide +kernel) (c_M_thrown T' (zwG G' q2) (F_M_create fl S1 a1 a2 a3).2 n2) hrm zl_L_156 zv_M_thrown rfl rfl rfl (zLfit (a := 3) (b := 18) (by decide) (by decide) (by decide) (by decide) hnc hns) rfl (Nat.le_of_ble_eq_true rfl) (fun v w' hv => ?_)
  obtain ⟨rfl, rfl⟩ := hv
  show z_G X zm_law (1106, [(6, .inl (F_M_create fl S1 a1 a2 a3).1), (5, .inl k0), (0, z_s), (1, z_r 0), (2, z_r 78), (3, z_r 193), (4, .inl i)], [.inl (F_M_thrown (F_M_create fl S1 a1 a2 a3).2)], zW T' (zwG G' q2) (F_M_create fl S1 a1 a2 a3).2 n2, nc + 3, ns + 18)
  refine z_go2 C 1106 [(.iload 5, 2)] (1108, [(6, .inl (F_M_create fl S1 a1 a2 a3).1), (5, .inl k0), (0, z_s), (1, z_r 0), (2, z_r 78), (3, z_r 193), (4, .inl i)], [.inl k0, .inl (F_M_thrown (F_M_create fl S1 a1 a2 a3).2)], zW T' (zwG G' q2) (F_M_create fl S1 a1 a2 a3).2 n2, nc + 3, ns + 18) (by decide +kernel) rfl ⟨trivial, trivial⟩ ?_
  refine z_icmp_eq 1113 C (off := 5) (by decide +kernel) (by decide) (fun c => ?_) (fun c => absurd hs.1 c)
  refine z_go2 C 1113 [(.iload 5, 2)] (1115, [(6, .inl (F_M_create fl S1 a1 a2 a3).1), (5, .inl k0), (0, z_s), (1, z_r 0), (2, z_r 78), (3, z_r 193), (4, .inl i)], [.inl k0], zW T' (zwG G' q2) (F_M_create fl S1 a1 a2 a3).2 n2, nc + 3, ns + 18) (by decide +kernel) rfl ⟨trivial, trivial⟩ ?_
  refine z_if_ne 1130 C (off := 15) (by decide +kernel) (by decide) (fun c => ?_) (fun c => ?_)
  · refine z_go2 C 1130 [(.goto 2182, 3)] (3312, [(6, .inl (F_M_create fl S1 a1 a2 a3).1), (5, .inl k0), (0, z_s), (1, z_r 0), (2, z_r 78), (3, z_r 193), (4, .inl i)], [], zW T' (zwG G' q2) (F_M_create fl S1 a1 a2 a3).2 n2, nc + 3, ns + 18) (by decide +kernel) rfl ⟨trivial, trivial⟩ ?_
    exact z_lvs (lv' := zLV i) [2, 3, 4, 5, 6] rfl (z_wid (nc' := nc + 20) (ns' := ns + 200) (zLwid (a := 3) (by decide)) (zLwid (a := 18) (by decide)) (kk _ _ _ _ hn2 hfl))
  · refine z_go2 C 1118 [(.aload_n 3, 1), (.iconst 0, 1), (.laload, 1), (.iload 6, 2), (.i2l, 1), (.lcmp, 1)] (1125, [(6, .inl (F_M_create fl S1 a1 a2 a3).1), (5, .inl k0), (0, z_s), (1, z_r 0), (2, z_r 78), (3, z_r 193), (4, .inl i)], [.inl (lg_cmp ((F_M_create fl S1 a1 a2 a3).2 193 0).toInt64 (F_M_create fl S1 a1 a2 a3).1.toInt64)], zW T' (zwG G' q2) (F_M_create fl S1 a1 a2 a3).2 n2, nc + 3, ns + 18) (by decide +kernel) rfl ⟨trivial, trivial, ⟨rfl, (show vp_in 0 1 by unfold vp_in; decide)⟩, trivial, trivial, trivial, trivial⟩ ?_
    refine z_if_eq 1130 C (off := 5) (by decide +kernel) (by decide) (fun c2 => ?_) (fun c2 => absurd (by rw [hs.2 c]; exact lg_cmp_self _) c2)
    refine z_go2 C 1130 [(.goto 2182, 3)] (3312, [(6, .inl (F_M_create fl S1 a1 a2 a3).1), (5, .inl k0), (0, z_s), (1, z_r 0), (2, z_r 78), (3, z_r 193), (4, .inl i)], [], zW T' (zwG G' q2) (F_M_create fl S1 a1 a2 a3).2 n2, nc + 3, ns + 18) (by decide +kernel) rfl ⟨trivial, trivial⟩ ?_
    exact z_lvs (lv' := zLV i) [2, 3, 4, 5, 6] rfl (z_wid (nc' := nc + 20) (ns' := ns + 200) (zLwid (a := 3) (by decide)) (zLwid (a := 18) (by decide)) (kk _ _ _ _ hn2 hfl))
def Fl_15 (fl : Nat → Nat) (S : (Nat → Nat → Int32)) (a1 a2 a3 a4 a5 a6 : Int32) : (Nat → Nat → Int32) := (F_M_set fl (F_L_set S a1 a2 a3 a4).2 a1 a2 a3 a4).2
def Sl_15 (fl : Nat → Nat) (S : (Nat → Nat → Int32)) (a1 a2 a3 a4 a5 a6 : Int32) : Prop := Sf_L_set S a1 a2 a3 a4 ∧ Sf_M_set fl (F_L_set S a1 a2 a3 a4).2 a1 a2 a3 a4 ∧ (F_M_thrown (F_M_set fl (F_L_set S a1 a2 a3 a4).2 a1 a2 a3 a4).2 = (F_L_set S a1 a2 a3 a4).1 ∧ ((F_L_set S a1 a2 a3 a4).1 = 0 → (F_M_set fl (F_L_set S a1 a2 a3 a4).2 a1 a2 a3 a4).2 193 0 = (F_M_set fl (F_L_set S a1 a2 a3 a4).2 a1 a2 a3 a4).1))
theorem l_15 {X : z_X} (C : z_C X zm_law) (hrm : X.2.2.2.1 = room_1) {T' : Nat → Nat × Nat} {G' : Nat → Nat → Option Nat} {n q nc ns : Nat} {fl : Nat → Nat} (S : (Nat → Nat → Int32)) (i a1 a2 a3 a4 a5 a6 : Int32) (hA : zArg X i a1 a2 a3 a4 a5 a6) (hfl : zOK T' (zwG G' q) fl n) (hnc : nc + 20 ≤ 601024) (hns : ns + 200 ≤ 7293034) (hs : Sl_15 fl S a1 a2 a3 a4 a5 a6) (kk : ∀ T2 G2 n2 q2, n ≤ n2 → zOK T2 (zwG G2 q2) fl n2 → z_G X zm_law (3312, zLV i, [], zW T2 (zwG G2 q2) (Fl_15 fl S a1 a2 a3 a4 a5 a6) n2, nc + 20, ns + 200)) : z_G X zm_law (1133, zLV i, [], zW T' (zwG G' q) S n, nc, ns) := by
  unfold Sl_15 at hs
  unfold Fl_15 at kk
  refine z_go2 C 1133 [(.aload_n 1, 1), (.aload_n 0, 1), (.iload 4, 2), (.iconst 1, 1), (.iadd, 1)] (1139, [(0, z_s), (1, z_r 0), (2, z_r 78), (3, z_r 193), (4, .inl i)], [.inl (i + 1), z_s, z_r 0], zW T' (zwG G' q) S n, nc, ns) (by decide +kernel) rfl ⟨trivial, trivial, trivial, trivial, trivial, trivial⟩ ?_
  refine z_sld (v := a1) C (by decide +kernel) hA.g1.1 hA.g1.2 ?_
  refine z_go2 C 1140 [(.aload_n 0, 1), (.iload 4, 2), (.iconst 2, 1), (.iadd, 1)] (1145, [(0, z_s), (1, z_r 0), (2, z_r 78), (3, z_r 193), (4, .inl i)], [.inl (i + 2), z_s, .inl a1, z_r 0], zW T' (zwG G' q) S n, nc, ns) (by decide +kernel) rfl ⟨trivial, trivial, trivial, trivial, trivial⟩ ?_
  refine z_sld (v := a2) C (by decide +kernel) hA.g2.1 hA.g2.2 ?_
  refine z_go2 C 1146 [(.aload_n 0, 1), (.iload 4, 2), (.iconst 3, 1), (.iadd, 1)] (1151, [(0, z_s), (1, z_r 0), (2, z_r 78), (3, z_r 193), (4, .inl i)], [.inl (i + 3), z_s, .inl a2, .inl a1, z_r 0], zW T' (zwG G' q) S n, nc, ns) (by decide +kernel) rfl ⟨trivial, trivial, trivial, trivial, trivial⟩ ?_
  refine z_sld (v := a3) C (by decide +kernel) hA.g3.1 hA.g3.2 ?_
  refine z_go2 C 1152 [(.aload_n 0, 1), (.iload 4, 2), (.iconst 4, 1), (.iadd, 1)] (1157, [(0, z_s), (1, z_r 0), (2, z_r 78), (3, z_r 193), (4, .inl i)], [.inl (i + 4), z_s, .inl a3, .inl a2, .inl a1, z_r 0], zW T' (zwG G' q) S n, nc, ns) (by decide +kernel) rfl ⟨trivial, trivial, trivial, trivial, trivial⟩ ?_
  refine z_sld (v := a4) C (by decide +kernel) hA.g4.1 hA.g4.2 ?_
  refine z_go2 C 1158 [(.aload_n 3, 1)] (1159, [(0, z_s), (1, z_r 0), (2, z_r 78), (3, z_r 193), (4, .inl i)], [z_r 193, .inl a4, .inl a3, .inl a2, .inl a1, z_r 0], zW T' (zwG G' q) S n, nc, ns) (by decide +kernel) rfl ⟨trivial, trivial⟩ ?_
  obtain ⟨hs1, hs⟩ := hs
  refine z_callH (idx := 209) (hh := hh_L_set) C (av := [z_r 0, .inl a1, .inl a2, .inl a3, .inl a4, z_r 193]) (st := []) (by decide +kernel) (c_L_set T' G' q S n a1 a2 a3 a4 hs1) hrm (z_wi 1105 (by decide +kernel) rfl) (z_wi 152 (by decide +kernel) rfl) ⟨by decide +kernel, by decide +kernel⟩ (show (parseMethodDescriptor zm_L_set.1.desc).map (fun d => d.parameters.length) = some 6 by decide +kernel) (z_wi 1103 (by decide +kernel) rfl) (z_wi 1104 (by decide +kernel) rfl) (zLfit (a := 0) (b := 0) (by decide) (by decide) (by decide) (by decide) hnc hns) rfl (Nat.le_of_ble_eq_true rfl) (fun v w' hv => ?_)
  obtain ⟨n2, q2, hn2, rfl, rfl⟩ := hv
  replace hfl := (hfl.le hn2).q q2
  obtain ⟨S1, hS1⟩ : ∃ y, (F_L_set S a1 a2 a3 a4).2 = y := ⟨_, rfl⟩
  rw [hS1] at hs kk ⊢
  obtain ⟨k0, hk0⟩ : ∃ y, (F_L_set S a1 a2 a3 a4).1 = y := ⟨_, rfl⟩
  try rw [hk0] at hs
  rw [hk0]
  show z_G X zm_law (1162, [(0, z_s), (1, z_r 0), (2, z_r 78), (3, z_r 193), (4, .inl i)], [.inl k0], zW T' (zwG G' q2) S1 n2, nc + 4, ns + 24)
  refine z_go2 C 1162 [(.istore 5, 2), (.aload_n 2, 1), (.aload_n 0, 1), (.iload 4, 2), (.iconst 1, 1), (.iadd, 1)] (1170, [(5, .inl k0), (0, z_s), (1, z_r 0), (2, z_r 78), (3, z_r 193), (4, .inl i)], [.inl (i + 1), z_s, z_r 78], zW T' (zwG G' q2) S1 n2, nc + 4, ns + 24) (by decide +kernel) rfl ⟨trivial, trivial, trivial, trivial, trivial, trivial, trivial⟩ ?_
  refine z_sld (v := a1) C (by decide +kernel) hA.g1.1 hA.g1.2 ?_
  refine z_go2 C 1171 [(.aload_n 0, 1), (.iload 4, 2), (.iconst 2, 1), (.iadd, 1)] (1176, [(5, .inl k0), (0, z_s), (1, z_r 0), (2, z_r 78), (3, z_r 193), (4, .inl i)], [.inl (i + 2), z_s, .inl a1, z_r 78], zW T' (zwG G' q2) S1 n2, nc + 4, ns + 24) (by decide +kernel) rfl ⟨trivial, trivial, trivial, trivial, trivial⟩ ?_
  refine z_sld (v := a2) C (by decide +kernel) hA.g2.1 hA.g2.2 ?_
  refine z_go2 C 1177 [(.aload_n 0, 1), (.iload 4, 2), (.iconst 3, 1), (.iadd, 1)] (1182, [(5, .inl k0), (0, z_s), (1, z_r 0), (2, z_r 78), (3, z_r 193), (4, .inl i)], [.inl (i + 3), z_s, .inl a2, .inl a1, z_r 78], zW T' (zwG G' q2) S1 n2, nc + 4, ns + 24) (by decide +kernel) rfl ⟨trivial, trivial, trivial, trivial, trivial⟩ ?_
  refine z_sld (v := a3) C (by decide +kernel) hA.g3.1 hA.g3.2 ?_
  refine z_go2 C 1183 [(.aload_n 0, 1), (.iload 4, 2), (.iconst 4, 1), (.iadd, 1)] (1188, [(5, .inl k0), (0, z_s), (1, z_r 0), (2, z_r 78), (3, z_r 193), (4, .inl i)], [.inl (i + 4), z_s, .inl a3, .inl a2, .inl a1, z_r 78], zW T' (zwG G' q2) S1 n2, nc + 4, ns + 24) (by decide +kernel) rfl ⟨trivial, trivial, trivial, trivial, trivial⟩ ?_
  refine z_sld (v := a4) C (by decide +kernel) hA.g4.1 hA.g4.2 ?_
  obtain ⟨hs1, hs⟩ := hs
  refine z_callV C (av := [.inl a1, .inl a2, .inl a3, .inl a4]) (st := []) (a := 78) (ci := 14) (by decide +kernel) (c_M_set T' (zwG G' q2) n2 fl hfl S1 a1 a2 a3 a4 hs1) hrm zl_L_212 zv_M_set rfl rfl rfl (zLfit (a := 4) (b := 24) (by decide) (by decide) (by decide) (by decide) hnc hns) rfl (Nat.le_of_ble_eq_true rfl) (fun v w' hv => ?_)
  obtain ⟨rfl, rfl⟩ := hv
  show z_G X zm_law (1192, [(5, .inl k0), (0, z_s), (1, z_r 0), (2, z_r 78), (3, z_r 193), (4, .inl i)], [.inl (F_M_set fl S1 a1 a2 a3 a4).1], zW T' (zwG G' q2) (F_M_set fl S1 a1 a2 a3 a4).2 n2, nc + 4, ns + 24)
  refine z_go2 C 1192 [(.istore 6, 2), (.aload_n 2, 1)] (1195, [(6, .inl (F_M_set fl S1 a1 a2 a3 a4).1), (5, .inl k0), (0, z_s), (1, z_r 0), (2, z_r 78), (3, z_r 193), (4, .inl i)], [z_r 78], zW T' (zwG G' q2) (F_M_set fl S1 a1 a2 a3 a4).2 n2, nc + 4, ns + 24) (by decide +kernel) rfl ⟨trivial, trivial, trivial⟩ ?_
  refine z_callV C (av := []) (st := []) (a := 78) (ci := 14) (by decide +kernel) (c_M_thrown T' (zwG G' q2) (F_M_set fl S1 a1 a2 a3 a4).2 n2) hrm zl_L_156 zv_M_thrown rfl rfl rfl (zLfit (a := 4) (b := 24) (by decide) (by decide) (by decide) (by decide) hnc hns) rfl (Nat.le_of_ble_eq_true rfl) (fun v w' hv => ?_)
  obtain ⟨rfl, rfl⟩ := hv
  show z_G X zm_law (1198, [(6, .inl (F_M_set fl S1 a1 a2 a3 a4).1), (5, .inl k0), (0, z_s), (1, z_r 0), (2, z_r 78), (3, z_r 193), (4, .inl i)], [.inl (F_M_thrown (F_M_set fl S1 a1 a2 a3 a4).2)], zW T' (zwG G' q2) (F_M_set fl S1 a1 a2 a3 a4).2 n2, nc + 4, ns + 24)
  refine z_go2 C 1198 [(.iload 5, 2)] (1200, [(6, .inl (F_M_set fl S1 a1 a2 a3 a4).1), (5, .inl k0), (0, z_s), (1, z_r 0), (2, z_r 78), (3, z_r 193), (4, .inl i)], [.inl k0, .inl (F_M_thrown (F_M_set fl S1 a1 a2 a3 a4).2)], zW T' (zwG G' q2) (F_M_set fl S1 a1 a2 a3 a4).2 n2, nc + 4, ns + 24) (by decide +kernel) rfl ⟨trivial, trivial⟩ ?_
  refine z_icmp_eq 1205 C (off := 5) (by decide +kernel) (by decide) (fun c => ?_) (fun c => absurd hs.1 c)
  refine z_go2 C 1205 [(.iload 5, 2)] (1207, [(6, .inl (F_M_set fl S1 a1 a2 a3 a4).1), (5, .inl k0), (0, z_s), (1, z_r 0), (2, z_r 78), (3, z_r 193), (4, .inl i)], [.inl k0], zW T' (zwG G' q2) (F_M_set fl S1 a1 a2 a3 a4).2 n2, nc + 4, ns + 24) (by decide +kernel) rfl ⟨trivial, trivial⟩ ?_
  refine z_if_ne 1222 C (off := 15) (by decide +kernel) (by decide) (fun c => ?_) (fun c => ?_)
  · refine z_go2 C 1222 [(.goto 2090, 3)] (3312, [(6, .inl (F_M_set fl S1 a1 a2 a3 a4).1), (5, .inl k0), (0, z_s), (1, z_r 0), (2, z_r 78), (3, z_r 193), (4, .inl i)], [], zW T' (zwG G' q2) (F_M_set fl S1 a1 a2 a3 a4).2 n2, nc + 4, ns + 24) (by decide +kernel) rfl ⟨trivial, trivial⟩ ?_
    exact z_lvs (lv' := zLV i) [2, 3, 4, 5, 6] rfl (z_wid (nc' := nc + 20) (ns' := ns + 200) (zLwid (a := 4) (by decide)) (zLwid (a := 24) (by decide)) (kk _ _ _ _ hn2 hfl))
  · refine z_go2 C 1210 [(.aload_n 3, 1), (.iconst 0, 1), (.laload, 1), (.iload 6, 2), (.i2l, 1), (.lcmp, 1)] (1217, [(6, .inl (F_M_set fl S1 a1 a2 a3 a4).1), (5, .inl k0), (0, z_s), (1, z_r 0), (2, z_r 78), (3, z_r 193), (4, .inl i)], [.inl (lg_cmp ((F_M_set fl S1 a1 a2 a3 a4).2 193 0).toInt64 (F_M_set fl S1 a1 a2 a3 a4).1.toInt64)], zW T' (zwG G' q2) (F_M_set fl S1 a1 a2 a3 a4).2 n2, nc + 4, ns + 24) (by decide +kernel) rfl ⟨trivial, trivial, ⟨rfl, (show vp_in 0 1 by unfold vp_in; decide)⟩, trivial, trivial, trivial, trivial⟩ ?_
    refine z_if_eq 1222 C (off := 5) (by decide +kernel) (by decide) (fun c2 => ?_) (fun c2 => absurd (by rw [hs.2 c]; exact lg_cmp_self _) c2)
    refine z_go2 C 1222 [(.goto 2090, 3)] (3312, [(6, .inl (F_M_set fl S1 a1 a2 a3 a4).1), (5, .inl k0), (0, z_s), (1, z_r 0), (2, z_r 78), (3, z_r 193), (4, .inl i)], [], zW T' (zwG G' q2) (F_M_set fl S1 a1 a2 a3 a4).2 n2, nc + 4, ns + 24) (by decide +kernel) rfl ⟨trivial, trivial⟩ ?_
    exact z_lvs (lv' := zLV i) [2, 3, 4, 5, 6] rfl (z_wid (nc' := nc + 20) (ns' := ns + 200) (zLwid (a := 4) (by decide)) (zLwid (a := 24) (by decide)) (kk _ _ _ _ hn2 hfl))
def Fl_16 (fl : Nat → Nat) (S : (Nat → Nat → Int32)) (a1 a2 a3 a4 a5 a6 : Int32) : (Nat → Nat → Int32) := (F_M_assign fl (F_L_assign S a1 a2 a3).2 a1 a2 a3).2
def Sl_16 (fl : Nat → Nat) (S : (Nat → Nat → Int32)) (a1 a2 a3 a4 a5 a6 : Int32) : Prop := Sf_L_assign S a1 a2 a3 ∧ Sf_M_assign fl (F_L_assign S a1 a2 a3).2 a1 a2 a3 ∧ (F_M_thrown (F_M_assign fl (F_L_assign S a1 a2 a3).2 a1 a2 a3).2 = (F_L_assign S a1 a2 a3).1 ∧ ((F_L_assign S a1 a2 a3).1 = 0 → (F_M_assign fl (F_L_assign S a1 a2 a3).2 a1 a2 a3).2 193 0 = (F_M_assign fl (F_L_assign S a1 a2 a3).2 a1 a2 a3).1))
theorem l_16 {X : z_X} (C : z_C X zm_law) (hrm : X.2.2.2.1 = room_1) {T' : Nat → Nat × Nat} {G' : Nat → Nat → Option Nat} {n q nc ns : Nat} {fl : Nat → Nat} (S : (Nat → Nat → Int32)) (i a1 a2 a3 a4 a5 a6 : Int32) (hA : zArg X i a1 a2 a3 a4 a5 a6) (hfl : zOK T' (zwG G' q) fl n) (hnc : nc + 20 ≤ 601024) (hns : ns + 200 ≤ 7293034) (hs : Sl_16 fl S a1 a2 a3 a4 a5 a6) (kk : ∀ T2 G2 n2 q2, n ≤ n2 → zOK T2 (zwG G2 q2) fl n2 → z_G X zm_law (3312, zLV i, [], zW T2 (zwG G2 q2) (Fl_16 fl S a1 a2 a3 a4 a5 a6) n2, nc + 20, ns + 200)) : z_G X zm_law (1225, zLV i, [], zW T' (zwG G' q) S n, nc, ns) := by
  unfold Sl_16 at hs
  unfold Fl_16 at kk
  refine z_go2 C 1225 [(.aload_n 1, 1), (.aload_n 0, 1), (.iload 4, 2), (.iconst 1, 1), (.iadd, 1)] (1231, [(0, z_s), (1, z_r 0), (2, z_r 78), (3, z_r 193), (4, .inl i)], [.inl (i + 1), z_s, z_r 0], zW T' (zwG G' q) S n, nc, ns) (by decide +kernel) rfl ⟨trivial, trivial, trivial, trivial, trivial, trivial⟩ ?_
  refine z_sld (v := a1) C (by decide +kernel) hA.g1.1 hA.g1.2 ?_
  refine z_go2 C 1232 [(.aload_n 0, 1), (.iload 4, 2), (.iconst 2, 1), (.iadd, 1)] (1237, [(0, z_s), (1, z_r 0), (2, z_r 78), (3, z_r 193), (4, .inl i)], [.inl (i + 2), z_s, .inl a1, z_r 0], zW T' (zwG G' q) S n, nc, ns) (by decide +kernel) rfl ⟨trivial, trivial, trivial, trivial, trivial⟩ ?_
  refine z_sld (v := a2) C (by decide +kernel) hA.g2.1 hA.g2.2 ?_
  refine z_go2 C 1238 [(.aload_n 0, 1), (.iload 4, 2), (.iconst 3, 1), (.iadd, 1)] (1243, [(0, z_s), (1, z_r 0), (2, z_r 78), (3, z_r 193), (4, .inl i)], [.inl (i + 3), z_s, .inl a2, .inl a1, z_r 0], zW T' (zwG G' q) S n, nc, ns) (by decide +kernel) rfl ⟨trivial, trivial, trivial, trivial, trivial⟩ ?_
  refine z_sld (v := a3) C (by decide +kernel) hA.g3.1 hA.g3.2 ?_
  refine z_go2 C 1244 [(.aload_n 3, 1)] (1245, [(0, z_s), (1, z_r 0), (2, z_r 78), (3, z_r 193), (4, .inl i)], [z_r 193, .inl a3, .inl a2, .inl a1, z_r 0], zW T' (zwG G' q) S n, nc, ns) (by decide +kernel) rfl ⟨trivial, trivial⟩ ?_
  obtain ⟨hs1, hs⟩ := hs
  refine z_callH (idx := 213) (hh := hh_L_assign) C (av := [z_r 0, .inl a1, .inl a2, .inl a3, z_r 193]) (st := []) (by decide +kernel) (c_L_assign T' G' q S n a1 a2 a3 hs1) hrm (z_wi 1155 (by decide +kernel) rfl) (z_wi 152 (by decide +kernel) rfl) ⟨by decide +kernel, by decide +kernel⟩ (show (parseMethodDescriptor zm_L_assign.1.desc).map (fun d => d.parameters.length) = some 5 by decide +kernel) (z_wi 1153 (by decide +kernel) rfl) (z_wi 1154 (by decide +kernel) rfl) (zLfit (a := 0) (b := 0) (by decide) (by decide) (by decide) (by decide) hnc hns) rfl (Nat.le_of_ble_eq_true rfl) (fun v w' hv => ?_)
  obtain ⟨n2, q2, hn2, rfl, rfl⟩ := hv
  replace hfl := (hfl.le hn2).q q2
  obtain ⟨S1, hS1⟩ : ∃ y, (F_L_assign S a1 a2 a3).2 = y := ⟨_, rfl⟩
  rw [hS1] at hs kk ⊢
  obtain ⟨k0, hk0⟩ : ∃ y, (F_L_assign S a1 a2 a3).1 = y := ⟨_, rfl⟩
  try rw [hk0] at hs
  rw [hk0]
  show z_G X zm_law (1248, [(0, z_s), (1, z_r 0), (2, z_r 78), (3, z_r 193), (4, .inl i)], [.inl k0], zW T' (zwG G' q2) S1 n2, nc + 3, ns + 18)
  refine z_go2 C 1248 [(.istore 5, 2), (.aload_n 2, 1), (.aload_n 0, 1), (.iload 4, 2), (.iconst 1, 1), (.iadd, 1)] (1256, [(5, .inl k0), (0, z_s), (1, z_r 0), (2, z_r 78), (3, z_r 193), (4, .inl i)], [.inl (i + 1), z_s, z_r 78], zW T' (zwG G' q2) S1 n2, nc + 3, ns + 18) (by decide +kernel) rfl ⟨trivial, trivial, trivial, trivial, trivial, trivial, trivial⟩ ?_
  refine z_sld (v := a1) C (by decide +kernel) hA.g1.1 hA.g1.2 ?_
  refine z_go2 C 1257 [(.aload_n 0, 1), (.iload 4, 2), (.iconst 2, 1), (.iadd, 1)] (1262, [(5, .inl k0), (0, z_s), (1, z_r 0), (2, z_r 78), (3, z_r 193), (4, .inl i)], [.inl (i + 2), z_s, .inl a1, z_r 78], zW T' (zwG G' q2) S1 n2, nc + 3, ns + 18) (by decide +kernel) rfl ⟨trivial, trivial, trivial, trivial, trivial⟩ ?_
  refine z_sld (v := a2) C (by decide +kernel) hA.g2.1 hA.g2.2 ?_
  refine z_go2 C 1263 [(.aload_n 0, 1), (.iload 4, 2), (.iconst 3, 1), (.iadd, 1)] (1268, [(5, .inl k0), (0, z_s), (1, z_r 0), (2, z_r 78), (3, z_r 193), (4, .inl i)], [.inl (i + 3), z_s, .inl a2, .inl a1, z_r 78], zW T' (zwG G' q2) S1 n2, nc + 3, ns + 18) (by decide +kernel) rfl ⟨trivial, trivial, trivial, trivial, trivial⟩ ?_
  refine z_sld (v := a3) C (by decide +kernel) hA.g3.1 hA.g3.2 ?_
  obtain ⟨hs1, hs⟩ := hs
  refine z_callV C (av := [.inl a1, .inl a2, .inl a3]) (st := []) (a := 78) (ci := 14) (by decide +kernel) (c_M_assign T' (zwG G' q2) n2 fl hfl S1 a1 a2 a3 hs1) hrm zl_L_215 zv_M_assign rfl rfl rfl (zLfit (a := 3) (b := 18) (by decide) (by decide) (by decide) (by decide) hnc hns) rfl (Nat.le_of_ble_eq_true rfl) (fun v w' hv => ?_)
  obtain ⟨rfl, rfl⟩ := hv
  show z_G X zm_law (1272, [(5, .inl k0), (0, z_s), (1, z_r 0), (2, z_r 78), (3, z_r 193), (4, .inl i)], [.inl (F_M_assign fl S1 a1 a2 a3).1], zW T' (zwG G' q2) (F_M_assign fl S1 a1 a2 a3).2 n2, nc + 3, ns + 18)
  refine z_go2 C 1272 [(.istore 6, 2), (.aload_n 2, 1)] (1275, [(6, .inl (F_M_assign fl S1 a1 a2 a3).1), (5, .inl k0), (0, z_s), (1, z_r 0), (2, z_r 78), (3, z_r 193), (4, .inl i)], [z_r 78], zW T' (zwG G' q2) (F_M_assign fl S1 a1 a2 a3).2 n2, nc + 3, ns + 18) (by decide +kernel) rfl ⟨trivial, trivial, trivial⟩ ?_
  refine z_callV C (av := []) (st := []) (a := 78) (ci := 14) (by decide +kernel) (c_M_thrown T' (zwG G' q2) (F_M_assign fl S1 a1 a2 a3).2 n2) hrm zl_L_156 zv_M_thrown rfl rfl rfl (zLfit (a := 3) (b := 18) (by decide) (by decide) (by decide) (by decide) hnc hns) rfl (Nat.le_of_ble_eq_true rfl) (fun v w' hv => ?_)
  obtain ⟨rfl, rfl⟩ := hv
  show z_G X zm_law (1278, [(6, .inl (F_M_assign fl S1 a1 a2 a3).1), (5, .inl k0), (0, z_s), (1, z_r 0), (2, z_r 78), (3, z_r 193), (4, .inl i)], [.inl (F_M_thrown (F_M_assign fl S1 a1 a2 a3).2)], zW T' (zwG G' q2) (F_M_assign fl S1 a1 a2 a3).2 n2, nc + 3, ns + 18)
  refine z_go2 C 1278 [(.iload 5, 2)] (1280, [(6, .inl (F_M_assign fl S1 a1 a2 a3).1), (5, .inl k0), (0, z_s), (1, z_r 0), (2, z_r 78), (3, z_r 193), (4, .inl i)], [.inl k0, .inl (F_M_thrown (F_M_assign fl S1 a1 a2 a3).2)], zW T' (zwG G' q2) (F_M_assign fl S1 a1 a2 a3).2 n2, nc + 3, ns + 18) (by decide +kernel) rfl ⟨trivial, trivial⟩ ?_
  refine z_icmp_eq 1285 C (off := 5) (by decide +kernel) (by decide) (fun c => ?_) (fun c => absurd hs.1 c)
  refine z_go2 C 1285 [(.iload 5, 2)] (1287, [(6, .inl (F_M_assign fl S1 a1 a2 a3).1), (5, .inl k0), (0, z_s), (1, z_r 0), (2, z_r 78), (3, z_r 193), (4, .inl i)], [.inl k0], zW T' (zwG G' q2) (F_M_assign fl S1 a1 a2 a3).2 n2, nc + 3, ns + 18) (by decide +kernel) rfl ⟨trivial, trivial⟩ ?_
  refine z_if_ne 1302 C (off := 15) (by decide +kernel) (by decide) (fun c => ?_) (fun c => ?_)
  · refine z_go2 C 1302 [(.goto 2010, 3)] (3312, [(6, .inl (F_M_assign fl S1 a1 a2 a3).1), (5, .inl k0), (0, z_s), (1, z_r 0), (2, z_r 78), (3, z_r 193), (4, .inl i)], [], zW T' (zwG G' q2) (F_M_assign fl S1 a1 a2 a3).2 n2, nc + 3, ns + 18) (by decide +kernel) rfl ⟨trivial, trivial⟩ ?_
    exact z_lvs (lv' := zLV i) [2, 3, 4, 5, 6] rfl (z_wid (nc' := nc + 20) (ns' := ns + 200) (zLwid (a := 3) (by decide)) (zLwid (a := 18) (by decide)) (kk _ _ _ _ hn2 hfl))
  · refine z_go2 C 1290 [(.aload_n 3, 1), (.iconst 0, 1), (.laload, 1), (.iload 6, 2), (.i2l, 1), (.lcmp, 1)] (1297, [(6, .inl (F_M_assign fl S1 a1 a2 a3).1), (5, .inl k0), (0, z_s), (1, z_r 0), (2, z_r 78), (3, z_r 193), (4, .inl i)], [.inl (lg_cmp ((F_M_assign fl S1 a1 a2 a3).2 193 0).toInt64 (F_M_assign fl S1 a1 a2 a3).1.toInt64)], zW T' (zwG G' q2) (F_M_assign fl S1 a1 a2 a3).2 n2, nc + 3, ns + 18) (by decide +kernel) rfl ⟨trivial, trivial, ⟨rfl, (show vp_in 0 1 by unfold vp_in; decide)⟩, trivial, trivial, trivial, trivial⟩ ?_
    refine z_if_eq 1302 C (off := 5) (by decide +kernel) (by decide) (fun c2 => ?_) (fun c2 => absurd (by rw [hs.2 c]; exact lg_cmp_self _) c2)
    refine z_go2 C 1302 [(.goto 2010, 3)] (3312, [(6, .inl (F_M_assign fl S1 a1 a2 a3).1), (5, .inl k0), (0, z_s), (1, z_r 0), (2, z_r 78), (3, z_r 193), (4, .inl i)], [], zW T' (zwG G' q2) (F_M_assign fl S1 a1 a2 a3).2 n2, nc + 3, ns + 18) (by decide +kernel) rfl ⟨trivial, trivial⟩ ?_
    exact z_lvs (lv' := zLV i) [2, 3, 4, 5, 6] rfl (z_wid (nc' := nc + 20) (ns' := ns + 200) (zLwid (a := 3) (by decide)) (zLwid (a := 18) (by decide)) (kk _ _ _ _ hn2 hfl))
def Fl_17 (fl : Nat → Nat) (S : (Nat → Nat → Int32)) (a1 a2 a3 a4 a5 a6 : Int32) : (Nat → Nat → Int32) := (F_M_move fl (F_L_move S a1 a2 a3).2 a1 a2 a3).2
def Sl_17 (fl : Nat → Nat) (S : (Nat → Nat → Int32)) (a1 a2 a3 a4 a5 a6 : Int32) : Prop := Sf_L_move S a1 a2 a3 ∧ Sf_M_move fl (F_L_move S a1 a2 a3).2 a1 a2 a3 ∧ (F_M_thrown (F_M_move fl (F_L_move S a1 a2 a3).2 a1 a2 a3).2 = (F_L_move S a1 a2 a3).1 ∧ ((F_L_move S a1 a2 a3).1 = 0 → (F_M_move fl (F_L_move S a1 a2 a3).2 a1 a2 a3).2 193 0 = (F_M_move fl (F_L_move S a1 a2 a3).2 a1 a2 a3).1))
theorem l_17 {X : z_X} (C : z_C X zm_law) (hrm : X.2.2.2.1 = room_1) {T' : Nat → Nat × Nat} {G' : Nat → Nat → Option Nat} {n q nc ns : Nat} {fl : Nat → Nat} (S : (Nat → Nat → Int32)) (i a1 a2 a3 a4 a5 a6 : Int32) (hA : zArg X i a1 a2 a3 a4 a5 a6) (hfl : zOK T' (zwG G' q) fl n) (hnc : nc + 20 ≤ 601024) (hns : ns + 200 ≤ 7293034) (hs : Sl_17 fl S a1 a2 a3 a4 a5 a6) (kk : ∀ T2 G2 n2 q2, n ≤ n2 → zOK T2 (zwG G2 q2) fl n2 → z_G X zm_law (3312, zLV i, [], zW T2 (zwG G2 q2) (Fl_17 fl S a1 a2 a3 a4 a5 a6) n2, nc + 20, ns + 200)) : z_G X zm_law (1305, zLV i, [], zW T' (zwG G' q) S n, nc, ns) := by
  unfold Sl_17 at hs
  unfold Fl_17 at kk
  refine z_go2 C 1305 [(.aload_n 1, 1), (.aload_n 0, 1), (.iload 4, 2), (.iconst 1, 1), (.iadd, 1)] (1311, [(0, z_s), (1, z_r 0), (2, z_r 78), (3, z_r 193), (4, .inl i)], [.inl (i + 1), z_s, z_r 0], zW T' (zwG G' q) S n, nc, ns) (by decide +kernel) rfl ⟨trivial, trivial, trivial, trivial, trivial, trivial⟩ ?_
  refine z_sld (v := a1) C (by decide +kernel) hA.g1.1 hA.g1.2 ?_
  refine z_go2 C 1312 [(.aload_n 0, 1), (.iload 4, 2), (.iconst 2, 1), (.iadd, 1)] (1317, [(0, z_s), (1, z_r 0), (2, z_r 78), (3, z_r 193), (4, .inl i)], [.inl (i + 2), z_s, .inl a1, z_r 0], zW T' (zwG G' q) S n, nc, ns) (by decide +kernel) rfl ⟨trivial, trivial, trivial, trivial, trivial⟩ ?_
  refine z_sld (v := a2) C (by decide +kernel) hA.g2.1 hA.g2.2 ?_
  refine z_go2 C 1318 [(.aload_n 0, 1), (.iload 4, 2), (.iconst 3, 1), (.iadd, 1)] (1323, [(0, z_s), (1, z_r 0), (2, z_r 78), (3, z_r 193), (4, .inl i)], [.inl (i + 3), z_s, .inl a2, .inl a1, z_r 0], zW T' (zwG G' q) S n, nc, ns) (by decide +kernel) rfl ⟨trivial, trivial, trivial, trivial, trivial⟩ ?_
  refine z_sld (v := a3) C (by decide +kernel) hA.g3.1 hA.g3.2 ?_
  refine z_go2 C 1324 [(.aload_n 3, 1)] (1325, [(0, z_s), (1, z_r 0), (2, z_r 78), (3, z_r 193), (4, .inl i)], [z_r 193, .inl a3, .inl a2, .inl a1, z_r 0], zW T' (zwG G' q) S n, nc, ns) (by decide +kernel) rfl ⟨trivial, trivial⟩ ?_
  obtain ⟨hs1, hs⟩ := hs
  refine z_callH (idx := 216) (hh := hh_L_move) C (av := [z_r 0, .inl a1, .inl a2, .inl a3, z_r 193]) (st := []) (by decide +kernel) (c_L_move T' G' q S n a1 a2 a3 hs1) hrm (z_wi 1166 (by decide +kernel) rfl) (z_wi 152 (by decide +kernel) rfl) ⟨by decide +kernel, by decide +kernel⟩ (show (parseMethodDescriptor zm_L_move.1.desc).map (fun d => d.parameters.length) = some 5 by decide +kernel) (z_wi 1164 (by decide +kernel) rfl) (z_wi 1165 (by decide +kernel) rfl) (zLfit (a := 0) (b := 0) (by decide) (by decide) (by decide) (by decide) hnc hns) rfl (Nat.le_of_ble_eq_true rfl) (fun v w' hv => ?_)
  obtain ⟨n2, q2, hn2, rfl, rfl⟩ := hv
  replace hfl := (hfl.le hn2).q q2
  obtain ⟨S1, hS1⟩ : ∃ y, (F_L_move S a1 a2 a3).2 = y := ⟨_, rfl⟩
  rw [hS1] at hs kk ⊢
  obtain ⟨k0, hk0⟩ : ∃ y, (F_L_move S a1 a2 a3).1 = y := ⟨_, rfl⟩
  try rw [hk0] at hs
  rw [hk0]
  show z_G X zm_law (1328, [(0, z_s), (1, z_r 0), (2, z_r 78), (3, z_r 193), (4, .inl i)], [.inl k0], zW T' (zwG G' q2) S1 n2, nc + 4, ns + 24)
  refine z_go2 C 1328 [(.istore 5, 2), (.aload_n 2, 1), (.aload_n 0, 1), (.iload 4, 2), (.iconst 1, 1), (.iadd, 1)] (1336, [(5, .inl k0), (0, z_s), (1, z_r 0), (2, z_r 78), (3, z_r 193), (4, .inl i)], [.inl (i + 1), z_s, z_r 78], zW T' (zwG G' q2) S1 n2, nc + 4, ns + 24) (by decide +kernel) rfl ⟨trivial, trivial, trivial, trivial, trivial, trivial, trivial⟩ ?_
  refine z_sld (v := a1) C (by decide +kernel) hA.g1.1 hA.g1.2 ?_
  refine z_go2 C 1337 [(.aload_n 0, 1), (.iload 4, 2), (.iconst 2, 1), (.iadd, 1)] (1342, [(5, .inl k0), (0, z_s), (1, z_r 0), (2, z_r 78), (3, z_r 193), (4, .inl i)], [.inl (i + 2), z_s, .inl a1, z_r 78], zW T' (zwG G' q2) S1 n2, nc + 4, ns + 24) (by decide +kernel) rfl ⟨trivial, trivial, trivial, trivial, trivial⟩ ?_
  refine z_sld (v := a2) C (by decide +kernel) hA.g2.1 hA.g2.2 ?_
  refine z_go2 C 1343 [(.aload_n 0, 1), (.iload 4, 2), (.iconst 3, 1), (.iadd, 1)] (1348, [(5, .inl k0), (0, z_s), (1, z_r 0), (2, z_r 78), (3, z_r 193), (4, .inl i)], [.inl (i + 3), z_s, .inl a2, .inl a1, z_r 78], zW T' (zwG G' q2) S1 n2, nc + 4, ns + 24) (by decide +kernel) rfl ⟨trivial, trivial, trivial, trivial, trivial⟩ ?_
  refine z_sld (v := a3) C (by decide +kernel) hA.g3.1 hA.g3.2 ?_
  obtain ⟨hs1, hs⟩ := hs
  refine z_callV C (av := [.inl a1, .inl a2, .inl a3]) (st := []) (a := 78) (ci := 14) (by decide +kernel) (c_M_move T' (zwG G' q2) n2 fl hfl S1 a1 a2 a3 hs1) hrm zl_L_218 zv_M_move rfl rfl rfl (zLfit (a := 4) (b := 24) (by decide) (by decide) (by decide) (by decide) hnc hns) rfl (Nat.le_of_ble_eq_true rfl) (fun v w' hv => ?_)
  obtain ⟨rfl, rfl⟩ := hv
  show z_G X zm_law (1352, [(5, .inl k0), (0, z_s), (1, z_r 0), (2, z_r 78), (3, z_r 193), (4, .inl i)], [.inl (F_M_move fl S1 a1 a2 a3).1], zW T' (zwG G' q2) (F_M_move fl S1 a1 a2 a3).2 n2, nc + 4, ns + 24)
  refine z_go2 C 1352 [(.istore 6, 2), (.aload_n 2, 1)] (1355, [(6, .inl (F_M_move fl S1 a1 a2 a3).1), (5, .inl k0), (0, z_s), (1, z_r 0), (2, z_r 78), (3, z_r 193), (4, .inl i)], [z_r 78], zW T' (zwG G' q2) (F_M_move fl S1 a1 a2 a3).2 n2, nc + 4, ns + 24) (by decide +kernel) rfl ⟨trivial, trivial, trivial⟩ ?_
  refine z_callV C (av := []) (st := []) (a := 78) (ci := 14) (by decide +kernel) (c_M_thrown T' (zwG G' q2) (F_M_move fl S1 a1 a2 a3).2 n2) hrm zl_L_156 zv_M_thrown rfl rfl rfl (zLfit (a := 4) (b := 24) (by decide) (by decide) (by decide) (by decide) hnc hns) rfl (Nat.le_of_ble_eq_true rfl) (fun v w' hv => ?_)
  obtain ⟨rfl, rfl⟩ := hv
  show z_G X zm_law (1358, [(6, .inl (F_M_move fl S1 a1 a2 a3).1), (5, .inl k0), (0, z_s), (1, z_r 0), (2, z_r 78), (3, z_r 193), (4, .inl i)], [.inl (F_M_thrown (F_M_move fl S1 a1 a2 a3).2)], zW T' (zwG G' q2) (F_M_move fl S1 a1 a2 a3).2 n2, nc + 4, ns + 24)
  refine z_go2 C 1358 [(.iload 5, 2)] (1360, [(6, .inl (F_M_move fl S1 a1 a2 a3).1), (5, .inl k0), (0, z_s), (1, z_r 0), (2, z_r 78), (3, z_r 193), (4, .inl i)], [.inl k0, .inl (F_M_thrown (F_M_move fl S1 a1 a2 a3).2)], zW T' (zwG G' q2) (F_M_move fl S1 a1 a2 a3).2 n2, nc + 4, ns + 24) (by decide +kernel) rfl ⟨trivial, trivial⟩ ?_
  refine z_icmp_eq 1365 C (off := 5) (by decide +kernel) (by decide) (fun c => ?_) (fun c => absurd hs.1 c)
  refine z_go2 C 1365 [(.iload 5, 2)] (1367, [(6, .inl (F_M_move fl S1 a1 a2 a3).1), (5, .inl k0), (0, z_s), (1, z_r 0), (2, z_r 78), (3, z_r 193), (4, .inl i)], [.inl k0], zW T' (zwG G' q2) (F_M_move fl S1 a1 a2 a3).2 n2, nc + 4, ns + 24) (by decide +kernel) rfl ⟨trivial, trivial⟩ ?_
  refine z_if_ne 1382 C (off := 15) (by decide +kernel) (by decide) (fun c => ?_) (fun c => ?_)
  · refine z_go2 C 1382 [(.goto 1930, 3)] (3312, [(6, .inl (F_M_move fl S1 a1 a2 a3).1), (5, .inl k0), (0, z_s), (1, z_r 0), (2, z_r 78), (3, z_r 193), (4, .inl i)], [], zW T' (zwG G' q2) (F_M_move fl S1 a1 a2 a3).2 n2, nc + 4, ns + 24) (by decide +kernel) rfl ⟨trivial, trivial⟩ ?_
    exact z_lvs (lv' := zLV i) [2, 3, 4, 5, 6] rfl (z_wid (nc' := nc + 20) (ns' := ns + 200) (zLwid (a := 4) (by decide)) (zLwid (a := 24) (by decide)) (kk _ _ _ _ hn2 hfl))
  · refine z_go2 C 1370 [(.aload_n 3, 1), (.iconst 0, 1), (.laload, 1), (.iload 6, 2), (.i2l, 1), (.lcmp, 1)] (1377, [(6, .inl (F_M_move fl S1 a1 a2 a3).1), (5, .inl k0), (0, z_s), (1, z_r 0), (2, z_r 78), (3, z_r 193), (4, .inl i)], [.inl (lg_cmp ((F_M_move fl S1 a1 a2 a3).2 193 0).toInt64 (F_M_move fl S1 a1 a2 a3).1.toInt64)], zW T' (zwG G' q2) (F_M_move fl S1 a1 a2 a3).2 n2, nc + 4, ns + 24) (by decide +kernel) rfl ⟨trivial, trivial, ⟨rfl, (show vp_in 0 1 by unfold vp_in; decide)⟩, trivial, trivial, trivial, trivial⟩ ?_
    refine z_if_eq 1382 C (off := 5) (by decide +kernel) (by decide) (fun c2 => ?_) (fun c2 => absurd (by rw [hs.2 c]; exact lg_cmp_self _) c2)
    refine z_go2 C 1382 [(.goto 1930, 3)] (3312, [(6, .inl (F_M_move fl S1 a1 a2 a3).1), (5, .inl k0), (0, z_s), (1, z_r 0), (2, z_r 78), (3, z_r 193), (4, .inl i)], [], zW T' (zwG G' q2) (F_M_move fl S1 a1 a2 a3).2 n2, nc + 4, ns + 24) (by decide +kernel) rfl ⟨trivial, trivial⟩ ?_
    exact z_lvs (lv' := zLV i) [2, 3, 4, 5, 6] rfl (z_wid (nc' := nc + 20) (ns' := ns + 200) (zLwid (a := 4) (by decide)) (zLwid (a := 24) (by decide)) (kk _ _ _ _ hn2 hfl))
def Fl_18 (fl : Nat → Nat) (S : (Nat → Nat → Int32)) (a1 a2 a3 a4 a5 a6 : Int32) : (Nat → Nat → Int32) := (F_M_nest fl (F_L_nest S a1 a2 a3).2 a1 a2 a3).2
def Sl_18 (fl : Nat → Nat) (S : (Nat → Nat → Int32)) (a1 a2 a3 a4 a5 a6 : Int32) : Prop := Sf_L_nest S a1 a2 a3 ∧ Sf_M_nest fl (F_L_nest S a1 a2 a3).2 a1 a2 a3 ∧ (F_M_thrown (F_M_nest fl (F_L_nest S a1 a2 a3).2 a1 a2 a3).2 = (F_L_nest S a1 a2 a3).1 ∧ ((F_L_nest S a1 a2 a3).1 = 0 → (F_M_nest fl (F_L_nest S a1 a2 a3).2 a1 a2 a3).2 193 0 = (F_M_nest fl (F_L_nest S a1 a2 a3).2 a1 a2 a3).1))
theorem l_18 {X : z_X} (C : z_C X zm_law) (hrm : X.2.2.2.1 = room_1) {T' : Nat → Nat × Nat} {G' : Nat → Nat → Option Nat} {n q nc ns : Nat} {fl : Nat → Nat} (S : (Nat → Nat → Int32)) (i a1 a2 a3 a4 a5 a6 : Int32) (hA : zArg X i a1 a2 a3 a4 a5 a6) (hfl : zOK T' (zwG G' q) fl n) (hnc : nc + 20 ≤ 601024) (hns : ns + 200 ≤ 7293034) (hs : Sl_18 fl S a1 a2 a3 a4 a5 a6) (kk : ∀ T2 G2 n2 q2, n ≤ n2 → zOK T2 (zwG G2 q2) fl n2 → z_G X zm_law (3312, zLV i, [], zW T2 (zwG G2 q2) (Fl_18 fl S a1 a2 a3 a4 a5 a6) n2, nc + 20, ns + 200)) : z_G X zm_law (1385, zLV i, [], zW T' (zwG G' q) S n, nc, ns) := by
  unfold Sl_18 at hs
  unfold Fl_18 at kk
  refine z_go2 C 1385 [(.aload_n 1, 1), (.aload_n 0, 1), (.iload 4, 2), (.iconst 1, 1), (.iadd, 1)] (1391, [(0, z_s), (1, z_r 0), (2, z_r 78), (3, z_r 193), (4, .inl i)], [.inl (i + 1), z_s, z_r 0], zW T' (zwG G' q) S n, nc, ns) (by decide +kernel) rfl ⟨trivial, trivial, trivial, trivial, trivial, trivial⟩ ?_
  refine z_sld (v := a1) C (by decide +kernel) hA.g1.1 hA.g1.2 ?_
  refine z_go2 C 1392 [(.aload_n 0, 1), (.iload 4, 2), (.iconst 2, 1), (.iadd, 1)] (1397, [(0, z_s), (1, z_r 0), (2, z_r 78), (3, z_r 193), (4, .inl i)], [.inl (i + 2), z_s, .inl a1, z_r 0], zW T' (zwG G' q) S n, nc, ns) (by decide +kernel) rfl ⟨trivial, trivial, trivial, trivial, trivial⟩ ?_
  refine z_sld (v := a2) C (by decide +kernel) hA.g2.1 hA.g2.2 ?_
  refine z_go2 C 1398 [(.aload_n 0, 1), (.iload 4, 2), (.iconst 3, 1), (.iadd, 1)] (1403, [(0, z_s), (1, z_r 0), (2, z_r 78), (3, z_r 193), (4, .inl i)], [.inl (i + 3), z_s, .inl a2, .inl a1, z_r 0], zW T' (zwG G' q) S n, nc, ns) (by decide +kernel) rfl ⟨trivial, trivial, trivial, trivial, trivial⟩ ?_
  refine z_sld (v := a3) C (by decide +kernel) hA.g3.1 hA.g3.2 ?_
  refine z_go2 C 1404 [(.aload_n 3, 1)] (1405, [(0, z_s), (1, z_r 0), (2, z_r 78), (3, z_r 193), (4, .inl i)], [z_r 193, .inl a3, .inl a2, .inl a1, z_r 0], zW T' (zwG G' q) S n, nc, ns) (by decide +kernel) rfl ⟨trivial, trivial⟩ ?_
  obtain ⟨hs1, hs⟩ := hs
  refine z_callH (idx := 219) (hh := hh_L_nest) C (av := [z_r 0, .inl a1, .inl a2, .inl a3, z_r 193]) (st := []) (by decide +kernel) (c_L_nest T' G' q S n a1 a2 a3 hs1) hrm (z_wi 1178 (by decide +kernel) rfl) (z_wi 152 (by decide +kernel) rfl) ⟨by decide +kernel, by decide +kernel⟩ (show (parseMethodDescriptor zm_L_nest.1.desc).map (fun d => d.parameters.length) = some 5 by decide +kernel) (z_wi 1176 (by decide +kernel) rfl) (z_wi 1177 (by decide +kernel) rfl) (zLfit (a := 0) (b := 0) (by decide) (by decide) (by decide) (by decide) hnc hns) rfl (Nat.le_of_ble_eq_true rfl) (fun v w' hv => ?_)
  obtain ⟨n2, q2, hn2, rfl, rfl⟩ := hv
  replace hfl := (hfl.le hn2).q q2
  obtain ⟨S1, hS1⟩ : ∃ y, (F_L_nest S a1 a2 a3).2 = y := ⟨_, rfl⟩
  rw [hS1] at hs kk ⊢
  obtain ⟨k0, hk0⟩ : ∃ y, (F_L_nest S a1 a2 a3).1 = y := ⟨_, rfl⟩
  try rw [hk0] at hs
  rw [hk0]
  show z_G X zm_law (1408, [(0, z_s), (1, z_r 0), (2, z_r 78), (3, z_r 193), (4, .inl i)], [.inl k0], zW T' (zwG G' q2) S1 n2, nc + 4, ns + 24)
  refine z_go2 C 1408 [(.istore 5, 2), (.aload_n 2, 1), (.aload_n 0, 1), (.iload 4, 2), (.iconst 1, 1), (.iadd, 1)] (1416, [(5, .inl k0), (0, z_s), (1, z_r 0), (2, z_r 78), (3, z_r 193), (4, .inl i)], [.inl (i + 1), z_s, z_r 78], zW T' (zwG G' q2) S1 n2, nc + 4, ns + 24) (by decide +kernel) rfl ⟨trivial, trivial, trivial, trivial, trivial, trivial, trivial⟩ ?_
  refine z_sld (v := a1) C (by decide +kernel) hA.g1.1 hA.g1.2 ?_
  refine z_go2 C 1417 [(.aload_n 0, 1), (.iload 4, 2), (.iconst 2, 1), (.iadd, 1)] (1422, [(5, .inl k0), (0, z_s), (1, z_r 0), (2, z_r 78), (3, z_r 193), (4, .inl i)], [.inl (i + 2), z_s, .inl a1, z_r 78], zW T' (zwG G' q2) S1 n2, nc + 4, ns + 24) (by decide +kernel) rfl ⟨trivial, trivial, trivial, trivial, trivial⟩ ?_
  refine z_sld (v := a2) C (by decide +kernel) hA.g2.1 hA.g2.2 ?_
  refine z_go2 C 1423 [(.aload_n 0, 1), (.iload 4, 2), (.iconst 3, 1), (.iadd, 1)] (1428, [(5, .inl k0), (0, z_s), (1, z_r 0), (2, z_r 78), (3, z_r 193), (4, .inl i)], [.inl (i + 3), z_s, .inl a2, .inl a1, z_r 78], zW T' (zwG G' q2) S1 n2, nc + 4, ns + 24) (by decide +kernel) rfl ⟨trivial, trivial, trivial, trivial, trivial⟩ ?_
  refine z_sld (v := a3) C (by decide +kernel) hA.g3.1 hA.g3.2 ?_
  obtain ⟨hs1, hs⟩ := hs
  refine z_callV C (av := [.inl a1, .inl a2, .inl a3]) (st := []) (a := 78) (ci := 14) (by decide +kernel) (c_M_nest T' (zwG G' q2) n2 fl hfl S1 a1 a2 a3 hs1) hrm zl_L_221 zv_M_nest rfl rfl rfl (zLfit (a := 4) (b := 24) (by decide) (by decide) (by decide) (by decide) hnc hns) rfl (Nat.le_of_ble_eq_true rfl) (fun v w' hv => ?_)
  obtain ⟨rfl, rfl⟩ := hv
  show z_G X zm_law (1432, [(5, .inl k0), (0, z_s), (1, z_r 0), (2, z_r 78), (3, z_r 193), (4, .inl i)], [.inl (F_M_nest fl S1 a1 a2 a3).1], zW T' (zwG G' q2) (F_M_nest fl S1 a1 a2 a3).2 n2, nc + 4, ns + 24)
  refine z_go2 C 1432 [(.istore 6, 2), (.aload_n 2, 1)] (1435, [(6, .inl (F_M_nest fl S1 a1 a2 a3).1), (5, .inl k0), (0, z_s), (1, z_r 0), (2, z_r 78), (3, z_r 193), (4, .inl i)], [z_r 78], zW T' (zwG G' q2) (F_M_nest fl S1 a1 a2 a3).2 n2, nc + 4, ns + 24) (by decide +kernel) rfl ⟨trivial, trivial, trivial⟩ ?_
  refine z_callV C (av := []) (st := []) (a := 78) (ci := 14) (by decide +kernel) (c_M_thrown T' (zwG G' q2) (F_M_nest fl S1 a1 a2 a3).2 n2) hrm zl_L_156 zv_M_thrown rfl rfl rfl (zLfit (a := 4) (b := 24) (by decide) (by decide) (by decide) (by decide) hnc hns) rfl (Nat.le_of_ble_eq_true rfl) (fun v w' hv => ?_)
  obtain ⟨rfl, rfl⟩ := hv
  show z_G X zm_law (1438, [(6, .inl (F_M_nest fl S1 a1 a2 a3).1), (5, .inl k0), (0, z_s), (1, z_r 0), (2, z_r 78), (3, z_r 193), (4, .inl i)], [.inl (F_M_thrown (F_M_nest fl S1 a1 a2 a3).2)], zW T' (zwG G' q2) (F_M_nest fl S1 a1 a2 a3).2 n2, nc + 4, ns + 24)
  refine z_go2 C 1438 [(.iload 5, 2)] (1440, [(6, .inl (F_M_nest fl S1 a1 a2 a3).1), (5, .inl k0), (0, z_s), (1, z_r 0), (2, z_r 78), (3, z_r 193), (4, .inl i)], [.inl k0, .inl (F_M_thrown (F_M_nest fl S1 a1 a2 a3).2)], zW T' (zwG G' q2) (F_M_nest fl S1 a1 a2 a3).2 n2, nc + 4, ns + 24) (by decide +kernel) rfl ⟨trivial, trivial⟩ ?_
  refine z_icmp_eq 1445 C (off := 5) (by decide +kernel) (by decide) (fun c => ?_) (fun c => absurd hs.1 c)
  refine z_go2 C 1445 [(.iload 5, 2)] (1447, [(6, .inl (F_M_nest fl S1 a1 a2 a3).1), (5, .inl k0), (0, z_s), (1, z_r 0), (2, z_r 78), (3, z_r 193), (4, .inl i)], [.inl k0], zW T' (zwG G' q2) (F_M_nest fl S1 a1 a2 a3).2 n2, nc + 4, ns + 24) (by decide +kernel) rfl ⟨trivial, trivial⟩ ?_
  refine z_if_ne 1462 C (off := 15) (by decide +kernel) (by decide) (fun c => ?_) (fun c => ?_)
  · refine z_go2 C 1462 [(.goto 1850, 3)] (3312, [(6, .inl (F_M_nest fl S1 a1 a2 a3).1), (5, .inl k0), (0, z_s), (1, z_r 0), (2, z_r 78), (3, z_r 193), (4, .inl i)], [], zW T' (zwG G' q2) (F_M_nest fl S1 a1 a2 a3).2 n2, nc + 4, ns + 24) (by decide +kernel) rfl ⟨trivial, trivial⟩ ?_
    exact z_lvs (lv' := zLV i) [2, 3, 4, 5, 6] rfl (z_wid (nc' := nc + 20) (ns' := ns + 200) (zLwid (a := 4) (by decide)) (zLwid (a := 24) (by decide)) (kk _ _ _ _ hn2 hfl))
  · refine z_go2 C 1450 [(.aload_n 3, 1), (.iconst 0, 1), (.laload, 1), (.iload 6, 2), (.i2l, 1), (.lcmp, 1)] (1457, [(6, .inl (F_M_nest fl S1 a1 a2 a3).1), (5, .inl k0), (0, z_s), (1, z_r 0), (2, z_r 78), (3, z_r 193), (4, .inl i)], [.inl (lg_cmp ((F_M_nest fl S1 a1 a2 a3).2 193 0).toInt64 (F_M_nest fl S1 a1 a2 a3).1.toInt64)], zW T' (zwG G' q2) (F_M_nest fl S1 a1 a2 a3).2 n2, nc + 4, ns + 24) (by decide +kernel) rfl ⟨trivial, trivial, ⟨rfl, (show vp_in 0 1 by unfold vp_in; decide)⟩, trivial, trivial, trivial, trivial⟩ ?_
    refine z_if_eq 1462 C (off := 5) (by decide +kernel) (by decide) (fun c2 => ?_) (fun c2 => absurd (by rw [hs.2 c]; exact lg_cmp_self _) c2)
    refine z_go2 C 1462 [(.goto 1850, 3)] (3312, [(6, .inl (F_M_nest fl S1 a1 a2 a3).1), (5, .inl k0), (0, z_s), (1, z_r 0), (2, z_r 78), (3, z_r 193), (4, .inl i)], [], zW T' (zwG G' q2) (F_M_nest fl S1 a1 a2 a3).2 n2, nc + 4, ns + 24) (by decide +kernel) rfl ⟨trivial, trivial⟩ ?_
    exact z_lvs (lv' := zLV i) [2, 3, 4, 5, 6] rfl (z_wid (nc' := nc + 20) (ns' := ns + 200) (zLwid (a := 4) (by decide)) (zLwid (a := 24) (by decide)) (kk _ _ _ _ hn2 hfl))
def Fl_19 (fl : Nat → Nat) (na : Nat) (S : (Nat → Nat → Int32)) (a1 a2 a3 a4 a5 a6 : Int32) : (Nat → Nat → Int32) := (F_M_link fl na (F_L_link S a1 a2 a3 a4 (if a5 = 0 then 0 else 1)).2 a1 a2 a3 a4 (if a5 = 0 then 0 else 1)).2
def Sl_19 (fl : Nat → Nat) (na : Nat) (S : (Nat → Nat → Int32)) (a1 a2 a3 a4 a5 a6 : Int32) : Prop := Sf_L_link S a1 a2 a3 a4 (if a5 = 0 then 0 else 1) ∧ Sf_M_link fl na (F_L_link S a1 a2 a3 a4 (if a5 = 0 then 0 else 1)).2 a1 a2 a3 a4 (if a5 = 0 then 0 else 1) ∧ (F_M_thrown (F_M_link fl na (F_L_link S a1 a2 a3 a4 (if a5 = 0 then 0 else 1)).2 a1 a2 a3 a4 (if a5 = 0 then 0 else 1)).2 = (F_L_link S a1 a2 a3 a4 (if a5 = 0 then 0 else 1)).1 ∧ ((F_L_link S a1 a2 a3 a4 (if a5 = 0 then 0 else 1)).1 = 0 → (F_M_link fl na (F_L_link S a1 a2 a3 a4 (if a5 = 0 then 0 else 1)).2 a1 a2 a3 a4 (if a5 = 0 then 0 else 1)).2 193 0 = (if (F_M_link fl na (F_L_link S a1 a2 a3 a4 (if a5 = 0 then 0 else 1)).2 a1 a2 a3 a4 (if a5 = 0 then 0 else 1)).1 = 0 then 0 else 1 : Int32)))
theorem l_19 {X : z_X} (C : z_C X zm_law) (hrm : X.2.2.2.1 = room_1) {T' : Nat → Nat × Nat} {G' : Nat → Nat → Option Nat} {n q nc ns : Nat} {fl : Nat → Nat} (S : (Nat → Nat → Int32)) (i a1 a2 a3 a4 a5 a6 : Int32) (hA : zArg X i a1 a2 a3 a4 a5 a6) (hfl : zOK T' (zwG G' q) fl n) (hnc : nc + 20 ≤ 601024) (hns : ns + 200 ≤ 7293034) (hs : ∀ na, n ≤ na → Sl_19 fl na S a1 a2 a3 a4 a5 a6) (kk : ∀ T2 G2 n2 q2 na, n ≤ na → n ≤ n2 → zOK T2 (zwG G2 q2) fl n2 → z_G X zm_law (3312, zLV i, [], zW T2 (zwG G2 q2) (Fl_19 fl na S a1 a2 a3 a4 a5 a6) n2, nc + 20, ns + 200)) : z_G X zm_law (1465, zLV i, [], zW T' (zwG G' q) S n, nc, ns) := by
  unfold Sl_19 at hs
  unfold Fl_19 at kk
  refine z_go2 C 1465 [(.aload_n 1, 1), (.aload_n 0, 1), (.iload 4, 2), (.iconst 1, 1), (.iadd, 1)] (1471, [(0, z_s), (1, z_r 0), (2, z_r 78), (3, z_r 193), (4, .inl i)], [.inl (i + 1), z_s, z_r 0], zW T' (zwG G' q) S n, nc, ns) (by decide +kernel) rfl ⟨trivial, trivial, trivial, trivial, trivial, trivial⟩ ?_
  refine z_sld (v := a1) C (by decide +kernel) hA.g1.1 hA.g1.2 ?_
  refine z_go2 C 1472 [(.aload_n 0, 1), (.iload 4, 2), (.iconst 2, 1), (.iadd, 1)] (1477, [(0, z_s), (1, z_r 0), (2, z_r 78), (3, z_r 193), (4, .inl i)], [.inl (i + 2), z_s, .inl a1, z_r 0], zW T' (zwG G' q) S n, nc, ns) (by decide +kernel) rfl ⟨trivial, trivial, trivial, trivial, trivial⟩ ?_
  refine z_sld (v := a2) C (by decide +kernel) hA.g2.1 hA.g2.2 ?_
  refine z_go2 C 1478 [(.aload_n 0, 1), (.iload 4, 2), (.iconst 3, 1), (.iadd, 1)] (1483, [(0, z_s), (1, z_r 0), (2, z_r 78), (3, z_r 193), (4, .inl i)], [.inl (i + 3), z_s, .inl a2, .inl a1, z_r 0], zW T' (zwG G' q) S n, nc, ns) (by decide +kernel) rfl ⟨trivial, trivial, trivial, trivial, trivial⟩ ?_
  refine z_sld (v := a3) C (by decide +kernel) hA.g3.1 hA.g3.2 ?_
  refine z_go2 C 1484 [(.aload_n 0, 1), (.iload 4, 2), (.iconst 4, 1), (.iadd, 1)] (1489, [(0, z_s), (1, z_r 0), (2, z_r 78), (3, z_r 193), (4, .inl i)], [.inl (i + 4), z_s, .inl a3, .inl a2, .inl a1, z_r 0], zW T' (zwG G' q) S n, nc, ns) (by decide +kernel) rfl ⟨trivial, trivial, trivial, trivial, trivial⟩ ?_
  refine z_sld (v := a4) C (by decide +kernel) hA.g4.1 hA.g4.2 ?_
  refine z_go2 C 1490 [(.aload_n 0, 1), (.iload 4, 2), (.iconst 5, 1), (.iadd, 1)] (1495, [(0, z_s), (1, z_r 0), (2, z_r 78), (3, z_r 193), (4, .inl i)], [.inl (i + 5), z_s, .inl a4, .inl a3, .inl a2, .inl a1, z_r 0], zW T' (zwG G' q) S n, nc, ns) (by decide +kernel) rfl ⟨trivial, trivial, trivial, trivial, trivial⟩ ?_
  refine z_sld (v := a5) C (by decide +kernel) hA.g5.1 hA.g5.2 ?_
  have hb1496 : ∀ b5_0 : Int32, b5_0 = (if a5 = 0 then 0 else 1) → z_G X zm_law (1504, [(0, z_s), (1, z_r 0), (2, z_r 78), (3, z_r 193), (4, .inl i)], [.inl b5_0, .inl a4, .inl a3, .inl a2, .inl a1, z_r 0], zW T' (zwG G' q) S n, nc, ns) := ?_
  · refine z_if_eq 1503 C (off := 7) (by decide +kernel) (by decide) (fun c => ?_) (fun c => ?_)
    · refine z_go2 C 1503 [(.iconst 0, 1)] (1504, [(0, z_s), (1, z_r 0), (2, z_r 78), (3, z_r 193), (4, .inl i)], [.inl 0, .inl a4, .inl a3, .inl a2, .inl a1, z_r 0], zW T' (zwG G' q) S n, nc, ns) (by decide +kernel) rfl ⟨trivial, trivial⟩ ?_
      exact hb1496 0 (by rw [if_pos c])
    · refine z_go2 C 1499 [(.iconst 1, 1), (.goto 4, 3)] (1504, [(0, z_s), (1, z_r 0), (2, z_r 78), (3, z_r 193), (4, .inl i)], [.inl 1, .inl a4, .inl a3, .inl a2, .inl a1, z_r 0], zW T' (zwG G' q) S n, nc, ns) (by decide +kernel) rfl ⟨trivial, trivial, trivial⟩ ?_
      exact hb1496 1 (by rw [if_neg c])
  intro b5_0 hb
  subst hb
  refine z_go2 C 1504 [(.aload_n 3, 1)] (1505, [(0, z_s), (1, z_r 0), (2, z_r 78), (3, z_r 193), (4, .inl i)], [z_r 193, .inl (if a5 = 0 then 0 else 1), .inl a4, .inl a3, .inl a2, .inl a1, z_r 0], zW T' (zwG G' q) S n, nc, ns) (by decide +kernel) rfl ⟨trivial, trivial⟩ ?_
  have hs1 := (hs n (Nat.le_refl n)).1
  refine z_callH (idx := 222) (hh := hh_L_link) C (av := [z_r 0, .inl a1, .inl a2, .inl a3, .inl a4, .inl (if a5 = 0 then 0 else 1), z_r 193]) (st := []) (by decide +kernel) (c_L_link T' G' q S n a1 a2 a3 a4 (if a5 = 0 then 0 else 1) hs1) hrm (z_wi 1189 (by decide +kernel) rfl) (z_wi 152 (by decide +kernel) rfl) ⟨by decide +kernel, by decide +kernel⟩ (show (parseMethodDescriptor zm_L_link.1.desc).map (fun d => d.parameters.length) = some 7 by decide +kernel) (z_wi 1187 (by decide +kernel) rfl) (z_wi 1188 (by decide +kernel) rfl) (zLfit (a := 0) (b := 0) (by decide) (by decide) (by decide) (by decide) hnc hns) rfl (Nat.le_of_ble_eq_true rfl) (fun v w' hv => ?_)
  obtain ⟨n2, q2, hn2, rfl, rfl⟩ := hv
  replace hs := (hs n2 hn2).2
  replace hfl := (hfl.le hn2).q q2
  obtain ⟨S1, hS1⟩ : ∃ y, (F_L_link S a1 a2 a3 a4 (if a5 = 0 then 0 else 1)).2 = y := ⟨_, rfl⟩
  rw [hS1] at hs kk ⊢
  obtain ⟨k0, hk0⟩ : ∃ y, (F_L_link S a1 a2 a3 a4 (if a5 = 0 then 0 else 1)).1 = y := ⟨_, rfl⟩
  try rw [hk0] at hs
  rw [hk0]
  show z_G X zm_law (1508, [(0, z_s), (1, z_r 0), (2, z_r 78), (3, z_r 193), (4, .inl i)], [.inl k0], zW T' (zwG G' q2) S1 n2, nc + 4, ns + 24)
  refine z_go2 C 1508 [(.istore 5, 2), (.aload_n 2, 1), (.aload_n 0, 1), (.iload 4, 2), (.iconst 1, 1), (.iadd, 1)] (1516, [(5, .inl k0), (0, z_s), (1, z_r 0), (2, z_r 78), (3, z_r 193), (4, .inl i)], [.inl (i + 1), z_s, z_r 78], zW T' (zwG G' q2) S1 n2, nc + 4, ns + 24) (by decide +kernel) rfl ⟨trivial, trivial, trivial, trivial, trivial, trivial, trivial⟩ ?_
  refine z_sld (v := a1) C (by decide +kernel) hA.g1.1 hA.g1.2 ?_
  refine z_go2 C 1517 [(.aload_n 0, 1), (.iload 4, 2), (.iconst 2, 1), (.iadd, 1)] (1522, [(5, .inl k0), (0, z_s), (1, z_r 0), (2, z_r 78), (3, z_r 193), (4, .inl i)], [.inl (i + 2), z_s, .inl a1, z_r 78], zW T' (zwG G' q2) S1 n2, nc + 4, ns + 24) (by decide +kernel) rfl ⟨trivial, trivial, trivial, trivial, trivial⟩ ?_
  refine z_sld (v := a2) C (by decide +kernel) hA.g2.1 hA.g2.2 ?_
  refine z_go2 C 1523 [(.aload_n 0, 1), (.iload 4, 2), (.iconst 3, 1), (.iadd, 1)] (1528, [(5, .inl k0), (0, z_s), (1, z_r 0), (2, z_r 78), (3, z_r 193), (4, .inl i)], [.inl (i + 3), z_s, .inl a2, .inl a1, z_r 78], zW T' (zwG G' q2) S1 n2, nc + 4, ns + 24) (by decide +kernel) rfl ⟨trivial, trivial, trivial, trivial, trivial⟩ ?_
  refine z_sld (v := a3) C (by decide +kernel) hA.g3.1 hA.g3.2 ?_
  refine z_go2 C 1529 [(.aload_n 0, 1), (.iload 4, 2), (.iconst 4, 1), (.iadd, 1)] (1534, [(5, .inl k0), (0, z_s), (1, z_r 0), (2, z_r 78), (3, z_r 193), (4, .inl i)], [.inl (i + 4), z_s, .inl a3, .inl a2, .inl a1, z_r 78], zW T' (zwG G' q2) S1 n2, nc + 4, ns + 24) (by decide +kernel) rfl ⟨trivial, trivial, trivial, trivial, trivial⟩ ?_
  refine z_sld (v := a4) C (by decide +kernel) hA.g4.1 hA.g4.2 ?_
  refine z_go2 C 1535 [(.aload_n 0, 1), (.iload 4, 2), (.iconst 5, 1), (.iadd, 1)] (1540, [(5, .inl k0), (0, z_s), (1, z_r 0), (2, z_r 78), (3, z_r 193), (4, .inl i)], [.inl (i + 5), z_s, .inl a4, .inl a3, .inl a2, .inl a1, z_r 78], zW T' (zwG G' q2) S1 n2, nc + 4, ns + 24) (by decide +kernel) rfl ⟨trivial, trivial, trivial, trivial, trivial⟩ ?_
  refine z_sld (v := a5) C (by decide +kernel) hA.g5.1 hA.g5.2 ?_
  have hb1541 : ∀ b5_0 : Int32, b5_0 = (if a5 = 0 then 0 else 1) → z_G X zm_law (1549, [(5, .inl k0), (0, z_s), (1, z_r 0), (2, z_r 78), (3, z_r 193), (4, .inl i)], [.inl b5_0, .inl a4, .inl a3, .inl a2, .inl a1, z_r 78], zW T' (zwG G' q2) S1 n2, nc + 4, ns + 24) := ?_
  · refine z_if_eq 1548 C (off := 7) (by decide +kernel) (by decide) (fun c => ?_) (fun c => ?_)
    · refine z_go2 C 1548 [(.iconst 0, 1)] (1549, [(5, .inl k0), (0, z_s), (1, z_r 0), (2, z_r 78), (3, z_r 193), (4, .inl i)], [.inl 0, .inl a4, .inl a3, .inl a2, .inl a1, z_r 78], zW T' (zwG G' q2) S1 n2, nc + 4, ns + 24) (by decide +kernel) rfl ⟨trivial, trivial⟩ ?_
      exact hb1541 0 (by rw [if_pos c])
    · refine z_go2 C 1544 [(.iconst 1, 1), (.goto 4, 3)] (1549, [(5, .inl k0), (0, z_s), (1, z_r 0), (2, z_r 78), (3, z_r 193), (4, .inl i)], [.inl 1, .inl a4, .inl a3, .inl a2, .inl a1, z_r 78], zW T' (zwG G' q2) S1 n2, nc + 4, ns + 24) (by decide +kernel) rfl ⟨trivial, trivial, trivial⟩ ?_
      exact hb1541 1 (by rw [if_neg c])
  intro b5_0 hb
  subst hb
  obtain ⟨hs1, hs⟩ := hs
  refine z_callV C (av := [.inl a1, .inl a2, .inl a3, .inl a4, .inl (if a5 = 0 then 0 else 1)]) (st := []) (a := 78) (ci := 14) (by decide +kernel) (c_M_link T' (zwG G' q2) n2 n2 rfl hfl.1 fl hfl S1 a1 a2 a3 a4 (if a5 = 0 then 0 else 1) hs1) hrm zl_L_225 zv_M_link rfl rfl rfl (zLfit (a := 4) (b := 24) (by decide) (by decide) (by decide) (by decide) hnc hns) rfl (Nat.le_of_ble_eq_true rfl) (fun v w' hv => ?_)
  obtain ⟨T2, G2, n3, hgr, rfl, rfl⟩ := hv
  have hq3 : zG G2 36 7 = some q2 := by rw [(hgr.2.2 36 (Nat.lt_of_lt_of_le (by decide) hfl.1)).2]; rfl
  have hfl2 : zOK T2 (zwG G2 q2) fl n3 := ⟨(hfl.gr hgr).1, fun k hk => ⟨by rw [zwG_self hq3]; exact ((hfl.gr hgr).2 k hk).1, (((hfl.gr hgr).2 k hk).2.1).sg (by rw [zwG_self hq3]), ((hfl.gr hgr).2 k hk).2.2⟩⟩
  have hle3 := hgr.2.1
  rw [show zW T2 G2 (F_M_link fl n2 S1 a1 a2 a3 a4 (if a5 = 0 then 0 else 1)).2 n3 = zW T2 (zwG G2 q2) (F_M_link fl n2 S1 a1 a2 a3 a4 (if a5 = 0 then 0 else 1)).2 n3 from by show (zT T2, zG G2, _, _) = (zT T2, zG (zwG G2 q2), _, _); rw [zwG_self hq3]]
  show z_G X zm_law (1552, [(5, .inl k0), (0, z_s), (1, z_r 0), (2, z_r 78), (3, z_r 193), (4, .inl i)], [.inl (F_M_link fl n2 S1 a1 a2 a3 a4 (if a5 = 0 then 0 else 1)).1], zW T2 (zwG G2 q2) (F_M_link fl n2 S1 a1 a2 a3 a4 (if a5 = 0 then 0 else 1)).2 n3, nc + 5, ns + 54)
  refine z_go2 C 1552 [(.istore 6, 2), (.aload_n 2, 1)] (1555, [(6, .inl (F_M_link fl n2 S1 a1 a2 a3 a4 (if a5 = 0 then 0 else 1)).1), (5, .inl k0), (0, z_s), (1, z_r 0), (2, z_r 78), (3, z_r 193), (4, .inl i)], [z_r 78], zW T2 (zwG G2 q2) (F_M_link fl n2 S1 a1 a2 a3 a4 (if a5 = 0 then 0 else 1)).2 n3, nc + 5, ns + 54) (by decide +kernel) rfl ⟨trivial, trivial, trivial⟩ ?_
  refine z_callV C (av := []) (st := []) (a := 78) (ci := 14) (by decide +kernel) (c_M_thrown T2 (zwG G2 q2) (F_M_link fl n2 S1 a1 a2 a3 a4 (if a5 = 0 then 0 else 1)).2 n3) hrm zl_L_156 zv_M_thrown rfl rfl rfl (zLfit (a := 5) (b := 54) (by decide) (by decide) (by decide) (by decide) hnc hns) rfl (Nat.le_of_ble_eq_true rfl) (fun v w' hv => ?_)
  obtain ⟨rfl, rfl⟩ := hv
  show z_G X zm_law (1558, [(6, .inl (F_M_link fl n2 S1 a1 a2 a3 a4 (if a5 = 0 then 0 else 1)).1), (5, .inl k0), (0, z_s), (1, z_r 0), (2, z_r 78), (3, z_r 193), (4, .inl i)], [.inl (F_M_thrown (F_M_link fl n2 S1 a1 a2 a3 a4 (if a5 = 0 then 0 else 1)).2)], zW T2 (zwG G2 q2) (F_M_link fl n2 S1 a1 a2 a3 a4 (if a5 = 0 then 0 else 1)).2 n3, nc + 5, ns + 54)
  refine z_go2 C 1558 [(.iload 5, 2)] (1560, [(6, .inl (F_M_link fl n2 S1 a1 a2 a3 a4 (if a5 = 0 then 0 else 1)).1), (5, .inl k0), (0, z_s), (1, z_r 0), (2, z_r 78), (3, z_r 193), (4, .inl i)], [.inl k0, .inl (F_M_thrown (F_M_link fl n2 S1 a1 a2 a3 a4 (if a5 = 0 then 0 else 1)).2)], zW T2 (zwG G2 q2) (F_M_link fl n2 S1 a1 a2 a3 a4 (if a5 = 0 then 0 else 1)).2 n3, nc + 5, ns + 54) (by decide +kernel) rfl ⟨trivial, trivial⟩ ?_
  refine z_icmp_eq 1565 C (off := 5) (by decide +kernel) (by decide) (fun c => ?_) (fun c => absurd hs.1 c)
  refine z_go2 C 1565 [(.iload 5, 2)] (1567, [(6, .inl (F_M_link fl n2 S1 a1 a2 a3 a4 (if a5 = 0 then 0 else 1)).1), (5, .inl k0), (0, z_s), (1, z_r 0), (2, z_r 78), (3, z_r 193), (4, .inl i)], [.inl k0], zW T2 (zwG G2 q2) (F_M_link fl n2 S1 a1 a2 a3 a4 (if a5 = 0 then 0 else 1)).2 n3, nc + 5, ns + 54) (by decide +kernel) rfl ⟨trivial, trivial⟩ ?_
  refine z_if_ne 1589 C (off := 22) (by decide +kernel) (by decide) (fun c => ?_) (fun c => ?_)
  · refine z_go2 C 1589 [(.goto 1723, 3)] (3312, [(6, .inl (F_M_link fl n2 S1 a1 a2 a3 a4 (if a5 = 0 then 0 else 1)).1), (5, .inl k0), (0, z_s), (1, z_r 0), (2, z_r 78), (3, z_r 193), (4, .inl i)], [], zW T2 (zwG G2 q2) (F_M_link fl n2 S1 a1 a2 a3 a4 (if a5 = 0 then 0 else 1)).2 n3, nc + 5, ns + 54) (by decide +kernel) rfl ⟨trivial, trivial⟩ ?_
    exact z_lvs (lv' := zLV i) [2, 3, 4, 5, 6] rfl (z_wid (nc' := nc + 20) (ns' := ns + 200) (zLwid (a := 5) (by decide)) (zLwid (a := 54) (by decide)) (kk _ _ _ _ _ hn2 (Nat.le_trans hn2 hle3) hfl2))
  · refine z_go2 C 1570 [(.aload_n 3, 1), (.iconst 0, 1), (.laload, 1), (.iload 6, 2)] (1575, [(6, .inl (F_M_link fl n2 S1 a1 a2 a3 a4 (if a5 = 0 then 0 else 1)).1), (5, .inl k0), (0, z_s), (1, z_r 0), (2, z_r 78), (3, z_r 193), (4, .inl i)], [.inl (F_M_link fl n2 S1 a1 a2 a3 a4 (if a5 = 0 then 0 else 1)).1, z_l ((F_M_link fl n2 S1 a1 a2 a3 a4 (if a5 = 0 then 0 else 1)).2 193 0)], zW T2 (zwG G2 q2) (F_M_link fl n2 S1 a1 a2 a3 a4 (if a5 = 0 then 0 else 1)).2 n3, nc + 5, ns + 54) (by decide +kernel) rfl ⟨trivial, trivial, ⟨rfl, (show vp_in 0 1 by unfold vp_in; decide)⟩, trivial, trivial⟩ ?_
    have hb1575 : ∀ b : Int32, b = (if (F_M_link fl n2 S1 a1 a2 a3 a4 (if a5 = 0 then 0 else 1)).1 = 0 then 0 else 1) → z_G X zm_law (1583, [(6, .inl (F_M_link fl n2 S1 a1 a2 a3 a4 (if a5 = 0 then 0 else 1)).1), (5, .inl k0), (0, z_s), (1, z_r 0), (2, z_r 78), (3, z_r 193), (4, .inl i)], [z_l b, z_l ((F_M_link fl n2 S1 a1 a2 a3 a4 (if a5 = 0 then 0 else 1)).2 193 0)], zW T2 (zwG G2 q2) (F_M_link fl n2 S1 a1 a2 a3 a4 (if a5 = 0 then 0 else 1)).2 n3, nc + 5, ns + 54) := ?_
    · refine z_if_eq 1582 C (off := 7) (by decide +kernel) (by decide) (fun c3 => ?_) (fun c3 => ?_)
      · refine z_go2 C 1582 [(.lconst 0, 1)] (1583, [(6, .inl (F_M_link fl n2 S1 a1 a2 a3 a4 (if a5 = 0 then 0 else 1)).1), (5, .inl k0), (0, z_s), (1, z_r 0), (2, z_r 78), (3, z_r 193), (4, .inl i)], [z_l 0, z_l ((F_M_link fl n2 S1 a1 a2 a3 a4 (if a5 = 0 then 0 else 1)).2 193 0)], zW T2 (zwG G2 q2) (F_M_link fl n2 S1 a1 a2 a3 a4 (if a5 = 0 then 0 else 1)).2 n3, nc + 5, ns + 54) (by decide +kernel) rfl ⟨trivial, trivial⟩ ?_
        exact hb1575 0 (by rw [if_pos c3])
      · refine z_go2 C 1578 [(.lconst 1, 1), (.goto 4, 3)] (1583, [(6, .inl (F_M_link fl n2 S1 a1 a2 a3 a4 (if a5 = 0 then 0 else 1)).1), (5, .inl k0), (0, z_s), (1, z_r 0), (2, z_r 78), (3, z_r 193), (4, .inl i)], [z_l 1, z_l ((F_M_link fl n2 S1 a1 a2 a3 a4 (if a5 = 0 then 0 else 1)).2 193 0)], zW T2 (zwG G2 q2) (F_M_link fl n2 S1 a1 a2 a3 a4 (if a5 = 0 then 0 else 1)).2 n3, nc + 5, ns + 54) (by decide +kernel) rfl ⟨trivial, trivial, trivial⟩ ?_
        exact hb1575 1 (by rw [if_neg c3])
    intro b hb
    subst hb
    refine z_go2 C 1583 [(.lcmp, 1)] (1584, [(6, .inl (F_M_link fl n2 S1 a1 a2 a3 a4 (if a5 = 0 then 0 else 1)).1), (5, .inl k0), (0, z_s), (1, z_r 0), (2, z_r 78), (3, z_r 193), (4, .inl i)], [.inl (lg_cmp ((F_M_link fl n2 S1 a1 a2 a3 a4 (if a5 = 0 then 0 else 1)).2 193 0).toInt64 (if (F_M_link fl n2 S1 a1 a2 a3 a4 (if a5 = 0 then 0 else 1)).1 = 0 then 0 else 1 : Int32).toInt64)], zW T2 (zwG G2 q2) (F_M_link fl n2 S1 a1 a2 a3 a4 (if a5 = 0 then 0 else 1)).2 n3, nc + 5, ns + 54) (by decide +kernel) rfl ⟨trivial, trivial⟩ ?_
    refine z_if_eq 1589 C (off := 5) (by decide +kernel) (by decide) (fun c2 => ?_) (fun c2 => absurd (by rw [hs.2 c]; exact lg_cmp_self _) c2)
    refine z_go2 C 1589 [(.goto 1723, 3)] (3312, [(6, .inl (F_M_link fl n2 S1 a1 a2 a3 a4 (if a5 = 0 then 0 else 1)).1), (5, .inl k0), (0, z_s), (1, z_r 0), (2, z_r 78), (3, z_r 193), (4, .inl i)], [], zW T2 (zwG G2 q2) (F_M_link fl n2 S1 a1 a2 a3 a4 (if a5 = 0 then 0 else 1)).2 n3, nc + 5, ns + 54) (by decide +kernel) rfl ⟨trivial, trivial⟩ ?_
    exact z_lvs (lv' := zLV i) [2, 3, 4, 5, 6] rfl (z_wid (nc' := nc + 20) (ns' := ns + 200) (zLwid (a := 5) (by decide)) (zLwid (a := 54) (by decide)) (kk _ _ _ _ _ hn2 (Nat.le_trans hn2 hle3) hfl2))
def Fl_20 (fl : Nat → Nat) (S : (Nat → Nat → Int32)) (a1 a2 a3 a4 a5 a6 : Int32) : (Nat → Nat → Int32) := (F_M_level fl (F_L_level S a1 a2 a3).2 a1 a2 a3).2
def Sl_20 (fl : Nat → Nat) (S : (Nat → Nat → Int32)) (a1 a2 a3 a4 a5 a6 : Int32) : Prop := Sf_L_level S a1 a2 a3 ∧ Sf_M_level fl (F_L_level S a1 a2 a3).2 a1 a2 a3 ∧ (F_M_thrown (F_M_level fl (F_L_level S a1 a2 a3).2 a1 a2 a3).2 = (F_L_level S a1 a2 a3).1 ∧ ((F_L_level S a1 a2 a3).1 = 0 → (F_M_level fl (F_L_level S a1 a2 a3).2 a1 a2 a3).2 193 0 = (if (F_M_level fl (F_L_level S a1 a2 a3).2 a1 a2 a3).1 = 0 then 0 else 1 : Int32)))
theorem l_20 {X : z_X} (C : z_C X zm_law) (hrm : X.2.2.2.1 = room_1) {T' : Nat → Nat × Nat} {G' : Nat → Nat → Option Nat} {n q nc ns : Nat} {fl : Nat → Nat} (S : (Nat → Nat → Int32)) (i a1 a2 a3 a4 a5 a6 : Int32) (hA : zArg X i a1 a2 a3 a4 a5 a6) (hfl : zOK T' (zwG G' q) fl n) (hnc : nc + 20 ≤ 601024) (hns : ns + 200 ≤ 7293034) (hs : Sl_20 fl S a1 a2 a3 a4 a5 a6) (kk : ∀ T2 G2 n2 q2, n ≤ n2 → zOK T2 (zwG G2 q2) fl n2 → z_G X zm_law (3312, zLV i, [], zW T2 (zwG G2 q2) (Fl_20 fl S a1 a2 a3 a4 a5 a6) n2, nc + 20, ns + 200)) : z_G X zm_law (1592, zLV i, [], zW T' (zwG G' q) S n, nc, ns) := by
  unfold Sl_20 at hs
  unfold Fl_20 at kk
  refine z_go2 C 1592 [(.aload_n 1, 1), (.aload_n 0, 1), (.iload 4, 2), (.iconst 1, 1), (.iadd, 1)] (1598, [(0, z_s), (1, z_r 0), (2, z_r 78), (3, z_r 193), (4, .inl i)], [.inl (i + 1), z_s, z_r 0], zW T' (zwG G' q) S n, nc, ns) (by decide +kernel) rfl ⟨trivial, trivial, trivial, trivial, trivial, trivial⟩ ?_
  refine z_sld (v := a1) C (by decide +kernel) hA.g1.1 hA.g1.2 ?_
  refine z_go2 C 1599 [(.aload_n 0, 1), (.iload 4, 2), (.iconst 2, 1), (.iadd, 1)] (1604, [(0, z_s), (1, z_r 0), (2, z_r 78), (3, z_r 193), (4, .inl i)], [.inl (i + 2), z_s, .inl a1, z_r 0], zW T' (zwG G' q) S n, nc, ns) (by decide +kernel) rfl ⟨trivial, trivial, trivial, trivial, trivial⟩ ?_
  refine z_sld (v := a2) C (by decide +kernel) hA.g2.1 hA.g2.2 ?_
  refine z_go2 C 1605 [(.aload_n 0, 1), (.iload 4, 2), (.iconst 3, 1), (.iadd, 1)] (1610, [(0, z_s), (1, z_r 0), (2, z_r 78), (3, z_r 193), (4, .inl i)], [.inl (i + 3), z_s, .inl a2, .inl a1, z_r 0], zW T' (zwG G' q) S n, nc, ns) (by decide +kernel) rfl ⟨trivial, trivial, trivial, trivial, trivial⟩ ?_
  refine z_sld (v := a3) C (by decide +kernel) hA.g3.1 hA.g3.2 ?_
  refine z_go2 C 1611 [(.aload_n 3, 1)] (1612, [(0, z_s), (1, z_r 0), (2, z_r 78), (3, z_r 193), (4, .inl i)], [z_r 193, .inl a3, .inl a2, .inl a1, z_r 0], zW T' (zwG G' q) S n, nc, ns) (by decide +kernel) rfl ⟨trivial, trivial⟩ ?_
  obtain ⟨hs1, hs⟩ := hs
  refine z_callH (idx := 226) (hh := hh_L_level) C (av := [z_r 0, .inl a1, .inl a2, .inl a3, z_r 193]) (st := []) (by decide +kernel) (c_L_level T' G' q S n a1 a2 a3 hs1) hrm (z_wi 1200 (by decide +kernel) rfl) (z_wi 152 (by decide +kernel) rfl) ⟨by decide +kernel, by decide +kernel⟩ (show (parseMethodDescriptor zm_L_level.1.desc).map (fun d => d.parameters.length) = some 5 by decide +kernel) (z_wi 1198 (by decide +kernel) rfl) (z_wi 1199 (by decide +kernel) rfl) (zLfit (a := 0) (b := 0) (by decide) (by decide) (by decide) (by decide) hnc hns) rfl (Nat.le_of_ble_eq_true rfl) (fun v w' hv => ?_)
  obtain ⟨n2, q2, hn2, rfl, rfl⟩ := hv
  replace hfl := (hfl.le hn2).q q2
  obtain ⟨S1, hS1⟩ : ∃ y, (F_L_level S a1 a2 a3).2 = y := ⟨_, rfl⟩
  rw [hS1] at hs kk ⊢
  obtain ⟨k0, hk0⟩ : ∃ y, (F_L_level S a1 a2 a3).1 = y := ⟨_, rfl⟩
  try rw [hk0] at hs
  rw [hk0]
  show z_G X zm_law (1615, [(0, z_s), (1, z_r 0), (2, z_r 78), (3, z_r 193), (4, .inl i)], [.inl k0], zW T' (zwG G' q2) S1 n2, nc + 4, ns + 24)
  refine z_go2 C 1615 [(.istore 5, 2), (.aload_n 2, 1), (.aload_n 0, 1), (.iload 4, 2), (.iconst 1, 1), (.iadd, 1)] (1623, [(5, .inl k0), (0, z_s), (1, z_r 0), (2, z_r 78), (3, z_r 193), (4, .inl i)], [.inl (i + 1), z_s, z_r 78], zW T' (zwG G' q2) S1 n2, nc + 4, ns + 24) (by decide +kernel) rfl ⟨trivial, trivial, trivial, trivial, trivial, trivial, trivial⟩ ?_
  refine z_sld (v := a1) C (by decide +kernel) hA.g1.1 hA.g1.2 ?_
  refine z_go2 C 1624 [(.aload_n 0, 1), (.iload 4, 2), (.iconst 2, 1), (.iadd, 1)] (1629, [(5, .inl k0), (0, z_s), (1, z_r 0), (2, z_r 78), (3, z_r 193), (4, .inl i)], [.inl (i + 2), z_s, .inl a1, z_r 78], zW T' (zwG G' q2) S1 n2, nc + 4, ns + 24) (by decide +kernel) rfl ⟨trivial, trivial, trivial, trivial, trivial⟩ ?_
  refine z_sld (v := a2) C (by decide +kernel) hA.g2.1 hA.g2.2 ?_
  refine z_go2 C 1630 [(.aload_n 0, 1), (.iload 4, 2), (.iconst 3, 1), (.iadd, 1)] (1635, [(5, .inl k0), (0, z_s), (1, z_r 0), (2, z_r 78), (3, z_r 193), (4, .inl i)], [.inl (i + 3), z_s, .inl a2, .inl a1, z_r 78], zW T' (zwG G' q2) S1 n2, nc + 4, ns + 24) (by decide +kernel) rfl ⟨trivial, trivial, trivial, trivial, trivial⟩ ?_
  refine z_sld (v := a3) C (by decide +kernel) hA.g3.1 hA.g3.2 ?_
  obtain ⟨hs1, hs⟩ := hs
  refine z_callV C (av := [.inl a1, .inl a2, .inl a3]) (st := []) (a := 78) (ci := 14) (by decide +kernel) (c_M_level T' (zwG G' q2) n2 fl hfl S1 a1 a2 a3 hs1) hrm zl_L_228 zv_M_level rfl rfl rfl (zLfit (a := 4) (b := 24) (by decide) (by decide) (by decide) (by decide) hnc hns) rfl (Nat.le_of_ble_eq_true rfl) (fun v w' hv => ?_)
  obtain ⟨rfl, rfl⟩ := hv
  show z_G X zm_law (1639, [(5, .inl k0), (0, z_s), (1, z_r 0), (2, z_r 78), (3, z_r 193), (4, .inl i)], [.inl (F_M_level fl S1 a1 a2 a3).1], zW T' (zwG G' q2) (F_M_level fl S1 a1 a2 a3).2 n2, nc + 4, ns + 24)
  refine z_go2 C 1639 [(.istore 6, 2), (.aload_n 2, 1)] (1642, [(6, .inl (F_M_level fl S1 a1 a2 a3).1), (5, .inl k0), (0, z_s), (1, z_r 0), (2, z_r 78), (3, z_r 193), (4, .inl i)], [z_r 78], zW T' (zwG G' q2) (F_M_level fl S1 a1 a2 a3).2 n2, nc + 4, ns + 24) (by decide +kernel) rfl ⟨trivial, trivial, trivial⟩ ?_
  refine z_callV C (av := []) (st := []) (a := 78) (ci := 14) (by decide +kernel) (c_M_thrown T' (zwG G' q2) (F_M_level fl S1 a1 a2 a3).2 n2) hrm zl_L_156 zv_M_thrown rfl rfl rfl (zLfit (a := 4) (b := 24) (by decide) (by decide) (by decide) (by decide) hnc hns) rfl (Nat.le_of_ble_eq_true rfl) (fun v w' hv => ?_)
  obtain ⟨rfl, rfl⟩ := hv
  show z_G X zm_law (1645, [(6, .inl (F_M_level fl S1 a1 a2 a3).1), (5, .inl k0), (0, z_s), (1, z_r 0), (2, z_r 78), (3, z_r 193), (4, .inl i)], [.inl (F_M_thrown (F_M_level fl S1 a1 a2 a3).2)], zW T' (zwG G' q2) (F_M_level fl S1 a1 a2 a3).2 n2, nc + 4, ns + 24)
  refine z_go2 C 1645 [(.iload 5, 2)] (1647, [(6, .inl (F_M_level fl S1 a1 a2 a3).1), (5, .inl k0), (0, z_s), (1, z_r 0), (2, z_r 78), (3, z_r 193), (4, .inl i)], [.inl k0, .inl (F_M_thrown (F_M_level fl S1 a1 a2 a3).2)], zW T' (zwG G' q2) (F_M_level fl S1 a1 a2 a3).2 n2, nc + 4, ns + 24) (by decide +kernel) rfl ⟨trivial, trivial⟩ ?_
  refine z_icmp_eq 1652 C (off := 5) (by decide +kernel) (by decide) (fun c => ?_) (fun c => absurd hs.1 c)
  refine z_go2 C 1652 [(.iload 5, 2)] (1654, [(6, .inl (F_M_level fl S1 a1 a2 a3).1), (5, .inl k0), (0, z_s), (1, z_r 0), (2, z_r 78), (3, z_r 193), (4, .inl i)], [.inl k0], zW T' (zwG G' q2) (F_M_level fl S1 a1 a2 a3).2 n2, nc + 4, ns + 24) (by decide +kernel) rfl ⟨trivial, trivial⟩ ?_
  refine z_if_ne 1676 C (off := 22) (by decide +kernel) (by decide) (fun c => ?_) (fun c => ?_)
  · refine z_go2 C 1676 [(.goto 1636, 3)] (3312, [(6, .inl (F_M_level fl S1 a1 a2 a3).1), (5, .inl k0), (0, z_s), (1, z_r 0), (2, z_r 78), (3, z_r 193), (4, .inl i)], [], zW T' (zwG G' q2) (F_M_level fl S1 a1 a2 a3).2 n2, nc + 4, ns + 24) (by decide +kernel) rfl ⟨trivial, trivial⟩ ?_
    exact z_lvs (lv' := zLV i) [2, 3, 4, 5, 6] rfl (z_wid (nc' := nc + 20) (ns' := ns + 200) (zLwid (a := 4) (by decide)) (zLwid (a := 24) (by decide)) (kk _ _ _ _ hn2 hfl))
  · refine z_go2 C 1657 [(.aload_n 3, 1), (.iconst 0, 1), (.laload, 1), (.iload 6, 2)] (1662, [(6, .inl (F_M_level fl S1 a1 a2 a3).1), (5, .inl k0), (0, z_s), (1, z_r 0), (2, z_r 78), (3, z_r 193), (4, .inl i)], [.inl (F_M_level fl S1 a1 a2 a3).1, z_l ((F_M_level fl S1 a1 a2 a3).2 193 0)], zW T' (zwG G' q2) (F_M_level fl S1 a1 a2 a3).2 n2, nc + 4, ns + 24) (by decide +kernel) rfl ⟨trivial, trivial, ⟨rfl, (show vp_in 0 1 by unfold vp_in; decide)⟩, trivial, trivial⟩ ?_
    have hb1662 : ∀ b : Int32, b = (if (F_M_level fl S1 a1 a2 a3).1 = 0 then 0 else 1) → z_G X zm_law (1670, [(6, .inl (F_M_level fl S1 a1 a2 a3).1), (5, .inl k0), (0, z_s), (1, z_r 0), (2, z_r 78), (3, z_r 193), (4, .inl i)], [z_l b, z_l ((F_M_level fl S1 a1 a2 a3).2 193 0)], zW T' (zwG G' q2) (F_M_level fl S1 a1 a2 a3).2 n2, nc + 4, ns + 24) := ?_
    · refine z_if_eq 1669 C (off := 7) (by decide +kernel) (by decide) (fun c3 => ?_) (fun c3 => ?_)
      · refine z_go2 C 1669 [(.lconst 0, 1)] (1670, [(6, .inl (F_M_level fl S1 a1 a2 a3).1), (5, .inl k0), (0, z_s), (1, z_r 0), (2, z_r 78), (3, z_r 193), (4, .inl i)], [z_l 0, z_l ((F_M_level fl S1 a1 a2 a3).2 193 0)], zW T' (zwG G' q2) (F_M_level fl S1 a1 a2 a3).2 n2, nc + 4, ns + 24) (by decide +kernel) rfl ⟨trivial, trivial⟩ ?_
        exact hb1662 0 (by rw [if_pos c3])
      · refine z_go2 C 1665 [(.lconst 1, 1), (.goto 4, 3)] (1670, [(6, .inl (F_M_level fl S1 a1 a2 a3).1), (5, .inl k0), (0, z_s), (1, z_r 0), (2, z_r 78), (3, z_r 193), (4, .inl i)], [z_l 1, z_l ((F_M_level fl S1 a1 a2 a3).2 193 0)], zW T' (zwG G' q2) (F_M_level fl S1 a1 a2 a3).2 n2, nc + 4, ns + 24) (by decide +kernel) rfl ⟨trivial, trivial, trivial⟩ ?_
        exact hb1662 1 (by rw [if_neg c3])
    intro b hb
    subst hb
    refine z_go2 C 1670 [(.lcmp, 1)] (1671, [(6, .inl (F_M_level fl S1 a1 a2 a3).1), (5, .inl k0), (0, z_s), (1, z_r 0), (2, z_r 78), (3, z_r 193), (4, .inl i)], [.inl (lg_cmp ((F_M_level fl S1 a1 a2 a3).2 193 0).toInt64 (if (F_M_level fl S1 a1 a2 a3).1 = 0 then 0 else 1 : Int32).toInt64)], zW T' (zwG G' q2) (F_M_level fl S1 a1 a2 a3).2 n2, nc + 4, ns + 24) (by decide +kernel) rfl ⟨trivial, trivial⟩ ?_
    refine z_if_eq 1676 C (off := 5) (by decide +kernel) (by decide) (fun c2 => ?_) (fun c2 => absurd (by rw [hs.2 c]; exact lg_cmp_self _) c2)
    refine z_go2 C 1676 [(.goto 1636, 3)] (3312, [(6, .inl (F_M_level fl S1 a1 a2 a3).1), (5, .inl k0), (0, z_s), (1, z_r 0), (2, z_r 78), (3, z_r 193), (4, .inl i)], [], zW T' (zwG G' q2) (F_M_level fl S1 a1 a2 a3).2 n2, nc + 4, ns + 24) (by decide +kernel) rfl ⟨trivial, trivial⟩ ?_
    exact z_lvs (lv' := zLV i) [2, 3, 4, 5, 6] rfl (z_wid (nc' := nc + 20) (ns' := ns + 200) (zLwid (a := 4) (by decide)) (zLwid (a := 24) (by decide)) (kk _ _ _ _ hn2 hfl))
def Fl_21 (fl : Nat → Nat) (S : (Nat → Nat → Int32)) (a1 a2 a3 a4 a5 a6 : Int32) : (Nat → Nat → Int32) := (F_M_transfer fl (F_L_transfer S a1 a2 a3).2 a1 a2 a3).2
def Sl_21 (fl : Nat → Nat) (S : (Nat → Nat → Int32)) (a1 a2 a3 a4 a5 a6 : Int32) : Prop := Sf_L_transfer S a1 a2 a3 ∧ Sf_M_transfer fl (F_L_transfer S a1 a2 a3).2 a1 a2 a3 ∧ (F_M_thrown (F_M_transfer fl (F_L_transfer S a1 a2 a3).2 a1 a2 a3).2 = (F_L_transfer S a1 a2 a3).1 ∧ ((F_L_transfer S a1 a2 a3).1 = 0 → (F_M_transfer fl (F_L_transfer S a1 a2 a3).2 a1 a2 a3).2 193 0 = (F_M_transfer fl (F_L_transfer S a1 a2 a3).2 a1 a2 a3).1))
theorem l_21 {X : z_X} (C : z_C X zm_law) (hrm : X.2.2.2.1 = room_1) {T' : Nat → Nat × Nat} {G' : Nat → Nat → Option Nat} {n q nc ns : Nat} {fl : Nat → Nat} (S : (Nat → Nat → Int32)) (i a1 a2 a3 a4 a5 a6 : Int32) (hA : zArg X i a1 a2 a3 a4 a5 a6) (hfl : zOK T' (zwG G' q) fl n) (hnc : nc + 20 ≤ 601024) (hns : ns + 200 ≤ 7293034) (hs : Sl_21 fl S a1 a2 a3 a4 a5 a6) (kk : ∀ T2 G2 n2 q2, n ≤ n2 → zOK T2 (zwG G2 q2) fl n2 → z_G X zm_law (3312, zLV i, [], zW T2 (zwG G2 q2) (Fl_21 fl S a1 a2 a3 a4 a5 a6) n2, nc + 20, ns + 200)) : z_G X zm_law (1679, zLV i, [], zW T' (zwG G' q) S n, nc, ns) := by
  unfold Sl_21 at hs
  unfold Fl_21 at kk
  refine z_go2 C 1679 [(.aload_n 1, 1), (.aload_n 0, 1), (.iload 4, 2), (.iconst 1, 1), (.iadd, 1)] (1685, [(0, z_s), (1, z_r 0), (2, z_r 78), (3, z_r 193), (4, .inl i)], [.inl (i + 1), z_s, z_r 0], zW T' (zwG G' q) S n, nc, ns) (by decide +kernel) rfl ⟨trivial, trivial, trivial, trivial, trivial, trivial⟩ ?_
  refine z_sld (v := a1) C (by decide +kernel) hA.g1.1 hA.g1.2 ?_
  refine z_go2 C 1686 [(.aload_n 0, 1), (.iload 4, 2), (.iconst 2, 1), (.iadd, 1)] (1691, [(0, z_s), (1, z_r 0), (2, z_r 78), (3, z_r 193), (4, .inl i)], [.inl (i + 2), z_s, .inl a1, z_r 0], zW T' (zwG G' q) S n, nc, ns) (by decide +kernel) rfl ⟨trivial, trivial, trivial, trivial, trivial⟩ ?_
  refine z_sld (v := a2) C (by decide +kernel) hA.g2.1 hA.g2.2 ?_
  refine z_go2 C 1692 [(.aload_n 0, 1), (.iload 4, 2), (.iconst 3, 1), (.iadd, 1)] (1697, [(0, z_s), (1, z_r 0), (2, z_r 78), (3, z_r 193), (4, .inl i)], [.inl (i + 3), z_s, .inl a2, .inl a1, z_r 0], zW T' (zwG G' q) S n, nc, ns) (by decide +kernel) rfl ⟨trivial, trivial, trivial, trivial, trivial⟩ ?_
  refine z_sld (v := a3) C (by decide +kernel) hA.g3.1 hA.g3.2 ?_
  refine z_go2 C 1698 [(.aload_n 3, 1)] (1699, [(0, z_s), (1, z_r 0), (2, z_r 78), (3, z_r 193), (4, .inl i)], [z_r 193, .inl a3, .inl a2, .inl a1, z_r 0], zW T' (zwG G' q) S n, nc, ns) (by decide +kernel) rfl ⟨trivial, trivial⟩ ?_
  obtain ⟨hs1, hs⟩ := hs
  refine z_callH (idx := 229) (hh := hh_L_transfer) C (av := [z_r 0, .inl a1, .inl a2, .inl a3, z_r 193]) (st := []) (by decide +kernel) (c_L_transfer T' G' q S n a1 a2 a3 hs1) hrm (z_wi 1207 (by decide +kernel) rfl) (z_wi 152 (by decide +kernel) rfl) ⟨by decide +kernel, by decide +kernel⟩ (show (parseMethodDescriptor zm_L_transfer.1.desc).map (fun d => d.parameters.length) = some 5 by decide +kernel) (z_wi 1205 (by decide +kernel) rfl) (z_wi 1206 (by decide +kernel) rfl) (zLfit (a := 0) (b := 0) (by decide) (by decide) (by decide) (by decide) hnc hns) rfl (Nat.le_of_ble_eq_true rfl) (fun v w' hv => ?_)
  obtain ⟨n2, q2, hn2, rfl, rfl⟩ := hv
  replace hfl := (hfl.le hn2).q q2
  obtain ⟨S1, hS1⟩ : ∃ y, (F_L_transfer S a1 a2 a3).2 = y := ⟨_, rfl⟩
  rw [hS1] at hs kk ⊢
  obtain ⟨k0, hk0⟩ : ∃ y, (F_L_transfer S a1 a2 a3).1 = y := ⟨_, rfl⟩
  try rw [hk0] at hs
  rw [hk0]
  show z_G X zm_law (1702, [(0, z_s), (1, z_r 0), (2, z_r 78), (3, z_r 193), (4, .inl i)], [.inl k0], zW T' (zwG G' q2) S1 n2, nc + 4, ns + 24)
  refine z_go2 C 1702 [(.istore 5, 2), (.aload_n 2, 1), (.aload_n 0, 1), (.iload 4, 2), (.iconst 1, 1), (.iadd, 1)] (1710, [(5, .inl k0), (0, z_s), (1, z_r 0), (2, z_r 78), (3, z_r 193), (4, .inl i)], [.inl (i + 1), z_s, z_r 78], zW T' (zwG G' q2) S1 n2, nc + 4, ns + 24) (by decide +kernel) rfl ⟨trivial, trivial, trivial, trivial, trivial, trivial, trivial⟩ ?_
  refine z_sld (v := a1) C (by decide +kernel) hA.g1.1 hA.g1.2 ?_
  refine z_go2 C 1711 [(.aload_n 0, 1), (.iload 4, 2), (.iconst 2, 1), (.iadd, 1)] (1716, [(5, .inl k0), (0, z_s), (1, z_r 0), (2, z_r 78), (3, z_r 193), (4, .inl i)], [.inl (i + 2), z_s, .inl a1, z_r 78], zW T' (zwG G' q2) S1 n2, nc + 4, ns + 24) (by decide +kernel) rfl ⟨trivial, trivial, trivial, trivial, trivial⟩ ?_
  refine z_sld (v := a2) C (by decide +kernel) hA.g2.1 hA.g2.2 ?_
  refine z_go2 C 1717 [(.aload_n 0, 1), (.iload 4, 2), (.iconst 3, 1), (.iadd, 1)] (1722, [(5, .inl k0), (0, z_s), (1, z_r 0), (2, z_r 78), (3, z_r 193), (4, .inl i)], [.inl (i + 3), z_s, .inl a2, .inl a1, z_r 78], zW T' (zwG G' q2) S1 n2, nc + 4, ns + 24) (by decide +kernel) rfl ⟨trivial, trivial, trivial, trivial, trivial⟩ ?_
  refine z_sld (v := a3) C (by decide +kernel) hA.g3.1 hA.g3.2 ?_
  obtain ⟨hs1, hs⟩ := hs
  refine z_callV C (av := [.inl a1, .inl a2, .inl a3]) (st := []) (a := 78) (ci := 14) (by decide +kernel) (c_M_transfer T' (zwG G' q2) n2 fl hfl S1 a1 a2 a3 hs1) hrm zl_L_231 zv_M_transfer rfl rfl rfl (zLfit (a := 4) (b := 24) (by decide) (by decide) (by decide) (by decide) hnc hns) rfl (Nat.le_of_ble_eq_true rfl) (fun v w' hv => ?_)
  obtain ⟨rfl, rfl⟩ := hv
  show z_G X zm_law (1726, [(5, .inl k0), (0, z_s), (1, z_r 0), (2, z_r 78), (3, z_r 193), (4, .inl i)], [.inl (F_M_transfer fl S1 a1 a2 a3).1], zW T' (zwG G' q2) (F_M_transfer fl S1 a1 a2 a3).2 n2, nc + 4, ns + 24)
  refine z_go2 C 1726 [(.istore 6, 2), (.aload_n 2, 1)] (1729, [(6, .inl (F_M_transfer fl S1 a1 a2 a3).1), (5, .inl k0), (0, z_s), (1, z_r 0), (2, z_r 78), (3, z_r 193), (4, .inl i)], [z_r 78], zW T' (zwG G' q2) (F_M_transfer fl S1 a1 a2 a3).2 n2, nc + 4, ns + 24) (by decide +kernel) rfl ⟨trivial, trivial, trivial⟩ ?_
  refine z_callV C (av := []) (st := []) (a := 78) (ci := 14) (by decide +kernel) (c_M_thrown T' (zwG G' q2) (F_M_transfer fl S1 a1 a2 a3).2 n2) hrm zl_L_156 zv_M_thrown rfl rfl rfl (zLfit (a := 4) (b := 24) (by decide) (by decide) (by decide) (by decide) hnc hns) rfl (Nat.le_of_ble_eq_true rfl) (fun v w' hv => ?_)
  obtain ⟨rfl, rfl⟩ := hv
  show z_G X zm_law (1732, [(6, .inl (F_M_transfer fl S1 a1 a2 a3).1), (5, .inl k0), (0, z_s), (1, z_r 0), (2, z_r 78), (3, z_r 193), (4, .inl i)], [.inl (F_M_thrown (F_M_transfer fl S1 a1 a2 a3).2)], zW T' (zwG G' q2) (F_M_transfer fl S1 a1 a2 a3).2 n2, nc + 4, ns + 24)
  refine z_go2 C 1732 [(.iload 5, 2)] (1734, [(6, .inl (F_M_transfer fl S1 a1 a2 a3).1), (5, .inl k0), (0, z_s), (1, z_r 0), (2, z_r 78), (3, z_r 193), (4, .inl i)], [.inl k0, .inl (F_M_thrown (F_M_transfer fl S1 a1 a2 a3).2)], zW T' (zwG G' q2) (F_M_transfer fl S1 a1 a2 a3).2 n2, nc + 4, ns + 24) (by decide +kernel) rfl ⟨trivial, trivial⟩ ?_
  refine z_icmp_eq 1739 C (off := 5) (by decide +kernel) (by decide) (fun c => ?_) (fun c => absurd hs.1 c)
  refine z_go2 C 1739 [(.iload 5, 2)] (1741, [(6, .inl (F_M_transfer fl S1 a1 a2 a3).1), (5, .inl k0), (0, z_s), (1, z_r 0), (2, z_r 78), (3, z_r 193), (4, .inl i)], [.inl k0], zW T' (zwG G' q2) (F_M_transfer fl S1 a1 a2 a3).2 n2, nc + 4, ns + 24) (by decide +kernel) rfl ⟨trivial, trivial⟩ ?_
  refine z_if_ne 1756 C (off := 15) (by decide +kernel) (by decide) (fun c => ?_) (fun c => ?_)
  · refine z_go2 C 1756 [(.goto 1556, 3)] (3312, [(6, .inl (F_M_transfer fl S1 a1 a2 a3).1), (5, .inl k0), (0, z_s), (1, z_r 0), (2, z_r 78), (3, z_r 193), (4, .inl i)], [], zW T' (zwG G' q2) (F_M_transfer fl S1 a1 a2 a3).2 n2, nc + 4, ns + 24) (by decide +kernel) rfl ⟨trivial, trivial⟩ ?_
    exact z_lvs (lv' := zLV i) [2, 3, 4, 5, 6] rfl (z_wid (nc' := nc + 20) (ns' := ns + 200) (zLwid (a := 4) (by decide)) (zLwid (a := 24) (by decide)) (kk _ _ _ _ hn2 hfl))
  · refine z_go2 C 1744 [(.aload_n 3, 1), (.iconst 0, 1), (.laload, 1), (.iload 6, 2), (.i2l, 1), (.lcmp, 1)] (1751, [(6, .inl (F_M_transfer fl S1 a1 a2 a3).1), (5, .inl k0), (0, z_s), (1, z_r 0), (2, z_r 78), (3, z_r 193), (4, .inl i)], [.inl (lg_cmp ((F_M_transfer fl S1 a1 a2 a3).2 193 0).toInt64 (F_M_transfer fl S1 a1 a2 a3).1.toInt64)], zW T' (zwG G' q2) (F_M_transfer fl S1 a1 a2 a3).2 n2, nc + 4, ns + 24) (by decide +kernel) rfl ⟨trivial, trivial, ⟨rfl, (show vp_in 0 1 by unfold vp_in; decide)⟩, trivial, trivial, trivial, trivial⟩ ?_
    refine z_if_eq 1756 C (off := 5) (by decide +kernel) (by decide) (fun c2 => ?_) (fun c2 => absurd (by rw [hs.2 c]; exact lg_cmp_self _) c2)
    refine z_go2 C 1756 [(.goto 1556, 3)] (3312, [(6, .inl (F_M_transfer fl S1 a1 a2 a3).1), (5, .inl k0), (0, z_s), (1, z_r 0), (2, z_r 78), (3, z_r 193), (4, .inl i)], [], zW T' (zwG G' q2) (F_M_transfer fl S1 a1 a2 a3).2 n2, nc + 4, ns + 24) (by decide +kernel) rfl ⟨trivial, trivial⟩ ?_
    exact z_lvs (lv' := zLV i) [2, 3, 4, 5, 6] rfl (z_wid (nc' := nc + 20) (ns' := ns + 200) (zLwid (a := 4) (by decide)) (zLwid (a := 24) (by decide)) (kk _ _ _ _ hn2 hfl))
def Fl_22 (fl : Nat → Nat) (S : (Nat → Nat → Int32)) (a1 a2 a3 a4 a5 a6 : Int32) : (Nat → Nat → Int32) := (F_M_sprint fl (F_L_sprint S a1 a2 a3).2 a1 a2 a3).2
def Sl_22 (fl : Nat → Nat) (S : (Nat → Nat → Int32)) (a1 a2 a3 a4 a5 a6 : Int32) : Prop := Sf_L_sprint S a1 a2 a3 ∧ Sf_M_sprint fl (F_L_sprint S a1 a2 a3).2 a1 a2 a3 ∧ (F_M_thrown (F_M_sprint fl (F_L_sprint S a1 a2 a3).2 a1 a2 a3).2 = (F_L_sprint S a1 a2 a3).1 ∧ ((F_L_sprint S a1 a2 a3).1 = 0 → (F_M_sprint fl (F_L_sprint S a1 a2 a3).2 a1 a2 a3).2 193 0 = (F_M_sprint fl (F_L_sprint S a1 a2 a3).2 a1 a2 a3).1))
theorem l_22 {X : z_X} (C : z_C X zm_law) (hrm : X.2.2.2.1 = room_1) {T' : Nat → Nat × Nat} {G' : Nat → Nat → Option Nat} {n q nc ns : Nat} {fl : Nat → Nat} (S : (Nat → Nat → Int32)) (i a1 a2 a3 a4 a5 a6 : Int32) (hA : zArg X i a1 a2 a3 a4 a5 a6) (hfl : zOK T' (zwG G' q) fl n) (hnc : nc + 20 ≤ 601024) (hns : ns + 200 ≤ 7293034) (hs : Sl_22 fl S a1 a2 a3 a4 a5 a6) (kk : ∀ T2 G2 n2 q2, n ≤ n2 → zOK T2 (zwG G2 q2) fl n2 → z_G X zm_law (3312, zLV i, [], zW T2 (zwG G2 q2) (Fl_22 fl S a1 a2 a3 a4 a5 a6) n2, nc + 20, ns + 200)) : z_G X zm_law (1759, zLV i, [], zW T' (zwG G' q) S n, nc, ns) := by
  unfold Sl_22 at hs
  unfold Fl_22 at kk
  refine z_go2 C 1759 [(.aload_n 1, 1), (.aload_n 0, 1), (.iload 4, 2), (.iconst 1, 1), (.iadd, 1)] (1765, [(0, z_s), (1, z_r 0), (2, z_r 78), (3, z_r 193), (4, .inl i)], [.inl (i + 1), z_s, z_r 0], zW T' (zwG G' q) S n, nc, ns) (by decide +kernel) rfl ⟨trivial, trivial, trivial, trivial, trivial, trivial⟩ ?_
  refine z_sld (v := a1) C (by decide +kernel) hA.g1.1 hA.g1.2 ?_
  refine z_go2 C 1766 [(.aload_n 0, 1), (.iload 4, 2), (.iconst 2, 1), (.iadd, 1)] (1771, [(0, z_s), (1, z_r 0), (2, z_r 78), (3, z_r 193), (4, .inl i)], [.inl (i + 2), z_s, .inl a1, z_r 0], zW T' (zwG G' q) S n, nc, ns) (by decide +kernel) rfl ⟨trivial, trivial, trivial, trivial, trivial⟩ ?_
  refine z_sld (v := a2) C (by decide +kernel) hA.g2.1 hA.g2.2 ?_
  refine z_go2 C 1772 [(.aload_n 0, 1), (.iload 4, 2), (.iconst 3, 1), (.iadd, 1)] (1777, [(0, z_s), (1, z_r 0), (2, z_r 78), (3, z_r 193), (4, .inl i)], [.inl (i + 3), z_s, .inl a2, .inl a1, z_r 0], zW T' (zwG G' q) S n, nc, ns) (by decide +kernel) rfl ⟨trivial, trivial, trivial, trivial, trivial⟩ ?_
  refine z_sld (v := a3) C (by decide +kernel) hA.g3.1 hA.g3.2 ?_
  refine z_go2 C 1778 [(.aload_n 3, 1)] (1779, [(0, z_s), (1, z_r 0), (2, z_r 78), (3, z_r 193), (4, .inl i)], [z_r 193, .inl a3, .inl a2, .inl a1, z_r 0], zW T' (zwG G' q) S n, nc, ns) (by decide +kernel) rfl ⟨trivial, trivial⟩ ?_
  obtain ⟨hs1, hs⟩ := hs
  refine z_callH (idx := 232) (hh := hh_L_sprint) C (av := [z_r 0, .inl a1, .inl a2, .inl a3, z_r 193]) (st := []) (by decide +kernel) (c_L_sprint T' G' q S n a1 a2 a3 hs1) hrm (z_wi 1214 (by decide +kernel) rfl) (z_wi 152 (by decide +kernel) rfl) ⟨by decide +kernel, by decide +kernel⟩ (show (parseMethodDescriptor zm_L_sprint.1.desc).map (fun d => d.parameters.length) = some 5 by decide +kernel) (z_wi 1212 (by decide +kernel) rfl) (z_wi 1213 (by decide +kernel) rfl) (zLfit (a := 0) (b := 0) (by decide) (by decide) (by decide) (by decide) hnc hns) rfl (Nat.le_of_ble_eq_true rfl) (fun v w' hv => ?_)
  obtain ⟨n2, q2, hn2, rfl, rfl⟩ := hv
  replace hfl := (hfl.le hn2).q q2
  obtain ⟨S1, hS1⟩ : ∃ y, (F_L_sprint S a1 a2 a3).2 = y := ⟨_, rfl⟩
  rw [hS1] at hs kk ⊢
  obtain ⟨k0, hk0⟩ : ∃ y, (F_L_sprint S a1 a2 a3).1 = y := ⟨_, rfl⟩
  try rw [hk0] at hs
  rw [hk0]
  show z_G X zm_law (1782, [(0, z_s), (1, z_r 0), (2, z_r 78), (3, z_r 193), (4, .inl i)], [.inl k0], zW T' (zwG G' q2) S1 n2, nc + 4, ns + 24)
  refine z_go2 C 1782 [(.istore 5, 2), (.aload_n 2, 1), (.aload_n 0, 1), (.iload 4, 2), (.iconst 1, 1), (.iadd, 1)] (1790, [(5, .inl k0), (0, z_s), (1, z_r 0), (2, z_r 78), (3, z_r 193), (4, .inl i)], [.inl (i + 1), z_s, z_r 78], zW T' (zwG G' q2) S1 n2, nc + 4, ns + 24) (by decide +kernel) rfl ⟨trivial, trivial, trivial, trivial, trivial, trivial, trivial⟩ ?_
  refine z_sld (v := a1) C (by decide +kernel) hA.g1.1 hA.g1.2 ?_
  refine z_go2 C 1791 [(.aload_n 0, 1), (.iload 4, 2), (.iconst 2, 1), (.iadd, 1)] (1796, [(5, .inl k0), (0, z_s), (1, z_r 0), (2, z_r 78), (3, z_r 193), (4, .inl i)], [.inl (i + 2), z_s, .inl a1, z_r 78], zW T' (zwG G' q2) S1 n2, nc + 4, ns + 24) (by decide +kernel) rfl ⟨trivial, trivial, trivial, trivial, trivial⟩ ?_
  refine z_sld (v := a2) C (by decide +kernel) hA.g2.1 hA.g2.2 ?_
  refine z_go2 C 1797 [(.aload_n 0, 1), (.iload 4, 2), (.iconst 3, 1), (.iadd, 1)] (1802, [(5, .inl k0), (0, z_s), (1, z_r 0), (2, z_r 78), (3, z_r 193), (4, .inl i)], [.inl (i + 3), z_s, .inl a2, .inl a1, z_r 78], zW T' (zwG G' q2) S1 n2, nc + 4, ns + 24) (by decide +kernel) rfl ⟨trivial, trivial, trivial, trivial, trivial⟩ ?_
  refine z_sld (v := a3) C (by decide +kernel) hA.g3.1 hA.g3.2 ?_
  obtain ⟨hs1, hs⟩ := hs
  refine z_callV C (av := [.inl a1, .inl a2, .inl a3]) (st := []) (a := 78) (ci := 14) (by decide +kernel) (c_M_sprint T' (zwG G' q2) n2 fl hfl S1 a1 a2 a3 hs1) hrm zl_L_234 zv_M_sprint rfl rfl rfl (zLfit (a := 4) (b := 24) (by decide) (by decide) (by decide) (by decide) hnc hns) rfl (Nat.le_of_ble_eq_true rfl) (fun v w' hv => ?_)
  obtain ⟨rfl, rfl⟩ := hv
  show z_G X zm_law (1806, [(5, .inl k0), (0, z_s), (1, z_r 0), (2, z_r 78), (3, z_r 193), (4, .inl i)], [.inl (F_M_sprint fl S1 a1 a2 a3).1], zW T' (zwG G' q2) (F_M_sprint fl S1 a1 a2 a3).2 n2, nc + 4, ns + 24)
  refine z_go2 C 1806 [(.istore 6, 2), (.aload_n 2, 1)] (1809, [(6, .inl (F_M_sprint fl S1 a1 a2 a3).1), (5, .inl k0), (0, z_s), (1, z_r 0), (2, z_r 78), (3, z_r 193), (4, .inl i)], [z_r 78], zW T' (zwG G' q2) (F_M_sprint fl S1 a1 a2 a3).2 n2, nc + 4, ns + 24) (by decide +kernel) rfl ⟨trivial, trivial, trivial⟩ ?_
  refine z_callV C (av := []) (st := []) (a := 78) (ci := 14) (by decide +kernel) (c_M_thrown T' (zwG G' q2) (F_M_sprint fl S1 a1 a2 a3).2 n2) hrm zl_L_156 zv_M_thrown rfl rfl rfl (zLfit (a := 4) (b := 24) (by decide) (by decide) (by decide) (by decide) hnc hns) rfl (Nat.le_of_ble_eq_true rfl) (fun v w' hv => ?_)
  obtain ⟨rfl, rfl⟩ := hv
  show z_G X zm_law (1812, [(6, .inl (F_M_sprint fl S1 a1 a2 a3).1), (5, .inl k0), (0, z_s), (1, z_r 0), (2, z_r 78), (3, z_r 193), (4, .inl i)], [.inl (F_M_thrown (F_M_sprint fl S1 a1 a2 a3).2)], zW T' (zwG G' q2) (F_M_sprint fl S1 a1 a2 a3).2 n2, nc + 4, ns + 24)
  refine z_go2 C 1812 [(.iload 5, 2)] (1814, [(6, .inl (F_M_sprint fl S1 a1 a2 a3).1), (5, .inl k0), (0, z_s), (1, z_r 0), (2, z_r 78), (3, z_r 193), (4, .inl i)], [.inl k0, .inl (F_M_thrown (F_M_sprint fl S1 a1 a2 a3).2)], zW T' (zwG G' q2) (F_M_sprint fl S1 a1 a2 a3).2 n2, nc + 4, ns + 24) (by decide +kernel) rfl ⟨trivial, trivial⟩ ?_
  refine z_icmp_eq 1819 C (off := 5) (by decide +kernel) (by decide) (fun c => ?_) (fun c => absurd hs.1 c)
  refine z_go2 C 1819 [(.iload 5, 2)] (1821, [(6, .inl (F_M_sprint fl S1 a1 a2 a3).1), (5, .inl k0), (0, z_s), (1, z_r 0), (2, z_r 78), (3, z_r 193), (4, .inl i)], [.inl k0], zW T' (zwG G' q2) (F_M_sprint fl S1 a1 a2 a3).2 n2, nc + 4, ns + 24) (by decide +kernel) rfl ⟨trivial, trivial⟩ ?_
  refine z_if_ne 1836 C (off := 15) (by decide +kernel) (by decide) (fun c => ?_) (fun c => ?_)
  · refine z_go2 C 1836 [(.goto 1476, 3)] (3312, [(6, .inl (F_M_sprint fl S1 a1 a2 a3).1), (5, .inl k0), (0, z_s), (1, z_r 0), (2, z_r 78), (3, z_r 193), (4, .inl i)], [], zW T' (zwG G' q2) (F_M_sprint fl S1 a1 a2 a3).2 n2, nc + 4, ns + 24) (by decide +kernel) rfl ⟨trivial, trivial⟩ ?_
    exact z_lvs (lv' := zLV i) [2, 3, 4, 5, 6] rfl (z_wid (nc' := nc + 20) (ns' := ns + 200) (zLwid (a := 4) (by decide)) (zLwid (a := 24) (by decide)) (kk _ _ _ _ hn2 hfl))
  · refine z_go2 C 1824 [(.aload_n 3, 1), (.iconst 0, 1), (.laload, 1), (.iload 6, 2), (.i2l, 1), (.lcmp, 1)] (1831, [(6, .inl (F_M_sprint fl S1 a1 a2 a3).1), (5, .inl k0), (0, z_s), (1, z_r 0), (2, z_r 78), (3, z_r 193), (4, .inl i)], [.inl (lg_cmp ((F_M_sprint fl S1 a1 a2 a3).2 193 0).toInt64 (F_M_sprint fl S1 a1 a2 a3).1.toInt64)], zW T' (zwG G' q2) (F_M_sprint fl S1 a1 a2 a3).2 n2, nc + 4, ns + 24) (by decide +kernel) rfl ⟨trivial, trivial, ⟨rfl, (show vp_in 0 1 by unfold vp_in; decide)⟩, trivial, trivial, trivial, trivial⟩ ?_
    refine z_if_eq 1836 C (off := 5) (by decide +kernel) (by decide) (fun c2 => ?_) (fun c2 => absurd (by rw [hs.2 c]; exact lg_cmp_self _) c2)
    refine z_go2 C 1836 [(.goto 1476, 3)] (3312, [(6, .inl (F_M_sprint fl S1 a1 a2 a3).1), (5, .inl k0), (0, z_s), (1, z_r 0), (2, z_r 78), (3, z_r 193), (4, .inl i)], [], zW T' (zwG G' q2) (F_M_sprint fl S1 a1 a2 a3).2 n2, nc + 4, ns + 24) (by decide +kernel) rfl ⟨trivial, trivial⟩ ?_
    exact z_lvs (lv' := zLV i) [2, 3, 4, 5, 6] rfl (z_wid (nc' := nc + 20) (ns' := ns + 200) (zLwid (a := 4) (by decide)) (zLwid (a := 24) (by decide)) (kk _ _ _ _ hn2 hfl))
def Fl_23 (fl : Nat → Nat) (na : Nat) (S : (Nat → Nat → Int32)) (a1 a2 a3 a4 a5 a6 : Int32) : (Nat → Nat → Int32) := (F_M_drag na (F_L_drag S a1 a2 a3).2 a1 a2 a3).2
def Sl_23 (fl : Nat → Nat) (na : Nat) (S : (Nat → Nat → Int32)) (a1 a2 a3 a4 a5 a6 : Int32) : Prop := Sf_L_drag S a1 a2 a3 ∧ Sf_M_drag na (F_L_drag S a1 a2 a3).2 a1 a2 a3 ∧ (F_M_thrown (F_M_drag na (F_L_drag S a1 a2 a3).2 a1 a2 a3).2 = (F_L_drag S a1 a2 a3).1 ∧ ((F_L_drag S a1 a2 a3).1 = 0 → (F_M_drag na (F_L_drag S a1 a2 a3).2 a1 a2 a3).2 193 0 = (F_M_drag na (F_L_drag S a1 a2 a3).2 a1 a2 a3).1))
theorem l_23 {X : z_X} (C : z_C X zm_law) (hrm : X.2.2.2.1 = room_1) {T' : Nat → Nat × Nat} {G' : Nat → Nat → Option Nat} {n q nc ns : Nat} {fl : Nat → Nat} (S : (Nat → Nat → Int32)) (i a1 a2 a3 a4 a5 a6 : Int32) (hA : zArg X i a1 a2 a3 a4 a5 a6) (hfl : zOK T' (zwG G' q) fl n) (hnc : nc + 20 ≤ 601024) (hns : ns + 200 ≤ 7293034) (hs : ∀ na, n ≤ na → Sl_23 fl na S a1 a2 a3 a4 a5 a6) (kk : ∀ T2 G2 n2 q2 na, n ≤ na → n ≤ n2 → zOK T2 (zwG G2 q2) fl n2 → z_G X zm_law (3312, zLV i, [], zW T2 (zwG G2 q2) (Fl_23 fl na S a1 a2 a3 a4 a5 a6) n2, nc + 20, ns + 200)) : z_G X zm_law (1839, zLV i, [], zW T' (zwG G' q) S n, nc, ns) := by
  unfold Sl_23 at hs
  unfold Fl_23 at kk
  refine z_go2 C 1839 [(.aload_n 1, 1), (.aload_n 0, 1), (.iload 4, 2), (.iconst 1, 1), (.iadd, 1)] (1845, [(0, z_s), (1, z_r 0), (2, z_r 78), (3, z_r 193), (4, .inl i)], [.inl (i + 1), z_s, z_r 0], zW T' (zwG G' q) S n, nc, ns) (by decide +kernel) rfl ⟨trivial, trivial, trivial, trivial, trivial, trivial⟩ ?_
  refine z_sld (v := a1) C (by decide +kernel) hA.g1.1 hA.g1.2 ?_
  refine z_go2 C 1846 [(.aload_n 0, 1), (.iload 4, 2), (.iconst 2, 1), (.iadd, 1)] (1851, [(0, z_s), (1, z_r 0), (2, z_r 78), (3, z_r 193), (4, .inl i)], [.inl (i + 2), z_s, .inl a1, z_r 0], zW T' (zwG G' q) S n, nc, ns) (by decide +kernel) rfl ⟨trivial, trivial, trivial, trivial, trivial⟩ ?_
  refine z_sld (v := a2) C (by decide +kernel) hA.g2.1 hA.g2.2 ?_
  refine z_go2 C 1852 [(.aload_n 0, 1), (.iload 4, 2), (.iconst 3, 1), (.iadd, 1)] (1857, [(0, z_s), (1, z_r 0), (2, z_r 78), (3, z_r 193), (4, .inl i)], [.inl (i + 3), z_s, .inl a2, .inl a1, z_r 0], zW T' (zwG G' q) S n, nc, ns) (by decide +kernel) rfl ⟨trivial, trivial, trivial, trivial, trivial⟩ ?_
  refine z_sld (v := a3) C (by decide +kernel) hA.g3.1 hA.g3.2 ?_
  refine z_go2 C 1858 [(.aload_n 3, 1)] (1859, [(0, z_s), (1, z_r 0), (2, z_r 78), (3, z_r 193), (4, .inl i)], [z_r 193, .inl a3, .inl a2, .inl a1, z_r 0], zW T' (zwG G' q) S n, nc, ns) (by decide +kernel) rfl ⟨trivial, trivial⟩ ?_
  have hs1 := (hs n (Nat.le_refl n)).1
  refine z_callH (idx := 235) (hh := hh_L_drag) C (av := [z_r 0, .inl a1, .inl a2, .inl a3, z_r 193]) (st := []) (by decide +kernel) (c_L_drag T' G' q S n a1 a2 a3 hs1) hrm (z_wi 1224 (by decide +kernel) rfl) (z_wi 152 (by decide +kernel) rfl) ⟨by decide +kernel, by decide +kernel⟩ (show (parseMethodDescriptor zm_L_drag.1.desc).map (fun d => d.parameters.length) = some 5 by decide +kernel) (z_wi 1222 (by decide +kernel) rfl) (z_wi 1223 (by decide +kernel) rfl) (zLfit (a := 0) (b := 0) (by decide) (by decide) (by decide) (by decide) hnc hns) rfl (Nat.le_of_ble_eq_true rfl) (fun v w' hv => ?_)
  obtain ⟨n2, q2, hn2, rfl, rfl⟩ := hv
  replace hs := (hs n2 hn2).2
  replace hfl := (hfl.le hn2).q q2
  obtain ⟨S1, hS1⟩ : ∃ y, (F_L_drag S a1 a2 a3).2 = y := ⟨_, rfl⟩
  rw [hS1] at hs kk ⊢
  obtain ⟨k0, hk0⟩ : ∃ y, (F_L_drag S a1 a2 a3).1 = y := ⟨_, rfl⟩
  try rw [hk0] at hs
  rw [hk0]
  show z_G X zm_law (1862, [(0, z_s), (1, z_r 0), (2, z_r 78), (3, z_r 193), (4, .inl i)], [.inl k0], zW T' (zwG G' q2) S1 n2, nc + 3, ns + 18)
  refine z_go2 C 1862 [(.istore 5, 2), (.aload_n 2, 1), (.aload_n 0, 1), (.iload 4, 2), (.iconst 1, 1), (.iadd, 1)] (1870, [(5, .inl k0), (0, z_s), (1, z_r 0), (2, z_r 78), (3, z_r 193), (4, .inl i)], [.inl (i + 1), z_s, z_r 78], zW T' (zwG G' q2) S1 n2, nc + 3, ns + 18) (by decide +kernel) rfl ⟨trivial, trivial, trivial, trivial, trivial, trivial, trivial⟩ ?_
  refine z_sld (v := a1) C (by decide +kernel) hA.g1.1 hA.g1.2 ?_
  refine z_go2 C 1871 [(.aload_n 0, 1), (.iload 4, 2), (.iconst 2, 1), (.iadd, 1)] (1876, [(5, .inl k0), (0, z_s), (1, z_r 0), (2, z_r 78), (3, z_r 193), (4, .inl i)], [.inl (i + 2), z_s, .inl a1, z_r 78], zW T' (zwG G' q2) S1 n2, nc + 3, ns + 18) (by decide +kernel) rfl ⟨trivial, trivial, trivial, trivial, trivial⟩ ?_
  refine z_sld (v := a2) C (by decide +kernel) hA.g2.1 hA.g2.2 ?_
  refine z_go2 C 1877 [(.aload_n 0, 1), (.iload 4, 2), (.iconst 3, 1), (.iadd, 1)] (1882, [(5, .inl k0), (0, z_s), (1, z_r 0), (2, z_r 78), (3, z_r 193), (4, .inl i)], [.inl (i + 3), z_s, .inl a2, .inl a1, z_r 78], zW T' (zwG G' q2) S1 n2, nc + 3, ns + 18) (by decide +kernel) rfl ⟨trivial, trivial, trivial, trivial, trivial⟩ ?_
  refine z_sld (v := a3) C (by decide +kernel) hA.g3.1 hA.g3.2 ?_
  obtain ⟨hs1, hs⟩ := hs
  refine z_callV C (av := [.inl a1, .inl a2, .inl a3]) (st := []) (a := 78) (ci := 14) (by decide +kernel) (c_M_drag T' (zwG G' q2) n2 n2 rfl hfl.1 S1 a1 a2 a3 hs1) hrm zl_L_237 zv_M_drag rfl rfl rfl (zLfit (a := 3) (b := 18) (by decide) (by decide) (by decide) (by decide) hnc hns) rfl (Nat.le_of_ble_eq_true rfl) (fun v w' hv => ?_)
  obtain ⟨T2, G2, n3, hgr, rfl, rfl⟩ := hv
  have hq3 : zG G2 36 7 = some q2 := by rw [(hgr.2.2 36 (Nat.lt_of_lt_of_le (by decide) hfl.1)).2]; rfl
  have hfl2 : zOK T2 (zwG G2 q2) fl n3 := ⟨(hfl.gr hgr).1, fun k hk => ⟨by rw [zwG_self hq3]; exact ((hfl.gr hgr).2 k hk).1, (((hfl.gr hgr).2 k hk).2.1).sg (by rw [zwG_self hq3]), ((hfl.gr hgr).2 k hk).2.2⟩⟩
  have hle3 := hgr.2.1
  rw [show zW T2 G2 (F_M_drag n2 S1 a1 a2 a3).2 n3 = zW T2 (zwG G2 q2) (F_M_drag n2 S1 a1 a2 a3).2 n3 from by show (zT T2, zG G2, _, _) = (zT T2, zG (zwG G2 q2), _, _); rw [zwG_self hq3]]
  show z_G X zm_law (1886, [(5, .inl k0), (0, z_s), (1, z_r 0), (2, z_r 78), (3, z_r 193), (4, .inl i)], [.inl (F_M_drag n2 S1 a1 a2 a3).1], zW T2 (zwG G2 q2) (F_M_drag n2 S1 a1 a2 a3).2 n3, nc + 4, ns + 48)
  refine z_go2 C 1886 [(.istore 6, 2), (.aload_n 2, 1)] (1889, [(6, .inl (F_M_drag n2 S1 a1 a2 a3).1), (5, .inl k0), (0, z_s), (1, z_r 0), (2, z_r 78), (3, z_r 193), (4, .inl i)], [z_r 78], zW T2 (zwG G2 q2) (F_M_drag n2 S1 a1 a2 a3).2 n3, nc + 4, ns + 48) (by decide +kernel) rfl ⟨trivial, trivial, trivial⟩ ?_
  refine z_callV C (av := []) (st := []) (a := 78) (ci := 14) (by decide +kernel) (c_M_thrown T2 (zwG G2 q2) (F_M_drag n2 S1 a1 a2 a3).2 n3) hrm zl_L_156 zv_M_thrown rfl rfl rfl (zLfit (a := 4) (b := 48) (by decide) (by decide) (by decide) (by decide) hnc hns) rfl (Nat.le_of_ble_eq_true rfl) (fun v w' hv => ?_)
  obtain ⟨rfl, rfl⟩ := hv
  show z_G X zm_law (1892, [(6, .inl (F_M_drag n2 S1 a1 a2 a3).1), (5, .inl k0), (0, z_s), (1, z_r 0), (2, z_r 78), (3, z_r 193), (4, .inl i)], [.inl (F_M_thrown (F_M_drag n2 S1 a1 a2 a3).2)], zW T2 (zwG G2 q2) (F_M_drag n2 S1 a1 a2 a3).2 n3, nc + 4, ns + 48)
  refine z_go2 C 1892 [(.iload 5, 2)] (1894, [(6, .inl (F_M_drag n2 S1 a1 a2 a3).1), (5, .inl k0), (0, z_s), (1, z_r 0), (2, z_r 78), (3, z_r 193), (4, .inl i)], [.inl k0, .inl (F_M_thrown (F_M_drag n2 S1 a1 a2 a3).2)], zW T2 (zwG G2 q2) (F_M_drag n2 S1 a1 a2 a3).2 n3, nc + 4, ns + 48) (by decide +kernel) rfl ⟨trivial, trivial⟩ ?_
  refine z_icmp_eq 1899 C (off := 5) (by decide +kernel) (by decide) (fun c => ?_) (fun c => absurd hs.1 c)
  refine z_go2 C 1899 [(.iload 5, 2)] (1901, [(6, .inl (F_M_drag n2 S1 a1 a2 a3).1), (5, .inl k0), (0, z_s), (1, z_r 0), (2, z_r 78), (3, z_r 193), (4, .inl i)], [.inl k0], zW T2 (zwG G2 q2) (F_M_drag n2 S1 a1 a2 a3).2 n3, nc + 4, ns + 48) (by decide +kernel) rfl ⟨trivial, trivial⟩ ?_
  refine z_if_ne 1916 C (off := 15) (by decide +kernel) (by decide) (fun c => ?_) (fun c => ?_)
  · refine z_go2 C 1916 [(.goto 1396, 3)] (3312, [(6, .inl (F_M_drag n2 S1 a1 a2 a3).1), (5, .inl k0), (0, z_s), (1, z_r 0), (2, z_r 78), (3, z_r 193), (4, .inl i)], [], zW T2 (zwG G2 q2) (F_M_drag n2 S1 a1 a2 a3).2 n3, nc + 4, ns + 48) (by decide +kernel) rfl ⟨trivial, trivial⟩ ?_
    exact z_lvs (lv' := zLV i) [2, 3, 4, 5, 6] rfl (z_wid (nc' := nc + 20) (ns' := ns + 200) (zLwid (a := 4) (by decide)) (zLwid (a := 48) (by decide)) (kk _ _ _ _ _ hn2 (Nat.le_trans hn2 hle3) hfl2))
  · refine z_go2 C 1904 [(.aload_n 3, 1), (.iconst 0, 1), (.laload, 1), (.iload 6, 2), (.i2l, 1), (.lcmp, 1)] (1911, [(6, .inl (F_M_drag n2 S1 a1 a2 a3).1), (5, .inl k0), (0, z_s), (1, z_r 0), (2, z_r 78), (3, z_r 193), (4, .inl i)], [.inl (lg_cmp ((F_M_drag n2 S1 a1 a2 a3).2 193 0).toInt64 (F_M_drag n2 S1 a1 a2 a3).1.toInt64)], zW T2 (zwG G2 q2) (F_M_drag n2 S1 a1 a2 a3).2 n3, nc + 4, ns + 48) (by decide +kernel) rfl ⟨trivial, trivial, ⟨rfl, (show vp_in 0 1 by unfold vp_in; decide)⟩, trivial, trivial, trivial, trivial⟩ ?_
    refine z_if_eq 1916 C (off := 5) (by decide +kernel) (by decide) (fun c2 => ?_) (fun c2 => absurd (by rw [hs.2 c]; exact lg_cmp_self _) c2)
    refine z_go2 C 1916 [(.goto 1396, 3)] (3312, [(6, .inl (F_M_drag n2 S1 a1 a2 a3).1), (5, .inl k0), (0, z_s), (1, z_r 0), (2, z_r 78), (3, z_r 193), (4, .inl i)], [], zW T2 (zwG G2 q2) (F_M_drag n2 S1 a1 a2 a3).2 n3, nc + 4, ns + 48) (by decide +kernel) rfl ⟨trivial, trivial⟩ ?_
    exact z_lvs (lv' := zLV i) [2, 3, 4, 5, 6] rfl (z_wid (nc' := nc + 20) (ns' := ns + 200) (zLwid (a := 4) (by decide)) (zLwid (a := 48) (by decide)) (kk _ _ _ _ _ hn2 (Nat.le_trans hn2 hle3) hfl2))
def Fl_24 (fl : Nat → Nat) (S : (Nat → Nat → Int32)) (a1 a2 a3 a4 a5 a6 : Int32) : (Nat → Nat → Int32) := (F_M_type (F_L_type S ((a1.toUInt32 % 65536).toInt32)).2 ((a1.toUInt32 % 65536).toInt32)).2
def Sl_24 (fl : Nat → Nat) (S : (Nat → Nat → Int32)) (a1 a2 a3 a4 a5 a6 : Int32) : Prop := Sf_L_type S ((a1.toUInt32 % 65536).toInt32) ∧ Sf_M_type (F_L_type S ((a1.toUInt32 % 65536).toInt32)).2 ((a1.toUInt32 % 65536).toInt32) ∧ (F_M_thrown (F_M_type (F_L_type S ((a1.toUInt32 % 65536).toInt32)).2 ((a1.toUInt32 % 65536).toInt32)).2 = (F_L_type S ((a1.toUInt32 % 65536).toInt32)).1 ∧ ((F_L_type S ((a1.toUInt32 % 65536).toInt32)).1 = 0 → (F_M_type (F_L_type S ((a1.toUInt32 % 65536).toInt32)).2 ((a1.toUInt32 % 65536).toInt32)).2 193 0 = (F_M_type (F_L_type S ((a1.toUInt32 % 65536).toInt32)).2 ((a1.toUInt32 % 65536).toInt32)).1))
theorem l_24 {X : z_X} (C : z_C X zm_law) (hrm : X.2.2.2.1 = room_1) {T' : Nat → Nat × Nat} {G' : Nat → Nat → Option Nat} {n q nc ns : Nat} {fl : Nat → Nat} (S : (Nat → Nat → Int32)) (i a1 a2 a3 a4 a5 a6 : Int32) (hA : zArg X i a1 a2 a3 a4 a5 a6) (hfl : zOK T' (zwG G' q) fl n) (hnc : nc + 20 ≤ 601024) (hns : ns + 200 ≤ 7293034) (hs : Sl_24 fl S a1 a2 a3 a4 a5 a6) (kk : ∀ T2 G2 n2 q2, n ≤ n2 → zOK T2 (zwG G2 q2) fl n2 → z_G X zm_law (3312, zLV i, [], zW T2 (zwG G2 q2) (Fl_24 fl S a1 a2 a3 a4 a5 a6) n2, nc + 20, ns + 200)) : z_G X zm_law (1919, zLV i, [], zW T' (zwG G' q) S n, nc, ns) := by
  unfold Sl_24 at hs
  unfold Fl_24 at kk
  refine z_go2 C 1919 [(.aload_n 1, 1), (.aload_n 0, 1), (.iload 4, 2), (.iconst 1, 1), (.iadd, 1)] (1925, [(0, z_s), (1, z_r 0), (2, z_r 78), (3, z_r 193), (4, .inl i)], [.inl (i + 1), z_s, z_r 0], zW T' (zwG G' q) S n, nc, ns) (by decide +kernel) rfl ⟨trivial, trivial, trivial, trivial, trivial, trivial⟩ ?_
  refine z_sld (v := a1) C (by decide +kernel) hA.g1.1 hA.g1.2 ?_
  refine z_go2 C 1926 [(.i2c, 1), (.aload_n 3, 1)] (1928, [(0, z_s), (1, z_r 0), (2, z_r 78), (3, z_r 193), (4, .inl i)], [z_r 193, .inl (a1.toUInt32 % 65536).toInt32, z_r 0], zW T' (zwG G' q) S n, nc, ns) (by decide +kernel) rfl ⟨trivial, trivial, trivial⟩ ?_
  obtain ⟨hs1, hs⟩ := hs
  refine z_callH (idx := 238) (hh := hh_L_type) C (av := [z_r 0, .inl (a1.toUInt32 % 65536).toInt32, z_r 193]) (st := []) (by decide +kernel) (c_L_type T' G' q S n ((a1.toUInt32 % 65536).toInt32) hs1) hrm (z_wi 1249 (by decide +kernel) rfl) (z_wi 152 (by decide +kernel) rfl) ⟨by decide +kernel, by decide +kernel⟩ (show (parseMethodDescriptor zm_L_type.1.desc).map (fun d => d.parameters.length) = some 3 by decide +kernel) (z_wi 1247 (by decide +kernel) rfl) (z_wi 1248 (by decide +kernel) rfl) (zLfit (a := 0) (b := 0) (by decide) (by decide) (by decide) (by decide) hnc hns) rfl (Nat.le_of_ble_eq_true rfl) (fun v w' hv => ?_)
  obtain ⟨n2, q2, hn2, rfl, rfl⟩ := hv
  replace hfl := (hfl.le hn2).q q2
  obtain ⟨S1, hS1⟩ : ∃ y, (F_L_type S ((a1.toUInt32 % 65536).toInt32)).2 = y := ⟨_, rfl⟩
  rw [hS1] at hs kk ⊢
  obtain ⟨k0, hk0⟩ : ∃ y, (F_L_type S ((a1.toUInt32 % 65536).toInt32)).1 = y := ⟨_, rfl⟩
  try rw [hk0] at hs
  rw [hk0]
  show z_G X zm_law (1931, [(0, z_s), (1, z_r 0), (2, z_r 78), (3, z_r 193), (4, .inl i)], [.inl k0], zW T' (zwG G' q2) S1 n2, nc + 2, ns + 12)
  refine z_go2 C 1931 [(.istore 5, 2), (.aload_n 2, 1), (.aload_n 0, 1), (.iload 4, 2), (.iconst 1, 1), (.iadd, 1)] (1939, [(5, .inl k0), (0, z_s), (1, z_r 0), (2, z_r 78), (3, z_r 193), (4, .inl i)], [.inl (i + 1), z_s, z_r 78], zW T' (zwG G' q2) S1 n2, nc + 2, ns + 12) (by decide +kernel) rfl ⟨trivial, trivial, trivial, trivial, trivial, trivial, trivial⟩ ?_
  refine z_sld (v := a1) C (by decide +kernel) hA.g1.1 hA.g1.2 ?_
  refine z_go2 C 1940 [(.i2c, 1)] (1941, [(5, .inl k0), (0, z_s), (1, z_r 0), (2, z_r 78), (3, z_r 193), (4, .inl i)], [.inl (a1.toUInt32 % 65536).toInt32, z_r 78], zW T' (zwG G' q2) S1 n2, nc + 2, ns + 12) (by decide +kernel) rfl ⟨trivial, trivial⟩ ?_
  obtain ⟨hs1, hs⟩ := hs
  refine z_callV C (av := [.inl (a1.toUInt32 % 65536).toInt32]) (st := []) (a := 78) (ci := 14) (by decide +kernel) (c_M_type T' (zwG G' q2) S1 n2 ((a1.toUInt32 % 65536).toInt32) hs1) hrm zl_L_241 zv_M_type rfl rfl rfl (zLfit (a := 2) (b := 12) (by decide) (by decide) (by decide) (by decide) hnc hns) rfl (Nat.le_of_ble_eq_true rfl) (fun v w' hv => ?_)
  obtain ⟨rfl, rfl⟩ := hv
  show z_G X zm_law (1944, [(5, .inl k0), (0, z_s), (1, z_r 0), (2, z_r 78), (3, z_r 193), (4, .inl i)], [.inl (F_M_type S1 ((a1.toUInt32 % 65536).toInt32)).1], zW T' (zwG G' q2) (F_M_type S1 ((a1.toUInt32 % 65536).toInt32)).2 n2, nc + 2, ns + 12)
  refine z_go2 C 1944 [(.istore 6, 2), (.aload_n 2, 1)] (1947, [(6, .inl (F_M_type S1 ((a1.toUInt32 % 65536).toInt32)).1), (5, .inl k0), (0, z_s), (1, z_r 0), (2, z_r 78), (3, z_r 193), (4, .inl i)], [z_r 78], zW T' (zwG G' q2) (F_M_type S1 ((a1.toUInt32 % 65536).toInt32)).2 n2, nc + 2, ns + 12) (by decide +kernel) rfl ⟨trivial, trivial, trivial⟩ ?_
  refine z_callV C (av := []) (st := []) (a := 78) (ci := 14) (by decide +kernel) (c_M_thrown T' (zwG G' q2) (F_M_type S1 ((a1.toUInt32 % 65536).toInt32)).2 n2) hrm zl_L_156 zv_M_thrown rfl rfl rfl (zLfit (a := 2) (b := 12) (by decide) (by decide) (by decide) (by decide) hnc hns) rfl (Nat.le_of_ble_eq_true rfl) (fun v w' hv => ?_)
  obtain ⟨rfl, rfl⟩ := hv
  show z_G X zm_law (1950, [(6, .inl (F_M_type S1 ((a1.toUInt32 % 65536).toInt32)).1), (5, .inl k0), (0, z_s), (1, z_r 0), (2, z_r 78), (3, z_r 193), (4, .inl i)], [.inl (F_M_thrown (F_M_type S1 ((a1.toUInt32 % 65536).toInt32)).2)], zW T' (zwG G' q2) (F_M_type S1 ((a1.toUInt32 % 65536).toInt32)).2 n2, nc + 2, ns + 12)
  refine z_go2 C 1950 [(.iload 5, 2)] (1952, [(6, .inl (F_M_type S1 ((a1.toUInt32 % 65536).toInt32)).1), (5, .inl k0), (0, z_s), (1, z_r 0), (2, z_r 78), (3, z_r 193), (4, .inl i)], [.inl k0, .inl (F_M_thrown (F_M_type S1 ((a1.toUInt32 % 65536).toInt32)).2)], zW T' (zwG G' q2) (F_M_type S1 ((a1.toUInt32 % 65536).toInt32)).2 n2, nc + 2, ns + 12) (by decide +kernel) rfl ⟨trivial, trivial⟩ ?_
  refine z_icmp_eq 1957 C (off := 5) (by decide +kernel) (by decide) (fun c => ?_) (fun c => absurd hs.1 c)
  refine z_go2 C 1957 [(.iload 5, 2)] (1959, [(6, .inl (F_M_type S1 ((a1.toUInt32 % 65536).toInt32)).1), (5, .inl k0), (0, z_s), (1, z_r 0), (2, z_r 78), (3, z_r 193), (4, .inl i)], [.inl k0], zW T' (zwG G' q2) (F_M_type S1 ((a1.toUInt32 % 65536).toInt32)).2 n2, nc + 2, ns + 12) (by decide +kernel) rfl ⟨trivial, trivial⟩ ?_
  refine z_if_ne 1974 C (off := 15) (by decide +kernel) (by decide) (fun c => ?_) (fun c => ?_)
  · refine z_go2 C 1974 [(.goto 1338, 3)] (3312, [(6, .inl (F_M_type S1 ((a1.toUInt32 % 65536).toInt32)).1), (5, .inl k0), (0, z_s), (1, z_r 0), (2, z_r 78), (3, z_r 193), (4, .inl i)], [], zW T' (zwG G' q2) (F_M_type S1 ((a1.toUInt32 % 65536).toInt32)).2 n2, nc + 2, ns + 12) (by decide +kernel) rfl ⟨trivial, trivial⟩ ?_
    exact z_lvs (lv' := zLV i) [2, 3, 4, 5, 6] rfl (z_wid (nc' := nc + 20) (ns' := ns + 200) (zLwid (a := 2) (by decide)) (zLwid (a := 12) (by decide)) (kk _ _ _ _ hn2 hfl))
  · refine z_go2 C 1962 [(.aload_n 3, 1), (.iconst 0, 1), (.laload, 1), (.iload 6, 2), (.i2l, 1), (.lcmp, 1)] (1969, [(6, .inl (F_M_type S1 ((a1.toUInt32 % 65536).toInt32)).1), (5, .inl k0), (0, z_s), (1, z_r 0), (2, z_r 78), (3, z_r 193), (4, .inl i)], [.inl (lg_cmp ((F_M_type S1 ((a1.toUInt32 % 65536).toInt32)).2 193 0).toInt64 (F_M_type S1 ((a1.toUInt32 % 65536).toInt32)).1.toInt64)], zW T' (zwG G' q2) (F_M_type S1 ((a1.toUInt32 % 65536).toInt32)).2 n2, nc + 2, ns + 12) (by decide +kernel) rfl ⟨trivial, trivial, ⟨rfl, (show vp_in 0 1 by unfold vp_in; decide)⟩, trivial, trivial, trivial, trivial⟩ ?_
    refine z_if_eq 1974 C (off := 5) (by decide +kernel) (by decide) (fun c2 => ?_) (fun c2 => absurd (by rw [hs.2 c]; exact lg_cmp_self _) c2)
    refine z_go2 C 1974 [(.goto 1338, 3)] (3312, [(6, .inl (F_M_type S1 ((a1.toUInt32 % 65536).toInt32)).1), (5, .inl k0), (0, z_s), (1, z_r 0), (2, z_r 78), (3, z_r 193), (4, .inl i)], [], zW T' (zwG G' q2) (F_M_type S1 ((a1.toUInt32 % 65536).toInt32)).2 n2, nc + 2, ns + 12) (by decide +kernel) rfl ⟨trivial, trivial⟩ ?_
    exact z_lvs (lv' := zLV i) [2, 3, 4, 5, 6] rfl (z_wid (nc' := nc + 20) (ns' := ns + 200) (zLwid (a := 2) (by decide)) (zLwid (a := 12) (by decide)) (kk _ _ _ _ hn2 hfl))
def Fl_25 (fl : Nat → Nat) (S : (Nat → Nat → Int32)) (a1 a2 a3 a4 a5 a6 : Int32) : (Nat → Nat → Int32) := (F_M_wipe (F_T_wipe S).2).2
def Sl_25 (fl : Nat → Nat) (S : (Nat → Nat → Int32)) (a1 a2 a3 a4 a5 a6 : Int32) : Prop := (F_T_wipe S).1 = (F_M_wipe (F_T_wipe S).2).1
theorem l_25 {X : z_X} (C : z_C X zm_law) (hrm : X.2.2.2.1 = room_1) {T' : Nat → Nat × Nat} {G' : Nat → Nat → Option Nat} {n q nc ns : Nat} {fl : Nat → Nat} (S : (Nat → Nat → Int32)) (i a1 a2 a3 a4 a5 a6 : Int32) (hA : zArg X i a1 a2 a3 a4 a5 a6) (hfl : zOK T' (zwG G' q) fl n) (hnc : nc + 20 ≤ 601024) (hns : ns + 200 ≤ 7293034) (hs : Sl_25 fl S a1 a2 a3 a4 a5 a6) (kk : ∀ T2 G2 n2 q2, n ≤ n2 → zOK T2 (zwG G2 q2) fl n2 → z_G X zm_law (3312, zLV i, [], zW T2 (zwG G2 q2) (Fl_25 fl S a1 a2 a3 a4 a5 a6) n2, nc + 20, ns + 200)) : z_G X zm_law (1977, zLV i, [], zW T' (zwG G' q) S n, nc, ns) := by
  unfold Sl_25 at hs
  unfold Fl_25 at kk
  refine z_go2 C 1977 [(.aload_n 1, 1)] (1978, [(0, z_s), (1, z_r 0), (2, z_r 78), (3, z_r 193), (4, .inl i)], [z_r 0], zW T' (zwG G' q) S n, nc, ns) (by decide +kernel) rfl ⟨trivial, trivial⟩ ?_
  refine z_callV C (av := []) (st := []) (a := 0) (ci := 11) (by decide +kernel) (c_T_wipe T' (zwG G' q) S n) hrm zl_L_242 zv_T_wipe rfl rfl rfl (zLfit (a := 0) (b := 0) (by decide) (by decide) (by decide) (by decide) hnc hns) rfl (Nat.le_of_ble_eq_true rfl) (fun v w' hv => ?_)
  obtain ⟨rfl, rfl⟩ := hv
  show z_G X zm_law (1981, [(0, z_s), (1, z_r 0), (2, z_r 78), (3, z_r 193), (4, .inl i)], [.inl (F_T_wipe S).1], zW T' (zwG G' q) (F_T_wipe S).2 n, nc, ns)
  refine z_go2 C 1981 [(.aload_n 2, 1)] (1982, [(0, z_s), (1, z_r 0), (2, z_r 78), (3, z_r 193), (4, .inl i)], [z_r 78, .inl (F_T_wipe S).1], zW T' (zwG G' q) (F_T_wipe S).2 n, nc, ns) (by decide +kernel) rfl ⟨trivial, trivial⟩ ?_
  refine z_callV C (av := []) (st := [.inl (F_T_wipe S).1]) (a := 78) (ci := 14) (by decide +kernel) (c_M_wipe T' (zwG G' q) (F_T_wipe S).2 n) hrm zl_L_245 zv_M_wipe rfl rfl rfl (zLfit (a := 0) (b := 0) (by decide) (by decide) (by decide) (by decide) hnc hns) rfl (Nat.le_of_ble_eq_true rfl) (fun v w' hv => ?_)
  obtain ⟨rfl, rfl⟩ := hv
  show z_G X zm_law (1985, [(0, z_s), (1, z_r 0), (2, z_r 78), (3, z_r 193), (4, .inl i)], [.inl (F_M_wipe (F_T_wipe S).2).1, .inl (F_T_wipe S).1], zW T' (zwG G' q) (F_M_wipe (F_T_wipe S).2).2 n, nc, ns)
  refine z_icmp_eq 3312 C (off := 1327) (by decide +kernel) (by decide) (fun c => ?_) (fun c => absurd hs c)
  exact z_lvs (lv' := zLV i) [0, 1, 2, 3, 4] rfl (z_wid (nc' := nc + 20) (ns' := ns + 200) (zLwid (a := 0) (by decide)) (zLwid (a := 0) (by decide)) (kk _ _ _ _ (Nat.le_refl _) hfl))
def Fl_26 (fl : Nat → Nat) (S : (Nat → Nat → Int32)) (a1 a2 a3 a4 a5 a6 : Int32) : (Nat → Nat → Int32) := (F_M_fault (F_T_fault S).2).2
def Sl_26 (fl : Nat → Nat) (S : (Nat → Nat → Int32)) (a1 a2 a3 a4 a5 a6 : Int32) : Prop := Sf_T_fault S ∧ Sf_M_fault (F_T_fault S).2 ∧ (F_T_fault S).1 = (F_M_fault (F_T_fault S).2).1
theorem l_26 {X : z_X} (C : z_C X zm_law) (hrm : X.2.2.2.1 = room_1) {T' : Nat → Nat × Nat} {G' : Nat → Nat → Option Nat} {n q nc ns : Nat} {fl : Nat → Nat} (S : (Nat → Nat → Int32)) (i a1 a2 a3 a4 a5 a6 : Int32) (hA : zArg X i a1 a2 a3 a4 a5 a6) (hfl : zOK T' (zwG G' q) fl n) (hnc : nc + 20 ≤ 601024) (hns : ns + 200 ≤ 7293034) (hs : Sl_26 fl S a1 a2 a3 a4 a5 a6) (kk : ∀ T2 G2 n2 q2, n ≤ n2 → zOK T2 (zwG G2 q2) fl n2 → z_G X zm_law (3312, zLV i, [], zW T2 (zwG G2 q2) (Fl_26 fl S a1 a2 a3 a4 a5 a6) n2, nc + 20, ns + 200)) : z_G X zm_law (1990, zLV i, [], zW T' (zwG G' q) S n, nc, ns) := by
  unfold Sl_26 at hs
  unfold Fl_26 at kk
  refine z_go2 C 1990 [(.aload_n 1, 1)] (1991, [(0, z_s), (1, z_r 0), (2, z_r 78), (3, z_r 193), (4, .inl i)], [z_r 0], zW T' (zwG G' q) S n, nc, ns) (by decide +kernel) rfl ⟨trivial, trivial⟩ ?_
  obtain ⟨hs1, hs⟩ := hs
  refine z_callV C (av := []) (st := []) (a := 0) (ci := 11) (by decide +kernel) (c_T_fault T' (zwG G' q) S n hs1) hrm zl_L_246 zv_T_fault rfl rfl rfl (zLfit (a := 0) (b := 0) (by decide) (by decide) (by decide) (by decide) hnc hns) rfl (Nat.le_of_ble_eq_true rfl) (fun v w' hv => ?_)
  obtain ⟨rfl, rfl⟩ := hv
  show z_G X zm_law (1994, [(0, z_s), (1, z_r 0), (2, z_r 78), (3, z_r 193), (4, .inl i)], [.inl (F_T_fault S).1], zW T' (zwG G' q) (F_T_fault S).2 n, nc, ns)
  refine z_go2 C 1994 [(.aload_n 2, 1)] (1995, [(0, z_s), (1, z_r 0), (2, z_r 78), (3, z_r 193), (4, .inl i)], [z_r 78, .inl (F_T_fault S).1], zW T' (zwG G' q) (F_T_fault S).2 n, nc, ns) (by decide +kernel) rfl ⟨trivial, trivial⟩ ?_
  obtain ⟨hs1, hs⟩ := hs
  refine z_callV C (av := []) (st := [.inl (F_T_fault S).1]) (a := 78) (ci := 14) (by decide +kernel) (c_M_fault T' (zwG G' q) (F_T_fault S).2 n hs1) hrm zl_L_249 zv_M_fault rfl rfl rfl (zLfit (a := 0) (b := 0) (by decide) (by decide) (by decide) (by decide) hnc hns) rfl (Nat.le_of_ble_eq_true rfl) (fun v w' hv => ?_)
  obtain ⟨rfl, rfl⟩ := hv
  show z_G X zm_law (1998, [(0, z_s), (1, z_r 0), (2, z_r 78), (3, z_r 193), (4, .inl i)], [.inl (F_M_fault (F_T_fault S).2).1, .inl (F_T_fault S).1], zW T' (zwG G' q) (F_M_fault (F_T_fault S).2).2 n, nc, ns)
  refine z_icmp_eq 3312 C (off := 1314) (by decide +kernel) (by decide) (fun c => ?_) (fun c => absurd hs c)
  exact z_lvs (lv' := zLV i) [0, 1, 2, 3, 4] rfl (z_wid (nc' := nc + 20) (ns' := ns + 200) (zLwid (a := 0) (by decide)) (zLwid (a := 0) (by decide)) (kk _ _ _ _ (Nat.le_refl _) hfl))
def Fl_27 (fl : Nat → Nat) (S : (Nat → Nat → Int32)) (a1 a2 a3 a4 a5 a6 : Int32) : (Nat → Nat → Int32) := (F_M_count (F_L_count S a1 a2).2 a1 a2).2
def Sl_27 (fl : Nat → Nat) (S : (Nat → Nat → Int32)) (a1 a2 a3 a4 a5 a6 : Int32) : Prop := Sf_L_count S a1 a2 ∧ Sf_M_count (F_L_count S a1 a2).2 a1 a2 ∧ (F_M_thrown (F_M_count (F_L_count S a1 a2).2 a1 a2).2 = (F_L_count S a1 a2).1 ∧ ((F_L_count S a1 a2).1 = 0 → (F_M_count (F_L_count S a1 a2).2 a1 a2).2 193 0 = (F_M_count (F_L_count S a1 a2).2 a1 a2).1))
theorem l_27 {X : z_X} (C : z_C X zm_law) (hrm : X.2.2.2.1 = room_1) {T' : Nat → Nat × Nat} {G' : Nat → Nat → Option Nat} {n q nc ns : Nat} {fl : Nat → Nat} (S : (Nat → Nat → Int32)) (i a1 a2 a3 a4 a5 a6 : Int32) (hA : zArg X i a1 a2 a3 a4 a5 a6) (hfl : zOK T' (zwG G' q) fl n) (hnc : nc + 20 ≤ 601024) (hns : ns + 200 ≤ 7293034) (hs : Sl_27 fl S a1 a2 a3 a4 a5 a6) (kk : ∀ T2 G2 n2 q2, n ≤ n2 → zOK T2 (zwG G2 q2) fl n2 → z_G X zm_law (3312, zLV i, [], zW T2 (zwG G2 q2) (Fl_27 fl S a1 a2 a3 a4 a5 a6) n2, nc + 20, ns + 200)) : z_G X zm_law (2003, zLV i, [], zW T' (zwG G' q) S n, nc, ns) := by
  unfold Sl_27 at hs
  unfold Fl_27 at kk
  refine z_go2 C 2003 [(.aload_n 1, 1), (.aload_n 0, 1), (.iload 4, 2), (.iconst 1, 1), (.iadd, 1)] (2009, [(0, z_s), (1, z_r 0), (2, z_r 78), (3, z_r 193), (4, .inl i)], [.inl (i + 1), z_s, z_r 0], zW T' (zwG G' q) S n, nc, ns) (by decide +kernel) rfl ⟨trivial, trivial, trivial, trivial, trivial, trivial⟩ ?_
  refine z_sld (v := a1) C (by decide +kernel) hA.g1.1 hA.g1.2 ?_
  refine z_go2 C 2010 [(.aload_n 0, 1), (.iload 4, 2), (.iconst 2, 1), (.iadd, 1)] (2015, [(0, z_s), (1, z_r 0), (2, z_r 78), (3, z_r 193), (4, .inl i)], [.inl (i + 2), z_s, .inl a1, z_r 0], zW T' (zwG G' q) S n, nc, ns) (by decide +kernel) rfl ⟨trivial, trivial, trivial, trivial, trivial⟩ ?_
  refine z_sld (v := a2) C (by decide +kernel) hA.g2.1 hA.g2.2 ?_
  refine z_go2 C 2016 [(.aload_n 3, 1)] (2017, [(0, z_s), (1, z_r 0), (2, z_r 78), (3, z_r 193), (4, .inl i)], [z_r 193, .inl a2, .inl a1, z_r 0], zW T' (zwG G' q) S n, nc, ns) (by decide +kernel) rfl ⟨trivial, trivial⟩ ?_
  obtain ⟨hs1, hs⟩ := hs
  refine z_callH (idx := 250) (hh := hh_L_count) C (av := [z_r 0, .inl a1, .inl a2, z_r 193]) (st := []) (by decide +kernel) (c_L_count T' G' q S n a1 a2 hs1) hrm (z_wi 1260 (by decide +kernel) rfl) (z_wi 152 (by decide +kernel) rfl) ⟨by decide +kernel, by decide +kernel⟩ (show (parseMethodDescriptor zm_L_count.1.desc).map (fun d => d.parameters.length) = some 4 by decide +kernel) (z_wi 1258 (by decide +kernel) rfl) (z_wi 1259 (by decide +kernel) rfl) (zLfit (a := 0) (b := 0) (by decide) (by decide) (by decide) (by decide) hnc hns) rfl (Nat.le_of_ble_eq_true rfl) (fun v w' hv => ?_)
  obtain ⟨n2, q2, hn2, rfl, rfl⟩ := hv
  replace hfl := (hfl.le hn2).q q2
  obtain ⟨S1, hS1⟩ : ∃ y, (F_L_count S a1 a2).2 = y := ⟨_, rfl⟩
  rw [hS1] at hs kk ⊢
  obtain ⟨k0, hk0⟩ : ∃ y, (F_L_count S a1 a2).1 = y := ⟨_, rfl⟩
  try rw [hk0] at hs
  rw [hk0]
  show z_G X zm_law (2020, [(0, z_s), (1, z_r 0), (2, z_r 78), (3, z_r 193), (4, .inl i)], [.inl k0], zW T' (zwG G' q2) S1 n2, nc + 2, ns + 12)
  refine z_go2 C 2020 [(.istore 5, 2), (.aload_n 2, 1), (.aload_n 0, 1), (.iload 4, 2), (.iconst 1, 1), (.iadd, 1)] (2028, [(5, .inl k0), (0, z_s), (1, z_r 0), (2, z_r 78), (3, z_r 193), (4, .inl i)], [.inl (i + 1), z_s, z_r 78], zW T' (zwG G' q2) S1 n2, nc + 2, ns + 12) (by decide +kernel) rfl ⟨trivial, trivial, trivial, trivial, trivial, trivial, trivial⟩ ?_
  refine z_sld (v := a1) C (by decide +kernel) hA.g1.1 hA.g1.2 ?_
  refine z_go2 C 2029 [(.aload_n 0, 1), (.iload 4, 2), (.iconst 2, 1), (.iadd, 1)] (2034, [(5, .inl k0), (0, z_s), (1, z_r 0), (2, z_r 78), (3, z_r 193), (4, .inl i)], [.inl (i + 2), z_s, .inl a1, z_r 78], zW T' (zwG G' q2) S1 n2, nc + 2, ns + 12) (by decide +kernel) rfl ⟨trivial, trivial, trivial, trivial, trivial⟩ ?_
  refine z_sld (v := a2) C (by decide +kernel) hA.g2.1 hA.g2.2 ?_
  obtain ⟨hs1, hs⟩ := hs
  refine z_callV C (av := [.inl a1, .inl a2]) (st := []) (a := 78) (ci := 14) (by decide +kernel) (c_M_count T' (zwG G' q2) S1 n2 a1 a2 hs1) hrm zl_L_252 zv_M_count rfl rfl rfl (zLfit (a := 2) (b := 12) (by decide) (by decide) (by decide) (by decide) hnc hns) rfl (Nat.le_of_ble_eq_true rfl) (fun v w' hv => ?_)
  obtain ⟨rfl, rfl⟩ := hv
  show z_G X zm_law (2038, [(5, .inl k0), (0, z_s), (1, z_r 0), (2, z_r 78), (3, z_r 193), (4, .inl i)], [.inl (F_M_count S1 a1 a2).1], zW T' (zwG G' q2) (F_M_count S1 a1 a2).2 n2, nc + 2, ns + 12)
  refine z_go2 C 2038 [(.istore 6, 2), (.aload_n 2, 1)] (2041, [(6, .inl (F_M_count S1 a1 a2).1), (5, .inl k0), (0, z_s), (1, z_r 0), (2, z_r 78), (3, z_r 193), (4, .inl i)], [z_r 78], zW T' (zwG G' q2) (F_M_count S1 a1 a2).2 n2, nc + 2, ns + 12) (by decide +kernel) rfl ⟨trivial, trivial, trivial⟩ ?_
  refine z_callV C (av := []) (st := []) (a := 78) (ci := 14) (by decide +kernel) (c_M_thrown T' (zwG G' q2) (F_M_count S1 a1 a2).2 n2) hrm zl_L_156 zv_M_thrown rfl rfl rfl (zLfit (a := 2) (b := 12) (by decide) (by decide) (by decide) (by decide) hnc hns) rfl (Nat.le_of_ble_eq_true rfl) (fun v w' hv => ?_)
  obtain ⟨rfl, rfl⟩ := hv
  show z_G X zm_law (2044, [(6, .inl (F_M_count S1 a1 a2).1), (5, .inl k0), (0, z_s), (1, z_r 0), (2, z_r 78), (3, z_r 193), (4, .inl i)], [.inl (F_M_thrown (F_M_count S1 a1 a2).2)], zW T' (zwG G' q2) (F_M_count S1 a1 a2).2 n2, nc + 2, ns + 12)
  refine z_go2 C 2044 [(.iload 5, 2)] (2046, [(6, .inl (F_M_count S1 a1 a2).1), (5, .inl k0), (0, z_s), (1, z_r 0), (2, z_r 78), (3, z_r 193), (4, .inl i)], [.inl k0, .inl (F_M_thrown (F_M_count S1 a1 a2).2)], zW T' (zwG G' q2) (F_M_count S1 a1 a2).2 n2, nc + 2, ns + 12) (by decide +kernel) rfl ⟨trivial, trivial⟩ ?_
  refine z_icmp_eq 2051 C (off := 5) (by decide +kernel) (by decide) (fun c => ?_) (fun c => absurd hs.1 c)
  refine z_go2 C 2051 [(.iload 5, 2)] (2053, [(6, .inl (F_M_count S1 a1 a2).1), (5, .inl k0), (0, z_s), (1, z_r 0), (2, z_r 78), (3, z_r 193), (4, .inl i)], [.inl k0], zW T' (zwG G' q2) (F_M_count S1 a1 a2).2 n2, nc + 2, ns + 12) (by decide +kernel) rfl ⟨trivial, trivial⟩ ?_
  refine z_if_ne 2068 C (off := 15) (by decide +kernel) (by decide) (fun c => ?_) (fun c => ?_)
  · refine z_go2 C 2068 [(.goto 1244, 3)] (3312, [(6, .inl (F_M_count S1 a1 a2).1), (5, .inl k0), (0, z_s), (1, z_r 0), (2, z_r 78), (3, z_r 193), (4, .inl i)], [], zW T' (zwG G' q2) (F_M_count S1 a1 a2).2 n2, nc + 2, ns + 12) (by decide +kernel) rfl ⟨trivial, trivial⟩ ?_
    exact z_lvs (lv' := zLV i) [2, 3, 4, 5, 6] rfl (z_wid (nc' := nc + 20) (ns' := ns + 200) (zLwid (a := 2) (by decide)) (zLwid (a := 12) (by decide)) (kk _ _ _ _ hn2 hfl))
  · refine z_go2 C 2056 [(.aload_n 3, 1), (.iconst 0, 1), (.laload, 1), (.iload 6, 2), (.i2l, 1), (.lcmp, 1)] (2063, [(6, .inl (F_M_count S1 a1 a2).1), (5, .inl k0), (0, z_s), (1, z_r 0), (2, z_r 78), (3, z_r 193), (4, .inl i)], [.inl (lg_cmp ((F_M_count S1 a1 a2).2 193 0).toInt64 (F_M_count S1 a1 a2).1.toInt64)], zW T' (zwG G' q2) (F_M_count S1 a1 a2).2 n2, nc + 2, ns + 12) (by decide +kernel) rfl ⟨trivial, trivial, ⟨rfl, (show vp_in 0 1 by unfold vp_in; decide)⟩, trivial, trivial, trivial, trivial⟩ ?_
    refine z_if_eq 2068 C (off := 5) (by decide +kernel) (by decide) (fun c2 => ?_) (fun c2 => absurd (by rw [hs.2 c]; exact lg_cmp_self _) c2)
    refine z_go2 C 2068 [(.goto 1244, 3)] (3312, [(6, .inl (F_M_count S1 a1 a2).1), (5, .inl k0), (0, z_s), (1, z_r 0), (2, z_r 78), (3, z_r 193), (4, .inl i)], [], zW T' (zwG G' q2) (F_M_count S1 a1 a2).2 n2, nc + 2, ns + 12) (by decide +kernel) rfl ⟨trivial, trivial⟩ ?_
    exact z_lvs (lv' := zLV i) [2, 3, 4, 5, 6] rfl (z_wid (nc' := nc + 20) (ns' := ns + 200) (zLwid (a := 2) (by decide)) (zLwid (a := 12) (by decide)) (kk _ _ _ _ hn2 hfl))
def Fl_28 (fl : Nat → Nat) (S : (Nat → Nat → Int32)) (a1 a2 a3 a4 a5 a6 : Int32) : (Nat → Nat → Int32) := (F_M_found (F_L_found S a1 a2 a3).2 a1 a2 a3).2
def Sl_28 (fl : Nat → Nat) (S : (Nat → Nat → Int32)) (a1 a2 a3 a4 a5 a6 : Int32) : Prop := Sf_L_found S a1 a2 a3 ∧ Sf_M_found (F_L_found S a1 a2 a3).2 a1 a2 a3 ∧ (F_M_thrown (F_M_found (F_L_found S a1 a2 a3).2 a1 a2 a3).2 = (F_L_found S a1 a2 a3).1 ∧ ((F_L_found S a1 a2 a3).1 = 0 → (F_M_found (F_L_found S a1 a2 a3).2 a1 a2 a3).2 193 0 = (F_M_found (F_L_found S a1 a2 a3).2 a1 a2 a3).1))
theorem l_28 {X : z_X} (C : z_C X zm_law) (hrm : X.2.2.2.1 = room_1) {T' : Nat → Nat × Nat} {G' : Nat → Nat → Option Nat} {n q nc ns : Nat} {fl : Nat → Nat} (S : (Nat → Nat → Int32)) (i a1 a2 a3 a4 a5 a6 : Int32) (hA : zArg X i a1 a2 a3 a4 a5 a6) (hfl : zOK T' (zwG G' q) fl n) (hnc : nc + 20 ≤ 601024) (hns : ns + 200 ≤ 7293034) (hs : Sl_28 fl S a1 a2 a3 a4 a5 a6) (kk : ∀ T2 G2 n2 q2, n ≤ n2 → zOK T2 (zwG G2 q2) fl n2 → z_G X zm_law (3312, zLV i, [], zW T2 (zwG G2 q2) (Fl_28 fl S a1 a2 a3 a4 a5 a6) n2, nc + 20, ns + 200)) : z_G X zm_law (2071, zLV i, [], zW T' (zwG G' q) S n, nc, ns) := by
  unfold Sl_28 at hs
  unfold Fl_28 at kk
  refine z_go2 C 2071 [(.aload_n 1, 1), (.aload_n 0, 1), (.iload 4, 2), (.iconst 1, 1), (.iadd, 1)] (2077, [(0, z_s), (1, z_r 0), (2, z_r 78), (3, z_r 193), (4, .inl i)], [.inl (i + 1), z_s, z_r 0], zW T' (zwG G' q) S n, nc, ns) (by decide +kernel) rfl ⟨trivial, trivial, trivial, trivial, trivial, trivial⟩ ?_
  refine z_sld (v := a1) C (by decide +kernel) hA.g1.1 hA.g1.2 ?_
  refine z_go2 C 2078 [(.aload_n 0, 1), (.iload 4, 2), (.iconst 2, 1), (.iadd, 1)] (2083, [(0, z_s), (1, z_r 0), (2, z_r 78), (3, z_r 193), (4, .inl i)], [.inl (i + 2), z_s, .inl a1, z_r 0], zW T' (zwG G' q) S n, nc, ns) (by decide +kernel) rfl ⟨trivial, trivial, trivial, trivial, trivial⟩ ?_
  refine z_sld (v := a2) C (by decide +kernel) hA.g2.1 hA.g2.2 ?_
  refine z_go2 C 2084 [(.aload_n 0, 1), (.iload 4, 2), (.iconst 3, 1), (.iadd, 1)] (2089, [(0, z_s), (1, z_r 0), (2, z_r 78), (3, z_r 193), (4, .inl i)], [.inl (i + 3), z_s, .inl a2, .inl a1, z_r 0], zW T' (zwG G' q) S n, nc, ns) (by decide +kernel) rfl ⟨trivial, trivial, trivial, trivial, trivial⟩ ?_
  refine z_sld (v := a3) C (by decide +kernel) hA.g3.1 hA.g3.2 ?_
  refine z_go2 C 2090 [(.aload_n 3, 1)] (2091, [(0, z_s), (1, z_r 0), (2, z_r 78), (3, z_r 193), (4, .inl i)], [z_r 193, .inl a3, .inl a2, .inl a1, z_r 0], zW T' (zwG G' q) S n, nc, ns) (by decide +kernel) rfl ⟨trivial, trivial⟩ ?_
  obtain ⟨hs1, hs⟩ := hs
  refine z_callH (idx := 253) (hh := hh_L_found) C (av := [z_r 0, .inl a1, .inl a2, .inl a3, z_r 193]) (st := []) (by decide +kernel) (c_L_found T' G' q S n a1 a2 a3 hs1) hrm (z_wi 1344 (by decide +kernel) rfl) (z_wi 152 (by decide +kernel) rfl) ⟨by decide +kernel, by decide +kernel⟩ (show (parseMethodDescriptor zm_L_found.1.desc).map (fun d => d.parameters.length) = some 5 by decide +kernel) (z_wi 1342 (by decide +kernel) rfl) (z_wi 1343 (by decide +kernel) rfl) (zLfit (a := 0) (b := 0) (by decide) (by decide) (by decide) (by decide) hnc hns) rfl (Nat.le_of_ble_eq_true rfl) (fun v w' hv => ?_)
  obtain ⟨n2, q2, hn2, rfl, rfl⟩ := hv
  replace hfl := (hfl.le hn2).q q2
  obtain ⟨S1, hS1⟩ : ∃ y, (F_L_found S a1 a2 a3).2 = y := ⟨_, rfl⟩
  rw [hS1] at hs kk ⊢
  obtain ⟨k0, hk0⟩ : ∃ y, (F_L_found S a1 a2 a3).1 = y := ⟨_, rfl⟩
  try rw [hk0] at hs
  rw [hk0]
  show z_G X zm_law (2094, [(0, z_s), (1, z_r 0), (2, z_r 78), (3, z_r 193), (4, .inl i)], [.inl k0], zW T' (zwG G' q2) S1 n2, nc + 3, ns + 18)
  refine z_go2 C 2094 [(.istore 5, 2), (.aload_n 2, 1), (.aload_n 0, 1), (.iload 4, 2), (.iconst 1, 1), (.iadd, 1)] (2102, [(5, .inl k0), (0, z_s), (1, z_r 0), (2, z_r 78), (3, z_r 193), (4, .inl i)], [.inl (i + 1), z_s, z_r 78], zW T' (zwG G' q2) S1 n2, nc + 3, ns + 18) (by decide +kernel) rfl ⟨trivial, trivial, trivial, trivial, trivial, trivial, trivial⟩ ?_
  refine z_sld (v := a1) C (by decide +kernel) hA.g1.1 hA.g1.2 ?_
  refine z_go2 C 2103 [(.aload_n 0, 1), (.iload 4, 2), (.iconst 2, 1), (.iadd, 1)] (2108, [(5, .inl k0), (0, z_s), (1, z_r 0), (2, z_r 78), (3, z_r 193), (4, .inl i)], [.inl (i + 2), z_s, .inl a1, z_r 78], zW T' (zwG G' q2) S1 n2, nc + 3, ns + 18) (by decide +kernel) rfl ⟨trivial, trivial, trivial, trivial, trivial⟩ ?_
  refine z_sld (v := a2) C (by decide +kernel) hA.g2.1 hA.g2.2 ?_
  refine z_go2 C 2109 [(.aload_n 0, 1), (.iload 4, 2), (.iconst 3, 1), (.iadd, 1)] (2114, [(5, .inl k0), (0, z_s), (1, z_r 0), (2, z_r 78), (3, z_r 193), (4, .inl i)], [.inl (i + 3), z_s, .inl a2, .inl a1, z_r 78], zW T' (zwG G' q2) S1 n2, nc + 3, ns + 18) (by decide +kernel) rfl ⟨trivial, trivial, trivial, trivial, trivial⟩ ?_
  refine z_sld (v := a3) C (by decide +kernel) hA.g3.1 hA.g3.2 ?_
  obtain ⟨hs1, hs⟩ := hs
  refine z_callV C (av := [.inl a1, .inl a2, .inl a3]) (st := []) (a := 78) (ci := 14) (by decide +kernel) (c_M_found T' (zwG G' q2) S1 n2 a1 a2 a3 hs1) hrm zl_L_255 zv_M_found rfl rfl rfl (zLfit (a := 3) (b := 18) (by decide) (by decide) (by decide) (by decide) hnc hns) rfl (Nat.le_of_ble_eq_true rfl) (fun v w' hv => ?_)
  obtain ⟨rfl, rfl⟩ := hv
  show z_G X zm_law (2118, [(5, .inl k0), (0, z_s), (1, z_r 0), (2, z_r 78), (3, z_r 193), (4, .inl i)], [.inl (F_M_found S1 a1 a2 a3).1], zW T' (zwG G' q2) (F_M_found S1 a1 a2 a3).2 n2, nc + 3, ns + 18)
  refine z_go2 C 2118 [(.istore 6, 2), (.aload_n 2, 1)] (2121, [(6, .inl (F_M_found S1 a1 a2 a3).1), (5, .inl k0), (0, z_s), (1, z_r 0), (2, z_r 78), (3, z_r 193), (4, .inl i)], [z_r 78], zW T' (zwG G' q2) (F_M_found S1 a1 a2 a3).2 n2, nc + 3, ns + 18) (by decide +kernel) rfl ⟨trivial, trivial, trivial⟩ ?_
  refine z_callV C (av := []) (st := []) (a := 78) (ci := 14) (by decide +kernel) (c_M_thrown T' (zwG G' q2) (F_M_found S1 a1 a2 a3).2 n2) hrm zl_L_156 zv_M_thrown rfl rfl rfl (zLfit (a := 3) (b := 18) (by decide) (by decide) (by decide) (by decide) hnc hns) rfl (Nat.le_of_ble_eq_true rfl) (fun v w' hv => ?_)
  obtain ⟨rfl, rfl⟩ := hv
  show z_G X zm_law (2124, [(6, .inl (F_M_found S1 a1 a2 a3).1), (5, .inl k0), (0, z_s), (1, z_r 0), (2, z_r 78), (3, z_r 193), (4, .inl i)], [.inl (F_M_thrown (F_M_found S1 a1 a2 a3).2)], zW T' (zwG G' q2) (F_M_found S1 a1 a2 a3).2 n2, nc + 3, ns + 18)
  refine z_go2 C 2124 [(.iload 5, 2)] (2126, [(6, .inl (F_M_found S1 a1 a2 a3).1), (5, .inl k0), (0, z_s), (1, z_r 0), (2, z_r 78), (3, z_r 193), (4, .inl i)], [.inl k0, .inl (F_M_thrown (F_M_found S1 a1 a2 a3).2)], zW T' (zwG G' q2) (F_M_found S1 a1 a2 a3).2 n2, nc + 3, ns + 18) (by decide +kernel) rfl ⟨trivial, trivial⟩ ?_
  refine z_icmp_eq 2131 C (off := 5) (by decide +kernel) (by decide) (fun c => ?_) (fun c => absurd hs.1 c)
  refine z_go2 C 2131 [(.iload 5, 2)] (2133, [(6, .inl (F_M_found S1 a1 a2 a3).1), (5, .inl k0), (0, z_s), (1, z_r 0), (2, z_r 78), (3, z_r 193), (4, .inl i)], [.inl k0], zW T' (zwG G' q2) (F_M_found S1 a1 a2 a3).2 n2, nc + 3, ns + 18) (by decide +kernel) rfl ⟨trivial, trivial⟩ ?_
  refine z_if_ne 2148 C (off := 15) (by decide +kernel) (by decide) (fun c => ?_) (fun c => ?_)
  · refine z_go2 C 2148 [(.goto 1164, 3)] (3312, [(6, .inl (F_M_found S1 a1 a2 a3).1), (5, .inl k0), (0, z_s), (1, z_r 0), (2, z_r 78), (3, z_r 193), (4, .inl i)], [], zW T' (zwG G' q2) (F_M_found S1 a1 a2 a3).2 n2, nc + 3, ns + 18) (by decide +kernel) rfl ⟨trivial, trivial⟩ ?_
    exact z_lvs (lv' := zLV i) [2, 3, 4, 5, 6] rfl (z_wid (nc' := nc + 20) (ns' := ns + 200) (zLwid (a := 3) (by decide)) (zLwid (a := 18) (by decide)) (kk _ _ _ _ hn2 hfl))
  · refine z_go2 C 2136 [(.aload_n 3, 1), (.iconst 0, 1), (.laload, 1), (.iload 6, 2), (.i2l, 1), (.lcmp, 1)] (2143, [(6, .inl (F_M_found S1 a1 a2 a3).1), (5, .inl k0), (0, z_s), (1, z_r 0), (2, z_r 78), (3, z_r 193), (4, .inl i)], [.inl (lg_cmp ((F_M_found S1 a1 a2 a3).2 193 0).toInt64 (F_M_found S1 a1 a2 a3).1.toInt64)], zW T' (zwG G' q2) (F_M_found S1 a1 a2 a3).2 n2, nc + 3, ns + 18) (by decide +kernel) rfl ⟨trivial, trivial, ⟨rfl, (show vp_in 0 1 by unfold vp_in; decide)⟩, trivial, trivial, trivial, trivial⟩ ?_
    refine z_if_eq 2148 C (off := 5) (by decide +kernel) (by decide) (fun c2 => ?_) (fun c2 => absurd (by rw [hs.2 c]; exact lg_cmp_self _) c2)
    refine z_go2 C 2148 [(.goto 1164, 3)] (3312, [(6, .inl (F_M_found S1 a1 a2 a3).1), (5, .inl k0), (0, z_s), (1, z_r 0), (2, z_r 78), (3, z_r 193), (4, .inl i)], [], zW T' (zwG G' q2) (F_M_found S1 a1 a2 a3).2 n2, nc + 3, ns + 18) (by decide +kernel) rfl ⟨trivial, trivial⟩ ?_
    exact z_lvs (lv' := zLV i) [2, 3, 4, 5, 6] rfl (z_wid (nc' := nc + 20) (ns' := ns + 200) (zLwid (a := 3) (by decide)) (zLwid (a := 18) (by decide)) (kk _ _ _ _ hn2 hfl))
def Fl_29 (fl : Nat → Nat) (S : (Nat → Nat → Int32)) (a1 a2 a3 a4 a5 a6 : Int32) : (Nat → Nat → Int32) := (F_M_sum (F_L_sum S a1 a2 a3).2 a1 a2 a3).2
def Sl_29 (fl : Nat → Nat) (S : (Nat → Nat → Int32)) (a1 a2 a3 a4 a5 a6 : Int32) : Prop := Sf_L_sum S a1 a2 a3 ∧ Sf_M_sum (F_L_sum S a1 a2 a3).2 a1 a2 a3 ∧ (F_M_thrown (F_M_sum (F_L_sum S a1 a2 a3).2 a1 a2 a3).2 = (F_L_sum S a1 a2 a3).1 ∧ ((F_L_sum S a1 a2 a3).1 = 0 → (F_M_sum (F_L_sum S a1 a2 a3).2 a1 a2 a3).2 193 0 = (F_M_sum (F_L_sum S a1 a2 a3).2 a1 a2 a3).1))
theorem l_29 {X : z_X} (C : z_C X zm_law) (hrm : X.2.2.2.1 = room_1) {T' : Nat → Nat × Nat} {G' : Nat → Nat → Option Nat} {n q nc ns : Nat} {fl : Nat → Nat} (S : (Nat → Nat → Int32)) (i a1 a2 a3 a4 a5 a6 : Int32) (hA : zArg X i a1 a2 a3 a4 a5 a6) (hfl : zOK T' (zwG G' q) fl n) (hnc : nc + 20 ≤ 601024) (hns : ns + 200 ≤ 7293034) (hs : Sl_29 fl S a1 a2 a3 a4 a5 a6) (kk : ∀ T2 G2 n2 q2, n ≤ n2 → zOK T2 (zwG G2 q2) fl n2 → z_G X zm_law (3312, zLV i, [], zW T2 (zwG G2 q2) (Fl_29 fl S a1 a2 a3 a4 a5 a6) n2, nc + 20, ns + 200)) : z_G X zm_law (2151, zLV i, [], zW T' (zwG G' q) S n, nc, ns) := by
  unfold Sl_29 at hs
  unfold Fl_29 at kk
  refine z_go2 C 2151 [(.aload_n 1, 1), (.aload_n 0, 1), (.iload 4, 2), (.iconst 1, 1), (.iadd, 1)] (2157, [(0, z_s), (1, z_r 0), (2, z_r 78), (3, z_r 193), (4, .inl i)], [.inl (i + 1), z_s, z_r 0], zW T' (zwG G' q) S n, nc, ns) (by decide +kernel) rfl ⟨trivial, trivial, trivial, trivial, trivial, trivial⟩ ?_
  refine z_sld (v := a1) C (by decide +kernel) hA.g1.1 hA.g1.2 ?_
  refine z_go2 C 2158 [(.aload_n 0, 1), (.iload 4, 2), (.iconst 2, 1), (.iadd, 1)] (2163, [(0, z_s), (1, z_r 0), (2, z_r 78), (3, z_r 193), (4, .inl i)], [.inl (i + 2), z_s, .inl a1, z_r 0], zW T' (zwG G' q) S n, nc, ns) (by decide +kernel) rfl ⟨trivial, trivial, trivial, trivial, trivial⟩ ?_
  refine z_sld (v := a2) C (by decide +kernel) hA.g2.1 hA.g2.2 ?_
  refine z_go2 C 2164 [(.aload_n 0, 1), (.iload 4, 2), (.iconst 3, 1), (.iadd, 1)] (2169, [(0, z_s), (1, z_r 0), (2, z_r 78), (3, z_r 193), (4, .inl i)], [.inl (i + 3), z_s, .inl a2, .inl a1, z_r 0], zW T' (zwG G' q) S n, nc, ns) (by decide +kernel) rfl ⟨trivial, trivial, trivial, trivial, trivial⟩ ?_
  refine z_sld (v := a3) C (by decide +kernel) hA.g3.1 hA.g3.2 ?_
  refine z_go2 C 2170 [(.aload_n 3, 1)] (2171, [(0, z_s), (1, z_r 0), (2, z_r 78), (3, z_r 193), (4, .inl i)], [z_r 193, .inl a3, .inl a2, .inl a1, z_r 0], zW T' (zwG G' q) S n, nc, ns) (by decide +kernel) rfl ⟨trivial, trivial⟩ ?_
  obtain ⟨hs1, hs⟩ := hs
  refine z_callH (idx := 256) (hh := hh_L_sum) C (av := [z_r 0, .inl a1, .inl a2, .inl a3, z_r 193]) (st := []) (by decide +kernel) (c_L_sum T' G' q S n a1 a2 a3 hs1) hrm (z_wi 1351 (by decide +kernel) rfl) (z_wi 152 (by decide +kernel) rfl) ⟨by decide +kernel, by decide +kernel⟩ (show (parseMethodDescriptor zm_L_sum.1.desc).map (fun d => d.parameters.length) = some 5 by decide +kernel) (z_wi 1349 (by decide +kernel) rfl) (z_wi 1350 (by decide +kernel) rfl) (zLfit (a := 0) (b := 0) (by decide) (by decide) (by decide) (by decide) hnc hns) rfl (Nat.le_of_ble_eq_true rfl) (fun v w' hv => ?_)
  obtain ⟨n2, q2, hn2, rfl, rfl⟩ := hv
  replace hfl := (hfl.le hn2).q q2
  obtain ⟨S1, hS1⟩ : ∃ y, (F_L_sum S a1 a2 a3).2 = y := ⟨_, rfl⟩
  rw [hS1] at hs kk ⊢
  obtain ⟨k0, hk0⟩ : ∃ y, (F_L_sum S a1 a2 a3).1 = y := ⟨_, rfl⟩
  try rw [hk0] at hs
  rw [hk0]
  show z_G X zm_law (2174, [(0, z_s), (1, z_r 0), (2, z_r 78), (3, z_r 193), (4, .inl i)], [.inl k0], zW T' (zwG G' q2) S1 n2, nc + 3, ns + 18)
  refine z_go2 C 2174 [(.istore 5, 2), (.aload_n 2, 1), (.aload_n 0, 1), (.iload 4, 2), (.iconst 1, 1), (.iadd, 1)] (2182, [(5, .inl k0), (0, z_s), (1, z_r 0), (2, z_r 78), (3, z_r 193), (4, .inl i)], [.inl (i + 1), z_s, z_r 78], zW T' (zwG G' q2) S1 n2, nc + 3, ns + 18) (by decide +kernel) rfl ⟨trivial, trivial, trivial, trivial, trivial, trivial, trivial⟩ ?_
  refine z_sld (v := a1) C (by decide +kernel) hA.g1.1 hA.g1.2 ?_
  refine z_go2 C 2183 [(.aload_n 0, 1), (.iload 4, 2), (.iconst 2, 1), (.iadd, 1)] (2188, [(5, .inl k0), (0, z_s), (1, z_r 0), (2, z_r 78), (3, z_r 193), (4, .inl i)], [.inl (i + 2), z_s, .inl a1, z_r 78], zW T' (zwG G' q2) S1 n2, nc + 3, ns + 18) (by decide +kernel) rfl ⟨trivial, trivial, trivial, trivial, trivial⟩ ?_
  refine z_sld (v := a2) C (by decide +kernel) hA.g2.1 hA.g2.2 ?_
  refine z_go2 C 2189 [(.aload_n 0, 1), (.iload 4, 2), (.iconst 3, 1), (.iadd, 1)] (2194, [(5, .inl k0), (0, z_s), (1, z_r 0), (2, z_r 78), (3, z_r 193), (4, .inl i)], [.inl (i + 3), z_s, .inl a2, .inl a1, z_r 78], zW T' (zwG G' q2) S1 n2, nc + 3, ns + 18) (by decide +kernel) rfl ⟨trivial, trivial, trivial, trivial, trivial⟩ ?_
  refine z_sld (v := a3) C (by decide +kernel) hA.g3.1 hA.g3.2 ?_
  obtain ⟨hs1, hs⟩ := hs
  refine z_callV C (av := [.inl a1, .inl a2, .inl a3]) (st := []) (a := 78) (ci := 14) (by decide +kernel) (c_M_sum T' (zwG G' q2) S1 n2 a1 a2 a3 hs1) hrm zl_L_258 zv_M_sum rfl rfl rfl (zLfit (a := 3) (b := 18) (by decide) (by decide) (by decide) (by decide) hnc hns) rfl (Nat.le_of_ble_eq_true rfl) (fun v w' hv => ?_)
  obtain ⟨rfl, rfl⟩ := hv
  show z_G X zm_law (2198, [(5, .inl k0), (0, z_s), (1, z_r 0), (2, z_r 78), (3, z_r 193), (4, .inl i)], [.inl (F_M_sum S1 a1 a2 a3).1], zW T' (zwG G' q2) (F_M_sum S1 a1 a2 a3).2 n2, nc + 3, ns + 18)
  refine z_go2 C 2198 [(.istore 6, 2), (.aload_n 2, 1)] (2201, [(6, .inl (F_M_sum S1 a1 a2 a3).1), (5, .inl k0), (0, z_s), (1, z_r 0), (2, z_r 78), (3, z_r 193), (4, .inl i)], [z_r 78], zW T' (zwG G' q2) (F_M_sum S1 a1 a2 a3).2 n2, nc + 3, ns + 18) (by decide +kernel) rfl ⟨trivial, trivial, trivial⟩ ?_
  refine z_callV C (av := []) (st := []) (a := 78) (ci := 14) (by decide +kernel) (c_M_thrown T' (zwG G' q2) (F_M_sum S1 a1 a2 a3).2 n2) hrm zl_L_156 zv_M_thrown rfl rfl rfl (zLfit (a := 3) (b := 18) (by decide) (by decide) (by decide) (by decide) hnc hns) rfl (Nat.le_of_ble_eq_true rfl) (fun v w' hv => ?_)
  obtain ⟨rfl, rfl⟩ := hv
  show z_G X zm_law (2204, [(6, .inl (F_M_sum S1 a1 a2 a3).1), (5, .inl k0), (0, z_s), (1, z_r 0), (2, z_r 78), (3, z_r 193), (4, .inl i)], [.inl (F_M_thrown (F_M_sum S1 a1 a2 a3).2)], zW T' (zwG G' q2) (F_M_sum S1 a1 a2 a3).2 n2, nc + 3, ns + 18)
  refine z_go2 C 2204 [(.iload 5, 2)] (2206, [(6, .inl (F_M_sum S1 a1 a2 a3).1), (5, .inl k0), (0, z_s), (1, z_r 0), (2, z_r 78), (3, z_r 193), (4, .inl i)], [.inl k0, .inl (F_M_thrown (F_M_sum S1 a1 a2 a3).2)], zW T' (zwG G' q2) (F_M_sum S1 a1 a2 a3).2 n2, nc + 3, ns + 18) (by decide +kernel) rfl ⟨trivial, trivial⟩ ?_
  refine z_icmp_eq 2211 C (off := 5) (by decide +kernel) (by decide) (fun c => ?_) (fun c => absurd hs.1 c)
  refine z_go2 C 2211 [(.iload 5, 2)] (2213, [(6, .inl (F_M_sum S1 a1 a2 a3).1), (5, .inl k0), (0, z_s), (1, z_r 0), (2, z_r 78), (3, z_r 193), (4, .inl i)], [.inl k0], zW T' (zwG G' q2) (F_M_sum S1 a1 a2 a3).2 n2, nc + 3, ns + 18) (by decide +kernel) rfl ⟨trivial, trivial⟩ ?_
  refine z_if_ne 2228 C (off := 15) (by decide +kernel) (by decide) (fun c => ?_) (fun c => ?_)
  · refine z_go2 C 2228 [(.goto 1084, 3)] (3312, [(6, .inl (F_M_sum S1 a1 a2 a3).1), (5, .inl k0), (0, z_s), (1, z_r 0), (2, z_r 78), (3, z_r 193), (4, .inl i)], [], zW T' (zwG G' q2) (F_M_sum S1 a1 a2 a3).2 n2, nc + 3, ns + 18) (by decide +kernel) rfl ⟨trivial, trivial⟩ ?_
    exact z_lvs (lv' := zLV i) [2, 3, 4, 5, 6] rfl (z_wid (nc' := nc + 20) (ns' := ns + 200) (zLwid (a := 3) (by decide)) (zLwid (a := 18) (by decide)) (kk _ _ _ _ hn2 hfl))
  · refine z_go2 C 2216 [(.aload_n 3, 1), (.iconst 0, 1), (.laload, 1), (.iload 6, 2), (.i2l, 1), (.lcmp, 1)] (2223, [(6, .inl (F_M_sum S1 a1 a2 a3).1), (5, .inl k0), (0, z_s), (1, z_r 0), (2, z_r 78), (3, z_r 193), (4, .inl i)], [.inl (lg_cmp ((F_M_sum S1 a1 a2 a3).2 193 0).toInt64 (F_M_sum S1 a1 a2 a3).1.toInt64)], zW T' (zwG G' q2) (F_M_sum S1 a1 a2 a3).2 n2, nc + 3, ns + 18) (by decide +kernel) rfl ⟨trivial, trivial, ⟨rfl, (show vp_in 0 1 by unfold vp_in; decide)⟩, trivial, trivial, trivial, trivial⟩ ?_
    refine z_if_eq 2228 C (off := 5) (by decide +kernel) (by decide) (fun c2 => ?_) (fun c2 => absurd (by rw [hs.2 c]; exact lg_cmp_self _) c2)
    refine z_go2 C 2228 [(.goto 1084, 3)] (3312, [(6, .inl (F_M_sum S1 a1 a2 a3).1), (5, .inl k0), (0, z_s), (1, z_r 0), (2, z_r 78), (3, z_r 193), (4, .inl i)], [], zW T' (zwG G' q2) (F_M_sum S1 a1 a2 a3).2 n2, nc + 3, ns + 18) (by decide +kernel) rfl ⟨trivial, trivial⟩ ?_
    exact z_lvs (lv' := zLV i) [2, 3, 4, 5, 6] rfl (z_wid (nc' := nc + 20) (ns' := ns + 200) (zLwid (a := 3) (by decide)) (zLwid (a := 18) (by decide)) (kk _ _ _ _ hn2 hfl))
def Fl_30 (fl : Nat → Nat) (S : (Nat → Nat → Int32)) (a1 a2 a3 a4 a5 a6 : Int32) : (Nat → Nat → Int32) := (F_M_stateOn (F_L_stateOn S a1 a2).2 a1 a2).2
def Sl_30 (fl : Nat → Nat) (S : (Nat → Nat → Int32)) (a1 a2 a3 a4 a5 a6 : Int32) : Prop := Sf_L_stateOn S a1 a2 ∧ Sf_M_stateOn (F_L_stateOn S a1 a2).2 a1 a2 ∧ (F_M_thrown (F_M_stateOn (F_L_stateOn S a1 a2).2 a1 a2).2 = (F_L_stateOn S a1 a2).1 ∧ ((F_L_stateOn S a1 a2).1 = 0 → (F_M_stateOn (F_L_stateOn S a1 a2).2 a1 a2).2 193 0 = (F_M_stateOn (F_L_stateOn S a1 a2).2 a1 a2).1))
theorem l_30 {X : z_X} (C : z_C X zm_law) (hrm : X.2.2.2.1 = room_1) {T' : Nat → Nat × Nat} {G' : Nat → Nat → Option Nat} {n q nc ns : Nat} {fl : Nat → Nat} (S : (Nat → Nat → Int32)) (i a1 a2 a3 a4 a5 a6 : Int32) (hA : zArg X i a1 a2 a3 a4 a5 a6) (hfl : zOK T' (zwG G' q) fl n) (hnc : nc + 20 ≤ 601024) (hns : ns + 200 ≤ 7293034) (hs : Sl_30 fl S a1 a2 a3 a4 a5 a6) (kk : ∀ T2 G2 n2 q2, n ≤ n2 → zOK T2 (zwG G2 q2) fl n2 → z_G X zm_law (3312, zLV i, [], zW T2 (zwG G2 q2) (Fl_30 fl S a1 a2 a3 a4 a5 a6) n2, nc + 20, ns + 200)) : z_G X zm_law (2231, zLV i, [], zW T' (zwG G' q) S n, nc, ns) := by
  unfold Sl_30 at hs
  unfold Fl_30 at kk
  refine z_go2 C 2231 [(.aload_n 1, 1), (.aload_n 0, 1), (.iload 4, 2), (.iconst 1, 1), (.iadd, 1)] (2237, [(0, z_s), (1, z_r 0), (2, z_r 78), (3, z_r 193), (4, .inl i)], [.inl (i + 1), z_s, z_r 0], zW T' (zwG G' q) S n, nc, ns) (by decide +kernel) rfl ⟨trivial, trivial, trivial, trivial, trivial, trivial⟩ ?_
  refine z_sld (v := a1) C (by decide +kernel) hA.g1.1 hA.g1.2 ?_
  refine z_go2 C 2238 [(.aload_n 0, 1), (.iload 4, 2), (.iconst 2, 1), (.iadd, 1)] (2243, [(0, z_s), (1, z_r 0), (2, z_r 78), (3, z_r 193), (4, .inl i)], [.inl (i + 2), z_s, .inl a1, z_r 0], zW T' (zwG G' q) S n, nc, ns) (by decide +kernel) rfl ⟨trivial, trivial, trivial, trivial, trivial⟩ ?_
  refine z_sld (v := a2) C (by decide +kernel) hA.g2.1 hA.g2.2 ?_
  refine z_go2 C 2244 [(.aload_n 3, 1)] (2245, [(0, z_s), (1, z_r 0), (2, z_r 78), (3, z_r 193), (4, .inl i)], [z_r 193, .inl a2, .inl a1, z_r 0], zW T' (zwG G' q) S n, nc, ns) (by decide +kernel) rfl ⟨trivial, trivial⟩ ?_
  obtain ⟨hs1, hs⟩ := hs
  refine z_callH (idx := 259) (hh := hh_L_stateOn) C (av := [z_r 0, .inl a1, .inl a2, z_r 193]) (st := []) (by decide +kernel) (c_L_stateOn T' G' q S n a1 a2 hs1) hrm (z_wi 1363 (by decide +kernel) rfl) (z_wi 152 (by decide +kernel) rfl) ⟨by decide +kernel, by decide +kernel⟩ (show (parseMethodDescriptor zm_L_stateOn.1.desc).map (fun d => d.parameters.length) = some 4 by decide +kernel) (z_wi 1361 (by decide +kernel) rfl) (z_wi 1362 (by decide +kernel) rfl) (zLfit (a := 0) (b := 0) (by decide) (by decide) (by decide) (by decide) hnc hns) rfl (Nat.le_of_ble_eq_true rfl) (fun v w' hv => ?_)
  obtain ⟨n2, q2, hn2, rfl, rfl⟩ := hv
  replace hfl := (hfl.le hn2).q q2
  obtain ⟨S1, hS1⟩ : ∃ y, (F_L_stateOn S a1 a2).2 = y := ⟨_, rfl⟩
  rw [hS1] at hs kk ⊢
  obtain ⟨k0, hk0⟩ : ∃ y, (F_L_stateOn S a1 a2).1 = y := ⟨_, rfl⟩
  try rw [hk0] at hs
  rw [hk0]
  show z_G X zm_law (2248, [(0, z_s), (1, z_r 0), (2, z_r 78), (3, z_r 193), (4, .inl i)], [.inl k0], zW T' (zwG G' q2) S1 n2, nc + 1, ns + 6)
  refine z_go2 C 2248 [(.istore 5, 2), (.aload_n 2, 1), (.aload_n 0, 1), (.iload 4, 2), (.iconst 1, 1), (.iadd, 1)] (2256, [(5, .inl k0), (0, z_s), (1, z_r 0), (2, z_r 78), (3, z_r 193), (4, .inl i)], [.inl (i + 1), z_s, z_r 78], zW T' (zwG G' q2) S1 n2, nc + 1, ns + 6) (by decide +kernel) rfl ⟨trivial, trivial, trivial, trivial, trivial, trivial, trivial⟩ ?_
  refine z_sld (v := a1) C (by decide +kernel) hA.g1.1 hA.g1.2 ?_
  refine z_go2 C 2257 [(.aload_n 0, 1), (.iload 4, 2), (.iconst 2, 1), (.iadd, 1)] (2262, [(5, .inl k0), (0, z_s), (1, z_r 0), (2, z_r 78), (3, z_r 193), (4, .inl i)], [.inl (i + 2), z_s, .inl a1, z_r 78], zW T' (zwG G' q2) S1 n2, nc + 1, ns + 6) (by decide +kernel) rfl ⟨trivial, trivial, trivial, trivial, trivial⟩ ?_
  refine z_sld (v := a2) C (by decide +kernel) hA.g2.1 hA.g2.2 ?_
  obtain ⟨hs1, hs⟩ := hs
  refine z_callV C (av := [.inl a1, .inl a2]) (st := []) (a := 78) (ci := 14) (by decide +kernel) (c_M_stateOn T' (zwG G' q2) S1 n2 a1 a2 hs1) hrm zl_L_261 zv_M_stateOn rfl rfl rfl (zLfit (a := 1) (b := 6) (by decide) (by decide) (by decide) (by decide) hnc hns) rfl (Nat.le_of_ble_eq_true rfl) (fun v w' hv => ?_)
  obtain ⟨rfl, rfl⟩ := hv
  show z_G X zm_law (2266, [(5, .inl k0), (0, z_s), (1, z_r 0), (2, z_r 78), (3, z_r 193), (4, .inl i)], [.inl (F_M_stateOn S1 a1 a2).1], zW T' (zwG G' q2) (F_M_stateOn S1 a1 a2).2 n2, nc + 1, ns + 6)
  refine z_go2 C 2266 [(.istore 6, 2), (.aload_n 2, 1)] (2269, [(6, .inl (F_M_stateOn S1 a1 a2).1), (5, .inl k0), (0, z_s), (1, z_r 0), (2, z_r 78), (3, z_r 193), (4, .inl i)], [z_r 78], zW T' (zwG G' q2) (F_M_stateOn S1 a1 a2).2 n2, nc + 1, ns + 6) (by decide +kernel) rfl ⟨trivial, trivial, trivial⟩ ?_
  refine z_callV C (av := []) (st := []) (a := 78) (ci := 14) (by decide +kernel) (c_M_thrown T' (zwG G' q2) (F_M_stateOn S1 a1 a2).2 n2) hrm zl_L_156 zv_M_thrown rfl rfl rfl (zLfit (a := 1) (b := 6) (by decide) (by decide) (by decide) (by decide) hnc hns) rfl (Nat.le_of_ble_eq_true rfl) (fun v w' hv => ?_)
  obtain ⟨rfl, rfl⟩ := hv
  show z_G X zm_law (2272, [(6, .inl (F_M_stateOn S1 a1 a2).1), (5, .inl k0), (0, z_s), (1, z_r 0), (2, z_r 78), (3, z_r 193), (4, .inl i)], [.inl (F_M_thrown (F_M_stateOn S1 a1 a2).2)], zW T' (zwG G' q2) (F_M_stateOn S1 a1 a2).2 n2, nc + 1, ns + 6)
  refine z_go2 C 2272 [(.iload 5, 2)] (2274, [(6, .inl (F_M_stateOn S1 a1 a2).1), (5, .inl k0), (0, z_s), (1, z_r 0), (2, z_r 78), (3, z_r 193), (4, .inl i)], [.inl k0, .inl (F_M_thrown (F_M_stateOn S1 a1 a2).2)], zW T' (zwG G' q2) (F_M_stateOn S1 a1 a2).2 n2, nc + 1, ns + 6) (by decide +kernel) rfl ⟨trivial, trivial⟩ ?_
  refine z_icmp_eq 2279 C (off := 5) (by decide +kernel) (by decide) (fun c => ?_) (fun c => absurd hs.1 c)
  refine z_go2 C 2279 [(.iload 5, 2)] (2281, [(6, .inl (F_M_stateOn S1 a1 a2).1), (5, .inl k0), (0, z_s), (1, z_r 0), (2, z_r 78), (3, z_r 193), (4, .inl i)], [.inl k0], zW T' (zwG G' q2) (F_M_stateOn S1 a1 a2).2 n2, nc + 1, ns + 6) (by decide +kernel) rfl ⟨trivial, trivial⟩ ?_
  refine z_if_ne 2296 C (off := 15) (by decide +kernel) (by decide) (fun c => ?_) (fun c => ?_)
  · refine z_go2 C 2296 [(.goto 1016, 3)] (3312, [(6, .inl (F_M_stateOn S1 a1 a2).1), (5, .inl k0), (0, z_s), (1, z_r 0), (2, z_r 78), (3, z_r 193), (4, .inl i)], [], zW T' (zwG G' q2) (F_M_stateOn S1 a1 a2).2 n2, nc + 1, ns + 6) (by decide +kernel) rfl ⟨trivial, trivial⟩ ?_
    exact z_lvs (lv' := zLV i) [2, 3, 4, 5, 6] rfl (z_wid (nc' := nc + 20) (ns' := ns + 200) (zLwid (a := 1) (by decide)) (zLwid (a := 6) (by decide)) (kk _ _ _ _ hn2 hfl))
  · refine z_go2 C 2284 [(.aload_n 3, 1), (.iconst 0, 1), (.laload, 1), (.iload 6, 2), (.i2l, 1), (.lcmp, 1)] (2291, [(6, .inl (F_M_stateOn S1 a1 a2).1), (5, .inl k0), (0, z_s), (1, z_r 0), (2, z_r 78), (3, z_r 193), (4, .inl i)], [.inl (lg_cmp ((F_M_stateOn S1 a1 a2).2 193 0).toInt64 (F_M_stateOn S1 a1 a2).1.toInt64)], zW T' (zwG G' q2) (F_M_stateOn S1 a1 a2).2 n2, nc + 1, ns + 6) (by decide +kernel) rfl ⟨trivial, trivial, ⟨rfl, (show vp_in 0 1 by unfold vp_in; decide)⟩, trivial, trivial, trivial, trivial⟩ ?_
    refine z_if_eq 2296 C (off := 5) (by decide +kernel) (by decide) (fun c2 => ?_) (fun c2 => absurd (by rw [hs.2 c]; exact lg_cmp_self _) c2)
    refine z_go2 C 2296 [(.goto 1016, 3)] (3312, [(6, .inl (F_M_stateOn S1 a1 a2).1), (5, .inl k0), (0, z_s), (1, z_r 0), (2, z_r 78), (3, z_r 193), (4, .inl i)], [], zW T' (zwG G' q2) (F_M_stateOn S1 a1 a2).2 n2, nc + 1, ns + 6) (by decide +kernel) rfl ⟨trivial, trivial⟩ ?_
    exact z_lvs (lv' := zLV i) [2, 3, 4, 5, 6] rfl (z_wid (nc' := nc + 20) (ns' := ns + 200) (zLwid (a := 1) (by decide)) (zLwid (a := 6) (by decide)) (kk _ _ _ _ hn2 hfl))
def Fl_31 (fl : Nat → Nat) (S : (Nat → Nat → Int32)) (a1 a2 a3 a4 a5 a6 : Int32) : (Nat → Nat → Int32) := (F_M_stateOnAnew (F_L_stateOnAnew S a1 a2).2 a1 a2).2
def Sl_31 (fl : Nat → Nat) (S : (Nat → Nat → Int32)) (a1 a2 a3 a4 a5 a6 : Int32) : Prop := Sf_L_stateOnAnew S a1 a2 ∧ Sf_M_stateOnAnew (F_L_stateOnAnew S a1 a2).2 a1 a2 ∧ (F_M_thrown (F_M_stateOnAnew (F_L_stateOnAnew S a1 a2).2 a1 a2).2 = (F_L_stateOnAnew S a1 a2).1 ∧ ((F_L_stateOnAnew S a1 a2).1 = 0 → (F_M_stateOnAnew (F_L_stateOnAnew S a1 a2).2 a1 a2).2 193 0 = (F_M_stateOnAnew (F_L_stateOnAnew S a1 a2).2 a1 a2).1))
theorem l_31 {X : z_X} (C : z_C X zm_law) (hrm : X.2.2.2.1 = room_1) {T' : Nat → Nat × Nat} {G' : Nat → Nat → Option Nat} {n q nc ns : Nat} {fl : Nat → Nat} (S : (Nat → Nat → Int32)) (i a1 a2 a3 a4 a5 a6 : Int32) (hA : zArg X i a1 a2 a3 a4 a5 a6) (hfl : zOK T' (zwG G' q) fl n) (hnc : nc + 20 ≤ 601024) (hns : ns + 200 ≤ 7293034) (hs : Sl_31 fl S a1 a2 a3 a4 a5 a6) (kk : ∀ T2 G2 n2 q2, n ≤ n2 → zOK T2 (zwG G2 q2) fl n2 → z_G X zm_law (3312, zLV i, [], zW T2 (zwG G2 q2) (Fl_31 fl S a1 a2 a3 a4 a5 a6) n2, nc + 20, ns + 200)) : z_G X zm_law (2299, zLV i, [], zW T' (zwG G' q) S n, nc, ns) := by
  unfold Sl_31 at hs
  unfold Fl_31 at kk
  refine z_go2 C 2299 [(.aload_n 1, 1), (.aload_n 0, 1), (.iload 4, 2), (.iconst 1, 1), (.iadd, 1)] (2305, [(0, z_s), (1, z_r 0), (2, z_r 78), (3, z_r 193), (4, .inl i)], [.inl (i + 1), z_s, z_r 0], zW T' (zwG G' q) S n, nc, ns) (by decide +kernel) rfl ⟨trivial, trivial, trivial, trivial, trivial, trivial⟩ ?_
  refine z_sld (v := a1) C (by decide +kernel) hA.g1.1 hA.g1.2 ?_
  refine z_go2 C 2306 [(.aload_n 0, 1), (.iload 4, 2), (.iconst 2, 1), (.iadd, 1)] (2311, [(0, z_s), (1, z_r 0), (2, z_r 78), (3, z_r 193), (4, .inl i)], [.inl (i + 2), z_s, .inl a1, z_r 0], zW T' (zwG G' q) S n, nc, ns) (by decide +kernel) rfl ⟨trivial, trivial, trivial, trivial, trivial⟩ ?_
  refine z_sld (v := a2) C (by decide +kernel) hA.g2.1 hA.g2.2 ?_
  refine z_go2 C 2312 [(.aload_n 3, 1)] (2313, [(0, z_s), (1, z_r 0), (2, z_r 78), (3, z_r 193), (4, .inl i)], [z_r 193, .inl a2, .inl a1, z_r 0], zW T' (zwG G' q) S n, nc, ns) (by decide +kernel) rfl ⟨trivial, trivial⟩ ?_
  obtain ⟨hs1, hs⟩ := hs
  refine z_callH (idx := 262) (hh := hh_L_stateOnAnew) C (av := [z_r 0, .inl a1, .inl a2, z_r 193]) (st := []) (by decide +kernel) (c_L_stateOnAnew T' G' q S n a1 a2 hs1) hrm (z_wi 1370 (by decide +kernel) rfl) (z_wi 152 (by decide +kernel) rfl) ⟨by decide +kernel, by decide +kernel⟩ (show (parseMethodDescriptor zm_L_stateOnAnew.1.desc).map (fun d => d.parameters.length) = some 4 by decide +kernel) (z_wi 1368 (by decide +kernel) rfl) (z_wi 1369 (by decide +kernel) rfl) (zLfit (a := 0) (b := 0) (by decide) (by decide) (by decide) (by decide) hnc hns) rfl (Nat.le_of_ble_eq_true rfl) (fun v w' hv => ?_)
  obtain ⟨n2, q2, hn2, rfl, rfl⟩ := hv
  replace hfl := (hfl.le hn2).q q2
  obtain ⟨S1, hS1⟩ : ∃ y, (F_L_stateOnAnew S a1 a2).2 = y := ⟨_, rfl⟩
  rw [hS1] at hs kk ⊢
  obtain ⟨k0, hk0⟩ : ∃ y, (F_L_stateOnAnew S a1 a2).1 = y := ⟨_, rfl⟩
  try rw [hk0] at hs
  rw [hk0]
  show z_G X zm_law (2316, [(0, z_s), (1, z_r 0), (2, z_r 78), (3, z_r 193), (4, .inl i)], [.inl k0], zW T' (zwG G' q2) S1 n2, nc + 1, ns + 6)
  refine z_go2 C 2316 [(.istore 5, 2), (.aload_n 2, 1), (.aload_n 0, 1), (.iload 4, 2), (.iconst 1, 1), (.iadd, 1)] (2324, [(5, .inl k0), (0, z_s), (1, z_r 0), (2, z_r 78), (3, z_r 193), (4, .inl i)], [.inl (i + 1), z_s, z_r 78], zW T' (zwG G' q2) S1 n2, nc + 1, ns + 6) (by decide +kernel) rfl ⟨trivial, trivial, trivial, trivial, trivial, trivial, trivial⟩ ?_
  refine z_sld (v := a1) C (by decide +kernel) hA.g1.1 hA.g1.2 ?_
  refine z_go2 C 2325 [(.aload_n 0, 1), (.iload 4, 2), (.iconst 2, 1), (.iadd, 1)] (2330, [(5, .inl k0), (0, z_s), (1, z_r 0), (2, z_r 78), (3, z_r 193), (4, .inl i)], [.inl (i + 2), z_s, .inl a1, z_r 78], zW T' (zwG G' q2) S1 n2, nc + 1, ns + 6) (by decide +kernel) rfl ⟨trivial, trivial, trivial, trivial, trivial⟩ ?_
  refine z_sld (v := a2) C (by decide +kernel) hA.g2.1 hA.g2.2 ?_
  obtain ⟨hs1, hs⟩ := hs
  refine z_callV C (av := [.inl a1, .inl a2]) (st := []) (a := 78) (ci := 14) (by decide +kernel) (c_M_stateOnAnew T' (zwG G' q2) S1 n2 a1 a2 hs1) hrm zl_L_264 zv_M_stateOnAnew rfl rfl rfl (zLfit (a := 1) (b := 6) (by decide) (by decide) (by decide) (by decide) hnc hns) rfl (Nat.le_of_ble_eq_true rfl) (fun v w' hv => ?_)
  obtain ⟨rfl, rfl⟩ := hv
  show z_G X zm_law (2334, [(5, .inl k0), (0, z_s), (1, z_r 0), (2, z_r 78), (3, z_r 193), (4, .inl i)], [.inl (F_M_stateOnAnew S1 a1 a2).1], zW T' (zwG G' q2) (F_M_stateOnAnew S1 a1 a2).2 n2, nc + 1, ns + 6)
  refine z_go2 C 2334 [(.istore 6, 2), (.aload_n 2, 1)] (2337, [(6, .inl (F_M_stateOnAnew S1 a1 a2).1), (5, .inl k0), (0, z_s), (1, z_r 0), (2, z_r 78), (3, z_r 193), (4, .inl i)], [z_r 78], zW T' (zwG G' q2) (F_M_stateOnAnew S1 a1 a2).2 n2, nc + 1, ns + 6) (by decide +kernel) rfl ⟨trivial, trivial, trivial⟩ ?_
  refine z_callV C (av := []) (st := []) (a := 78) (ci := 14) (by decide +kernel) (c_M_thrown T' (zwG G' q2) (F_M_stateOnAnew S1 a1 a2).2 n2) hrm zl_L_156 zv_M_thrown rfl rfl rfl (zLfit (a := 1) (b := 6) (by decide) (by decide) (by decide) (by decide) hnc hns) rfl (Nat.le_of_ble_eq_true rfl) (fun v w' hv => ?_)
  obtain ⟨rfl, rfl⟩ := hv
  show z_G X zm_law (2340, [(6, .inl (F_M_stateOnAnew S1 a1 a2).1), (5, .inl k0), (0, z_s), (1, z_r 0), (2, z_r 78), (3, z_r 193), (4, .inl i)], [.inl (F_M_thrown (F_M_stateOnAnew S1 a1 a2).2)], zW T' (zwG G' q2) (F_M_stateOnAnew S1 a1 a2).2 n2, nc + 1, ns + 6)
  refine z_go2 C 2340 [(.iload 5, 2)] (2342, [(6, .inl (F_M_stateOnAnew S1 a1 a2).1), (5, .inl k0), (0, z_s), (1, z_r 0), (2, z_r 78), (3, z_r 193), (4, .inl i)], [.inl k0, .inl (F_M_thrown (F_M_stateOnAnew S1 a1 a2).2)], zW T' (zwG G' q2) (F_M_stateOnAnew S1 a1 a2).2 n2, nc + 1, ns + 6) (by decide +kernel) rfl ⟨trivial, trivial⟩ ?_
  refine z_icmp_eq 2347 C (off := 5) (by decide +kernel) (by decide) (fun c => ?_) (fun c => absurd hs.1 c)
  refine z_go2 C 2347 [(.iload 5, 2)] (2349, [(6, .inl (F_M_stateOnAnew S1 a1 a2).1), (5, .inl k0), (0, z_s), (1, z_r 0), (2, z_r 78), (3, z_r 193), (4, .inl i)], [.inl k0], zW T' (zwG G' q2) (F_M_stateOnAnew S1 a1 a2).2 n2, nc + 1, ns + 6) (by decide +kernel) rfl ⟨trivial, trivial⟩ ?_
  refine z_if_ne 2364 C (off := 15) (by decide +kernel) (by decide) (fun c => ?_) (fun c => ?_)
  · refine z_go2 C 2364 [(.goto 948, 3)] (3312, [(6, .inl (F_M_stateOnAnew S1 a1 a2).1), (5, .inl k0), (0, z_s), (1, z_r 0), (2, z_r 78), (3, z_r 193), (4, .inl i)], [], zW T' (zwG G' q2) (F_M_stateOnAnew S1 a1 a2).2 n2, nc + 1, ns + 6) (by decide +kernel) rfl ⟨trivial, trivial⟩ ?_
    exact z_lvs (lv' := zLV i) [2, 3, 4, 5, 6] rfl (z_wid (nc' := nc + 20) (ns' := ns + 200) (zLwid (a := 1) (by decide)) (zLwid (a := 6) (by decide)) (kk _ _ _ _ hn2 hfl))
  · refine z_go2 C 2352 [(.aload_n 3, 1), (.iconst 0, 1), (.laload, 1), (.iload 6, 2), (.i2l, 1), (.lcmp, 1)] (2359, [(6, .inl (F_M_stateOnAnew S1 a1 a2).1), (5, .inl k0), (0, z_s), (1, z_r 0), (2, z_r 78), (3, z_r 193), (4, .inl i)], [.inl (lg_cmp ((F_M_stateOnAnew S1 a1 a2).2 193 0).toInt64 (F_M_stateOnAnew S1 a1 a2).1.toInt64)], zW T' (zwG G' q2) (F_M_stateOnAnew S1 a1 a2).2 n2, nc + 1, ns + 6) (by decide +kernel) rfl ⟨trivial, trivial, ⟨rfl, (show vp_in 0 1 by unfold vp_in; decide)⟩, trivial, trivial, trivial, trivial⟩ ?_
    refine z_if_eq 2364 C (off := 5) (by decide +kernel) (by decide) (fun c2 => ?_) (fun c2 => absurd (by rw [hs.2 c]; exact lg_cmp_self _) c2)
    refine z_go2 C 2364 [(.goto 948, 3)] (3312, [(6, .inl (F_M_stateOnAnew S1 a1 a2).1), (5, .inl k0), (0, z_s), (1, z_r 0), (2, z_r 78), (3, z_r 193), (4, .inl i)], [], zW T' (zwG G' q2) (F_M_stateOnAnew S1 a1 a2).2 n2, nc + 1, ns + 6) (by decide +kernel) rfl ⟨trivial, trivial⟩ ?_
    exact z_lvs (lv' := zLV i) [2, 3, 4, 5, 6] rfl (z_wid (nc' := nc + 20) (ns' := ns + 200) (zLwid (a := 1) (by decide)) (zLwid (a := 6) (by decide)) (kk _ _ _ _ hn2 hfl))
def Fl_32 (fl : Nat → Nat) (S : (Nat → Nat → Int32)) (a1 a2 a3 a4 a5 a6 : Int32) : (Nat → Nat → Int32) := (F_M_field (F_L_field S a1 a2 a3).2 a1 a2 a3).2
def Sl_32 (fl : Nat → Nat) (S : (Nat → Nat → Int32)) (a1 a2 a3 a4 a5 a6 : Int32) : Prop := Sf_L_field S a1 a2 a3 ∧ Sf_M_field (F_L_field S a1 a2 a3).2 a1 a2 a3 ∧ (F_M_thrown (F_M_field (F_L_field S a1 a2 a3).2 a1 a2 a3).2 = (F_L_field S a1 a2 a3).1 ∧ ((F_L_field S a1 a2 a3).1 = 0 → (F_M_field (F_L_field S a1 a2 a3).2 a1 a2 a3).2 193 0 = (F_M_field (F_L_field S a1 a2 a3).2 a1 a2 a3).1))
theorem l_32 {X : z_X} (C : z_C X zm_law) (hrm : X.2.2.2.1 = room_1) {T' : Nat → Nat × Nat} {G' : Nat → Nat → Option Nat} {n q nc ns : Nat} {fl : Nat → Nat} (S : (Nat → Nat → Int32)) (i a1 a2 a3 a4 a5 a6 : Int32) (hA : zArg X i a1 a2 a3 a4 a5 a6) (hfl : zOK T' (zwG G' q) fl n) (hnc : nc + 20 ≤ 601024) (hns : ns + 200 ≤ 7293034) (hs : Sl_32 fl S a1 a2 a3 a4 a5 a6) (kk : ∀ T2 G2 n2 q2, n ≤ n2 → zOK T2 (zwG G2 q2) fl n2 → z_G X zm_law (3312, zLV i, [], zW T2 (zwG G2 q2) (Fl_32 fl S a1 a2 a3 a4 a5 a6) n2, nc + 20, ns + 200)) : z_G X zm_law (2367, zLV i, [], zW T' (zwG G' q) S n, nc, ns) := by
  unfold Sl_32 at hs
  unfold Fl_32 at kk
  refine z_go2 C 2367 [(.aload_n 1, 1), (.aload_n 0, 1), (.iload 4, 2), (.iconst 1, 1), (.iadd, 1)] (2373, [(0, z_s), (1, z_r 0), (2, z_r 78), (3, z_r 193), (4, .inl i)], [.inl (i + 1), z_s, z_r 0], zW T' (zwG G' q) S n, nc, ns) (by decide +kernel) rfl ⟨trivial, trivial, trivial, trivial, trivial, trivial⟩ ?_
  refine z_sld (v := a1) C (by decide +kernel) hA.g1.1 hA.g1.2 ?_
  refine z_go2 C 2374 [(.aload_n 0, 1), (.iload 4, 2), (.iconst 2, 1), (.iadd, 1)] (2379, [(0, z_s), (1, z_r 0), (2, z_r 78), (3, z_r 193), (4, .inl i)], [.inl (i + 2), z_s, .inl a1, z_r 0], zW T' (zwG G' q) S n, nc, ns) (by decide +kernel) rfl ⟨trivial, trivial, trivial, trivial, trivial⟩ ?_
  refine z_sld (v := a2) C (by decide +kernel) hA.g2.1 hA.g2.2 ?_
  refine z_go2 C 2380 [(.aload_n 0, 1), (.iload 4, 2), (.iconst 3, 1), (.iadd, 1)] (2385, [(0, z_s), (1, z_r 0), (2, z_r 78), (3, z_r 193), (4, .inl i)], [.inl (i + 3), z_s, .inl a2, .inl a1, z_r 0], zW T' (zwG G' q) S n, nc, ns) (by decide +kernel) rfl ⟨trivial, trivial, trivial, trivial, trivial⟩ ?_
  refine z_sld (v := a3) C (by decide +kernel) hA.g3.1 hA.g3.2 ?_
  refine z_go2 C 2386 [(.aload_n 3, 1)] (2387, [(0, z_s), (1, z_r 0), (2, z_r 78), (3, z_r 193), (4, .inl i)], [z_r 193, .inl a3, .inl a2, .inl a1, z_r 0], zW T' (zwG G' q) S n, nc, ns) (by decide +kernel) rfl ⟨trivial, trivial⟩ ?_
  obtain ⟨hs1, hs⟩ := hs
  refine z_callH (idx := 265) (hh := hh_L_field) C (av := [z_r 0, .inl a1, .inl a2, .inl a3, z_r 193]) (st := []) (by decide +kernel) (c_L_field T' G' q S n a1 a2 a3 hs1) hrm (z_wi 1377 (by decide +kernel) rfl) (z_wi 152 (by decide +kernel) rfl) ⟨by decide +kernel, by decide +kernel⟩ (show (parseMethodDescriptor zm_L_field.1.desc).map (fun d => d.parameters.length) = some 5 by decide +kernel) (z_wi 1375 (by decide +kernel) rfl) (z_wi 1376 (by decide +kernel) rfl) (zLfit (a := 0) (b := 0) (by decide) (by decide) (by decide) (by decide) hnc hns) rfl (Nat.le_of_ble_eq_true rfl) (fun v w' hv => ?_)
  obtain ⟨n2, q2, hn2, rfl, rfl⟩ := hv
  replace hfl := (hfl.le hn2).q q2
  obtain ⟨S1, hS1⟩ : ∃ y, (F_L_field S a1 a2 a3).2 = y := ⟨_, rfl⟩
  rw [hS1] at hs kk ⊢
  obtain ⟨k0, hk0⟩ : ∃ y, (F_L_field S a1 a2 a3).1 = y := ⟨_, rfl⟩
  try rw [hk0] at hs
  rw [hk0]
  show z_G X zm_law (2390, [(0, z_s), (1, z_r 0), (2, z_r 78), (3, z_r 193), (4, .inl i)], [.inl k0], zW T' (zwG G' q2) S1 n2, nc + 2, ns + 12)
  refine z_go2 C 2390 [(.istore 5, 2), (.aload_n 2, 1), (.aload_n 0, 1), (.iload 4, 2), (.iconst 1, 1), (.iadd, 1)] (2398, [(5, .inl k0), (0, z_s), (1, z_r 0), (2, z_r 78), (3, z_r 193), (4, .inl i)], [.inl (i + 1), z_s, z_r 78], zW T' (zwG G' q2) S1 n2, nc + 2, ns + 12) (by decide +kernel) rfl ⟨trivial, trivial, trivial, trivial, trivial, trivial, trivial⟩ ?_
  refine z_sld (v := a1) C (by decide +kernel) hA.g1.1 hA.g1.2 ?_
  refine z_go2 C 2399 [(.aload_n 0, 1), (.iload 4, 2), (.iconst 2, 1), (.iadd, 1)] (2404, [(5, .inl k0), (0, z_s), (1, z_r 0), (2, z_r 78), (3, z_r 193), (4, .inl i)], [.inl (i + 2), z_s, .inl a1, z_r 78], zW T' (zwG G' q2) S1 n2, nc + 2, ns + 12) (by decide +kernel) rfl ⟨trivial, trivial, trivial, trivial, trivial⟩ ?_
  refine z_sld (v := a2) C (by decide +kernel) hA.g2.1 hA.g2.2 ?_
  refine z_go2 C 2405 [(.aload_n 0, 1), (.iload 4, 2), (.iconst 3, 1), (.iadd, 1)] (2410, [(5, .inl k0), (0, z_s), (1, z_r 0), (2, z_r 78), (3, z_r 193), (4, .inl i)], [.inl (i + 3), z_s, .inl a2, .inl a1, z_r 78], zW T' (zwG G' q2) S1 n2, nc + 2, ns + 12) (by decide +kernel) rfl ⟨trivial, trivial, trivial, trivial, trivial⟩ ?_
  refine z_sld (v := a3) C (by decide +kernel) hA.g3.1 hA.g3.2 ?_
  obtain ⟨hs1, hs⟩ := hs
  refine z_callV C (av := [.inl a1, .inl a2, .inl a3]) (st := []) (a := 78) (ci := 14) (by decide +kernel) (c_M_field T' (zwG G' q2) S1 n2 a1 a2 a3 hs1) hrm zl_L_267 zv_M_field rfl rfl rfl (zLfit (a := 2) (b := 12) (by decide) (by decide) (by decide) (by decide) hnc hns) rfl (Nat.le_of_ble_eq_true rfl) (fun v w' hv => ?_)
  obtain ⟨rfl, rfl⟩ := hv
  show z_G X zm_law (2414, [(5, .inl k0), (0, z_s), (1, z_r 0), (2, z_r 78), (3, z_r 193), (4, .inl i)], [.inl (F_M_field S1 a1 a2 a3).1], zW T' (zwG G' q2) (F_M_field S1 a1 a2 a3).2 n2, nc + 2, ns + 12)
  refine z_go2 C 2414 [(.istore 6, 2), (.aload_n 2, 1)] (2417, [(6, .inl (F_M_field S1 a1 a2 a3).1), (5, .inl k0), (0, z_s), (1, z_r 0), (2, z_r 78), (3, z_r 193), (4, .inl i)], [z_r 78], zW T' (zwG G' q2) (F_M_field S1 a1 a2 a3).2 n2, nc + 2, ns + 12) (by decide +kernel) rfl ⟨trivial, trivial, trivial⟩ ?_
  refine z_callV C (av := []) (st := []) (a := 78) (ci := 14) (by decide +kernel) (c_M_thrown T' (zwG G' q2) (F_M_field S1 a1 a2 a3).2 n2) hrm zl_L_156 zv_M_thrown rfl rfl rfl (zLfit (a := 2) (b := 12) (by decide) (by decide) (by decide) (by decide) hnc hns) rfl (Nat.le_of_ble_eq_true rfl) (fun v w' hv => ?_)
  obtain ⟨rfl, rfl⟩ := hv
  show z_G X zm_law (2420, [(6, .inl (F_M_field S1 a1 a2 a3).1), (5, .inl k0), (0, z_s), (1, z_r 0), (2, z_r 78), (3, z_r 193), (4, .inl i)], [.inl (F_M_thrown (F_M_field S1 a1 a2 a3).2)], zW T' (zwG G' q2) (F_M_field S1 a1 a2 a3).2 n2, nc + 2, ns + 12)
  refine z_go2 C 2420 [(.iload 5, 2)] (2422, [(6, .inl (F_M_field S1 a1 a2 a3).1), (5, .inl k0), (0, z_s), (1, z_r 0), (2, z_r 78), (3, z_r 193), (4, .inl i)], [.inl k0, .inl (F_M_thrown (F_M_field S1 a1 a2 a3).2)], zW T' (zwG G' q2) (F_M_field S1 a1 a2 a3).2 n2, nc + 2, ns + 12) (by decide +kernel) rfl ⟨trivial, trivial⟩ ?_
  refine z_icmp_eq 2427 C (off := 5) (by decide +kernel) (by decide) (fun c => ?_) (fun c => absurd hs.1 c)
  refine z_go2 C 2427 [(.iload 5, 2)] (2429, [(6, .inl (F_M_field S1 a1 a2 a3).1), (5, .inl k0), (0, z_s), (1, z_r 0), (2, z_r 78), (3, z_r 193), (4, .inl i)], [.inl k0], zW T' (zwG G' q2) (F_M_field S1 a1 a2 a3).2 n2, nc + 2, ns + 12) (by decide +kernel) rfl ⟨trivial, trivial⟩ ?_
  refine z_if_ne 2444 C (off := 15) (by decide +kernel) (by decide) (fun c => ?_) (fun c => ?_)
  · refine z_go2 C 2444 [(.goto 868, 3)] (3312, [(6, .inl (F_M_field S1 a1 a2 a3).1), (5, .inl k0), (0, z_s), (1, z_r 0), (2, z_r 78), (3, z_r 193), (4, .inl i)], [], zW T' (zwG G' q2) (F_M_field S1 a1 a2 a3).2 n2, nc + 2, ns + 12) (by decide +kernel) rfl ⟨trivial, trivial⟩ ?_
    exact z_lvs (lv' := zLV i) [2, 3, 4, 5, 6] rfl (z_wid (nc' := nc + 20) (ns' := ns + 200) (zLwid (a := 2) (by decide)) (zLwid (a := 12) (by decide)) (kk _ _ _ _ hn2 hfl))
  · refine z_go2 C 2432 [(.aload_n 3, 1), (.iconst 0, 1), (.laload, 1), (.iload 6, 2), (.i2l, 1), (.lcmp, 1)] (2439, [(6, .inl (F_M_field S1 a1 a2 a3).1), (5, .inl k0), (0, z_s), (1, z_r 0), (2, z_r 78), (3, z_r 193), (4, .inl i)], [.inl (lg_cmp ((F_M_field S1 a1 a2 a3).2 193 0).toInt64 (F_M_field S1 a1 a2 a3).1.toInt64)], zW T' (zwG G' q2) (F_M_field S1 a1 a2 a3).2 n2, nc + 2, ns + 12) (by decide +kernel) rfl ⟨trivial, trivial, ⟨rfl, (show vp_in 0 1 by unfold vp_in; decide)⟩, trivial, trivial, trivial, trivial⟩ ?_
    refine z_if_eq 2444 C (off := 5) (by decide +kernel) (by decide) (fun c2 => ?_) (fun c2 => absurd (by rw [hs.2 c]; exact lg_cmp_self _) c2)
    refine z_go2 C 2444 [(.goto 868, 3)] (3312, [(6, .inl (F_M_field S1 a1 a2 a3).1), (5, .inl k0), (0, z_s), (1, z_r 0), (2, z_r 78), (3, z_r 193), (4, .inl i)], [], zW T' (zwG G' q2) (F_M_field S1 a1 a2 a3).2 n2, nc + 2, ns + 12) (by decide +kernel) rfl ⟨trivial, trivial⟩ ?_
    exact z_lvs (lv' := zLV i) [2, 3, 4, 5, 6] rfl (z_wid (nc' := nc + 20) (ns' := ns + 200) (zLwid (a := 2) (by decide)) (zLwid (a := 12) (by decide)) (kk _ _ _ _ hn2 hfl))
def Fl_33 (fl : Nat → Nat) (S : (Nat → Nat → Int32)) (a1 a2 a3 a4 a5 a6 : Int32) : (Nat → Nat → Int32) := (F_M_ranked (F_L_ranked S a1 a2).2 a1 a2).2
def Sl_33 (fl : Nat → Nat) (S : (Nat → Nat → Int32)) (a1 a2 a3 a4 a5 a6 : Int32) : Prop := Sf_L_ranked S a1 a2 ∧ Sf_M_ranked (F_L_ranked S a1 a2).2 a1 a2 ∧ (F_M_thrown (F_M_ranked (F_L_ranked S a1 a2).2 a1 a2).2 = (F_L_ranked S a1 a2).1 ∧ ((F_L_ranked S a1 a2).1 = 0 → (F_M_ranked (F_L_ranked S a1 a2).2 a1 a2).2 193 0 = (F_M_ranked (F_L_ranked S a1 a2).2 a1 a2).1))
theorem l_33 {X : z_X} (C : z_C X zm_law) (hrm : X.2.2.2.1 = room_1) {T' : Nat → Nat × Nat} {G' : Nat → Nat → Option Nat} {n q nc ns : Nat} {fl : Nat → Nat} (S : (Nat → Nat → Int32)) (i a1 a2 a3 a4 a5 a6 : Int32) (hA : zArg X i a1 a2 a3 a4 a5 a6) (hfl : zOK T' (zwG G' q) fl n) (hnc : nc + 20 ≤ 601024) (hns : ns + 200 ≤ 7293034) (hs : Sl_33 fl S a1 a2 a3 a4 a5 a6) (kk : ∀ T2 G2 n2 q2, n ≤ n2 → zOK T2 (zwG G2 q2) fl n2 → z_G X zm_law (3312, zLV i, [], zW T2 (zwG G2 q2) (Fl_33 fl S a1 a2 a3 a4 a5 a6) n2, nc + 20, ns + 200)) : z_G X zm_law (2447, zLV i, [], zW T' (zwG G' q) S n, nc, ns) := by
  unfold Sl_33 at hs
  unfold Fl_33 at kk
  refine z_go2 C 2447 [(.aload_n 1, 1), (.aload_n 0, 1), (.iload 4, 2), (.iconst 1, 1), (.iadd, 1)] (2453, [(0, z_s), (1, z_r 0), (2, z_r 78), (3, z_r 193), (4, .inl i)], [.inl (i + 1), z_s, z_r 0], zW T' (zwG G' q) S n, nc, ns) (by decide +kernel) rfl ⟨trivial, trivial, trivial, trivial, trivial, trivial⟩ ?_
  refine z_sld (v := a1) C (by decide +kernel) hA.g1.1 hA.g1.2 ?_
  refine z_go2 C 2454 [(.aload_n 0, 1), (.iload 4, 2), (.iconst 2, 1), (.iadd, 1)] (2459, [(0, z_s), (1, z_r 0), (2, z_r 78), (3, z_r 193), (4, .inl i)], [.inl (i + 2), z_s, .inl a1, z_r 0], zW T' (zwG G' q) S n, nc, ns) (by decide +kernel) rfl ⟨trivial, trivial, trivial, trivial, trivial⟩ ?_
  refine z_sld (v := a2) C (by decide +kernel) hA.g2.1 hA.g2.2 ?_
  refine z_go2 C 2460 [(.aload_n 3, 1)] (2461, [(0, z_s), (1, z_r 0), (2, z_r 78), (3, z_r 193), (4, .inl i)], [z_r 193, .inl a2, .inl a1, z_r 0], zW T' (zwG G' q) S n, nc, ns) (by decide +kernel) rfl ⟨trivial, trivial⟩ ?_
  obtain ⟨hs1, hs⟩ := hs
  refine z_callH (idx := 268) (hh := hh_L_ranked) C (av := [z_r 0, .inl a1, .inl a2, z_r 193]) (st := []) (by decide +kernel) (c_L_ranked T' G' q S n a1 a2 hs1) hrm (z_wi 1385 (by decide +kernel) rfl) (z_wi 152 (by decide +kernel) rfl) ⟨by decide +kernel, by decide +kernel⟩ (show (parseMethodDescriptor zm_L_ranked.1.desc).map (fun d => d.parameters.length) = some 4 by decide +kernel) (z_wi 1383 (by decide +kernel) rfl) (z_wi 1384 (by decide +kernel) rfl) (zLfit (a := 0) (b := 0) (by decide) (by decide) (by decide) (by decide) hnc hns) rfl (Nat.le_of_ble_eq_true rfl) (fun v w' hv => ?_)
  obtain ⟨n2, q2, hn2, rfl, rfl⟩ := hv
  replace hfl := (hfl.le hn2).q q2
  obtain ⟨S1, hS1⟩ : ∃ y, (F_L_ranked S a1 a2).2 = y := ⟨_, rfl⟩
  rw [hS1] at hs kk ⊢
  obtain ⟨k0, hk0⟩ : ∃ y, (F_L_ranked S a1 a2).1 = y := ⟨_, rfl⟩
  try rw [hk0] at hs
  rw [hk0]
  show z_G X zm_law (2464, [(0, z_s), (1, z_r 0), (2, z_r 78), (3, z_r 193), (4, .inl i)], [.inl k0], zW T' (zwG G' q2) S1 n2, nc + 2, ns + 12)
  refine z_go2 C 2464 [(.istore 5, 2), (.aload_n 2, 1), (.aload_n 0, 1), (.iload 4, 2), (.iconst 1, 1), (.iadd, 1)] (2472, [(5, .inl k0), (0, z_s), (1, z_r 0), (2, z_r 78), (3, z_r 193), (4, .inl i)], [.inl (i + 1), z_s, z_r 78], zW T' (zwG G' q2) S1 n2, nc + 2, ns + 12) (by decide +kernel) rfl ⟨trivial, trivial, trivial, trivial, trivial, trivial, trivial⟩ ?_
  refine z_sld (v := a1) C (by decide +kernel) hA.g1.1 hA.g1.2 ?_
  refine z_go2 C 2473 [(.aload_n 0, 1), (.iload 4, 2), (.iconst 2, 1), (.iadd, 1)] (2478, [(5, .inl k0), (0, z_s), (1, z_r 0), (2, z_r 78), (3, z_r 193), (4, .inl i)], [.inl (i + 2), z_s, .inl a1, z_r 78], zW T' (zwG G' q2) S1 n2, nc + 2, ns + 12) (by decide +kernel) rfl ⟨trivial, trivial, trivial, trivial, trivial⟩ ?_
  refine z_sld (v := a2) C (by decide +kernel) hA.g2.1 hA.g2.2 ?_
  obtain ⟨hs1, hs⟩ := hs
  refine z_callV C (av := [.inl a1, .inl a2]) (st := []) (a := 78) (ci := 14) (by decide +kernel) (c_M_ranked T' (zwG G' q2) S1 n2 a1 a2 hs1) hrm zl_L_270 zv_M_ranked rfl rfl rfl (zLfit (a := 2) (b := 12) (by decide) (by decide) (by decide) (by decide) hnc hns) rfl (Nat.le_of_ble_eq_true rfl) (fun v w' hv => ?_)
  obtain ⟨rfl, rfl⟩ := hv
  show z_G X zm_law (2482, [(5, .inl k0), (0, z_s), (1, z_r 0), (2, z_r 78), (3, z_r 193), (4, .inl i)], [.inl (F_M_ranked S1 a1 a2).1], zW T' (zwG G' q2) (F_M_ranked S1 a1 a2).2 n2, nc + 2, ns + 12)
  refine z_go2 C 2482 [(.istore 6, 2), (.aload_n 2, 1)] (2485, [(6, .inl (F_M_ranked S1 a1 a2).1), (5, .inl k0), (0, z_s), (1, z_r 0), (2, z_r 78), (3, z_r 193), (4, .inl i)], [z_r 78], zW T' (zwG G' q2) (F_M_ranked S1 a1 a2).2 n2, nc + 2, ns + 12) (by decide +kernel) rfl ⟨trivial, trivial, trivial⟩ ?_
  refine z_callV C (av := []) (st := []) (a := 78) (ci := 14) (by decide +kernel) (c_M_thrown T' (zwG G' q2) (F_M_ranked S1 a1 a2).2 n2) hrm zl_L_156 zv_M_thrown rfl rfl rfl (zLfit (a := 2) (b := 12) (by decide) (by decide) (by decide) (by decide) hnc hns) rfl (Nat.le_of_ble_eq_true rfl) (fun v w' hv => ?_)
  obtain ⟨rfl, rfl⟩ := hv
  show z_G X zm_law (2488, [(6, .inl (F_M_ranked S1 a1 a2).1), (5, .inl k0), (0, z_s), (1, z_r 0), (2, z_r 78), (3, z_r 193), (4, .inl i)], [.inl (F_M_thrown (F_M_ranked S1 a1 a2).2)], zW T' (zwG G' q2) (F_M_ranked S1 a1 a2).2 n2, nc + 2, ns + 12)
  refine z_go2 C 2488 [(.iload 5, 2)] (2490, [(6, .inl (F_M_ranked S1 a1 a2).1), (5, .inl k0), (0, z_s), (1, z_r 0), (2, z_r 78), (3, z_r 193), (4, .inl i)], [.inl k0, .inl (F_M_thrown (F_M_ranked S1 a1 a2).2)], zW T' (zwG G' q2) (F_M_ranked S1 a1 a2).2 n2, nc + 2, ns + 12) (by decide +kernel) rfl ⟨trivial, trivial⟩ ?_
  refine z_icmp_eq 2495 C (off := 5) (by decide +kernel) (by decide) (fun c => ?_) (fun c => absurd hs.1 c)
  refine z_go2 C 2495 [(.iload 5, 2)] (2497, [(6, .inl (F_M_ranked S1 a1 a2).1), (5, .inl k0), (0, z_s), (1, z_r 0), (2, z_r 78), (3, z_r 193), (4, .inl i)], [.inl k0], zW T' (zwG G' q2) (F_M_ranked S1 a1 a2).2 n2, nc + 2, ns + 12) (by decide +kernel) rfl ⟨trivial, trivial⟩ ?_
  refine z_if_ne 2512 C (off := 15) (by decide +kernel) (by decide) (fun c => ?_) (fun c => ?_)
  · refine z_go2 C 2512 [(.goto 800, 3)] (3312, [(6, .inl (F_M_ranked S1 a1 a2).1), (5, .inl k0), (0, z_s), (1, z_r 0), (2, z_r 78), (3, z_r 193), (4, .inl i)], [], zW T' (zwG G' q2) (F_M_ranked S1 a1 a2).2 n2, nc + 2, ns + 12) (by decide +kernel) rfl ⟨trivial, trivial⟩ ?_
    exact z_lvs (lv' := zLV i) [2, 3, 4, 5, 6] rfl (z_wid (nc' := nc + 20) (ns' := ns + 200) (zLwid (a := 2) (by decide)) (zLwid (a := 12) (by decide)) (kk _ _ _ _ hn2 hfl))
  · refine z_go2 C 2500 [(.aload_n 3, 1), (.iconst 0, 1), (.laload, 1), (.iload 6, 2), (.i2l, 1), (.lcmp, 1)] (2507, [(6, .inl (F_M_ranked S1 a1 a2).1), (5, .inl k0), (0, z_s), (1, z_r 0), (2, z_r 78), (3, z_r 193), (4, .inl i)], [.inl (lg_cmp ((F_M_ranked S1 a1 a2).2 193 0).toInt64 (F_M_ranked S1 a1 a2).1.toInt64)], zW T' (zwG G' q2) (F_M_ranked S1 a1 a2).2 n2, nc + 2, ns + 12) (by decide +kernel) rfl ⟨trivial, trivial, ⟨rfl, (show vp_in 0 1 by unfold vp_in; decide)⟩, trivial, trivial, trivial, trivial⟩ ?_
    refine z_if_eq 2512 C (off := 5) (by decide +kernel) (by decide) (fun c2 => ?_) (fun c2 => absurd (by rw [hs.2 c]; exact lg_cmp_self _) c2)
    refine z_go2 C 2512 [(.goto 800, 3)] (3312, [(6, .inl (F_M_ranked S1 a1 a2).1), (5, .inl k0), (0, z_s), (1, z_r 0), (2, z_r 78), (3, z_r 193), (4, .inl i)], [], zW T' (zwG G' q2) (F_M_ranked S1 a1 a2).2 n2, nc + 2, ns + 12) (by decide +kernel) rfl ⟨trivial, trivial⟩ ?_
    exact z_lvs (lv' := zLV i) [2, 3, 4, 5, 6] rfl (z_wid (nc' := nc + 20) (ns' := ns + 200) (zLwid (a := 2) (by decide)) (zLwid (a := 12) (by decide)) (kk _ _ _ _ hn2 hfl))
def Fl_34 (fl : Nat → Nat) (S : (Nat → Nat → Int32)) (a1 a2 a3 a4 a5 a6 : Int32) : (Nat → Nat → Int32) := (F_M_burn (F_L_burn S a1 a2 a3).2 a1 a2 a3).2
def Sl_34 (fl : Nat → Nat) (S : (Nat → Nat → Int32)) (a1 a2 a3 a4 a5 a6 : Int32) : Prop := Sf_L_burn S a1 a2 a3 ∧ Sf_M_burn (F_L_burn S a1 a2 a3).2 a1 a2 a3 ∧ (F_M_thrown (F_M_burn (F_L_burn S a1 a2 a3).2 a1 a2 a3).2 = (F_L_burn S a1 a2 a3).1 ∧ ((F_L_burn S a1 a2 a3).1 = 0 → (F_M_burn (F_L_burn S a1 a2 a3).2 a1 a2 a3).2 193 0 = (F_M_burn (F_L_burn S a1 a2 a3).2 a1 a2 a3).1))
theorem l_34 {X : z_X} (C : z_C X zm_law) (hrm : X.2.2.2.1 = room_1) {T' : Nat → Nat × Nat} {G' : Nat → Nat → Option Nat} {n q nc ns : Nat} {fl : Nat → Nat} (S : (Nat → Nat → Int32)) (i a1 a2 a3 a4 a5 a6 : Int32) (hA : zArg X i a1 a2 a3 a4 a5 a6) (hfl : zOK T' (zwG G' q) fl n) (hnc : nc + 20 ≤ 601024) (hns : ns + 200 ≤ 7293034) (hs : Sl_34 fl S a1 a2 a3 a4 a5 a6) (kk : ∀ T2 G2 n2 q2, n ≤ n2 → zOK T2 (zwG G2 q2) fl n2 → z_G X zm_law (3312, zLV i, [], zW T2 (zwG G2 q2) (Fl_34 fl S a1 a2 a3 a4 a5 a6) n2, nc + 20, ns + 200)) : z_G X zm_law (2515, zLV i, [], zW T' (zwG G' q) S n, nc, ns) := by
  unfold Sl_34 at hs
  unfold Fl_34 at kk
  refine z_go2 C 2515 [(.aload_n 1, 1), (.aload_n 0, 1), (.iload 4, 2), (.iconst 1, 1), (.iadd, 1)] (2521, [(0, z_s), (1, z_r 0), (2, z_r 78), (3, z_r 193), (4, .inl i)], [.inl (i + 1), z_s, z_r 0], zW T' (zwG G' q) S n, nc, ns) (by decide +kernel) rfl ⟨trivial, trivial, trivial, trivial, trivial, trivial⟩ ?_
  refine z_sld (v := a1) C (by decide +kernel) hA.g1.1 hA.g1.2 ?_
  refine z_go2 C 2522 [(.aload_n 0, 1), (.iload 4, 2), (.iconst 2, 1), (.iadd, 1)] (2527, [(0, z_s), (1, z_r 0), (2, z_r 78), (3, z_r 193), (4, .inl i)], [.inl (i + 2), z_s, .inl a1, z_r 0], zW T' (zwG G' q) S n, nc, ns) (by decide +kernel) rfl ⟨trivial, trivial, trivial, trivial, trivial⟩ ?_
  refine z_sld (v := a2) C (by decide +kernel) hA.g2.1 hA.g2.2 ?_
  refine z_go2 C 2528 [(.aload_n 0, 1), (.iload 4, 2), (.iconst 3, 1), (.iadd, 1)] (2533, [(0, z_s), (1, z_r 0), (2, z_r 78), (3, z_r 193), (4, .inl i)], [.inl (i + 3), z_s, .inl a2, .inl a1, z_r 0], zW T' (zwG G' q) S n, nc, ns) (by decide +kernel) rfl ⟨trivial, trivial, trivial, trivial, trivial⟩ ?_
  refine z_sld (v := a3) C (by decide +kernel) hA.g3.1 hA.g3.2 ?_
  refine z_go2 C 2534 [(.aload_n 3, 1)] (2535, [(0, z_s), (1, z_r 0), (2, z_r 78), (3, z_r 193), (4, .inl i)], [z_r 193, .inl a3, .inl a2, .inl a1, z_r 0], zW T' (zwG G' q) S n, nc, ns) (by decide +kernel) rfl ⟨trivial, trivial⟩ ?_
  obtain ⟨hs1, hs⟩ := hs
  refine z_callH (idx := 271) (hh := hh_L_burn) C (av := [z_r 0, .inl a1, .inl a2, .inl a3, z_r 193]) (st := []) (by decide +kernel) (c_L_burn T' G' q S n a1 a2 a3 hs1) hrm (z_wi 1396 (by decide +kernel) rfl) (z_wi 152 (by decide +kernel) rfl) ⟨by decide +kernel, by decide +kernel⟩ (show (parseMethodDescriptor zm_L_burn.1.desc).map (fun d => d.parameters.length) = some 5 by decide +kernel) (z_wi 1394 (by decide +kernel) rfl) (z_wi 1395 (by decide +kernel) rfl) (zLfit (a := 0) (b := 0) (by decide) (by decide) (by decide) (by decide) hnc hns) rfl (Nat.le_of_ble_eq_true rfl) (fun v w' hv => ?_)
  obtain ⟨n2, q2, hn2, rfl, rfl⟩ := hv
  replace hfl := (hfl.le hn2).q q2
  obtain ⟨S1, hS1⟩ : ∃ y, (F_L_burn S a1 a2 a3).2 = y := ⟨_, rfl⟩
  rw [hS1] at hs kk ⊢
  obtain ⟨k0, hk0⟩ : ∃ y, (F_L_burn S a1 a2 a3).1 = y := ⟨_, rfl⟩
  try rw [hk0] at hs
  rw [hk0]
  show z_G X zm_law (2538, [(0, z_s), (1, z_r 0), (2, z_r 78), (3, z_r 193), (4, .inl i)], [.inl k0], zW T' (zwG G' q2) S1 n2, nc + 1, ns + 6)
  refine z_go2 C 2538 [(.istore 5, 2), (.aload_n 2, 1), (.aload_n 0, 1), (.iload 4, 2), (.iconst 1, 1), (.iadd, 1)] (2546, [(5, .inl k0), (0, z_s), (1, z_r 0), (2, z_r 78), (3, z_r 193), (4, .inl i)], [.inl (i + 1), z_s, z_r 78], zW T' (zwG G' q2) S1 n2, nc + 1, ns + 6) (by decide +kernel) rfl ⟨trivial, trivial, trivial, trivial, trivial, trivial, trivial⟩ ?_
  refine z_sld (v := a1) C (by decide +kernel) hA.g1.1 hA.g1.2 ?_
  refine z_go2 C 2547 [(.aload_n 0, 1), (.iload 4, 2), (.iconst 2, 1), (.iadd, 1)] (2552, [(5, .inl k0), (0, z_s), (1, z_r 0), (2, z_r 78), (3, z_r 193), (4, .inl i)], [.inl (i + 2), z_s, .inl a1, z_r 78], zW T' (zwG G' q2) S1 n2, nc + 1, ns + 6) (by decide +kernel) rfl ⟨trivial, trivial, trivial, trivial, trivial⟩ ?_
  refine z_sld (v := a2) C (by decide +kernel) hA.g2.1 hA.g2.2 ?_
  refine z_go2 C 2553 [(.aload_n 0, 1), (.iload 4, 2), (.iconst 3, 1), (.iadd, 1)] (2558, [(5, .inl k0), (0, z_s), (1, z_r 0), (2, z_r 78), (3, z_r 193), (4, .inl i)], [.inl (i + 3), z_s, .inl a2, .inl a1, z_r 78], zW T' (zwG G' q2) S1 n2, nc + 1, ns + 6) (by decide +kernel) rfl ⟨trivial, trivial, trivial, trivial, trivial⟩ ?_
  refine z_sld (v := a3) C (by decide +kernel) hA.g3.1 hA.g3.2 ?_
  obtain ⟨hs1, hs⟩ := hs
  refine z_callV C (av := [.inl a1, .inl a2, .inl a3]) (st := []) (a := 78) (ci := 14) (by decide +kernel) (c_M_burn T' (zwG G' q2) S1 n2 a1 a2 a3 hs1) hrm zl_L_273 zv_M_burn rfl rfl rfl (zLfit (a := 1) (b := 6) (by decide) (by decide) (by decide) (by decide) hnc hns) rfl (Nat.le_of_ble_eq_true rfl) (fun v w' hv => ?_)
  obtain ⟨rfl, rfl⟩ := hv
  show z_G X zm_law (2562, [(5, .inl k0), (0, z_s), (1, z_r 0), (2, z_r 78), (3, z_r 193), (4, .inl i)], [.inl (F_M_burn S1 a1 a2 a3).1], zW T' (zwG G' q2) (F_M_burn S1 a1 a2 a3).2 n2, nc + 1, ns + 6)
  refine z_go2 C 2562 [(.istore 6, 2), (.aload_n 2, 1)] (2565, [(6, .inl (F_M_burn S1 a1 a2 a3).1), (5, .inl k0), (0, z_s), (1, z_r 0), (2, z_r 78), (3, z_r 193), (4, .inl i)], [z_r 78], zW T' (zwG G' q2) (F_M_burn S1 a1 a2 a3).2 n2, nc + 1, ns + 6) (by decide +kernel) rfl ⟨trivial, trivial, trivial⟩ ?_
  refine z_callV C (av := []) (st := []) (a := 78) (ci := 14) (by decide +kernel) (c_M_thrown T' (zwG G' q2) (F_M_burn S1 a1 a2 a3).2 n2) hrm zl_L_156 zv_M_thrown rfl rfl rfl (zLfit (a := 1) (b := 6) (by decide) (by decide) (by decide) (by decide) hnc hns) rfl (Nat.le_of_ble_eq_true rfl) (fun v w' hv => ?_)
  obtain ⟨rfl, rfl⟩ := hv
  show z_G X zm_law (2568, [(6, .inl (F_M_burn S1 a1 a2 a3).1), (5, .inl k0), (0, z_s), (1, z_r 0), (2, z_r 78), (3, z_r 193), (4, .inl i)], [.inl (F_M_thrown (F_M_burn S1 a1 a2 a3).2)], zW T' (zwG G' q2) (F_M_burn S1 a1 a2 a3).2 n2, nc + 1, ns + 6)
  refine z_go2 C 2568 [(.iload 5, 2)] (2570, [(6, .inl (F_M_burn S1 a1 a2 a3).1), (5, .inl k0), (0, z_s), (1, z_r 0), (2, z_r 78), (3, z_r 193), (4, .inl i)], [.inl k0, .inl (F_M_thrown (F_M_burn S1 a1 a2 a3).2)], zW T' (zwG G' q2) (F_M_burn S1 a1 a2 a3).2 n2, nc + 1, ns + 6) (by decide +kernel) rfl ⟨trivial, trivial⟩ ?_
  refine z_icmp_eq 2575 C (off := 5) (by decide +kernel) (by decide) (fun c => ?_) (fun c => absurd hs.1 c)
  refine z_go2 C 2575 [(.iload 5, 2)] (2577, [(6, .inl (F_M_burn S1 a1 a2 a3).1), (5, .inl k0), (0, z_s), (1, z_r 0), (2, z_r 78), (3, z_r 193), (4, .inl i)], [.inl k0], zW T' (zwG G' q2) (F_M_burn S1 a1 a2 a3).2 n2, nc + 1, ns + 6) (by decide +kernel) rfl ⟨trivial, trivial⟩ ?_
  refine z_if_ne 2592 C (off := 15) (by decide +kernel) (by decide) (fun c => ?_) (fun c => ?_)
  · refine z_go2 C 2592 [(.goto 720, 3)] (3312, [(6, .inl (F_M_burn S1 a1 a2 a3).1), (5, .inl k0), (0, z_s), (1, z_r 0), (2, z_r 78), (3, z_r 193), (4, .inl i)], [], zW T' (zwG G' q2) (F_M_burn S1 a1 a2 a3).2 n2, nc + 1, ns + 6) (by decide +kernel) rfl ⟨trivial, trivial⟩ ?_
    exact z_lvs (lv' := zLV i) [2, 3, 4, 5, 6] rfl (z_wid (nc' := nc + 20) (ns' := ns + 200) (zLwid (a := 1) (by decide)) (zLwid (a := 6) (by decide)) (kk _ _ _ _ hn2 hfl))
  · refine z_go2 C 2580 [(.aload_n 3, 1), (.iconst 0, 1), (.laload, 1), (.iload 6, 2), (.i2l, 1), (.lcmp, 1)] (2587, [(6, .inl (F_M_burn S1 a1 a2 a3).1), (5, .inl k0), (0, z_s), (1, z_r 0), (2, z_r 78), (3, z_r 193), (4, .inl i)], [.inl (lg_cmp ((F_M_burn S1 a1 a2 a3).2 193 0).toInt64 (F_M_burn S1 a1 a2 a3).1.toInt64)], zW T' (zwG G' q2) (F_M_burn S1 a1 a2 a3).2 n2, nc + 1, ns + 6) (by decide +kernel) rfl ⟨trivial, trivial, ⟨rfl, (show vp_in 0 1 by unfold vp_in; decide)⟩, trivial, trivial, trivial, trivial⟩ ?_
    refine z_if_eq 2592 C (off := 5) (by decide +kernel) (by decide) (fun c2 => ?_) (fun c2 => absurd (by rw [hs.2 c]; exact lg_cmp_self _) c2)
    refine z_go2 C 2592 [(.goto 720, 3)] (3312, [(6, .inl (F_M_burn S1 a1 a2 a3).1), (5, .inl k0), (0, z_s), (1, z_r 0), (2, z_r 78), (3, z_r 193), (4, .inl i)], [], zW T' (zwG G' q2) (F_M_burn S1 a1 a2 a3).2 n2, nc + 1, ns + 6) (by decide +kernel) rfl ⟨trivial, trivial⟩ ?_
    exact z_lvs (lv' := zLV i) [2, 3, 4, 5, 6] rfl (z_wid (nc' := nc + 20) (ns' := ns + 200) (zLwid (a := 1) (by decide)) (zLwid (a := 6) (by decide)) (kk _ _ _ _ hn2 hfl))
def Fl_35 (fl : Nat → Nat) (S : (Nat → Nat → Int32)) (a1 a2 a3 a4 a5 a6 : Int32) : (Nat → Nat → Int32) := (F_M_rule (F_L_rule S a1 a2 a3 a4 a5 a6).2 a1 a2 a3 a4 a5 a6).2
def Sl_35 (fl : Nat → Nat) (S : (Nat → Nat → Int32)) (a1 a2 a3 a4 a5 a6 : Int32) : Prop := Sf_L_rule S a1 a2 a3 a4 a5 a6 ∧ Sf_M_rule (F_L_rule S a1 a2 a3 a4 a5 a6).2 a1 a2 a3 a4 a5 a6 ∧ (F_M_thrown (F_M_rule (F_L_rule S a1 a2 a3 a4 a5 a6).2 a1 a2 a3 a4 a5 a6).2 = (F_L_rule S a1 a2 a3 a4 a5 a6).1 ∧ ((F_L_rule S a1 a2 a3 a4 a5 a6).1 = 0 → (F_M_rule (F_L_rule S a1 a2 a3 a4 a5 a6).2 a1 a2 a3 a4 a5 a6).2 193 0 = (F_M_rule (F_L_rule S a1 a2 a3 a4 a5 a6).2 a1 a2 a3 a4 a5 a6).1))
theorem l_35 {X : z_X} (C : z_C X zm_law) (hrm : X.2.2.2.1 = room_1) {T' : Nat → Nat × Nat} {G' : Nat → Nat → Option Nat} {n q nc ns : Nat} {fl : Nat → Nat} (S : (Nat → Nat → Int32)) (i a1 a2 a3 a4 a5 a6 : Int32) (hA : zArg X i a1 a2 a3 a4 a5 a6) (hfl : zOK T' (zwG G' q) fl n) (hnc : nc + 20 ≤ 601024) (hns : ns + 200 ≤ 7293034) (hs : Sl_35 fl S a1 a2 a3 a4 a5 a6) (kk : ∀ T2 G2 n2 q2, n ≤ n2 → zOK T2 (zwG G2 q2) fl n2 → z_G X zm_law (3312, zLV i, [], zW T2 (zwG G2 q2) (Fl_35 fl S a1 a2 a3 a4 a5 a6) n2, nc + 20, ns + 200)) : z_G X zm_law (2595, zLV i, [], zW T' (zwG G' q) S n, nc, ns) := by
  unfold Sl_35 at hs
  unfold Fl_35 at kk
  refine z_go2 C 2595 [(.aload_n 1, 1), (.aload_n 0, 1), (.iload 4, 2), (.iconst 1, 1), (.iadd, 1)] (2601, [(0, z_s), (1, z_r 0), (2, z_r 78), (3, z_r 193), (4, .inl i)], [.inl (i + 1), z_s, z_r 0], zW T' (zwG G' q) S n, nc, ns) (by decide +kernel) rfl ⟨trivial, trivial, trivial, trivial, trivial, trivial⟩ ?_
  refine z_sld (v := a1) C (by decide +kernel) hA.g1.1 hA.g1.2 ?_
  refine z_go2 C 2602 [(.aload_n 0, 1), (.iload 4, 2), (.iconst 2, 1), (.iadd, 1)] (2607, [(0, z_s), (1, z_r 0), (2, z_r 78), (3, z_r 193), (4, .inl i)], [.inl (i + 2), z_s, .inl a1, z_r 0], zW T' (zwG G' q) S n, nc, ns) (by decide +kernel) rfl ⟨trivial, trivial, trivial, trivial, trivial⟩ ?_
  refine z_sld (v := a2) C (by decide +kernel) hA.g2.1 hA.g2.2 ?_
  refine z_go2 C 2608 [(.aload_n 0, 1), (.iload 4, 2), (.iconst 3, 1), (.iadd, 1)] (2613, [(0, z_s), (1, z_r 0), (2, z_r 78), (3, z_r 193), (4, .inl i)], [.inl (i + 3), z_s, .inl a2, .inl a1, z_r 0], zW T' (zwG G' q) S n, nc, ns) (by decide +kernel) rfl ⟨trivial, trivial, trivial, trivial, trivial⟩ ?_
  refine z_sld (v := a3) C (by decide +kernel) hA.g3.1 hA.g3.2 ?_
  refine z_go2 C 2614 [(.aload_n 0, 1), (.iload 4, 2), (.iconst 4, 1), (.iadd, 1)] (2619, [(0, z_s), (1, z_r 0), (2, z_r 78), (3, z_r 193), (4, .inl i)], [.inl (i + 4), z_s, .inl a3, .inl a2, .inl a1, z_r 0], zW T' (zwG G' q) S n, nc, ns) (by decide +kernel) rfl ⟨trivial, trivial, trivial, trivial, trivial⟩ ?_
  refine z_sld (v := a4) C (by decide +kernel) hA.g4.1 hA.g4.2 ?_
  refine z_go2 C 2620 [(.aload_n 0, 1), (.iload 4, 2), (.iconst 5, 1), (.iadd, 1)] (2625, [(0, z_s), (1, z_r 0), (2, z_r 78), (3, z_r 193), (4, .inl i)], [.inl (i + 5), z_s, .inl a4, .inl a3, .inl a2, .inl a1, z_r 0], zW T' (zwG G' q) S n, nc, ns) (by decide +kernel) rfl ⟨trivial, trivial, trivial, trivial, trivial⟩ ?_
  refine z_sld (v := a5) C (by decide +kernel) hA.g5.1 hA.g5.2 ?_
  refine z_go2 C 2626 [(.aload_n 0, 1), (.iload 4, 2), (.bipush 6, 2), (.iadd, 1)] (2632, [(0, z_s), (1, z_r 0), (2, z_r 78), (3, z_r 193), (4, .inl i)], [.inl (i + 6), z_s, .inl a5, .inl a4, .inl a3, .inl a2, .inl a1, z_r 0], zW T' (zwG G' q) S n, nc, ns) (by decide +kernel) rfl ⟨trivial, trivial, trivial, trivial, trivial⟩ ?_
  refine z_sld (v := a6) C (by decide +kernel) hA.g6.1 hA.g6.2 ?_
  refine z_go2 C 2633 [(.aload_n 3, 1)] (2634, [(0, z_s), (1, z_r 0), (2, z_r 78), (3, z_r 193), (4, .inl i)], [z_r 193, .inl a6, .inl a5, .inl a4, .inl a3, .inl a2, .inl a1, z_r 0], zW T' (zwG G' q) S n, nc, ns) (by decide +kernel) rfl ⟨trivial, trivial⟩ ?_
  obtain ⟨hs1, hs⟩ := hs
  refine z_callH (idx := 274) (hh := hh_L_rule) C (av := [z_r 0, .inl a1, .inl a2, .inl a3, .inl a4, .inl a5, .inl a6, z_r 193]) (st := []) (by decide +kernel) (c_L_rule T' G' q S n a1 a2 a3 a4 a5 a6 hs1) hrm (z_wi 1403 (by decide +kernel) rfl) (z_wi 152 (by decide +kernel) rfl) ⟨by decide +kernel, by decide +kernel⟩ (show (parseMethodDescriptor zm_L_rule.1.desc).map (fun d => d.parameters.length) = some 8 by decide +kernel) (z_wi 1401 (by decide +kernel) rfl) (z_wi 1402 (by decide +kernel) rfl) (zLfit (a := 0) (b := 0) (by decide) (by decide) (by decide) (by decide) hnc hns) rfl (Nat.le_of_ble_eq_true rfl) (fun v w' hv => ?_)
  obtain ⟨n2, q2, hn2, rfl, rfl⟩ := hv
  replace hfl := (hfl.le hn2).q q2
  obtain ⟨S1, hS1⟩ : ∃ y, (F_L_rule S a1 a2 a3 a4 a5 a6).2 = y := ⟨_, rfl⟩
  rw [hS1] at hs kk ⊢
  obtain ⟨k0, hk0⟩ : ∃ y, (F_L_rule S a1 a2 a3 a4 a5 a6).1 = y := ⟨_, rfl⟩
  try rw [hk0] at hs
  rw [hk0]
  show z_G X zm_law (2637, [(0, z_s), (1, z_r 0), (2, z_r 78), (3, z_r 193), (4, .inl i)], [.inl k0], zW T' (zwG G' q2) S1 n2, nc + 3, ns + 18)
  refine z_go2 C 2637 [(.istore 5, 2), (.aload_n 2, 1), (.aload_n 0, 1), (.iload 4, 2), (.iconst 1, 1), (.iadd, 1)] (2645, [(5, .inl k0), (0, z_s), (1, z_r 0), (2, z_r 78), (3, z_r 193), (4, .inl i)], [.inl (i + 1), z_s, z_r 78], zW T' (zwG G' q2) S1 n2, nc + 3, ns + 18) (by decide +kernel) rfl ⟨trivial, trivial, trivial, trivial, trivial, trivial, trivial⟩ ?_
  refine z_sld (v := a1) C (by decide +kernel) hA.g1.1 hA.g1.2 ?_
  refine z_go2 C 2646 [(.aload_n 0, 1), (.iload 4, 2), (.iconst 2, 1), (.iadd, 1)] (2651, [(5, .inl k0), (0, z_s), (1, z_r 0), (2, z_r 78), (3, z_r 193), (4, .inl i)], [.inl (i + 2), z_s, .inl a1, z_r 78], zW T' (zwG G' q2) S1 n2, nc + 3, ns + 18) (by decide +kernel) rfl ⟨trivial, trivial, trivial, trivial, trivial⟩ ?_
  refine z_sld (v := a2) C (by decide +kernel) hA.g2.1 hA.g2.2 ?_
  refine z_go2 C 2652 [(.aload_n 0, 1), (.iload 4, 2), (.iconst 3, 1), (.iadd, 1)] (2657, [(5, .inl k0), (0, z_s), (1, z_r 0), (2, z_r 78), (3, z_r 193), (4, .inl i)], [.inl (i + 3), z_s, .inl a2, .inl a1, z_r 78], zW T' (zwG G' q2) S1 n2, nc + 3, ns + 18) (by decide +kernel) rfl ⟨trivial, trivial, trivial, trivial, trivial⟩ ?_
  refine z_sld (v := a3) C (by decide +kernel) hA.g3.1 hA.g3.2 ?_
  refine z_go2 C 2658 [(.aload_n 0, 1), (.iload 4, 2), (.iconst 4, 1), (.iadd, 1)] (2663, [(5, .inl k0), (0, z_s), (1, z_r 0), (2, z_r 78), (3, z_r 193), (4, .inl i)], [.inl (i + 4), z_s, .inl a3, .inl a2, .inl a1, z_r 78], zW T' (zwG G' q2) S1 n2, nc + 3, ns + 18) (by decide +kernel) rfl ⟨trivial, trivial, trivial, trivial, trivial⟩ ?_
  refine z_sld (v := a4) C (by decide +kernel) hA.g4.1 hA.g4.2 ?_
  refine z_go2 C 2664 [(.aload_n 0, 1), (.iload 4, 2), (.iconst 5, 1), (.iadd, 1)] (2669, [(5, .inl k0), (0, z_s), (1, z_r 0), (2, z_r 78), (3, z_r 193), (4, .inl i)], [.inl (i + 5), z_s, .inl a4, .inl a3, .inl a2, .inl a1, z_r 78], zW T' (zwG G' q2) S1 n2, nc + 3, ns + 18) (by decide +kernel) rfl ⟨trivial, trivial, trivial, trivial, trivial⟩ ?_
  refine z_sld (v := a5) C (by decide +kernel) hA.g5.1 hA.g5.2 ?_
  refine z_go2 C 2670 [(.aload_n 0, 1), (.iload 4, 2), (.bipush 6, 2), (.iadd, 1)] (2676, [(5, .inl k0), (0, z_s), (1, z_r 0), (2, z_r 78), (3, z_r 193), (4, .inl i)], [.inl (i + 6), z_s, .inl a5, .inl a4, .inl a3, .inl a2, .inl a1, z_r 78], zW T' (zwG G' q2) S1 n2, nc + 3, ns + 18) (by decide +kernel) rfl ⟨trivial, trivial, trivial, trivial, trivial⟩ ?_
  refine z_sld (v := a6) C (by decide +kernel) hA.g6.1 hA.g6.2 ?_
  obtain ⟨hs1, hs⟩ := hs
  refine z_callV C (av := [.inl a1, .inl a2, .inl a3, .inl a4, .inl a5, .inl a6]) (st := []) (a := 78) (ci := 14) (by decide +kernel) (c_M_rule T' (zwG G' q2) S1 n2 a1 a2 a3 a4 a5 a6 hs1) hrm zl_L_276 zv_M_rule rfl rfl rfl (zLfit (a := 3) (b := 18) (by decide) (by decide) (by decide) (by decide) hnc hns) rfl (Nat.le_of_ble_eq_true rfl) (fun v w' hv => ?_)
  obtain ⟨rfl, rfl⟩ := hv
  show z_G X zm_law (2680, [(5, .inl k0), (0, z_s), (1, z_r 0), (2, z_r 78), (3, z_r 193), (4, .inl i)], [.inl (F_M_rule S1 a1 a2 a3 a4 a5 a6).1], zW T' (zwG G' q2) (F_M_rule S1 a1 a2 a3 a4 a5 a6).2 n2, nc + 3, ns + 18)
  refine z_go2 C 2680 [(.istore 6, 2), (.aload_n 2, 1)] (2683, [(6, .inl (F_M_rule S1 a1 a2 a3 a4 a5 a6).1), (5, .inl k0), (0, z_s), (1, z_r 0), (2, z_r 78), (3, z_r 193), (4, .inl i)], [z_r 78], zW T' (zwG G' q2) (F_M_rule S1 a1 a2 a3 a4 a5 a6).2 n2, nc + 3, ns + 18) (by decide +kernel) rfl ⟨trivial, trivial, trivial⟩ ?_
  refine z_callV C (av := []) (st := []) (a := 78) (ci := 14) (by decide +kernel) (c_M_thrown T' (zwG G' q2) (F_M_rule S1 a1 a2 a3 a4 a5 a6).2 n2) hrm zl_L_156 zv_M_thrown rfl rfl rfl (zLfit (a := 3) (b := 18) (by decide) (by decide) (by decide) (by decide) hnc hns) rfl (Nat.le_of_ble_eq_true rfl) (fun v w' hv => ?_)
  obtain ⟨rfl, rfl⟩ := hv
  show z_G X zm_law (2686, [(6, .inl (F_M_rule S1 a1 a2 a3 a4 a5 a6).1), (5, .inl k0), (0, z_s), (1, z_r 0), (2, z_r 78), (3, z_r 193), (4, .inl i)], [.inl (F_M_thrown (F_M_rule S1 a1 a2 a3 a4 a5 a6).2)], zW T' (zwG G' q2) (F_M_rule S1 a1 a2 a3 a4 a5 a6).2 n2, nc + 3, ns + 18)
  refine z_go2 C 2686 [(.iload 5, 2)] (2688, [(6, .inl (F_M_rule S1 a1 a2 a3 a4 a5 a6).1), (5, .inl k0), (0, z_s), (1, z_r 0), (2, z_r 78), (3, z_r 193), (4, .inl i)], [.inl k0, .inl (F_M_thrown (F_M_rule S1 a1 a2 a3 a4 a5 a6).2)], zW T' (zwG G' q2) (F_M_rule S1 a1 a2 a3 a4 a5 a6).2 n2, nc + 3, ns + 18) (by decide +kernel) rfl ⟨trivial, trivial⟩ ?_
  refine z_icmp_eq 2693 C (off := 5) (by decide +kernel) (by decide) (fun c => ?_) (fun c => absurd hs.1 c)
  refine z_go2 C 2693 [(.iload 5, 2)] (2695, [(6, .inl (F_M_rule S1 a1 a2 a3 a4 a5 a6).1), (5, .inl k0), (0, z_s), (1, z_r 0), (2, z_r 78), (3, z_r 193), (4, .inl i)], [.inl k0], zW T' (zwG G' q2) (F_M_rule S1 a1 a2 a3 a4 a5 a6).2 n2, nc + 3, ns + 18) (by decide +kernel) rfl ⟨trivial, trivial⟩ ?_
  refine z_if_ne 2710 C (off := 15) (by decide +kernel) (by decide) (fun c => ?_) (fun c => ?_)
  · refine z_go2 C 2710 [(.goto 602, 3)] (3312, [(6, .inl (F_M_rule S1 a1 a2 a3 a4 a5 a6).1), (5, .inl k0), (0, z_s), (1, z_r 0), (2, z_r 78), (3, z_r 193), (4, .inl i)], [], zW T' (zwG G' q2) (F_M_rule S1 a1 a2 a3 a4 a5 a6).2 n2, nc + 3, ns + 18) (by decide +kernel) rfl ⟨trivial, trivial⟩ ?_
    exact z_lvs (lv' := zLV i) [2, 3, 4, 5, 6] rfl (z_wid (nc' := nc + 20) (ns' := ns + 200) (zLwid (a := 3) (by decide)) (zLwid (a := 18) (by decide)) (kk _ _ _ _ hn2 hfl))
  · refine z_go2 C 2698 [(.aload_n 3, 1), (.iconst 0, 1), (.laload, 1), (.iload 6, 2), (.i2l, 1), (.lcmp, 1)] (2705, [(6, .inl (F_M_rule S1 a1 a2 a3 a4 a5 a6).1), (5, .inl k0), (0, z_s), (1, z_r 0), (2, z_r 78), (3, z_r 193), (4, .inl i)], [.inl (lg_cmp ((F_M_rule S1 a1 a2 a3 a4 a5 a6).2 193 0).toInt64 (F_M_rule S1 a1 a2 a3 a4 a5 a6).1.toInt64)], zW T' (zwG G' q2) (F_M_rule S1 a1 a2 a3 a4 a5 a6).2 n2, nc + 3, ns + 18) (by decide +kernel) rfl ⟨trivial, trivial, ⟨rfl, (show vp_in 0 1 by unfold vp_in; decide)⟩, trivial, trivial, trivial, trivial⟩ ?_
    refine z_if_eq 2710 C (off := 5) (by decide +kernel) (by decide) (fun c2 => ?_) (fun c2 => absurd (by rw [hs.2 c]; exact lg_cmp_self _) c2)
    refine z_go2 C 2710 [(.goto 602, 3)] (3312, [(6, .inl (F_M_rule S1 a1 a2 a3 a4 a5 a6).1), (5, .inl k0), (0, z_s), (1, z_r 0), (2, z_r 78), (3, z_r 193), (4, .inl i)], [], zW T' (zwG G' q2) (F_M_rule S1 a1 a2 a3 a4 a5 a6).2 n2, nc + 3, ns + 18) (by decide +kernel) rfl ⟨trivial, trivial⟩ ?_
    exact z_lvs (lv' := zLV i) [2, 3, 4, 5, 6] rfl (z_wid (nc' := nc + 20) (ns' := ns + 200) (zLwid (a := 3) (by decide)) (zLwid (a := 18) (by decide)) (kk _ _ _ _ hn2 hfl))
def Fl_36 (fl : Nat → Nat) (S : (Nat → Nat → Int32)) (a1 a2 a3 a4 a5 a6 : Int32) : (Nat → Nat → Int32) := (F_M_narrow (F_L_narrow S a1 a2 a3 a4).2 a1 a2 a3 a4)
def Sl_36 (fl : Nat → Nat) (S : (Nat → Nat → Int32)) (a1 a2 a3 a4 a5 a6 : Int32) : Prop := Sf_L_narrow S a1 a2 a3 a4 ∧ Sf_M_narrow (F_L_narrow S a1 a2 a3 a4).2 a1 a2 a3 a4 ∧ F_M_thrown (F_M_narrow (F_L_narrow S a1 a2 a3 a4).2 a1 a2 a3 a4) = (F_L_narrow S a1 a2 a3 a4).1
theorem l_36 {X : z_X} (C : z_C X zm_law) (hrm : X.2.2.2.1 = room_1) {T' : Nat → Nat × Nat} {G' : Nat → Nat → Option Nat} {n q nc ns : Nat} {fl : Nat → Nat} (S : (Nat → Nat → Int32)) (i a1 a2 a3 a4 a5 a6 : Int32) (hA : zArg X i a1 a2 a3 a4 a5 a6) (hfl : zOK T' (zwG G' q) fl n) (hnc : nc + 20 ≤ 601024) (hns : ns + 200 ≤ 7293034) (hs : Sl_36 fl S a1 a2 a3 a4 a5 a6) (kk : ∀ T2 G2 n2 q2, n ≤ n2 → zOK T2 (zwG G2 q2) fl n2 → z_G X zm_law (3312, zLV i, [], zW T2 (zwG G2 q2) (Fl_36 fl S a1 a2 a3 a4 a5 a6) n2, nc + 20, ns + 200)) : z_G X zm_law (2713, zLV i, [], zW T' (zwG G' q) S n, nc, ns) := by
  unfold Sl_36 at hs
  unfold Fl_36 at kk
  refine z_go2 C 2713 [(.aload_n 1, 1), (.aload_n 0, 1), (.iload 4, 2), (.iconst 1, 1), (.iadd, 1)] (2719, [(0, z_s), (1, z_r 0), (2, z_r 78), (3, z_r 193), (4, .inl i)], [.inl (i + 1), z_s, z_r 0], zW T' (zwG G' q) S n, nc, ns) (by decide +kernel) rfl ⟨trivial, trivial, trivial, trivial, trivial, trivial⟩ ?_
  refine z_sld (v := a1) C (by decide +kernel) hA.g1.1 hA.g1.2 ?_
  refine z_go2 C 2720 [(.aload_n 0, 1), (.iload 4, 2), (.iconst 2, 1), (.iadd, 1)] (2725, [(0, z_s), (1, z_r 0), (2, z_r 78), (3, z_r 193), (4, .inl i)], [.inl (i + 2), z_s, .inl a1, z_r 0], zW T' (zwG G' q) S n, nc, ns) (by decide +kernel) rfl ⟨trivial, trivial, trivial, trivial, trivial⟩ ?_
  refine z_sld (v := a2) C (by decide +kernel) hA.g2.1 hA.g2.2 ?_
  refine z_go2 C 2726 [(.aload_n 0, 1), (.iload 4, 2), (.iconst 3, 1), (.iadd, 1)] (2731, [(0, z_s), (1, z_r 0), (2, z_r 78), (3, z_r 193), (4, .inl i)], [.inl (i + 3), z_s, .inl a2, .inl a1, z_r 0], zW T' (zwG G' q) S n, nc, ns) (by decide +kernel) rfl ⟨trivial, trivial, trivial, trivial, trivial⟩ ?_
  refine z_sld (v := a3) C (by decide +kernel) hA.g3.1 hA.g3.2 ?_
  refine z_go2 C 2732 [(.aload_n 0, 1), (.iload 4, 2), (.iconst 4, 1), (.iadd, 1)] (2737, [(0, z_s), (1, z_r 0), (2, z_r 78), (3, z_r 193), (4, .inl i)], [.inl (i + 4), z_s, .inl a3, .inl a2, .inl a1, z_r 0], zW T' (zwG G' q) S n, nc, ns) (by decide +kernel) rfl ⟨trivial, trivial, trivial, trivial, trivial⟩ ?_
  refine z_sld (v := a4) C (by decide +kernel) hA.g4.1 hA.g4.2 ?_
  obtain ⟨hs1, hs⟩ := hs
  refine z_callH (idx := 277) (hh := hh_L_narrow) C (av := [z_r 0, .inl a1, .inl a2, .inl a3, .inl a4]) (st := []) (by decide +kernel) (c_L_narrow T' G' q S n a1 a2 a3 a4 hs1) hrm (z_wi 1429 (by decide +kernel) rfl) (z_wi 152 (by decide +kernel) rfl) ⟨by decide +kernel, by decide +kernel⟩ (show (parseMethodDescriptor zm_L_narrow.1.desc).map (fun d => d.parameters.length) = some 5 by decide +kernel) (z_wi 1427 (by decide +kernel) rfl) (z_wi 1428 (by decide +kernel) rfl) (zLfit (a := 0) (b := 0) (by decide) (by decide) (by decide) (by decide) hnc hns) rfl (Nat.le_of_ble_eq_true rfl) (fun v w' hv => ?_)
  obtain ⟨n2, q2, hn2, rfl, rfl⟩ := hv
  replace hfl := (hfl.le hn2).q q2
  obtain ⟨S1, hS1⟩ : ∃ y, (F_L_narrow S a1 a2 a3 a4).2 = y := ⟨_, rfl⟩
  rw [hS1] at hs kk ⊢
  obtain ⟨k0, hk0⟩ : ∃ y, (F_L_narrow S a1 a2 a3 a4).1 = y := ⟨_, rfl⟩
  try rw [hk0] at hs
  rw [hk0]
  show z_G X zm_law (2741, [(0, z_s), (1, z_r 0), (2, z_r 78), (3, z_r 193), (4, .inl i)], [.inl k0], zW T' (zwG G' q2) S1 n2, nc + 2, ns + 12)
  refine z_go2 C 2741 [(.istore 5, 2), (.aload_n 2, 1), (.aload_n 0, 1), (.iload 4, 2), (.iconst 1, 1), (.iadd, 1)] (2749, [(5, .inl k0), (0, z_s), (1, z_r 0), (2, z_r 78), (3, z_r 193), (4, .inl i)], [.inl (i + 1), z_s, z_r 78], zW T' (zwG G' q2) S1 n2, nc + 2, ns + 12) (by decide +kernel) rfl ⟨trivial, trivial, trivial, trivial, trivial, trivial, trivial⟩ ?_
  refine z_sld (v := a1) C (by decide +kernel) hA.g1.1 hA.g1.2 ?_
  refine z_go2 C 2750 [(.aload_n 0, 1), (.iload 4, 2), (.iconst 2, 1), (.iadd, 1)] (2755, [(5, .inl k0), (0, z_s), (1, z_r 0), (2, z_r 78), (3, z_r 193), (4, .inl i)], [.inl (i + 2), z_s, .inl a1, z_r 78], zW T' (zwG G' q2) S1 n2, nc + 2, ns + 12) (by decide +kernel) rfl ⟨trivial, trivial, trivial, trivial, trivial⟩ ?_
  refine z_sld (v := a2) C (by decide +kernel) hA.g2.1 hA.g2.2 ?_
  refine z_go2 C 2756 [(.aload_n 0, 1), (.iload 4, 2), (.iconst 3, 1), (.iadd, 1)] (2761, [(5, .inl k0), (0, z_s), (1, z_r 0), (2, z_r 78), (3, z_r 193), (4, .inl i)], [.inl (i + 3), z_s, .inl a2, .inl a1, z_r 78], zW T' (zwG G' q2) S1 n2, nc + 2, ns + 12) (by decide +kernel) rfl ⟨trivial, trivial, trivial, trivial, trivial⟩ ?_
  refine z_sld (v := a3) C (by decide +kernel) hA.g3.1 hA.g3.2 ?_
  refine z_go2 C 2762 [(.aload_n 0, 1), (.iload 4, 2), (.iconst 4, 1), (.iadd, 1)] (2767, [(5, .inl k0), (0, z_s), (1, z_r 0), (2, z_r 78), (3, z_r 193), (4, .inl i)], [.inl (i + 4), z_s, .inl a3, .inl a2, .inl a1, z_r 78], zW T' (zwG G' q2) S1 n2, nc + 2, ns + 12) (by decide +kernel) rfl ⟨trivial, trivial, trivial, trivial, trivial⟩ ?_
  refine z_sld (v := a4) C (by decide +kernel) hA.g4.1 hA.g4.2 ?_
  obtain ⟨hs1, hs⟩ := hs
  refine z_callV C (av := [.inl a1, .inl a2, .inl a3, .inl a4]) (st := []) (a := 78) (ci := 14) (by decide +kernel) (c_M_narrow T' (zwG G' q2) S1 n2 a1 a2 a3 a4 hs1) hrm zl_L_279 zv_M_narrow rfl rfl rfl (zLfit (a := 2) (b := 12) (by decide) (by decide) (by decide) (by decide) hnc hns) rfl (Nat.le_of_ble_eq_true rfl) (fun v w' hv => ?_)
  obtain ⟨rfl, rfl⟩ := hv
  show z_G X zm_law (2771, [(5, .inl k0), (0, z_s), (1, z_r 0), (2, z_r 78), (3, z_r 193), (4, .inl i)], [], zW T' (zwG G' q2) (F_M_narrow S1 a1 a2 a3 a4) n2, nc + 2, ns + 12)
  refine z_go2 C 2771 [(.aload_n 2, 1)] (2772, [(5, .inl k0), (0, z_s), (1, z_r 0), (2, z_r 78), (3, z_r 193), (4, .inl i)], [z_r 78], zW T' (zwG G' q2) (F_M_narrow S1 a1 a2 a3 a4) n2, nc + 2, ns + 12) (by decide +kernel) rfl ⟨trivial, trivial⟩ ?_
  refine z_callV C (av := []) (st := []) (a := 78) (ci := 14) (by decide +kernel) (c_M_thrown T' (zwG G' q2) (F_M_narrow S1 a1 a2 a3 a4) n2) hrm zl_L_156 zv_M_thrown rfl rfl rfl (zLfit (a := 2) (b := 12) (by decide) (by decide) (by decide) (by decide) hnc hns) rfl (Nat.le_of_ble_eq_true rfl) (fun v w' hv => ?_)
  obtain ⟨rfl, rfl⟩ := hv
  show z_G X zm_law (2775, [(5, .inl k0), (0, z_s), (1, z_r 0), (2, z_r 78), (3, z_r 193), (4, .inl i)], [.inl (F_M_thrown (F_M_narrow S1 a1 a2 a3 a4))], zW T' (zwG G' q2) (F_M_narrow S1 a1 a2 a3 a4) n2, nc + 2, ns + 12)
  refine z_go2 C 2775 [(.iload 5, 2)] (2777, [(5, .inl k0), (0, z_s), (1, z_r 0), (2, z_r 78), (3, z_r 193), (4, .inl i)], [.inl k0, .inl (F_M_thrown (F_M_narrow S1 a1 a2 a3 a4))], zW T' (zwG G' q2) (F_M_narrow S1 a1 a2 a3 a4) n2, nc + 2, ns + 12) (by decide +kernel) rfl ⟨trivial, trivial⟩ ?_
  refine z_icmp_eq 2782 C (off := 5) (by decide +kernel) (by decide) (fun c => ?_) (fun c => absurd hs c)
  refine z_go2 C 2782 [(.goto 530, 3)] (3312, [(5, .inl k0), (0, z_s), (1, z_r 0), (2, z_r 78), (3, z_r 193), (4, .inl i)], [], zW T' (zwG G' q2) (F_M_narrow S1 a1 a2 a3 a4) n2, nc + 2, ns + 12) (by decide +kernel) rfl ⟨trivial, trivial⟩ ?_
  exact z_lvs (lv' := zLV i) [1, 2, 3, 4, 5] rfl (z_wid (nc' := nc + 20) (ns' := ns + 200) (zLwid (a := 2) (by decide)) (zLwid (a := 12) (by decide)) (kk _ _ _ _ hn2 hfl))
def Fl_37 (fl : Nat → Nat) (S : (Nat → Nat → Int32)) (a1 a2 a3 a4 a5 a6 : Int32) : (Nat → Nat → Int32) := (F_M_goal (F_L_goal S a1 a2 a3 a4).2 a1 a2 a3 a4).2
def Sl_37 (fl : Nat → Nat) (S : (Nat → Nat → Int32)) (a1 a2 a3 a4 a5 a6 : Int32) : Prop := Sf_L_goal S a1 a2 a3 a4 ∧ Sf_M_goal (F_L_goal S a1 a2 a3 a4).2 a1 a2 a3 a4 ∧ (F_M_thrown (F_M_goal (F_L_goal S a1 a2 a3 a4).2 a1 a2 a3 a4).2 = (F_L_goal S a1 a2 a3 a4).1 ∧ ((F_L_goal S a1 a2 a3 a4).1 = 0 → (F_M_goal (F_L_goal S a1 a2 a3 a4).2 a1 a2 a3 a4).2 193 0 = (F_M_goal (F_L_goal S a1 a2 a3 a4).2 a1 a2 a3 a4).1))
theorem l_37 {X : z_X} (C : z_C X zm_law) (hrm : X.2.2.2.1 = room_1) {T' : Nat → Nat × Nat} {G' : Nat → Nat → Option Nat} {n q nc ns : Nat} {fl : Nat → Nat} (S : (Nat → Nat → Int32)) (i a1 a2 a3 a4 a5 a6 : Int32) (hA : zArg X i a1 a2 a3 a4 a5 a6) (hfl : zOK T' (zwG G' q) fl n) (hnc : nc + 20 ≤ 601024) (hns : ns + 200 ≤ 7293034) (hs : Sl_37 fl S a1 a2 a3 a4 a5 a6) (kk : ∀ T2 G2 n2 q2, n ≤ n2 → zOK T2 (zwG G2 q2) fl n2 → z_G X zm_law (3312, zLV i, [], zW T2 (zwG G2 q2) (Fl_37 fl S a1 a2 a3 a4 a5 a6) n2, nc + 20, ns + 200)) : z_G X zm_law (2785, zLV i, [], zW T' (zwG G' q) S n, nc, ns) := by
  unfold Sl_37 at hs
  unfold Fl_37 at kk
  refine z_go2 C 2785 [(.aload_n 1, 1), (.aload_n 0, 1), (.iload 4, 2), (.iconst 1, 1), (.iadd, 1)] (2791, [(0, z_s), (1, z_r 0), (2, z_r 78), (3, z_r 193), (4, .inl i)], [.inl (i + 1), z_s, z_r 0], zW T' (zwG G' q) S n, nc, ns) (by decide +kernel) rfl ⟨trivial, trivial, trivial, trivial, trivial, trivial⟩ ?_
  refine z_sld (v := a1) C (by decide +kernel) hA.g1.1 hA.g1.2 ?_
  refine z_go2 C 2792 [(.aload_n 0, 1), (.iload 4, 2), (.iconst 2, 1), (.iadd, 1)] (2797, [(0, z_s), (1, z_r 0), (2, z_r 78), (3, z_r 193), (4, .inl i)], [.inl (i + 2), z_s, .inl a1, z_r 0], zW T' (zwG G' q) S n, nc, ns) (by decide +kernel) rfl ⟨trivial, trivial, trivial, trivial, trivial⟩ ?_
  refine z_sld (v := a2) C (by decide +kernel) hA.g2.1 hA.g2.2 ?_
  refine z_go2 C 2798 [(.aload_n 0, 1), (.iload 4, 2), (.iconst 3, 1), (.iadd, 1)] (2803, [(0, z_s), (1, z_r 0), (2, z_r 78), (3, z_r 193), (4, .inl i)], [.inl (i + 3), z_s, .inl a2, .inl a1, z_r 0], zW T' (zwG G' q) S n, nc, ns) (by decide +kernel) rfl ⟨trivial, trivial, trivial, trivial, trivial⟩ ?_
  refine z_sld (v := a3) C (by decide +kernel) hA.g3.1 hA.g3.2 ?_
  refine z_go2 C 2804 [(.aload_n 0, 1), (.iload 4, 2), (.iconst 4, 1), (.iadd, 1)] (2809, [(0, z_s), (1, z_r 0), (2, z_r 78), (3, z_r 193), (4, .inl i)], [.inl (i + 4), z_s, .inl a3, .inl a2, .inl a1, z_r 0], zW T' (zwG G' q) S n, nc, ns) (by decide +kernel) rfl ⟨trivial, trivial, trivial, trivial, trivial⟩ ?_
  refine z_sld (v := a4) C (by decide +kernel) hA.g4.1 hA.g4.2 ?_
  refine z_go2 C 2810 [(.aload_n 3, 1)] (2811, [(0, z_s), (1, z_r 0), (2, z_r 78), (3, z_r 193), (4, .inl i)], [z_r 193, .inl a4, .inl a3, .inl a2, .inl a1, z_r 0], zW T' (zwG G' q) S n, nc, ns) (by decide +kernel) rfl ⟨trivial, trivial⟩ ?_
  obtain ⟨hs1, hs⟩ := hs
  refine z_callH (idx := 280) (hh := hh_L_goal) C (av := [z_r 0, .inl a1, .inl a2, .inl a3, .inl a4, z_r 193]) (st := []) (by decide +kernel) (c_L_goal T' G' q S n a1 a2 a3 a4 hs1) hrm (z_wi 1436 (by decide +kernel) rfl) (z_wi 152 (by decide +kernel) rfl) ⟨by decide +kernel, by decide +kernel⟩ (show (parseMethodDescriptor zm_L_goal.1.desc).map (fun d => d.parameters.length) = some 6 by decide +kernel) (z_wi 1434 (by decide +kernel) rfl) (z_wi 1435 (by decide +kernel) rfl) (zLfit (a := 0) (b := 0) (by decide) (by decide) (by decide) (by decide) hnc hns) rfl (Nat.le_of_ble_eq_true rfl) (fun v w' hv => ?_)
  obtain ⟨n2, q2, hn2, rfl, rfl⟩ := hv
  replace hfl := (hfl.le hn2).q q2
  obtain ⟨S1, hS1⟩ : ∃ y, (F_L_goal S a1 a2 a3 a4).2 = y := ⟨_, rfl⟩
  rw [hS1] at hs kk ⊢
  obtain ⟨k0, hk0⟩ : ∃ y, (F_L_goal S a1 a2 a3 a4).1 = y := ⟨_, rfl⟩
  try rw [hk0] at hs
  rw [hk0]
  show z_G X zm_law (2814, [(0, z_s), (1, z_r 0), (2, z_r 78), (3, z_r 193), (4, .inl i)], [.inl k0], zW T' (zwG G' q2) S1 n2, nc + 2, ns + 12)
  refine z_go2 C 2814 [(.istore 5, 2), (.aload_n 2, 1), (.aload_n 0, 1), (.iload 4, 2), (.iconst 1, 1), (.iadd, 1)] (2822, [(5, .inl k0), (0, z_s), (1, z_r 0), (2, z_r 78), (3, z_r 193), (4, .inl i)], [.inl (i + 1), z_s, z_r 78], zW T' (zwG G' q2) S1 n2, nc + 2, ns + 12) (by decide +kernel) rfl ⟨trivial, trivial, trivial, trivial, trivial, trivial, trivial⟩ ?_
  refine z_sld (v := a1) C (by decide +kernel) hA.g1.1 hA.g1.2 ?_
  refine z_go2 C 2823 [(.aload_n 0, 1), (.iload 4, 2), (.iconst 2, 1), (.iadd, 1)] (2828, [(5, .inl k0), (0, z_s), (1, z_r 0), (2, z_r 78), (3, z_r 193), (4, .inl i)], [.inl (i + 2), z_s, .inl a1, z_r 78], zW T' (zwG G' q2) S1 n2, nc + 2, ns + 12) (by decide +kernel) rfl ⟨trivial, trivial, trivial, trivial, trivial⟩ ?_
  refine z_sld (v := a2) C (by decide +kernel) hA.g2.1 hA.g2.2 ?_
  refine z_go2 C 2829 [(.aload_n 0, 1), (.iload 4, 2), (.iconst 3, 1), (.iadd, 1)] (2834, [(5, .inl k0), (0, z_s), (1, z_r 0), (2, z_r 78), (3, z_r 193), (4, .inl i)], [.inl (i + 3), z_s, .inl a2, .inl a1, z_r 78], zW T' (zwG G' q2) S1 n2, nc + 2, ns + 12) (by decide +kernel) rfl ⟨trivial, trivial, trivial, trivial, trivial⟩ ?_
  refine z_sld (v := a3) C (by decide +kernel) hA.g3.1 hA.g3.2 ?_
  refine z_go2 C 2835 [(.aload_n 0, 1), (.iload 4, 2), (.iconst 4, 1), (.iadd, 1)] (2840, [(5, .inl k0), (0, z_s), (1, z_r 0), (2, z_r 78), (3, z_r 193), (4, .inl i)], [.inl (i + 4), z_s, .inl a3, .inl a2, .inl a1, z_r 78], zW T' (zwG G' q2) S1 n2, nc + 2, ns + 12) (by decide +kernel) rfl ⟨trivial, trivial, trivial, trivial, trivial⟩ ?_
  refine z_sld (v := a4) C (by decide +kernel) hA.g4.1 hA.g4.2 ?_
  obtain ⟨hs1, hs⟩ := hs
  refine z_callV C (av := [.inl a1, .inl a2, .inl a3, .inl a4]) (st := []) (a := 78) (ci := 14) (by decide +kernel) (c_M_goal T' (zwG G' q2) S1 n2 a1 a2 a3 a4 hs1) hrm zl_L_282 zv_M_goal rfl rfl rfl (zLfit (a := 2) (b := 12) (by decide) (by decide) (by decide) (by decide) hnc hns) rfl (Nat.le_of_ble_eq_true rfl) (fun v w' hv => ?_)
  obtain ⟨rfl, rfl⟩ := hv
  show z_G X zm_law (2844, [(5, .inl k0), (0, z_s), (1, z_r 0), (2, z_r 78), (3, z_r 193), (4, .inl i)], [.inl (F_M_goal S1 a1 a2 a3 a4).1], zW T' (zwG G' q2) (F_M_goal S1 a1 a2 a3 a4).2 n2, nc + 2, ns + 12)
  refine z_go2 C 2844 [(.istore 6, 2), (.aload_n 2, 1)] (2847, [(6, .inl (F_M_goal S1 a1 a2 a3 a4).1), (5, .inl k0), (0, z_s), (1, z_r 0), (2, z_r 78), (3, z_r 193), (4, .inl i)], [z_r 78], zW T' (zwG G' q2) (F_M_goal S1 a1 a2 a3 a4).2 n2, nc + 2, ns + 12) (by decide +kernel) rfl ⟨trivial, trivial, trivial⟩ ?_
  refine z_callV C (av := []) (st := []) (a := 78) (ci := 14) (by decide +kernel) (c_M_thrown T' (zwG G' q2) (F_M_goal S1 a1 a2 a3 a4).2 n2) hrm zl_L_156 zv_M_thrown rfl rfl rfl (zLfit (a := 2) (b := 12) (by decide) (by decide) (by decide) (by decide) hnc hns) rfl (Nat.le_of_ble_eq_true rfl) (fun v w' hv => ?_)
  obtain ⟨rfl, rfl⟩ := hv
  show z_G X zm_law (2850, [(6, .inl (F_M_goal S1 a1 a2 a3 a4).1), (5, .inl k0), (0, z_s), (1, z_r 0), (2, z_r 78), (3, z_r 193), (4, .inl i)], [.inl (F_M_thrown (F_M_goal S1 a1 a2 a3 a4).2)], zW T' (zwG G' q2) (F_M_goal S1 a1 a2 a3 a4).2 n2, nc + 2, ns + 12)
  refine z_go2 C 2850 [(.iload 5, 2)] (2852, [(6, .inl (F_M_goal S1 a1 a2 a3 a4).1), (5, .inl k0), (0, z_s), (1, z_r 0), (2, z_r 78), (3, z_r 193), (4, .inl i)], [.inl k0, .inl (F_M_thrown (F_M_goal S1 a1 a2 a3 a4).2)], zW T' (zwG G' q2) (F_M_goal S1 a1 a2 a3 a4).2 n2, nc + 2, ns + 12) (by decide +kernel) rfl ⟨trivial, trivial⟩ ?_
  refine z_icmp_eq 2857 C (off := 5) (by decide +kernel) (by decide) (fun c => ?_) (fun c => absurd hs.1 c)
  refine z_go2 C 2857 [(.iload 5, 2)] (2859, [(6, .inl (F_M_goal S1 a1 a2 a3 a4).1), (5, .inl k0), (0, z_s), (1, z_r 0), (2, z_r 78), (3, z_r 193), (4, .inl i)], [.inl k0], zW T' (zwG G' q2) (F_M_goal S1 a1 a2 a3 a4).2 n2, nc + 2, ns + 12) (by decide +kernel) rfl ⟨trivial, trivial⟩ ?_
  refine z_if_ne 2874 C (off := 15) (by decide +kernel) (by decide) (fun c => ?_) (fun c => ?_)
  · refine z_go2 C 2874 [(.goto 438, 3)] (3312, [(6, .inl (F_M_goal S1 a1 a2 a3 a4).1), (5, .inl k0), (0, z_s), (1, z_r 0), (2, z_r 78), (3, z_r 193), (4, .inl i)], [], zW T' (zwG G' q2) (F_M_goal S1 a1 a2 a3 a4).2 n2, nc + 2, ns + 12) (by decide +kernel) rfl ⟨trivial, trivial⟩ ?_
    exact z_lvs (lv' := zLV i) [2, 3, 4, 5, 6] rfl (z_wid (nc' := nc + 20) (ns' := ns + 200) (zLwid (a := 2) (by decide)) (zLwid (a := 12) (by decide)) (kk _ _ _ _ hn2 hfl))
  · refine z_go2 C 2862 [(.aload_n 3, 1), (.iconst 0, 1), (.laload, 1), (.iload 6, 2), (.i2l, 1), (.lcmp, 1)] (2869, [(6, .inl (F_M_goal S1 a1 a2 a3 a4).1), (5, .inl k0), (0, z_s), (1, z_r 0), (2, z_r 78), (3, z_r 193), (4, .inl i)], [.inl (lg_cmp ((F_M_goal S1 a1 a2 a3 a4).2 193 0).toInt64 (F_M_goal S1 a1 a2 a3 a4).1.toInt64)], zW T' (zwG G' q2) (F_M_goal S1 a1 a2 a3 a4).2 n2, nc + 2, ns + 12) (by decide +kernel) rfl ⟨trivial, trivial, ⟨rfl, (show vp_in 0 1 by unfold vp_in; decide)⟩, trivial, trivial, trivial, trivial⟩ ?_
    refine z_if_eq 2874 C (off := 5) (by decide +kernel) (by decide) (fun c2 => ?_) (fun c2 => absurd (by rw [hs.2 c]; exact lg_cmp_self _) c2)
    refine z_go2 C 2874 [(.goto 438, 3)] (3312, [(6, .inl (F_M_goal S1 a1 a2 a3 a4).1), (5, .inl k0), (0, z_s), (1, z_r 0), (2, z_r 78), (3, z_r 193), (4, .inl i)], [], zW T' (zwG G' q2) (F_M_goal S1 a1 a2 a3 a4).2 n2, nc + 2, ns + 12) (by decide +kernel) rfl ⟨trivial, trivial⟩ ?_
    exact z_lvs (lv' := zLV i) [2, 3, 4, 5, 6] rfl (z_wid (nc' := nc + 20) (ns' := ns + 200) (zLwid (a := 2) (by decide)) (zLwid (a := 12) (by decide)) (kk _ _ _ _ hn2 hfl))
def Fl_38 (fl : Nat → Nat) (S : (Nat → Nat → Int32)) (a1 a2 a3 a4 a5 a6 : Int32) : (Nat → Nat → Int32) := (F_M_left (F_L_left S a1).2 a1).2
def Sl_38 (fl : Nat → Nat) (S : (Nat → Nat → Int32)) (a1 a2 a3 a4 a5 a6 : Int32) : Prop := Sf_L_left S a1 ∧ Sf_M_left (F_L_left S a1).2 a1 ∧ (F_M_thrown (F_M_left (F_L_left S a1).2 a1).2 = (F_L_left S a1).1 ∧ ((F_L_left S a1).1 = 0 → (F_M_left (F_L_left S a1).2 a1).2 193 0 = (F_M_left (F_L_left S a1).2 a1).1))
theorem l_38 {X : z_X} (C : z_C X zm_law) (hrm : X.2.2.2.1 = room_1) {T' : Nat → Nat × Nat} {G' : Nat → Nat → Option Nat} {n q nc ns : Nat} {fl : Nat → Nat} (S : (Nat → Nat → Int32)) (i a1 a2 a3 a4 a5 a6 : Int32) (hA : zArg X i a1 a2 a3 a4 a5 a6) (hfl : zOK T' (zwG G' q) fl n) (hnc : nc + 20 ≤ 601024) (hns : ns + 200 ≤ 7293034) (hs : Sl_38 fl S a1 a2 a3 a4 a5 a6) (kk : ∀ T2 G2 n2 q2, n ≤ n2 → zOK T2 (zwG G2 q2) fl n2 → z_G X zm_law (3312, zLV i, [], zW T2 (zwG G2 q2) (Fl_38 fl S a1 a2 a3 a4 a5 a6) n2, nc + 20, ns + 200)) : z_G X zm_law (2877, zLV i, [], zW T' (zwG G' q) S n, nc, ns) := by
  unfold Sl_38 at hs
  unfold Fl_38 at kk
  refine z_go2 C 2877 [(.aload_n 1, 1), (.aload_n 0, 1), (.iload 4, 2), (.iconst 1, 1), (.iadd, 1)] (2883, [(0, z_s), (1, z_r 0), (2, z_r 78), (3, z_r 193), (4, .inl i)], [.inl (i + 1), z_s, z_r 0], zW T' (zwG G' q) S n, nc, ns) (by decide +kernel) rfl ⟨trivial, trivial, trivial, trivial, trivial, trivial⟩ ?_
  refine z_sld (v := a1) C (by decide +kernel) hA.g1.1 hA.g1.2 ?_
  refine z_go2 C 2884 [(.aload_n 3, 1)] (2885, [(0, z_s), (1, z_r 0), (2, z_r 78), (3, z_r 193), (4, .inl i)], [z_r 193, .inl a1, z_r 0], zW T' (zwG G' q) S n, nc, ns) (by decide +kernel) rfl ⟨trivial, trivial⟩ ?_
  obtain ⟨hs1, hs⟩ := hs
  refine z_callH (idx := 283) (hh := hh_L_left) C (av := [z_r 0, .inl a1, z_r 193]) (st := []) (by decide +kernel) (c_L_left T' G' q S n a1 hs1) hrm (z_wi 1443 (by decide +kernel) rfl) (z_wi 152 (by decide +kernel) rfl) ⟨by decide +kernel, by decide +kernel⟩ (show (parseMethodDescriptor zm_L_left.1.desc).map (fun d => d.parameters.length) = some 3 by decide +kernel) (z_wi 1441 (by decide +kernel) rfl) (z_wi 1442 (by decide +kernel) rfl) (zLfit (a := 0) (b := 0) (by decide) (by decide) (by decide) (by decide) hnc hns) rfl (Nat.le_of_ble_eq_true rfl) (fun v w' hv => ?_)
  obtain ⟨n2, q2, hn2, rfl, rfl⟩ := hv
  replace hfl := (hfl.le hn2).q q2
  obtain ⟨S1, hS1⟩ : ∃ y, (F_L_left S a1).2 = y := ⟨_, rfl⟩
  rw [hS1] at hs kk ⊢
  obtain ⟨k0, hk0⟩ : ∃ y, (F_L_left S a1).1 = y := ⟨_, rfl⟩
  try rw [hk0] at hs
  rw [hk0]
  show z_G X zm_law (2888, [(0, z_s), (1, z_r 0), (2, z_r 78), (3, z_r 193), (4, .inl i)], [.inl k0], zW T' (zwG G' q2) S1 n2, nc + 2, ns + 12)
  refine z_go2 C 2888 [(.istore 5, 2), (.aload_n 2, 1), (.aload_n 0, 1), (.iload 4, 2), (.iconst 1, 1), (.iadd, 1)] (2896, [(5, .inl k0), (0, z_s), (1, z_r 0), (2, z_r 78), (3, z_r 193), (4, .inl i)], [.inl (i + 1), z_s, z_r 78], zW T' (zwG G' q2) S1 n2, nc + 2, ns + 12) (by decide +kernel) rfl ⟨trivial, trivial, trivial, trivial, trivial, trivial, trivial⟩ ?_
  refine z_sld (v := a1) C (by decide +kernel) hA.g1.1 hA.g1.2 ?_
  obtain ⟨hs1, hs⟩ := hs
  refine z_callV C (av := [.inl a1]) (st := []) (a := 78) (ci := 14) (by decide +kernel) (c_M_left T' (zwG G' q2) S1 n2 a1 hs1) hrm zl_L_285 zv_M_left rfl rfl rfl (zLfit (a := 2) (b := 12) (by decide) (by decide) (by decide) (by decide) hnc hns) rfl (Nat.le_of_ble_eq_true rfl) (fun v w' hv => ?_)
  obtain ⟨rfl, rfl⟩ := hv
  show z_G X zm_law (2900, [(5, .inl k0), (0, z_s), (1, z_r 0), (2, z_r 78), (3, z_r 193), (4, .inl i)], [.inl (F_M_left S1 a1).1], zW T' (zwG G' q2) (F_M_left S1 a1).2 n2, nc + 2, ns + 12)
  refine z_go2 C 2900 [(.istore 6, 2), (.aload_n 2, 1)] (2903, [(6, .inl (F_M_left S1 a1).1), (5, .inl k0), (0, z_s), (1, z_r 0), (2, z_r 78), (3, z_r 193), (4, .inl i)], [z_r 78], zW T' (zwG G' q2) (F_M_left S1 a1).2 n2, nc + 2, ns + 12) (by decide +kernel) rfl ⟨trivial, trivial, trivial⟩ ?_
  refine z_callV C (av := []) (st := []) (a := 78) (ci := 14) (by decide +kernel) (c_M_thrown T' (zwG G' q2) (F_M_left S1 a1).2 n2) hrm zl_L_156 zv_M_thrown rfl rfl rfl (zLfit (a := 2) (b := 12) (by decide) (by decide) (by decide) (by decide) hnc hns) rfl (Nat.le_of_ble_eq_true rfl) (fun v w' hv => ?_)
  obtain ⟨rfl, rfl⟩ := hv
  show z_G X zm_law (2906, [(6, .inl (F_M_left S1 a1).1), (5, .inl k0), (0, z_s), (1, z_r 0), (2, z_r 78), (3, z_r 193), (4, .inl i)], [.inl (F_M_thrown (F_M_left S1 a1).2)], zW T' (zwG G' q2) (F_M_left S1 a1).2 n2, nc + 2, ns + 12)
  refine z_go2 C 2906 [(.iload 5, 2)] (2908, [(6, .inl (F_M_left S1 a1).1), (5, .inl k0), (0, z_s), (1, z_r 0), (2, z_r 78), (3, z_r 193), (4, .inl i)], [.inl k0, .inl (F_M_thrown (F_M_left S1 a1).2)], zW T' (zwG G' q2) (F_M_left S1 a1).2 n2, nc + 2, ns + 12) (by decide +kernel) rfl ⟨trivial, trivial⟩ ?_
  refine z_icmp_eq 2913 C (off := 5) (by decide +kernel) (by decide) (fun c => ?_) (fun c => absurd hs.1 c)
  refine z_go2 C 2913 [(.iload 5, 2)] (2915, [(6, .inl (F_M_left S1 a1).1), (5, .inl k0), (0, z_s), (1, z_r 0), (2, z_r 78), (3, z_r 193), (4, .inl i)], [.inl k0], zW T' (zwG G' q2) (F_M_left S1 a1).2 n2, nc + 2, ns + 12) (by decide +kernel) rfl ⟨trivial, trivial⟩ ?_
  refine z_if_ne 2930 C (off := 15) (by decide +kernel) (by decide) (fun c => ?_) (fun c => ?_)
  · refine z_go2 C 2930 [(.goto 382, 3)] (3312, [(6, .inl (F_M_left S1 a1).1), (5, .inl k0), (0, z_s), (1, z_r 0), (2, z_r 78), (3, z_r 193), (4, .inl i)], [], zW T' (zwG G' q2) (F_M_left S1 a1).2 n2, nc + 2, ns + 12) (by decide +kernel) rfl ⟨trivial, trivial⟩ ?_
    exact z_lvs (lv' := zLV i) [2, 3, 4, 5, 6] rfl (z_wid (nc' := nc + 20) (ns' := ns + 200) (zLwid (a := 2) (by decide)) (zLwid (a := 12) (by decide)) (kk _ _ _ _ hn2 hfl))
  · refine z_go2 C 2918 [(.aload_n 3, 1), (.iconst 0, 1), (.laload, 1), (.iload 6, 2), (.i2l, 1), (.lcmp, 1)] (2925, [(6, .inl (F_M_left S1 a1).1), (5, .inl k0), (0, z_s), (1, z_r 0), (2, z_r 78), (3, z_r 193), (4, .inl i)], [.inl (lg_cmp ((F_M_left S1 a1).2 193 0).toInt64 (F_M_left S1 a1).1.toInt64)], zW T' (zwG G' q2) (F_M_left S1 a1).2 n2, nc + 2, ns + 12) (by decide +kernel) rfl ⟨trivial, trivial, ⟨rfl, (show vp_in 0 1 by unfold vp_in; decide)⟩, trivial, trivial, trivial, trivial⟩ ?_
    refine z_if_eq 2930 C (off := 5) (by decide +kernel) (by decide) (fun c2 => ?_) (fun c2 => absurd (by rw [hs.2 c]; exact lg_cmp_self _) c2)
    refine z_go2 C 2930 [(.goto 382, 3)] (3312, [(6, .inl (F_M_left S1 a1).1), (5, .inl k0), (0, z_s), (1, z_r 0), (2, z_r 78), (3, z_r 193), (4, .inl i)], [], zW T' (zwG G' q2) (F_M_left S1 a1).2 n2, nc + 2, ns + 12) (by decide +kernel) rfl ⟨trivial, trivial⟩ ?_
    exact z_lvs (lv' := zLV i) [2, 3, 4, 5, 6] rfl (z_wid (nc' := nc + 20) (ns' := ns + 200) (zLwid (a := 2) (by decide)) (zLwid (a := 12) (by decide)) (kk _ _ _ _ hn2 hfl))
def Fl_39 (fl : Nat → Nat) (S : (Nat → Nat → Int32)) (a1 a2 a3 a4 a5 a6 : Int32) : (Nat → Nat → Int32) := (F_M_breach (F_L_breach S a1).2 a1).2
def Sl_39 (fl : Nat → Nat) (S : (Nat → Nat → Int32)) (a1 a2 a3 a4 a5 a6 : Int32) : Prop := Sf_L_breach S a1 ∧ Sf_M_breach (F_L_breach S a1).2 a1 ∧ (F_M_thrown (F_M_breach (F_L_breach S a1).2 a1).2 = (F_L_breach S a1).1 ∧ ((F_L_breach S a1).1 = 0 → (F_M_breach (F_L_breach S a1).2 a1).2 193 0 = (F_M_breach (F_L_breach S a1).2 a1).1))
theorem l_39 {X : z_X} (C : z_C X zm_law) (hrm : X.2.2.2.1 = room_1) {T' : Nat → Nat × Nat} {G' : Nat → Nat → Option Nat} {n q nc ns : Nat} {fl : Nat → Nat} (S : (Nat → Nat → Int32)) (i a1 a2 a3 a4 a5 a6 : Int32) (hA : zArg X i a1 a2 a3 a4 a5 a6) (hfl : zOK T' (zwG G' q) fl n) (hnc : nc + 20 ≤ 601024) (hns : ns + 200 ≤ 7293034) (hs : Sl_39 fl S a1 a2 a3 a4 a5 a6) (kk : ∀ T2 G2 n2 q2, n ≤ n2 → zOK T2 (zwG G2 q2) fl n2 → z_G X zm_law (3312, zLV i, [], zW T2 (zwG G2 q2) (Fl_39 fl S a1 a2 a3 a4 a5 a6) n2, nc + 20, ns + 200)) : z_G X zm_law (2933, zLV i, [], zW T' (zwG G' q) S n, nc, ns) := by
  unfold Sl_39 at hs
  unfold Fl_39 at kk
  refine z_go2 C 2933 [(.aload_n 1, 1), (.aload_n 0, 1), (.iload 4, 2), (.iconst 1, 1), (.iadd, 1)] (2939, [(0, z_s), (1, z_r 0), (2, z_r 78), (3, z_r 193), (4, .inl i)], [.inl (i + 1), z_s, z_r 0], zW T' (zwG G' q) S n, nc, ns) (by decide +kernel) rfl ⟨trivial, trivial, trivial, trivial, trivial, trivial⟩ ?_
  refine z_sld (v := a1) C (by decide +kernel) hA.g1.1 hA.g1.2 ?_
  refine z_go2 C 2940 [(.aload_n 3, 1)] (2941, [(0, z_s), (1, z_r 0), (2, z_r 78), (3, z_r 193), (4, .inl i)], [z_r 193, .inl a1, z_r 0], zW T' (zwG G' q) S n, nc, ns) (by decide +kernel) rfl ⟨trivial, trivial⟩ ?_
  obtain ⟨hs1, hs⟩ := hs
  refine z_callH (idx := 286) (hh := hh_L_breach) C (av := [z_r 0, .inl a1, z_r 193]) (st := []) (by decide +kernel) (c_L_breach T' G' q S n a1 hs1) hrm (z_wi 1461 (by decide +kernel) rfl) (z_wi 152 (by decide +kernel) rfl) ⟨by decide +kernel, by decide +kernel⟩ (show (parseMethodDescriptor zm_L_breach.1.desc).map (fun d => d.parameters.length) = some 3 by decide +kernel) (z_wi 1459 (by decide +kernel) rfl) (z_wi 1460 (by decide +kernel) rfl) (zLfit (a := 0) (b := 0) (by decide) (by decide) (by decide) (by decide) hnc hns) rfl (Nat.le_of_ble_eq_true rfl) (fun v w' hv => ?_)
  obtain ⟨n2, q2, hn2, rfl, rfl⟩ := hv
  replace hfl := (hfl.le hn2).q q2
  obtain ⟨S1, hS1⟩ : ∃ y, (F_L_breach S a1).2 = y := ⟨_, rfl⟩
  rw [hS1] at hs kk ⊢
  obtain ⟨k0, hk0⟩ : ∃ y, (F_L_breach S a1).1 = y := ⟨_, rfl⟩
  try rw [hk0] at hs
  rw [hk0]
  show z_G X zm_law (2944, [(0, z_s), (1, z_r 0), (2, z_r 78), (3, z_r 193), (4, .inl i)], [.inl k0], zW T' (zwG G' q2) S1 n2, nc + 2, ns + 12)
  refine z_go2 C 2944 [(.istore 5, 2), (.aload_n 2, 1), (.aload_n 0, 1), (.iload 4, 2), (.iconst 1, 1), (.iadd, 1)] (2952, [(5, .inl k0), (0, z_s), (1, z_r 0), (2, z_r 78), (3, z_r 193), (4, .inl i)], [.inl (i + 1), z_s, z_r 78], zW T' (zwG G' q2) S1 n2, nc + 2, ns + 12) (by decide +kernel) rfl ⟨trivial, trivial, trivial, trivial, trivial, trivial, trivial⟩ ?_
  refine z_sld (v := a1) C (by decide +kernel) hA.g1.1 hA.g1.2 ?_
  obtain ⟨hs1, hs⟩ := hs
  refine z_callV C (av := [.inl a1]) (st := []) (a := 78) (ci := 14) (by decide +kernel) (c_M_breach T' (zwG G' q2) S1 n2 a1 hs1) hrm zl_L_288 zv_M_breach rfl rfl rfl (zLfit (a := 2) (b := 12) (by decide) (by decide) (by decide) (by decide) hnc hns) rfl (Nat.le_of_ble_eq_true rfl) (fun v w' hv => ?_)
  obtain ⟨rfl, rfl⟩ := hv
  show z_G X zm_law (2956, [(5, .inl k0), (0, z_s), (1, z_r 0), (2, z_r 78), (3, z_r 193), (4, .inl i)], [.inl (F_M_breach S1 a1).1], zW T' (zwG G' q2) (F_M_breach S1 a1).2 n2, nc + 2, ns + 12)
  refine z_go2 C 2956 [(.istore 6, 2), (.aload_n 2, 1)] (2959, [(6, .inl (F_M_breach S1 a1).1), (5, .inl k0), (0, z_s), (1, z_r 0), (2, z_r 78), (3, z_r 193), (4, .inl i)], [z_r 78], zW T' (zwG G' q2) (F_M_breach S1 a1).2 n2, nc + 2, ns + 12) (by decide +kernel) rfl ⟨trivial, trivial, trivial⟩ ?_
  refine z_callV C (av := []) (st := []) (a := 78) (ci := 14) (by decide +kernel) (c_M_thrown T' (zwG G' q2) (F_M_breach S1 a1).2 n2) hrm zl_L_156 zv_M_thrown rfl rfl rfl (zLfit (a := 2) (b := 12) (by decide) (by decide) (by decide) (by decide) hnc hns) rfl (Nat.le_of_ble_eq_true rfl) (fun v w' hv => ?_)
  obtain ⟨rfl, rfl⟩ := hv
  show z_G X zm_law (2962, [(6, .inl (F_M_breach S1 a1).1), (5, .inl k0), (0, z_s), (1, z_r 0), (2, z_r 78), (3, z_r 193), (4, .inl i)], [.inl (F_M_thrown (F_M_breach S1 a1).2)], zW T' (zwG G' q2) (F_M_breach S1 a1).2 n2, nc + 2, ns + 12)
  refine z_go2 C 2962 [(.iload 5, 2)] (2964, [(6, .inl (F_M_breach S1 a1).1), (5, .inl k0), (0, z_s), (1, z_r 0), (2, z_r 78), (3, z_r 193), (4, .inl i)], [.inl k0, .inl (F_M_thrown (F_M_breach S1 a1).2)], zW T' (zwG G' q2) (F_M_breach S1 a1).2 n2, nc + 2, ns + 12) (by decide +kernel) rfl ⟨trivial, trivial⟩ ?_
  refine z_icmp_eq 2969 C (off := 5) (by decide +kernel) (by decide) (fun c => ?_) (fun c => absurd hs.1 c)
  refine z_go2 C 2969 [(.iload 5, 2)] (2971, [(6, .inl (F_M_breach S1 a1).1), (5, .inl k0), (0, z_s), (1, z_r 0), (2, z_r 78), (3, z_r 193), (4, .inl i)], [.inl k0], zW T' (zwG G' q2) (F_M_breach S1 a1).2 n2, nc + 2, ns + 12) (by decide +kernel) rfl ⟨trivial, trivial⟩ ?_
  refine z_if_ne 2986 C (off := 15) (by decide +kernel) (by decide) (fun c => ?_) (fun c => ?_)
  · refine z_go2 C 2986 [(.goto 326, 3)] (3312, [(6, .inl (F_M_breach S1 a1).1), (5, .inl k0), (0, z_s), (1, z_r 0), (2, z_r 78), (3, z_r 193), (4, .inl i)], [], zW T' (zwG G' q2) (F_M_breach S1 a1).2 n2, nc + 2, ns + 12) (by decide +kernel) rfl ⟨trivial, trivial⟩ ?_
    exact z_lvs (lv' := zLV i) [2, 3, 4, 5, 6] rfl (z_wid (nc' := nc + 20) (ns' := ns + 200) (zLwid (a := 2) (by decide)) (zLwid (a := 12) (by decide)) (kk _ _ _ _ hn2 hfl))
  · refine z_go2 C 2974 [(.aload_n 3, 1), (.iconst 0, 1), (.laload, 1), (.iload 6, 2), (.i2l, 1), (.lcmp, 1)] (2981, [(6, .inl (F_M_breach S1 a1).1), (5, .inl k0), (0, z_s), (1, z_r 0), (2, z_r 78), (3, z_r 193), (4, .inl i)], [.inl (lg_cmp ((F_M_breach S1 a1).2 193 0).toInt64 (F_M_breach S1 a1).1.toInt64)], zW T' (zwG G' q2) (F_M_breach S1 a1).2 n2, nc + 2, ns + 12) (by decide +kernel) rfl ⟨trivial, trivial, ⟨rfl, (show vp_in 0 1 by unfold vp_in; decide)⟩, trivial, trivial, trivial, trivial⟩ ?_
    refine z_if_eq 2986 C (off := 5) (by decide +kernel) (by decide) (fun c2 => ?_) (fun c2 => absurd (by rw [hs.2 c]; exact lg_cmp_self _) c2)
    refine z_go2 C 2986 [(.goto 326, 3)] (3312, [(6, .inl (F_M_breach S1 a1).1), (5, .inl k0), (0, z_s), (1, z_r 0), (2, z_r 78), (3, z_r 193), (4, .inl i)], [], zW T' (zwG G' q2) (F_M_breach S1 a1).2 n2, nc + 2, ns + 12) (by decide +kernel) rfl ⟨trivial, trivial⟩ ?_
    exact z_lvs (lv' := zLV i) [2, 3, 4, 5, 6] rfl (z_wid (nc' := nc + 20) (ns' := ns + 200) (zLwid (a := 2) (by decide)) (zLwid (a := 12) (by decide)) (kk _ _ _ _ hn2 hfl))
def Fl_40 (fl : Nat → Nat) (S : (Nat → Nat → Int32)) (a1 a2 a3 a4 a5 a6 : Int32) : (Nat → Nat → Int32) := (F_M_bulk fl (F_L_bulk S a1 a2 a3).2 a1 a2 a3).2
def Sl_40 (fl : Nat → Nat) (S : (Nat → Nat → Int32)) (a1 a2 a3 a4 a5 a6 : Int32) : Prop := Sf_L_bulk S a1 a2 a3 ∧ Sf_M_bulk fl (F_L_bulk S a1 a2 a3).2 a1 a2 a3 ∧ (F_M_thrown (F_M_bulk fl (F_L_bulk S a1 a2 a3).2 a1 a2 a3).2 = (F_L_bulk S a1 a2 a3).1 ∧ ((F_L_bulk S a1 a2 a3).1 = 0 → (F_M_bulk fl (F_L_bulk S a1 a2 a3).2 a1 a2 a3).2 193 0 = (F_M_bulk fl (F_L_bulk S a1 a2 a3).2 a1 a2 a3).1))
theorem l_40 {X : z_X} (C : z_C X zm_law) (hrm : X.2.2.2.1 = room_1) {T' : Nat → Nat × Nat} {G' : Nat → Nat → Option Nat} {n q nc ns : Nat} {fl : Nat → Nat} (S : (Nat → Nat → Int32)) (i a1 a2 a3 a4 a5 a6 : Int32) (hA : zArg X i a1 a2 a3 a4 a5 a6) (hfl : zOK T' (zwG G' q) fl n) (hnc : nc + 20 ≤ 601024) (hns : ns + 200 ≤ 7293034) (hs : Sl_40 fl S a1 a2 a3 a4 a5 a6) (kk : ∀ T2 G2 n2 q2, n ≤ n2 → zOK T2 (zwG G2 q2) fl n2 → z_G X zm_law (3312, zLV i, [], zW T2 (zwG G2 q2) (Fl_40 fl S a1 a2 a3 a4 a5 a6) n2, nc + 20, ns + 200)) : z_G X zm_law (2989, zLV i, [], zW T' (zwG G' q) S n, nc, ns) := by
  unfold Sl_40 at hs
  unfold Fl_40 at kk
  refine z_go2 C 2989 [(.aload_n 1, 1), (.aload_n 0, 1), (.iload 4, 2), (.iconst 1, 1), (.iadd, 1)] (2995, [(0, z_s), (1, z_r 0), (2, z_r 78), (3, z_r 193), (4, .inl i)], [.inl (i + 1), z_s, z_r 0], zW T' (zwG G' q) S n, nc, ns) (by decide +kernel) rfl ⟨trivial, trivial, trivial, trivial, trivial, trivial⟩ ?_
  refine z_sld (v := a1) C (by decide +kernel) hA.g1.1 hA.g1.2 ?_
  refine z_go2 C 2996 [(.aload_n 0, 1), (.iload 4, 2), (.iconst 2, 1), (.iadd, 1)] (3001, [(0, z_s), (1, z_r 0), (2, z_r 78), (3, z_r 193), (4, .inl i)], [.inl (i + 2), z_s, .inl a1, z_r 0], zW T' (zwG G' q) S n, nc, ns) (by decide +kernel) rfl ⟨trivial, trivial, trivial, trivial, trivial⟩ ?_
  refine z_sld (v := a2) C (by decide +kernel) hA.g2.1 hA.g2.2 ?_
  refine z_go2 C 3002 [(.aload_n 0, 1), (.iload 4, 2), (.iconst 3, 1), (.iadd, 1)] (3007, [(0, z_s), (1, z_r 0), (2, z_r 78), (3, z_r 193), (4, .inl i)], [.inl (i + 3), z_s, .inl a2, .inl a1, z_r 0], zW T' (zwG G' q) S n, nc, ns) (by decide +kernel) rfl ⟨trivial, trivial, trivial, trivial, trivial⟩ ?_
  refine z_sld (v := a3) C (by decide +kernel) hA.g3.1 hA.g3.2 ?_
  refine z_go2 C 3008 [(.aload_n 3, 1)] (3009, [(0, z_s), (1, z_r 0), (2, z_r 78), (3, z_r 193), (4, .inl i)], [z_r 193, .inl a3, .inl a2, .inl a1, z_r 0], zW T' (zwG G' q) S n, nc, ns) (by decide +kernel) rfl ⟨trivial, trivial⟩ ?_
  obtain ⟨hs1, hs⟩ := hs
  refine z_callH (idx := 289) (hh := hh_L_bulk) C (av := [z_r 0, .inl a1, .inl a2, .inl a3, z_r 193]) (st := []) (by decide +kernel) (c_L_bulk T' G' q S n a1 a2 a3 hs1) hrm (z_wi 1472 (by decide +kernel) rfl) (z_wi 152 (by decide +kernel) rfl) ⟨by decide +kernel, by decide +kernel⟩ (show (parseMethodDescriptor zm_L_bulk.1.desc).map (fun d => d.parameters.length) = some 5 by decide +kernel) (z_wi 1470 (by decide +kernel) rfl) (z_wi 1471 (by decide +kernel) rfl) (zLfit (a := 0) (b := 0) (by decide) (by decide) (by decide) (by decide) hnc hns) rfl (Nat.le_of_ble_eq_true rfl) (fun v w' hv => ?_)
  obtain ⟨n2, q2, hn2, rfl, rfl⟩ := hv
  replace hfl := (hfl.le hn2).q q2
  obtain ⟨S1, hS1⟩ : ∃ y, (F_L_bulk S a1 a2 a3).2 = y := ⟨_, rfl⟩
  rw [hS1] at hs kk ⊢
  obtain ⟨k0, hk0⟩ : ∃ y, (F_L_bulk S a1 a2 a3).1 = y := ⟨_, rfl⟩
  try rw [hk0] at hs
  rw [hk0]
  show z_G X zm_law (3012, [(0, z_s), (1, z_r 0), (2, z_r 78), (3, z_r 193), (4, .inl i)], [.inl k0], zW T' (zwG G' q2) S1 n2, nc + 4, ns + 24)
  refine z_go2 C 3012 [(.istore 5, 2), (.aload_n 2, 1), (.aload_n 0, 1), (.iload 4, 2), (.iconst 1, 1), (.iadd, 1)] (3020, [(5, .inl k0), (0, z_s), (1, z_r 0), (2, z_r 78), (3, z_r 193), (4, .inl i)], [.inl (i + 1), z_s, z_r 78], zW T' (zwG G' q2) S1 n2, nc + 4, ns + 24) (by decide +kernel) rfl ⟨trivial, trivial, trivial, trivial, trivial, trivial, trivial⟩ ?_
  refine z_sld (v := a1) C (by decide +kernel) hA.g1.1 hA.g1.2 ?_
  refine z_go2 C 3021 [(.aload_n 0, 1), (.iload 4, 2), (.iconst 2, 1), (.iadd, 1)] (3026, [(5, .inl k0), (0, z_s), (1, z_r 0), (2, z_r 78), (3, z_r 193), (4, .inl i)], [.inl (i + 2), z_s, .inl a1, z_r 78], zW T' (zwG G' q2) S1 n2, nc + 4, ns + 24) (by decide +kernel) rfl ⟨trivial, trivial, trivial, trivial, trivial⟩ ?_
  refine z_sld (v := a2) C (by decide +kernel) hA.g2.1 hA.g2.2 ?_
  refine z_go2 C 3027 [(.aload_n 0, 1), (.iload 4, 2), (.iconst 3, 1), (.iadd, 1)] (3032, [(5, .inl k0), (0, z_s), (1, z_r 0), (2, z_r 78), (3, z_r 193), (4, .inl i)], [.inl (i + 3), z_s, .inl a2, .inl a1, z_r 78], zW T' (zwG G' q2) S1 n2, nc + 4, ns + 24) (by decide +kernel) rfl ⟨trivial, trivial, trivial, trivial, trivial⟩ ?_
  refine z_sld (v := a3) C (by decide +kernel) hA.g3.1 hA.g3.2 ?_
  obtain ⟨hs1, hs⟩ := hs
  refine z_callV C (av := [.inl a1, .inl a2, .inl a3]) (st := []) (a := 78) (ci := 14) (by decide +kernel) (c_M_bulk T' (zwG G' q2) n2 fl hfl S1 a1 a2 a3 hs1) hrm zl_L_291 zv_M_bulk rfl rfl rfl (zLfit (a := 4) (b := 24) (by decide) (by decide) (by decide) (by decide) hnc hns) rfl (Nat.le_of_ble_eq_true rfl) (fun v w' hv => ?_)
  obtain ⟨rfl, rfl⟩ := hv
  show z_G X zm_law (3036, [(5, .inl k0), (0, z_s), (1, z_r 0), (2, z_r 78), (3, z_r 193), (4, .inl i)], [.inl (F_M_bulk fl S1 a1 a2 a3).1], zW T' (zwG G' q2) (F_M_bulk fl S1 a1 a2 a3).2 n2, nc + 4, ns + 24)
  refine z_go2 C 3036 [(.istore 6, 2), (.aload_n 2, 1)] (3039, [(6, .inl (F_M_bulk fl S1 a1 a2 a3).1), (5, .inl k0), (0, z_s), (1, z_r 0), (2, z_r 78), (3, z_r 193), (4, .inl i)], [z_r 78], zW T' (zwG G' q2) (F_M_bulk fl S1 a1 a2 a3).2 n2, nc + 4, ns + 24) (by decide +kernel) rfl ⟨trivial, trivial, trivial⟩ ?_
  refine z_callV C (av := []) (st := []) (a := 78) (ci := 14) (by decide +kernel) (c_M_thrown T' (zwG G' q2) (F_M_bulk fl S1 a1 a2 a3).2 n2) hrm zl_L_156 zv_M_thrown rfl rfl rfl (zLfit (a := 4) (b := 24) (by decide) (by decide) (by decide) (by decide) hnc hns) rfl (Nat.le_of_ble_eq_true rfl) (fun v w' hv => ?_)
  obtain ⟨rfl, rfl⟩ := hv
  show z_G X zm_law (3042, [(6, .inl (F_M_bulk fl S1 a1 a2 a3).1), (5, .inl k0), (0, z_s), (1, z_r 0), (2, z_r 78), (3, z_r 193), (4, .inl i)], [.inl (F_M_thrown (F_M_bulk fl S1 a1 a2 a3).2)], zW T' (zwG G' q2) (F_M_bulk fl S1 a1 a2 a3).2 n2, nc + 4, ns + 24)
  refine z_go2 C 3042 [(.iload 5, 2)] (3044, [(6, .inl (F_M_bulk fl S1 a1 a2 a3).1), (5, .inl k0), (0, z_s), (1, z_r 0), (2, z_r 78), (3, z_r 193), (4, .inl i)], [.inl k0, .inl (F_M_thrown (F_M_bulk fl S1 a1 a2 a3).2)], zW T' (zwG G' q2) (F_M_bulk fl S1 a1 a2 a3).2 n2, nc + 4, ns + 24) (by decide +kernel) rfl ⟨trivial, trivial⟩ ?_
  refine z_icmp_eq 3049 C (off := 5) (by decide +kernel) (by decide) (fun c => ?_) (fun c => absurd hs.1 c)
  refine z_go2 C 3049 [(.iload 5, 2)] (3051, [(6, .inl (F_M_bulk fl S1 a1 a2 a3).1), (5, .inl k0), (0, z_s), (1, z_r 0), (2, z_r 78), (3, z_r 193), (4, .inl i)], [.inl k0], zW T' (zwG G' q2) (F_M_bulk fl S1 a1 a2 a3).2 n2, nc + 4, ns + 24) (by decide +kernel) rfl ⟨trivial, trivial⟩ ?_
  refine z_if_ne 3066 C (off := 15) (by decide +kernel) (by decide) (fun c => ?_) (fun c => ?_)
  · refine z_go2 C 3066 [(.goto 246, 3)] (3312, [(6, .inl (F_M_bulk fl S1 a1 a2 a3).1), (5, .inl k0), (0, z_s), (1, z_r 0), (2, z_r 78), (3, z_r 193), (4, .inl i)], [], zW T' (zwG G' q2) (F_M_bulk fl S1 a1 a2 a3).2 n2, nc + 4, ns + 24) (by decide +kernel) rfl ⟨trivial, trivial⟩ ?_
    exact z_lvs (lv' := zLV i) [2, 3, 4, 5, 6] rfl (z_wid (nc' := nc + 20) (ns' := ns + 200) (zLwid (a := 4) (by decide)) (zLwid (a := 24) (by decide)) (kk _ _ _ _ hn2 hfl))
  · refine z_go2 C 3054 [(.aload_n 3, 1), (.iconst 0, 1), (.laload, 1), (.iload 6, 2), (.i2l, 1), (.lcmp, 1)] (3061, [(6, .inl (F_M_bulk fl S1 a1 a2 a3).1), (5, .inl k0), (0, z_s), (1, z_r 0), (2, z_r 78), (3, z_r 193), (4, .inl i)], [.inl (lg_cmp ((F_M_bulk fl S1 a1 a2 a3).2 193 0).toInt64 (F_M_bulk fl S1 a1 a2 a3).1.toInt64)], zW T' (zwG G' q2) (F_M_bulk fl S1 a1 a2 a3).2 n2, nc + 4, ns + 24) (by decide +kernel) rfl ⟨trivial, trivial, ⟨rfl, (show vp_in 0 1 by unfold vp_in; decide)⟩, trivial, trivial, trivial, trivial⟩ ?_
    refine z_if_eq 3066 C (off := 5) (by decide +kernel) (by decide) (fun c2 => ?_) (fun c2 => absurd (by rw [hs.2 c]; exact lg_cmp_self _) c2)
    refine z_go2 C 3066 [(.goto 246, 3)] (3312, [(6, .inl (F_M_bulk fl S1 a1 a2 a3).1), (5, .inl k0), (0, z_s), (1, z_r 0), (2, z_r 78), (3, z_r 193), (4, .inl i)], [], zW T' (zwG G' q2) (F_M_bulk fl S1 a1 a2 a3).2 n2, nc + 4, ns + 24) (by decide +kernel) rfl ⟨trivial, trivial⟩ ?_
    exact z_lvs (lv' := zLV i) [2, 3, 4, 5, 6] rfl (z_wid (nc' := nc + 20) (ns' := ns + 200) (zLwid (a := 4) (by decide)) (zLwid (a := 24) (by decide)) (kk _ _ _ _ hn2 hfl))
def Fl_41 (fl : Nat → Nat) (S : (Nat → Nat → Int32)) (a1 a2 a3 a4 a5 a6 : Int32) : (Nat → Nat → Int32) := (F_M_unbulk fl (F_L_unbulk S).2).2
def Sl_41 (fl : Nat → Nat) (S : (Nat → Nat → Int32)) (a1 a2 a3 a4 a5 a6 : Int32) : Prop := Sf_L_unbulk S ∧ Sf_M_unbulk fl (F_L_unbulk S).2 ∧ (F_M_thrown (F_M_unbulk fl (F_L_unbulk S).2).2 = (F_L_unbulk S).1 ∧ ((F_L_unbulk S).1 = 0 → (F_M_unbulk fl (F_L_unbulk S).2).2 193 0 = (F_M_unbulk fl (F_L_unbulk S).2).1))
theorem l_41 {X : z_X} (C : z_C X zm_law) (hrm : X.2.2.2.1 = room_1) {T' : Nat → Nat × Nat} {G' : Nat → Nat → Option Nat} {n q nc ns : Nat} {fl : Nat → Nat} (S : (Nat → Nat → Int32)) (i a1 a2 a3 a4 a5 a6 : Int32) (hA : zArg X i a1 a2 a3 a4 a5 a6) (hfl : zOK T' (zwG G' q) fl n) (hnc : nc + 20 ≤ 601024) (hns : ns + 200 ≤ 7293034) (hs : Sl_41 fl S a1 a2 a3 a4 a5 a6) (kk : ∀ T2 G2 n2 q2, n ≤ n2 → zOK T2 (zwG G2 q2) fl n2 → z_G X zm_law (3312, zLV i, [], zW T2 (zwG G2 q2) (Fl_41 fl S a1 a2 a3 a4 a5 a6) n2, nc + 20, ns + 200)) : z_G X zm_law (3069, zLV i, [], zW T' (zwG G' q) S n, nc, ns) := by
  unfold Sl_41 at hs
  unfold Fl_41 at kk
  refine z_go2 C 3069 [(.aload_n 1, 1), (.aload_n 3, 1)] (3071, [(0, z_s), (1, z_r 0), (2, z_r 78), (3, z_r 193), (4, .inl i)], [z_r 193, z_r 0], zW T' (zwG G' q) S n, nc, ns) (by decide +kernel) rfl ⟨trivial, trivial, trivial⟩ ?_
  obtain ⟨hs1, hs⟩ := hs
  refine z_callH (idx := 292) (hh := hh_L_unbulk) C (av := [z_r 0, z_r 193]) (st := []) (by decide +kernel) (c_L_unbulk T' G' q S n hs1) hrm (z_wi 1484 (by decide +kernel) rfl) (z_wi 152 (by decide +kernel) rfl) ⟨by decide +kernel, by decide +kernel⟩ (show (parseMethodDescriptor zm_L_unbulk.1.desc).map (fun d => d.parameters.length) = some 2 by decide +kernel) (z_wi 1482 (by decide +kernel) rfl) (z_wi 1483 (by decide +kernel) rfl) (zLfit (a := 0) (b := 0) (by decide) (by decide) (by decide) (by decide) hnc hns) rfl (Nat.le_of_ble_eq_true rfl) (fun v w' hv => ?_)
  obtain ⟨n2, q2, hn2, rfl, rfl⟩ := hv
  replace hfl := (hfl.le hn2).q q2
  obtain ⟨S1, hS1⟩ : ∃ y, (F_L_unbulk S).2 = y := ⟨_, rfl⟩
  rw [hS1] at hs kk ⊢
  obtain ⟨k0, hk0⟩ : ∃ y, (F_L_unbulk S).1 = y := ⟨_, rfl⟩
  try rw [hk0] at hs
  rw [hk0]
  show z_G X zm_law (3074, [(0, z_s), (1, z_r 0), (2, z_r 78), (3, z_r 193), (4, .inl i)], [.inl k0], zW T' (zwG G' q2) S1 n2, nc + 2, ns + 12)
  refine z_go2 C 3074 [(.istore 5, 2), (.aload_n 2, 1)] (3077, [(5, .inl k0), (0, z_s), (1, z_r 0), (2, z_r 78), (3, z_r 193), (4, .inl i)], [z_r 78], zW T' (zwG G' q2) S1 n2, nc + 2, ns + 12) (by decide +kernel) rfl ⟨trivial, trivial, trivial⟩ ?_
  obtain ⟨hs1, hs⟩ := hs
  refine z_callV C (av := []) (st := []) (a := 78) (ci := 14) (by decide +kernel) (c_M_unbulk T' (zwG G' q2) n2 fl hfl S1 hs1) hrm zl_L_295 zv_M_unbulk rfl rfl rfl (zLfit (a := 2) (b := 12) (by decide) (by decide) (by decide) (by decide) hnc hns) rfl (Nat.le_of_ble_eq_true rfl) (fun v w' hv => ?_)
  obtain ⟨rfl, rfl⟩ := hv
  show z_G X zm_law (3080, [(5, .inl k0), (0, z_s), (1, z_r 0), (2, z_r 78), (3, z_r 193), (4, .inl i)], [.inl (F_M_unbulk fl S1).1], zW T' (zwG G' q2) (F_M_unbulk fl S1).2 n2, nc + 2, ns + 12)
  refine z_go2 C 3080 [(.istore 6, 2), (.aload_n 2, 1)] (3083, [(6, .inl (F_M_unbulk fl S1).1), (5, .inl k0), (0, z_s), (1, z_r 0), (2, z_r 78), (3, z_r 193), (4, .inl i)], [z_r 78], zW T' (zwG G' q2) (F_M_unbulk fl S1).2 n2, nc + 2, ns + 12) (by decide +kernel) rfl ⟨trivial, trivial, trivial⟩ ?_
  refine z_callV C (av := []) (st := []) (a := 78) (ci := 14) (by decide +kernel) (c_M_thrown T' (zwG G' q2) (F_M_unbulk fl S1).2 n2) hrm zl_L_156 zv_M_thrown rfl rfl rfl (zLfit (a := 2) (b := 12) (by decide) (by decide) (by decide) (by decide) hnc hns) rfl (Nat.le_of_ble_eq_true rfl) (fun v w' hv => ?_)
  obtain ⟨rfl, rfl⟩ := hv
  show z_G X zm_law (3086, [(6, .inl (F_M_unbulk fl S1).1), (5, .inl k0), (0, z_s), (1, z_r 0), (2, z_r 78), (3, z_r 193), (4, .inl i)], [.inl (F_M_thrown (F_M_unbulk fl S1).2)], zW T' (zwG G' q2) (F_M_unbulk fl S1).2 n2, nc + 2, ns + 12)
  refine z_go2 C 3086 [(.iload 5, 2)] (3088, [(6, .inl (F_M_unbulk fl S1).1), (5, .inl k0), (0, z_s), (1, z_r 0), (2, z_r 78), (3, z_r 193), (4, .inl i)], [.inl k0, .inl (F_M_thrown (F_M_unbulk fl S1).2)], zW T' (zwG G' q2) (F_M_unbulk fl S1).2 n2, nc + 2, ns + 12) (by decide +kernel) rfl ⟨trivial, trivial⟩ ?_
  refine z_icmp_eq 3093 C (off := 5) (by decide +kernel) (by decide) (fun c => ?_) (fun c => absurd hs.1 c)
  refine z_go2 C 3093 [(.iload 5, 2)] (3095, [(6, .inl (F_M_unbulk fl S1).1), (5, .inl k0), (0, z_s), (1, z_r 0), (2, z_r 78), (3, z_r 193), (4, .inl i)], [.inl k0], zW T' (zwG G' q2) (F_M_unbulk fl S1).2 n2, nc + 2, ns + 12) (by decide +kernel) rfl ⟨trivial, trivial⟩ ?_
  refine z_if_ne 3110 C (off := 15) (by decide +kernel) (by decide) (fun c => ?_) (fun c => ?_)
  · refine z_go2 C 3110 [(.goto 202, 3)] (3312, [(6, .inl (F_M_unbulk fl S1).1), (5, .inl k0), (0, z_s), (1, z_r 0), (2, z_r 78), (3, z_r 193), (4, .inl i)], [], zW T' (zwG G' q2) (F_M_unbulk fl S1).2 n2, nc + 2, ns + 12) (by decide +kernel) rfl ⟨trivial, trivial⟩ ?_
    exact z_lvs (lv' := zLV i) [2, 3, 4, 5, 6] rfl (z_wid (nc' := nc + 20) (ns' := ns + 200) (zLwid (a := 2) (by decide)) (zLwid (a := 12) (by decide)) (kk _ _ _ _ hn2 hfl))
  · refine z_go2 C 3098 [(.aload_n 3, 1), (.iconst 0, 1), (.laload, 1), (.iload 6, 2), (.i2l, 1), (.lcmp, 1)] (3105, [(6, .inl (F_M_unbulk fl S1).1), (5, .inl k0), (0, z_s), (1, z_r 0), (2, z_r 78), (3, z_r 193), (4, .inl i)], [.inl (lg_cmp ((F_M_unbulk fl S1).2 193 0).toInt64 (F_M_unbulk fl S1).1.toInt64)], zW T' (zwG G' q2) (F_M_unbulk fl S1).2 n2, nc + 2, ns + 12) (by decide +kernel) rfl ⟨trivial, trivial, ⟨rfl, (show vp_in 0 1 by unfold vp_in; decide)⟩, trivial, trivial, trivial, trivial⟩ ?_
    refine z_if_eq 3110 C (off := 5) (by decide +kernel) (by decide) (fun c2 => ?_) (fun c2 => absurd (by rw [hs.2 c]; exact lg_cmp_self _) c2)
    refine z_go2 C 3110 [(.goto 202, 3)] (3312, [(6, .inl (F_M_unbulk fl S1).1), (5, .inl k0), (0, z_s), (1, z_r 0), (2, z_r 78), (3, z_r 193), (4, .inl i)], [], zW T' (zwG G' q2) (F_M_unbulk fl S1).2 n2, nc + 2, ns + 12) (by decide +kernel) rfl ⟨trivial, trivial⟩ ?_
    exact z_lvs (lv' := zLV i) [2, 3, 4, 5, 6] rfl (z_wid (nc' := nc + 20) (ns' := ns + 200) (zLwid (a := 2) (by decide)) (zLwid (a := 12) (by decide)) (kk _ _ _ _ hn2 hfl))
def Fl_42 (fl : Nat → Nat) (S : (Nat → Nat → Int32)) (a1 a2 a3 a4 a5 a6 : Int32) : (Nat → Nat → Int32) := (F_M_unite fl (F_L_unite S a1 a2).2 a1 a2).2
def Sl_42 (fl : Nat → Nat) (S : (Nat → Nat → Int32)) (a1 a2 a3 a4 a5 a6 : Int32) : Prop := Sf_L_unite S a1 a2 ∧ Sf_M_unite fl (F_L_unite S a1 a2).2 a1 a2 ∧ (F_M_thrown (F_M_unite fl (F_L_unite S a1 a2).2 a1 a2).2 = (F_L_unite S a1 a2).1 ∧ ((F_L_unite S a1 a2).1 = 0 → (F_M_unite fl (F_L_unite S a1 a2).2 a1 a2).2 193 0 = (F_M_unite fl (F_L_unite S a1 a2).2 a1 a2).1))
theorem l_42 {X : z_X} (C : z_C X zm_law) (hrm : X.2.2.2.1 = room_1) {T' : Nat → Nat × Nat} {G' : Nat → Nat → Option Nat} {n q nc ns : Nat} {fl : Nat → Nat} (S : (Nat → Nat → Int32)) (i a1 a2 a3 a4 a5 a6 : Int32) (hA : zArg X i a1 a2 a3 a4 a5 a6) (hfl : zOK T' (zwG G' q) fl n) (hnc : nc + 20 ≤ 601024) (hns : ns + 200 ≤ 7293034) (hs : Sl_42 fl S a1 a2 a3 a4 a5 a6) (kk : ∀ T2 G2 n2 q2, n ≤ n2 → zOK T2 (zwG G2 q2) fl n2 → z_G X zm_law (3312, zLV i, [], zW T2 (zwG G2 q2) (Fl_42 fl S a1 a2 a3 a4 a5 a6) n2, nc + 20, ns + 200)) : z_G X zm_law (3113, zLV i, [], zW T' (zwG G' q) S n, nc, ns) := by
  unfold Sl_42 at hs
  unfold Fl_42 at kk
  refine z_go2 C 3113 [(.aload_n 1, 1), (.aload_n 0, 1), (.iload 4, 2), (.iconst 1, 1), (.iadd, 1)] (3119, [(0, z_s), (1, z_r 0), (2, z_r 78), (3, z_r 193), (4, .inl i)], [.inl (i + 1), z_s, z_r 0], zW T' (zwG G' q) S n, nc, ns) (by decide +kernel) rfl ⟨trivial, trivial, trivial, trivial, trivial, trivial⟩ ?_
  refine z_sld (v := a1) C (by decide +kernel) hA.g1.1 hA.g1.2 ?_
  refine z_go2 C 3120 [(.aload_n 0, 1), (.iload 4, 2), (.iconst 2, 1), (.iadd, 1)] (3125, [(0, z_s), (1, z_r 0), (2, z_r 78), (3, z_r 193), (4, .inl i)], [.inl (i + 2), z_s, .inl a1, z_r 0], zW T' (zwG G' q) S n, nc, ns) (by decide +kernel) rfl ⟨trivial, trivial, trivial, trivial, trivial⟩ ?_
  refine z_sld (v := a2) C (by decide +kernel) hA.g2.1 hA.g2.2 ?_
  refine z_go2 C 3126 [(.aload_n 3, 1)] (3127, [(0, z_s), (1, z_r 0), (2, z_r 78), (3, z_r 193), (4, .inl i)], [z_r 193, .inl a2, .inl a1, z_r 0], zW T' (zwG G' q) S n, nc, ns) (by decide +kernel) rfl ⟨trivial, trivial⟩ ?_
  obtain ⟨hs1, hs⟩ := hs
  refine z_callH (idx := 296) (hh := hh_L_unite) C (av := [z_r 0, .inl a1, .inl a2, z_r 193]) (st := []) (by decide +kernel) (c_L_unite T' G' q S n a1 a2 hs1) hrm (z_wi 1491 (by decide +kernel) rfl) (z_wi 152 (by decide +kernel) rfl) ⟨by decide +kernel, by decide +kernel⟩ (show (parseMethodDescriptor zm_L_unite.1.desc).map (fun d => d.parameters.length) = some 4 by decide +kernel) (z_wi 1489 (by decide +kernel) rfl) (z_wi 1490 (by decide +kernel) rfl) (zLfit (a := 0) (b := 0) (by decide) (by decide) (by decide) (by decide) hnc hns) rfl (Nat.le_of_ble_eq_true rfl) (fun v w' hv => ?_)
  obtain ⟨n2, q2, hn2, rfl, rfl⟩ := hv
  replace hfl := (hfl.le hn2).q q2
  obtain ⟨S1, hS1⟩ : ∃ y, (F_L_unite S a1 a2).2 = y := ⟨_, rfl⟩
  rw [hS1] at hs kk ⊢
  obtain ⟨k0, hk0⟩ : ∃ y, (F_L_unite S a1 a2).1 = y := ⟨_, rfl⟩
  try rw [hk0] at hs
  rw [hk0]
  show z_G X zm_law (3130, [(0, z_s), (1, z_r 0), (2, z_r 78), (3, z_r 193), (4, .inl i)], [.inl k0], zW T' (zwG G' q2) S1 n2, nc + 3, ns + 18)
  refine z_go2 C 3130 [(.istore 5, 2), (.aload_n 2, 1), (.aload_n 0, 1), (.iload 4, 2), (.iconst 1, 1), (.iadd, 1)] (3138, [(5, .inl k0), (0, z_s), (1, z_r 0), (2, z_r 78), (3, z_r 193), (4, .inl i)], [.inl (i + 1), z_s, z_r 78], zW T' (zwG G' q2) S1 n2, nc + 3, ns + 18) (by decide +kernel) rfl ⟨trivial, trivial, trivial, trivial, trivial, trivial, trivial⟩ ?_
  refine z_sld (v := a1) C (by decide +kernel) hA.g1.1 hA.g1.2 ?_
  refine z_go2 C 3139 [(.aload_n 0, 1), (.iload 4, 2), (.iconst 2, 1), (.iadd, 1)] (3144, [(5, .inl k0), (0, z_s), (1, z_r 0), (2, z_r 78), (3, z_r 193), (4, .inl i)], [.inl (i + 2), z_s, .inl a1, z_r 78], zW T' (zwG G' q2) S1 n2, nc + 3, ns + 18) (by decide +kernel) rfl ⟨trivial, trivial, trivial, trivial, trivial⟩ ?_
  refine z_sld (v := a2) C (by decide +kernel) hA.g2.1 hA.g2.2 ?_
  obtain ⟨hs1, hs⟩ := hs
  refine z_callV C (av := [.inl a1, .inl a2]) (st := []) (a := 78) (ci := 14) (by decide +kernel) (c_M_unite T' (zwG G' q2) n2 fl hfl S1 a1 a2 hs1) hrm zl_L_298 zv_M_unite rfl rfl rfl (zLfit (a := 3) (b := 18) (by decide) (by decide) (by decide) (by decide) hnc hns) rfl (Nat.le_of_ble_eq_true rfl) (fun v w' hv => ?_)
  obtain ⟨rfl, rfl⟩ := hv
  show z_G X zm_law (3148, [(5, .inl k0), (0, z_s), (1, z_r 0), (2, z_r 78), (3, z_r 193), (4, .inl i)], [.inl (F_M_unite fl S1 a1 a2).1], zW T' (zwG G' q2) (F_M_unite fl S1 a1 a2).2 n2, nc + 3, ns + 18)
  refine z_go2 C 3148 [(.istore 6, 2), (.aload_n 2, 1)] (3151, [(6, .inl (F_M_unite fl S1 a1 a2).1), (5, .inl k0), (0, z_s), (1, z_r 0), (2, z_r 78), (3, z_r 193), (4, .inl i)], [z_r 78], zW T' (zwG G' q2) (F_M_unite fl S1 a1 a2).2 n2, nc + 3, ns + 18) (by decide +kernel) rfl ⟨trivial, trivial, trivial⟩ ?_
  refine z_callV C (av := []) (st := []) (a := 78) (ci := 14) (by decide +kernel) (c_M_thrown T' (zwG G' q2) (F_M_unite fl S1 a1 a2).2 n2) hrm zl_L_156 zv_M_thrown rfl rfl rfl (zLfit (a := 3) (b := 18) (by decide) (by decide) (by decide) (by decide) hnc hns) rfl (Nat.le_of_ble_eq_true rfl) (fun v w' hv => ?_)
  obtain ⟨rfl, rfl⟩ := hv
  show z_G X zm_law (3154, [(6, .inl (F_M_unite fl S1 a1 a2).1), (5, .inl k0), (0, z_s), (1, z_r 0), (2, z_r 78), (3, z_r 193), (4, .inl i)], [.inl (F_M_thrown (F_M_unite fl S1 a1 a2).2)], zW T' (zwG G' q2) (F_M_unite fl S1 a1 a2).2 n2, nc + 3, ns + 18)
  refine z_go2 C 3154 [(.iload 5, 2)] (3156, [(6, .inl (F_M_unite fl S1 a1 a2).1), (5, .inl k0), (0, z_s), (1, z_r 0), (2, z_r 78), (3, z_r 193), (4, .inl i)], [.inl k0, .inl (F_M_thrown (F_M_unite fl S1 a1 a2).2)], zW T' (zwG G' q2) (F_M_unite fl S1 a1 a2).2 n2, nc + 3, ns + 18) (by decide +kernel) rfl ⟨trivial, trivial⟩ ?_
  refine z_icmp_eq 3161 C (off := 5) (by decide +kernel) (by decide) (fun c => ?_) (fun c => absurd hs.1 c)
  refine z_go2 C 3161 [(.iload 5, 2)] (3163, [(6, .inl (F_M_unite fl S1 a1 a2).1), (5, .inl k0), (0, z_s), (1, z_r 0), (2, z_r 78), (3, z_r 193), (4, .inl i)], [.inl k0], zW T' (zwG G' q2) (F_M_unite fl S1 a1 a2).2 n2, nc + 3, ns + 18) (by decide +kernel) rfl ⟨trivial, trivial⟩ ?_
  refine z_if_ne 3178 C (off := 15) (by decide +kernel) (by decide) (fun c => ?_) (fun c => ?_)
  · refine z_go2 C 3178 [(.goto 134, 3)] (3312, [(6, .inl (F_M_unite fl S1 a1 a2).1), (5, .inl k0), (0, z_s), (1, z_r 0), (2, z_r 78), (3, z_r 193), (4, .inl i)], [], zW T' (zwG G' q2) (F_M_unite fl S1 a1 a2).2 n2, nc + 3, ns + 18) (by decide +kernel) rfl ⟨trivial, trivial⟩ ?_
    exact z_lvs (lv' := zLV i) [2, 3, 4, 5, 6] rfl (z_wid (nc' := nc + 20) (ns' := ns + 200) (zLwid (a := 3) (by decide)) (zLwid (a := 18) (by decide)) (kk _ _ _ _ hn2 hfl))
  · refine z_go2 C 3166 [(.aload_n 3, 1), (.iconst 0, 1), (.laload, 1), (.iload 6, 2), (.i2l, 1), (.lcmp, 1)] (3173, [(6, .inl (F_M_unite fl S1 a1 a2).1), (5, .inl k0), (0, z_s), (1, z_r 0), (2, z_r 78), (3, z_r 193), (4, .inl i)], [.inl (lg_cmp ((F_M_unite fl S1 a1 a2).2 193 0).toInt64 (F_M_unite fl S1 a1 a2).1.toInt64)], zW T' (zwG G' q2) (F_M_unite fl S1 a1 a2).2 n2, nc + 3, ns + 18) (by decide +kernel) rfl ⟨trivial, trivial, ⟨rfl, (show vp_in 0 1 by unfold vp_in; decide)⟩, trivial, trivial, trivial, trivial⟩ ?_
    refine z_if_eq 3178 C (off := 5) (by decide +kernel) (by decide) (fun c2 => ?_) (fun c2 => absurd (by rw [hs.2 c]; exact lg_cmp_self _) c2)
    refine z_go2 C 3178 [(.goto 134, 3)] (3312, [(6, .inl (F_M_unite fl S1 a1 a2).1), (5, .inl k0), (0, z_s), (1, z_r 0), (2, z_r 78), (3, z_r 193), (4, .inl i)], [], zW T' (zwG G' q2) (F_M_unite fl S1 a1 a2).2 n2, nc + 3, ns + 18) (by decide +kernel) rfl ⟨trivial, trivial⟩ ?_
    exact z_lvs (lv' := zLV i) [2, 3, 4, 5, 6] rfl (z_wid (nc' := nc + 20) (ns' := ns + 200) (zLwid (a := 3) (by decide)) (zLwid (a := 18) (by decide)) (kk _ _ _ _ hn2 hfl))
def Fl_43 (fl : Nat → Nat) (S : (Nat → Nat → Int32)) (a1 a2 a3 a4 a5 a6 : Int32) : (Nat → Nat → Int32) := (F_M_watch (F_L_watch S a1 a2).2 a1 a2).2
def Sl_43 (fl : Nat → Nat) (S : (Nat → Nat → Int32)) (a1 a2 a3 a4 a5 a6 : Int32) : Prop := Sf_L_watch S a1 a2 ∧ Sf_M_watch (F_L_watch S a1 a2).2 a1 a2 ∧ (F_M_thrown (F_M_watch (F_L_watch S a1 a2).2 a1 a2).2 = (F_L_watch S a1 a2).1 ∧ ((F_L_watch S a1 a2).1 = 0 → (F_M_watch (F_L_watch S a1 a2).2 a1 a2).2 193 0 = (if (F_M_watch (F_L_watch S a1 a2).2 a1 a2).1 = 0 then 0 else 1 : Int32)))
theorem l_43 {X : z_X} (C : z_C X zm_law) (hrm : X.2.2.2.1 = room_1) {T' : Nat → Nat × Nat} {G' : Nat → Nat → Option Nat} {n q nc ns : Nat} {fl : Nat → Nat} (S : (Nat → Nat → Int32)) (i a1 a2 a3 a4 a5 a6 : Int32) (hA : zArg X i a1 a2 a3 a4 a5 a6) (hfl : zOK T' (zwG G' q) fl n) (hnc : nc + 20 ≤ 601024) (hns : ns + 200 ≤ 7293034) (hs : Sl_43 fl S a1 a2 a3 a4 a5 a6) (kk : ∀ T2 G2 n2 q2, n ≤ n2 → zOK T2 (zwG G2 q2) fl n2 → z_G X zm_law (3312, zLV i, [], zW T2 (zwG G2 q2) (Fl_43 fl S a1 a2 a3 a4 a5 a6) n2, nc + 20, ns + 200)) : z_G X zm_law (3181, zLV i, [], zW T' (zwG G' q) S n, nc, ns) := by
  unfold Sl_43 at hs
  unfold Fl_43 at kk
  refine z_go2 C 3181 [(.aload_n 1, 1), (.aload_n 0, 1), (.iload 4, 2), (.iconst 1, 1), (.iadd, 1)] (3187, [(0, z_s), (1, z_r 0), (2, z_r 78), (3, z_r 193), (4, .inl i)], [.inl (i + 1), z_s, z_r 0], zW T' (zwG G' q) S n, nc, ns) (by decide +kernel) rfl ⟨trivial, trivial, trivial, trivial, trivial, trivial⟩ ?_
  refine z_sld (v := a1) C (by decide +kernel) hA.g1.1 hA.g1.2 ?_
  refine z_go2 C 3188 [(.aload_n 0, 1), (.iload 4, 2), (.iconst 2, 1), (.iadd, 1)] (3193, [(0, z_s), (1, z_r 0), (2, z_r 78), (3, z_r 193), (4, .inl i)], [.inl (i + 2), z_s, .inl a1, z_r 0], zW T' (zwG G' q) S n, nc, ns) (by decide +kernel) rfl ⟨trivial, trivial, trivial, trivial, trivial⟩ ?_
  refine z_sld (v := a2) C (by decide +kernel) hA.g2.1 hA.g2.2 ?_
  refine z_go2 C 3194 [(.aload_n 3, 1)] (3195, [(0, z_s), (1, z_r 0), (2, z_r 78), (3, z_r 193), (4, .inl i)], [z_r 193, .inl a2, .inl a1, z_r 0], zW T' (zwG G' q) S n, nc, ns) (by decide +kernel) rfl ⟨trivial, trivial⟩ ?_
  obtain ⟨hs1, hs⟩ := hs
  refine z_callH (idx := 299) (hh := hh_L_watch) C (av := [z_r 0, .inl a1, .inl a2, z_r 193]) (st := []) (by decide +kernel) (c_L_watch T' G' q S n a1 a2 hs1) hrm (z_wi 1498 (by decide +kernel) rfl) (z_wi 152 (by decide +kernel) rfl) ⟨by decide +kernel, by decide +kernel⟩ (show (parseMethodDescriptor zm_L_watch.1.desc).map (fun d => d.parameters.length) = some 4 by decide +kernel) (z_wi 1496 (by decide +kernel) rfl) (z_wi 1497 (by decide +kernel) rfl) (zLfit (a := 0) (b := 0) (by decide) (by decide) (by decide) (by decide) hnc hns) rfl (Nat.le_of_ble_eq_true rfl) (fun v w' hv => ?_)
  obtain ⟨n2, q2, hn2, rfl, rfl⟩ := hv
  replace hfl := (hfl.le hn2).q q2
  obtain ⟨S1, hS1⟩ : ∃ y, (F_L_watch S a1 a2).2 = y := ⟨_, rfl⟩
  rw [hS1] at hs kk ⊢
  obtain ⟨k0, hk0⟩ : ∃ y, (F_L_watch S a1 a2).1 = y := ⟨_, rfl⟩
  try rw [hk0] at hs
  rw [hk0]
  show z_G X zm_law (3198, [(0, z_s), (1, z_r 0), (2, z_r 78), (3, z_r 193), (4, .inl i)], [.inl k0], zW T' (zwG G' q2) S1 n2, nc + 1, ns + 6)
  refine z_go2 C 3198 [(.istore 5, 2), (.aload_n 2, 1), (.aload_n 0, 1), (.iload 4, 2), (.iconst 1, 1), (.iadd, 1)] (3206, [(5, .inl k0), (0, z_s), (1, z_r 0), (2, z_r 78), (3, z_r 193), (4, .inl i)], [.inl (i + 1), z_s, z_r 78], zW T' (zwG G' q2) S1 n2, nc + 1, ns + 6) (by decide +kernel) rfl ⟨trivial, trivial, trivial, trivial, trivial, trivial, trivial⟩ ?_
  refine z_sld (v := a1) C (by decide +kernel) hA.g1.1 hA.g1.2 ?_
  refine z_go2 C 3207 [(.aload_n 0, 1), (.iload 4, 2), (.iconst 2, 1), (.iadd, 1)] (3212, [(5, .inl k0), (0, z_s), (1, z_r 0), (2, z_r 78), (3, z_r 193), (4, .inl i)], [.inl (i + 2), z_s, .inl a1, z_r 78], zW T' (zwG G' q2) S1 n2, nc + 1, ns + 6) (by decide +kernel) rfl ⟨trivial, trivial, trivial, trivial, trivial⟩ ?_
  refine z_sld (v := a2) C (by decide +kernel) hA.g2.1 hA.g2.2 ?_
  obtain ⟨hs1, hs⟩ := hs
  refine z_callV C (av := [.inl a1, .inl a2]) (st := []) (a := 78) (ci := 14) (by decide +kernel) (c_M_watch T' (zwG G' q2) S1 n2 a1 a2 hs1) hrm zl_L_301 zv_M_watch rfl rfl rfl (zLfit (a := 1) (b := 6) (by decide) (by decide) (by decide) (by decide) hnc hns) rfl (Nat.le_of_ble_eq_true rfl) (fun v w' hv => ?_)
  obtain ⟨rfl, rfl⟩ := hv
  show z_G X zm_law (3216, [(5, .inl k0), (0, z_s), (1, z_r 0), (2, z_r 78), (3, z_r 193), (4, .inl i)], [.inl (F_M_watch S1 a1 a2).1], zW T' (zwG G' q2) (F_M_watch S1 a1 a2).2 n2, nc + 1, ns + 6)
  refine z_go2 C 3216 [(.istore 6, 2), (.aload_n 2, 1)] (3219, [(6, .inl (F_M_watch S1 a1 a2).1), (5, .inl k0), (0, z_s), (1, z_r 0), (2, z_r 78), (3, z_r 193), (4, .inl i)], [z_r 78], zW T' (zwG G' q2) (F_M_watch S1 a1 a2).2 n2, nc + 1, ns + 6) (by decide +kernel) rfl ⟨trivial, trivial, trivial⟩ ?_
  refine z_callV C (av := []) (st := []) (a := 78) (ci := 14) (by decide +kernel) (c_M_thrown T' (zwG G' q2) (F_M_watch S1 a1 a2).2 n2) hrm zl_L_156 zv_M_thrown rfl rfl rfl (zLfit (a := 1) (b := 6) (by decide) (by decide) (by decide) (by decide) hnc hns) rfl (Nat.le_of_ble_eq_true rfl) (fun v w' hv => ?_)
  obtain ⟨rfl, rfl⟩ := hv
  show z_G X zm_law (3222, [(6, .inl (F_M_watch S1 a1 a2).1), (5, .inl k0), (0, z_s), (1, z_r 0), (2, z_r 78), (3, z_r 193), (4, .inl i)], [.inl (F_M_thrown (F_M_watch S1 a1 a2).2)], zW T' (zwG G' q2) (F_M_watch S1 a1 a2).2 n2, nc + 1, ns + 6)
  refine z_go2 C 3222 [(.iload 5, 2)] (3224, [(6, .inl (F_M_watch S1 a1 a2).1), (5, .inl k0), (0, z_s), (1, z_r 0), (2, z_r 78), (3, z_r 193), (4, .inl i)], [.inl k0, .inl (F_M_thrown (F_M_watch S1 a1 a2).2)], zW T' (zwG G' q2) (F_M_watch S1 a1 a2).2 n2, nc + 1, ns + 6) (by decide +kernel) rfl ⟨trivial, trivial⟩ ?_
  refine z_icmp_eq 3229 C (off := 5) (by decide +kernel) (by decide) (fun c => ?_) (fun c => absurd hs.1 c)
  refine z_go2 C 3229 [(.iload 5, 2)] (3231, [(6, .inl (F_M_watch S1 a1 a2).1), (5, .inl k0), (0, z_s), (1, z_r 0), (2, z_r 78), (3, z_r 193), (4, .inl i)], [.inl k0], zW T' (zwG G' q2) (F_M_watch S1 a1 a2).2 n2, nc + 1, ns + 6) (by decide +kernel) rfl ⟨trivial, trivial⟩ ?_
  refine z_if_ne 3253 C (off := 22) (by decide +kernel) (by decide) (fun c => ?_) (fun c => ?_)
  · refine z_go2 C 3253 [(.goto 59, 3)] (3312, [(6, .inl (F_M_watch S1 a1 a2).1), (5, .inl k0), (0, z_s), (1, z_r 0), (2, z_r 78), (3, z_r 193), (4, .inl i)], [], zW T' (zwG G' q2) (F_M_watch S1 a1 a2).2 n2, nc + 1, ns + 6) (by decide +kernel) rfl ⟨trivial, trivial⟩ ?_
    exact z_lvs (lv' := zLV i) [2, 3, 4, 5, 6] rfl (z_wid (nc' := nc + 20) (ns' := ns + 200) (zLwid (a := 1) (by decide)) (zLwid (a := 6) (by decide)) (kk _ _ _ _ hn2 hfl))
  · refine z_go2 C 3234 [(.aload_n 3, 1), (.iconst 0, 1), (.laload, 1), (.iload 6, 2)] (3239, [(6, .inl (F_M_watch S1 a1 a2).1), (5, .inl k0), (0, z_s), (1, z_r 0), (2, z_r 78), (3, z_r 193), (4, .inl i)], [.inl (F_M_watch S1 a1 a2).1, z_l ((F_M_watch S1 a1 a2).2 193 0)], zW T' (zwG G' q2) (F_M_watch S1 a1 a2).2 n2, nc + 1, ns + 6) (by decide +kernel) rfl ⟨trivial, trivial, ⟨rfl, (show vp_in 0 1 by unfold vp_in; decide)⟩, trivial, trivial⟩ ?_
    have hb3239 : ∀ b : Int32, b = (if (F_M_watch S1 a1 a2).1 = 0 then 0 else 1) → z_G X zm_law (3247, [(6, .inl (F_M_watch S1 a1 a2).1), (5, .inl k0), (0, z_s), (1, z_r 0), (2, z_r 78), (3, z_r 193), (4, .inl i)], [z_l b, z_l ((F_M_watch S1 a1 a2).2 193 0)], zW T' (zwG G' q2) (F_M_watch S1 a1 a2).2 n2, nc + 1, ns + 6) := ?_
    · refine z_if_eq 3246 C (off := 7) (by decide +kernel) (by decide) (fun c3 => ?_) (fun c3 => ?_)
      · refine z_go2 C 3246 [(.lconst 0, 1)] (3247, [(6, .inl (F_M_watch S1 a1 a2).1), (5, .inl k0), (0, z_s), (1, z_r 0), (2, z_r 78), (3, z_r 193), (4, .inl i)], [z_l 0, z_l ((F_M_watch S1 a1 a2).2 193 0)], zW T' (zwG G' q2) (F_M_watch S1 a1 a2).2 n2, nc + 1, ns + 6) (by decide +kernel) rfl ⟨trivial, trivial⟩ ?_
        exact hb3239 0 (by rw [if_pos c3])
      · refine z_go2 C 3242 [(.lconst 1, 1), (.goto 4, 3)] (3247, [(6, .inl (F_M_watch S1 a1 a2).1), (5, .inl k0), (0, z_s), (1, z_r 0), (2, z_r 78), (3, z_r 193), (4, .inl i)], [z_l 1, z_l ((F_M_watch S1 a1 a2).2 193 0)], zW T' (zwG G' q2) (F_M_watch S1 a1 a2).2 n2, nc + 1, ns + 6) (by decide +kernel) rfl ⟨trivial, trivial, trivial⟩ ?_
        exact hb3239 1 (by rw [if_neg c3])
    intro b hb
    subst hb
    refine z_go2 C 3247 [(.lcmp, 1)] (3248, [(6, .inl (F_M_watch S1 a1 a2).1), (5, .inl k0), (0, z_s), (1, z_r 0), (2, z_r 78), (3, z_r 193), (4, .inl i)], [.inl (lg_cmp ((F_M_watch S1 a1 a2).2 193 0).toInt64 (if (F_M_watch S1 a1 a2).1 = 0 then 0 else 1 : Int32).toInt64)], zW T' (zwG G' q2) (F_M_watch S1 a1 a2).2 n2, nc + 1, ns + 6) (by decide +kernel) rfl ⟨trivial, trivial⟩ ?_
    refine z_if_eq 3253 C (off := 5) (by decide +kernel) (by decide) (fun c2 => ?_) (fun c2 => absurd (by rw [hs.2 c]; exact lg_cmp_self _) c2)
    refine z_go2 C 3253 [(.goto 59, 3)] (3312, [(6, .inl (F_M_watch S1 a1 a2).1), (5, .inl k0), (0, z_s), (1, z_r 0), (2, z_r 78), (3, z_r 193), (4, .inl i)], [], zW T' (zwG G' q2) (F_M_watch S1 a1 a2).2 n2, nc + 1, ns + 6) (by decide +kernel) rfl ⟨trivial, trivial⟩ ?_
    exact z_lvs (lv' := zLV i) [2, 3, 4, 5, 6] rfl (z_wid (nc' := nc + 20) (ns' := ns + 200) (zLwid (a := 1) (by decide)) (zLwid (a := 6) (by decide)) (kk _ _ _ _ hn2 hfl))
def Fl_44 (fl : Nat → Nat) (S : (Nat → Nat → Int32)) (a1 a2 a3 a4 a5 a6 : Int32) : (Nat → Nat → Int32) := (F_M_inbox (F_L_inbox S a1).2 a1).2
def Sl_44 (fl : Nat → Nat) (S : (Nat → Nat → Int32)) (a1 a2 a3 a4 a5 a6 : Int32) : Prop := Sf_L_inbox S a1 ∧ Sf_M_inbox (F_L_inbox S a1).2 a1 ∧ (F_M_thrown (F_M_inbox (F_L_inbox S a1).2 a1).2 = (F_L_inbox S a1).1 ∧ ((F_L_inbox S a1).1 = 0 → (F_M_inbox (F_L_inbox S a1).2 a1).2 193 0 = (F_M_inbox (F_L_inbox S a1).2 a1).1))
theorem l_44 {X : z_X} (C : z_C X zm_law) (hrm : X.2.2.2.1 = room_1) {T' : Nat → Nat × Nat} {G' : Nat → Nat → Option Nat} {n q nc ns : Nat} {fl : Nat → Nat} (S : (Nat → Nat → Int32)) (i a1 a2 a3 a4 a5 a6 : Int32) (hA : zArg X i a1 a2 a3 a4 a5 a6) (hfl : zOK T' (zwG G' q) fl n) (hnc : nc + 20 ≤ 601024) (hns : ns + 200 ≤ 7293034) (hs : Sl_44 fl S a1 a2 a3 a4 a5 a6) (kk : ∀ T2 G2 n2 q2, n ≤ n2 → zOK T2 (zwG G2 q2) fl n2 → z_G X zm_law (3312, zLV i, [], zW T2 (zwG G2 q2) (Fl_44 fl S a1 a2 a3 a4 a5 a6) n2, nc + 20, ns + 200)) : z_G X zm_law (3256, zLV i, [], zW T' (zwG G' q) S n, nc, ns) := by
  unfold Sl_44 at hs
  unfold Fl_44 at kk
  refine z_go2 C 3256 [(.aload_n 1, 1), (.aload_n 0, 1), (.iload 4, 2), (.iconst 1, 1), (.iadd, 1)] (3262, [(0, z_s), (1, z_r 0), (2, z_r 78), (3, z_r 193), (4, .inl i)], [.inl (i + 1), z_s, z_r 0], zW T' (zwG G' q) S n, nc, ns) (by decide +kernel) rfl ⟨trivial, trivial, trivial, trivial, trivial, trivial⟩ ?_
  refine z_sld (v := a1) C (by decide +kernel) hA.g1.1 hA.g1.2 ?_
  refine z_go2 C 3263 [(.aload_n 3, 1)] (3264, [(0, z_s), (1, z_r 0), (2, z_r 78), (3, z_r 193), (4, .inl i)], [z_r 193, .inl a1, z_r 0], zW T' (zwG G' q) S n, nc, ns) (by decide +kernel) rfl ⟨trivial, trivial⟩ ?_
  obtain ⟨hs1, hs⟩ := hs
  refine z_callH (idx := 302) (hh := hh_L_inbox) C (av := [z_r 0, .inl a1, z_r 193]) (st := []) (by decide +kernel) (c_L_inbox T' G' q S n a1 hs1) hrm (z_wi 1505 (by decide +kernel) rfl) (z_wi 152 (by decide +kernel) rfl) ⟨by decide +kernel, by decide +kernel⟩ (show (parseMethodDescriptor zm_L_inbox.1.desc).map (fun d => d.parameters.length) = some 3 by decide +kernel) (z_wi 1503 (by decide +kernel) rfl) (z_wi 1504 (by decide +kernel) rfl) (zLfit (a := 0) (b := 0) (by decide) (by decide) (by decide) (by decide) hnc hns) rfl (Nat.le_of_ble_eq_true rfl) (fun v w' hv => ?_)
  obtain ⟨n2, q2, hn2, rfl, rfl⟩ := hv
  replace hfl := (hfl.le hn2).q q2
  obtain ⟨S1, hS1⟩ : ∃ y, (F_L_inbox S a1).2 = y := ⟨_, rfl⟩
  rw [hS1] at hs kk ⊢
  obtain ⟨k0, hk0⟩ : ∃ y, (F_L_inbox S a1).1 = y := ⟨_, rfl⟩
  try rw [hk0] at hs
  rw [hk0]
  show z_G X zm_law (3267, [(0, z_s), (1, z_r 0), (2, z_r 78), (3, z_r 193), (4, .inl i)], [.inl k0], zW T' (zwG G' q2) S1 n2, nc + 1, ns + 6)
  refine z_go2 C 3267 [(.istore 5, 2), (.aload_n 2, 1), (.aload_n 0, 1), (.iload 4, 2), (.iconst 1, 1), (.iadd, 1)] (3275, [(5, .inl k0), (0, z_s), (1, z_r 0), (2, z_r 78), (3, z_r 193), (4, .inl i)], [.inl (i + 1), z_s, z_r 78], zW T' (zwG G' q2) S1 n2, nc + 1, ns + 6) (by decide +kernel) rfl ⟨trivial, trivial, trivial, trivial, trivial, trivial, trivial⟩ ?_
  refine z_sld (v := a1) C (by decide +kernel) hA.g1.1 hA.g1.2 ?_
  obtain ⟨hs1, hs⟩ := hs
  refine z_callV C (av := [.inl a1]) (st := []) (a := 78) (ci := 14) (by decide +kernel) (c_M_inbox T' (zwG G' q2) S1 n2 a1 hs1) hrm zl_L_304 zv_M_inbox rfl rfl rfl (zLfit (a := 1) (b := 6) (by decide) (by decide) (by decide) (by decide) hnc hns) rfl (Nat.le_of_ble_eq_true rfl) (fun v w' hv => ?_)
  obtain ⟨rfl, rfl⟩ := hv
  show z_G X zm_law (3279, [(5, .inl k0), (0, z_s), (1, z_r 0), (2, z_r 78), (3, z_r 193), (4, .inl i)], [.inl (F_M_inbox S1 a1).1], zW T' (zwG G' q2) (F_M_inbox S1 a1).2 n2, nc + 1, ns + 6)
  refine z_go2 C 3279 [(.istore 6, 2), (.aload_n 2, 1)] (3282, [(6, .inl (F_M_inbox S1 a1).1), (5, .inl k0), (0, z_s), (1, z_r 0), (2, z_r 78), (3, z_r 193), (4, .inl i)], [z_r 78], zW T' (zwG G' q2) (F_M_inbox S1 a1).2 n2, nc + 1, ns + 6) (by decide +kernel) rfl ⟨trivial, trivial, trivial⟩ ?_
  refine z_callV C (av := []) (st := []) (a := 78) (ci := 14) (by decide +kernel) (c_M_thrown T' (zwG G' q2) (F_M_inbox S1 a1).2 n2) hrm zl_L_156 zv_M_thrown rfl rfl rfl (zLfit (a := 1) (b := 6) (by decide) (by decide) (by decide) (by decide) hnc hns) rfl (Nat.le_of_ble_eq_true rfl) (fun v w' hv => ?_)
  obtain ⟨rfl, rfl⟩ := hv
  show z_G X zm_law (3285, [(6, .inl (F_M_inbox S1 a1).1), (5, .inl k0), (0, z_s), (1, z_r 0), (2, z_r 78), (3, z_r 193), (4, .inl i)], [.inl (F_M_thrown (F_M_inbox S1 a1).2)], zW T' (zwG G' q2) (F_M_inbox S1 a1).2 n2, nc + 1, ns + 6)
  refine z_go2 C 3285 [(.iload 5, 2)] (3287, [(6, .inl (F_M_inbox S1 a1).1), (5, .inl k0), (0, z_s), (1, z_r 0), (2, z_r 78), (3, z_r 193), (4, .inl i)], [.inl k0, .inl (F_M_thrown (F_M_inbox S1 a1).2)], zW T' (zwG G' q2) (F_M_inbox S1 a1).2 n2, nc + 1, ns + 6) (by decide +kernel) rfl ⟨trivial, trivial⟩ ?_
  refine z_icmp_eq 3292 C (off := 5) (by decide +kernel) (by decide) (fun c => ?_) (fun c => absurd hs.1 c)
  refine z_go2 C 3292 [(.iload 5, 2)] (3294, [(6, .inl (F_M_inbox S1 a1).1), (5, .inl k0), (0, z_s), (1, z_r 0), (2, z_r 78), (3, z_r 193), (4, .inl i)], [.inl k0], zW T' (zwG G' q2) (F_M_inbox S1 a1).2 n2, nc + 1, ns + 6) (by decide +kernel) rfl ⟨trivial, trivial⟩ ?_
  refine z_if_ne 3309 C (off := 15) (by decide +kernel) (by decide) (fun c => ?_) (fun c => ?_)
  · refine z_go2 C 3309 [(.goto 3, 3)] (3312, [(6, .inl (F_M_inbox S1 a1).1), (5, .inl k0), (0, z_s), (1, z_r 0), (2, z_r 78), (3, z_r 193), (4, .inl i)], [], zW T' (zwG G' q2) (F_M_inbox S1 a1).2 n2, nc + 1, ns + 6) (by decide +kernel) rfl ⟨trivial, trivial⟩ ?_
    exact z_lvs (lv' := zLV i) [2, 3, 4, 5, 6] rfl (z_wid (nc' := nc + 20) (ns' := ns + 200) (zLwid (a := 1) (by decide)) (zLwid (a := 6) (by decide)) (kk _ _ _ _ hn2 hfl))
  · refine z_go2 C 3297 [(.aload_n 3, 1), (.iconst 0, 1), (.laload, 1), (.iload 6, 2), (.i2l, 1), (.lcmp, 1)] (3304, [(6, .inl (F_M_inbox S1 a1).1), (5, .inl k0), (0, z_s), (1, z_r 0), (2, z_r 78), (3, z_r 193), (4, .inl i)], [.inl (lg_cmp ((F_M_inbox S1 a1).2 193 0).toInt64 (F_M_inbox S1 a1).1.toInt64)], zW T' (zwG G' q2) (F_M_inbox S1 a1).2 n2, nc + 1, ns + 6) (by decide +kernel) rfl ⟨trivial, trivial, ⟨rfl, (show vp_in 0 1 by unfold vp_in; decide)⟩, trivial, trivial, trivial, trivial⟩ ?_
    refine z_if_eq 3309 C (off := 5) (by decide +kernel) (by decide) (fun c2 => ?_) (fun c2 => absurd (by rw [hs.2 c]; exact lg_cmp_self _) c2)
    refine z_go2 C 3309 [(.goto 3, 3)] (3312, [(6, .inl (F_M_inbox S1 a1).1), (5, .inl k0), (0, z_s), (1, z_r 0), (2, z_r 78), (3, z_r 193), (4, .inl i)], [], zW T' (zwG G' q2) (F_M_inbox S1 a1).2 n2, nc + 1, ns + 6) (by decide +kernel) rfl ⟨trivial, trivial⟩ ?_
    exact z_lvs (lv' := zLV i) [2, 3, 4, 5, 6] rfl (z_wid (nc' := nc + 20) (ns' := ns + 200) (zLwid (a := 1) (by decide)) (zLwid (a := 6) (by decide)) (kk _ _ _ _ hn2 hfl))
