theorem z_lvs {X : z_X} {Y : z_Y} {pc nc ns : Nat} {lv lv' : List (Nat × z_V)} {st : List z_V} {w : z_W} (ks : List Nat) (h : ks.filterMap (fun i => lv[i]?) = lv') (g : z_G X Y (pc, lv', st, w, nc, ns)) : z_G X Y (pc, lv, st, w, nc, ns) := by
  obtain ⟨p, l, e, R, s, m, args, below, meth, c, Q, D, cA, N0, b⟩ := X
  intro H locs ls hR hS hl
  refine g H locs ls hR hS ⟨hl.1, hl.2.1, fun q hq => ?_⟩
  obtain ⟨u, hu, rfl⟩ := List.mem_map.mp hq
  rw [← h] at hu
  obtain ⟨k, -, hk⟩ := List.mem_filterMap.mp hu
  exact hl.2.2 _ (List.mem_map.mpr ⟨u, List.mem_of_getElem? hk, rfl⟩)
theorem z_bodyF {rm : Room} {Y : z_Y} {av : List z_V} {w : z_W} {Post : Option z_V → z_W → Prop} (hy : plainFor Y.1 = true) (hft : ∀ q ∈ Y.2.2.2.2, z_fok Y.1.cls q) (hn : (av.map z_ct).sum ≤ Y.2.2.1)
    (hb : ∀ X : z_X, z_M X Y rm Post → z_G X Y (0, z_args 0 av, [], w, 0, 0)) : z_Run rm Y av w Post := by
  intro l D cA N0 b htr
  obtain ⟨y, bs, nL, ret, ft⟩ := Y
  refine va_MetF (cc := bs) (maxL := nL) (ret := ret) hy rfl ?_
  intro p e s m args below meth c s₁ B hml hv
  obtain ⟨rfl, henv, hrep⟩ := hv
  have hts := atoms_spec (ws := z_wsY (y, bs, nL, ret, ft)) B.pre
  have hl := lv_entry (av.map (z_c N0 b)) (n := nL) (by rw [z_sl_len]; exact hn)
  rw [z_args_eq] at hl
  rw [lg_entry_eq]
  refine hb (p, l, e, rm, s, m, (av.map (z_c N0 b)).toArray, below, meth, c, MQ below (z_Qc D cA N0 b Post) (av.map (z_c N0 b)).toArray s rm.cells rm.slots (fun q => N0 ≤ q), D, cA, N0, b)
    ⟨⟨B.exec, B.bytes, hml, findClass_of_methodNamed B.named, fun w h => hts w (List.mem_cons_of_mem _ h), henv, B.notSynchronized, B.returns, (name_of_methodNamed B.named B.method).1, hft, htr, by have := hrep.1; omega⟩, rfl, fun H locs g k => k⟩ s.heap [] _ hrep va_S.rf hl
/-- a name for a memory -/
abbrev z_let {α : Sort _} (a : Nat → Nat → Int32) (f : (Nat → Nat → Int32) → α) : α := f a

abbrev zm_Math_max : z_Y := (⟨"java/lang/Math", "max", "(II)I"⟩, prog_22_method_65_code, 2, some .int, [])
theorem zk_Math_max : z_mk zm_Math_max 2 := ⟨z_wi 893 (by decide +kernel) rfl, z_wi 100 (by decide +kernel) rfl, ⟨by decide +kernel, by decide +kernel⟩, by decide +kernel⟩
theorem zs_Math_max : Cond.static zm_Math_max.1 ∈ z_WB := z_wi 892 (by decide +kernel) rfl
theorem zl_Ranks_26 : z_lk "TrackHouse$Ranks" 26 zm_Math_max 2 := z_lk_m zk_Math_max 891 (by decide +kernel)
theorem zl_Sight_102 : z_lk "TrackHouse$Sight" 102 zm_Math_max 2 := z_lk_m zk_Math_max 1124 (by decide +kernel)
abbrev rm_Math_max : Room := zr 0
def F_Math_max (S : (Nat → Nat → Int32)) (p0 : Int32) (p1 : Int32) : Int32 := (if p0 < p1 then p1 else p0)
theorem c_Math_max (T' : Nat → Nat × Nat) (G' : Nat → Nat → Option Nat) (S : (Nat → Nat → Int32)) (n : Nat) (p0 : Int32) (p1 : Int32) : z_Run rm_Math_max zm_Math_max [.inl p0, .inl p1] (zW T' G' S n) (zq (some (.inl (F_Math_max S p0 p1))) (zW T' G' S n)) := by
  refine z_bodyF (by decide +kernel) (fun q h => nomatch h) (Nat.le_of_ble_eq_true rfl) (fun X M => ?_)
  obtain ⟨Q, hQ, K⟩ : ∃ Q : Int32 → Prop, (∀ v, Q v → zq (some (.inl (F_Math_max S p0 p1))) (zW T' G' S n) (some (.inl v)) (zW T' G' S n)) ∧ Q (F_Math_max S p0 p1) := ⟨fun o => F_Math_max S p0 p1 = o, fun v h => ⟨by rw [h], rfl⟩, rfl⟩
  show z_G X zm_Math_max (0, [(0, .inl p0), (1, .inl p1)], [], zW T' G' S n, 0, 0)
  unfold F_Math_max at K
  refine z_go2 M.1 0 [(.iload_n 0, 1), (.iload_n 1, 1)] (2, [(0, .inl p0), (1, .inl p1)], [.inl p1, .inl p0], zW T' G' S n, 0, 0) (by decide +kernel) rfl ⟨trivial, trivial, trivial⟩ ?_
  refine z_icmp_lt 9 M.1 (off := 7) (by decide +kernel) (by decide) (fun c2 => ?_) (fun c2 => ?_)
  · rw [if_pos c2] at K
    refine z_go2 M.1 9 [(.iload_n 1, 1)] (10, [(0, .inl p0), (1, .inl p1)], [.inl p1], zW T' G' S n, 0, 0) (by decide +kernel) rfl ⟨trivial, trivial⟩ ?_
    exact z_iret M (by decide +kernel) .int rfl rfl (by decide) (by decide) (hQ _ K)
  · rw [if_neg c2] at K
    refine z_go2 M.1 5 [(.iload_n 0, 1), (.goto 4, 3)] (10, [(0, .inl p0), (1, .inl p1)], [.inl p0], zW T' G' S n, 0, 0) (by decide +kernel) rfl ⟨trivial, trivial, trivial⟩ ?_
    exact z_iret M (by decide +kernel) .int rfl rfl (by decide) (by decide) (hQ _ K)

abbrev zm_Math_min : z_Y := (⟨"java/lang/Math", "min", "(II)I"⟩, prog_22_method_69_code, 2, some .int, [])
theorem zk_Math_min : z_mk zm_Math_min 2 := ⟨z_wi 679 (by decide +kernel) rfl, z_wi 100 (by decide +kernel) rfl, ⟨by decide +kernel, by decide +kernel⟩, by decide +kernel⟩
theorem zs_Math_min : Cond.static zm_Math_min.1 ∈ z_WB := z_wi 678 (by decide +kernel) rfl
theorem zl_T_433 : z_lk "TrackHouse" 433 zm_Math_min 2 := z_lk_m zk_Math_min 677 (by decide +kernel)
abbrev rm_Math_min : Room := zr 0
def F_Math_min (S : (Nat → Nat → Int32)) (p0 : Int32) (p1 : Int32) : Int32 := (if p1 < p0 then p1 else p0)
theorem c_Math_min (T' : Nat → Nat × Nat) (G' : Nat → Nat → Option Nat) (S : (Nat → Nat → Int32)) (n : Nat) (p0 : Int32) (p1 : Int32) : z_Run rm_Math_min zm_Math_min [.inl p0, .inl p1] (zW T' G' S n) (zq (some (.inl (F_Math_min S p0 p1))) (zW T' G' S n)) := by
  refine z_bodyF (by decide +kernel) (fun q h => nomatch h) (Nat.le_of_ble_eq_true rfl) (fun X M => ?_)
  obtain ⟨Q, hQ, K⟩ : ∃ Q : Int32 → Prop, (∀ v, Q v → zq (some (.inl (F_Math_min S p0 p1))) (zW T' G' S n) (some (.inl v)) (zW T' G' S n)) ∧ Q (F_Math_min S p0 p1) := ⟨fun o => F_Math_min S p0 p1 = o, fun v h => ⟨by rw [h], rfl⟩, rfl⟩
  show z_G X zm_Math_min (0, [(0, .inl p0), (1, .inl p1)], [], zW T' G' S n, 0, 0)
  unfold F_Math_min at K
  refine z_go2 M.1 0 [(.iload_n 0, 1), (.iload_n 1, 1)] (2, [(0, .inl p0), (1, .inl p1)], [.inl p1, .inl p0], zW T' G' S n, 0, 0) (by decide +kernel) rfl ⟨trivial, trivial, trivial⟩ ?_
  refine z_icmp_gt 9 M.1 (off := 7) (by decide +kernel) (by decide) (fun c2 => ?_) (fun c2 => ?_)
  · rw [if_pos c2] at K
    refine z_go2 M.1 9 [(.iload_n 1, 1)] (10, [(0, .inl p0), (1, .inl p1)], [.inl p1], zW T' G' S n, 0, 0) (by decide +kernel) rfl ⟨trivial, trivial⟩ ?_
    exact z_iret M (by decide +kernel) .int rfl rfl (by decide) (by decide) (hQ _ K)
  · rw [if_neg c2] at K
    refine z_go2 M.1 5 [(.iload_n 0, 1), (.goto 4, 3)] (10, [(0, .inl p0), (1, .inl p1)], [.inl p0], zW T' G' S n, 0, 0) (by decide +kernel) rfl ⟨trivial, trivial, trivial⟩ ?_
    exact z_iret M (by decide +kernel) .int rfl rfl (by decide) (by decide) (hQ _ K)

-- bit
abbrev rm_T_bit : Room := zr 0
def F_T_bit_j16 (S : (Nat → Nat → Int32)) : Int32 := 0
theorem t_T_bit_j16 {X : z_X} {Post : Option z_V → z_W → Prop} (M : z_M X zm_T_bit rm_T_bit Post) {T' : Nat → Nat × Nat} {G' : Nat → Nat → Option Nat} {n : Nat} {Q : Int32 → Prop} (S : (Nat → Nat → Int32)) (hQ : ∀ v, Q v → Post (some (.inl v)) (zW T' G' S n)) (K : Q (F_T_bit_j16 S)) : z_G X zm_T_bit (16, [], [], zW T' G' S n, 0, 0) := by
  unfold F_T_bit_j16 at K
  refine z_go2 M.1 16 [(.iconst 0, 1)] (17, [], [.inl 0], zW T' G' S n, 0, 0) (by decide +kernel) rfl ⟨trivial, trivial⟩ ?_
  exact z_iret M (by decide +kernel) .int rfl rfl (by decide) (by decide) (hQ _ K)
def F_T_bit (S : (Nat → Nat → Int32)) (p0 : Int32) : Int32 := (if p0 < 0 then (F_T_bit_j16 S) else (if (31 : Int32) ≤ p0 then (F_T_bit_j16 S) else ((1 : Int32) <<< (p0 &&& 31))))
theorem c_T_bit (T' : Nat → Nat × Nat) (G' : Nat → Nat → Option Nat) (S : (Nat → Nat → Int32)) (n : Nat) (p0 : Int32) : z_Run rm_T_bit zm_T_bit [.inl p0] (zW T' G' S n) (zq (some (.inl (F_T_bit S p0))) (zW T' G' S n)) := by
  refine z_body (by decide) zf_T_ok (Nat.le_of_ble_eq_true rfl) (fun X M => ?_)
  obtain ⟨Q, hQ, K⟩ : ∃ Q : Int32 → Prop, (∀ v, Q v → zq (some (.inl (F_T_bit S p0))) (zW T' G' S n) (some (.inl v)) (zW T' G' S n)) ∧ Q (F_T_bit S p0) := ⟨fun o => F_T_bit S p0 = o, fun v h => ⟨by rw [h], rfl⟩, rfl⟩
  show z_G X zm_T_bit (0, [(0, .inl p0)], [], zW T' G' S n, 0, 0)
  unfold F_T_bit at K
  refine z_go2 M.1 0 [(.iload_n 0, 1)] (1, [(0, .inl p0)], [.inl p0], zW T' G' S n, 0, 0) (by decide +kernel) rfl ⟨trivial, trivial⟩ ?_
  refine z_if_lt 16 M.1 (off := 15) (by decide +kernel) (by decide) (fun c1 => ?_) (fun c1 => ?_)
  · rw [if_pos c1] at K
    exact z_lvs (lv' := []) [] rfl (t_T_bit_j16 M S hQ K)
  · rw [if_neg c1] at K
    refine z_go2 M.1 4 [(.iload_n 0, 1), (.bipush 31, 2)] (7, [(0, .inl p0)], [.inl 31, .inl p0], zW T' G' S n, 0, 0) (by decide +kernel) rfl ⟨trivial, trivial, trivial⟩ ?_
    refine z_icmp_ge 16 M.1 (off := 9) (by decide +kernel) (by decide) (fun c7 => ?_) (fun c7 => ?_)
    · rw [if_pos c7] at K
      exact z_lvs (lv' := []) [] rfl (t_T_bit_j16 M S hQ K)
    · rw [if_neg c7] at K
      refine z_go2 M.1 10 [(.iconst 1, 1), (.iload_n 0, 1), (.ishl, 1), (.goto 4, 3)] (17, [(0, .inl p0)], [.inl ((1 : Int32) <<< (p0 &&& 31))], zW T' G' S n, 0, 0) (by decide +kernel) rfl ⟨trivial, trivial, trivial, trivial, trivial⟩ ?_
      exact z_iret M (by decide +kernel) .int rfl rfl (by decide) (by decide) (hQ _ K)

-- isIn
abbrev rm_T_isIn : Room := zr 0
def F_T_isIn (S : (Nat → Nat → Int32)) (p0 : Int32) (p1 : Int32) : Int32 := (if p1 < 0 then 0 else (if (31 : Int32) ≤ p1 then 0 else (if ((p0 >>> (p1 &&& 31)) &&& 1) = 1 then 1 else 0)))
theorem c_T_isIn (T' : Nat → Nat × Nat) (G' : Nat → Nat → Option Nat) (S : (Nat → Nat → Int32)) (n : Nat) (p0 : Int32) (p1 : Int32) : z_Run rm_T_isIn zm_T_isIn [.inl p0, .inl p1] (zW T' G' S n) (zq (some (.inl (F_T_isIn S p0 p1))) (zW T' G' S n)) := by
  refine z_body (by decide) zf_T_ok (Nat.le_of_ble_eq_true rfl) (fun X M => ?_)
  obtain ⟨Q, hQ, K⟩ : ∃ Q : Int32 → Prop, (∀ v, Q v → zq (some (.inl (F_T_isIn S p0 p1))) (zW T' G' S n) (some (.inl v)) (zW T' G' S n)) ∧ Q (F_T_isIn S p0 p1) := ⟨fun o => F_T_isIn S p0 p1 = o, fun v h => ⟨by rw [h], rfl⟩, rfl⟩
  show z_G X zm_T_isIn (0, [(0, .inl p0), (1, .inl p1)], [], zW T' G' S n, 0, 0)
  unfold F_T_isIn at K
  refine z_go2 M.1 0 [(.iload_n 1, 1)] (1, [(0, .inl p0), (1, .inl p1)], [.inl p1], zW T' G' S n, 0, 0) (by decide +kernel) rfl ⟨trivial, trivial⟩ ?_
  refine z_if_lt 23 M.1 (off := 22) (by decide +kernel) (by decide) (fun c1 => ?_) (fun c1 => ?_)
  · rw [if_pos c1] at K
    refine z_go2 M.1 23 [(.iconst 0, 1)] (24, [(0, .inl p0), (1, .inl p1)], [.inl 0], zW T' G' S n, 0, 0) (by decide +kernel) rfl ⟨trivial, trivial⟩ ?_
    exact z_iret M (by decide +kernel) .boolean rfl rfl (by decide) (by decide) (hQ _ K)
  · rw [if_neg c1] at K
    refine z_go2 M.1 4 [(.iload_n 1, 1), (.bipush 31, 2)] (7, [(0, .inl p0), (1, .inl p1)], [.inl 31, .inl p1], zW T' G' S n, 0, 0) (by decide +kernel) rfl ⟨trivial, trivial, trivial⟩ ?_
    refine z_icmp_ge 23 M.1 (off := 16) (by decide +kernel) (by decide) (fun c7 => ?_) (fun c7 => ?_)
    · rw [if_pos c7] at K
      refine z_go2 M.1 23 [(.iconst 0, 1)] (24, [(0, .inl p0), (1, .inl p1)], [.inl 0], zW T' G' S n, 0, 0) (by decide +kernel) rfl ⟨trivial, trivial⟩ ?_
      exact z_iret M (by decide +kernel) .boolean rfl rfl (by decide) (by decide) (hQ _ K)
    · rw [if_neg c7] at K
      refine z_go2 M.1 10 [(.iload_n 0, 1), (.iload_n 1, 1), (.ishr, 1), (.iconst 1, 1), (.iand, 1), (.iconst 1, 1)] (16, [(0, .inl p0), (1, .inl p1)], [.inl 1, .inl ((p0 >>> (p1 &&& 31)) &&& 1)], zW T' G' S n, 0, 0) (by decide +kernel) rfl ⟨trivial, trivial, trivial, trivial, trivial, trivial, trivial⟩ ?_
      refine z_icmp_ne 23 M.1 (off := 7) (by decide +kernel) (by decide) (fun c16 => ?_) (fun c16 => ?_)
      · rw [if_neg c16] at K
        refine z_go2 M.1 23 [(.iconst 0, 1)] (24, [(0, .inl p0), (1, .inl p1)], [.inl 0], zW T' G' S n, 0, 0) (by decide +kernel) rfl ⟨trivial, trivial⟩ ?_
        exact z_iret M (by decide +kernel) .boolean rfl rfl (by decide) (by decide) (hQ _ K)
      · rw [if_pos c16] at K
        refine z_go2 M.1 19 [(.iconst 1, 1), (.goto 4, 3)] (24, [(0, .inl p0), (1, .inl p1)], [.inl 1], zW T' G' S n, 0, 0) (by decide +kernel) rfl ⟨trivial, trivial, trivial⟩ ?_
        exact z_iret M (by decide +kernel) .boolean rfl rfl (by decide) (by decide) (hQ _ K)

-- isPerson
abbrev rm_T_isPerson : Room := zr 0
def F_T_isPerson_j14 (S : (Nat → Nat → Int32)) : Int32 := 0
theorem t_T_isPerson_j14 {X : z_X} {Post : Option z_V → z_W → Prop} (M : z_M X zm_T_isPerson rm_T_isPerson Post) {T' : Nat → Nat × Nat} {G' : Nat → Nat → Option Nat} {n : Nat} {Q : Int32 → Prop} (S : (Nat → Nat → Int32)) (hQ : ∀ v, Q v → Post (some (.inl v)) (zW T' G' S n)) (K : Q (F_T_isPerson_j14 S)) : z_G X zm_T_isPerson (14, [], [], zW T' G' S n, 0, 0) := by
  unfold F_T_isPerson_j14 at K
  refine z_go2 M.1 14 [(.iconst 0, 1)] (15, [], [.inl 0], zW T' G' S n, 0, 0) (by decide +kernel) rfl ⟨trivial, trivial⟩ ?_
  exact z_iret M (by decide +kernel) .boolean rfl rfl (by decide) (by decide) (hQ _ K)
def F_T_isPerson (S : (Nat → Nat → Int32)) (p0 : Int32) : Int32 := (if p0 < 0 then (F_T_isPerson_j14 S) else (if (8 : Int32) ≤ p0 then (F_T_isPerson_j14 S) else 1))
theorem c_T_isPerson (T' : Nat → Nat × Nat) (G' : Nat → Nat → Option Nat) (S : (Nat → Nat → Int32)) (n : Nat) (p0 : Int32) : z_Run rm_T_isPerson zm_T_isPerson [.inl p0] (zW T' G' S n) (zq (some (.inl (F_T_isPerson S p0))) (zW T' G' S n)) := by
  refine z_body (by decide) zf_T_ok (Nat.le_of_ble_eq_true rfl) (fun X M => ?_)
  obtain ⟨Q, hQ, K⟩ : ∃ Q : Int32 → Prop, (∀ v, Q v → zq (some (.inl (F_T_isPerson S p0))) (zW T' G' S n) (some (.inl v)) (zW T' G' S n)) ∧ Q (F_T_isPerson S p0) := ⟨fun o => F_T_isPerson S p0 = o, fun v h => ⟨by rw [h], rfl⟩, rfl⟩
  show z_G X zm_T_isPerson (0, [(0, .inl p0)], [], zW T' G' S n, 0, 0)
  unfold F_T_isPerson at K
  refine z_go2 M.1 0 [(.iload_n 0, 1)] (1, [(0, .inl p0)], [.inl p0], zW T' G' S n, 0, 0) (by decide +kernel) rfl ⟨trivial, trivial⟩ ?_
  refine z_if_lt 14 M.1 (off := 13) (by decide +kernel) (by decide) (fun c1 => ?_) (fun c1 => ?_)
  · rw [if_pos c1] at K
    exact z_lvs (lv' := []) [] rfl (t_T_isPerson_j14 M S hQ K)
  · rw [if_neg c1] at K
    refine z_go2 M.1 4 [(.iload_n 0, 1), (.bipush 8, 2)] (7, [(0, .inl p0)], [.inl 8, .inl p0], zW T' G' S n, 0, 0) (by decide +kernel) rfl ⟨trivial, trivial, trivial⟩ ?_
    refine z_icmp_ge 14 M.1 (off := 7) (by decide +kernel) (by decide) (fun c7 => ?_) (fun c7 => ?_)
    · rw [if_pos c7] at K
      exact z_lvs (lv' := []) [] rfl (t_T_isPerson_j14 M S hQ K)
    · rw [if_neg c7] at K
      refine z_go2 M.1 10 [(.iconst 1, 1), (.goto 4, 3)] (15, [(0, .inl p0)], [.inl 1], zW T' G' S n, 0, 0) (by decide +kernel) rfl ⟨trivial, trivial, trivial⟩ ?_
      exact z_iret M (by decide +kernel) .boolean rfl rfl (by decide) (by decide) (hQ _ K)

-- isProject
abbrev rm_T_isProject : Room := zr 0
def F_T_isProject_j13 (S : (Nat → Nat → Int32)) : Int32 := 0
theorem t_T_isProject_j13 {X : z_X} {Post : Option z_V → z_W → Prop} (M : z_M X zm_T_isProject rm_T_isProject Post) {T' : Nat → Nat × Nat} {G' : Nat → Nat → Option Nat} {n : Nat} {Q : Int32 → Prop} (S : (Nat → Nat → Int32)) (hQ : ∀ v, Q v → Post (some (.inl v)) (zW T' G' S n)) (K : Q (F_T_isProject_j13 S)) : z_G X zm_T_isProject (13, [], [], zW T' G' S n, 0, 0) := by
  unfold F_T_isProject_j13 at K
  refine z_go2 M.1 13 [(.iconst 0, 1)] (14, [], [.inl 0], zW T' G' S n, 0, 0) (by decide +kernel) rfl ⟨trivial, trivial⟩ ?_
  exact z_iret M (by decide +kernel) .boolean rfl rfl (by decide) (by decide) (hQ _ K)
def F_T_isProject (S : (Nat → Nat → Int32)) (p0 : Int32) : Int32 := (if p0 < 0 then (F_T_isProject_j13 S) else (if (3 : Int32) ≤ p0 then (F_T_isProject_j13 S) else 1))
theorem c_T_isProject (T' : Nat → Nat × Nat) (G' : Nat → Nat → Option Nat) (S : (Nat → Nat → Int32)) (n : Nat) (p0 : Int32) : z_Run rm_T_isProject zm_T_isProject [.inl p0] (zW T' G' S n) (zq (some (.inl (F_T_isProject S p0))) (zW T' G' S n)) := by
  refine z_body (by decide) zf_T_ok (Nat.le_of_ble_eq_true rfl) (fun X M => ?_)
  obtain ⟨Q, hQ, K⟩ : ∃ Q : Int32 → Prop, (∀ v, Q v → zq (some (.inl (F_T_isProject S p0))) (zW T' G' S n) (some (.inl v)) (zW T' G' S n)) ∧ Q (F_T_isProject S p0) := ⟨fun o => F_T_isProject S p0 = o, fun v h => ⟨by rw [h], rfl⟩, rfl⟩
  show z_G X zm_T_isProject (0, [(0, .inl p0)], [], zW T' G' S n, 0, 0)
  unfold F_T_isProject at K
  refine z_go2 M.1 0 [(.iload_n 0, 1)] (1, [(0, .inl p0)], [.inl p0], zW T' G' S n, 0, 0) (by decide +kernel) rfl ⟨trivial, trivial⟩ ?_
  refine z_if_lt 13 M.1 (off := 12) (by decide +kernel) (by decide) (fun c1 => ?_) (fun c1 => ?_)
  · rw [if_pos c1] at K
    exact z_lvs (lv' := []) [] rfl (t_T_isProject_j13 M S hQ K)
  · rw [if_neg c1] at K
    refine z_go2 M.1 4 [(.iload_n 0, 1), (.iconst 3, 1)] (6, [(0, .inl p0)], [.inl 3, .inl p0], zW T' G' S n, 0, 0) (by decide +kernel) rfl ⟨trivial, trivial, trivial⟩ ?_
    refine z_icmp_ge 13 M.1 (off := 7) (by decide +kernel) (by decide) (fun c6 => ?_) (fun c6 => ?_)
    · rw [if_pos c6] at K
      exact z_lvs (lv' := []) [] rfl (t_T_isProject_j13 M S hQ K)
    · rw [if_neg c6] at K
      refine z_go2 M.1 9 [(.iconst 1, 1), (.goto 4, 3)] (14, [(0, .inl p0)], [.inl 1], zW T' G' S n, 0, 0) (by decide +kernel) rfl ⟨trivial, trivial, trivial⟩ ?_
      exact z_iret M (by decide +kernel) .boolean rfl rfl (by decide) (by decide) (hQ _ K)

-- isKind
abbrev rm_T_isKind : Room := zr 0
def F_T_isKind_j13 (S : (Nat → Nat → Int32)) : Int32 := 0
theorem t_T_isKind_j13 {X : z_X} {Post : Option z_V → z_W → Prop} (M : z_M X zm_T_isKind rm_T_isKind Post) {T' : Nat → Nat × Nat} {G' : Nat → Nat → Option Nat} {n : Nat} {Q : Int32 → Prop} (S : (Nat → Nat → Int32)) (hQ : ∀ v, Q v → Post (some (.inl v)) (zW T' G' S n)) (K : Q (F_T_isKind_j13 S)) : z_G X zm_T_isKind (13, [], [], zW T' G' S n, 0, 0) := by
  unfold F_T_isKind_j13 at K
  refine z_go2 M.1 13 [(.iconst 0, 1)] (14, [], [.inl 0], zW T' G' S n, 0, 0) (by decide +kernel) rfl ⟨trivial, trivial⟩ ?_
  exact z_iret M (by decide +kernel) .boolean rfl rfl (by decide) (by decide) (hQ _ K)
def F_T_isKind (S : (Nat → Nat → Int32)) (p0 : Int32) : Int32 := (if p0 < 0 then (F_T_isKind_j13 S) else (if (3 : Int32) ≤ p0 then (F_T_isKind_j13 S) else 1))
theorem c_T_isKind (T' : Nat → Nat × Nat) (G' : Nat → Nat → Option Nat) (S : (Nat → Nat → Int32)) (n : Nat) (p0 : Int32) : z_Run rm_T_isKind zm_T_isKind [.inl p0] (zW T' G' S n) (zq (some (.inl (F_T_isKind S p0))) (zW T' G' S n)) := by
  refine z_body (by decide) zf_T_ok (Nat.le_of_ble_eq_true rfl) (fun X M => ?_)
  obtain ⟨Q, hQ, K⟩ : ∃ Q : Int32 → Prop, (∀ v, Q v → zq (some (.inl (F_T_isKind S p0))) (zW T' G' S n) (some (.inl v)) (zW T' G' S n)) ∧ Q (F_T_isKind S p0) := ⟨fun o => F_T_isKind S p0 = o, fun v h => ⟨by rw [h], rfl⟩, rfl⟩
  show z_G X zm_T_isKind (0, [(0, .inl p0)], [], zW T' G' S n, 0, 0)
  unfold F_T_isKind at K
  refine z_go2 M.1 0 [(.iload_n 0, 1)] (1, [(0, .inl p0)], [.inl p0], zW T' G' S n, 0, 0) (by decide +kernel) rfl ⟨trivial, trivial⟩ ?_
  refine z_if_lt 13 M.1 (off := 12) (by decide +kernel) (by decide) (fun c1 => ?_) (fun c1 => ?_)
  · rw [if_pos c1] at K
    exact z_lvs (lv' := []) [] rfl (t_T_isKind_j13 M S hQ K)
  · rw [if_neg c1] at K
    refine z_go2 M.1 4 [(.iload_n 0, 1), (.iconst 3, 1)] (6, [(0, .inl p0)], [.inl 3, .inl p0], zW T' G' S n, 0, 0) (by decide +kernel) rfl ⟨trivial, trivial, trivial⟩ ?_
    refine z_icmp_ge 13 M.1 (off := 7) (by decide +kernel) (by decide) (fun c6 => ?_) (fun c6 => ?_)
    · rw [if_pos c6] at K
      exact z_lvs (lv' := []) [] rfl (t_T_isKind_j13 M S hQ K)
    · rw [if_neg c6] at K
      refine z_go2 M.1 9 [(.iconst 1, 1), (.goto 4, 3)] (14, [(0, .inl p0)], [.inl 1], zW T' G' S n, 0, 0) (by decide +kernel) rfl ⟨trivial, trivial, trivial⟩ ?_
      exact z_iret M (by decide +kernel) .boolean rfl rfl (by decide) (by decide) (hQ _ K)

-- isState
abbrev rm_T_isState : Room := zr 0
def F_T_isState_j14 (S : (Nat → Nat → Int32)) : Int32 := 0
theorem t_T_isState_j14 {X : z_X} {Post : Option z_V → z_W → Prop} (M : z_M X zm_T_isState rm_T_isState Post) {T' : Nat → Nat × Nat} {G' : Nat → Nat → Option Nat} {n : Nat} {Q : Int32 → Prop} (S : (Nat → Nat → Int32)) (hQ : ∀ v, Q v → Post (some (.inl v)) (zW T' G' S n)) (K : Q (F_T_isState_j14 S)) : z_G X zm_T_isState (14, [], [], zW T' G' S n, 0, 0) := by
  unfold F_T_isState_j14 at K
  refine z_go2 M.1 14 [(.iconst 0, 1)] (15, [], [.inl 0], zW T' G' S n, 0, 0) (by decide +kernel) rfl ⟨trivial, trivial⟩ ?_
  exact z_iret M (by decide +kernel) .boolean rfl rfl (by decide) (by decide) (hQ _ K)
def F_T_isState (S : (Nat → Nat → Int32)) (p0 : Int32) : Int32 := (if p0 < 0 then (F_T_isState_j14 S) else (if (6 : Int32) ≤ p0 then (F_T_isState_j14 S) else 1))
theorem c_T_isState (T' : Nat → Nat × Nat) (G' : Nat → Nat → Option Nat) (S : (Nat → Nat → Int32)) (n : Nat) (p0 : Int32) : z_Run rm_T_isState zm_T_isState [.inl p0] (zW T' G' S n) (zq (some (.inl (F_T_isState S p0))) (zW T' G' S n)) := by
  refine z_body (by decide) zf_T_ok (Nat.le_of_ble_eq_true rfl) (fun X M => ?_)
  obtain ⟨Q, hQ, K⟩ : ∃ Q : Int32 → Prop, (∀ v, Q v → zq (some (.inl (F_T_isState S p0))) (zW T' G' S n) (some (.inl v)) (zW T' G' S n)) ∧ Q (F_T_isState S p0) := ⟨fun o => F_T_isState S p0 = o, fun v h => ⟨by rw [h], rfl⟩, rfl⟩
  show z_G X zm_T_isState (0, [(0, .inl p0)], [], zW T' G' S n, 0, 0)
  unfold F_T_isState at K
  refine z_go2 M.1 0 [(.iload_n 0, 1)] (1, [(0, .inl p0)], [.inl p0], zW T' G' S n, 0, 0) (by decide +kernel) rfl ⟨trivial, trivial⟩ ?_
  refine z_if_lt 14 M.1 (off := 13) (by decide +kernel) (by decide) (fun c1 => ?_) (fun c1 => ?_)
  · rw [if_pos c1] at K
    exact z_lvs (lv' := []) [] rfl (t_T_isState_j14 M S hQ K)
  · rw [if_neg c1] at K
    refine z_go2 M.1 4 [(.iload_n 0, 1), (.bipush 6, 2)] (7, [(0, .inl p0)], [.inl 6, .inl p0], zW T' G' S n, 0, 0) (by decide +kernel) rfl ⟨trivial, trivial, trivial⟩ ?_
    refine z_icmp_ge 14 M.1 (off := 7) (by decide +kernel) (by decide) (fun c7 => ?_) (fun c7 => ?_)
    · rw [if_pos c7] at K
      exact z_lvs (lv' := []) [] rfl (t_T_isState_j14 M S hQ K)
    · rw [if_neg c7] at K
      refine z_go2 M.1 10 [(.iconst 1, 1), (.goto 4, 3)] (15, [(0, .inl p0)], [.inl 1], zW T' G' S n, 0, 0) (by decide +kernel) rfl ⟨trivial, trivial, trivial⟩ ?_
      exact z_iret M (by decide +kernel) .boolean rfl rfl (by decide) (by decide) (hQ _ K)

-- isSprint
abbrev rm_T_isSprint : Room := zr 0
def F_T_isSprint_j13 (S : (Nat → Nat → Int32)) : Int32 := 0
theorem t_T_isSprint_j13 {X : z_X} {Post : Option z_V → z_W → Prop} (M : z_M X zm_T_isSprint rm_T_isSprint Post) {T' : Nat → Nat × Nat} {G' : Nat → Nat → Option Nat} {n : Nat} {Q : Int32 → Prop} (S : (Nat → Nat → Int32)) (hQ : ∀ v, Q v → Post (some (.inl v)) (zW T' G' S n)) (K : Q (F_T_isSprint_j13 S)) : z_G X zm_T_isSprint (13, [], [], zW T' G' S n, 0, 0) := by
  unfold F_T_isSprint_j13 at K
  refine z_go2 M.1 13 [(.iconst 0, 1)] (14, [], [.inl 0], zW T' G' S n, 0, 0) (by decide +kernel) rfl ⟨trivial, trivial⟩ ?_
  exact z_iret M (by decide +kernel) .boolean rfl rfl (by decide) (by decide) (hQ _ K)
def F_T_isSprint (S : (Nat → Nat → Int32)) (p0 : Int32) : Int32 := (if p0 < 0 then (F_T_isSprint_j13 S) else (if (4 : Int32) ≤ p0 then (F_T_isSprint_j13 S) else 1))
theorem c_T_isSprint (T' : Nat → Nat × Nat) (G' : Nat → Nat → Option Nat) (S : (Nat → Nat → Int32)) (n : Nat) (p0 : Int32) : z_Run rm_T_isSprint zm_T_isSprint [.inl p0] (zW T' G' S n) (zq (some (.inl (F_T_isSprint S p0))) (zW T' G' S n)) := by
  refine z_body (by decide) zf_T_ok (Nat.le_of_ble_eq_true rfl) (fun X M => ?_)
  obtain ⟨Q, hQ, K⟩ : ∃ Q : Int32 → Prop, (∀ v, Q v → zq (some (.inl (F_T_isSprint S p0))) (zW T' G' S n) (some (.inl v)) (zW T' G' S n)) ∧ Q (F_T_isSprint S p0) := ⟨fun o => F_T_isSprint S p0 = o, fun v h => ⟨by rw [h], rfl⟩, rfl⟩
  show z_G X zm_T_isSprint (0, [(0, .inl p0)], [], zW T' G' S n, 0, 0)
  unfold F_T_isSprint at K
  refine z_go2 M.1 0 [(.iload_n 0, 1)] (1, [(0, .inl p0)], [.inl p0], zW T' G' S n, 0, 0) (by decide +kernel) rfl ⟨trivial, trivial⟩ ?_
  refine z_if_lt 13 M.1 (off := 12) (by decide +kernel) (by decide) (fun c1 => ?_) (fun c1 => ?_)
  · rw [if_pos c1] at K
    exact z_lvs (lv' := []) [] rfl (t_T_isSprint_j13 M S hQ K)
  · rw [if_neg c1] at K
    refine z_go2 M.1 4 [(.iload_n 0, 1), (.iconst 4, 1)] (6, [(0, .inl p0)], [.inl 4, .inl p0], zW T' G' S n, 0, 0) (by decide +kernel) rfl ⟨trivial, trivial, trivial⟩ ?_
    refine z_icmp_ge 13 M.1 (off := 7) (by decide +kernel) (by decide) (fun c6 => ?_) (fun c6 => ?_)
    · rw [if_pos c6] at K
      exact z_lvs (lv' := []) [] rfl (t_T_isSprint_j13 M S hQ K)
    · rw [if_neg c6] at K
      refine z_go2 M.1 9 [(.iconst 1, 1), (.goto 4, 3)] (14, [(0, .inl p0)], [.inl 1], zW T' G' S n, 0, 0) (by decide +kernel) rfl ⟨trivial, trivial, trivial⟩ ?_
      exact z_iret M (by decide +kernel) .boolean rfl rfl (by decide) (by decide) (hQ _ K)

-- isField
abbrev rm_T_isField : Room := zr 0
def F_T_isField_j13 (S : (Nat → Nat → Int32)) : Int32 := 0
theorem t_T_isField_j13 {X : z_X} {Post : Option z_V → z_W → Prop} (M : z_M X zm_T_isField rm_T_isField Post) {T' : Nat → Nat × Nat} {G' : Nat → Nat → Option Nat} {n : Nat} {Q : Int32 → Prop} (S : (Nat → Nat → Int32)) (hQ : ∀ v, Q v → Post (some (.inl v)) (zW T' G' S n)) (K : Q (F_T_isField_j13 S)) : z_G X zm_T_isField (13, [], [], zW T' G' S n, 0, 0) := by
  unfold F_T_isField_j13 at K
  refine z_go2 M.1 13 [(.iconst 0, 1)] (14, [], [.inl 0], zW T' G' S n, 0, 0) (by decide +kernel) rfl ⟨trivial, trivial⟩ ?_
  exact z_iret M (by decide +kernel) .boolean rfl rfl (by decide) (by decide) (hQ _ K)
def F_T_isField (S : (Nat → Nat → Int32)) (p0 : Int32) : Int32 := (if p0 < 0 then (F_T_isField_j13 S) else (if (3 : Int32) ≤ p0 then (F_T_isField_j13 S) else 1))
theorem c_T_isField (T' : Nat → Nat × Nat) (G' : Nat → Nat → Option Nat) (S : (Nat → Nat → Int32)) (n : Nat) (p0 : Int32) : z_Run rm_T_isField zm_T_isField [.inl p0] (zW T' G' S n) (zq (some (.inl (F_T_isField S p0))) (zW T' G' S n)) := by
  refine z_body (by decide) zf_T_ok (Nat.le_of_ble_eq_true rfl) (fun X M => ?_)
  obtain ⟨Q, hQ, K⟩ : ∃ Q : Int32 → Prop, (∀ v, Q v → zq (some (.inl (F_T_isField S p0))) (zW T' G' S n) (some (.inl v)) (zW T' G' S n)) ∧ Q (F_T_isField S p0) := ⟨fun o => F_T_isField S p0 = o, fun v h => ⟨by rw [h], rfl⟩, rfl⟩
  show z_G X zm_T_isField (0, [(0, .inl p0)], [], zW T' G' S n, 0, 0)
  unfold F_T_isField at K
  refine z_go2 M.1 0 [(.iload_n 0, 1)] (1, [(0, .inl p0)], [.inl p0], zW T' G' S n, 0, 0) (by decide +kernel) rfl ⟨trivial, trivial⟩ ?_
  refine z_if_lt 13 M.1 (off := 12) (by decide +kernel) (by decide) (fun c1 => ?_) (fun c1 => ?_)
  · rw [if_pos c1] at K
    exact z_lvs (lv' := []) [] rfl (t_T_isField_j13 M S hQ K)
  · rw [if_neg c1] at K
    refine z_go2 M.1 4 [(.iload_n 0, 1), (.iconst 3, 1)] (6, [(0, .inl p0)], [.inl 3, .inl p0], zW T' G' S n, 0, 0) (by decide +kernel) rfl ⟨trivial, trivial, trivial⟩ ?_
    refine z_icmp_ge 13 M.1 (off := 7) (by decide +kernel) (by decide) (fun c6 => ?_) (fun c6 => ?_)
    · rw [if_pos c6] at K
      exact z_lvs (lv' := []) [] rfl (t_T_isField_j13 M S hQ K)
    · rw [if_neg c6] at K
      refine z_go2 M.1 9 [(.iconst 1, 1), (.goto 4, 3)] (14, [(0, .inl p0)], [.inl 1], zW T' G' S n, 0, 0) (by decide +kernel) rfl ⟨trivial, trivial, trivial⟩ ?_
      exact z_iret M (by decide +kernel) .boolean rfl rfl (by decide) (by decide) (hQ _ K)

-- isAnyField
abbrev rm_T_isAnyField : Room := zr 0
def F_T_isAnyField_j13 (S : (Nat → Nat → Int32)) : Int32 := 0
theorem t_T_isAnyField_j13 {X : z_X} {Post : Option z_V → z_W → Prop} (M : z_M X zm_T_isAnyField rm_T_isAnyField Post) {T' : Nat → Nat × Nat} {G' : Nat → Nat → Option Nat} {n : Nat} {Q : Int32 → Prop} (S : (Nat → Nat → Int32)) (hQ : ∀ v, Q v → Post (some (.inl v)) (zW T' G' S n)) (K : Q (F_T_isAnyField_j13 S)) : z_G X zm_T_isAnyField (13, [], [], zW T' G' S n, 0, 0) := by
  unfold F_T_isAnyField_j13 at K
  refine z_go2 M.1 13 [(.iconst 0, 1)] (14, [], [.inl 0], zW T' G' S n, 0, 0) (by decide +kernel) rfl ⟨trivial, trivial⟩ ?_
  exact z_iret M (by decide +kernel) .boolean rfl rfl (by decide) (by decide) (hQ _ K)
def F_T_isAnyField (S : (Nat → Nat → Int32)) (p0 : Int32) : Int32 := (if p0 < 0 then (F_T_isAnyField_j13 S) else (if (3 : Int32) < p0 then (F_T_isAnyField_j13 S) else 1))
theorem c_T_isAnyField (T' : Nat → Nat × Nat) (G' : Nat → Nat → Option Nat) (S : (Nat → Nat → Int32)) (n : Nat) (p0 : Int32) : z_Run rm_T_isAnyField zm_T_isAnyField [.inl p0] (zW T' G' S n) (zq (some (.inl (F_T_isAnyField S p0))) (zW T' G' S n)) := by
  refine z_body (by decide) zf_T_ok (Nat.le_of_ble_eq_true rfl) (fun X M => ?_)
  obtain ⟨Q, hQ, K⟩ : ∃ Q : Int32 → Prop, (∀ v, Q v → zq (some (.inl (F_T_isAnyField S p0))) (zW T' G' S n) (some (.inl v)) (zW T' G' S n)) ∧ Q (F_T_isAnyField S p0) := ⟨fun o => F_T_isAnyField S p0 = o, fun v h => ⟨by rw [h], rfl⟩, rfl⟩
  show z_G X zm_T_isAnyField (0, [(0, .inl p0)], [], zW T' G' S n, 0, 0)
  unfold F_T_isAnyField at K
  refine z_go2 M.1 0 [(.iload_n 0, 1)] (1, [(0, .inl p0)], [.inl p0], zW T' G' S n, 0, 0) (by decide +kernel) rfl ⟨trivial, trivial⟩ ?_
  refine z_if_lt 13 M.1 (off := 12) (by decide +kernel) (by decide) (fun c1 => ?_) (fun c1 => ?_)
  · rw [if_pos c1] at K
    exact z_lvs (lv' := []) [] rfl (t_T_isAnyField_j13 M S hQ K)
  · rw [if_neg c1] at K
    refine z_go2 M.1 4 [(.iload_n 0, 1), (.iconst 3, 1)] (6, [(0, .inl p0)], [.inl 3, .inl p0], zW T' G' S n, 0, 0) (by decide +kernel) rfl ⟨trivial, trivial, trivial⟩ ?_
    refine z_icmp_gt 13 M.1 (off := 7) (by decide +kernel) (by decide) (fun c6 => ?_) (fun c6 => ?_)
    · rw [if_pos c6] at K
      exact z_lvs (lv' := []) [] rfl (t_T_isAnyField_j13 M S hQ K)
    · rw [if_neg c6] at K
      refine z_go2 M.1 9 [(.iconst 1, 1), (.goto 4, 3)] (14, [(0, .inl p0)], [.inl 1], zW T' G' S n, 0, 0) (by decide +kernel) rfl ⟨trivial, trivial, trivial⟩ ?_
      exact z_iret M (by decide +kernel) .boolean rfl rfl (by decide) (by decide) (hQ _ K)

-- isRoles
abbrev rm_T_isRoles : Room := zr 0
def F_T_isRoles_j14 (S : (Nat → Nat → Int32)) : Int32 := 0
theorem t_T_isRoles_j14 {X : z_X} {Post : Option z_V → z_W → Prop} (M : z_M X zm_T_isRoles rm_T_isRoles Post) {T' : Nat → Nat × Nat} {G' : Nat → Nat → Option Nat} {n : Nat} {Q : Int32 → Prop} (S : (Nat → Nat → Int32)) (hQ : ∀ v, Q v → Post (some (.inl v)) (zW T' G' S n)) (K : Q (F_T_isRoles_j14 S)) : z_G X zm_T_isRoles (14, [], [], zW T' G' S n, 0, 0) := by
  unfold F_T_isRoles_j14 at K
  refine z_go2 M.1 14 [(.iconst 0, 1)] (15, [], [.inl 0], zW T' G' S n, 0, 0) (by decide +kernel) rfl ⟨trivial, trivial⟩ ?_
  exact z_iret M (by decide +kernel) .boolean rfl rfl (by decide) (by decide) (hQ _ K)
def F_T_isRoles (S : (Nat → Nat → Int32)) (p0 : Int32) : Int32 := (if p0 < 0 then (F_T_isRoles_j14 S) else (if (15 : Int32) < p0 then (F_T_isRoles_j14 S) else 1))
theorem c_T_isRoles (T' : Nat → Nat × Nat) (G' : Nat → Nat → Option Nat) (S : (Nat → Nat → Int32)) (n : Nat) (p0 : Int32) : z_Run rm_T_isRoles zm_T_isRoles [.inl p0] (zW T' G' S n) (zq (some (.inl (F_T_isRoles S p0))) (zW T' G' S n)) := by
  refine z_body (by decide) zf_T_ok (Nat.le_of_ble_eq_true rfl) (fun X M => ?_)
  obtain ⟨Q, hQ, K⟩ : ∃ Q : Int32 → Prop, (∀ v, Q v → zq (some (.inl (F_T_isRoles S p0))) (zW T' G' S n) (some (.inl v)) (zW T' G' S n)) ∧ Q (F_T_isRoles S p0) := ⟨fun o => F_T_isRoles S p0 = o, fun v h => ⟨by rw [h], rfl⟩, rfl⟩
  show z_G X zm_T_isRoles (0, [(0, .inl p0)], [], zW T' G' S n, 0, 0)
  unfold F_T_isRoles at K
  refine z_go2 M.1 0 [(.iload_n 0, 1)] (1, [(0, .inl p0)], [.inl p0], zW T' G' S n, 0, 0) (by decide +kernel) rfl ⟨trivial, trivial⟩ ?_
  refine z_if_lt 14 M.1 (off := 13) (by decide +kernel) (by decide) (fun c1 => ?_) (fun c1 => ?_)
  · rw [if_pos c1] at K
    exact z_lvs (lv' := []) [] rfl (t_T_isRoles_j14 M S hQ K)
  · rw [if_neg c1] at K
    refine z_go2 M.1 4 [(.iload_n 0, 1), (.bipush 15, 2)] (7, [(0, .inl p0)], [.inl 15, .inl p0], zW T' G' S n, 0, 0) (by decide +kernel) rfl ⟨trivial, trivial, trivial⟩ ?_
    refine z_icmp_gt 14 M.1 (off := 7) (by decide +kernel) (by decide) (fun c7 => ?_) (fun c7 => ?_)
    · rw [if_pos c7] at K
      exact z_lvs (lv' := []) [] rfl (t_T_isRoles_j14 M S hQ K)
    · rw [if_neg c7] at K
      refine z_go2 M.1 10 [(.iconst 1, 1), (.goto 4, 3)] (15, [(0, .inl p0)], [.inl 1], zW T' G' S n, 0, 0) (by decide +kernel) rfl ⟨trivial, trivial, trivial⟩ ?_
      exact z_iret M (by decide +kernel) .boolean rfl rfl (by decide) (by decide) (hQ _ K)

-- isNumber
abbrev rm_T_isNumber : Room := zr 0
def F_T_isNumber_j14 (S : (Nat → Nat → Int32)) : Int32 := 0
theorem t_T_isNumber_j14 {X : z_X} {Post : Option z_V → z_W → Prop} (M : z_M X zm_T_isNumber rm_T_isNumber Post) {T' : Nat → Nat × Nat} {G' : Nat → Nat → Option Nat} {n : Nat} {Q : Int32 → Prop} (S : (Nat → Nat → Int32)) (hQ : ∀ v, Q v → Post (some (.inl v)) (zW T' G' S n)) (K : Q (F_T_isNumber_j14 S)) : z_G X zm_T_isNumber (14, [], [], zW T' G' S n, 0, 0) := by
  unfold F_T_isNumber_j14 at K
  refine z_go2 M.1 14 [(.iconst 0, 1)] (15, [], [.inl 0], zW T' G' S n, 0, 0) (by decide +kernel) rfl ⟨trivial, trivial⟩ ?_
  exact z_iret M (by decide +kernel) .boolean rfl rfl (by decide) (by decide) (hQ _ K)
def F_T_isNumber (S : (Nat → Nat → Int32)) (p0 : Int32) : Int32 := (if p0 < 0 then (F_T_isNumber_j14 S) else (if (99 : Int32) < p0 then (F_T_isNumber_j14 S) else 1))
theorem c_T_isNumber (T' : Nat → Nat × Nat) (G' : Nat → Nat → Option Nat) (S : (Nat → Nat → Int32)) (n : Nat) (p0 : Int32) : z_Run rm_T_isNumber zm_T_isNumber [.inl p0] (zW T' G' S n) (zq (some (.inl (F_T_isNumber S p0))) (zW T' G' S n)) := by
  refine z_body (by decide) zf_T_ok (Nat.le_of_ble_eq_true rfl) (fun X M => ?_)
  obtain ⟨Q, hQ, K⟩ : ∃ Q : Int32 → Prop, (∀ v, Q v → zq (some (.inl (F_T_isNumber S p0))) (zW T' G' S n) (some (.inl v)) (zW T' G' S n)) ∧ Q (F_T_isNumber S p0) := ⟨fun o => F_T_isNumber S p0 = o, fun v h => ⟨by rw [h], rfl⟩, rfl⟩
  show z_G X zm_T_isNumber (0, [(0, .inl p0)], [], zW T' G' S n, 0, 0)
  unfold F_T_isNumber at K
  refine z_go2 M.1 0 [(.iload_n 0, 1)] (1, [(0, .inl p0)], [.inl p0], zW T' G' S n, 0, 0) (by decide +kernel) rfl ⟨trivial, trivial⟩ ?_
  refine z_if_lt 14 M.1 (off := 13) (by decide +kernel) (by decide) (fun c1 => ?_) (fun c1 => ?_)
  · rw [if_pos c1] at K
    exact z_lvs (lv' := []) [] rfl (t_T_isNumber_j14 M S hQ K)
  · rw [if_neg c1] at K
    refine z_go2 M.1 4 [(.iload_n 0, 1), (.bipush 99, 2)] (7, [(0, .inl p0)], [.inl 99, .inl p0], zW T' G' S n, 0, 0) (by decide +kernel) rfl ⟨trivial, trivial, trivial⟩ ?_
    refine z_icmp_gt 14 M.1 (off := 7) (by decide +kernel) (by decide) (fun c7 => ?_) (fun c7 => ?_)
    · rw [if_pos c7] at K
      exact z_lvs (lv' := []) [] rfl (t_T_isNumber_j14 M S hQ K)
    · rw [if_neg c7] at K
      refine z_go2 M.1 10 [(.iconst 1, 1), (.goto 4, 3)] (15, [(0, .inl p0)], [.inl 1], zW T' G' S n, 0, 0) (by decide +kernel) rfl ⟨trivial, trivial, trivial⟩ ?_
      exact z_iret M (by decide +kernel) .boolean rfl rfl (by decide) (by decide) (hQ _ K)

-- isValue
abbrev rm_T_isValue : Room := zr 1
def F_T_isValue (S : (Nat → Nat → Int32)) (p0 : Int32) : Int32 := (if p0 = (-1) then 1 else (if (F_T_isNumber S p0) = 0 then 0 else 1))
theorem c_T_isValue (T' : Nat → Nat × Nat) (G' : Nat → Nat → Option Nat) (S : (Nat → Nat → Int32)) (n : Nat) (p0 : Int32) : z_Run rm_T_isValue zm_T_isValue [.inl p0] (zW T' G' S n) (zq (some (.inl (F_T_isValue S p0))) (zW T' G' S n)) := by
  refine z_body (by decide) zf_T_ok (Nat.le_of_ble_eq_true rfl) (fun X M => ?_)
  obtain ⟨Q, hQ, K⟩ : ∃ Q : Int32 → Prop, (∀ v, Q v → zq (some (.inl (F_T_isValue S p0))) (zW T' G' S n) (some (.inl v)) (zW T' G' S n)) ∧ Q (F_T_isValue S p0) := ⟨fun o => F_T_isValue S p0 = o, fun v h => ⟨by rw [h], rfl⟩, rfl⟩
  show z_G X zm_T_isValue (0, [(0, .inl p0)], [], zW T' G' S n, 0, 0)
  unfold F_T_isValue at K
  refine z_go2 M.1 0 [(.iload_n 0, 1), (.iconst (-1), 1)] (2, [(0, .inl p0)], [.inl (-1), .inl p0], zW T' G' S n, 0, 0) (by decide +kernel) rfl ⟨trivial, trivial, trivial⟩ ?_
  refine z_icmp_eq 12 M.1 (off := 10) (by decide +kernel) (by decide) (fun c2 => ?_) (fun c2 => ?_)
  · rw [if_pos c2] at K
    refine z_go2 M.1 12 [(.iconst 1, 1), (.goto 4, 3)] (17, [(0, .inl p0)], [.inl 1], zW T' G' S n, 0, 0) (by decide +kernel) rfl ⟨trivial, trivial, trivial⟩ ?_
    exact z_iret M (by decide +kernel) .boolean rfl rfl (by decide) (by decide) (hQ _ K)
  · rw [if_neg c2] at K
    refine z_go2 M.1 5 [(.iload_n 0, 1)] (6, [(0, .inl p0)], [.inl p0], zW T' G' S n, 0, 0) (by decide +kernel) rfl ⟨trivial, trivial⟩ ?_
    refine z_callS M.1 (av := [.inl p0]) (st := []) (by decide +kernel) (c_T_isNumber T' G' S n p0) M.2.1 zl_T_194 zs_T_isNumber ⟨by decide, by decide, by decide, by decide⟩ rfl (Nat.le_of_ble_eq_true rfl) (fun v w' hv => ?_)
    obtain ⟨rfl, rfl⟩ := hv
    show z_G X zm_T_isValue (9, [(0, .inl p0)], [.inl (F_T_isNumber S p0)], zW T' G' S n, 0, 0)
    refine z_if_eq 16 M.1 (off := 7) (by decide +kernel) (by decide) (fun c9 => ?_) (fun c9 => ?_)
    · rw [if_pos c9] at K
      refine z_go2 M.1 16 [(.iconst 0, 1)] (17, [(0, .inl p0)], [.inl 0], zW T' G' S n, 0, 0) (by decide +kernel) rfl ⟨trivial, trivial⟩ ?_
      exact z_iret M (by decide +kernel) .boolean rfl rfl (by decide) (by decide) (hQ _ K)
    · rw [if_neg c9] at K
      refine z_go2 M.1 12 [(.iconst 1, 1), (.goto 4, 3)] (17, [(0, .inl p0)], [.inl 1], zW T' G' S n, 0, 0) (by decide +kernel) rfl ⟨trivial, trivial, trivial⟩ ?_
      exact z_iret M (by decide +kernel) .boolean rfl rfl (by decide) (by decide) (hQ _ K)

