-- TrackHouse.isDay
abbrev rm_T_isDay : Room := zr 0
def F_T_isDay_j16 (S : (Nat → Nat → Int32)) : Int32 := 0
theorem t_T_isDay_j16 {X : z_X} {Post : Option z_V → z_W → Prop} (M : z_M X zm_T_isDay rm_T_isDay Post) {T' : Nat → Nat × Nat} {G' : Nat → Nat → Option Nat} {n : Nat} {Q : Int32 → Prop} (S : (Nat → Nat → Int32)) (hQ : ∀ v, Q v → Post (some (.inl v)) (zW T' G' S n)) (K : Q (F_T_isDay_j16 S)) : z_G X zm_T_isDay (16, [], [], zW T' G' S n, 0, 0) := by
  unfold F_T_isDay_j16 at K
  refine z_go2 M.1 16 [(.iconst 0, 1)] (17, [], [.inl 0], zW T' G' S n, 0, 0) (by decide +kernel) rfl ⟨trivial, trivial⟩ ?_
  exact z_iret M (by decide +kernel) .boolean rfl rfl (by decide) (by decide) (hQ _ K)
def F_T_isDay (S : (Nat → Nat → Int32)) (p1 : Int32) : Int32 := (if p1 < 0 then (F_T_isDay_j16 S) else (if (S 0 14) < p1 then (F_T_isDay_j16 S) else 1))
theorem c_T_isDay (T' : Nat → Nat × Nat) (G' : Nat → Nat → Option Nat) (S : (Nat → Nat → Int32)) (n : Nat) (p1 : Int32) : z_Run rm_T_isDay zm_T_isDay [z_r 0, .inl p1] (zW T' G' S n) (zq (some (.inl (F_T_isDay S p1))) (zW T' G' S n)) := by
  refine z_body (by decide) zf_T_ok (Nat.le_of_ble_eq_true rfl) (fun X M => ?_)
  obtain ⟨Q, hQ, K⟩ : ∃ Q : Int32 → Prop, (∀ v, Q v → zq (some (.inl (F_T_isDay S p1))) (zW T' G' S n) (some (.inl v)) (zW T' G' S n)) ∧ Q (F_T_isDay S p1) := ⟨fun o => F_T_isDay S p1 = o, fun v h => ⟨by rw [h], rfl⟩, rfl⟩
  show z_G X zm_T_isDay (0, [(0, z_r 0), (1, .inl p1)], [], zW T' G' S n, 0, 0)
  unfold F_T_isDay at K
  refine z_go2 M.1 0 [(.iload_n 1, 1)] (1, [(0, z_r 0), (1, .inl p1)], [.inl p1], zW T' G' S n, 0, 0) (by decide +kernel) rfl ⟨trivial, trivial⟩ ?_
  refine z_if_lt 16 M.1 (off := 15) (by decide +kernel) (by decide) (fun c1 => ?_) (fun c1 => ?_)
  · rw [if_pos c1] at K
    exact z_lvs (lv' := []) [] rfl (t_T_isDay_j16 M S hQ K)
  · rw [if_neg c1] at K
    refine z_go2 M.1 4 [(.iload_n 1, 1), (.aload_n 0, 1), (.getfield 90, 3)] (9, [(0, z_r 0), (1, .inl p1)], [.inl (S 0 14), .inl p1], zW T' G' S n, 0, 0) (by decide +kernel) rfl ⟨trivial, trivial, rfl, trivial⟩ ?_
    refine z_icmp_gt 16 M.1 (off := 7) (by decide +kernel) (by decide) (fun c9 => ?_) (fun c9 => ?_)
    · rw [if_pos c9] at K
      exact z_lvs (lv' := []) [] rfl (t_T_isDay_j16 M S hQ K)
    · rw [if_neg c9] at K
      refine z_go2 M.1 12 [(.iconst 1, 1), (.goto 4, 3)] (17, [(0, z_r 0), (1, .inl p1)], [.inl 1], zW T' G' S n, 0, 0) (by decide +kernel) rfl ⟨trivial, trivial, trivial⟩ ?_
      exact z_iret M (by decide +kernel) .boolean rfl rfl (by decide) (by decide) (hQ _ K)

-- TrackHouse.isMet
abbrev rm_T_isMet : Room := zr 1
def F_T_isMet (S : (Nat → Nat → Int32)) (p1 : Int32) (p2 : Int32) (p3 : Int32) : Int32 := (if p2 = (-1) then 1 else (if (F_Kinds_has S (F_World_cell 9 S p1 9) p2) = 0 then 0 else (if (F_World_cell 9 S p1 ((1 : Int32) + p2)) < p3 then 0 else 1)))
def Sf_T_isMet (S : (Nat → Nat → Int32)) (p1 : Int32) (p2 : Int32) (p3 : Int32) : Prop := (if p2 = (-1) then True else (Sf_World_cell 9 S p1 9 ∧ (Sf_Kinds_has S (F_World_cell 9 S p1 9) p2 ∧ (if (F_Kinds_has S (F_World_cell 9 S p1 9) p2) = 0 then True else (Sf_World_cell 9 S p1 ((1 : Int32) + p2) ∧ True)))))
theorem c_T_isMet (T' : Nat → Nat × Nat) (G' : Nat → Nat → Option Nat) (S : (Nat → Nat → Int32)) (n : Nat) (p1 : Int32) (p2 : Int32) (p3 : Int32) (hs : Sf_T_isMet S p1 p2 p3) : z_Run rm_T_isMet zm_T_isMet [z_r 0, .inl p1, .inl p2, .inl p3] (zW T' G' S n) (zq (some (.inl (F_T_isMet S p1 p2 p3))) (zW T' G' S n)) := by
  refine z_body (by decide) zf_T_ok (Nat.le_of_ble_eq_true rfl) (fun X M => ?_)
  obtain ⟨Q, hQ, K⟩ : ∃ Q : Int32 → Prop, (∀ v, Q v → zq (some (.inl (F_T_isMet S p1 p2 p3))) (zW T' G' S n) (some (.inl v)) (zW T' G' S n)) ∧ Q (F_T_isMet S p1 p2 p3) := ⟨fun o => F_T_isMet S p1 p2 p3 = o, fun v h => ⟨by rw [h], rfl⟩, rfl⟩
  show z_G X zm_T_isMet (0, [(0, z_r 0), (1, .inl p1), (2, .inl p2), (3, .inl p3)], [], zW T' G' S n, 0, 0)
  unfold F_T_isMet at K
  unfold Sf_T_isMet at hs
  refine z_go2 M.1 0 [(.iload_n 2, 1), (.iconst (-1), 1)] (2, [(0, z_r 0), (1, .inl p1), (2, .inl p2), (3, .inl p3)], [.inl (-1), .inl p2], zW T' G' S n, 0, 0) (by decide +kernel) rfl ⟨trivial, trivial, trivial⟩ ?_
  refine z_icmp_ne 7 M.1 (off := 5) (by decide +kernel) (by decide) (fun c2 => ?_) (fun c2 => ?_)
  · rw [if_neg c2] at K hs
    refine z_go2 M.1 7 [(.aload_n 0, 1), (.getfield 54, 3), (.aload_n 0, 1), (.getfield 19, 3), (.iload_n 1, 1), (.bipush 9, 2)] (18, [(0, z_r 0), (1, .inl p1), (2, .inl p2), (3, .inl p3)], [.inl 9, .inl p1, z_r 9, z_r 43], zW T' G' S n, 0, 0) (by decide +kernel) rfl ⟨trivial, rfl, trivial, rfl, trivial, trivial, trivial⟩ ?_
    refine z_callV M.1 (av := [.inl p1, .inl 9]) (st := [z_r 43]) (a := 9) (ci := 10) (by decide +kernel) (c_World_cell_9 T' G' S n p1 9 hs.1) M.2.1 zl_T_207 zv_World_cell rfl rfl rfl ⟨by decide, by decide, by decide, by decide⟩ rfl (Nat.le_of_ble_eq_true rfl) (fun v w' hv => ?_)
    obtain ⟨rfl, rfl⟩ := hv
    replace hs := hs.2
    show z_G X zm_T_isMet (21, [(0, z_r 0), (1, .inl p1), (2, .inl p2), (3, .inl p3)], [.inl (F_World_cell 9 S p1 9), z_r 43], zW T' G' S n, 0, 0)
    refine z_go2 M.1 21 [(.iload_n 2, 1)] (22, [(0, z_r 0), (1, .inl p1), (2, .inl p2), (3, .inl p3)], [.inl p2, .inl (F_World_cell 9 S p1 9), z_r 43], zW T' G' S n, 0, 0) (by decide +kernel) rfl ⟨trivial, trivial⟩ ?_
    refine z_callV M.1 (av := [.inl (F_World_cell 9 S p1 9), .inl p2]) (st := []) (a := 43) (ci := 3) (by decide +kernel) (c_Kinds_has T' G' S n (F_World_cell 9 S p1 9) p2 hs.1) M.2.1 zl_T_393 zv_Kinds_has rfl rfl rfl ⟨by decide, by decide, by decide, by decide⟩ rfl (Nat.le_of_ble_eq_true rfl) (fun v w' hv => ?_)
    obtain ⟨rfl, rfl⟩ := hv
    replace hs := hs.2
    show z_G X zm_T_isMet (25, [(0, z_r 0), (1, .inl p1), (2, .inl p2), (3, .inl p3)], [.inl (F_Kinds_has S (F_World_cell 9 S p1 9) p2)], zW T' G' S n, 0, 0)
    refine z_if_eq 47 M.1 (off := 22) (by decide +kernel) (by decide) (fun c25 => ?_) (fun c25 => ?_)
    · rw [if_pos c25] at K hs
      refine z_go2 M.1 47 [(.iconst 0, 1)] (48, [(0, z_r 0), (1, .inl p1), (2, .inl p2), (3, .inl p3)], [.inl 0], zW T' G' S n, 0, 0) (by decide +kernel) rfl ⟨trivial, trivial⟩ ?_
      exact z_iret M (by decide +kernel) .boolean rfl rfl (by decide) (by decide) (hQ _ K)
    · rw [if_neg c25] at K hs
      refine z_go2 M.1 28 [(.aload_n 0, 1), (.getfield 19, 3), (.iload_n 1, 1), (.iconst 1, 1), (.iload_n 2, 1), (.iadd, 1)] (36, [(0, z_r 0), (1, .inl p1), (2, .inl p2), (3, .inl p3)], [.inl ((1 : Int32) + p2), .inl p1, z_r 9], zW T' G' S n, 0, 0) (by decide +kernel) rfl ⟨trivial, rfl, trivial, trivial, trivial, trivial, trivial⟩ ?_
      refine z_callV M.1 (av := [.inl p1, .inl ((1 : Int32) + p2)]) (st := []) (a := 9) (ci := 10) (by decide +kernel) (c_World_cell_9 T' G' S n p1 ((1 : Int32) + p2) hs.1) M.2.1 zl_T_207 zv_World_cell rfl rfl rfl ⟨by decide, by decide, by decide, by decide⟩ rfl (Nat.le_of_ble_eq_true rfl) (fun v w' hv => ?_)
      obtain ⟨rfl, rfl⟩ := hv
      replace hs := hs.2
      show z_G X zm_T_isMet (39, [(0, z_r 0), (1, .inl p1), (2, .inl p2), (3, .inl p3)], [.inl (F_World_cell 9 S p1 ((1 : Int32) + p2))], zW T' G' S n, 0, 0)
      refine z_go2 M.1 39 [(.iload_n 3, 1)] (40, [(0, z_r 0), (1, .inl p1), (2, .inl p2), (3, .inl p3)], [.inl p3, .inl (F_World_cell 9 S p1 ((1 : Int32) + p2))], zW T' G' S n, 0, 0) (by decide +kernel) rfl ⟨trivial, trivial⟩ ?_
      refine z_icmp_lt 47 M.1 (off := 7) (by decide +kernel) (by decide) (fun c40 => ?_) (fun c40 => ?_)
      · rw [if_pos c40] at K
        refine z_go2 M.1 47 [(.iconst 0, 1)] (48, [(0, z_r 0), (1, .inl p1), (2, .inl p2), (3, .inl p3)], [.inl 0], zW T' G' S n, 0, 0) (by decide +kernel) rfl ⟨trivial, trivial⟩ ?_
        exact z_iret M (by decide +kernel) .boolean rfl rfl (by decide) (by decide) (hQ _ K)
      · rw [if_neg c40] at K
        refine z_go2 M.1 43 [(.iconst 1, 1), (.goto 4, 3)] (48, [(0, z_r 0), (1, .inl p1), (2, .inl p2), (3, .inl p3)], [.inl 1], zW T' G' S n, 0, 0) (by decide +kernel) rfl ⟨trivial, trivial, trivial⟩ ?_
        exact z_iret M (by decide +kernel) .boolean rfl rfl (by decide) (by decide) (hQ _ K)
  · rw [if_pos c2] at K hs
    refine z_go2 M.1 5 [(.iconst 1, 1)] (6, [(0, z_r 0), (1, .inl p1), (2, .inl p2), (3, .inl p3)], [.inl 1], zW T' G' S n, 0, 0) (by decide +kernel) rfl ⟨trivial, trivial⟩ ?_
    exact z_iret M (by decide +kernel) .boolean rfl rfl (by decide) (by decide) (hQ _ K)


-- TrackHouse.canEditIn
abbrev rm_T_canEditIn : Room := zr 2
def F_T_canEditIn (S : (Nat → Nat → Int32)) (p1 : Int32) (p2 : Int32) : Int32 := (if ((F_World_rolesOf 9 S p1 p2) &&& (zAt (S 38) 3 p2)) = 0 then 0 else 1)
theorem c_T_canEditIn (T' : Nat → Nat × Nat) (G' : Nat → Nat → Option Nat) (S : (Nat → Nat → Int32)) (n : Nat) (p1 : Int32) (p2 : Int32) : z_Run rm_T_canEditIn zm_T_canEditIn [z_r 0, .inl p1, .inl p2] (zW T' G' S n) (zq (some (.inl (F_T_canEditIn S p1 p2))) (zW T' G' S n)) := by
  refine z_body (by decide) zf_T_ok (Nat.le_of_ble_eq_true rfl) (fun X M => ?_)
  obtain ⟨Q, hQ, K⟩ : ∃ Q : Int32 → Prop, (∀ v, Q v → zq (some (.inl (F_T_canEditIn S p1 p2))) (zW T' G' S n) (some (.inl v)) (zW T' G' S n)) ∧ Q (F_T_canEditIn S p1 p2) := ⟨fun o => F_T_canEditIn S p1 p2 = o, fun v h => ⟨by rw [h], rfl⟩, rfl⟩
  show z_G X zm_T_canEditIn (0, [(0, z_r 0), (1, .inl p1), (2, .inl p2)], [], zW T' G' S n, 0, 0)
  unfold F_T_canEditIn at K
  refine z_go2 M.1 0 [(.aload_n 0, 1), (.getfield 19, 3), (.iload_n 1, 1), (.iload_n 2, 1)] (6, [(0, z_r 0), (1, .inl p1), (2, .inl p2)], [.inl p2, .inl p1, z_r 9], zW T' G' S n, 0, 0) (by decide +kernel) rfl ⟨trivial, rfl, trivial, trivial, trivial⟩ ?_
  refine z_callV M.1 (av := [.inl p1, .inl p2]) (st := []) (a := 9) (ci := 10) (by decide +kernel) (c_World_rolesOf_9 T' G' S n p1 p2) M.2.1 zl_T_114 zv_World_rolesOf rfl rfl rfl ⟨by decide, by decide, by decide, by decide⟩ rfl (Nat.le_of_ble_eq_true rfl) (fun v w' hv => ?_)
  obtain ⟨rfl, rfl⟩ := hv
  show z_G X zm_T_canEditIn (9, [(0, z_r 0), (1, .inl p1), (2, .inl p2)], [.inl (F_World_rolesOf 9 S p1 p2)], zW T' G' S n, 0, 0)
  refine z_go2 M.1 9 [(.aload_n 0, 1), (.getfield 47, 3), (.getfield 138, 3), (.iload_n 2, 1)] (17, [(0, z_r 0), (1, .inl p1), (2, .inl p2)], [.inl p2, z_r 38, .inl (F_World_rolesOf 9 S p1 p2)], zW T' G' S n, 0, 0) (by decide +kernel) rfl ⟨trivial, rfl, rfl, trivial, trivial⟩ ?_
  refine z_callS M.1 (av := [z_r 38, .inl p2]) (st := [.inl (F_World_rolesOf 9 S p1 p2)]) (by decide +kernel) (c_at (zW T' G' S n) 38 3 rfl (by decide) p2) M.2.1 zl_T_134 zs_T_at ⟨by decide, by decide, by decide, by decide⟩ rfl (Nat.le_of_ble_eq_true rfl) (fun v w' hv => ?_)
  obtain ⟨rfl, rfl⟩ := hv
  show z_G X zm_T_canEditIn (20, [(0, z_r 0), (1, .inl p1), (2, .inl p2)], [.inl (zAt (S 38) 3 p2), .inl (F_World_rolesOf 9 S p1 p2)], zW T' G' S n, 0, 0)
  refine z_go2 M.1 20 [(.iand, 1)] (21, [(0, z_r 0), (1, .inl p1), (2, .inl p2)], [.inl ((F_World_rolesOf 9 S p1 p2) &&& (zAt (S 38) 3 p2))], zW T' G' S n, 0, 0) (by decide +kernel) rfl ⟨trivial, trivial⟩ ?_
  refine z_if_eq 28 M.1 (off := 7) (by decide +kernel) (by decide) (fun c21 => ?_) (fun c21 => ?_)
  · rw [if_pos c21] at K
    refine z_go2 M.1 28 [(.iconst 0, 1)] (29, [(0, z_r 0), (1, .inl p1), (2, .inl p2)], [.inl 0], zW T' G' S n, 0, 0) (by decide +kernel) rfl ⟨trivial, trivial⟩ ?_
    exact z_iret M (by decide +kernel) .boolean rfl rfl (by decide) (by decide) (hQ _ K)
  · rw [if_neg c21] at K
    refine z_go2 M.1 24 [(.iconst 1, 1), (.goto 4, 3)] (29, [(0, z_r 0), (1, .inl p1), (2, .inl p2)], [.inl 1], zW T' G' S n, 0, 0) (by decide +kernel) rfl ⟨trivial, trivial, trivial⟩ ?_
    exact z_iret M (by decide +kernel) .boolean rfl rfl (by decide) (by decide) (hQ _ K)



-- TrackHouse.change
abbrev rm_T_change : Room := zr 2
def F_T_change (S : (Nat → Nat → Int32)) (p1 : Int32) (p2 : Int32) (p3 : Int32) (p4 : Int32) (p5 : Int32) : (Nat → Nat → Int32) := (if (F_World_current 9 S p2 p3 p4) = p5 then S else (z_let (F_Log_add S (S 0 14) p1 p2 p3 p4 (F_World_current 9 S p2 p3 p4) p5) (fun S37 => (z_let (F_World_write 9 S37 p2 p3 p4 p5) (fun S50 => S50)))))
def Sf_T_change (S : (Nat → Nat → Int32)) (p1 : Int32) (p2 : Int32) (p3 : Int32) (p4 : Int32) (p5 : Int32) : Prop := (Sf_World_current 9 S p2 p3 p4 ∧ (if (F_World_current 9 S p2 p3 p4) = p5 then True else (Sf_Log_add S (S 0 14) p1 p2 p3 p4 (F_World_current 9 S p2 p3 p4) p5 ∧ (z_let (F_Log_add S (S 0 14) p1 p2 p3 p4 (F_World_current 9 S p2 p3 p4) p5) (fun S37 => (Sf_World_write 9 S37 p2 p3 p4 p5 ∧ True))))))
theorem c_T_change (T' : Nat → Nat × Nat) (G' : Nat → Nat → Option Nat) (S : (Nat → Nat → Int32)) (n : Nat) (p1 : Int32) (p2 : Int32) (p3 : Int32) (p4 : Int32) (p5 : Int32) (hs : Sf_T_change S p1 p2 p3 p4 p5) : z_Run rm_T_change zm_T_change [z_r 0, .inl p1, .inl p2, .inl p3, .inl p4, .inl p5] (zW T' G' S n) (zq none (zW T' G' (F_T_change S p1 p2 p3 p4 p5) n)) := by
  refine z_body (by decide) zf_T_ok (Nat.le_of_ble_eq_true rfl) (fun X M => ?_)
  obtain ⟨Q, hQ, K⟩ : ∃ Q : (Nat → Nat → Int32) → Prop, (∀ S', Q S' → zq none (zW T' G' (F_T_change S p1 p2 p3 p4 p5) n) none (zW T' G' S' n)) ∧ Q (F_T_change S p1 p2 p3 p4 p5) := ⟨fun o => F_T_change S p1 p2 p3 p4 p5 = o, fun S' h => ⟨rfl, by rw [h]⟩, rfl⟩
  show z_G X zm_T_change (0, [(0, z_r 0), (1, .inl p1), (2, .inl p2), (3, .inl p3), (4, .inl p4), (5, .inl p5)], [], zW T' G' S n, 0, 0)
  unfold F_T_change at K
  unfold Sf_T_change at hs
  refine z_go2 M.1 0 [(.aload_n 0, 1), (.getfield 19, 3), (.iload_n 2, 1), (.iload_n 3, 1), (.iload 4, 2)] (8, [(0, z_r 0), (1, .inl p1), (2, .inl p2), (3, .inl p3), (4, .inl p4), (5, .inl p5)], [.inl p4, .inl p3, .inl p2, z_r 9], zW T' G' S n, 0, 0) (by decide +kernel) rfl ⟨trivial, rfl, trivial, trivial, trivial, trivial⟩ ?_
  refine z_callV M.1 (av := [.inl p2, .inl p3, .inl p4]) (st := []) (a := 9) (ci := 10) (by decide +kernel) (c_World_current_9 T' G' S n p2 p3 p4 hs.1) M.2.1 zl_T_270 zv_World_current rfl rfl rfl ⟨by decide, by decide, by decide, by decide⟩ rfl (Nat.le_of_ble_eq_true rfl) (fun v w' hv => ?_)
  obtain ⟨rfl, rfl⟩ := hv
  replace hs := hs.2
  show z_G X zm_T_change (11, [(0, z_r 0), (1, .inl p1), (2, .inl p2), (3, .inl p3), (4, .inl p4), (5, .inl p5)], [.inl (F_World_current 9 S p2 p3 p4)], zW T' G' S n, 0, 0)
  refine z_go2 M.1 11 [(.istore 6, 2), (.iload 6, 2), (.iload 5, 2)] (17, [(6, .inl (F_World_current 9 S p2 p3 p4)), (0, z_r 0), (1, .inl p1), (2, .inl p2), (3, .inl p3), (4, .inl p4), (5, .inl p5)], [.inl p5, .inl (F_World_current 9 S p2 p3 p4)], zW T' G' S n, 0, 0) (by decide +kernel) rfl ⟨trivial, trivial, trivial, trivial⟩ ?_
  refine z_icmp_eq 53 M.1 (off := 36) (by decide +kernel) (by decide) (fun c17 => ?_) (fun c17 => ?_)
  · rw [if_pos c17] at K hs
    exact z_vret M (by decide +kernel) rfl (by decide) (by decide) (hQ _ K)
  · rw [if_neg c17] at K hs
    refine z_go2 M.1 20 [(.aload_n 0, 1), (.getfield 12, 3), (.aload_n 0, 1), (.getfield 90, 3), (.iload_n 1, 1), (.iload_n 2, 1), (.iload_n 3, 1), (.iload 4, 2), (.iload 6, 2), (.iload 5, 2)] (37, [(6, .inl (F_World_current 9 S p2 p3 p4)), (0, z_r 0), (1, .inl p1), (2, .inl p2), (3, .inl p3), (4, .inl p4), (5, .inl p5)], [.inl p5, .inl (F_World_current 9 S p2 p3 p4), .inl p4, .inl p3, .inl p2, .inl p1, .inl (S 0 14), z_r 1], zW T' G' S n, 0, 0) (by decide +kernel) rfl ⟨trivial, rfl, trivial, rfl, trivial, trivial, trivial, trivial, trivial, trivial, trivial⟩ ?_
    refine z_callV M.1 (av := [.inl (S 0 14), .inl p1, .inl p2, .inl p3, .inl p4, .inl (F_World_current 9 S p2 p3 p4), .inl p5]) (st := []) (a := 1) (ci := 4) (by decide +kernel) (c_Log_add T' G' S n (S 0 14) p1 p2 p3 p4 (F_World_current 9 S p2 p3 p4) p5 hs.1) M.2.1 zl_T_228 zv_Log_add rfl rfl rfl ⟨by decide, by decide, by decide, by decide⟩ rfl (Nat.le_of_ble_eq_true rfl) (fun v w' hv => ?_)
    replace hs := hs.2
    obtain ⟨S37, hF37⟩ : ∃ y, F_Log_add S (S 0 14) p1 p2 p3 p4 (F_World_current 9 S p2 p3 p4) p5 = y := ⟨_, rfl⟩
    rw [hF37] at K hv
    try rw [hF37] at hs
    try dsimp only [z_let] at K hs
    obtain ⟨rfl, rfl⟩ := hv
    show z_G X zm_T_change (40, [(6, .inl (F_World_current 9 S p2 p3 p4)), (0, z_r 0), (1, .inl p1), (2, .inl p2), (3, .inl p3), (4, .inl p4), (5, .inl p5)], [], zW T' G' S37 n, 0, 0)
    refine z_go2 M.1 40 [(.aload_n 0, 1), (.getfield 19, 3), (.iload_n 2, 1), (.iload_n 3, 1), (.iload 4, 2), (.iload 5, 2)] (50, [(6, .inl (F_World_current 9 S p2 p3 p4)), (0, z_r 0), (1, .inl p1), (2, .inl p2), (3, .inl p3), (4, .inl p4), (5, .inl p5)], [.inl p5, .inl p4, .inl p3, .inl p2, z_r 9], zW T' G' S37 n, 0, 0) (by decide +kernel) rfl ⟨trivial, rfl, trivial, trivial, trivial, trivial, trivial⟩ ?_
    refine z_callV M.1 (av := [.inl p2, .inl p3, .inl p4, .inl p5]) (st := []) (a := 9) (ci := 10) (by decide +kernel) (c_World_write_9 T' G' S37 n p2 p3 p4 p5 hs.1) M.2.1 zl_T_427 zv_World_write rfl rfl rfl ⟨by decide, by decide, by decide, by decide⟩ rfl (Nat.le_of_ble_eq_true rfl) (fun v w' hv => ?_)
    replace hs := hs.2
    obtain ⟨S50, hF50⟩ : ∃ y, F_World_write 9 S37 p2 p3 p4 p5 = y := ⟨_, rfl⟩
    rw [hF50] at K hv
    try dsimp only [z_let] at K
    obtain ⟨rfl, rfl⟩ := hv
    show z_G X zm_T_change (53, [(6, .inl (F_World_current 9 S p2 p3 p4)), (0, z_r 0), (1, .inl p1), (2, .inl p2), (3, .inl p3), (4, .inl p4), (5, .inl p5)], [], zW T' G' S50 n, 0, 0)
    exact z_vret M (by decide +kernel) rfl (by decide) (by decide) (hQ _ K)

-- TrackHouse.isWoken
abbrev rm_T_isWoken : Room := zr 2
def F_T_isWoken_j113 (S : (Nat → Nat → Int32)) : Int32 := 0
theorem t_T_isWoken_j113 {X : z_X} {Post : Option z_V → z_W → Prop} (M : z_M X zm_T_isWoken rm_T_isWoken Post) {T' : Nat → Nat × Nat} {G' : Nat → Nat → Option Nat} {n : Nat} {Q : Int32 → Prop} (S : (Nat → Nat → Int32)) (hQ : ∀ v, Q v → Post (some (.inl v)) (zW T' G' S n)) (K : Q (F_T_isWoken_j113 S)) : z_G X zm_T_isWoken (113, [], [], zW T' G' S n, 0, 0) := by
  unfold F_T_isWoken_j113 at K
  refine z_go2 M.1 113 [(.iconst 0, 1)] (114, [], [.inl 0], zW T' G' S n, 0, 0) (by decide +kernel) rfl ⟨trivial, trivial⟩ ?_
  exact z_iret M (by decide +kernel) .boolean rfl rfl (by decide) (by decide) (hQ _ K)
def F_T_isWoken_j79 (S : (Nat → Nat → Int32)) (x1 : Int32) (x3 : Int32) : Int32 := (if (F_T_isMet S x3 (zAt (S 66) 6 x1) (zAt (S 67) 6 x1)) = 0 then (F_T_isWoken_j113 S) else 1)
def Sf_T_isWoken_j79 (S : (Nat → Nat → Int32)) (x1 : Int32) (x3 : Int32) : Prop := (Sf_T_isMet S x3 (zAt (S 66) 6 x1) (zAt (S 67) 6 x1) ∧ True)
theorem t_T_isWoken_j79 {X : z_X} {Post : Option z_V → z_W → Prop} (M : z_M X zm_T_isWoken rm_T_isWoken Post) {T' : Nat → Nat × Nat} {G' : Nat → Nat → Option Nat} {n : Nat} {Q : Int32 → Prop} (S : (Nat → Nat → Int32)) (x1 : Int32) (x3 : Int32) (hQ : ∀ v, Q v → Post (some (.inl v)) (zW T' G' S n)) (K : Q (F_T_isWoken_j79 S x1 x3)) (hs : Sf_T_isWoken_j79 S x1 x3) : z_G X zm_T_isWoken (79, [(0, z_r 0), (1, .inl x1), (3, .inl x3)], [], zW T' G' S n, 0, 0) := by
  unfold F_T_isWoken_j79 at K
  unfold Sf_T_isWoken_j79 at hs
  refine z_go2 M.1 79 [(.aload_n 0, 1), (.iload_n 3, 1), (.aload_n 0, 1), (.getfield 65, 3), (.getfield 480, 3), (.iload_n 1, 1)] (89, [(0, z_r 0), (1, .inl x1), (3, .inl x3)], [.inl x1, z_r 66, .inl x3, z_r 0], zW T' G' S n, 0, 0) (by decide +kernel) rfl ⟨trivial, trivial, trivial, rfl, rfl, trivial, trivial⟩ ?_
  refine z_callS M.1 (av := [z_r 66, .inl x1]) (st := [.inl x3, z_r 0]) (by decide +kernel) (c_at (zW T' G' S n) 66 6 rfl (by decide) x1) M.2.1 zl_T_134 zs_T_at ⟨by decide, by decide, by decide, by decide⟩ rfl (Nat.le_of_ble_eq_true rfl) (fun v w' hv => ?_)
  obtain ⟨rfl, rfl⟩ := hv
  show z_G X zm_T_isWoken (92, [(0, z_r 0), (1, .inl x1), (3, .inl x3)], [.inl (zAt (S 66) 6 x1), .inl x3, z_r 0], zW T' G' S n, 0, 0)
  refine z_go2 M.1 92 [(.aload_n 0, 1), (.getfield 65, 3), (.getfield 481, 3), (.iload_n 1, 1)] (100, [(0, z_r 0), (1, .inl x1), (3, .inl x3)], [.inl x1, z_r 67, .inl (zAt (S 66) 6 x1), .inl x3, z_r 0], zW T' G' S n, 0, 0) (by decide +kernel) rfl ⟨trivial, rfl, rfl, trivial, trivial⟩ ?_
  refine z_callS M.1 (av := [z_r 67, .inl x1]) (st := [.inl (zAt (S 66) 6 x1), .inl x3, z_r 0]) (by decide +kernel) (c_at (zW T' G' S n) 67 6 rfl (by decide) x1) M.2.1 zl_T_134 zs_T_at ⟨by decide, by decide, by decide, by decide⟩ rfl (Nat.le_of_ble_eq_true rfl) (fun v w' hv => ?_)
  obtain ⟨rfl, rfl⟩ := hv
  show z_G X zm_T_isWoken (103, [(0, z_r 0), (1, .inl x1), (3, .inl x3)], [.inl (zAt (S 67) 6 x1), .inl (zAt (S 66) 6 x1), .inl x3, z_r 0], zW T' G' S n, 0, 0)
  refine z_callV M.1 (av := [.inl x3, .inl (zAt (S 66) 6 x1), .inl (zAt (S 67) 6 x1)]) (st := []) (a := 0) (ci := 11) (by decide +kernel) (c_T_isMet T' G' S n x3 (zAt (S 66) 6 x1) (zAt (S 67) 6 x1) hs.1) M.2.1 zl_T_420 zv_T_isMet rfl rfl rfl ⟨by decide, by decide, by decide, by decide⟩ rfl (Nat.le_of_ble_eq_true rfl) (fun v w' hv => ?_)
  obtain ⟨rfl, rfl⟩ := hv
  replace hs := hs.2
  show z_G X zm_T_isWoken (106, [(0, z_r 0), (1, .inl x1), (3, .inl x3)], [.inl (F_T_isMet S x3 (zAt (S 66) 6 x1) (zAt (S 67) 6 x1))], zW T' G' S n, 0, 0)
  refine z_if_eq 113 M.1 (off := 7) (by decide +kernel) (by decide) (fun c106 => ?_) (fun c106 => ?_)
  · rw [if_pos c106] at K
    exact z_lvs (lv' := []) [] rfl (t_T_isWoken_j113 M S hQ K)
  · rw [if_neg c106] at K
    refine z_go2 M.1 109 [(.iconst 1, 1), (.goto 4, 3)] (114, [(0, z_r 0), (1, .inl x1), (3, .inl x3)], [.inl 1], zW T' G' S n, 0, 0) (by decide +kernel) rfl ⟨trivial, trivial, trivial⟩ ?_
    exact z_iret M (by decide +kernel) .boolean rfl rfl (by decide) (by decide) (hQ _ K)
def F_T_isWoken (S : (Nat → Nat → Int32)) (p1 : Int32) (p2 : Int32) : Int32 := (if (F_Rules_isCause S p1 (zAt (S 5) 900 p2) (zAt (S 8) 900 p2)) = 0 then (F_T_isWoken_j113 S) else (if (zAt (S 65) 6 p1) = (-1) then (F_T_isWoken_j79 S p1 (zAt (S 4) 900 p2)) else (if (zAt (S 65) 6 p1) = (F_World_cell 9 S (zAt (S 4) 900 p2) 9) then (F_T_isWoken_j79 S p1 (zAt (S 4) 900 p2)) else (F_T_isWoken_j113 S))))
def Sf_T_isWoken (S : (Nat → Nat → Int32)) (p1 : Int32) (p2 : Int32) : Prop := (if (F_Rules_isCause S p1 (zAt (S 5) 900 p2) (zAt (S 8) 900 p2)) = 0 then True else (if (zAt (S 65) 6 p1) = (-1) then (Sf_T_isWoken_j79 S p1 (zAt (S 4) 900 p2)) else (Sf_World_cell 9 S (zAt (S 4) 900 p2) 9 ∧ (if (zAt (S 65) 6 p1) = (F_World_cell 9 S (zAt (S 4) 900 p2) 9) then (Sf_T_isWoken_j79 S p1 (zAt (S 4) 900 p2)) else True))))
theorem c_T_isWoken (T' : Nat → Nat × Nat) (G' : Nat → Nat → Option Nat) (S : (Nat → Nat → Int32)) (n : Nat) (p1 : Int32) (p2 : Int32) (hs : Sf_T_isWoken S p1 p2) : z_Run rm_T_isWoken zm_T_isWoken [z_r 0, .inl p1, .inl p2] (zW T' G' S n) (zq (some (.inl (F_T_isWoken S p1 p2))) (zW T' G' S n)) := by
  refine z_body (by decide) zf_T_ok (Nat.le_of_ble_eq_true rfl) (fun X M => ?_)
  obtain ⟨Q, hQ, K⟩ : ∃ Q : Int32 → Prop, (∀ v, Q v → zq (some (.inl (F_T_isWoken S p1 p2))) (zW T' G' S n) (some (.inl v)) (zW T' G' S n)) ∧ Q (F_T_isWoken S p1 p2) := ⟨fun o => F_T_isWoken S p1 p2 = o, fun v h => ⟨by rw [h], rfl⟩, rfl⟩
  show z_G X zm_T_isWoken (0, [(0, z_r 0), (1, .inl p1), (2, .inl p2)], [], zW T' G' S n, 0, 0)
  unfold F_T_isWoken at K
  unfold Sf_T_isWoken at hs
  refine z_go2 M.1 0 [(.aload_n 0, 1), (.getfield 12, 3), (.getfield 316, 3), (.iload_n 2, 1)] (8, [(0, z_r 0), (1, .inl p1), (2, .inl p2)], [.inl p2, z_r 4], zW T' G' S n, 0, 0) (by decide +kernel) rfl ⟨trivial, rfl, rfl, trivial, trivial⟩ ?_
  refine z_callS M.1 (av := [z_r 4, .inl p2]) (st := []) (by decide +kernel) (c_at (zW T' G' S n) 4 900 rfl (by decide) p2) M.2.1 zl_T_134 zs_T_at ⟨by decide, by decide, by decide, by decide⟩ rfl (Nat.le_of_ble_eq_true rfl) (fun v w' hv => ?_)
  obtain ⟨rfl, rfl⟩ := hv
  show z_G X zm_T_isWoken (11, [(0, z_r 0), (1, .inl p1), (2, .inl p2)], [.inl (zAt (S 4) 900 p2)], zW T' G' S n, 0, 0)
  refine z_go2 M.1 11 [(.istore_n 3, 1), (.aload_n 0, 1), (.getfield 65, 3), (.getfield 475, 3), (.iload_n 1, 1)] (20, [(3, .inl (zAt (S 4) 900 p2)), (0, z_r 0), (1, .inl p1), (2, .inl p2)], [.inl p1, z_r 65], zW T' G' S n, 0, 0) (by decide +kernel) rfl ⟨trivial, trivial, rfl, rfl, trivial, trivial⟩ ?_
  refine z_callS M.1 (av := [z_r 65, .inl p1]) (st := []) (by decide +kernel) (c_at (zW T' G' S n) 65 6 rfl (by decide) p1) M.2.1 zl_T_134 zs_T_at ⟨by decide, by decide, by decide, by decide⟩ rfl (Nat.le_of_ble_eq_true rfl) (fun v w' hv => ?_)
  obtain ⟨rfl, rfl⟩ := hv
  show z_G X zm_T_isWoken (23, [(3, .inl (zAt (S 4) 900 p2)), (0, z_r 0), (1, .inl p1), (2, .inl p2)], [.inl (zAt (S 65) 6 p1)], zW T' G' S n, 0, 0)
  refine z_go2 M.1 23 [(.istore 4, 2), (.aload_n 0, 1), (.getfield 65, 3), (.iload_n 1, 1), (.aload_n 0, 1), (.getfield 12, 3), (.getfield 319, 3), (.iload_n 2, 1)] (38, [(4, .inl (zAt (S 65) 6 p1)), (3, .inl (zAt (S 4) 900 p2)), (0, z_r 0), (1, .inl p1), (2, .inl p2)], [.inl p2, z_r 5, .inl p1, z_r 59], zW T' G' S n, 0, 0) (by decide +kernel) rfl ⟨trivial, trivial, rfl, trivial, trivial, rfl, rfl, trivial, trivial⟩ ?_
  refine z_callS M.1 (av := [z_r 5, .inl p2]) (st := [.inl p1, z_r 59]) (by decide +kernel) (c_at (zW T' G' S n) 5 900 rfl (by decide) p2) M.2.1 zl_T_134 zs_T_at ⟨by decide, by decide, by decide, by decide⟩ rfl (Nat.le_of_ble_eq_true rfl) (fun v w' hv => ?_)
  obtain ⟨rfl, rfl⟩ := hv
  show z_G X zm_T_isWoken (41, [(4, .inl (zAt (S 65) 6 p1)), (3, .inl (zAt (S 4) 900 p2)), (0, z_r 0), (1, .inl p1), (2, .inl p2)], [.inl (zAt (S 5) 900 p2), .inl p1, z_r 59], zW T' G' S n, 0, 0)
  refine z_go2 M.1 41 [(.aload_n 0, 1), (.getfield 12, 3), (.getfield 322, 3), (.iload_n 2, 1)] (49, [(4, .inl (zAt (S 65) 6 p1)), (3, .inl (zAt (S 4) 900 p2)), (0, z_r 0), (1, .inl p1), (2, .inl p2)], [.inl p2, z_r 8, .inl (zAt (S 5) 900 p2), .inl p1, z_r 59], zW T' G' S n, 0, 0) (by decide +kernel) rfl ⟨trivial, rfl, rfl, trivial, trivial⟩ ?_
  refine z_callS M.1 (av := [z_r 8, .inl p2]) (st := [.inl (zAt (S 5) 900 p2), .inl p1, z_r 59]) (by decide +kernel) (c_at (zW T' G' S n) 8 900 rfl (by decide) p2) M.2.1 zl_T_134 zs_T_at ⟨by decide, by decide, by decide, by decide⟩ rfl (Nat.le_of_ble_eq_true rfl) (fun v w' hv => ?_)
  obtain ⟨rfl, rfl⟩ := hv
  show z_G X zm_T_isWoken (52, [(4, .inl (zAt (S 65) 6 p1)), (3, .inl (zAt (S 4) 900 p2)), (0, z_r 0), (1, .inl p1), (2, .inl p2)], [.inl (zAt (S 8) 900 p2), .inl (zAt (S 5) 900 p2), .inl p1, z_r 59], zW T' G' S n, 0, 0)
  refine z_callV M.1 (av := [.inl p1, .inl (zAt (S 5) 900 p2), .inl (zAt (S 8) 900 p2)]) (st := []) (a := 59) (ci := 7) (by decide +kernel) (c_Rules_isCause T' G' S n p1 (zAt (S 5) 900 p2) (zAt (S 8) 900 p2)) M.2.1 zl_T_477 zv_Rules_isCause rfl rfl rfl ⟨by decide, by decide, by decide, by decide⟩ rfl (Nat.le_of_ble_eq_true rfl) (fun v w' hv => ?_)
  obtain ⟨rfl, rfl⟩ := hv
  show z_G X zm_T_isWoken (55, [(4, .inl (zAt (S 65) 6 p1)), (3, .inl (zAt (S 4) 900 p2)), (0, z_r 0), (1, .inl p1), (2, .inl p2)], [.inl (F_Rules_isCause S p1 (zAt (S 5) 900 p2) (zAt (S 8) 900 p2))], zW T' G' S n, 0, 0)
  refine z_if_eq 113 M.1 (off := 58) (by decide +kernel) (by decide) (fun c55 => ?_) (fun c55 => ?_)
  · rw [if_pos c55] at K hs
    exact z_lvs (lv' := []) [] rfl (t_T_isWoken_j113 M S hQ K)
  · rw [if_neg c55] at K hs
    refine z_go2 M.1 58 [(.iload 4, 2), (.iconst (-1), 1)] (61, [(4, .inl (zAt (S 65) 6 p1)), (3, .inl (zAt (S 4) 900 p2)), (0, z_r 0), (1, .inl p1), (2, .inl p2)], [.inl (-1), .inl (zAt (S 65) 6 p1)], zW T' G' S n, 0, 0) (by decide +kernel) rfl ⟨trivial, trivial, trivial⟩ ?_
    refine z_icmp_eq 79 M.1 (off := 18) (by decide +kernel) (by decide) (fun c61 => ?_) (fun c61 => ?_)
    · rw [if_pos c61] at K hs
      exact z_lvs (lv' := [(0, z_r 0), (1, .inl p1), (3, .inl (zAt (S 4) 900 p2))]) [2, 3, 1] rfl (t_T_isWoken_j79 M S p1 (zAt (S 4) 900 p2) hQ K hs)
    · rw [if_neg c61] at K hs
      refine z_go2 M.1 64 [(.iload 4, 2), (.aload_n 0, 1), (.getfield 19, 3), (.iload_n 3, 1), (.bipush 9, 2)] (73, [(4, .inl (zAt (S 65) 6 p1)), (3, .inl (zAt (S 4) 900 p2)), (0, z_r 0), (1, .inl p1), (2, .inl p2)], [.inl 9, .inl (zAt (S 4) 900 p2), z_r 9, .inl (zAt (S 65) 6 p1)], zW T' G' S n, 0, 0) (by decide +kernel) rfl ⟨trivial, trivial, rfl, trivial, trivial, trivial⟩ ?_
      refine z_callV M.1 (av := [.inl (zAt (S 4) 900 p2), .inl 9]) (st := [.inl (zAt (S 65) 6 p1)]) (a := 9) (ci := 10) (by decide +kernel) (c_World_cell_9 T' G' S n (zAt (S 4) 900 p2) 9 hs.1) M.2.1 zl_T_207 zv_World_cell rfl rfl rfl ⟨by decide, by decide, by decide, by decide⟩ rfl (Nat.le_of_ble_eq_true rfl) (fun v w' hv => ?_)
      obtain ⟨rfl, rfl⟩ := hv
      replace hs := hs.2
      show z_G X zm_T_isWoken (76, [(4, .inl (zAt (S 65) 6 p1)), (3, .inl (zAt (S 4) 900 p2)), (0, z_r 0), (1, .inl p1), (2, .inl p2)], [.inl (F_World_cell 9 S (zAt (S 4) 900 p2) 9), .inl (zAt (S 65) 6 p1)], zW T' G' S n, 0, 0)
      refine z_icmp_ne 113 M.1 (off := 37) (by decide +kernel) (by decide) (fun c76 => ?_) (fun c76 => ?_)
      · rw [if_neg c76] at K hs
        exact z_lvs (lv' := []) [] rfl (t_T_isWoken_j113 M S hQ K)
      · rw [if_pos c76] at K hs
        exact z_lvs (lv' := [(0, z_r 0), (1, .inl p1), (3, .inl (zAt (S 4) 900 p2))]) [2, 3, 1] rfl (t_T_isWoken_j79 M S p1 (zAt (S 4) 900 p2) hQ K hs)

-- TrackHouse.targetsOf
abbrev rm_T_targetsOf : Room := zr 2
def F_T_targetsOf (S : (Nat → Nat → Int32)) (p1 : Int32) (p2 : Int32) : Int32 := (if p2 = 0 then (F_T_bit S p1) else (if p2 = 1 then (F_T_bit S (F_World_cell 9 S p1 5)) else (if p2 = 2 then (F_World_childrenOf 9 S p1) else (F_World_linksOf 9 S 0 p1))))
def Sf_T_targetsOf (S : (Nat → Nat → Int32)) (p1 : Int32) (p2 : Int32) : Prop := (if p2 = 0 then True else (if p2 = 1 then (Sf_World_cell 9 S p1 5 ∧ True) else (if p2 = 2 then (Sf_World_childrenOf 9 S p1 ∧ True) else (Sf_World_linksOf 9 S 0 p1 ∧ True))))
theorem c_T_targetsOf (T' : Nat → Nat × Nat) (G' : Nat → Nat → Option Nat) (S : (Nat → Nat → Int32)) (n : Nat) (p1 : Int32) (p2 : Int32) (hs : Sf_T_targetsOf S p1 p2) : z_Run rm_T_targetsOf zm_T_targetsOf [z_r 0, .inl p1, .inl p2] (zW T' G' S n) (zq (some (.inl (F_T_targetsOf S p1 p2))) (zW T' G' S n)) := by
  refine z_body (by decide) zf_T_ok (Nat.le_of_ble_eq_true rfl) (fun X M => ?_)
  obtain ⟨Q, hQ, K⟩ : ∃ Q : Int32 → Prop, (∀ v, Q v → zq (some (.inl (F_T_targetsOf S p1 p2))) (zW T' G' S n) (some (.inl v)) (zW T' G' S n)) ∧ Q (F_T_targetsOf S p1 p2) := ⟨fun o => F_T_targetsOf S p1 p2 = o, fun v h => ⟨by rw [h], rfl⟩, rfl⟩
  show z_G X zm_T_targetsOf (0, [(0, z_r 0), (1, .inl p1), (2, .inl p2)], [], zW T' G' S n, 0, 0)
  unfold F_T_targetsOf at K
  unfold Sf_T_targetsOf at hs
  refine z_go2 M.1 0 [(.iload_n 2, 1)] (1, [(0, z_r 0), (1, .inl p1), (2, .inl p2)], [.inl p2], zW T' G' S n, 0, 0) (by decide +kernel) rfl ⟨trivial, trivial⟩ ?_
  by_cases c1_0 : p2 = 0
  · rw [if_pos c1_0] at K hs
    refine z_tabE 28 M.1 (dflt := 54) (lo := 0) (hi := 2) (offs := #[27, 32, 45]) (len := 27) c1_0 (off := 27) (by decide +kernel) (by decide) (by decide) (by decide) (by decide) ?_
    refine z_go2 M.1 28 [(.iload_n 1, 1)] (29, [(0, z_r 0), (1, .inl p1), (2, .inl p2)], [.inl p1], zW T' G' S n, 0, 0) (by decide +kernel) rfl ⟨trivial, trivial⟩ ?_
    refine z_callS M.1 (av := [.inl p1]) (st := []) (by decide +kernel) (c_T_bit T' G' S n p1) M.2.1 zl_T_352 zs_T_bit ⟨by decide, by decide, by decide, by decide⟩ rfl (Nat.le_of_ble_eq_true rfl) (fun v w' hv => ?_)
    obtain ⟨rfl, rfl⟩ := hv
    show z_G X zm_T_targetsOf (32, [(0, z_r 0), (1, .inl p1), (2, .inl p2)], [.inl (F_T_bit S p1)], zW T' G' S n, 0, 0)
    exact z_iret M (by decide +kernel) .int rfl rfl (by decide) (by decide) (hQ _ K)
  · rw [if_neg c1_0] at K hs
    by_cases c1_1 : p2 = 1
    · rw [if_pos c1_1] at K hs
      refine z_tabE 33 M.1 (dflt := 54) (lo := 0) (hi := 2) (offs := #[27, 32, 45]) (len := 27) c1_1 (off := 32) (by decide +kernel) (by decide) (by decide) (by decide) (by decide) ?_
      refine z_go2 M.1 33 [(.aload_n 0, 1), (.getfield 19, 3), (.iload_n 1, 1), (.iconst 5, 1)] (39, [(0, z_r 0), (1, .inl p1), (2, .inl p2)], [.inl 5, .inl p1, z_r 9], zW T' G' S n, 0, 0) (by decide +kernel) rfl ⟨trivial, rfl, trivial, trivial, trivial⟩ ?_
      refine z_callV M.1 (av := [.inl p1, .inl 5]) (st := []) (a := 9) (ci := 10) (by decide +kernel) (c_World_cell_9 T' G' S n p1 5 hs.1) M.2.1 zl_T_207 zv_World_cell rfl rfl rfl ⟨by decide, by decide, by decide, by decide⟩ rfl (Nat.le_of_ble_eq_true rfl) (fun v w' hv => ?_)
      obtain ⟨rfl, rfl⟩ := hv
      replace hs := hs.2
      show z_G X zm_T_targetsOf (42, [(0, z_r 0), (1, .inl p1), (2, .inl p2)], [.inl (F_World_cell 9 S p1 5)], zW T' G' S n, 0, 0)
      refine z_callS M.1 (av := [.inl (F_World_cell 9 S p1 5)]) (st := []) (by decide +kernel) (c_T_bit T' G' S n (F_World_cell 9 S p1 5)) M.2.1 zl_T_352 zs_T_bit ⟨by decide, by decide, by decide, by decide⟩ rfl (Nat.le_of_ble_eq_true rfl) (fun v w' hv => ?_)
      obtain ⟨rfl, rfl⟩ := hv
      show z_G X zm_T_targetsOf (45, [(0, z_r 0), (1, .inl p1), (2, .inl p2)], [.inl (F_T_bit S (F_World_cell 9 S p1 5))], zW T' G' S n, 0, 0)
      exact z_iret M (by decide +kernel) .int rfl rfl (by decide) (by decide) (hQ _ K)
    · rw [if_neg c1_1] at K hs
      by_cases c1_2 : p2 = 2
      · rw [if_pos c1_2] at K hs
        refine z_tabE 46 M.1 (dflt := 54) (lo := 0) (hi := 2) (offs := #[27, 32, 45]) (len := 27) c1_2 (off := 45) (by decide +kernel) (by decide) (by decide) (by decide) (by decide) ?_
        refine z_go2 M.1 46 [(.aload_n 0, 1), (.getfield 19, 3), (.iload_n 1, 1)] (51, [(0, z_r 0), (1, .inl p1), (2, .inl p2)], [.inl p1, z_r 9], zW T' G' S n, 0, 0) (by decide +kernel) rfl ⟨trivial, rfl, trivial, trivial⟩ ?_
        refine z_callV M.1 (av := [.inl p1]) (st := []) (a := 9) (ci := 10) (by decide +kernel) (c_World_childrenOf_9 T' G' S n p1 hs.1) M.2.1 zl_T_484 zv_World_childrenOf rfl rfl rfl ⟨by decide, by decide, by decide, by decide⟩ rfl (Nat.le_of_ble_eq_true rfl) (fun v w' hv => ?_)
        obtain ⟨rfl, rfl⟩ := hv
        replace hs := hs.2
        show z_G X zm_T_targetsOf (54, [(0, z_r 0), (1, .inl p1), (2, .inl p2)], [.inl (F_World_childrenOf 9 S p1)], zW T' G' S n, 0, 0)
        exact z_iret M (by decide +kernel) .int rfl rfl (by decide) (by decide) (hQ _ K)
      · rw [if_neg c1_2] at K hs
        refine z_tableOut 55 M.1 (dflt := 54) (lo := 0) (hi := 2) (offs := #[27, 32, 45]) (len := 27) (by decide +kernel) (by have h0_ := lv_neT c1_0 (k := 0) (a := 0) (by decide); have h1_ := lv_neT c1_1 (k := 1) (a := 1) (by decide); have h2_ := lv_neT c1_2 (k := 2) (a := 2) (by decide); omega) (by decide) ?_
        refine z_go2 M.1 55 [(.aload_n 0, 1), (.getfield 19, 3), (.iconst 0, 1), (.iload_n 1, 1)] (61, [(0, z_r 0), (1, .inl p1), (2, .inl p2)], [.inl p1, .inl 0, z_r 9], zW T' G' S n, 0, 0) (by decide +kernel) rfl ⟨trivial, rfl, trivial, trivial, trivial⟩ ?_
        refine z_callV M.1 (av := [.inl 0, .inl p1]) (st := []) (a := 9) (ci := 10) (by decide +kernel) (c_World_linksOf_9 T' G' S n 0 p1 hs.1) M.2.1 zl_T_424 zv_World_linksOf rfl rfl rfl ⟨by decide, by decide, by decide, by decide⟩ rfl (Nat.le_of_ble_eq_true rfl) (fun v w' hv => ?_)
        obtain ⟨rfl, rfl⟩ := hv
        replace hs := hs.2
        show z_G X zm_T_targetsOf (64, [(0, z_r 0), (1, .inl p1), (2, .inl p2)], [.inl (F_World_linksOf 9 S 0 p1)], zW T' G' S n, 0, 0)
        exact z_iret M (by decide +kernel) .int rfl rfl (by decide) (by decide) (hQ _ K)

-- TrackHouse.canTake
abbrev rm_T_canTake : Room := zr 2
def F_T_canTake (S : (Nat → Nat → Int32)) (p1 : Int32) (p2 : Int32) : Int32 := (if (zAt (S 63) 6 p1) = 0 then (F_Flows_has S p2 (zAt (S 64) 6 p1)) else (if (zAt (S 63) 6 p1) = 4 then 1 else (if (F_Kinds_has S p2 ((zAt (S 63) 6 p1) - 1)) = 0 then 0 else 1)))
def Sf_T_canTake (S : (Nat → Nat → Int32)) (p1 : Int32) (p2 : Int32) : Prop := (if (zAt (S 63) 6 p1) = 0 then (Sf_Flows_has S p2 (zAt (S 64) 6 p1) ∧ (narrow .boolean (.int (F_Flows_has S p2 (zAt (S 64) 6 p1))) = .int (F_Flows_has S p2 (zAt (S 64) 6 p1)) ∧ True)) else (if (zAt (S 63) 6 p1) = 4 then True else (Sf_Kinds_has S p2 ((zAt (S 63) 6 p1) - 1) ∧ True)))
theorem c_T_canTake (T' : Nat → Nat × Nat) (G' : Nat → Nat → Option Nat) (S : (Nat → Nat → Int32)) (n : Nat) (p1 : Int32) (p2 : Int32) (hs : Sf_T_canTake S p1 p2) : z_Run rm_T_canTake zm_T_canTake [z_r 0, .inl p1, .inl p2] (zW T' G' S n) (zq (some (.inl (F_T_canTake S p1 p2))) (zW T' G' S n)) := by
  refine z_body (by decide) zf_T_ok (Nat.le_of_ble_eq_true rfl) (fun X M => ?_)
  obtain ⟨Q, hQ, K⟩ : ∃ Q : Int32 → Prop, (∀ v, Q v → zq (some (.inl (F_T_canTake S p1 p2))) (zW T' G' S n) (some (.inl v)) (zW T' G' S n)) ∧ Q (F_T_canTake S p1 p2) := ⟨fun o => F_T_canTake S p1 p2 = o, fun v h => ⟨by rw [h], rfl⟩, rfl⟩
  show z_G X zm_T_canTake (0, [(0, z_r 0), (1, .inl p1), (2, .inl p2)], [], zW T' G' S n, 0, 0)
  unfold F_T_canTake at K
  unfold Sf_T_canTake at hs
  refine z_go2 M.1 0 [(.aload_n 0, 1), (.getfield 65, 3), (.getfield 469, 3), (.iload_n 1, 1)] (8, [(0, z_r 0), (1, .inl p1), (2, .inl p2)], [.inl p1, z_r 63], zW T' G' S n, 0, 0) (by decide +kernel) rfl ⟨trivial, rfl, rfl, trivial, trivial⟩ ?_
  refine z_callS M.1 (av := [z_r 63, .inl p1]) (st := []) (by decide +kernel) (c_at (zW T' G' S n) 63 6 rfl (by decide) p1) M.2.1 zl_T_134 zs_T_at ⟨by decide, by decide, by decide, by decide⟩ rfl (Nat.le_of_ble_eq_true rfl) (fun v w' hv => ?_)
  obtain ⟨rfl, rfl⟩ := hv
  show z_G X zm_T_canTake (11, [(0, z_r 0), (1, .inl p1), (2, .inl p2)], [.inl (zAt (S 63) 6 p1)], zW T' G' S n, 0, 0)
  refine z_go2 M.1 11 [(.istore_n 3, 1), (.iload_n 3, 1)] (13, [(3, .inl (zAt (S 63) 6 p1)), (0, z_r 0), (1, .inl p1), (2, .inl p2)], [.inl (zAt (S 63) 6 p1)], zW T' G' S n, 0, 0) (by decide +kernel) rfl ⟨trivial, trivial, trivial⟩ ?_
  refine z_if_ne 36 M.1 (off := 23) (by decide +kernel) (by decide) (fun c13 => ?_) (fun c13 => ?_)
  · rw [if_neg c13] at K hs
    refine z_go2 M.1 36 [(.iload_n 3, 1), (.iconst 4, 1)] (38, [(3, .inl (zAt (S 63) 6 p1)), (0, z_r 0), (1, .inl p1), (2, .inl p2)], [.inl 4, .inl (zAt (S 63) 6 p1)], zW T' G' S n, 0, 0) (by decide +kernel) rfl ⟨trivial, trivial, trivial⟩ ?_
    refine z_icmp_eq 55 M.1 (off := 17) (by decide +kernel) (by decide) (fun c38 => ?_) (fun c38 => ?_)
    · rw [if_pos c38] at K hs
      refine z_go2 M.1 55 [(.iconst 1, 1), (.goto 4, 3)] (60, [(3, .inl (zAt (S 63) 6 p1)), (0, z_r 0), (1, .inl p1), (2, .inl p2)], [.inl 1], zW T' G' S n, 0, 0) (by decide +kernel) rfl ⟨trivial, trivial, trivial⟩ ?_
      exact z_iret M (by decide +kernel) .boolean rfl rfl (by decide) (by decide) (hQ _ K)
    · rw [if_neg c38] at K hs
      refine z_go2 M.1 41 [(.aload_n 0, 1), (.getfield 54, 3), (.iload_n 2, 1), (.iload_n 3, 1), (.iconst 1, 1), (.isub, 1)] (49, [(3, .inl (zAt (S 63) 6 p1)), (0, z_r 0), (1, .inl p1), (2, .inl p2)], [.inl ((zAt (S 63) 6 p1) - 1), .inl p2, z_r 43], zW T' G' S n, 0, 0) (by decide +kernel) rfl ⟨trivial, rfl, trivial, trivial, trivial, trivial, trivial⟩ ?_
      refine z_callV M.1 (av := [.inl p2, .inl ((zAt (S 63) 6 p1) - 1)]) (st := []) (a := 43) (ci := 3) (by decide +kernel) (c_Kinds_has T' G' S n p2 ((zAt (S 63) 6 p1) - 1) hs.1) M.2.1 zl_T_393 zv_Kinds_has rfl rfl rfl ⟨by decide, by decide, by decide, by decide⟩ rfl (Nat.le_of_ble_eq_true rfl) (fun v w' hv => ?_)
      obtain ⟨rfl, rfl⟩ := hv
      replace hs := hs.2
      show z_G X zm_T_canTake (52, [(3, .inl (zAt (S 63) 6 p1)), (0, z_r 0), (1, .inl p1), (2, .inl p2)], [.inl (F_Kinds_has S p2 ((zAt (S 63) 6 p1) - 1))], zW T' G' S n, 0, 0)
      refine z_if_eq 59 M.1 (off := 7) (by decide +kernel) (by decide) (fun c52 => ?_) (fun c52 => ?_)
      · rw [if_pos c52] at K
        refine z_go2 M.1 59 [(.iconst 0, 1)] (60, [(3, .inl (zAt (S 63) 6 p1)), (0, z_r 0), (1, .inl p1), (2, .inl p2)], [.inl 0], zW T' G' S n, 0, 0) (by decide +kernel) rfl ⟨trivial, trivial⟩ ?_
        exact z_iret M (by decide +kernel) .boolean rfl rfl (by decide) (by decide) (hQ _ K)
      · rw [if_neg c52] at K
        refine z_go2 M.1 55 [(.iconst 1, 1), (.goto 4, 3)] (60, [(3, .inl (zAt (S 63) 6 p1)), (0, z_r 0), (1, .inl p1), (2, .inl p2)], [.inl 1], zW T' G' S n, 0, 0) (by decide +kernel) rfl ⟨trivial, trivial, trivial⟩ ?_
        exact z_iret M (by decide +kernel) .boolean rfl rfl (by decide) (by decide) (hQ _ K)
  · rw [if_pos c13] at K hs
    refine z_go2 M.1 16 [(.aload_n 0, 1), (.getfield 58, 3), (.iload_n 2, 1), (.aload_n 0, 1), (.getfield 65, 3), (.getfield 472, 3), (.iload_n 1, 1)] (29, [(3, .inl (zAt (S 63) 6 p1)), (0, z_r 0), (1, .inl p1), (2, .inl p2)], [.inl p1, z_r 64, .inl p2, z_r 54], zW T' G' S n, 0, 0) (by decide +kernel) rfl ⟨trivial, rfl, trivial, trivial, rfl, rfl, trivial, trivial⟩ ?_
    refine z_callS M.1 (av := [z_r 64, .inl p1]) (st := [.inl p2, z_r 54]) (by decide +kernel) (c_at (zW T' G' S n) 64 6 rfl (by decide) p1) M.2.1 zl_T_134 zs_T_at ⟨by decide, by decide, by decide, by decide⟩ rfl (Nat.le_of_ble_eq_true rfl) (fun v w' hv => ?_)
    obtain ⟨rfl, rfl⟩ := hv
    show z_G X zm_T_canTake (32, [(3, .inl (zAt (S 63) 6 p1)), (0, z_r 0), (1, .inl p1), (2, .inl p2)], [.inl (zAt (S 64) 6 p1), .inl p2, z_r 54], zW T' G' S n, 0, 0)
    refine z_callV M.1 (av := [.inl p2, .inl (zAt (S 64) 6 p1)]) (st := []) (a := 54) (ci := 2) (by decide +kernel) (c_Flows_has T' G' S n p2 (zAt (S 64) 6 p1) hs.1) M.2.1 zl_T_181 zv_Flows_has rfl rfl rfl ⟨by decide, by decide, by decide, by decide⟩ rfl (Nat.le_of_ble_eq_true rfl) (fun v w' hv => ?_)
    obtain ⟨rfl, rfl⟩ := hv
    replace hs := hs.2
    show z_G X zm_T_canTake (35, [(3, .inl (zAt (S 63) 6 p1)), (0, z_r 0), (1, .inl p1), (2, .inl p2)], [.inl (F_Flows_has S p2 (zAt (S 64) 6 p1))], zW T' G' S n, 0, 0)
    exact z_iret M (by decide +kernel) .boolean rfl hs.1 (by decide) (by decide) (hQ _ K)

-- TrackHouse.takeBack
abbrev rm_T_takeBack : Room := zr 3
def F_T_takeBack_L10 (x1 : Int32) : Nat → (Nat → Nat → Int32) → Int32 → ((Nat → Nat → Int32))
  | 0, S, x2 => S
  | f + 1, S, x2 => (if x2 < x1 then S else (z_let (F_World_undo 9 S x2) (fun S24 => ((F_T_takeBack_L10 x1 f) S24 (x2 + (-1))))))
def Sf_T_takeBack_L10 (x1 : Int32) : Nat → (Nat → Nat → Int32) → Int32 → Prop
  | 0, _, _ => False
  | f + 1, S, x2 => (if x2 < x1 then True else (Sf_World_undo 9 S x2 ∧ (z_let (F_World_undo 9 S x2) (fun S24 => ((Sf_T_takeBack_L10 x1 f) S24 (x2 + (-1)))))))
theorem t_T_takeBack_L10 {X : z_X} {Post : Option z_V → z_W → Prop} (M : z_M X zm_T_takeBack rm_T_takeBack Post) {T' : Nat → Nat × Nat} {G' : Nat → Nat → Option Nat} {n : Nat} {Q : ((Nat → Nat → Int32)) → Prop}  (x1 : Int32) (hE : ∀ (S' : (Nat → Nat → Int32)), Q S' → z_G X zm_T_takeBack (33, [(0, z_r 0), (1, .inl x1)], [], zW T' G' S' n, 0, 0)) (f : Nat) : ∀ (S : (Nat → Nat → Int32)) (x2 : Int32), Q (F_T_takeBack_L10 x1 f S x2) → Sf_T_takeBack_L10 x1 f S x2 → z_G X zm_T_takeBack (10, [(0, z_r 0), (1, .inl x1), (2, .inl x2)], [], zW T' G' S n, 0, 0) := by
  induction f with
  | zero => intro S x2 K hs; exact False.elim hs
  | succ f hC =>
    intro S x2 K hs
    rw [F_T_takeBack_L10] at K
    rw [Sf_T_takeBack_L10] at hs
    refine z_go2 M.1 10 [(.iload_n 2, 1), (.iload_n 1, 1)] (12, [(0, z_r 0), (1, .inl x1), (2, .inl x2)], [.inl x1, .inl x2], zW T' G' S n, 0, 0) (by decide +kernel) rfl ⟨trivial, trivial, trivial⟩ ?_
    refine z_icmp_lt 33 M.1 (off := 21) (by decide +kernel) (by decide) (fun c12 => ?_) (fun c12 => ?_)
    · rw [if_pos c12] at K hs
      exact z_lvs (lv' := [(0, z_r 0), (1, .inl x1)]) [0, 1] rfl (hE S K)
    · rw [if_neg c12] at K hs
      refine z_go2 M.1 15 [(.aload_n 0, 1), (.getfield 19, 3), (.aload_n 0, 1), (.getfield 12, 3), (.iload_n 2, 1)] (24, [(0, z_r 0), (1, .inl x1), (2, .inl x2)], [.inl x2, z_r 1, z_r 9], zW T' G' S n, 0, 0) (by decide +kernel) rfl ⟨trivial, rfl, trivial, rfl, trivial, trivial⟩ ?_
      refine z_callV M.1 (av := [z_r 1, .inl x2]) (st := []) (a := 9) (ci := 10) (by decide +kernel) (c_World_undo_9 T' G' S n x2 hs.1) M.2.1 zl_T_430 zv_World_undo rfl rfl rfl ⟨by decide, by decide, by decide, by decide⟩ rfl (Nat.le_of_ble_eq_true rfl) (fun v w' hv => ?_)
      replace hs := hs.2
      obtain ⟨S24, hF24⟩ : ∃ y, F_World_undo 9 S x2 = y := ⟨_, rfl⟩
      rw [hF24] at K hv
      try rw [hF24] at hs
      try dsimp only [z_let] at K hs
      obtain ⟨rfl, rfl⟩ := hv
      show z_G X zm_T_takeBack (27, [(0, z_r 0), (1, .inl x1), (2, .inl x2)], [], zW T' G' S24 n, 0, 0)
      refine z_go2 M.1 27 [(.iinc 2 (-1), 3), (.goto (-20), 3)] (10, [(2, .inl (x2 + (-1))), (0, z_r 0), (1, .inl x1)], [], zW T' G' S24 n, 0, 0) (by decide +kernel) rfl ⟨trivial, trivial, trivial⟩ ?_
      exact z_lvs (lv' := [(0, z_r 0), (1, .inl x1), (2, .inl (x2 + (-1)))]) [1, 2, 0] rfl (hC S24 (x2 + (-1)) K hs)
def F_T_takeBack (S : (Nat → Nat → Int32)) (p1 : Int32) : (Nat → Nat → Int32) := (match F_T_takeBack_L10 p1 1300 S ((S 1 7) - 1) with | S10 => (z_uS S10 1 7 (F_Math_min S10 (S10 1 7) p1)))
def Sf_T_takeBack (S : (Nat → Nat → Int32)) (p1 : Int32) : Prop := (Sf_T_takeBack_L10 p1 1300 S ((S 1 7) - 1) ∧ True)
theorem c_T_takeBack (T' : Nat → Nat × Nat) (G' : Nat → Nat → Option Nat) (S : (Nat → Nat → Int32)) (n : Nat) (p1 : Int32) (hs : Sf_T_takeBack S p1) : z_Run rm_T_takeBack zm_T_takeBack [z_r 0, .inl p1] (zW T' G' S n) (zq none (zW T' G' (F_T_takeBack S p1) n)) := by
  refine z_body (by decide) zf_T_ok (Nat.le_of_ble_eq_true rfl) (fun X M => ?_)
  obtain ⟨Q, hQ, K⟩ : ∃ Q : (Nat → Nat → Int32) → Prop, (∀ S', Q S' → zq none (zW T' G' (F_T_takeBack S p1) n) none (zW T' G' S' n)) ∧ Q (F_T_takeBack S p1) := ⟨fun o => F_T_takeBack S p1 = o, fun S' h => ⟨rfl, by rw [h]⟩, rfl⟩
  show z_G X zm_T_takeBack (0, [(0, z_r 0), (1, .inl p1)], [], zW T' G' S n, 0, 0)
  unfold F_T_takeBack at K
  unfold Sf_T_takeBack at hs
  refine z_go2 M.1 0 [(.aload_n 0, 1), (.getfield 12, 3), (.getfield 118, 3), (.iconst 1, 1), (.isub, 1), (.istore_n 2, 1)] (10, [(2, .inl ((S 1 7) - 1)), (0, z_r 0), (1, .inl p1)], [], zW T' G' S n, 0, 0) (by decide +kernel) rfl ⟨trivial, rfl, rfl, trivial, trivial, trivial, trivial⟩ ?_
  refine z_lvs (lv' := [(0, z_r 0), (1, .inl p1), (2, .inl ((S 1 7) - 1))]) [1, 2, 0] rfl ?_
  refine t_T_takeBack_L10 M (Q := fun o => F_T_takeBack_L10 p1 1300 S ((S 1 7) - 1) = o) p1 (fun S10 hL10 => ?_) 1300 S ((S 1 7) - 1) rfl hs.1
  replace hs := hs.2
  rw [hL10] at K
  try dsimp only at K
  refine z_go2 M.1 33 [(.aload_n 0, 1), (.getfield 12, 3), (.aload_n 0, 1), (.getfield 12, 3), (.getfield 118, 3), (.iload_n 1, 1)] (45, [(0, z_r 0), (1, .inl p1)], [.inl p1, .inl (S10 1 7), z_r 1], zW T' G' S10 n, 0, 0) (by decide +kernel) rfl ⟨trivial, rfl, trivial, rfl, rfl, trivial, trivial⟩ ?_
  refine z_callS M.1 (av := [.inl (S10 1 7), .inl p1]) (st := [z_r 1]) (by decide +kernel) (c_Math_min T' G' S10 n (S10 1 7) p1) M.2.1 zl_T_433 zs_Math_min ⟨by decide, by decide, by decide, by decide⟩ rfl (Nat.le_of_ble_eq_true rfl) (fun v w' hv => ?_)
  obtain ⟨rfl, rfl⟩ := hv
  show z_G X zm_T_takeBack (48, [(0, z_r 0), (1, .inl p1)], [.inl (F_Math_min S10 (S10 1 7) p1), z_r 1], zW T' G' S10 n, 0, 0)
  refine z_go2 M.1 48 [(.putfield 118, 3)] (51, [(0, z_r 0), (1, .inl p1)], [], zW T' G' (z_uS S10 1 7 (F_Math_min S10 (S10 1 7) p1)) n, 0, 0) (by decide +kernel) rfl ⟨⟨rfl, trivial⟩, trivial⟩ ?_
  exact z_vret M (by decide +kernel) rfl (by decide) (by decide) (hQ _ K)

-- TrackHouse.wake
abbrev rm_T_wake : Room := zr 3
def F_T_wake_L88 (x1 : Int32) (x2 : Int32) (x3 : Int32) (x4 : Int32) (x5 : Int32) (x6 : Int32) (x7 : Int32) (x8 : Int32) : Nat → (Nat → Nat → Int32) → Int32 → ((Nat → Nat → Int32))
  | 0, S, x9 => S
  | f + 1, S, x9 => (if (30 : Int32) ≤ x9 then S else (if x4 < (S 1 7) then S else (if (F_T_isIn S x8 x9) = 0 then ((F_T_wake_L88 x1 x2 x3 x4 x5 x6 x7 x8 f) S (x9 + 1)) else (if (F_T_canTake S x7 (F_World_cell 9 S x9 9)) = 0 then ((F_T_wake_L88 x1 x2 x3 x4 x5 x6 x7 x8 f) S (x9 + 1)) else (z_let (F_T_change S x2 x9 (zAt (S 63) 6 x7) 0 (zAt (S 64) 6 x7)) (fun S166 => ((F_T_wake_L88 x1 x2 x3 x4 x5 x6 x7 x8 f) S166 (x9 + 1))))))))
def Sf_T_wake_L88 (x1 : Int32) (x2 : Int32) (x3 : Int32) (x4 : Int32) (x5 : Int32) (x6 : Int32) (x7 : Int32) (x8 : Int32) : Nat → (Nat → Nat → Int32) → Int32 → Prop
  | 0, _, _ => False
  | f + 1, S, x9 => (if (30 : Int32) ≤ x9 then True else (if x4 < (S 1 7) then True else (if (F_T_isIn S x8 x9) = 0 then ((Sf_T_wake_L88 x1 x2 x3 x4 x5 x6 x7 x8 f) S (x9 + 1)) else (Sf_World_cell 9 S x9 9 ∧ (Sf_T_canTake S x7 (F_World_cell 9 S x9 9) ∧ (if (F_T_canTake S x7 (F_World_cell 9 S x9 9)) = 0 then ((Sf_T_wake_L88 x1 x2 x3 x4 x5 x6 x7 x8 f) S (x9 + 1)) else (Sf_T_change S x2 x9 (zAt (S 63) 6 x7) 0 (zAt (S 64) 6 x7) ∧ (z_let (F_T_change S x2 x9 (zAt (S 63) 6 x7) 0 (zAt (S 64) 6 x7)) (fun S166 => ((Sf_T_wake_L88 x1 x2 x3 x4 x5 x6 x7 x8 f) S166 (x9 + 1)))))))))))
theorem t_T_wake_L88 {X : z_X} {Post : Option z_V → z_W → Prop} (M : z_M X zm_T_wake rm_T_wake Post) {T' : Nat → Nat × Nat} {G' : Nat → Nat → Option Nat} {n : Nat} {Q : ((Nat → Nat → Int32)) → Prop}  (x1 : Int32) (x2 : Int32) (x3 : Int32) (x4 : Int32) (x5 : Int32) (x6 : Int32) (x7 : Int32) (x8 : Int32) (hE : ∀ (S' : (Nat → Nat → Int32)), Q S' → z_G X zm_T_wake (175, [(0, z_r 0), (1, .inl x1), (2, .inl x2), (3, .inl x3), (4, .inl x4), (5, .inl x5), (6, .inl x6)], [], zW T' G' S' n, 0, 0)) (f : Nat) : ∀ (S : (Nat → Nat → Int32)) (x9 : Int32), Q (F_T_wake_L88 x1 x2 x3 x4 x5 x6 x7 x8 f S x9) → Sf_T_wake_L88 x1 x2 x3 x4 x5 x6 x7 x8 f S x9 → z_G X zm_T_wake (88, [(0, z_r 0), (1, .inl x1), (2, .inl x2), (3, .inl x3), (4, .inl x4), (5, .inl x5), (6, .inl x6), (7, .inl x7), (8, .inl x8), (9, .inl x9)], [], zW T' G' S n, 0, 0) := by
  induction f with
  | zero => intro S x9 K hs; exact False.elim hs
  | succ f hC =>
    intro S x9 K hs
    rw [F_T_wake_L88] at K
    rw [Sf_T_wake_L88] at hs
    refine z_go2 M.1 88 [(.iload 9, 2), (.bipush 30, 2)] (92, [(0, z_r 0), (1, .inl x1), (2, .inl x2), (3, .inl x3), (4, .inl x4), (5, .inl x5), (6, .inl x6), (7, .inl x7), (8, .inl x8), (9, .inl x9)], [.inl 30, .inl x9], zW T' G' S n, 0, 0) (by decide +kernel) rfl ⟨trivial, trivial, trivial⟩ ?_
    refine z_icmp_ge 175 M.1 (off := 83) (by decide +kernel) (by decide) (fun c92 => ?_) (fun c92 => ?_)
    · rw [if_pos c92] at K hs
      exact z_lvs (lv' := [(0, z_r 0), (1, .inl x1), (2, .inl x2), (3, .inl x3), (4, .inl x4), (5, .inl x5), (6, .inl x6)]) [0, 1, 2, 3, 4, 5, 6] rfl (hE S K)
    · rw [if_neg c92] at K hs
      refine z_go2 M.1 95 [(.aload_n 0, 1), (.getfield 12, 3), (.getfield 118, 3), (.iload 4, 2)] (104, [(0, z_r 0), (1, .inl x1), (2, .inl x2), (3, .inl x3), (4, .inl x4), (5, .inl x5), (6, .inl x6), (7, .inl x7), (8, .inl x8), (9, .inl x9)], [.inl x4, .inl (S 1 7)], zW T' G' S n, 0, 0) (by decide +kernel) rfl ⟨trivial, rfl, rfl, trivial, trivial⟩ ?_
      refine z_icmp_gt 175 M.1 (off := 71) (by decide +kernel) (by decide) (fun c104 => ?_) (fun c104 => ?_)
      · rw [if_pos c104] at K hs
        exact z_lvs (lv' := [(0, z_r 0), (1, .inl x1), (2, .inl x2), (3, .inl x3), (4, .inl x4), (5, .inl x5), (6, .inl x6)]) [0, 1, 2, 3, 4, 5, 6] rfl (hE S K)
      · rw [if_neg c104] at K hs
        refine z_go2 M.1 107 [(.iload 8, 2), (.iload 9, 2)] (111, [(0, z_r 0), (1, .inl x1), (2, .inl x2), (3, .inl x3), (4, .inl x4), (5, .inl x5), (6, .inl x6), (7, .inl x7), (8, .inl x8), (9, .inl x9)], [.inl x9, .inl x8], zW T' G' S n, 0, 0) (by decide +kernel) rfl ⟨trivial, trivial, trivial⟩ ?_
        refine z_callS M.1 (av := [.inl x8, .inl x9]) (st := []) (by decide +kernel) (c_T_isIn T' G' S n x8 x9) M.2.1 zl_T_307 zs_T_isIn ⟨by decide, by decide, by decide, by decide⟩ rfl (Nat.le_of_ble_eq_true rfl) (fun v w' hv => ?_)
        obtain ⟨rfl, rfl⟩ := hv
        show z_G X zm_T_wake (114, [(0, z_r 0), (1, .inl x1), (2, .inl x2), (3, .inl x3), (4, .inl x4), (5, .inl x5), (6, .inl x6), (7, .inl x7), (8, .inl x8), (9, .inl x9)], [.inl (F_T_isIn S x8 x9)], zW T' G' S n, 0, 0)
        refine z_if_eq 169 M.1 (off := 55) (by decide +kernel) (by decide) (fun c114 => ?_) (fun c114 => ?_)
        · rw [if_pos c114] at K hs
          refine z_go2 M.1 169 [(.iinc 9 1, 3), (.goto (-84), 3)] (88, [(9, .inl (x9 + 1)), (0, z_r 0), (1, .inl x1), (2, .inl x2), (3, .inl x3), (4, .inl x4), (5, .inl x5), (6, .inl x6), (7, .inl x7), (8, .inl x8)], [], zW T' G' S n, 0, 0) (by decide +kernel) rfl ⟨trivial, trivial, trivial⟩ ?_
          exact z_lvs (lv' := [(0, z_r 0), (1, .inl x1), (2, .inl x2), (3, .inl x3), (4, .inl x4), (5, .inl x5), (6, .inl x6), (7, .inl x7), (8, .inl x8), (9, .inl (x9 + 1))]) [1, 2, 3, 4, 5, 6, 7, 8, 9, 0] rfl (hC S (x9 + 1) K hs)
        · rw [if_neg c114] at K hs
          refine z_go2 M.1 117 [(.aload_n 0, 1), (.iload 7, 2), (.aload_n 0, 1), (.getfield 19, 3), (.iload 9, 2), (.bipush 9, 2)] (128, [(0, z_r 0), (1, .inl x1), (2, .inl x2), (3, .inl x3), (4, .inl x4), (5, .inl x5), (6, .inl x6), (7, .inl x7), (8, .inl x8), (9, .inl x9)], [.inl 9, .inl x9, z_r 9, .inl x7, z_r 0], zW T' G' S n, 0, 0) (by decide +kernel) rfl ⟨trivial, trivial, trivial, rfl, trivial, trivial, trivial⟩ ?_
          refine z_callV M.1 (av := [.inl x9, .inl 9]) (st := [.inl x7, z_r 0]) (a := 9) (ci := 10) (by decide +kernel) (c_World_cell_9 T' G' S n x9 9 hs.1) M.2.1 zl_T_207 zv_World_cell rfl rfl rfl ⟨by decide, by decide, by decide, by decide⟩ rfl (Nat.le_of_ble_eq_true rfl) (fun v w' hv => ?_)
          obtain ⟨rfl, rfl⟩ := hv
          replace hs := hs.2
          show z_G X zm_T_wake (131, [(0, z_r 0), (1, .inl x1), (2, .inl x2), (3, .inl x3), (4, .inl x4), (5, .inl x5), (6, .inl x6), (7, .inl x7), (8, .inl x8), (9, .inl x9)], [.inl (F_World_cell 9 S x9 9), .inl x7, z_r 0], zW T' G' S n, 0, 0)
          refine z_callV M.1 (av := [.inl x7, .inl (F_World_cell 9 S x9 9)]) (st := []) (a := 0) (ci := 11) (by decide +kernel) (c_T_canTake T' G' S n x7 (F_World_cell 9 S x9 9) hs.1) M.2.1 zl_T_466 zv_T_canTake rfl rfl rfl ⟨by decide, by decide, by decide, by decide⟩ rfl (Nat.le_of_ble_eq_true rfl) (fun v w' hv => ?_)
          obtain ⟨rfl, rfl⟩ := hv
          replace hs := hs.2
          show z_G X zm_T_wake (134, [(0, z_r 0), (1, .inl x1), (2, .inl x2), (3, .inl x3), (4, .inl x4), (5, .inl x5), (6, .inl x6), (7, .inl x7), (8, .inl x8), (9, .inl x9)], [.inl (F_T_canTake S x7 (F_World_cell 9 S x9 9))], zW T' G' S n, 0, 0)
          refine z_if_eq 169 M.1 (off := 35) (by decide +kernel) (by decide) (fun c134 => ?_) (fun c134 => ?_)
          · rw [if_pos c134] at K hs
            refine z_go2 M.1 169 [(.iinc 9 1, 3), (.goto (-84), 3)] (88, [(9, .inl (x9 + 1)), (0, z_r 0), (1, .inl x1), (2, .inl x2), (3, .inl x3), (4, .inl x4), (5, .inl x5), (6, .inl x6), (7, .inl x7), (8, .inl x8)], [], zW T' G' S n, 0, 0) (by decide +kernel) rfl ⟨trivial, trivial, trivial⟩ ?_
            exact z_lvs (lv' := [(0, z_r 0), (1, .inl x1), (2, .inl x2), (3, .inl x3), (4, .inl x4), (5, .inl x5), (6, .inl x6), (7, .inl x7), (8, .inl x8), (9, .inl (x9 + 1))]) [1, 2, 3, 4, 5, 6, 7, 8, 9, 0] rfl (hC S (x9 + 1) K hs)
          · rw [if_neg c134] at K hs
            refine z_go2 M.1 137 [(.aload_n 0, 1), (.iload_n 2, 1), (.iload 9, 2), (.aload_n 0, 1), (.getfield 65, 3), (.getfield 469, 3), (.iload 7, 2)] (150, [(0, z_r 0), (1, .inl x1), (2, .inl x2), (3, .inl x3), (4, .inl x4), (5, .inl x5), (6, .inl x6), (7, .inl x7), (8, .inl x8), (9, .inl x9)], [.inl x7, z_r 63, .inl x9, .inl x2, z_r 0], zW T' G' S n, 0, 0) (by decide +kernel) rfl ⟨trivial, trivial, trivial, trivial, rfl, rfl, trivial, trivial⟩ ?_
            refine z_callS M.1 (av := [z_r 63, .inl x7]) (st := [.inl x9, .inl x2, z_r 0]) (by decide +kernel) (c_at (zW T' G' S n) 63 6 rfl (by decide) x7) M.2.1 zl_T_134 zs_T_at ⟨by decide, by decide, by decide, by decide⟩ rfl (Nat.le_of_ble_eq_true rfl) (fun v w' hv => ?_)
            obtain ⟨rfl, rfl⟩ := hv
            show z_G X zm_T_wake (153, [(0, z_r 0), (1, .inl x1), (2, .inl x2), (3, .inl x3), (4, .inl x4), (5, .inl x5), (6, .inl x6), (7, .inl x7), (8, .inl x8), (9, .inl x9)], [.inl (zAt (S 63) 6 x7), .inl x9, .inl x2, z_r 0], zW T' G' S n, 0, 0)
            refine z_go2 M.1 153 [(.iconst 0, 1), (.aload_n 0, 1), (.getfield 65, 3), (.getfield 472, 3), (.iload 7, 2)] (163, [(0, z_r 0), (1, .inl x1), (2, .inl x2), (3, .inl x3), (4, .inl x4), (5, .inl x5), (6, .inl x6), (7, .inl x7), (8, .inl x8), (9, .inl x9)], [.inl x7, z_r 64, .inl 0, .inl (zAt (S 63) 6 x7), .inl x9, .inl x2, z_r 0], zW T' G' S n, 0, 0) (by decide +kernel) rfl ⟨trivial, trivial, rfl, rfl, trivial, trivial⟩ ?_
            refine z_callS M.1 (av := [z_r 64, .inl x7]) (st := [.inl 0, .inl (zAt (S 63) 6 x7), .inl x9, .inl x2, z_r 0]) (by decide +kernel) (c_at (zW T' G' S n) 64 6 rfl (by decide) x7) M.2.1 zl_T_134 zs_T_at ⟨by decide, by decide, by decide, by decide⟩ rfl (Nat.le_of_ble_eq_true rfl) (fun v w' hv => ?_)
            obtain ⟨rfl, rfl⟩ := hv
            show z_G X zm_T_wake (166, [(0, z_r 0), (1, .inl x1), (2, .inl x2), (3, .inl x3), (4, .inl x4), (5, .inl x5), (6, .inl x6), (7, .inl x7), (8, .inl x8), (9, .inl x9)], [.inl (zAt (S 64) 6 x7), .inl 0, .inl (zAt (S 63) 6 x7), .inl x9, .inl x2, z_r 0], zW T' G' S n, 0, 0)
            refine z_callV M.1 (av := [.inl x2, .inl x9, .inl (zAt (S 63) 6 x7), .inl 0, .inl (zAt (S 64) 6 x7)]) (st := []) (a := 0) (ci := 11) (by decide +kernel) (c_T_change T' G' S n x2 x9 (zAt (S 63) 6 x7) 0 (zAt (S 64) 6 x7) hs.1) M.2.1 zl_T_121 zv_T_change rfl rfl rfl ⟨by decide, by decide, by decide, by decide⟩ rfl (Nat.le_of_ble_eq_true rfl) (fun v w' hv => ?_)
            replace hs := hs.2
            obtain ⟨S166, hF166⟩ : ∃ y, F_T_change S x2 x9 (zAt (S 63) 6 x7) 0 (zAt (S 64) 6 x7) = y := ⟨_, rfl⟩
            rw [hF166] at K hv
            try rw [hF166] at hs
            try dsimp only [z_let] at K hs
            obtain ⟨rfl, rfl⟩ := hv
            show z_G X zm_T_wake (169, [(0, z_r 0), (1, .inl x1), (2, .inl x2), (3, .inl x3), (4, .inl x4), (5, .inl x5), (6, .inl x6), (7, .inl x7), (8, .inl x8), (9, .inl x9)], [], zW T' G' S166 n, 0, 0)
            refine z_go2 M.1 169 [(.iinc 9 1, 3), (.goto (-84), 3)] (88, [(9, .inl (x9 + 1)), (0, z_r 0), (1, .inl x1), (2, .inl x2), (3, .inl x3), (4, .inl x4), (5, .inl x5), (6, .inl x6), (7, .inl x7), (8, .inl x8)], [], zW T' G' S166 n, 0, 0) (by decide +kernel) rfl ⟨trivial, trivial, trivial⟩ ?_
            exact z_lvs (lv' := [(0, z_r 0), (1, .inl x1), (2, .inl x2), (3, .inl x3), (4, .inl x4), (5, .inl x5), (6, .inl x6), (7, .inl x7), (8, .inl x8), (9, .inl (x9 + 1))]) [1, 2, 3, 4, 5, 6, 7, 8, 9, 0] rfl (hC S166 (x9 + 1) K hs)
def F_T_wake_l16_83 (rc : (Nat → Nat → Int32) → Int32 → ((Nat → Nat → Int32))) (S : (Nat → Nat → Int32)) (x1 : Int32) (x2 : Int32) (x3 : Int32) (x4 : Int32) (x5 : Int32) (x6 : Int32) (x7 : Int32) (s0 : Int32) : ((Nat → Nat → Int32)) := (match F_T_wake_L88 x1 x2 x3 x4 x5 x6 x7 s0 1300 S 0 with | S88 => (rc S88 (x6 + 1)))
def Sf_T_wake_l16_83 (rc : (Nat → Nat → Int32) → Int32 → ((Nat → Nat → Int32))) (sr : (Nat → Nat → Int32) → Int32 → Prop) (S : (Nat → Nat → Int32)) (x1 : Int32) (x2 : Int32) (x3 : Int32) (x4 : Int32) (x5 : Int32) (x6 : Int32) (x7 : Int32) (s0 : Int32) : Prop := (Sf_T_wake_L88 x1 x2 x3 x4 x5 x6 x7 s0 1300 S 0 ∧ (match F_T_wake_L88 x1 x2 x3 x4 x5 x6 x7 s0 1300 S 0 with | S88 => (sr S88 (x6 + 1))))
theorem t_T_wake_l16_83 {X : z_X} {Post : Option z_V → z_W → Prop} (M : z_M X zm_T_wake rm_T_wake Post) {T' : Nat → Nat × Nat} {G' : Nat → Nat → Option Nat} {n : Nat} {Q : ((Nat → Nat → Int32)) → Prop} (rc : (Nat → Nat → Int32) → Int32 → ((Nat → Nat → Int32))) (sr : (Nat → Nat → Int32) → Int32 → Prop) (S : (Nat → Nat → Int32)) (x1 : Int32) (x2 : Int32) (x3 : Int32) (x4 : Int32) (x5 : Int32) (x6 : Int32) (x7 : Int32) (s0 : Int32) (hE : ∀ (S' : (Nat → Nat → Int32)), Q S' → z_G X zm_T_wake (181, [], [], zW T' G' S' n, 0, 0)) (hC : ∀ (S : (Nat → Nat → Int32)) (x6 : Int32), Q (rc S x6) → sr S x6 → z_G X zm_T_wake (16, [(0, z_r 0), (1, .inl x1), (2, .inl x2), (3, .inl x3), (4, .inl x4), (5, .inl x5), (6, .inl x6)], [], zW T' G' S n, 0, 0)) (K : Q (F_T_wake_l16_83 rc S x1 x2 x3 x4 x5 x6 x7 s0)) (hs : Sf_T_wake_l16_83 rc sr S x1 x2 x3 x4 x5 x6 x7 s0) : z_G X zm_T_wake (83, [(0, z_r 0), (1, .inl x1), (2, .inl x2), (3, .inl x3), (4, .inl x4), (5, .inl x5), (6, .inl x6), (7, .inl x7)], [.inl s0], zW T' G' S n, 0, 0) := by
  unfold F_T_wake_l16_83 at K
  unfold Sf_T_wake_l16_83 at hs
  refine z_go2 M.1 83 [(.istore 8, 2), (.iconst 0, 1), (.istore 9, 2)] (88, [(9, .inl 0), (8, .inl s0), (0, z_r 0), (1, .inl x1), (2, .inl x2), (3, .inl x3), (4, .inl x4), (5, .inl x5), (6, .inl x6), (7, .inl x7)], [], zW T' G' S n, 0, 0) (by decide +kernel) rfl ⟨trivial, trivial, trivial, trivial⟩ ?_
  refine z_lvs (lv' := [(0, z_r 0), (1, .inl x1), (2, .inl x2), (3, .inl x3), (4, .inl x4), (5, .inl x5), (6, .inl x6), (7, .inl x7), (8, .inl s0), (9, .inl 0)]) [2, 3, 4, 5, 6, 7, 8, 9, 1, 0] rfl ?_
  refine t_T_wake_L88 M (Q := fun o => F_T_wake_L88 x1 x2 x3 x4 x5 x6 x7 s0 1300 S 0 = o) x1 x2 x3 x4 x5 x6 x7 s0 (fun S88 hL88 => ?_) 1300 S 0 rfl hs.1
  replace hs := hs.2
  rw [hL88] at K
  try rw [hL88] at hs
  try dsimp only at K hs
  refine z_go2 M.1 175 [(.iinc 6 1, 3), (.goto (-162), 3)] (16, [(6, .inl (x6 + 1)), (0, z_r 0), (1, .inl x1), (2, .inl x2), (3, .inl x3), (4, .inl x4), (5, .inl x5)], [], zW T' G' S88 n, 0, 0) (by decide +kernel) rfl ⟨trivial, trivial, trivial⟩ ?_
  exact z_lvs (lv' := [(0, z_r 0), (1, .inl x1), (2, .inl x2), (3, .inl x3), (4, .inl x4), (5, .inl x5), (6, .inl (x6 + 1))]) [1, 2, 3, 4, 5, 6, 0] rfl (hC S88 (x6 + 1) K hs)
def F_T_wake_l16_49 (rc : (Nat → Nat → Int32) → Int32 → ((Nat → Nat → Int32))) (S : (Nat → Nat → Int32)) (x1 : Int32) (x2 : Int32) (x3 : Int32) (x4 : Int32) (x5 : Int32) (x6 : Int32) (s0 : Int32) : ((Nat → Nat → Int32)) := (if (F_T_isWoken S s0 x1) = 0 then (F_T_wake_l16_83 rc S x1 x2 x3 x4 x5 x6 s0 0) else (F_T_wake_l16_83 rc S x1 x2 x3 x4 x5 x6 s0 (F_T_targetsOf S x5 (zAt (S 62) 6 s0))))
def Sf_T_wake_l16_49 (rc : (Nat → Nat → Int32) → Int32 → ((Nat → Nat → Int32))) (sr : (Nat → Nat → Int32) → Int32 → Prop) (S : (Nat → Nat → Int32)) (x1 : Int32) (x2 : Int32) (x3 : Int32) (x4 : Int32) (x5 : Int32) (x6 : Int32) (s0 : Int32) : Prop := (Sf_T_isWoken S s0 x1 ∧ (if (F_T_isWoken S s0 x1) = 0 then (Sf_T_wake_l16_83 rc sr S x1 x2 x3 x4 x5 x6 s0 0) else (Sf_T_targetsOf S x5 (zAt (S 62) 6 s0) ∧ (Sf_T_wake_l16_83 rc sr S x1 x2 x3 x4 x5 x6 s0 (F_T_targetsOf S x5 (zAt (S 62) 6 s0))))))
theorem t_T_wake_l16_49 {X : z_X} {Post : Option z_V → z_W → Prop} (M : z_M X zm_T_wake rm_T_wake Post) {T' : Nat → Nat × Nat} {G' : Nat → Nat → Option Nat} {n : Nat} {Q : ((Nat → Nat → Int32)) → Prop} (rc : (Nat → Nat → Int32) → Int32 → ((Nat → Nat → Int32))) (sr : (Nat → Nat → Int32) → Int32 → Prop) (S : (Nat → Nat → Int32)) (x1 : Int32) (x2 : Int32) (x3 : Int32) (x4 : Int32) (x5 : Int32) (x6 : Int32) (s0 : Int32) (hE : ∀ (S' : (Nat → Nat → Int32)), Q S' → z_G X zm_T_wake (181, [], [], zW T' G' S' n, 0, 0)) (hC : ∀ (S : (Nat → Nat → Int32)) (x6 : Int32), Q (rc S x6) → sr S x6 → z_G X zm_T_wake (16, [(0, z_r 0), (1, .inl x1), (2, .inl x2), (3, .inl x3), (4, .inl x4), (5, .inl x5), (6, .inl x6)], [], zW T' G' S n, 0, 0)) (K : Q (F_T_wake_l16_49 rc S x1 x2 x3 x4 x5 x6 s0)) (hs : Sf_T_wake_l16_49 rc sr S x1 x2 x3 x4 x5 x6 s0) : z_G X zm_T_wake (49, [(0, z_r 0), (1, .inl x1), (2, .inl x2), (3, .inl x3), (4, .inl x4), (5, .inl x5), (6, .inl x6)], [.inl s0], zW T' G' S n, 0, 0) := by
  unfold F_T_wake_l16_49 at K
  unfold Sf_T_wake_l16_49 at hs
  refine z_go2 M.1 49 [(.istore 7, 2), (.aload_n 0, 1), (.iload 7, 2), (.iload_n 1, 1)] (55, [(7, .inl s0), (0, z_r 0), (1, .inl x1), (2, .inl x2), (3, .inl x3), (4, .inl x4), (5, .inl x5), (6, .inl x6)], [.inl x1, .inl s0, z_r 0], zW T' G' S n, 0, 0) (by decide +kernel) rfl ⟨trivial, trivial, trivial, trivial, trivial⟩ ?_
  refine z_callV M.1 (av := [.inl s0, .inl x1]) (st := []) (a := 0) (ci := 11) (by decide +kernel) (c_T_isWoken T' G' S n s0 x1 hs.1) M.2.1 zl_T_457 zv_T_isWoken rfl rfl rfl ⟨by decide, by decide, by decide, by decide⟩ rfl (Nat.le_of_ble_eq_true rfl) (fun v w' hv => ?_)
  obtain ⟨rfl, rfl⟩ := hv
  replace hs := hs.2
  show z_G X zm_T_wake (58, [(7, .inl s0), (0, z_r 0), (1, .inl x1), (2, .inl x2), (3, .inl x3), (4, .inl x4), (5, .inl x5), (6, .inl x6)], [.inl (F_T_isWoken S s0 x1)], zW T' G' S n, 0, 0)
  refine z_if_eq 82 M.1 (off := 24) (by decide +kernel) (by decide) (fun c58 => ?_) (fun c58 => ?_)
  · rw [if_pos c58] at K hs
    refine z_go2 M.1 82 [(.iconst 0, 1)] (83, [(7, .inl s0), (0, z_r 0), (1, .inl x1), (2, .inl x2), (3, .inl x3), (4, .inl x4), (5, .inl x5), (6, .inl x6)], [.inl 0], zW T' G' S n, 0, 0) (by decide +kernel) rfl ⟨trivial, trivial⟩ ?_
    exact z_lvs (lv' := [(0, z_r 0), (1, .inl x1), (2, .inl x2), (3, .inl x3), (4, .inl x4), (5, .inl x5), (6, .inl x6), (7, .inl s0)]) [1, 2, 3, 4, 5, 6, 7, 0] rfl (t_T_wake_l16_83 M rc sr S x1 x2 x3 x4 x5 x6 s0 0 hE hC K hs)
  · rw [if_neg c58] at K hs
    refine z_go2 M.1 61 [(.aload_n 0, 1), (.iload 5, 2), (.aload_n 0, 1), (.getfield 65, 3), (.getfield 460, 3), (.iload 7, 2)] (73, [(7, .inl s0), (0, z_r 0), (1, .inl x1), (2, .inl x2), (3, .inl x3), (4, .inl x4), (5, .inl x5), (6, .inl x6)], [.inl s0, z_r 62, .inl x5, z_r 0], zW T' G' S n, 0, 0) (by decide +kernel) rfl ⟨trivial, trivial, trivial, rfl, rfl, trivial, trivial⟩ ?_
    refine z_callS M.1 (av := [z_r 62, .inl s0]) (st := [.inl x5, z_r 0]) (by decide +kernel) (c_at (zW T' G' S n) 62 6 rfl (by decide) s0) M.2.1 zl_T_134 zs_T_at ⟨by decide, by decide, by decide, by decide⟩ rfl (Nat.le_of_ble_eq_true rfl) (fun v w' hv => ?_)
    obtain ⟨rfl, rfl⟩ := hv
    show z_G X zm_T_wake (76, [(7, .inl s0), (0, z_r 0), (1, .inl x1), (2, .inl x2), (3, .inl x3), (4, .inl x4), (5, .inl x5), (6, .inl x6)], [.inl (zAt (S 62) 6 s0), .inl x5, z_r 0], zW T' G' S n, 0, 0)
    refine z_callV M.1 (av := [.inl x5, .inl (zAt (S 62) 6 s0)]) (st := []) (a := 0) (ci := 11) (by decide +kernel) (c_T_targetsOf T' G' S n x5 (zAt (S 62) 6 s0) hs.1) M.2.1 zl_T_463 zv_T_targetsOf rfl rfl rfl ⟨by decide, by decide, by decide, by decide⟩ rfl (Nat.le_of_ble_eq_true rfl) (fun v w' hv => ?_)
    obtain ⟨rfl, rfl⟩ := hv
    replace hs := hs.2
    show z_G X zm_T_wake (79, [(7, .inl s0), (0, z_r 0), (1, .inl x1), (2, .inl x2), (3, .inl x3), (4, .inl x4), (5, .inl x5), (6, .inl x6)], [.inl (F_T_targetsOf S x5 (zAt (S 62) 6 s0))], zW T' G' S n, 0, 0)
    refine z_go2 M.1 79 [(.goto 4, 3)] (83, [(7, .inl s0), (0, z_r 0), (1, .inl x1), (2, .inl x2), (3, .inl x3), (4, .inl x4), (5, .inl x5), (6, .inl x6)], [.inl (F_T_targetsOf S x5 (zAt (S 62) 6 s0))], zW T' G' S n, 0, 0) (by decide +kernel) rfl ⟨trivial, trivial⟩ ?_
    exact z_lvs (lv' := [(0, z_r 0), (1, .inl x1), (2, .inl x2), (3, .inl x3), (4, .inl x4), (5, .inl x5), (6, .inl x6), (7, .inl s0)]) [1, 2, 3, 4, 5, 6, 7, 0] rfl (t_T_wake_l16_83 M rc sr S x1 x2 x3 x4 x5 x6 s0 (F_T_targetsOf S x5 (zAt (S 62) 6 s0)) hE hC K hs)
def F_T_wake_L16 (x1 : Int32) (x2 : Int32) (x3 : Int32) (x4 : Int32) (x5 : Int32) : Nat → (Nat → Nat → Int32) → Int32 → ((Nat → Nat → Int32))
  | 0, S, x6 => S
  | f + 1, S, x6 => (if (S 59 8) ≤ x6 then S else (if x3 = 0 then (F_T_wake_l16_49 (F_T_wake_L16 x1 x2 x3 x4 x5 f) S x1 x2 x3 x4 x5 x6 x6) else (F_T_wake_l16_49 (F_T_wake_L16 x1 x2 x3 x4 x5 f) S x1 x2 x3 x4 x5 x6 (((S 59 8) - 1) - x6))))
def Sf_T_wake_L16 (x1 : Int32) (x2 : Int32) (x3 : Int32) (x4 : Int32) (x5 : Int32) : Nat → (Nat → Nat → Int32) → Int32 → Prop
  | 0, _, _ => False
  | f + 1, S, x6 => (if (S 59 8) ≤ x6 then True else (if x3 = 0 then (Sf_T_wake_l16_49 (F_T_wake_L16 x1 x2 x3 x4 x5 f) (Sf_T_wake_L16 x1 x2 x3 x4 x5 f) S x1 x2 x3 x4 x5 x6 x6) else (Sf_T_wake_l16_49 (F_T_wake_L16 x1 x2 x3 x4 x5 f) (Sf_T_wake_L16 x1 x2 x3 x4 x5 f) S x1 x2 x3 x4 x5 x6 (((S 59 8) - 1) - x6))))
theorem t_T_wake_L16 {X : z_X} {Post : Option z_V → z_W → Prop} (M : z_M X zm_T_wake rm_T_wake Post) {T' : Nat → Nat × Nat} {G' : Nat → Nat → Option Nat} {n : Nat} {Q : ((Nat → Nat → Int32)) → Prop}  (x1 : Int32) (x2 : Int32) (x3 : Int32) (x4 : Int32) (x5 : Int32) (hE : ∀ (S' : (Nat → Nat → Int32)), Q S' → z_G X zm_T_wake (181, [], [], zW T' G' S' n, 0, 0)) (f : Nat) : ∀ (S : (Nat → Nat → Int32)) (x6 : Int32), Q (F_T_wake_L16 x1 x2 x3 x4 x5 f S x6) → Sf_T_wake_L16 x1 x2 x3 x4 x5 f S x6 → z_G X zm_T_wake (16, [(0, z_r 0), (1, .inl x1), (2, .inl x2), (3, .inl x3), (4, .inl x4), (5, .inl x5), (6, .inl x6)], [], zW T' G' S n, 0, 0) := by
  induction f with
  | zero => intro S x6 K hs; exact False.elim hs
  | succ f hC =>
    intro S x6 K hs
    rw [F_T_wake_L16] at K
    rw [Sf_T_wake_L16] at hs
    refine z_go2 M.1 16 [(.iload 6, 2), (.aload_n 0, 1), (.getfield 65, 3), (.getfield 361, 3)] (25, [(0, z_r 0), (1, .inl x1), (2, .inl x2), (3, .inl x3), (4, .inl x4), (5, .inl x5), (6, .inl x6)], [.inl (S 59 8), .inl x6], zW T' G' S n, 0, 0) (by decide +kernel) rfl ⟨trivial, trivial, rfl, rfl, trivial⟩ ?_
    refine z_icmp_ge 181 M.1 (off := 156) (by decide +kernel) (by decide) (fun c25 => ?_) (fun c25 => ?_)
    · rw [if_pos c25] at K hs
      exact z_lvs (lv' := []) [] rfl (hE S K)
    · rw [if_neg c25] at K hs
      refine z_go2 M.1 28 [(.iload_n 3, 1)] (29, [(0, z_r 0), (1, .inl x1), (2, .inl x2), (3, .inl x3), (4, .inl x4), (5, .inl x5), (6, .inl x6)], [.inl x3], zW T' G' S n, 0, 0) (by decide +kernel) rfl ⟨trivial, trivial⟩ ?_
      refine z_if_eq 47 M.1 (off := 18) (by decide +kernel) (by decide) (fun c29 => ?_) (fun c29 => ?_)
      · rw [if_pos c29] at K hs
        refine z_go2 M.1 47 [(.iload 6, 2)] (49, [(0, z_r 0), (1, .inl x1), (2, .inl x2), (3, .inl x3), (4, .inl x4), (5, .inl x5), (6, .inl x6)], [.inl x6], zW T' G' S n, 0, 0) (by decide +kernel) rfl ⟨trivial, trivial⟩ ?_
        exact z_lvs (lv' := [(0, z_r 0), (1, .inl x1), (2, .inl x2), (3, .inl x3), (4, .inl x4), (5, .inl x5), (6, .inl x6)]) [0, 1, 2, 3, 4, 5, 6] rfl (t_T_wake_l16_49 M (F_T_wake_L16 x1 x2 x3 x4 x5 f) (Sf_T_wake_L16 x1 x2 x3 x4 x5 f) S x1 x2 x3 x4 x5 x6 x6 hE hC K hs)
      · rw [if_neg c29] at K hs
        refine z_go2 M.1 32 [(.aload_n 0, 1), (.getfield 65, 3), (.getfield 361, 3), (.iconst 1, 1), (.isub, 1), (.iload 6, 2), (.isub, 1), (.goto 5, 3)] (49, [(0, z_r 0), (1, .inl x1), (2, .inl x2), (3, .inl x3), (4, .inl x4), (5, .inl x5), (6, .inl x6)], [.inl (((S 59 8) - 1) - x6)], zW T' G' S n, 0, 0) (by decide +kernel) rfl ⟨trivial, rfl, rfl, trivial, trivial, trivial, trivial, trivial, trivial⟩ ?_
        exact z_lvs (lv' := [(0, z_r 0), (1, .inl x1), (2, .inl x2), (3, .inl x3), (4, .inl x4), (5, .inl x5), (6, .inl x6)]) [0, 1, 2, 3, 4, 5, 6] rfl (t_T_wake_l16_49 M (F_T_wake_L16 x1 x2 x3 x4 x5 f) (Sf_T_wake_L16 x1 x2 x3 x4 x5 f) S x1 x2 x3 x4 x5 x6 (((S 59 8) - 1) - x6) hE hC K hs)
def F_T_wake (S : (Nat → Nat → Int32)) (p1 : Int32) (p2 : Int32) (p3 : Int32) (p4 : Int32) : (Nat → Nat → Int32) := (match F_T_wake_L16 p1 p2 p3 p4 (zAt (S 4) 900 p1) 1300 S 0 with | S16 => S16)
def Sf_T_wake (S : (Nat → Nat → Int32)) (p1 : Int32) (p2 : Int32) (p3 : Int32) (p4 : Int32) : Prop := (Sf_T_wake_L16 p1 p2 p3 p4 (zAt (S 4) 900 p1) 1300 S 0 ∧ True)
theorem c_T_wake (T' : Nat → Nat × Nat) (G' : Nat → Nat → Option Nat) (S : (Nat → Nat → Int32)) (n : Nat) (p1 : Int32) (p2 : Int32) (p3 : Int32) (p4 : Int32) (hs : Sf_T_wake S p1 p2 p3 p4) : z_Run rm_T_wake zm_T_wake [z_r 0, .inl p1, .inl p2, .inl p3, .inl p4] (zW T' G' S n) (zq none (zW T' G' (F_T_wake S p1 p2 p3 p4) n)) := by
  refine z_body (by decide) zf_T_ok (Nat.le_of_ble_eq_true rfl) (fun X M => ?_)
  obtain ⟨Q, hQ, K⟩ : ∃ Q : (Nat → Nat → Int32) → Prop, (∀ S', Q S' → zq none (zW T' G' (F_T_wake S p1 p2 p3 p4) n) none (zW T' G' S' n)) ∧ Q (F_T_wake S p1 p2 p3 p4) := ⟨fun o => F_T_wake S p1 p2 p3 p4 = o, fun S' h => ⟨rfl, by rw [h]⟩, rfl⟩
  show z_G X zm_T_wake (0, [(0, z_r 0), (1, .inl p1), (2, .inl p2), (3, .inl p3), (4, .inl p4)], [], zW T' G' S n, 0, 0)
  unfold F_T_wake at K
  unfold Sf_T_wake at hs
  refine z_go2 M.1 0 [(.aload_n 0, 1), (.getfield 12, 3), (.getfield 316, 3), (.iload_n 1, 1)] (8, [(0, z_r 0), (1, .inl p1), (2, .inl p2), (3, .inl p3), (4, .inl p4)], [.inl p1, z_r 4], zW T' G' S n, 0, 0) (by decide +kernel) rfl ⟨trivial, rfl, rfl, trivial, trivial⟩ ?_
  refine z_callS M.1 (av := [z_r 4, .inl p1]) (st := []) (by decide +kernel) (c_at (zW T' G' S n) 4 900 rfl (by decide) p1) M.2.1 zl_T_134 zs_T_at ⟨by decide, by decide, by decide, by decide⟩ rfl (Nat.le_of_ble_eq_true rfl) (fun v w' hv => ?_)
  obtain ⟨rfl, rfl⟩ := hv
  show z_G X zm_T_wake (11, [(0, z_r 0), (1, .inl p1), (2, .inl p2), (3, .inl p3), (4, .inl p4)], [.inl (zAt (S 4) 900 p1)], zW T' G' S n, 0, 0)
  refine z_go2 M.1 11 [(.istore 5, 2), (.iconst 0, 1), (.istore 6, 2)] (16, [(6, .inl 0), (5, .inl (zAt (S 4) 900 p1)), (0, z_r 0), (1, .inl p1), (2, .inl p2), (3, .inl p3), (4, .inl p4)], [], zW T' G' S n, 0, 0) (by decide +kernel) rfl ⟨trivial, trivial, trivial, trivial⟩ ?_
  refine z_lvs (lv' := [(0, z_r 0), (1, .inl p1), (2, .inl p2), (3, .inl p3), (4, .inl p4), (5, .inl (zAt (S 4) 900 p1)), (6, .inl 0)]) [2, 3, 4, 5, 6, 1, 0] rfl ?_
  refine t_T_wake_L16 M (Q := fun o => F_T_wake_L16 p1 p2 p3 p4 (zAt (S 4) 900 p1) 1300 S 0 = o) p1 p2 p3 p4 (zAt (S 4) 900 p1) (fun S16 hL16 => ?_) 1300 S 0 rfl hs.1
  replace hs := hs.2
  rw [hL16] at K
  try dsimp only at K
  exact z_vret M (by decide +kernel) rfl (by decide) (by decide) (hQ _ K)

-- TrackHouse.isWithinLimit
abbrev rm_T_isWithinLimit : Room := zr 4
def F_T_isWithinLimit_j18 (S : (Nat → Nat → Int32)) (x1 : Int32) (s0 : Int32) : (Int32 × (Nat → Nat → Int32)) := (if s0 = 0 then (z_let (F_T_takeBack S x1) (fun S25 => (s0, S25))) else (s0, S))
def Sf_T_isWithinLimit_j18 (S : (Nat → Nat → Int32)) (x1 : Int32) (s0 : Int32) : Prop := (if s0 = 0 then (Sf_T_takeBack S x1 ∧ (z_let (F_T_takeBack S x1) (fun S25 => (narrow .boolean (.int s0) = .int s0 ∧ True)))) else (narrow .boolean (.int s0) = .int s0 ∧ True))
theorem t_T_isWithinLimit_j18 {X : z_X} {Post : Option z_V → z_W → Prop} (M : z_M X zm_T_isWithinLimit rm_T_isWithinLimit Post) {T' : Nat → Nat × Nat} {G' : Nat → Nat → Option Nat} {n : Nat} {Q : (Int32 × (Nat → Nat → Int32)) → Prop} (S : (Nat → Nat → Int32)) (x1 : Int32) (s0 : Int32) (hQ : ∀ v S', Q (v, S') → Post (some (.inl v)) (zW T' G' S' n)) (K : Q (F_T_isWithinLimit_j18 S x1 s0)) (hs : Sf_T_isWithinLimit_j18 S x1 s0) : z_G X zm_T_isWithinLimit (18, [(0, z_r 0), (1, .inl x1)], [.inl s0], zW T' G' S n, 0, 0) := by
  unfold F_T_isWithinLimit_j18 at K
  unfold Sf_T_isWithinLimit_j18 at hs
  refine z_go2 M.1 18 [(.istore_n 2, 1), (.iload_n 2, 1)] (20, [(2, .inl s0), (0, z_r 0), (1, .inl x1)], [.inl s0], zW T' G' S n, 0, 0) (by decide +kernel) rfl ⟨trivial, trivial, trivial⟩ ?_
  refine z_if_ne 28 M.1 (off := 8) (by decide +kernel) (by decide) (fun c20 => ?_) (fun c20 => ?_)
  · rw [if_neg c20] at K hs
    refine z_go2 M.1 28 [(.iload_n 2, 1)] (29, [(2, .inl s0), (0, z_r 0), (1, .inl x1)], [.inl s0], zW T' G' S n, 0, 0) (by decide +kernel) rfl ⟨trivial, trivial⟩ ?_
    exact z_iret M (by decide +kernel) .boolean rfl hs.1 (by decide) (by decide) (hQ _ _ K)
  · rw [if_pos c20] at K hs
    refine z_go2 M.1 23 [(.aload_n 0, 1), (.iload_n 1, 1)] (25, [(2, .inl s0), (0, z_r 0), (1, .inl x1)], [.inl x1, z_r 0], zW T' G' S n, 0, 0) (by decide +kernel) rfl ⟨trivial, trivial, trivial⟩ ?_
    refine z_callV M.1 (av := [.inl x1]) (st := []) (a := 0) (ci := 11) (by decide +kernel) (c_T_takeBack T' G' S n x1 hs.1) M.2.1 zl_T_438 zv_T_takeBack rfl rfl rfl ⟨by decide, by decide, by decide, by decide⟩ rfl (Nat.le_of_ble_eq_true rfl) (fun v w' hv => ?_)
    replace hs := hs.2
    obtain ⟨S25, hF25⟩ : ∃ y, F_T_takeBack S x1 = y := ⟨_, rfl⟩
    rw [hF25] at K hv
    try rw [hF25] at hs
    try dsimp only [z_let] at K hs
    obtain ⟨rfl, rfl⟩ := hv
    show z_G X zm_T_isWithinLimit (28, [(2, .inl s0), (0, z_r 0), (1, .inl x1)], [], zW T' G' S25 n, 0, 0)
    refine z_go2 M.1 28 [(.iload_n 2, 1)] (29, [(2, .inl s0), (0, z_r 0), (1, .inl x1)], [.inl s0], zW T' G' S25 n, 0, 0) (by decide +kernel) rfl ⟨trivial, trivial⟩ ?_
    exact z_iret M (by decide +kernel) .boolean rfl hs.1 (by decide) (by decide) (hQ _ _ K)
def F_T_isWithinLimit (S : (Nat → Nat → Int32)) (p1 : Int32) : (Int32 × (Nat → Nat → Int32)) := (if (800 : Int32) < (S 1 7) then (F_T_isWithinLimit_j18 S p1 0) else (F_T_isWithinLimit_j18 S p1 1))
def Sf_T_isWithinLimit (S : (Nat → Nat → Int32)) (p1 : Int32) : Prop := (if (800 : Int32) < (S 1 7) then (Sf_T_isWithinLimit_j18 S p1 0) else (Sf_T_isWithinLimit_j18 S p1 1))
theorem c_T_isWithinLimit (T' : Nat → Nat × Nat) (G' : Nat → Nat → Option Nat) (S : (Nat → Nat → Int32)) (n : Nat) (p1 : Int32) (hs : Sf_T_isWithinLimit S p1) : z_Run rm_T_isWithinLimit zm_T_isWithinLimit [z_r 0, .inl p1] (zW T' G' S n) (zq (some (.inl (F_T_isWithinLimit S p1).1)) (zW T' G' (F_T_isWithinLimit S p1).2 n)) := by
  refine z_body (by decide) zf_T_ok (Nat.le_of_ble_eq_true rfl) (fun X M => ?_)
  obtain ⟨Q, hQ, K⟩ : ∃ Q : (Int32 × (Nat → Nat → Int32)) → Prop, (∀ v S', Q (v, S') → zq (some (.inl (F_T_isWithinLimit S p1).1)) (zW T' G' (F_T_isWithinLimit S p1).2 n) (some (.inl v)) (zW T' G' S' n)) ∧ Q (F_T_isWithinLimit S p1) := ⟨fun o => F_T_isWithinLimit S p1 = o, fun v S' h => ⟨by rw [h], by rw [h]⟩, rfl⟩
  show z_G X zm_T_isWithinLimit (0, [(0, z_r 0), (1, .inl p1)], [], zW T' G' S n, 0, 0)
  unfold F_T_isWithinLimit at K
  unfold Sf_T_isWithinLimit at hs
  refine z_go2 M.1 0 [(.aload_n 0, 1), (.getfield 12, 3), (.getfield 118, 3), (.sipush 800, 3)] (10, [(0, z_r 0), (1, .inl p1)], [.inl 800, .inl (S 1 7)], zW T' G' S n, 0, 0) (by decide +kernel) rfl ⟨trivial, rfl, rfl, trivial, trivial⟩ ?_
  refine z_icmp_gt 17 M.1 (off := 7) (by decide +kernel) (by decide) (fun c10 => ?_) (fun c10 => ?_)
  · rw [if_pos c10] at K hs
    refine z_go2 M.1 17 [(.iconst 0, 1)] (18, [(0, z_r 0), (1, .inl p1)], [.inl 0], zW T' G' S n, 0, 0) (by decide +kernel) rfl ⟨trivial, trivial⟩ ?_
    exact z_lvs (lv' := [(0, z_r 0), (1, .inl p1)]) [0, 1] rfl (t_T_isWithinLimit_j18 M S p1 0 hQ K hs)
  · rw [if_neg c10] at K hs
    refine z_go2 M.1 13 [(.iconst 1, 1), (.goto 4, 3)] (18, [(0, z_r 0), (1, .inl p1)], [.inl 1], zW T' G' S n, 0, 0) (by decide +kernel) rfl ⟨trivial, trivial, trivial⟩ ?_
    exact z_lvs (lv' := [(0, z_r 0), (1, .inl p1)]) [0, 1] rfl (t_T_isWithinLimit_j18 M S p1 1 hQ K hs)

-- TrackHouse.goesThrough
abbrev rm_T_goesThrough : Room := zr 4
def F_T_goesThrough_L15 (x2 : Int32) (x3 : Int32) (x4 : Int32) : Nat → (Nat → Nat → Int32) → Int32 → ((Nat → Nat → Int32))
  | 0, S, x5 => S
  | f + 1, S, x5 => (if (S 1 7) ≤ x5 then S else (if x4 < (S 1 7) then S else (z_let (F_T_wake S x5 x2 x3 x4) (fun S46 => ((F_T_goesThrough_L15 x2 x3 x4 f) S46 (x5 + 1))))))
def Sf_T_goesThrough_L15 (x2 : Int32) (x3 : Int32) (x4 : Int32) : Nat → (Nat → Nat → Int32) → Int32 → Prop
  | 0, _, _ => False
  | f + 1, S, x5 => (if (S 1 7) ≤ x5 then True else (if x4 < (S 1 7) then True else (Sf_T_wake S x5 x2 x3 x4 ∧ (z_let (F_T_wake S x5 x2 x3 x4) (fun S46 => ((Sf_T_goesThrough_L15 x2 x3 x4 f) S46 (x5 + 1)))))))
theorem t_T_goesThrough_L15 {X : z_X} {Post : Option z_V → z_W → Prop} (M : z_M X zm_T_goesThrough rm_T_goesThrough Post) {T' : Nat → Nat × Nat} {G' : Nat → Nat → Option Nat} {n : Nat} {Q : ((Nat → Nat → Int32)) → Prop}  (x2 : Int32) (x3 : Int32) (x4 : Int32) (hE : ∀ (S' : (Nat → Nat → Int32)), Q S' → z_G X zm_T_goesThrough (55, [(0, z_r 0), (4, .inl x4)], [], zW T' G' S' n, 0, 0)) (f : Nat) : ∀ (S : (Nat → Nat → Int32)) (x5 : Int32), Q (F_T_goesThrough_L15 x2 x3 x4 f S x5) → Sf_T_goesThrough_L15 x2 x3 x4 f S x5 → z_G X zm_T_goesThrough (15, [(0, z_r 0), (2, .inl x2), (3, .inl x3), (4, .inl x4), (5, .inl x5)], [], zW T' G' S n, 0, 0) := by
  induction f with
  | zero => intro S x5 K hs; exact False.elim hs
  | succ f hC =>
    intro S x5 K hs
    rw [F_T_goesThrough_L15] at K
    rw [Sf_T_goesThrough_L15] at hs
    refine z_go2 M.1 15 [(.iload 5, 2), (.aload_n 0, 1), (.getfield 12, 3), (.getfield 118, 3)] (24, [(0, z_r 0), (2, .inl x2), (3, .inl x3), (4, .inl x4), (5, .inl x5)], [.inl (S 1 7), .inl x5], zW T' G' S n, 0, 0) (by decide +kernel) rfl ⟨trivial, trivial, rfl, rfl, trivial⟩ ?_
    refine z_icmp_ge 55 M.1 (off := 31) (by decide +kernel) (by decide) (fun c24 => ?_) (fun c24 => ?_)
    · rw [if_pos c24] at K hs
      exact z_lvs (lv' := [(0, z_r 0), (4, .inl x4)]) [0, 3] rfl (hE S K)
    · rw [if_neg c24] at K hs
      refine z_go2 M.1 27 [(.aload_n 0, 1), (.getfield 12, 3), (.getfield 118, 3), (.iload 4, 2)] (36, [(0, z_r 0), (2, .inl x2), (3, .inl x3), (4, .inl x4), (5, .inl x5)], [.inl x4, .inl (S 1 7)], zW T' G' S n, 0, 0) (by decide +kernel) rfl ⟨trivial, rfl, rfl, trivial, trivial⟩ ?_
      refine z_icmp_gt 55 M.1 (off := 19) (by decide +kernel) (by decide) (fun c36 => ?_) (fun c36 => ?_)
      · rw [if_pos c36] at K hs
        exact z_lvs (lv' := [(0, z_r 0), (4, .inl x4)]) [0, 3] rfl (hE S K)
      · rw [if_neg c36] at K hs
        refine z_go2 M.1 39 [(.aload_n 0, 1), (.iload 5, 2), (.iload_n 2, 1), (.iload_n 3, 1), (.iload 4, 2)] (46, [(0, z_r 0), (2, .inl x2), (3, .inl x3), (4, .inl x4), (5, .inl x5)], [.inl x4, .inl x3, .inl x2, .inl x5, z_r 0], zW T' G' S n, 0, 0) (by decide +kernel) rfl ⟨trivial, trivial, trivial, trivial, trivial, trivial⟩ ?_
        refine z_callV M.1 (av := [.inl x5, .inl x2, .inl x3, .inl x4]) (st := []) (a := 0) (ci := 11) (by decide +kernel) (c_T_wake T' G' S n x5 x2 x3 x4 hs.1) M.2.1 zl_T_453 zv_T_wake rfl rfl rfl ⟨by decide, by decide, by decide, by decide⟩ rfl (Nat.le_of_ble_eq_true rfl) (fun v w' hv => ?_)
        replace hs := hs.2
        obtain ⟨S46, hF46⟩ : ∃ y, F_T_wake S x5 x2 x3 x4 = y := ⟨_, rfl⟩
        rw [hF46] at K hv
        try rw [hF46] at hs
        try dsimp only [z_let] at K hs
        obtain ⟨rfl, rfl⟩ := hv
        show z_G X zm_T_goesThrough (49, [(0, z_r 0), (2, .inl x2), (3, .inl x3), (4, .inl x4), (5, .inl x5)], [], zW T' G' S46 n, 0, 0)
        refine z_go2 M.1 49 [(.iinc 5 1, 3), (.goto (-37), 3)] (15, [(5, .inl (x5 + 1)), (0, z_r 0), (2, .inl x2), (3, .inl x3), (4, .inl x4)], [], zW T' G' S46 n, 0, 0) (by decide +kernel) rfl ⟨trivial, trivial, trivial⟩ ?_
        exact z_lvs (lv' := [(0, z_r 0), (2, .inl x2), (3, .inl x3), (4, .inl x4), (5, .inl (x5 + 1))]) [1, 2, 3, 4, 0] rfl (hC S46 (x5 + 1) K hs)
def F_T_goesThrough (S : (Nat → Nat → Int32)) (p1 : Int32) (p2 : Int32) (p3 : Int32) : (Int32 × (Nat → Nat → Int32)) := (match F_T_goesThrough_L15 p2 p3 ((S 1 7) + 20) 1300 S p1 with | S15 => (if ((S 1 7) + 20) < (S15 1 7) then (0, S15) else (1, S15)))
def Sf_T_goesThrough (S : (Nat → Nat → Int32)) (p1 : Int32) (p2 : Int32) (p3 : Int32) : Prop := (Sf_T_goesThrough_L15 p2 p3 ((S 1 7) + 20) 1300 S p1 ∧ True)
theorem c_T_goesThrough (T' : Nat → Nat × Nat) (G' : Nat → Nat → Option Nat) (S : (Nat → Nat → Int32)) (n : Nat) (p1 : Int32) (p2 : Int32) (p3 : Int32) (hs : Sf_T_goesThrough S p1 p2 p3) : z_Run rm_T_goesThrough zm_T_goesThrough [z_r 0, .inl p1, .inl p2, .inl p3] (zW T' G' S n) (zq (some (.inl (F_T_goesThrough S p1 p2 p3).1)) (zW T' G' (F_T_goesThrough S p1 p2 p3).2 n)) := by
  refine z_body (by decide) zf_T_ok (Nat.le_of_ble_eq_true rfl) (fun X M => ?_)
  obtain ⟨Q, hQ, K⟩ : ∃ Q : (Int32 × (Nat → Nat → Int32)) → Prop, (∀ v S', Q (v, S') → zq (some (.inl (F_T_goesThrough S p1 p2 p3).1)) (zW T' G' (F_T_goesThrough S p1 p2 p3).2 n) (some (.inl v)) (zW T' G' S' n)) ∧ Q (F_T_goesThrough S p1 p2 p3) := ⟨fun o => F_T_goesThrough S p1 p2 p3 = o, fun v S' h => ⟨by rw [h], by rw [h]⟩, rfl⟩
  show z_G X zm_T_goesThrough (0, [(0, z_r 0), (1, .inl p1), (2, .inl p2), (3, .inl p3)], [], zW T' G' S n, 0, 0)
  unfold F_T_goesThrough at K
  unfold Sf_T_goesThrough at hs
  refine z_go2 M.1 0 [(.aload_n 0, 1), (.getfield 12, 3), (.getfield 118, 3), (.bipush 20, 2), (.iadd, 1), (.istore 4, 2), (.iload_n 1, 1), (.istore 5, 2)] (15, [(5, .inl p1), (4, .inl ((S 1 7) + 20)), (0, z_r 0), (1, .inl p1), (2, .inl p2), (3, .inl p3)], [], zW T' G' S n, 0, 0) (by decide +kernel) rfl ⟨trivial, rfl, rfl, trivial, trivial, trivial, trivial, trivial, trivial⟩ ?_
  refine z_lvs (lv' := [(0, z_r 0), (2, .inl p2), (3, .inl p3), (4, .inl ((S 1 7) + 20)), (5, .inl p1)]) [2, 4, 5, 1, 0] rfl ?_
  refine t_T_goesThrough_L15 M (Q := fun o => F_T_goesThrough_L15 p2 p3 ((S 1 7) + 20) 1300 S p1 = o) p2 p3 ((S 1 7) + 20) (fun S15 hL15 => ?_) 1300 S p1 rfl hs.1
  replace hs := hs.2
  rw [hL15] at K
  try dsimp only at K
  refine z_go2 M.1 55 [(.aload_n 0, 1), (.getfield 12, 3), (.getfield 118, 3), (.iload 4, 2)] (64, [(0, z_r 0), (4, .inl ((S 1 7) + 20))], [.inl ((S 1 7) + 20), .inl (S15 1 7)], zW T' G' S15 n, 0, 0) (by decide +kernel) rfl ⟨trivial, rfl, rfl, trivial, trivial⟩ ?_
  refine z_icmp_gt 71 M.1 (off := 7) (by decide +kernel) (by decide) (fun c64 => ?_) (fun c64 => ?_)
  · rw [if_pos c64] at K
    refine z_go2 M.1 71 [(.iconst 0, 1)] (72, [(0, z_r 0), (4, .inl ((S 1 7) + 20))], [.inl 0], zW T' G' S15 n, 0, 0) (by decide +kernel) rfl ⟨trivial, trivial⟩ ?_
    exact z_iret M (by decide +kernel) .boolean rfl rfl (by decide) (by decide) (hQ _ _ K)
  · rw [if_neg c64] at K
    refine z_go2 M.1 67 [(.iconst 1, 1), (.goto 4, 3)] (72, [(0, z_r 0), (4, .inl ((S 1 7) + 20))], [.inl 1], zW T' G' S15 n, 0, 0) (by decide +kernel) rfl ⟨trivial, trivial, trivial⟩ ?_
    exact z_iret M (by decide +kernel) .boolean rfl rfl (by decide) (by decide) (hQ _ _ K)

-- TrackHouse.isSettled
abbrev rm_T_isSettled : Room := zr 5
def F_T_isSettled_j80 (S : (Nat → Nat → Int32)) (x1 : Int32) (s0 : Int32) : (Int32 × (Nat → Nat → Int32)) := (if s0 = 0 then (z_let (F_T_takeBack S x1) (fun S89 => (s0, S89))) else (s0, S))
def Sf_T_isSettled_j80 (S : (Nat → Nat → Int32)) (x1 : Int32) (s0 : Int32) : Prop := (if s0 = 0 then (Sf_T_takeBack S x1 ∧ (z_let (F_T_takeBack S x1) (fun S89 => (narrow .boolean (.int s0) = .int s0 ∧ True)))) else (narrow .boolean (.int s0) = .int s0 ∧ True))
theorem t_T_isSettled_j80 {X : z_X} {Post : Option z_V → z_W → Prop} (M : z_M X zm_T_isSettled rm_T_isSettled Post) {T' : Nat → Nat × Nat} {G' : Nat → Nat → Option Nat} {n : Nat} {Q : (Int32 × (Nat → Nat → Int32)) → Prop} (S : (Nat → Nat → Int32)) (x1 : Int32) (s0 : Int32) (hQ : ∀ v S', Q (v, S') → Post (some (.inl v)) (zW T' G' S' n)) (K : Q (F_T_isSettled_j80 S x1 s0)) (hs : Sf_T_isSettled_j80 S x1 s0) : z_G X zm_T_isSettled (80, [(0, z_r 0), (1, .inl x1)], [.inl s0], zW T' G' S n, 0, 0) := by
  unfold F_T_isSettled_j80 at K
  unfold Sf_T_isSettled_j80 at hs
  refine z_go2 M.1 80 [(.istore 4, 2), (.iload 4, 2)] (84, [(4, .inl s0), (0, z_r 0), (1, .inl x1)], [.inl s0], zW T' G' S n, 0, 0) (by decide +kernel) rfl ⟨trivial, trivial, trivial⟩ ?_
  refine z_if_ne 92 M.1 (off := 8) (by decide +kernel) (by decide) (fun c84 => ?_) (fun c84 => ?_)
  · rw [if_neg c84] at K hs
    refine z_go2 M.1 92 [(.iload 4, 2)] (94, [(4, .inl s0), (0, z_r 0), (1, .inl x1)], [.inl s0], zW T' G' S n, 0, 0) (by decide +kernel) rfl ⟨trivial, trivial⟩ ?_
    exact z_iret M (by decide +kernel) .boolean rfl hs.1 (by decide) (by decide) (hQ _ _ K)
  · rw [if_pos c84] at K hs
    refine z_go2 M.1 87 [(.aload_n 0, 1), (.iload_n 1, 1)] (89, [(4, .inl s0), (0, z_r 0), (1, .inl x1)], [.inl x1, z_r 0], zW T' G' S n, 0, 0) (by decide +kernel) rfl ⟨trivial, trivial, trivial⟩ ?_
    refine z_callV M.1 (av := [.inl x1]) (st := []) (a := 0) (ci := 11) (by decide +kernel) (c_T_takeBack T' G' S n x1 hs.1) M.2.1 zl_T_438 zv_T_takeBack rfl rfl rfl ⟨by decide, by decide, by decide, by decide⟩ rfl (Nat.le_of_ble_eq_true rfl) (fun v w' hv => ?_)
    replace hs := hs.2
    obtain ⟨S89, hF89⟩ : ∃ y, F_T_takeBack S x1 = y := ⟨_, rfl⟩
    rw [hF89] at K hv
    try rw [hF89] at hs
    try dsimp only [z_let] at K hs
    obtain ⟨rfl, rfl⟩ := hv
    show z_G X zm_T_isSettled (92, [(4, .inl s0), (0, z_r 0), (1, .inl x1)], [], zW T' G' S89 n, 0, 0)
    refine z_go2 M.1 92 [(.iload 4, 2)] (94, [(4, .inl s0), (0, z_r 0), (1, .inl x1)], [.inl s0], zW T' G' S89 n, 0, 0) (by decide +kernel) rfl ⟨trivial, trivial⟩ ?_
    exact z_iret M (by decide +kernel) .boolean rfl hs.1 (by decide) (by decide) (hQ _ _ K)
def F_T_isSettled_j79 (S : (Nat → Nat → Int32)) (x1 : Int32) : (Int32 × (Nat → Nat → Int32)) := (F_T_isSettled_j80 S x1 0)
def Sf_T_isSettled_j79 (S : (Nat → Nat → Int32)) (x1 : Int32) : Prop := (Sf_T_isSettled_j80 S x1 0)
theorem t_T_isSettled_j79 {X : z_X} {Post : Option z_V → z_W → Prop} (M : z_M X zm_T_isSettled rm_T_isSettled Post) {T' : Nat → Nat × Nat} {G' : Nat → Nat → Option Nat} {n : Nat} {Q : (Int32 × (Nat → Nat → Int32)) → Prop} (S : (Nat → Nat → Int32)) (x1 : Int32) (hQ : ∀ v S', Q (v, S') → Post (some (.inl v)) (zW T' G' S' n)) (K : Q (F_T_isSettled_j79 S x1)) (hs : Sf_T_isSettled_j79 S x1) : z_G X zm_T_isSettled (79, [(0, z_r 0), (1, .inl x1)], [], zW T' G' S n, 0, 0) := by
  unfold F_T_isSettled_j79 at K
  unfold Sf_T_isSettled_j79 at hs
  refine z_go2 M.1 79 [(.iconst 0, 1)] (80, [(0, z_r 0), (1, .inl x1)], [.inl 0], zW T' G' S n, 0, 0) (by decide +kernel) rfl ⟨trivial, trivial⟩ ?_
  exact z_lvs (lv' := [(0, z_r 0), (1, .inl x1)]) [0, 1] rfl (t_T_isSettled_j80 M S x1 0 hQ K hs)
def F_T_isSettled (S : (Nat → Nat → Int32)) (p1 : Int32) (p2 : Int32) : (Int32 × (Nat → Nat → Int32)) := (match F_T_goesThrough S p1 p2 1 with | (r12, S12) => (z_let (F_World_copyFrom 13 9 S12) (fun S25 => (z_let (F_T_takeBack S25 (S 1 7)) (fun S30 => (if r12 = 0 then (F_T_isSettled_j79 S30 p1) else (match F_T_goesThrough S30 p1 p2 0 with | (r42, S42) => (if r42 = 0 then (F_T_isSettled_j79 S42 p1) else (if (F_World_isLike S42) = 0 then (F_T_isSettled_j79 S42 p1) else (if (800 : Int32) < (S42 1 7) then (F_T_isSettled_j79 S42 p1) else (F_T_isSettled_j80 S42 p1 1)))))))))))
def Sf_T_isSettled (S : (Nat → Nat → Int32)) (p1 : Int32) (p2 : Int32) : Prop := (Sf_T_goesThrough S p1 p2 1 ∧ (match F_T_goesThrough S p1 p2 1 with | (r12, S12) => (z_let (F_World_copyFrom 13 9 S12) (fun S25 => (Sf_T_takeBack S25 (S 1 7) ∧ (z_let (F_T_takeBack S25 (S 1 7)) (fun S30 => (if r12 = 0 then (Sf_T_isSettled_j79 S30 p1) else (Sf_T_goesThrough S30 p1 p2 0 ∧ (match F_T_goesThrough S30 p1 p2 0 with | (r42, S42) => (if r42 = 0 then (Sf_T_isSettled_j79 S42 p1) else (Sf_World_isLike S42 ∧ (if (F_World_isLike S42) = 0 then (Sf_T_isSettled_j79 S42 p1) else (if (800 : Int32) < (S42 1 7) then (Sf_T_isSettled_j79 S42 p1) else (Sf_T_isSettled_j80 S42 p1 1)))))))))))))))
theorem c_T_isSettled (T' : Nat → Nat × Nat) (G' : Nat → Nat → Option Nat) (S : (Nat → Nat → Int32)) (n : Nat) (p1 : Int32) (p2 : Int32) (hs : Sf_T_isSettled S p1 p2) : z_Run rm_T_isSettled zm_T_isSettled [z_r 0, .inl p1, .inl p2] (zW T' G' S n) (zq (some (.inl (F_T_isSettled S p1 p2).1)) (zW T' G' (F_T_isSettled S p1 p2).2 n)) := by
  refine z_body (by decide) zf_T_ok (Nat.le_of_ble_eq_true rfl) (fun X M => ?_)
  obtain ⟨Q, hQ, K⟩ : ∃ Q : (Int32 × (Nat → Nat → Int32)) → Prop, (∀ v S', Q (v, S') → zq (some (.inl (F_T_isSettled S p1 p2).1)) (zW T' G' (F_T_isSettled S p1 p2).2 n) (some (.inl v)) (zW T' G' S' n)) ∧ Q (F_T_isSettled S p1 p2) := ⟨fun o => F_T_isSettled S p1 p2 = o, fun v S' h => ⟨by rw [h], by rw [h]⟩, rfl⟩
  show z_G X zm_T_isSettled (0, [(0, z_r 0), (1, .inl p1), (2, .inl p2)], [], zW T' G' S n, 0, 0)
  unfold F_T_isSettled at K
  unfold Sf_T_isSettled at hs
  refine z_go2 M.1 0 [(.aload_n 0, 1), (.getfield 12, 3), (.getfield 118, 3), (.istore_n 3, 1), (.aload_n 0, 1), (.iload_n 1, 1), (.iload_n 2, 1), (.iconst 1, 1)] (12, [(3, .inl (S 1 7)), (0, z_r 0), (1, .inl p1), (2, .inl p2)], [.inl 1, .inl p2, .inl p1, z_r 0], zW T' G' S n, 0, 0) (by decide +kernel) rfl ⟨trivial, rfl, rfl, trivial, trivial, trivial, trivial, trivial, trivial⟩ ?_
  refine z_callV M.1 (av := [.inl p1, .inl p2, .inl 1]) (st := []) (a := 0) (ci := 11) (by decide +kernel) (c_T_goesThrough T' G' S n p1 p2 1 hs.1) M.2.1 zl_T_441 zv_T_goesThrough rfl rfl rfl ⟨by decide, by decide, by decide, by decide⟩ rfl (Nat.le_of_ble_eq_true rfl) (fun v w' hv => ?_)
  replace hs := hs.2
  rcases hF12 : F_T_goesThrough S p1 p2 1 with ⟨r12, S12⟩
  rw [hF12] at K hv
  try rw [hF12] at hs
  try dsimp only at K hs
  obtain ⟨rfl, rfl⟩ := hv
  show z_G X zm_T_isSettled (15, [(3, .inl (S 1 7)), (0, z_r 0), (1, .inl p1), (2, .inl p2)], [.inl r12], zW T' G' S12 n, 0, 0)
  refine z_go2 M.1 15 [(.istore 4, 2), (.aload_n 0, 1), (.getfield 23, 3), (.aload_n 0, 1), (.getfield 19, 3)] (25, [(4, .inl r12), (3, .inl (S 1 7)), (0, z_r 0), (1, .inl p1), (2, .inl p2)], [z_r 9, z_r 13], zW T' G' S12 n, 0, 0) (by decide +kernel) rfl ⟨trivial, trivial, rfl, trivial, rfl, trivial⟩ ?_
  refine z_callV M.1 (av := [z_r 9]) (st := []) (a := 13) (ci := 10) (by decide +kernel) (c_World_copyFrom_13_9 T' G' S12 n) M.2.1 zl_T_445 zv_World_copyFrom rfl rfl rfl ⟨by decide, by decide, by decide, by decide⟩ rfl (Nat.le_of_ble_eq_true rfl) (fun v w' hv => ?_)
  obtain ⟨S25, hF25⟩ : ∃ y, F_World_copyFrom 13 9 S12 = y := ⟨_, rfl⟩
  rw [hF25] at K hv
  try rw [hF25] at hs
  try dsimp only [z_let] at K hs
  obtain ⟨rfl, rfl⟩ := hv
  show z_G X zm_T_isSettled (28, [(4, .inl r12), (3, .inl (S 1 7)), (0, z_r 0), (1, .inl p1), (2, .inl p2)], [], zW T' G' S25 n, 0, 0)
  refine z_go2 M.1 28 [(.aload_n 0, 1), (.iload_n 3, 1)] (30, [(4, .inl r12), (3, .inl (S 1 7)), (0, z_r 0), (1, .inl p1), (2, .inl p2)], [.inl (S 1 7), z_r 0], zW T' G' S25 n, 0, 0) (by decide +kernel) rfl ⟨trivial, trivial, trivial⟩ ?_
  refine z_callV M.1 (av := [.inl (S 1 7)]) (st := []) (a := 0) (ci := 11) (by decide +kernel) (c_T_takeBack T' G' S25 n (S 1 7) hs.1) M.2.1 zl_T_438 zv_T_takeBack rfl rfl rfl ⟨by decide, by decide, by decide, by decide⟩ rfl (Nat.le_of_ble_eq_true rfl) (fun v w' hv => ?_)
  replace hs := hs.2
  obtain ⟨S30, hF30⟩ : ∃ y, F_T_takeBack S25 (S 1 7) = y := ⟨_, rfl⟩
  rw [hF30] at K hv
  try rw [hF30] at hs
  try dsimp only [z_let] at K hs
  obtain ⟨rfl, rfl⟩ := hv
  show z_G X zm_T_isSettled (33, [(4, .inl r12), (3, .inl (S 1 7)), (0, z_r 0), (1, .inl p1), (2, .inl p2)], [], zW T' G' S30 n, 0, 0)
  refine z_go2 M.1 33 [(.iload 4, 2)] (35, [(4, .inl r12), (3, .inl (S 1 7)), (0, z_r 0), (1, .inl p1), (2, .inl p2)], [.inl r12], zW T' G' S30 n, 0, 0) (by decide +kernel) rfl ⟨trivial, trivial⟩ ?_
  refine z_if_eq 79 M.1 (off := 44) (by decide +kernel) (by decide) (fun c35 => ?_) (fun c35 => ?_)
  · rw [if_pos c35] at K hs
    exact z_lvs (lv' := [(0, z_r 0), (1, .inl p1)]) [2, 3] rfl (t_T_isSettled_j79 M S30 p1 hQ K hs)
  · rw [if_neg c35] at K hs
    refine z_go2 M.1 38 [(.aload_n 0, 1), (.iload_n 1, 1), (.iload_n 2, 1), (.iconst 0, 1)] (42, [(4, .inl r12), (3, .inl (S 1 7)), (0, z_r 0), (1, .inl p1), (2, .inl p2)], [.inl 0, .inl p2, .inl p1, z_r 0], zW T' G' S30 n, 0, 0) (by decide +kernel) rfl ⟨trivial, trivial, trivial, trivial, trivial⟩ ?_
    refine z_callV M.1 (av := [.inl p1, .inl p2, .inl 0]) (st := []) (a := 0) (ci := 11) (by decide +kernel) (c_T_goesThrough T' G' S30 n p1 p2 0 hs.1) M.2.1 zl_T_441 zv_T_goesThrough rfl rfl rfl ⟨by decide, by decide, by decide, by decide⟩ rfl (Nat.le_of_ble_eq_true rfl) (fun v w' hv => ?_)
    replace hs := hs.2
    rcases hF42 : F_T_goesThrough S30 p1 p2 0 with ⟨r42, S42⟩
    rw [hF42] at K hv
    try rw [hF42] at hs
    try dsimp only at K hs
    obtain ⟨rfl, rfl⟩ := hv
    show z_G X zm_T_isSettled (45, [(4, .inl r12), (3, .inl (S 1 7)), (0, z_r 0), (1, .inl p1), (2, .inl p2)], [.inl r42], zW T' G' S42 n, 0, 0)
    refine z_if_eq 79 M.1 (off := 34) (by decide +kernel) (by decide) (fun c45 => ?_) (fun c45 => ?_)
    · rw [if_pos c45] at K hs
      exact z_lvs (lv' := [(0, z_r 0), (1, .inl p1)]) [2, 3] rfl (t_T_isSettled_j79 M S42 p1 hQ K hs)
    · rw [if_neg c45] at K hs
      refine z_go2 M.1 48 [(.aload_n 0, 1), (.getfield 19, 3), (.aload_n 0, 1), (.getfield 23, 3)] (56, [(4, .inl r12), (3, .inl (S 1 7)), (0, z_r 0), (1, .inl p1), (2, .inl p2)], [z_r 13, z_r 9], zW T' G' S42 n, 0, 0) (by decide +kernel) rfl ⟨trivial, rfl, trivial, rfl, trivial⟩ ?_
      refine z_callV M.1 (av := [z_r 13]) (st := []) (a := 9) (ci := 10) (by decide +kernel) (c_World_isLike T' G' S42 n hs.1) M.2.1 zl_T_449 zv_World_isLike rfl rfl rfl ⟨by decide, by decide, by decide, by decide⟩ rfl (Nat.le_of_ble_eq_true rfl) (fun v w' hv => ?_)
      obtain ⟨rfl, rfl⟩ := hv
      replace hs := hs.2
      show z_G X zm_T_isSettled (59, [(4, .inl r12), (3, .inl (S 1 7)), (0, z_r 0), (1, .inl p1), (2, .inl p2)], [.inl (F_World_isLike S42)], zW T' G' S42 n, 0, 0)
      refine z_if_eq 79 M.1 (off := 20) (by decide +kernel) (by decide) (fun c59 => ?_) (fun c59 => ?_)
      · rw [if_pos c59] at K hs
        exact z_lvs (lv' := [(0, z_r 0), (1, .inl p1)]) [2, 3] rfl (t_T_isSettled_j79 M S42 p1 hQ K hs)
      · rw [if_neg c59] at K hs
        refine z_go2 M.1 62 [(.aload_n 0, 1), (.getfield 12, 3), (.getfield 118, 3), (.sipush 800, 3)] (72, [(4, .inl r12), (3, .inl (S 1 7)), (0, z_r 0), (1, .inl p1), (2, .inl p2)], [.inl 800, .inl (S42 1 7)], zW T' G' S42 n, 0, 0) (by decide +kernel) rfl ⟨trivial, rfl, rfl, trivial, trivial⟩ ?_
        refine z_icmp_gt 79 M.1 (off := 7) (by decide +kernel) (by decide) (fun c72 => ?_) (fun c72 => ?_)
        · rw [if_pos c72] at K hs
          exact z_lvs (lv' := [(0, z_r 0), (1, .inl p1)]) [2, 3] rfl (t_T_isSettled_j79 M S42 p1 hQ K hs)
        · rw [if_neg c72] at K hs
          refine z_go2 M.1 75 [(.iconst 1, 1), (.goto 4, 3)] (80, [(4, .inl r12), (3, .inl (S 1 7)), (0, z_r 0), (1, .inl p1), (2, .inl p2)], [.inl 1], zW T' G' S42 n, 0, 0) (by decide +kernel) rfl ⟨trivial, trivial, trivial⟩ ?_
          exact z_lvs (lv' := [(0, z_r 0), (1, .inl p1)]) [2, 3] rfl (t_T_isSettled_j80 M S42 p1 1 hQ K hs)

-- TrackHouse.isSeen
abbrev rm_T_isSeen : Room := zr 4
def F_T_isSeen (S : (Nat → Nat → Int32)) (p1 : Int32) (p2 : Int32) : (Int32 × (Nat → Nat → Int32)) := (z_let (F_Sight_look 9 S p1) (fun S9 => ((F_Sight_sees S9 p2), S9)))
def Sf_T_isSeen (S : (Nat → Nat → Int32)) (p1 : Int32) (p2 : Int32) : Prop := (Sf_Sight_look 9 S p1 ∧ (z_let (F_Sight_look 9 S p1) (fun S9 => (Sf_Sight_sees S9 p2 ∧ (narrow .boolean (.int (F_Sight_sees S9 p2)) = .int (F_Sight_sees S9 p2) ∧ True)))))
theorem c_T_isSeen (T' : Nat → Nat × Nat) (G' : Nat → Nat → Option Nat) (q0 : Nat) (S : (Nat → Nat → Int32)) (n : Nat) (p1 : Int32) (p2 : Int32) (hs : Sf_T_isSeen S p1 p2) : z_Run rm_T_isSeen zm_T_isSeen [z_r 0, .inl p1, .inl p2] (zW T' (zwG G' q0) S n) (zq (some (.inl (F_T_isSeen S p1 p2).1)) (zW T' (zwG G' 9) (F_T_isSeen S p1 p2).2 n)) := by
  refine z_body (by decide) zf_T_ok (Nat.le_of_ble_eq_true rfl) (fun X M => ?_)
  obtain ⟨Q, hQ, K⟩ : ∃ Q : (Int32 × (Nat → Nat → Int32)) → Prop, (∀ v S', Q (v, S') → zq (some (.inl (F_T_isSeen S p1 p2).1)) (zW T' (zwG G' 9) (F_T_isSeen S p1 p2).2 n) (some (.inl v)) (zW T' (zwG G' 9) S' n)) ∧ Q (F_T_isSeen S p1 p2) := ⟨fun o => F_T_isSeen S p1 p2 = o, fun v S' h => ⟨by rw [h], by rw [h]⟩, rfl⟩
  show z_G X zm_T_isSeen (0, [(0, z_r 0), (1, .inl p1), (2, .inl p2)], [], zW T' (zwG G' q0) S n, 0, 0)
  unfold F_T_isSeen at K
  unfold Sf_T_isSeen at hs
  refine z_go2 M.1 0 [(.aload_n 0, 1), (.getfield 47, 3), (.aload_n 0, 1), (.getfield 19, 3), (.iload_n 1, 1)] (9, [(0, z_r 0), (1, .inl p1), (2, .inl p2)], [.inl p1, z_r 9, z_r 36], zW T' (zwG G' q0) S n, 0, 0) (by decide +kernel) rfl ⟨trivial, rfl, trivial, rfl, trivial, trivial⟩ ?_
  refine z_callV M.1 (av := [z_r 9, .inl p1]) (st := []) (a := 36) (ci := 8) (by decide +kernel) (c_Sight_look_9 T' G' q0 S n p1 hs.1) M.2.1 zl_T_331 zv_Sight_look rfl rfl rfl ⟨by decide, by decide, by decide, by decide⟩ rfl (Nat.le_of_ble_eq_true rfl) (fun v w' hv => ?_)
  replace hs := hs.2
  obtain ⟨S9, hF9⟩ : ∃ y, F_Sight_look 9 S p1 = y := ⟨_, rfl⟩
  rw [hF9] at K hv
  try rw [hF9] at hs
  try dsimp only [z_let] at K hs
  obtain ⟨rfl, rfl⟩ := hv
  show z_G X zm_T_isSeen (12, [(0, z_r 0), (1, .inl p1), (2, .inl p2)], [], zW T' (zwG G' 9) S9 n, 0, 0)
  refine z_go2 M.1 12 [(.aload_n 0, 1), (.getfield 47, 3), (.iload_n 2, 1)] (17, [(0, z_r 0), (1, .inl p1), (2, .inl p2)], [.inl p2, z_r 36], zW T' (zwG G' 9) S9 n, 0, 0) (by decide +kernel) rfl ⟨trivial, rfl, trivial, trivial⟩ ?_
  refine z_callV M.1 (av := [.inl p2]) (st := []) (a := 36) (ci := 8) (by decide +kernel) (c_Sight_sees T' (zwG G' 9) S9 n p2 hs.1) M.2.1 zl_T_261 zv_Sight_sees rfl rfl rfl ⟨by decide, by decide, by decide, by decide⟩ rfl (Nat.le_of_ble_eq_true rfl) (fun v w' hv => ?_)
  obtain ⟨rfl, rfl⟩ := hv
  replace hs := hs.2
  show z_G X zm_T_isSeen (20, [(0, z_r 0), (1, .inl p1), (2, .inl p2)], [.inl (F_Sight_sees S9 p2)], zW T' (zwG G' 9) S9 n, 0, 0)
  exact z_iret M (by decide +kernel) .boolean rfl hs.1 (by decide) (by decide) (hQ _ _ K)


