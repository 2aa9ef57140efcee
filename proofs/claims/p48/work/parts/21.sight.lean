-- TrackHouse$Sight.tell
abbrev rm_Sight_tell : Room := zr 1
def F_Sight_tell (wd : Nat) (S : (Nat → Nat → Int32)) (p1 : Int32) (p2 : Int32) : (Nat → Nat → Int32) := (if (F_Kinds_has S (F_World_cell wd S p1 9) p2) = 0 then S else (if (F_World_cell wd S p1 ((1 : Int32) + p2)) = (-1) then S else (z_let (zPut S 42 3 p2 ((zAt (S 42) 3 p2) ||| (F_T_bit S p1))) (fun S54 => S54))))
def Sf_Sight_tell (wd : Nat) (S : (Nat → Nat → Int32)) (p1 : Int32) (p2 : Int32) : Prop := (Sf_World_cell wd S p1 9 ∧ (Sf_Kinds_has S (F_World_cell wd S p1 9) p2 ∧ (if (F_Kinds_has S (F_World_cell wd S p1 9) p2) = 0 then True else (Sf_World_cell wd S p1 ((1 : Int32) + p2) ∧ True))))
theorem c_Sight_tell_9 (T' : Nat → Nat × Nat) (G' : Nat → Nat → Option Nat) (S : (Nat → Nat → Int32)) (n : Nat) (p1 : Int32) (p2 : Int32) (hs : Sf_Sight_tell 9 S p1 p2) : z_Run rm_Sight_tell zm_Sight_tell [z_r 36, .inl p1, .inl p2] (zW T' (zwG G' 9) S n) (zq none (zW T' (zwG G' 9) (F_Sight_tell 9 S p1 p2) n)) := by
  refine z_body (by decide) zf_Sight_ok (Nat.le_of_ble_eq_true rfl) (fun X M => ?_)
  obtain ⟨Q, hQ, K⟩ : ∃ Q : (Nat → Nat → Int32) → Prop, (∀ S', Q S' → zq none (zW T' (zwG G' 9) (F_Sight_tell 9 S p1 p2) n) none (zW T' (zwG G' 9) S' n)) ∧ Q (F_Sight_tell 9 S p1 p2) := ⟨fun o => F_Sight_tell 9 S p1 p2 = o, fun S' h => ⟨rfl, by rw [h]⟩, rfl⟩
  show z_G X zm_Sight_tell (0, [(0, z_r 36), (1, .inl p1), (2, .inl p2)], [], zW T' (zwG G' 9) S n, 0, 0)
  unfold F_Sight_tell at K
  unfold Sf_Sight_tell at hs
  try simp only [Nat.reduceAdd] at K hs
  refine z_go2 M.1 0 [(.aload_n 0, 1), (.getfield 33, 3), (.aload_n 0, 1), (.getfield 40, 3), (.iload_n 1, 1), (.bipush 9, 2)] (11, [(0, z_r 36), (1, .inl p1), (2, .inl p2)], [.inl 9, .inl p1, z_r 9, z_r 43], zW T' (zwG G' 9) S n, 0, 0) (by decide +kernel) rfl ⟨trivial, rfl, trivial, rfl, trivial, trivial, trivial⟩ ?_
  refine z_callV M.1 (av := [.inl p1, .inl 9]) (st := [z_r 43]) (a := 9) (ci := 10) (by decide +kernel) (c_World_cell_9 T' (zwG G' 9) S n p1 9 hs.1) M.2.1 zl_Sight_61 zv_World_cell rfl rfl rfl ⟨by decide, by decide, by decide, by decide⟩ rfl (Nat.le_of_ble_eq_true rfl) (fun v w' hv => ?_)
  obtain ⟨rfl, rfl⟩ := hv
  replace hs := hs.2
  show z_G X zm_Sight_tell (14, [(0, z_r 36), (1, .inl p1), (2, .inl p2)], [.inl (F_World_cell 9 S p1 9), z_r 43], zW T' (zwG G' 9) S n, 0, 0)
  refine z_go2 M.1 14 [(.iload_n 2, 1)] (15, [(0, z_r 36), (1, .inl p1), (2, .inl p2)], [.inl p2, .inl (F_World_cell 9 S p1 9), z_r 43], zW T' (zwG G' 9) S n, 0, 0) (by decide +kernel) rfl ⟨trivial, trivial⟩ ?_
  refine z_callV M.1 (av := [.inl (F_World_cell 9 S p1 9), .inl p2]) (st := []) (a := 43) (ci := 3) (by decide +kernel) (c_Kinds_has T' (zwG G' 9) S n (F_World_cell 9 S p1 9) p2 hs.1) M.2.1 zl_Sight_87 zv_Kinds_has rfl rfl rfl ⟨by decide, by decide, by decide, by decide⟩ rfl (Nat.le_of_ble_eq_true rfl) (fun v w' hv => ?_)
  obtain ⟨rfl, rfl⟩ := hv
  replace hs := hs.2
  show z_G X zm_Sight_tell (18, [(0, z_r 36), (1, .inl p1), (2, .inl p2)], [.inl (F_Kinds_has S (F_World_cell 9 S p1 9) p2)], zW T' (zwG G' 9) S n, 0, 0)
  refine z_if_eq 57 M.1 (off := 39) (by decide +kernel) (by decide) (fun c18 => ?_) (fun c18 => ?_)
  · rw [if_pos c18] at K hs
    exact z_vret M (by decide +kernel) rfl (by decide) (by decide) (hQ _ K)
  · rw [if_neg c18] at K hs
    refine z_go2 M.1 21 [(.aload_n 0, 1), (.getfield 40, 3), (.iload_n 1, 1), (.iconst 1, 1), (.iload_n 2, 1), (.iadd, 1)] (29, [(0, z_r 36), (1, .inl p1), (2, .inl p2)], [.inl ((1 : Int32) + p2), .inl p1, z_r 9], zW T' (zwG G' 9) S n, 0, 0) (by decide +kernel) rfl ⟨trivial, rfl, trivial, trivial, trivial, trivial, trivial⟩ ?_
    refine z_callV M.1 (av := [.inl p1, .inl ((1 : Int32) + p2)]) (st := []) (a := 9) (ci := 10) (by decide +kernel) (c_World_cell_9 T' (zwG G' 9) S n p1 ((1 : Int32) + p2) hs.1) M.2.1 zl_Sight_61 zv_World_cell rfl rfl rfl ⟨by decide, by decide, by decide, by decide⟩ rfl (Nat.le_of_ble_eq_true rfl) (fun v w' hv => ?_)
    obtain ⟨rfl, rfl⟩ := hv
    replace hs := hs.2
    show z_G X zm_Sight_tell (32, [(0, z_r 36), (1, .inl p1), (2, .inl p2)], [.inl (F_World_cell 9 S p1 ((1 : Int32) + p2))], zW T' (zwG G' 9) S n, 0, 0)
    refine z_go2 M.1 32 [(.iconst (-1), 1)] (33, [(0, z_r 36), (1, .inl p1), (2, .inl p2)], [.inl (-1), .inl (F_World_cell 9 S p1 ((1 : Int32) + p2))], zW T' (zwG G' 9) S n, 0, 0) (by decide +kernel) rfl ⟨trivial, trivial⟩ ?_
    refine z_icmp_eq 57 M.1 (off := 24) (by decide +kernel) (by decide) (fun c33 => ?_) (fun c33 => ?_)
    · rw [if_pos c33] at K
      exact z_vret M (by decide +kernel) rfl (by decide) (by decide) (hQ _ K)
    · rw [if_neg c33] at K
      refine z_go2 M.1 36 [(.aload_n 0, 1), (.getfield 27, 3), (.iload_n 2, 1), (.aload_n 0, 1), (.getfield 27, 3), (.iload_n 2, 1)] (46, [(0, z_r 36), (1, .inl p1), (2, .inl p2)], [.inl p2, z_r 42, .inl p2, z_r 42], zW T' (zwG G' 9) S n, 0, 0) (by decide +kernel) rfl ⟨trivial, rfl, trivial, trivial, rfl, trivial, trivial⟩ ?_
      refine z_callS M.1 (av := [z_r 42, .inl p2]) (st := [.inl p2, z_r 42]) (by decide +kernel) (c_at (zW T' (zwG G' 9) S n) 42 3 rfl (by decide) p2) M.2.1 zl_Sight_72 zs_T_at ⟨by decide, by decide, by decide, by decide⟩ rfl (Nat.le_of_ble_eq_true rfl) (fun v w' hv => ?_)
      obtain ⟨rfl, rfl⟩ := hv
      show z_G X zm_Sight_tell (49, [(0, z_r 36), (1, .inl p1), (2, .inl p2)], [.inl (zAt (S 42) 3 p2), .inl p2, z_r 42], zW T' (zwG G' 9) S n, 0, 0)
      refine z_go2 M.1 49 [(.iload_n 1, 1)] (50, [(0, z_r 36), (1, .inl p1), (2, .inl p2)], [.inl p1, .inl (zAt (S 42) 3 p2), .inl p2, z_r 42], zW T' (zwG G' 9) S n, 0, 0) (by decide +kernel) rfl ⟨trivial, trivial⟩ ?_
      refine z_callS M.1 (av := [.inl p1]) (st := [.inl (zAt (S 42) 3 p2), .inl p2, z_r 42]) (by decide +kernel) (c_T_bit T' (zwG G' 9) S n p1) M.2.1 zl_Sight_76 zs_T_bit ⟨by decide, by decide, by decide, by decide⟩ rfl (Nat.le_of_ble_eq_true rfl) (fun v w' hv => ?_)
      obtain ⟨rfl, rfl⟩ := hv
      show z_G X zm_Sight_tell (53, [(0, z_r 36), (1, .inl p1), (2, .inl p2)], [.inl (F_T_bit S p1), .inl (zAt (S 42) 3 p2), .inl p2, z_r 42], zW T' (zwG G' 9) S n, 0, 0)
      refine z_go2 M.1 53 [(.ior, 1)] (54, [(0, z_r 36), (1, .inl p1), (2, .inl p2)], [.inl ((zAt (S 42) 3 p2) ||| (F_T_bit S p1)), .inl p2, z_r 42], zW T' (zwG G' 9) S n, 0, 0) (by decide +kernel) rfl ⟨trivial, trivial⟩ ?_
      refine z_callS M.1 (av := [z_r 42, .inl p2, .inl ((zAt (S 42) 3 p2) ||| (F_T_bit S p1))]) (st := []) (by decide +kernel) (c_put (zW T' (zwG G' 9) S n) 42 3 rfl (by decide) p2 ((zAt (S 42) 3 p2) ||| (F_T_bit S p1))) M.2.1 zl_Sight_80 zs_T_put ⟨by decide, by decide, by decide, by decide⟩ rfl (Nat.le_of_ble_eq_true rfl) (fun v w' hv => ?_)
      obtain ⟨S54, hF54⟩ : ∃ y, zPut S 42 3 p2 ((zAt (S 42) 3 p2) ||| (F_T_bit S p1)) = y := ⟨_, rfl⟩
      replace hv : v = none ∧ w' = zW T' (zwG G' 9) (zPut S 42 3 p2 ((zAt (S 42) 3 p2) ||| (F_T_bit S p1))) n := hv
      rw [hF54] at K hv
      try dsimp only [z_let] at K
      obtain ⟨rfl, rfl⟩ := hv
      show z_G X zm_Sight_tell (57, [(0, z_r 36), (1, .inl p1), (2, .inl p2)], [], zW T' (zwG G' 9) S54 n, 0, 0)
      exact z_vret M (by decide +kernel) rfl (by decide) (by decide) (hQ _ K)
theorem c_Sight_tell_28 (T' : Nat → Nat × Nat) (G' : Nat → Nat → Option Nat) (S : (Nat → Nat → Int32)) (n : Nat) (p1 : Int32) (p2 : Int32) (hs : Sf_Sight_tell 28 S p1 p2) : z_Run rm_Sight_tell zm_Sight_tell [z_r 36, .inl p1, .inl p2] (zW T' (zwG G' 28) S n) (zq none (zW T' (zwG G' 28) (F_Sight_tell 28 S p1 p2) n)) := by
  refine z_body (by decide) zf_Sight_ok (Nat.le_of_ble_eq_true rfl) (fun X M => ?_)
  obtain ⟨Q, hQ, K⟩ : ∃ Q : (Nat → Nat → Int32) → Prop, (∀ S', Q S' → zq none (zW T' (zwG G' 28) (F_Sight_tell 28 S p1 p2) n) none (zW T' (zwG G' 28) S' n)) ∧ Q (F_Sight_tell 28 S p1 p2) := ⟨fun o => F_Sight_tell 28 S p1 p2 = o, fun S' h => ⟨rfl, by rw [h]⟩, rfl⟩
  show z_G X zm_Sight_tell (0, [(0, z_r 36), (1, .inl p1), (2, .inl p2)], [], zW T' (zwG G' 28) S n, 0, 0)
  unfold F_Sight_tell at K
  unfold Sf_Sight_tell at hs
  try simp only [Nat.reduceAdd] at K hs
  refine z_go2 M.1 0 [(.aload_n 0, 1), (.getfield 33, 3), (.aload_n 0, 1), (.getfield 40, 3), (.iload_n 1, 1), (.bipush 9, 2)] (11, [(0, z_r 36), (1, .inl p1), (2, .inl p2)], [.inl 9, .inl p1, z_r 28, z_r 43], zW T' (zwG G' 28) S n, 0, 0) (by decide +kernel) rfl ⟨trivial, rfl, trivial, rfl, trivial, trivial, trivial⟩ ?_
  refine z_callV M.1 (av := [.inl p1, .inl 9]) (st := [z_r 43]) (a := 28) (ci := 10) (by decide +kernel) (c_World_cell_28 T' (zwG G' 28) S n p1 9 hs.1) M.2.1 zl_Sight_61 zv_World_cell rfl rfl rfl ⟨by decide, by decide, by decide, by decide⟩ rfl (Nat.le_of_ble_eq_true rfl) (fun v w' hv => ?_)
  obtain ⟨rfl, rfl⟩ := hv
  replace hs := hs.2
  show z_G X zm_Sight_tell (14, [(0, z_r 36), (1, .inl p1), (2, .inl p2)], [.inl (F_World_cell 28 S p1 9), z_r 43], zW T' (zwG G' 28) S n, 0, 0)
  refine z_go2 M.1 14 [(.iload_n 2, 1)] (15, [(0, z_r 36), (1, .inl p1), (2, .inl p2)], [.inl p2, .inl (F_World_cell 28 S p1 9), z_r 43], zW T' (zwG G' 28) S n, 0, 0) (by decide +kernel) rfl ⟨trivial, trivial⟩ ?_
  refine z_callV M.1 (av := [.inl (F_World_cell 28 S p1 9), .inl p2]) (st := []) (a := 43) (ci := 3) (by decide +kernel) (c_Kinds_has T' (zwG G' 28) S n (F_World_cell 28 S p1 9) p2 hs.1) M.2.1 zl_Sight_87 zv_Kinds_has rfl rfl rfl ⟨by decide, by decide, by decide, by decide⟩ rfl (Nat.le_of_ble_eq_true rfl) (fun v w' hv => ?_)
  obtain ⟨rfl, rfl⟩ := hv
  replace hs := hs.2
  show z_G X zm_Sight_tell (18, [(0, z_r 36), (1, .inl p1), (2, .inl p2)], [.inl (F_Kinds_has S (F_World_cell 28 S p1 9) p2)], zW T' (zwG G' 28) S n, 0, 0)
  refine z_if_eq 57 M.1 (off := 39) (by decide +kernel) (by decide) (fun c18 => ?_) (fun c18 => ?_)
  · rw [if_pos c18] at K hs
    exact z_vret M (by decide +kernel) rfl (by decide) (by decide) (hQ _ K)
  · rw [if_neg c18] at K hs
    refine z_go2 M.1 21 [(.aload_n 0, 1), (.getfield 40, 3), (.iload_n 1, 1), (.iconst 1, 1), (.iload_n 2, 1), (.iadd, 1)] (29, [(0, z_r 36), (1, .inl p1), (2, .inl p2)], [.inl ((1 : Int32) + p2), .inl p1, z_r 28], zW T' (zwG G' 28) S n, 0, 0) (by decide +kernel) rfl ⟨trivial, rfl, trivial, trivial, trivial, trivial, trivial⟩ ?_
    refine z_callV M.1 (av := [.inl p1, .inl ((1 : Int32) + p2)]) (st := []) (a := 28) (ci := 10) (by decide +kernel) (c_World_cell_28 T' (zwG G' 28) S n p1 ((1 : Int32) + p2) hs.1) M.2.1 zl_Sight_61 zv_World_cell rfl rfl rfl ⟨by decide, by decide, by decide, by decide⟩ rfl (Nat.le_of_ble_eq_true rfl) (fun v w' hv => ?_)
    obtain ⟨rfl, rfl⟩ := hv
    replace hs := hs.2
    show z_G X zm_Sight_tell (32, [(0, z_r 36), (1, .inl p1), (2, .inl p2)], [.inl (F_World_cell 28 S p1 ((1 : Int32) + p2))], zW T' (zwG G' 28) S n, 0, 0)
    refine z_go2 M.1 32 [(.iconst (-1), 1)] (33, [(0, z_r 36), (1, .inl p1), (2, .inl p2)], [.inl (-1), .inl (F_World_cell 28 S p1 ((1 : Int32) + p2))], zW T' (zwG G' 28) S n, 0, 0) (by decide +kernel) rfl ⟨trivial, trivial⟩ ?_
    refine z_icmp_eq 57 M.1 (off := 24) (by decide +kernel) (by decide) (fun c33 => ?_) (fun c33 => ?_)
    · rw [if_pos c33] at K
      exact z_vret M (by decide +kernel) rfl (by decide) (by decide) (hQ _ K)
    · rw [if_neg c33] at K
      refine z_go2 M.1 36 [(.aload_n 0, 1), (.getfield 27, 3), (.iload_n 2, 1), (.aload_n 0, 1), (.getfield 27, 3), (.iload_n 2, 1)] (46, [(0, z_r 36), (1, .inl p1), (2, .inl p2)], [.inl p2, z_r 42, .inl p2, z_r 42], zW T' (zwG G' 28) S n, 0, 0) (by decide +kernel) rfl ⟨trivial, rfl, trivial, trivial, rfl, trivial, trivial⟩ ?_
      refine z_callS M.1 (av := [z_r 42, .inl p2]) (st := [.inl p2, z_r 42]) (by decide +kernel) (c_at (zW T' (zwG G' 28) S n) 42 3 rfl (by decide) p2) M.2.1 zl_Sight_72 zs_T_at ⟨by decide, by decide, by decide, by decide⟩ rfl (Nat.le_of_ble_eq_true rfl) (fun v w' hv => ?_)
      obtain ⟨rfl, rfl⟩ := hv
      show z_G X zm_Sight_tell (49, [(0, z_r 36), (1, .inl p1), (2, .inl p2)], [.inl (zAt (S 42) 3 p2), .inl p2, z_r 42], zW T' (zwG G' 28) S n, 0, 0)
      refine z_go2 M.1 49 [(.iload_n 1, 1)] (50, [(0, z_r 36), (1, .inl p1), (2, .inl p2)], [.inl p1, .inl (zAt (S 42) 3 p2), .inl p2, z_r 42], zW T' (zwG G' 28) S n, 0, 0) (by decide +kernel) rfl ⟨trivial, trivial⟩ ?_
      refine z_callS M.1 (av := [.inl p1]) (st := [.inl (zAt (S 42) 3 p2), .inl p2, z_r 42]) (by decide +kernel) (c_T_bit T' (zwG G' 28) S n p1) M.2.1 zl_Sight_76 zs_T_bit ⟨by decide, by decide, by decide, by decide⟩ rfl (Nat.le_of_ble_eq_true rfl) (fun v w' hv => ?_)
      obtain ⟨rfl, rfl⟩ := hv
      show z_G X zm_Sight_tell (53, [(0, z_r 36), (1, .inl p1), (2, .inl p2)], [.inl (F_T_bit S p1), .inl (zAt (S 42) 3 p2), .inl p2, z_r 42], zW T' (zwG G' 28) S n, 0, 0)
      refine z_go2 M.1 53 [(.ior, 1)] (54, [(0, z_r 36), (1, .inl p1), (2, .inl p2)], [.inl ((zAt (S 42) 3 p2) ||| (F_T_bit S p1)), .inl p2, z_r 42], zW T' (zwG G' 28) S n, 0, 0) (by decide +kernel) rfl ⟨trivial, trivial⟩ ?_
      refine z_callS M.1 (av := [z_r 42, .inl p2, .inl ((zAt (S 42) 3 p2) ||| (F_T_bit S p1))]) (st := []) (by decide +kernel) (c_put (zW T' (zwG G' 28) S n) 42 3 rfl (by decide) p2 ((zAt (S 42) 3 p2) ||| (F_T_bit S p1))) M.2.1 zl_Sight_80 zs_T_put ⟨by decide, by decide, by decide, by decide⟩ rfl (Nat.le_of_ble_eq_true rfl) (fun v w' hv => ?_)
      obtain ⟨S54, hF54⟩ : ∃ y, zPut S 42 3 p2 ((zAt (S 42) 3 p2) ||| (F_T_bit S p1)) = y := ⟨_, rfl⟩
      replace hv : v = none ∧ w' = zW T' (zwG G' 28) (zPut S 42 3 p2 ((zAt (S 42) 3 p2) ||| (F_T_bit S p1))) n := hv
      rw [hF54] at K hv
      try dsimp only [z_let] at K
      obtain ⟨rfl, rfl⟩ := hv
      show z_G X zm_Sight_tell (57, [(0, z_r 36), (1, .inl p1), (2, .inl p2)], [], zW T' (zwG G' 28) S54 n, 0, 0)
      exact z_vret M (by decide +kernel) rfl (by decide) (by decide) (hQ _ K)

-- TrackHouse$Sight.sees
abbrev rm_Sight_sees : Room := zr 1
def F_Sight_sees (S : (Nat → Nat → Int32)) (p1 : Int32) : Int32 := (F_T_isIn S (S 36 8) p1)
def Sf_Sight_sees (S : (Nat → Nat → Int32)) (p1 : Int32) : Prop := (narrow .boolean (.int (F_T_isIn S (S 36 8) p1)) = .int (F_T_isIn S (S 36 8) p1) ∧ True)
theorem c_Sight_sees (T' : Nat → Nat × Nat) (G' : Nat → Nat → Option Nat) (S : (Nat → Nat → Int32)) (n : Nat) (p1 : Int32) (hs : Sf_Sight_sees S p1) : z_Run rm_Sight_sees zm_Sight_sees [z_r 36, .inl p1] (zW T' G' S n) (zq (some (.inl (F_Sight_sees S p1))) (zW T' G' S n)) := by
  refine z_body (by decide) zf_Sight_ok (Nat.le_of_ble_eq_true rfl) (fun X M => ?_)
  obtain ⟨Q, hQ, K⟩ : ∃ Q : Int32 → Prop, (∀ v, Q v → zq (some (.inl (F_Sight_sees S p1))) (zW T' G' S n) (some (.inl v)) (zW T' G' S n)) ∧ Q (F_Sight_sees S p1) := ⟨fun o => F_Sight_sees S p1 = o, fun v h => ⟨by rw [h], rfl⟩, rfl⟩
  show z_G X zm_Sight_sees (0, [(0, z_r 36), (1, .inl p1)], [], zW T' G' S n, 0, 0)
  unfold F_Sight_sees at K
  unfold Sf_Sight_sees at hs
  refine z_go2 M.1 0 [(.aload_n 0, 1), (.getfield 44, 3), (.iload_n 1, 1)] (5, [(0, z_r 36), (1, .inl p1)], [.inl p1, .inl (S 36 8)], zW T' G' S n, 0, 0) (by decide +kernel) rfl ⟨trivial, rfl, trivial, trivial⟩ ?_
  refine z_callS M.1 (av := [.inl (S 36 8), .inl p1]) (st := []) (by decide +kernel) (c_T_isIn T' G' S n (S 36 8) p1) M.2.1 zl_Sight_90 zs_T_isIn ⟨by decide, by decide, by decide, by decide⟩ rfl (Nat.le_of_ble_eq_true rfl) (fun v w' hv => ?_)
  obtain ⟨rfl, rfl⟩ := hv
  show z_G X zm_Sight_sees (8, [(0, z_r 36), (1, .inl p1)], [.inl (F_T_isIn S (S 36 8) p1)], zW T' G' S n, 0, 0)
  exact z_iret M (by decide +kernel) .boolean rfl hs.1 (by decide) (by decide) (hQ _ K)


-- TrackHouse$Sight.canRead
abbrev rm_Sight_canRead : Room := zr 1
def F_Sight_canRead (S : (Nat → Nat → Int32)) (p1 : Int32) (p2 : Int32) : Int32 := (F_T_isIn S (zAt (S 41) 4 p2) p1)
def Sf_Sight_canRead (S : (Nat → Nat → Int32)) (p1 : Int32) (p2 : Int32) : Prop := (narrow .boolean (.int (F_T_isIn S (zAt (S 41) 4 p2) p1)) = .int (F_T_isIn S (zAt (S 41) 4 p2) p1) ∧ True)
theorem c_Sight_canRead (T' : Nat → Nat × Nat) (G' : Nat → Nat → Option Nat) (S : (Nat → Nat → Int32)) (n : Nat) (p1 : Int32) (p2 : Int32) (hs : Sf_Sight_canRead S p1 p2) : z_Run rm_Sight_canRead zm_Sight_canRead [z_r 36, .inl p1, .inl p2] (zW T' G' S n) (zq (some (.inl (F_Sight_canRead S p1 p2))) (zW T' G' S n)) := by
  refine z_body (by decide) zf_Sight_ok (Nat.le_of_ble_eq_true rfl) (fun X M => ?_)
  obtain ⟨Q, hQ, K⟩ : ∃ Q : Int32 → Prop, (∀ v, Q v → zq (some (.inl (F_Sight_canRead S p1 p2))) (zW T' G' S n) (some (.inl v)) (zW T' G' S n)) ∧ Q (F_Sight_canRead S p1 p2) := ⟨fun o => F_Sight_canRead S p1 p2 = o, fun v h => ⟨by rw [h], rfl⟩, rfl⟩
  show z_G X zm_Sight_canRead (0, [(0, z_r 36), (1, .inl p1), (2, .inl p2)], [], zW T' G' S n, 0, 0)
  unfold F_Sight_canRead at K
  unfold Sf_Sight_canRead at hs
  refine z_go2 M.1 0 [(.aload_n 0, 1), (.getfield 24, 3), (.iload_n 2, 1)] (5, [(0, z_r 36), (1, .inl p1), (2, .inl p2)], [.inl p2, z_r 41], zW T' G' S n, 0, 0) (by decide +kernel) rfl ⟨trivial, rfl, trivial, trivial⟩ ?_
  refine z_callS M.1 (av := [z_r 41, .inl p2]) (st := []) (by decide +kernel) (c_at (zW T' G' S n) 41 4 rfl (by decide) p2) M.2.1 zl_Sight_72 zs_T_at ⟨by decide, by decide, by decide, by decide⟩ rfl (Nat.le_of_ble_eq_true rfl) (fun v w' hv => ?_)
  obtain ⟨rfl, rfl⟩ := hv
  show z_G X zm_Sight_canRead (8, [(0, z_r 36), (1, .inl p1), (2, .inl p2)], [.inl (zAt (S 41) 4 p2)], zW T' G' S n, 0, 0)
  refine z_go2 M.1 8 [(.iload_n 1, 1)] (9, [(0, z_r 36), (1, .inl p1), (2, .inl p2)], [.inl p1, .inl (zAt (S 41) 4 p2)], zW T' G' S n, 0, 0) (by decide +kernel) rfl ⟨trivial, trivial⟩ ?_
  refine z_callS M.1 (av := [.inl (zAt (S 41) 4 p2), .inl p1]) (st := []) (by decide +kernel) (c_T_isIn T' G' S n (zAt (S 41) 4 p2) p1) M.2.1 zl_Sight_90 zs_T_isIn ⟨by decide, by decide, by decide, by decide⟩ rfl (Nat.le_of_ble_eq_true rfl) (fun v w' hv => ?_)
  obtain ⟨rfl, rfl⟩ := hv
  show z_G X zm_Sight_canRead (12, [(0, z_r 36), (1, .inl p1), (2, .inl p2)], [.inl (F_T_isIn S (zAt (S 41) 4 p2) p1)], zW T' G' S n, 0, 0)
  exact z_iret M (by decide +kernel) .boolean rfl hs.1 (by decide) (by decide) (hQ _ K)

-- TrackHouse$Sight.computed
abbrev rm_Sight_computed : Room := zr 1
def F_Sight_computed_l38_119 (wd : Nat) (rc : Int32 → Int32 → Int32 → Int32 → Int32 → (Int32 × Int32 × Int32 × Int32)) (S : (Nat → Nat → Int32)) (x1 : Int32) (x2 : Int32) (x3 : Int32) (x4 : Int32) (x5 : Int32) (x7 : Int32) (x8 : Int32) (x9 : Int32) (s0 : Int32) : (Int32 × Int32 × Int32 × Int32) := (rc x4 x5 s0 (F_Math_max S x7 x9) (x8 + 1))
def Sf_Sight_computed_l38_119 (wd : Nat) (rc : Int32 → Int32 → Int32 → Int32 → Int32 → (Int32 × Int32 × Int32 × Int32)) (sr : Int32 → Int32 → Int32 → Int32 → Int32 → Prop) (S : (Nat → Nat → Int32)) (x1 : Int32) (x2 : Int32) (x3 : Int32) (x4 : Int32) (x5 : Int32) (x7 : Int32) (x8 : Int32) (x9 : Int32) (s0 : Int32) : Prop := (sr x4 x5 s0 (F_Math_max S x7 x9) (x8 + 1))
theorem t_Sight_computed_l38_119_9 {X : z_X} {Post : Option z_V → z_W → Prop} (M : z_M X zm_Sight_computed rm_Sight_computed Post) {T' : Nat → Nat × Nat} {G' : Nat → Nat → Option Nat} {n : Nat} {Q : (Int32 × Int32 × Int32 × Int32) → Prop} (rc : Int32 → Int32 → Int32 → Int32 → Int32 → (Int32 × Int32 × Int32 × Int32)) (sr : Int32 → Int32 → Int32 → Int32 → Int32 → Prop) (S : (Nat → Nat → Int32)) (x1 : Int32) (x2 : Int32) (x3 : Int32) (x4 : Int32) (x5 : Int32) (x7 : Int32) (x8 : Int32) (x9 : Int32) (s0 : Int32) (hE : ∀ (y4 : Int32) (y5 : Int32) (y6 : Int32) (y7 : Int32), Q (y4, y5, y6, y7) → z_G X zm_Sight_computed (136, [(0, z_r 36), (2, .inl x2), (4, .inl y4), (5, .inl y5), (6, .inl y6), (7, .inl y7)], [], zW T' (zwG G' 9) S n, 0, 0)) (hC : ∀ (x4 : Int32) (x5 : Int32) (x6 : Int32) (x7 : Int32) (x8 : Int32), Q (rc x4 x5 x6 x7 x8) → sr x4 x5 x6 x7 x8 → z_G X zm_Sight_computed (38, [(0, z_r 36), (1, .inl x1), (2, .inl x2), (3, .inl x3), (4, .inl x4), (5, .inl x5), (6, .inl x6), (7, .inl x7), (8, .inl x8)], [], zW T' (zwG G' 9) S n, 0, 0)) (K : Q (F_Sight_computed_l38_119 9 rc S x1 x2 x3 x4 x5 x7 x8 x9 s0)) (hs : Sf_Sight_computed_l38_119 9 rc sr S x1 x2 x3 x4 x5 x7 x8 x9 s0) : z_G X zm_Sight_computed (119, [(0, z_r 36), (1, .inl x1), (2, .inl x2), (3, .inl x3), (4, .inl x4), (5, .inl x5), (7, .inl x7), (8, .inl x8), (9, .inl x9)], [.inl s0], zW T' (zwG G' 9) S n, 0, 0) := by
  unfold F_Sight_computed_l38_119 at K
  unfold Sf_Sight_computed_l38_119 at hs
  try simp only [Nat.reduceAdd] at K hs
  refine z_go2 M.1 119 [(.istore 6, 2), (.iload 7, 2), (.iload 9, 2)] (125, [(6, .inl s0), (0, z_r 36), (1, .inl x1), (2, .inl x2), (3, .inl x3), (4, .inl x4), (5, .inl x5), (7, .inl x7), (8, .inl x8), (9, .inl x9)], [.inl x9, .inl x7], zW T' (zwG G' 9) S n, 0, 0) (by decide +kernel) rfl ⟨trivial, trivial, trivial, trivial⟩ ?_
  refine z_callS M.1 (av := [.inl x7, .inl x9]) (st := []) (by decide +kernel) (c_Math_max T' (zwG G' 9) S n x7 x9) M.2.1 zl_Sight_102 zs_Math_max ⟨by decide, by decide, by decide, by decide⟩ rfl (Nat.le_of_ble_eq_true rfl) (fun v w' hv => ?_)
  obtain ⟨rfl, rfl⟩ := hv
  show z_G X zm_Sight_computed (128, [(6, .inl s0), (0, z_r 36), (1, .inl x1), (2, .inl x2), (3, .inl x3), (4, .inl x4), (5, .inl x5), (7, .inl x7), (8, .inl x8), (9, .inl x9)], [.inl (F_Math_max S x7 x9)], zW T' (zwG G' 9) S n, 0, 0)
  refine z_go2 M.1 128 [(.istore 7, 2), (.iinc 8 1, 3), (.goto (-95), 3)] (38, [(8, .inl (x8 + 1)), (7, .inl (F_Math_max S x7 x9)), (6, .inl s0), (0, z_r 36), (1, .inl x1), (2, .inl x2), (3, .inl x3), (4, .inl x4), (5, .inl x5), (9, .inl x9)], [], zW T' (zwG G' 9) S n, 0, 0) (by decide +kernel) rfl ⟨trivial, trivial, trivial, trivial⟩ ?_
  exact z_lvs (lv' := [(0, z_r 36), (1, .inl x1), (2, .inl x2), (3, .inl x3), (4, .inl x4), (5, .inl x5), (6, .inl s0), (7, .inl (F_Math_max S x7 x9)), (8, .inl (x8 + 1))]) [3, 4, 5, 6, 7, 8, 2, 1, 0] rfl (hC x4 x5 s0 (F_Math_max S x7 x9) (x8 + 1) K hs)
theorem t_Sight_computed_l38_119_28 {X : z_X} {Post : Option z_V → z_W → Prop} (M : z_M X zm_Sight_computed rm_Sight_computed Post) {T' : Nat → Nat × Nat} {G' : Nat → Nat → Option Nat} {n : Nat} {Q : (Int32 × Int32 × Int32 × Int32) → Prop} (rc : Int32 → Int32 → Int32 → Int32 → Int32 → (Int32 × Int32 × Int32 × Int32)) (sr : Int32 → Int32 → Int32 → Int32 → Int32 → Prop) (S : (Nat → Nat → Int32)) (x1 : Int32) (x2 : Int32) (x3 : Int32) (x4 : Int32) (x5 : Int32) (x7 : Int32) (x8 : Int32) (x9 : Int32) (s0 : Int32) (hE : ∀ (y4 : Int32) (y5 : Int32) (y6 : Int32) (y7 : Int32), Q (y4, y5, y6, y7) → z_G X zm_Sight_computed (136, [(0, z_r 36), (2, .inl x2), (4, .inl y4), (5, .inl y5), (6, .inl y6), (7, .inl y7)], [], zW T' (zwG G' 28) S n, 0, 0)) (hC : ∀ (x4 : Int32) (x5 : Int32) (x6 : Int32) (x7 : Int32) (x8 : Int32), Q (rc x4 x5 x6 x7 x8) → sr x4 x5 x6 x7 x8 → z_G X zm_Sight_computed (38, [(0, z_r 36), (1, .inl x1), (2, .inl x2), (3, .inl x3), (4, .inl x4), (5, .inl x5), (6, .inl x6), (7, .inl x7), (8, .inl x8)], [], zW T' (zwG G' 28) S n, 0, 0)) (K : Q (F_Sight_computed_l38_119 28 rc S x1 x2 x3 x4 x5 x7 x8 x9 s0)) (hs : Sf_Sight_computed_l38_119 28 rc sr S x1 x2 x3 x4 x5 x7 x8 x9 s0) : z_G X zm_Sight_computed (119, [(0, z_r 36), (1, .inl x1), (2, .inl x2), (3, .inl x3), (4, .inl x4), (5, .inl x5), (7, .inl x7), (8, .inl x8), (9, .inl x9)], [.inl s0], zW T' (zwG G' 28) S n, 0, 0) := by
  unfold F_Sight_computed_l38_119 at K
  unfold Sf_Sight_computed_l38_119 at hs
  try simp only [Nat.reduceAdd] at K hs
  refine z_go2 M.1 119 [(.istore 6, 2), (.iload 7, 2), (.iload 9, 2)] (125, [(6, .inl s0), (0, z_r 36), (1, .inl x1), (2, .inl x2), (3, .inl x3), (4, .inl x4), (5, .inl x5), (7, .inl x7), (8, .inl x8), (9, .inl x9)], [.inl x9, .inl x7], zW T' (zwG G' 28) S n, 0, 0) (by decide +kernel) rfl ⟨trivial, trivial, trivial, trivial⟩ ?_
  refine z_callS M.1 (av := [.inl x7, .inl x9]) (st := []) (by decide +kernel) (c_Math_max T' (zwG G' 28) S n x7 x9) M.2.1 zl_Sight_102 zs_Math_max ⟨by decide, by decide, by decide, by decide⟩ rfl (Nat.le_of_ble_eq_true rfl) (fun v w' hv => ?_)
  obtain ⟨rfl, rfl⟩ := hv
  show z_G X zm_Sight_computed (128, [(6, .inl s0), (0, z_r 36), (1, .inl x1), (2, .inl x2), (3, .inl x3), (4, .inl x4), (5, .inl x5), (7, .inl x7), (8, .inl x8), (9, .inl x9)], [.inl (F_Math_max S x7 x9)], zW T' (zwG G' 28) S n, 0, 0)
  refine z_go2 M.1 128 [(.istore 7, 2), (.iinc 8 1, 3), (.goto (-95), 3)] (38, [(8, .inl (x8 + 1)), (7, .inl (F_Math_max S x7 x9)), (6, .inl s0), (0, z_r 36), (1, .inl x1), (2, .inl x2), (3, .inl x3), (4, .inl x4), (5, .inl x5), (9, .inl x9)], [], zW T' (zwG G' 28) S n, 0, 0) (by decide +kernel) rfl ⟨trivial, trivial, trivial, trivial⟩ ?_
  exact z_lvs (lv' := [(0, z_r 36), (1, .inl x1), (2, .inl x2), (3, .inl x3), (4, .inl x4), (5, .inl x5), (6, .inl s0), (7, .inl (F_Math_max S x7 x9)), (8, .inl (x8 + 1))]) [3, 4, 5, 6, 7, 8, 2, 1, 0] rfl (hC x4 x5 s0 (F_Math_max S x7 x9) (x8 + 1) K hs)
def F_Sight_computed_l38_112 (wd : Nat) (rc : Int32 → Int32 → Int32 → Int32 → Int32 → (Int32 × Int32 × Int32 × Int32)) (S : (Nat → Nat → Int32)) (x1 : Int32) (x2 : Int32) (x3 : Int32) (x4 : Int32) (x5 : Int32) (x7 : Int32) (x8 : Int32) (x9 : Int32) : (Int32 × Int32 × Int32 × Int32) := (F_Sight_computed_l38_119 wd rc S x1 x2 x3 x4 x5 x7 x8 x9 x9)
def Sf_Sight_computed_l38_112 (wd : Nat) (rc : Int32 → Int32 → Int32 → Int32 → Int32 → (Int32 × Int32 × Int32 × Int32)) (sr : Int32 → Int32 → Int32 → Int32 → Int32 → Prop) (S : (Nat → Nat → Int32)) (x1 : Int32) (x2 : Int32) (x3 : Int32) (x4 : Int32) (x5 : Int32) (x7 : Int32) (x8 : Int32) (x9 : Int32) : Prop := (Sf_Sight_computed_l38_119 wd rc sr S x1 x2 x3 x4 x5 x7 x8 x9 x9)
theorem t_Sight_computed_l38_112_9 {X : z_X} {Post : Option z_V → z_W → Prop} (M : z_M X zm_Sight_computed rm_Sight_computed Post) {T' : Nat → Nat × Nat} {G' : Nat → Nat → Option Nat} {n : Nat} {Q : (Int32 × Int32 × Int32 × Int32) → Prop} (rc : Int32 → Int32 → Int32 → Int32 → Int32 → (Int32 × Int32 × Int32 × Int32)) (sr : Int32 → Int32 → Int32 → Int32 → Int32 → Prop) (S : (Nat → Nat → Int32)) (x1 : Int32) (x2 : Int32) (x3 : Int32) (x4 : Int32) (x5 : Int32) (x7 : Int32) (x8 : Int32) (x9 : Int32) (hE : ∀ (y4 : Int32) (y5 : Int32) (y6 : Int32) (y7 : Int32), Q (y4, y5, y6, y7) → z_G X zm_Sight_computed (136, [(0, z_r 36), (2, .inl x2), (4, .inl y4), (5, .inl y5), (6, .inl y6), (7, .inl y7)], [], zW T' (zwG G' 9) S n, 0, 0)) (hC : ∀ (x4 : Int32) (x5 : Int32) (x6 : Int32) (x7 : Int32) (x8 : Int32), Q (rc x4 x5 x6 x7 x8) → sr x4 x5 x6 x7 x8 → z_G X zm_Sight_computed (38, [(0, z_r 36), (1, .inl x1), (2, .inl x2), (3, .inl x3), (4, .inl x4), (5, .inl x5), (6, .inl x6), (7, .inl x7), (8, .inl x8)], [], zW T' (zwG G' 9) S n, 0, 0)) (K : Q (F_Sight_computed_l38_112 9 rc S x1 x2 x3 x4 x5 x7 x8 x9)) (hs : Sf_Sight_computed_l38_112 9 rc sr S x1 x2 x3 x4 x5 x7 x8 x9) : z_G X zm_Sight_computed (112, [(0, z_r 36), (1, .inl x1), (2, .inl x2), (3, .inl x3), (4, .inl x4), (5, .inl x5), (7, .inl x7), (8, .inl x8), (9, .inl x9)], [], zW T' (zwG G' 9) S n, 0, 0) := by
  unfold F_Sight_computed_l38_112 at K
  unfold Sf_Sight_computed_l38_112 at hs
  try simp only [Nat.reduceAdd] at K hs
  refine z_go2 M.1 112 [(.iload 9, 2), (.goto 5, 3)] (119, [(0, z_r 36), (1, .inl x1), (2, .inl x2), (3, .inl x3), (4, .inl x4), (5, .inl x5), (7, .inl x7), (8, .inl x8), (9, .inl x9)], [.inl x9], zW T' (zwG G' 9) S n, 0, 0) (by decide +kernel) rfl ⟨trivial, trivial, trivial⟩ ?_
  exact z_lvs (lv' := [(0, z_r 36), (1, .inl x1), (2, .inl x2), (3, .inl x3), (4, .inl x4), (5, .inl x5), (7, .inl x7), (8, .inl x8), (9, .inl x9)]) [0, 1, 2, 3, 4, 5, 6, 7, 8] rfl (t_Sight_computed_l38_119_9 M rc sr S x1 x2 x3 x4 x5 x7 x8 x9 x9 hE hC K hs)
theorem t_Sight_computed_l38_112_28 {X : z_X} {Post : Option z_V → z_W → Prop} (M : z_M X zm_Sight_computed rm_Sight_computed Post) {T' : Nat → Nat × Nat} {G' : Nat → Nat → Option Nat} {n : Nat} {Q : (Int32 × Int32 × Int32 × Int32) → Prop} (rc : Int32 → Int32 → Int32 → Int32 → Int32 → (Int32 × Int32 × Int32 × Int32)) (sr : Int32 → Int32 → Int32 → Int32 → Int32 → Prop) (S : (Nat → Nat → Int32)) (x1 : Int32) (x2 : Int32) (x3 : Int32) (x4 : Int32) (x5 : Int32) (x7 : Int32) (x8 : Int32) (x9 : Int32) (hE : ∀ (y4 : Int32) (y5 : Int32) (y6 : Int32) (y7 : Int32), Q (y4, y5, y6, y7) → z_G X zm_Sight_computed (136, [(0, z_r 36), (2, .inl x2), (4, .inl y4), (5, .inl y5), (6, .inl y6), (7, .inl y7)], [], zW T' (zwG G' 28) S n, 0, 0)) (hC : ∀ (x4 : Int32) (x5 : Int32) (x6 : Int32) (x7 : Int32) (x8 : Int32), Q (rc x4 x5 x6 x7 x8) → sr x4 x5 x6 x7 x8 → z_G X zm_Sight_computed (38, [(0, z_r 36), (1, .inl x1), (2, .inl x2), (3, .inl x3), (4, .inl x4), (5, .inl x5), (6, .inl x6), (7, .inl x7), (8, .inl x8)], [], zW T' (zwG G' 28) S n, 0, 0)) (K : Q (F_Sight_computed_l38_112 28 rc S x1 x2 x3 x4 x5 x7 x8 x9)) (hs : Sf_Sight_computed_l38_112 28 rc sr S x1 x2 x3 x4 x5 x7 x8 x9) : z_G X zm_Sight_computed (112, [(0, z_r 36), (1, .inl x1), (2, .inl x2), (3, .inl x3), (4, .inl x4), (5, .inl x5), (7, .inl x7), (8, .inl x8), (9, .inl x9)], [], zW T' (zwG G' 28) S n, 0, 0) := by
  unfold F_Sight_computed_l38_112 at K
  unfold Sf_Sight_computed_l38_112 at hs
  try simp only [Nat.reduceAdd] at K hs
  refine z_go2 M.1 112 [(.iload 9, 2), (.goto 5, 3)] (119, [(0, z_r 36), (1, .inl x1), (2, .inl x2), (3, .inl x3), (4, .inl x4), (5, .inl x5), (7, .inl x7), (8, .inl x8), (9, .inl x9)], [.inl x9], zW T' (zwG G' 28) S n, 0, 0) (by decide +kernel) rfl ⟨trivial, trivial, trivial⟩ ?_
  exact z_lvs (lv' := [(0, z_r 36), (1, .inl x1), (2, .inl x2), (3, .inl x3), (4, .inl x4), (5, .inl x5), (7, .inl x7), (8, .inl x8), (9, .inl x9)]) [0, 1, 2, 3, 4, 5, 6, 7, 8] rfl (t_Sight_computed_l38_119_28 M rc sr S x1 x2 x3 x4 x5 x7 x8 x9 x9 hE hC K hs)
def F_Sight_computed_L38 (wd : Nat) (S : (Nat → Nat → Int32)) (x1 : Int32) (x2 : Int32) (x3 : Int32) : Nat → Int32 → Int32 → Int32 → Int32 → Int32 → (Int32 × Int32 × Int32 × Int32)
  | 0, x4, x5, x6, x7, x8 => (x4, x5, x6, x7)
  | f + 1, x4, x5, x6, x7, x8 => (if (30 : Int32) ≤ x8 then (x4, x5, x6, x7) else (if (F_T_isIn S (zAt (S 42) 3 x3) x8) = 0 then ((F_Sight_computed_L38 wd S x1 x2 x3 f) x4 x5 x6 x7 (x8 + 1)) else (if (F_World_cell wd S x8 5) = x1 then (if x6 = (-1) then (F_Sight_computed_l38_112 wd (F_Sight_computed_L38 wd S x1 x2 x3 f) S x1 x2 x3 (x4 + 1) (x5 + (F_World_cell wd S x8 ((1 : Int32) + x3))) x7 x8 (F_World_cell wd S x8 ((1 : Int32) + x3))) else (if x6 ≤ (F_World_cell wd S x8 ((1 : Int32) + x3)) then (F_Sight_computed_l38_119 wd (F_Sight_computed_L38 wd S x1 x2 x3 f) S x1 x2 x3 (x4 + 1) (x5 + (F_World_cell wd S x8 ((1 : Int32) + x3))) x7 x8 (F_World_cell wd S x8 ((1 : Int32) + x3)) x6) else (F_Sight_computed_l38_112 wd (F_Sight_computed_L38 wd S x1 x2 x3 f) S x1 x2 x3 (x4 + 1) (x5 + (F_World_cell wd S x8 ((1 : Int32) + x3))) x7 x8 (F_World_cell wd S x8 ((1 : Int32) + x3))))) else ((F_Sight_computed_L38 wd S x1 x2 x3 f) x4 x5 x6 x7 (x8 + 1)))))
def Sf_Sight_computed_L38 (wd : Nat) (S : (Nat → Nat → Int32)) (x1 : Int32) (x2 : Int32) (x3 : Int32) : Nat → Int32 → Int32 → Int32 → Int32 → Int32 → Prop
  | 0, _, _, _, _, _ => False
  | f + 1, x4, x5, x6, x7, x8 => (if (30 : Int32) ≤ x8 then True else (if (F_T_isIn S (zAt (S 42) 3 x3) x8) = 0 then ((Sf_Sight_computed_L38 wd S x1 x2 x3 f) x4 x5 x6 x7 (x8 + 1)) else (Sf_World_cell wd S x8 5 ∧ (if (F_World_cell wd S x8 5) = x1 then (Sf_World_cell wd S x8 ((1 : Int32) + x3) ∧ (if x6 = (-1) then (Sf_Sight_computed_l38_112 wd (F_Sight_computed_L38 wd S x1 x2 x3 f) (Sf_Sight_computed_L38 wd S x1 x2 x3 f) S x1 x2 x3 (x4 + 1) (x5 + (F_World_cell wd S x8 ((1 : Int32) + x3))) x7 x8 (F_World_cell wd S x8 ((1 : Int32) + x3))) else (if x6 ≤ (F_World_cell wd S x8 ((1 : Int32) + x3)) then (Sf_Sight_computed_l38_119 wd (F_Sight_computed_L38 wd S x1 x2 x3 f) (Sf_Sight_computed_L38 wd S x1 x2 x3 f) S x1 x2 x3 (x4 + 1) (x5 + (F_World_cell wd S x8 ((1 : Int32) + x3))) x7 x8 (F_World_cell wd S x8 ((1 : Int32) + x3)) x6) else (Sf_Sight_computed_l38_112 wd (F_Sight_computed_L38 wd S x1 x2 x3 f) (Sf_Sight_computed_L38 wd S x1 x2 x3 f) S x1 x2 x3 (x4 + 1) (x5 + (F_World_cell wd S x8 ((1 : Int32) + x3))) x7 x8 (F_World_cell wd S x8 ((1 : Int32) + x3)))))) else ((Sf_Sight_computed_L38 wd S x1 x2 x3 f) x4 x5 x6 x7 (x8 + 1))))))
theorem t_Sight_computed_L38_9 {X : z_X} {Post : Option z_V → z_W → Prop} (M : z_M X zm_Sight_computed rm_Sight_computed Post) {T' : Nat → Nat × Nat} {G' : Nat → Nat → Option Nat} {n : Nat} {Q : (Int32 × Int32 × Int32 × Int32) → Prop} (S : (Nat → Nat → Int32))  (x1 : Int32) (x2 : Int32) (x3 : Int32) (hE : ∀ (y4 : Int32) (y5 : Int32) (y6 : Int32) (y7 : Int32), Q (y4, y5, y6, y7) → z_G X zm_Sight_computed (136, [(0, z_r 36), (2, .inl x2), (4, .inl y4), (5, .inl y5), (6, .inl y6), (7, .inl y7)], [], zW T' (zwG G' 9) S n, 0, 0)) (f : Nat) : ∀ (x4 : Int32) (x5 : Int32) (x6 : Int32) (x7 : Int32) (x8 : Int32), Q (F_Sight_computed_L38 9 S x1 x2 x3 f x4 x5 x6 x7 x8) → Sf_Sight_computed_L38 9 S x1 x2 x3 f x4 x5 x6 x7 x8 → z_G X zm_Sight_computed (38, [(0, z_r 36), (1, .inl x1), (2, .inl x2), (3, .inl x3), (4, .inl x4), (5, .inl x5), (6, .inl x6), (7, .inl x7), (8, .inl x8)], [], zW T' (zwG G' 9) S n, 0, 0) := by
  induction f with
  | zero => intro x4 x5 x6 x7 x8 K hs; exact False.elim hs
  | succ f hC =>
    intro x4 x5 x6 x7 x8 K hs
    rw [F_Sight_computed_L38] at K
    rw [Sf_Sight_computed_L38] at hs
    try simp only [Nat.reduceAdd] at K hs
    refine z_go2 M.1 38 [(.iload 8, 2), (.bipush 30, 2)] (42, [(0, z_r 36), (1, .inl x1), (2, .inl x2), (3, .inl x3), (4, .inl x4), (5, .inl x5), (6, .inl x6), (7, .inl x7), (8, .inl x8)], [.inl 30, .inl x8], zW T' (zwG G' 9) S n, 0, 0) (by decide +kernel) rfl ⟨trivial, trivial, trivial⟩ ?_
    refine z_icmp_ge 136 M.1 (off := 94) (by decide +kernel) (by decide) (fun c42 => ?_) (fun c42 => ?_)
    · rw [if_pos c42] at K hs
      exact z_lvs (lv' := [(0, z_r 36), (2, .inl x2), (4, .inl x4), (5, .inl x5), (6, .inl x6), (7, .inl x7)]) [0, 2, 4, 5, 6, 7] rfl (hE x4 x5 x6 x7 K)
    · rw [if_neg c42] at K hs
      refine z_go2 M.1 45 [(.aload_n 0, 1), (.getfield 27, 3), (.iload_n 3, 1)] (50, [(0, z_r 36), (1, .inl x1), (2, .inl x2), (3, .inl x3), (4, .inl x4), (5, .inl x5), (6, .inl x6), (7, .inl x7), (8, .inl x8)], [.inl x3, z_r 42], zW T' (zwG G' 9) S n, 0, 0) (by decide +kernel) rfl ⟨trivial, rfl, trivial, trivial⟩ ?_
      refine z_callS M.1 (av := [z_r 42, .inl x3]) (st := []) (by decide +kernel) (c_at (zW T' (zwG G' 9) S n) 42 3 rfl (by decide) x3) M.2.1 zl_Sight_72 zs_T_at ⟨by decide, by decide, by decide, by decide⟩ rfl (Nat.le_of_ble_eq_true rfl) (fun v w' hv => ?_)
      obtain ⟨rfl, rfl⟩ := hv
      show z_G X zm_Sight_computed (53, [(0, z_r 36), (1, .inl x1), (2, .inl x2), (3, .inl x3), (4, .inl x4), (5, .inl x5), (6, .inl x6), (7, .inl x7), (8, .inl x8)], [.inl (zAt (S 42) 3 x3)], zW T' (zwG G' 9) S n, 0, 0)
      refine z_go2 M.1 53 [(.iload 8, 2)] (55, [(0, z_r 36), (1, .inl x1), (2, .inl x2), (3, .inl x3), (4, .inl x4), (5, .inl x5), (6, .inl x6), (7, .inl x7), (8, .inl x8)], [.inl x8, .inl (zAt (S 42) 3 x3)], zW T' (zwG G' 9) S n, 0, 0) (by decide +kernel) rfl ⟨trivial, trivial⟩ ?_
      refine z_callS M.1 (av := [.inl (zAt (S 42) 3 x3), .inl x8]) (st := []) (by decide +kernel) (c_T_isIn T' (zwG G' 9) S n (zAt (S 42) 3 x3) x8) M.2.1 zl_Sight_90 zs_T_isIn ⟨by decide, by decide, by decide, by decide⟩ rfl (Nat.le_of_ble_eq_true rfl) (fun v w' hv => ?_)
      obtain ⟨rfl, rfl⟩ := hv
      show z_G X zm_Sight_computed (58, [(0, z_r 36), (1, .inl x1), (2, .inl x2), (3, .inl x3), (4, .inl x4), (5, .inl x5), (6, .inl x6), (7, .inl x7), (8, .inl x8)], [.inl (F_T_isIn S (zAt (S 42) 3 x3) x8)], zW T' (zwG G' 9) S n, 0, 0)
      refine z_if_eq 130 M.1 (off := 72) (by decide +kernel) (by decide) (fun c58 => ?_) (fun c58 => ?_)
      · rw [if_pos c58] at K hs
        refine z_go2 M.1 130 [(.iinc 8 1, 3), (.goto (-95), 3)] (38, [(8, .inl (x8 + 1)), (0, z_r 36), (1, .inl x1), (2, .inl x2), (3, .inl x3), (4, .inl x4), (5, .inl x5), (6, .inl x6), (7, .inl x7)], [], zW T' (zwG G' 9) S n, 0, 0) (by decide +kernel) rfl ⟨trivial, trivial, trivial⟩ ?_
        exact z_lvs (lv' := [(0, z_r 36), (1, .inl x1), (2, .inl x2), (3, .inl x3), (4, .inl x4), (5, .inl x5), (6, .inl x6), (7, .inl x7), (8, .inl (x8 + 1))]) [1, 2, 3, 4, 5, 6, 7, 8, 0] rfl (hC x4 x5 x6 x7 (x8 + 1) K hs)
      · rw [if_neg c58] at K hs
        refine z_go2 M.1 61 [(.aload_n 0, 1), (.getfield 40, 3), (.iload 8, 2), (.iconst 5, 1)] (68, [(0, z_r 36), (1, .inl x1), (2, .inl x2), (3, .inl x3), (4, .inl x4), (5, .inl x5), (6, .inl x6), (7, .inl x7), (8, .inl x8)], [.inl 5, .inl x8, z_r 9], zW T' (zwG G' 9) S n, 0, 0) (by decide +kernel) rfl ⟨trivial, rfl, trivial, trivial, trivial⟩ ?_
        refine z_callV M.1 (av := [.inl x8, .inl 5]) (st := []) (a := 9) (ci := 10) (by decide +kernel) (c_World_cell_9 T' (zwG G' 9) S n x8 5 hs.1) M.2.1 zl_Sight_61 zv_World_cell rfl rfl rfl ⟨by decide, by decide, by decide, by decide⟩ rfl (Nat.le_of_ble_eq_true rfl) (fun v w' hv => ?_)
        obtain ⟨rfl, rfl⟩ := hv
        replace hs := hs.2
        show z_G X zm_Sight_computed (71, [(0, z_r 36), (1, .inl x1), (2, .inl x2), (3, .inl x3), (4, .inl x4), (5, .inl x5), (6, .inl x6), (7, .inl x7), (8, .inl x8)], [.inl (F_World_cell 9 S x8 5)], zW T' (zwG G' 9) S n, 0, 0)
        refine z_go2 M.1 71 [(.iload_n 1, 1)] (72, [(0, z_r 36), (1, .inl x1), (2, .inl x2), (3, .inl x3), (4, .inl x4), (5, .inl x5), (6, .inl x6), (7, .inl x7), (8, .inl x8)], [.inl x1, .inl (F_World_cell 9 S x8 5)], zW T' (zwG G' 9) S n, 0, 0) (by decide +kernel) rfl ⟨trivial, trivial⟩ ?_
        refine z_icmp_ne 130 M.1 (off := 58) (by decide +kernel) (by decide) (fun c72 => ?_) (fun c72 => ?_)
        · rw [if_neg c72] at K hs
          refine z_go2 M.1 130 [(.iinc 8 1, 3), (.goto (-95), 3)] (38, [(8, .inl (x8 + 1)), (0, z_r 36), (1, .inl x1), (2, .inl x2), (3, .inl x3), (4, .inl x4), (5, .inl x5), (6, .inl x6), (7, .inl x7)], [], zW T' (zwG G' 9) S n, 0, 0) (by decide +kernel) rfl ⟨trivial, trivial, trivial⟩ ?_
          exact z_lvs (lv' := [(0, z_r 36), (1, .inl x1), (2, .inl x2), (3, .inl x3), (4, .inl x4), (5, .inl x5), (6, .inl x6), (7, .inl x7), (8, .inl (x8 + 1))]) [1, 2, 3, 4, 5, 6, 7, 8, 0] rfl (hC x4 x5 x6 x7 (x8 + 1) K hs)
        · rw [if_pos c72] at K hs
          refine z_go2 M.1 75 [(.aload_n 0, 1), (.getfield 40, 3), (.iload 8, 2), (.iconst 1, 1), (.iload_n 3, 1), (.iadd, 1)] (84, [(0, z_r 36), (1, .inl x1), (2, .inl x2), (3, .inl x3), (4, .inl x4), (5, .inl x5), (6, .inl x6), (7, .inl x7), (8, .inl x8)], [.inl ((1 : Int32) + x3), .inl x8, z_r 9], zW T' (zwG G' 9) S n, 0, 0) (by decide +kernel) rfl ⟨trivial, rfl, trivial, trivial, trivial, trivial, trivial⟩ ?_
          refine z_callV M.1 (av := [.inl x8, .inl ((1 : Int32) + x3)]) (st := []) (a := 9) (ci := 10) (by decide +kernel) (c_World_cell_9 T' (zwG G' 9) S n x8 ((1 : Int32) + x3) hs.1) M.2.1 zl_Sight_61 zv_World_cell rfl rfl rfl ⟨by decide, by decide, by decide, by decide⟩ rfl (Nat.le_of_ble_eq_true rfl) (fun v w' hv => ?_)
          obtain ⟨rfl, rfl⟩ := hv
          replace hs := hs.2
          show z_G X zm_Sight_computed (87, [(0, z_r 36), (1, .inl x1), (2, .inl x2), (3, .inl x3), (4, .inl x4), (5, .inl x5), (6, .inl x6), (7, .inl x7), (8, .inl x8)], [.inl (F_World_cell 9 S x8 ((1 : Int32) + x3))], zW T' (zwG G' 9) S n, 0, 0)
          refine z_go2 M.1 87 [(.istore 9, 2), (.iinc 4 1, 3), (.iload 5, 2), (.iload 9, 2), (.iadd, 1), (.istore 5, 2), (.iload 6, 2), (.iconst (-1), 1)] (102, [(5, .inl (x5 + (F_World_cell 9 S x8 ((1 : Int32) + x3)))), (4, .inl (x4 + 1)), (9, .inl (F_World_cell 9 S x8 ((1 : Int32) + x3))), (0, z_r 36), (1, .inl x1), (2, .inl x2), (3, .inl x3), (6, .inl x6), (7, .inl x7), (8, .inl x8)], [.inl (-1), .inl x6], zW T' (zwG G' 9) S n, 0, 0) (by decide +kernel) rfl ⟨trivial, trivial, trivial, trivial, trivial, trivial, trivial, trivial, trivial⟩ ?_
          refine z_icmp_eq 112 M.1 (off := 10) (by decide +kernel) (by decide) (fun c102 => ?_) (fun c102 => ?_)
          · rw [if_pos c102] at K hs
            exact z_lvs (lv' := [(0, z_r 36), (1, .inl x1), (2, .inl x2), (3, .inl x3), (4, .inl (x4 + 1)), (5, .inl (x5 + (F_World_cell 9 S x8 ((1 : Int32) + x3)))), (7, .inl x7), (8, .inl x8), (9, .inl (F_World_cell 9 S x8 ((1 : Int32) + x3)))]) [3, 4, 5, 6, 1, 0, 8, 9, 2] rfl (t_Sight_computed_l38_112_9 M (F_Sight_computed_L38 9 S x1 x2 x3 f) (Sf_Sight_computed_L38 9 S x1 x2 x3 f) S x1 x2 x3 (x4 + 1) (x5 + (F_World_cell 9 S x8 ((1 : Int32) + x3))) x7 x8 (F_World_cell 9 S x8 ((1 : Int32) + x3)) hE hC K hs)
          · rw [if_neg c102] at K hs
            refine z_go2 M.1 105 [(.iload 9, 2), (.iload 6, 2)] (109, [(5, .inl (x5 + (F_World_cell 9 S x8 ((1 : Int32) + x3)))), (4, .inl (x4 + 1)), (9, .inl (F_World_cell 9 S x8 ((1 : Int32) + x3))), (0, z_r 36), (1, .inl x1), (2, .inl x2), (3, .inl x3), (6, .inl x6), (7, .inl x7), (8, .inl x8)], [.inl x6, .inl (F_World_cell 9 S x8 ((1 : Int32) + x3))], zW T' (zwG G' 9) S n, 0, 0) (by decide +kernel) rfl ⟨trivial, trivial, trivial⟩ ?_
            refine z_icmp_ge 117 M.1 (off := 8) (by decide +kernel) (by decide) (fun c109 => ?_) (fun c109 => ?_)
            · rw [if_pos c109] at K hs
              refine z_go2 M.1 117 [(.iload 6, 2)] (119, [(5, .inl (x5 + (F_World_cell 9 S x8 ((1 : Int32) + x3)))), (4, .inl (x4 + 1)), (9, .inl (F_World_cell 9 S x8 ((1 : Int32) + x3))), (0, z_r 36), (1, .inl x1), (2, .inl x2), (3, .inl x3), (6, .inl x6), (7, .inl x7), (8, .inl x8)], [.inl x6], zW T' (zwG G' 9) S n, 0, 0) (by decide +kernel) rfl ⟨trivial, trivial⟩ ?_
              exact z_lvs (lv' := [(0, z_r 36), (1, .inl x1), (2, .inl x2), (3, .inl x3), (4, .inl (x4 + 1)), (5, .inl (x5 + (F_World_cell 9 S x8 ((1 : Int32) + x3)))), (7, .inl x7), (8, .inl x8), (9, .inl (F_World_cell 9 S x8 ((1 : Int32) + x3)))]) [3, 4, 5, 6, 1, 0, 8, 9, 2] rfl (t_Sight_computed_l38_119_9 M (F_Sight_computed_L38 9 S x1 x2 x3 f) (Sf_Sight_computed_L38 9 S x1 x2 x3 f) S x1 x2 x3 (x4 + 1) (x5 + (F_World_cell 9 S x8 ((1 : Int32) + x3))) x7 x8 (F_World_cell 9 S x8 ((1 : Int32) + x3)) x6 hE hC K hs)
            · rw [if_neg c109] at K hs
              exact z_lvs (lv' := [(0, z_r 36), (1, .inl x1), (2, .inl x2), (3, .inl x3), (4, .inl (x4 + 1)), (5, .inl (x5 + (F_World_cell 9 S x8 ((1 : Int32) + x3)))), (7, .inl x7), (8, .inl x8), (9, .inl (F_World_cell 9 S x8 ((1 : Int32) + x3)))]) [3, 4, 5, 6, 1, 0, 8, 9, 2] rfl (t_Sight_computed_l38_112_9 M (F_Sight_computed_L38 9 S x1 x2 x3 f) (Sf_Sight_computed_L38 9 S x1 x2 x3 f) S x1 x2 x3 (x4 + 1) (x5 + (F_World_cell 9 S x8 ((1 : Int32) + x3))) x7 x8 (F_World_cell 9 S x8 ((1 : Int32) + x3)) hE hC K hs)
theorem t_Sight_computed_L38_28 {X : z_X} {Post : Option z_V → z_W → Prop} (M : z_M X zm_Sight_computed rm_Sight_computed Post) {T' : Nat → Nat × Nat} {G' : Nat → Nat → Option Nat} {n : Nat} {Q : (Int32 × Int32 × Int32 × Int32) → Prop} (S : (Nat → Nat → Int32))  (x1 : Int32) (x2 : Int32) (x3 : Int32) (hE : ∀ (y4 : Int32) (y5 : Int32) (y6 : Int32) (y7 : Int32), Q (y4, y5, y6, y7) → z_G X zm_Sight_computed (136, [(0, z_r 36), (2, .inl x2), (4, .inl y4), (5, .inl y5), (6, .inl y6), (7, .inl y7)], [], zW T' (zwG G' 28) S n, 0, 0)) (f : Nat) : ∀ (x4 : Int32) (x5 : Int32) (x6 : Int32) (x7 : Int32) (x8 : Int32), Q (F_Sight_computed_L38 28 S x1 x2 x3 f x4 x5 x6 x7 x8) → Sf_Sight_computed_L38 28 S x1 x2 x3 f x4 x5 x6 x7 x8 → z_G X zm_Sight_computed (38, [(0, z_r 36), (1, .inl x1), (2, .inl x2), (3, .inl x3), (4, .inl x4), (5, .inl x5), (6, .inl x6), (7, .inl x7), (8, .inl x8)], [], zW T' (zwG G' 28) S n, 0, 0) := by
  induction f with
  | zero => intro x4 x5 x6 x7 x8 K hs; exact False.elim hs
  | succ f hC =>
    intro x4 x5 x6 x7 x8 K hs
    rw [F_Sight_computed_L38] at K
    rw [Sf_Sight_computed_L38] at hs
    try simp only [Nat.reduceAdd] at K hs
    refine z_go2 M.1 38 [(.iload 8, 2), (.bipush 30, 2)] (42, [(0, z_r 36), (1, .inl x1), (2, .inl x2), (3, .inl x3), (4, .inl x4), (5, .inl x5), (6, .inl x6), (7, .inl x7), (8, .inl x8)], [.inl 30, .inl x8], zW T' (zwG G' 28) S n, 0, 0) (by decide +kernel) rfl ⟨trivial, trivial, trivial⟩ ?_
    refine z_icmp_ge 136 M.1 (off := 94) (by decide +kernel) (by decide) (fun c42 => ?_) (fun c42 => ?_)
    · rw [if_pos c42] at K hs
      exact z_lvs (lv' := [(0, z_r 36), (2, .inl x2), (4, .inl x4), (5, .inl x5), (6, .inl x6), (7, .inl x7)]) [0, 2, 4, 5, 6, 7] rfl (hE x4 x5 x6 x7 K)
    · rw [if_neg c42] at K hs
      refine z_go2 M.1 45 [(.aload_n 0, 1), (.getfield 27, 3), (.iload_n 3, 1)] (50, [(0, z_r 36), (1, .inl x1), (2, .inl x2), (3, .inl x3), (4, .inl x4), (5, .inl x5), (6, .inl x6), (7, .inl x7), (8, .inl x8)], [.inl x3, z_r 42], zW T' (zwG G' 28) S n, 0, 0) (by decide +kernel) rfl ⟨trivial, rfl, trivial, trivial⟩ ?_
      refine z_callS M.1 (av := [z_r 42, .inl x3]) (st := []) (by decide +kernel) (c_at (zW T' (zwG G' 28) S n) 42 3 rfl (by decide) x3) M.2.1 zl_Sight_72 zs_T_at ⟨by decide, by decide, by decide, by decide⟩ rfl (Nat.le_of_ble_eq_true rfl) (fun v w' hv => ?_)
      obtain ⟨rfl, rfl⟩ := hv
      show z_G X zm_Sight_computed (53, [(0, z_r 36), (1, .inl x1), (2, .inl x2), (3, .inl x3), (4, .inl x4), (5, .inl x5), (6, .inl x6), (7, .inl x7), (8, .inl x8)], [.inl (zAt (S 42) 3 x3)], zW T' (zwG G' 28) S n, 0, 0)
      refine z_go2 M.1 53 [(.iload 8, 2)] (55, [(0, z_r 36), (1, .inl x1), (2, .inl x2), (3, .inl x3), (4, .inl x4), (5, .inl x5), (6, .inl x6), (7, .inl x7), (8, .inl x8)], [.inl x8, .inl (zAt (S 42) 3 x3)], zW T' (zwG G' 28) S n, 0, 0) (by decide +kernel) rfl ⟨trivial, trivial⟩ ?_
      refine z_callS M.1 (av := [.inl (zAt (S 42) 3 x3), .inl x8]) (st := []) (by decide +kernel) (c_T_isIn T' (zwG G' 28) S n (zAt (S 42) 3 x3) x8) M.2.1 zl_Sight_90 zs_T_isIn ⟨by decide, by decide, by decide, by decide⟩ rfl (Nat.le_of_ble_eq_true rfl) (fun v w' hv => ?_)
      obtain ⟨rfl, rfl⟩ := hv
      show z_G X zm_Sight_computed (58, [(0, z_r 36), (1, .inl x1), (2, .inl x2), (3, .inl x3), (4, .inl x4), (5, .inl x5), (6, .inl x6), (7, .inl x7), (8, .inl x8)], [.inl (F_T_isIn S (zAt (S 42) 3 x3) x8)], zW T' (zwG G' 28) S n, 0, 0)
      refine z_if_eq 130 M.1 (off := 72) (by decide +kernel) (by decide) (fun c58 => ?_) (fun c58 => ?_)
      · rw [if_pos c58] at K hs
        refine z_go2 M.1 130 [(.iinc 8 1, 3), (.goto (-95), 3)] (38, [(8, .inl (x8 + 1)), (0, z_r 36), (1, .inl x1), (2, .inl x2), (3, .inl x3), (4, .inl x4), (5, .inl x5), (6, .inl x6), (7, .inl x7)], [], zW T' (zwG G' 28) S n, 0, 0) (by decide +kernel) rfl ⟨trivial, trivial, trivial⟩ ?_
        exact z_lvs (lv' := [(0, z_r 36), (1, .inl x1), (2, .inl x2), (3, .inl x3), (4, .inl x4), (5, .inl x5), (6, .inl x6), (7, .inl x7), (8, .inl (x8 + 1))]) [1, 2, 3, 4, 5, 6, 7, 8, 0] rfl (hC x4 x5 x6 x7 (x8 + 1) K hs)
      · rw [if_neg c58] at K hs
        refine z_go2 M.1 61 [(.aload_n 0, 1), (.getfield 40, 3), (.iload 8, 2), (.iconst 5, 1)] (68, [(0, z_r 36), (1, .inl x1), (2, .inl x2), (3, .inl x3), (4, .inl x4), (5, .inl x5), (6, .inl x6), (7, .inl x7), (8, .inl x8)], [.inl 5, .inl x8, z_r 28], zW T' (zwG G' 28) S n, 0, 0) (by decide +kernel) rfl ⟨trivial, rfl, trivial, trivial, trivial⟩ ?_
        refine z_callV M.1 (av := [.inl x8, .inl 5]) (st := []) (a := 28) (ci := 10) (by decide +kernel) (c_World_cell_28 T' (zwG G' 28) S n x8 5 hs.1) M.2.1 zl_Sight_61 zv_World_cell rfl rfl rfl ⟨by decide, by decide, by decide, by decide⟩ rfl (Nat.le_of_ble_eq_true rfl) (fun v w' hv => ?_)
        obtain ⟨rfl, rfl⟩ := hv
        replace hs := hs.2
        show z_G X zm_Sight_computed (71, [(0, z_r 36), (1, .inl x1), (2, .inl x2), (3, .inl x3), (4, .inl x4), (5, .inl x5), (6, .inl x6), (7, .inl x7), (8, .inl x8)], [.inl (F_World_cell 28 S x8 5)], zW T' (zwG G' 28) S n, 0, 0)
        refine z_go2 M.1 71 [(.iload_n 1, 1)] (72, [(0, z_r 36), (1, .inl x1), (2, .inl x2), (3, .inl x3), (4, .inl x4), (5, .inl x5), (6, .inl x6), (7, .inl x7), (8, .inl x8)], [.inl x1, .inl (F_World_cell 28 S x8 5)], zW T' (zwG G' 28) S n, 0, 0) (by decide +kernel) rfl ⟨trivial, trivial⟩ ?_
        refine z_icmp_ne 130 M.1 (off := 58) (by decide +kernel) (by decide) (fun c72 => ?_) (fun c72 => ?_)
        · rw [if_neg c72] at K hs
          refine z_go2 M.1 130 [(.iinc 8 1, 3), (.goto (-95), 3)] (38, [(8, .inl (x8 + 1)), (0, z_r 36), (1, .inl x1), (2, .inl x2), (3, .inl x3), (4, .inl x4), (5, .inl x5), (6, .inl x6), (7, .inl x7)], [], zW T' (zwG G' 28) S n, 0, 0) (by decide +kernel) rfl ⟨trivial, trivial, trivial⟩ ?_
          exact z_lvs (lv' := [(0, z_r 36), (1, .inl x1), (2, .inl x2), (3, .inl x3), (4, .inl x4), (5, .inl x5), (6, .inl x6), (7, .inl x7), (8, .inl (x8 + 1))]) [1, 2, 3, 4, 5, 6, 7, 8, 0] rfl (hC x4 x5 x6 x7 (x8 + 1) K hs)
        · rw [if_pos c72] at K hs
          refine z_go2 M.1 75 [(.aload_n 0, 1), (.getfield 40, 3), (.iload 8, 2), (.iconst 1, 1), (.iload_n 3, 1), (.iadd, 1)] (84, [(0, z_r 36), (1, .inl x1), (2, .inl x2), (3, .inl x3), (4, .inl x4), (5, .inl x5), (6, .inl x6), (7, .inl x7), (8, .inl x8)], [.inl ((1 : Int32) + x3), .inl x8, z_r 28], zW T' (zwG G' 28) S n, 0, 0) (by decide +kernel) rfl ⟨trivial, rfl, trivial, trivial, trivial, trivial, trivial⟩ ?_
          refine z_callV M.1 (av := [.inl x8, .inl ((1 : Int32) + x3)]) (st := []) (a := 28) (ci := 10) (by decide +kernel) (c_World_cell_28 T' (zwG G' 28) S n x8 ((1 : Int32) + x3) hs.1) M.2.1 zl_Sight_61 zv_World_cell rfl rfl rfl ⟨by decide, by decide, by decide, by decide⟩ rfl (Nat.le_of_ble_eq_true rfl) (fun v w' hv => ?_)
          obtain ⟨rfl, rfl⟩ := hv
          replace hs := hs.2
          show z_G X zm_Sight_computed (87, [(0, z_r 36), (1, .inl x1), (2, .inl x2), (3, .inl x3), (4, .inl x4), (5, .inl x5), (6, .inl x6), (7, .inl x7), (8, .inl x8)], [.inl (F_World_cell 28 S x8 ((1 : Int32) + x3))], zW T' (zwG G' 28) S n, 0, 0)
          refine z_go2 M.1 87 [(.istore 9, 2), (.iinc 4 1, 3), (.iload 5, 2), (.iload 9, 2), (.iadd, 1), (.istore 5, 2), (.iload 6, 2), (.iconst (-1), 1)] (102, [(5, .inl (x5 + (F_World_cell 28 S x8 ((1 : Int32) + x3)))), (4, .inl (x4 + 1)), (9, .inl (F_World_cell 28 S x8 ((1 : Int32) + x3))), (0, z_r 36), (1, .inl x1), (2, .inl x2), (3, .inl x3), (6, .inl x6), (7, .inl x7), (8, .inl x8)], [.inl (-1), .inl x6], zW T' (zwG G' 28) S n, 0, 0) (by decide +kernel) rfl ⟨trivial, trivial, trivial, trivial, trivial, trivial, trivial, trivial, trivial⟩ ?_
          refine z_icmp_eq 112 M.1 (off := 10) (by decide +kernel) (by decide) (fun c102 => ?_) (fun c102 => ?_)
          · rw [if_pos c102] at K hs
            exact z_lvs (lv' := [(0, z_r 36), (1, .inl x1), (2, .inl x2), (3, .inl x3), (4, .inl (x4 + 1)), (5, .inl (x5 + (F_World_cell 28 S x8 ((1 : Int32) + x3)))), (7, .inl x7), (8, .inl x8), (9, .inl (F_World_cell 28 S x8 ((1 : Int32) + x3)))]) [3, 4, 5, 6, 1, 0, 8, 9, 2] rfl (t_Sight_computed_l38_112_28 M (F_Sight_computed_L38 28 S x1 x2 x3 f) (Sf_Sight_computed_L38 28 S x1 x2 x3 f) S x1 x2 x3 (x4 + 1) (x5 + (F_World_cell 28 S x8 ((1 : Int32) + x3))) x7 x8 (F_World_cell 28 S x8 ((1 : Int32) + x3)) hE hC K hs)
          · rw [if_neg c102] at K hs
            refine z_go2 M.1 105 [(.iload 9, 2), (.iload 6, 2)] (109, [(5, .inl (x5 + (F_World_cell 28 S x8 ((1 : Int32) + x3)))), (4, .inl (x4 + 1)), (9, .inl (F_World_cell 28 S x8 ((1 : Int32) + x3))), (0, z_r 36), (1, .inl x1), (2, .inl x2), (3, .inl x3), (6, .inl x6), (7, .inl x7), (8, .inl x8)], [.inl x6, .inl (F_World_cell 28 S x8 ((1 : Int32) + x3))], zW T' (zwG G' 28) S n, 0, 0) (by decide +kernel) rfl ⟨trivial, trivial, trivial⟩ ?_
            refine z_icmp_ge 117 M.1 (off := 8) (by decide +kernel) (by decide) (fun c109 => ?_) (fun c109 => ?_)
            · rw [if_pos c109] at K hs
              refine z_go2 M.1 117 [(.iload 6, 2)] (119, [(5, .inl (x5 + (F_World_cell 28 S x8 ((1 : Int32) + x3)))), (4, .inl (x4 + 1)), (9, .inl (F_World_cell 28 S x8 ((1 : Int32) + x3))), (0, z_r 36), (1, .inl x1), (2, .inl x2), (3, .inl x3), (6, .inl x6), (7, .inl x7), (8, .inl x8)], [.inl x6], zW T' (zwG G' 28) S n, 0, 0) (by decide +kernel) rfl ⟨trivial, trivial⟩ ?_
              exact z_lvs (lv' := [(0, z_r 36), (1, .inl x1), (2, .inl x2), (3, .inl x3), (4, .inl (x4 + 1)), (5, .inl (x5 + (F_World_cell 28 S x8 ((1 : Int32) + x3)))), (7, .inl x7), (8, .inl x8), (9, .inl (F_World_cell 28 S x8 ((1 : Int32) + x3)))]) [3, 4, 5, 6, 1, 0, 8, 9, 2] rfl (t_Sight_computed_l38_119_28 M (F_Sight_computed_L38 28 S x1 x2 x3 f) (Sf_Sight_computed_L38 28 S x1 x2 x3 f) S x1 x2 x3 (x4 + 1) (x5 + (F_World_cell 28 S x8 ((1 : Int32) + x3))) x7 x8 (F_World_cell 28 S x8 ((1 : Int32) + x3)) x6 hE hC K hs)
            · rw [if_neg c109] at K hs
              exact z_lvs (lv' := [(0, z_r 36), (1, .inl x1), (2, .inl x2), (3, .inl x3), (4, .inl (x4 + 1)), (5, .inl (x5 + (F_World_cell 28 S x8 ((1 : Int32) + x3)))), (7, .inl x7), (8, .inl x8), (9, .inl (F_World_cell 28 S x8 ((1 : Int32) + x3)))]) [3, 4, 5, 6, 1, 0, 8, 9, 2] rfl (t_Sight_computed_l38_112_28 M (F_Sight_computed_L38 28 S x1 x2 x3 f) (Sf_Sight_computed_L38 28 S x1 x2 x3 f) S x1 x2 x3 (x4 + 1) (x5 + (F_World_cell 28 S x8 ((1 : Int32) + x3))) x7 x8 (F_World_cell 28 S x8 ((1 : Int32) + x3)) hE hC K hs)
def F_Sight_computed (wd : Nat) (S : (Nat → Nat → Int32)) (p1 : Int32) : Int32 := (match F_Sight_computed_L38 wd S p1 (F_World_cell wd S p1 9) (zAt (S 46) 3 (F_World_cell wd S p1 9)) 1300 0 0 (-1) (-1) 0 with | (y4_38, y5_38, y6_38, y7_38) => (if (zAt (S 45) 3 (F_World_cell wd S p1 9)) = 0 then y4_38 else (if (zAt (S 45) 3 (F_World_cell wd S p1 9)) = 1 then y5_38 else (if (zAt (S 45) 3 (F_World_cell wd S p1 9)) = 2 then y6_38 else (if (zAt (S 45) 3 (F_World_cell wd S p1 9)) = 3 then y7_38 else (-1))))))
def Sf_Sight_computed (wd : Nat) (S : (Nat → Nat → Int32)) (p1 : Int32) : Prop := (Sf_World_cell wd S p1 9 ∧ (Sf_Sight_computed_L38 wd S p1 (F_World_cell wd S p1 9) (zAt (S 46) 3 (F_World_cell wd S p1 9)) 1300 0 0 (-1) (-1) 0 ∧ True))
theorem c_Sight_computed_9 (T' : Nat → Nat × Nat) (G' : Nat → Nat → Option Nat) (S : (Nat → Nat → Int32)) (n : Nat) (p1 : Int32) (hs : Sf_Sight_computed 9 S p1) : z_Run rm_Sight_computed zm_Sight_computed [z_r 36, .inl p1] (zW T' (zwG G' 9) S n) (zq (some (.inl (F_Sight_computed 9 S p1))) (zW T' (zwG G' 9) S n)) := by
  refine z_body (by decide) zf_Sight_ok (Nat.le_of_ble_eq_true rfl) (fun X M => ?_)
  obtain ⟨Q, hQ, K⟩ : ∃ Q : Int32 → Prop, (∀ v, Q v → zq (some (.inl (F_Sight_computed 9 S p1))) (zW T' (zwG G' 9) S n) (some (.inl v)) (zW T' (zwG G' 9) S n)) ∧ Q (F_Sight_computed 9 S p1) := ⟨fun o => F_Sight_computed 9 S p1 = o, fun v h => ⟨by rw [h], rfl⟩, rfl⟩
  show z_G X zm_Sight_computed (0, [(0, z_r 36), (1, .inl p1)], [], zW T' (zwG G' 9) S n, 0, 0)
  unfold F_Sight_computed at K
  unfold Sf_Sight_computed at hs
  try simp only [Nat.reduceAdd] at K hs
  refine z_go2 M.1 0 [(.aload_n 0, 1), (.getfield 40, 3), (.iload_n 1, 1), (.bipush 9, 2)] (7, [(0, z_r 36), (1, .inl p1)], [.inl 9, .inl p1, z_r 9], zW T' (zwG G' 9) S n, 0, 0) (by decide +kernel) rfl ⟨trivial, rfl, trivial, trivial, trivial⟩ ?_
  refine z_callV M.1 (av := [.inl p1, .inl 9]) (st := []) (a := 9) (ci := 10) (by decide +kernel) (c_World_cell_9 T' (zwG G' 9) S n p1 9 hs.1) M.2.1 zl_Sight_61 zv_World_cell rfl rfl rfl ⟨by decide, by decide, by decide, by decide⟩ rfl (Nat.le_of_ble_eq_true rfl) (fun v w' hv => ?_)
  obtain ⟨rfl, rfl⟩ := hv
  replace hs := hs.2
  show z_G X zm_Sight_computed (10, [(0, z_r 36), (1, .inl p1)], [.inl (F_World_cell 9 S p1 9)], zW T' (zwG G' 9) S n, 0, 0)
  refine z_go2 M.1 10 [(.istore_n 2, 1), (.aload_n 0, 1), (.getfield 33, 3), (.getfield 99, 3), (.iload_n 2, 1)] (19, [(2, .inl (F_World_cell 9 S p1 9)), (0, z_r 36), (1, .inl p1)], [.inl (F_World_cell 9 S p1 9), z_r 46], zW T' (zwG G' 9) S n, 0, 0) (by decide +kernel) rfl ⟨trivial, trivial, rfl, rfl, trivial, trivial⟩ ?_
  refine z_callS M.1 (av := [z_r 46, .inl (F_World_cell 9 S p1 9)]) (st := []) (by decide +kernel) (c_at (zW T' (zwG G' 9) S n) 46 3 rfl (by decide) (F_World_cell 9 S p1 9)) M.2.1 zl_Sight_72 zs_T_at ⟨by decide, by decide, by decide, by decide⟩ rfl (Nat.le_of_ble_eq_true rfl) (fun v w' hv => ?_)
  obtain ⟨rfl, rfl⟩ := hv
  show z_G X zm_Sight_computed (22, [(2, .inl (F_World_cell 9 S p1 9)), (0, z_r 36), (1, .inl p1)], [.inl (zAt (S 46) 3 (F_World_cell 9 S p1 9))], zW T' (zwG G' 9) S n, 0, 0)
  refine z_go2 M.1 22 [(.istore_n 3, 1), (.iconst 0, 1), (.istore 4, 2), (.iconst 0, 1), (.istore 5, 2), (.iconst (-1), 1), (.istore 6, 2), (.iconst (-1), 1), (.istore 7, 2), (.iconst 0, 1), (.istore 8, 2)] (38, [(8, .inl 0), (7, .inl (-1)), (6, .inl (-1)), (5, .inl 0), (4, .inl 0), (3, .inl (zAt (S 46) 3 (F_World_cell 9 S p1 9))), (2, .inl (F_World_cell 9 S p1 9)), (0, z_r 36), (1, .inl p1)], [], zW T' (zwG G' 9) S n, 0, 0) (by decide +kernel) rfl ⟨trivial, trivial, trivial, trivial, trivial, trivial, trivial, trivial, trivial, trivial, trivial, trivial⟩ ?_
  refine z_lvs (lv' := [(0, z_r 36), (1, .inl p1), (2, .inl (F_World_cell 9 S p1 9)), (3, .inl (zAt (S 46) 3 (F_World_cell 9 S p1 9))), (4, .inl 0), (5, .inl 0), (6, .inl (-1)), (7, .inl (-1)), (8, .inl 0)]) [7, 8, 6, 5, 4, 3, 2, 1, 0] rfl ?_
  refine t_Sight_computed_L38_9 M (Q := fun o => F_Sight_computed_L38 9 S p1 (F_World_cell 9 S p1 9) (zAt (S 46) 3 (F_World_cell 9 S p1 9)) 1300 0 0 (-1) (-1) 0 = o) S p1 (F_World_cell 9 S p1 9) (zAt (S 46) 3 (F_World_cell 9 S p1 9)) (fun y4_38 y5_38 y6_38 y7_38 hL38 => ?_) 1300 0 0 (-1) (-1) 0 rfl hs.1
  replace hs := hs.2
  rw [hL38] at K
  try dsimp only at K
  refine z_go2 M.1 136 [(.aload_n 0, 1), (.getfield 33, 3), (.getfield 107, 3), (.iload_n 2, 1)] (144, [(0, z_r 36), (2, .inl (F_World_cell 9 S p1 9)), (4, .inl y4_38), (5, .inl y5_38), (6, .inl y6_38), (7, .inl y7_38)], [.inl (F_World_cell 9 S p1 9), z_r 45], zW T' (zwG G' 9) S n, 0, 0) (by decide +kernel) rfl ⟨trivial, rfl, rfl, trivial, trivial⟩ ?_
  refine z_callS M.1 (av := [z_r 45, .inl (F_World_cell 9 S p1 9)]) (st := []) (by decide +kernel) (c_at (zW T' (zwG G' 9) S n) 45 3 rfl (by decide) (F_World_cell 9 S p1 9)) M.2.1 zl_Sight_72 zs_T_at ⟨by decide, by decide, by decide, by decide⟩ rfl (Nat.le_of_ble_eq_true rfl) (fun v w' hv => ?_)
  obtain ⟨rfl, rfl⟩ := hv
  show z_G X zm_Sight_computed (147, [(0, z_r 36), (2, .inl (F_World_cell 9 S p1 9)), (4, .inl y4_38), (5, .inl y5_38), (6, .inl y6_38), (7, .inl y7_38)], [.inl (zAt (S 45) 3 (F_World_cell 9 S p1 9))], zW T' (zwG G' 9) S n, 0, 0)
  by_cases c147_0 : (zAt (S 45) 3 (F_World_cell 9 S p1 9)) = 0
  · rw [if_pos c147_0] at K
    refine z_tabE 176 M.1 (dflt := 41) (lo := 0) (hi := 3) (offs := #[29, 32, 35, 38]) (len := 29) c147_0 (off := 29) (by decide +kernel) (by decide) (by decide) (by decide) (by decide) ?_
    refine z_go2 M.1 176 [(.iload 4, 2)] (178, [(0, z_r 36), (2, .inl (F_World_cell 9 S p1 9)), (4, .inl y4_38), (5, .inl y5_38), (6, .inl y6_38), (7, .inl y7_38)], [.inl y4_38], zW T' (zwG G' 9) S n, 0, 0) (by decide +kernel) rfl ⟨trivial, trivial⟩ ?_
    exact z_iret M (by decide +kernel) .int rfl rfl (by decide) (by decide) (hQ _ K)
  · rw [if_neg c147_0] at K
    by_cases c147_1 : (zAt (S 45) 3 (F_World_cell 9 S p1 9)) = 1
    · rw [if_pos c147_1] at K
      refine z_tabE 179 M.1 (dflt := 41) (lo := 0) (hi := 3) (offs := #[29, 32, 35, 38]) (len := 29) c147_1 (off := 32) (by decide +kernel) (by decide) (by decide) (by decide) (by decide) ?_
      refine z_go2 M.1 179 [(.iload 5, 2)] (181, [(0, z_r 36), (2, .inl (F_World_cell 9 S p1 9)), (4, .inl y4_38), (5, .inl y5_38), (6, .inl y6_38), (7, .inl y7_38)], [.inl y5_38], zW T' (zwG G' 9) S n, 0, 0) (by decide +kernel) rfl ⟨trivial, trivial⟩ ?_
      exact z_iret M (by decide +kernel) .int rfl rfl (by decide) (by decide) (hQ _ K)
    · rw [if_neg c147_1] at K
      by_cases c147_2 : (zAt (S 45) 3 (F_World_cell 9 S p1 9)) = 2
      · rw [if_pos c147_2] at K
        refine z_tabE 182 M.1 (dflt := 41) (lo := 0) (hi := 3) (offs := #[29, 32, 35, 38]) (len := 29) c147_2 (off := 35) (by decide +kernel) (by decide) (by decide) (by decide) (by decide) ?_
        refine z_go2 M.1 182 [(.iload 6, 2)] (184, [(0, z_r 36), (2, .inl (F_World_cell 9 S p1 9)), (4, .inl y4_38), (5, .inl y5_38), (6, .inl y6_38), (7, .inl y7_38)], [.inl y6_38], zW T' (zwG G' 9) S n, 0, 0) (by decide +kernel) rfl ⟨trivial, trivial⟩ ?_
        exact z_iret M (by decide +kernel) .int rfl rfl (by decide) (by decide) (hQ _ K)
      · rw [if_neg c147_2] at K
        by_cases c147_3 : (zAt (S 45) 3 (F_World_cell 9 S p1 9)) = 3
        · rw [if_pos c147_3] at K
          refine z_tabE 185 M.1 (dflt := 41) (lo := 0) (hi := 3) (offs := #[29, 32, 35, 38]) (len := 29) c147_3 (off := 38) (by decide +kernel) (by decide) (by decide) (by decide) (by decide) ?_
          refine z_go2 M.1 185 [(.iload 7, 2)] (187, [(0, z_r 36), (2, .inl (F_World_cell 9 S p1 9)), (4, .inl y4_38), (5, .inl y5_38), (6, .inl y6_38), (7, .inl y7_38)], [.inl y7_38], zW T' (zwG G' 9) S n, 0, 0) (by decide +kernel) rfl ⟨trivial, trivial⟩ ?_
          exact z_iret M (by decide +kernel) .int rfl rfl (by decide) (by decide) (hQ _ K)
        · rw [if_neg c147_3] at K
          refine z_tableOut 188 M.1 (dflt := 41) (lo := 0) (hi := 3) (offs := #[29, 32, 35, 38]) (len := 29) (by decide +kernel) (by have h0_ := lv_neT c147_0 (k := 0) (a := 0) (by decide); have h1_ := lv_neT c147_1 (k := 1) (a := 1) (by decide); have h2_ := lv_neT c147_2 (k := 2) (a := 2) (by decide); have h3_ := lv_neT c147_3 (k := 3) (a := 3) (by decide); omega) (by decide) ?_
          refine z_go2 M.1 188 [(.iconst (-1), 1)] (189, [(0, z_r 36), (2, .inl (F_World_cell 9 S p1 9)), (4, .inl y4_38), (5, .inl y5_38), (6, .inl y6_38), (7, .inl y7_38)], [.inl (-1)], zW T' (zwG G' 9) S n, 0, 0) (by decide +kernel) rfl ⟨trivial, trivial⟩ ?_
          exact z_iret M (by decide +kernel) .int rfl rfl (by decide) (by decide) (hQ _ K)
theorem c_Sight_computed_28 (T' : Nat → Nat × Nat) (G' : Nat → Nat → Option Nat) (S : (Nat → Nat → Int32)) (n : Nat) (p1 : Int32) (hs : Sf_Sight_computed 28 S p1) : z_Run rm_Sight_computed zm_Sight_computed [z_r 36, .inl p1] (zW T' (zwG G' 28) S n) (zq (some (.inl (F_Sight_computed 28 S p1))) (zW T' (zwG G' 28) S n)) := by
  refine z_body (by decide) zf_Sight_ok (Nat.le_of_ble_eq_true rfl) (fun X M => ?_)
  obtain ⟨Q, hQ, K⟩ : ∃ Q : Int32 → Prop, (∀ v, Q v → zq (some (.inl (F_Sight_computed 28 S p1))) (zW T' (zwG G' 28) S n) (some (.inl v)) (zW T' (zwG G' 28) S n)) ∧ Q (F_Sight_computed 28 S p1) := ⟨fun o => F_Sight_computed 28 S p1 = o, fun v h => ⟨by rw [h], rfl⟩, rfl⟩
  show z_G X zm_Sight_computed (0, [(0, z_r 36), (1, .inl p1)], [], zW T' (zwG G' 28) S n, 0, 0)
  unfold F_Sight_computed at K
  unfold Sf_Sight_computed at hs
  try simp only [Nat.reduceAdd] at K hs
  refine z_go2 M.1 0 [(.aload_n 0, 1), (.getfield 40, 3), (.iload_n 1, 1), (.bipush 9, 2)] (7, [(0, z_r 36), (1, .inl p1)], [.inl 9, .inl p1, z_r 28], zW T' (zwG G' 28) S n, 0, 0) (by decide +kernel) rfl ⟨trivial, rfl, trivial, trivial, trivial⟩ ?_
  refine z_callV M.1 (av := [.inl p1, .inl 9]) (st := []) (a := 28) (ci := 10) (by decide +kernel) (c_World_cell_28 T' (zwG G' 28) S n p1 9 hs.1) M.2.1 zl_Sight_61 zv_World_cell rfl rfl rfl ⟨by decide, by decide, by decide, by decide⟩ rfl (Nat.le_of_ble_eq_true rfl) (fun v w' hv => ?_)
  obtain ⟨rfl, rfl⟩ := hv
  replace hs := hs.2
  show z_G X zm_Sight_computed (10, [(0, z_r 36), (1, .inl p1)], [.inl (F_World_cell 28 S p1 9)], zW T' (zwG G' 28) S n, 0, 0)
  refine z_go2 M.1 10 [(.istore_n 2, 1), (.aload_n 0, 1), (.getfield 33, 3), (.getfield 99, 3), (.iload_n 2, 1)] (19, [(2, .inl (F_World_cell 28 S p1 9)), (0, z_r 36), (1, .inl p1)], [.inl (F_World_cell 28 S p1 9), z_r 46], zW T' (zwG G' 28) S n, 0, 0) (by decide +kernel) rfl ⟨trivial, trivial, rfl, rfl, trivial, trivial⟩ ?_
  refine z_callS M.1 (av := [z_r 46, .inl (F_World_cell 28 S p1 9)]) (st := []) (by decide +kernel) (c_at (zW T' (zwG G' 28) S n) 46 3 rfl (by decide) (F_World_cell 28 S p1 9)) M.2.1 zl_Sight_72 zs_T_at ⟨by decide, by decide, by decide, by decide⟩ rfl (Nat.le_of_ble_eq_true rfl) (fun v w' hv => ?_)
  obtain ⟨rfl, rfl⟩ := hv
  show z_G X zm_Sight_computed (22, [(2, .inl (F_World_cell 28 S p1 9)), (0, z_r 36), (1, .inl p1)], [.inl (zAt (S 46) 3 (F_World_cell 28 S p1 9))], zW T' (zwG G' 28) S n, 0, 0)
  refine z_go2 M.1 22 [(.istore_n 3, 1), (.iconst 0, 1), (.istore 4, 2), (.iconst 0, 1), (.istore 5, 2), (.iconst (-1), 1), (.istore 6, 2), (.iconst (-1), 1), (.istore 7, 2), (.iconst 0, 1), (.istore 8, 2)] (38, [(8, .inl 0), (7, .inl (-1)), (6, .inl (-1)), (5, .inl 0), (4, .inl 0), (3, .inl (zAt (S 46) 3 (F_World_cell 28 S p1 9))), (2, .inl (F_World_cell 28 S p1 9)), (0, z_r 36), (1, .inl p1)], [], zW T' (zwG G' 28) S n, 0, 0) (by decide +kernel) rfl ⟨trivial, trivial, trivial, trivial, trivial, trivial, trivial, trivial, trivial, trivial, trivial, trivial⟩ ?_
  refine z_lvs (lv' := [(0, z_r 36), (1, .inl p1), (2, .inl (F_World_cell 28 S p1 9)), (3, .inl (zAt (S 46) 3 (F_World_cell 28 S p1 9))), (4, .inl 0), (5, .inl 0), (6, .inl (-1)), (7, .inl (-1)), (8, .inl 0)]) [7, 8, 6, 5, 4, 3, 2, 1, 0] rfl ?_
  refine t_Sight_computed_L38_28 M (Q := fun o => F_Sight_computed_L38 28 S p1 (F_World_cell 28 S p1 9) (zAt (S 46) 3 (F_World_cell 28 S p1 9)) 1300 0 0 (-1) (-1) 0 = o) S p1 (F_World_cell 28 S p1 9) (zAt (S 46) 3 (F_World_cell 28 S p1 9)) (fun y4_38 y5_38 y6_38 y7_38 hL38 => ?_) 1300 0 0 (-1) (-1) 0 rfl hs.1
  replace hs := hs.2
  rw [hL38] at K
  try dsimp only at K
  refine z_go2 M.1 136 [(.aload_n 0, 1), (.getfield 33, 3), (.getfield 107, 3), (.iload_n 2, 1)] (144, [(0, z_r 36), (2, .inl (F_World_cell 28 S p1 9)), (4, .inl y4_38), (5, .inl y5_38), (6, .inl y6_38), (7, .inl y7_38)], [.inl (F_World_cell 28 S p1 9), z_r 45], zW T' (zwG G' 28) S n, 0, 0) (by decide +kernel) rfl ⟨trivial, rfl, rfl, trivial, trivial⟩ ?_
  refine z_callS M.1 (av := [z_r 45, .inl (F_World_cell 28 S p1 9)]) (st := []) (by decide +kernel) (c_at (zW T' (zwG G' 28) S n) 45 3 rfl (by decide) (F_World_cell 28 S p1 9)) M.2.1 zl_Sight_72 zs_T_at ⟨by decide, by decide, by decide, by decide⟩ rfl (Nat.le_of_ble_eq_true rfl) (fun v w' hv => ?_)
  obtain ⟨rfl, rfl⟩ := hv
  show z_G X zm_Sight_computed (147, [(0, z_r 36), (2, .inl (F_World_cell 28 S p1 9)), (4, .inl y4_38), (5, .inl y5_38), (6, .inl y6_38), (7, .inl y7_38)], [.inl (zAt (S 45) 3 (F_World_cell 28 S p1 9))], zW T' (zwG G' 28) S n, 0, 0)
  by_cases c147_0 : (zAt (S 45) 3 (F_World_cell 28 S p1 9)) = 0
  · rw [if_pos c147_0] at K
    refine z_tabE 176 M.1 (dflt := 41) (lo := 0) (hi := 3) (offs := #[29, 32, 35, 38]) (len := 29) c147_0 (off := 29) (by decide +kernel) (by decide) (by decide) (by decide) (by decide) ?_
    refine z_go2 M.1 176 [(.iload 4, 2)] (178, [(0, z_r 36), (2, .inl (F_World_cell 28 S p1 9)), (4, .inl y4_38), (5, .inl y5_38), (6, .inl y6_38), (7, .inl y7_38)], [.inl y4_38], zW T' (zwG G' 28) S n, 0, 0) (by decide +kernel) rfl ⟨trivial, trivial⟩ ?_
    exact z_iret M (by decide +kernel) .int rfl rfl (by decide) (by decide) (hQ _ K)
  · rw [if_neg c147_0] at K
    by_cases c147_1 : (zAt (S 45) 3 (F_World_cell 28 S p1 9)) = 1
    · rw [if_pos c147_1] at K
      refine z_tabE 179 M.1 (dflt := 41) (lo := 0) (hi := 3) (offs := #[29, 32, 35, 38]) (len := 29) c147_1 (off := 32) (by decide +kernel) (by decide) (by decide) (by decide) (by decide) ?_
      refine z_go2 M.1 179 [(.iload 5, 2)] (181, [(0, z_r 36), (2, .inl (F_World_cell 28 S p1 9)), (4, .inl y4_38), (5, .inl y5_38), (6, .inl y6_38), (7, .inl y7_38)], [.inl y5_38], zW T' (zwG G' 28) S n, 0, 0) (by decide +kernel) rfl ⟨trivial, trivial⟩ ?_
      exact z_iret M (by decide +kernel) .int rfl rfl (by decide) (by decide) (hQ _ K)
    · rw [if_neg c147_1] at K
      by_cases c147_2 : (zAt (S 45) 3 (F_World_cell 28 S p1 9)) = 2
      · rw [if_pos c147_2] at K
        refine z_tabE 182 M.1 (dflt := 41) (lo := 0) (hi := 3) (offs := #[29, 32, 35, 38]) (len := 29) c147_2 (off := 35) (by decide +kernel) (by decide) (by decide) (by decide) (by decide) ?_
        refine z_go2 M.1 182 [(.iload 6, 2)] (184, [(0, z_r 36), (2, .inl (F_World_cell 28 S p1 9)), (4, .inl y4_38), (5, .inl y5_38), (6, .inl y6_38), (7, .inl y7_38)], [.inl y6_38], zW T' (zwG G' 28) S n, 0, 0) (by decide +kernel) rfl ⟨trivial, trivial⟩ ?_
        exact z_iret M (by decide +kernel) .int rfl rfl (by decide) (by decide) (hQ _ K)
      · rw [if_neg c147_2] at K
        by_cases c147_3 : (zAt (S 45) 3 (F_World_cell 28 S p1 9)) = 3
        · rw [if_pos c147_3] at K
          refine z_tabE 185 M.1 (dflt := 41) (lo := 0) (hi := 3) (offs := #[29, 32, 35, 38]) (len := 29) c147_3 (off := 38) (by decide +kernel) (by decide) (by decide) (by decide) (by decide) ?_
          refine z_go2 M.1 185 [(.iload 7, 2)] (187, [(0, z_r 36), (2, .inl (F_World_cell 28 S p1 9)), (4, .inl y4_38), (5, .inl y5_38), (6, .inl y6_38), (7, .inl y7_38)], [.inl y7_38], zW T' (zwG G' 28) S n, 0, 0) (by decide +kernel) rfl ⟨trivial, trivial⟩ ?_
          exact z_iret M (by decide +kernel) .int rfl rfl (by decide) (by decide) (hQ _ K)
        · rw [if_neg c147_3] at K
          refine z_tableOut 188 M.1 (dflt := 41) (lo := 0) (hi := 3) (offs := #[29, 32, 35, 38]) (len := 29) (by decide +kernel) (by have h0_ := lv_neT c147_0 (k := 0) (a := 0) (by decide); have h1_ := lv_neT c147_1 (k := 1) (a := 1) (by decide); have h2_ := lv_neT c147_2 (k := 2) (a := 2) (by decide); have h3_ := lv_neT c147_3 (k := 3) (a := 3) (by decide); omega) (by decide) ?_
          refine z_go2 M.1 188 [(.iconst (-1), 1)] (189, [(0, z_r 36), (2, .inl (F_World_cell 28 S p1 9)), (4, .inl y4_38), (5, .inl y5_38), (6, .inl y6_38), (7, .inl y7_38)], [.inl (-1)], zW T' (zwG G' 28) S n, 0, 0) (by decide +kernel) rfl ⟨trivial, trivial⟩ ?_
          exact z_iret M (by decide +kernel) .int rfl rfl (by decide) (by decide) (hQ _ K)

-- TrackHouse$Sight.lookAt
abbrev rm_Sight_lookAt : Room := zr 2
def F_Sight_lookAt_L114 (wd : Nat) (x1 : Int32) (x2 : Int32) : Nat → (Nat → Nat → Int32) → Int32 → ((Nat → Nat → Int32))
  | 0, S, x6 => S
  | f + 1, S, x6 => (if (3 : Int32) < x6 then S else (if (x2 &&& (zAt (S 40) 4 x6)) = 0 then ((F_Sight_lookAt_L114 wd x1 x2 f) S (x6 + 1)) else (z_let (zPut S 41 4 x6 ((zAt (S 41) 4 x6) ||| (F_T_bit S x1))) (fun S154 => (z_let (F_Sight_tell wd S154 x1 x6) (fun S161 => ((F_Sight_lookAt_L114 wd x1 x2 f) S161 (x6 + 1))))))))
def Sf_Sight_lookAt_L114 (wd : Nat) (x1 : Int32) (x2 : Int32) : Nat → (Nat → Nat → Int32) → Int32 → Prop
  | 0, _, _ => False
  | f + 1, S, x6 => (if (3 : Int32) < x6 then True else (if (x2 &&& (zAt (S 40) 4 x6)) = 0 then ((Sf_Sight_lookAt_L114 wd x1 x2 f) S (x6 + 1)) else (z_let (zPut S 41 4 x6 ((zAt (S 41) 4 x6) ||| (F_T_bit S x1))) (fun S154 => (Sf_Sight_tell wd S154 x1 x6 ∧ (z_let (F_Sight_tell wd S154 x1 x6) (fun S161 => ((Sf_Sight_lookAt_L114 wd x1 x2 f) S161 (x6 + 1)))))))))
theorem t_Sight_lookAt_L114_9 {X : z_X} {Post : Option z_V → z_W → Prop} (M : z_M X zm_Sight_lookAt rm_Sight_lookAt Post) {T' : Nat → Nat × Nat} {G' : Nat → Nat → Option Nat} {n : Nat} {Q : ((Nat → Nat → Int32)) → Prop}  (x1 : Int32) (x2 : Int32) (hE : ∀ (S' : (Nat → Nat → Int32)), Q S' → z_G X zm_Sight_lookAt (170, [], [], zW T' (zwG G' 9) S' n, 0, 0)) (f : Nat) : ∀ (S : (Nat → Nat → Int32)) (x6 : Int32), Q (F_Sight_lookAt_L114 9 x1 x2 f S x6) → Sf_Sight_lookAt_L114 9 x1 x2 f S x6 → z_G X zm_Sight_lookAt (114, [(0, z_r 36), (1, .inl x1), (2, .inl x2), (6, .inl x6)], [], zW T' (zwG G' 9) S n, 0, 0) := by
  induction f with
  | zero => intro S x6 K hs; exact False.elim hs
  | succ f hC =>
    intro S x6 K hs
    rw [F_Sight_lookAt_L114] at K
    rw [Sf_Sight_lookAt_L114] at hs
    try simp only [Nat.reduceAdd] at K hs
    refine z_go2 M.1 114 [(.iload 6, 2), (.iconst 3, 1)] (117, [(0, z_r 36), (1, .inl x1), (2, .inl x2), (6, .inl x6)], [.inl 3, .inl x6], zW T' (zwG G' 9) S n, 0, 0) (by decide +kernel) rfl ⟨trivial, trivial, trivial⟩ ?_
    refine z_icmp_gt 170 M.1 (off := 53) (by decide +kernel) (by decide) (fun c117 => ?_) (fun c117 => ?_)
    · rw [if_pos c117] at K hs
      exact z_lvs (lv' := []) [] rfl (hE S K)
    · rw [if_neg c117] at K hs
      refine z_go2 M.1 120 [(.iload_n 2, 1), (.aload_n 0, 1), (.getfield 21, 3), (.iload 6, 2)] (127, [(0, z_r 36), (1, .inl x1), (2, .inl x2), (6, .inl x6)], [.inl x6, z_r 40, .inl x2], zW T' (zwG G' 9) S n, 0, 0) (by decide +kernel) rfl ⟨trivial, trivial, rfl, trivial, trivial⟩ ?_
      refine z_callS M.1 (av := [z_r 40, .inl x6]) (st := [.inl x2]) (by decide +kernel) (c_at (zW T' (zwG G' 9) S n) 40 4 rfl (by decide) x6) M.2.1 zl_Sight_72 zs_T_at ⟨by decide, by decide, by decide, by decide⟩ rfl (Nat.le_of_ble_eq_true rfl) (fun v w' hv => ?_)
      obtain ⟨rfl, rfl⟩ := hv
      show z_G X zm_Sight_lookAt (130, [(0, z_r 36), (1, .inl x1), (2, .inl x2), (6, .inl x6)], [.inl (zAt (S 40) 4 x6), .inl x2], zW T' (zwG G' 9) S n, 0, 0)
      refine z_go2 M.1 130 [(.iand, 1)] (131, [(0, z_r 36), (1, .inl x1), (2, .inl x2), (6, .inl x6)], [.inl (x2 &&& (zAt (S 40) 4 x6))], zW T' (zwG G' 9) S n, 0, 0) (by decide +kernel) rfl ⟨trivial, trivial⟩ ?_
      refine z_if_eq 164 M.1 (off := 33) (by decide +kernel) (by decide) (fun c131 => ?_) (fun c131 => ?_)
      · rw [if_pos c131] at K hs
        refine z_go2 M.1 164 [(.iinc 6 1, 3), (.goto (-53), 3)] (114, [(6, .inl (x6 + 1)), (0, z_r 36), (1, .inl x1), (2, .inl x2)], [], zW T' (zwG G' 9) S n, 0, 0) (by decide +kernel) rfl ⟨trivial, trivial, trivial⟩ ?_
        exact z_lvs (lv' := [(0, z_r 36), (1, .inl x1), (2, .inl x2), (6, .inl (x6 + 1))]) [1, 2, 3, 0] rfl (hC S (x6 + 1) K hs)
      · rw [if_neg c131] at K hs
        refine z_go2 M.1 134 [(.aload_n 0, 1), (.getfield 24, 3), (.iload 6, 2), (.aload_n 0, 1), (.getfield 24, 3), (.iload 6, 2)] (146, [(0, z_r 36), (1, .inl x1), (2, .inl x2), (6, .inl x6)], [.inl x6, z_r 41, .inl x6, z_r 41], zW T' (zwG G' 9) S n, 0, 0) (by decide +kernel) rfl ⟨trivial, rfl, trivial, trivial, rfl, trivial, trivial⟩ ?_
        refine z_callS M.1 (av := [z_r 41, .inl x6]) (st := [.inl x6, z_r 41]) (by decide +kernel) (c_at (zW T' (zwG G' 9) S n) 41 4 rfl (by decide) x6) M.2.1 zl_Sight_72 zs_T_at ⟨by decide, by decide, by decide, by decide⟩ rfl (Nat.le_of_ble_eq_true rfl) (fun v w' hv => ?_)
        obtain ⟨rfl, rfl⟩ := hv
        show z_G X zm_Sight_lookAt (149, [(0, z_r 36), (1, .inl x1), (2, .inl x2), (6, .inl x6)], [.inl (zAt (S 41) 4 x6), .inl x6, z_r 41], zW T' (zwG G' 9) S n, 0, 0)
        refine z_go2 M.1 149 [(.iload_n 1, 1)] (150, [(0, z_r 36), (1, .inl x1), (2, .inl x2), (6, .inl x6)], [.inl x1, .inl (zAt (S 41) 4 x6), .inl x6, z_r 41], zW T' (zwG G' 9) S n, 0, 0) (by decide +kernel) rfl ⟨trivial, trivial⟩ ?_
        refine z_callS M.1 (av := [.inl x1]) (st := [.inl (zAt (S 41) 4 x6), .inl x6, z_r 41]) (by decide +kernel) (c_T_bit T' (zwG G' 9) S n x1) M.2.1 zl_Sight_76 zs_T_bit ⟨by decide, by decide, by decide, by decide⟩ rfl (Nat.le_of_ble_eq_true rfl) (fun v w' hv => ?_)
        obtain ⟨rfl, rfl⟩ := hv
        show z_G X zm_Sight_lookAt (153, [(0, z_r 36), (1, .inl x1), (2, .inl x2), (6, .inl x6)], [.inl (F_T_bit S x1), .inl (zAt (S 41) 4 x6), .inl x6, z_r 41], zW T' (zwG G' 9) S n, 0, 0)
        refine z_go2 M.1 153 [(.ior, 1)] (154, [(0, z_r 36), (1, .inl x1), (2, .inl x2), (6, .inl x6)], [.inl ((zAt (S 41) 4 x6) ||| (F_T_bit S x1)), .inl x6, z_r 41], zW T' (zwG G' 9) S n, 0, 0) (by decide +kernel) rfl ⟨trivial, trivial⟩ ?_
        refine z_callS M.1 (av := [z_r 41, .inl x6, .inl ((zAt (S 41) 4 x6) ||| (F_T_bit S x1))]) (st := []) (by decide +kernel) (c_put (zW T' (zwG G' 9) S n) 41 4 rfl (by decide) x6 ((zAt (S 41) 4 x6) ||| (F_T_bit S x1))) M.2.1 zl_Sight_80 zs_T_put ⟨by decide, by decide, by decide, by decide⟩ rfl (Nat.le_of_ble_eq_true rfl) (fun v w' hv => ?_)
        obtain ⟨S154, hF154⟩ : ∃ y, zPut S 41 4 x6 ((zAt (S 41) 4 x6) ||| (F_T_bit S x1)) = y := ⟨_, rfl⟩
        replace hv : v = none ∧ w' = zW T' (zwG G' 9) (zPut S 41 4 x6 ((zAt (S 41) 4 x6) ||| (F_T_bit S x1))) n := hv
        rw [hF154] at K hv
        try rw [hF154] at hs
        try dsimp only [z_let] at K hs
        obtain ⟨rfl, rfl⟩ := hv
        show z_G X zm_Sight_lookAt (157, [(0, z_r 36), (1, .inl x1), (2, .inl x2), (6, .inl x6)], [], zW T' (zwG G' 9) S154 n, 0, 0)
        refine z_go2 M.1 157 [(.aload_n 0, 1), (.iload_n 1, 1), (.iload 6, 2)] (161, [(0, z_r 36), (1, .inl x1), (2, .inl x2), (6, .inl x6)], [.inl x6, .inl x1, z_r 36], zW T' (zwG G' 9) S154 n, 0, 0) (by decide +kernel) rfl ⟨trivial, trivial, trivial, trivial⟩ ?_
        refine z_callV M.1 (av := [.inl x1, .inl x6]) (st := []) (a := 36) (ci := 8) (by decide +kernel) (c_Sight_tell_9 T' G' S154 n x1 x6 hs.1) M.2.1 zl_Sight_84 zv_Sight_tell rfl rfl rfl ⟨by decide, by decide, by decide, by decide⟩ rfl (Nat.le_of_ble_eq_true rfl) (fun v w' hv => ?_)
        replace hs := hs.2
        obtain ⟨S161, hF161⟩ : ∃ y, F_Sight_tell 9 S154 x1 x6 = y := ⟨_, rfl⟩
        rw [hF161] at K hv
        try rw [hF161] at hs
        try dsimp only [z_let] at K hs
        obtain ⟨rfl, rfl⟩ := hv
        show z_G X zm_Sight_lookAt (164, [(0, z_r 36), (1, .inl x1), (2, .inl x2), (6, .inl x6)], [], zW T' (zwG G' 9) S161 n, 0, 0)
        refine z_go2 M.1 164 [(.iinc 6 1, 3), (.goto (-53), 3)] (114, [(6, .inl (x6 + 1)), (0, z_r 36), (1, .inl x1), (2, .inl x2)], [], zW T' (zwG G' 9) S161 n, 0, 0) (by decide +kernel) rfl ⟨trivial, trivial, trivial⟩ ?_
        exact z_lvs (lv' := [(0, z_r 36), (1, .inl x1), (2, .inl x2), (6, .inl (x6 + 1))]) [1, 2, 3, 0] rfl (hC S161 (x6 + 1) K hs)
theorem t_Sight_lookAt_L114_28 {X : z_X} {Post : Option z_V → z_W → Prop} (M : z_M X zm_Sight_lookAt rm_Sight_lookAt Post) {T' : Nat → Nat × Nat} {G' : Nat → Nat → Option Nat} {n : Nat} {Q : ((Nat → Nat → Int32)) → Prop}  (x1 : Int32) (x2 : Int32) (hE : ∀ (S' : (Nat → Nat → Int32)), Q S' → z_G X zm_Sight_lookAt (170, [], [], zW T' (zwG G' 28) S' n, 0, 0)) (f : Nat) : ∀ (S : (Nat → Nat → Int32)) (x6 : Int32), Q (F_Sight_lookAt_L114 28 x1 x2 f S x6) → Sf_Sight_lookAt_L114 28 x1 x2 f S x6 → z_G X zm_Sight_lookAt (114, [(0, z_r 36), (1, .inl x1), (2, .inl x2), (6, .inl x6)], [], zW T' (zwG G' 28) S n, 0, 0) := by
  induction f with
  | zero => intro S x6 K hs; exact False.elim hs
  | succ f hC =>
    intro S x6 K hs
    rw [F_Sight_lookAt_L114] at K
    rw [Sf_Sight_lookAt_L114] at hs
    try simp only [Nat.reduceAdd] at K hs
    refine z_go2 M.1 114 [(.iload 6, 2), (.iconst 3, 1)] (117, [(0, z_r 36), (1, .inl x1), (2, .inl x2), (6, .inl x6)], [.inl 3, .inl x6], zW T' (zwG G' 28) S n, 0, 0) (by decide +kernel) rfl ⟨trivial, trivial, trivial⟩ ?_
    refine z_icmp_gt 170 M.1 (off := 53) (by decide +kernel) (by decide) (fun c117 => ?_) (fun c117 => ?_)
    · rw [if_pos c117] at K hs
      exact z_lvs (lv' := []) [] rfl (hE S K)
    · rw [if_neg c117] at K hs
      refine z_go2 M.1 120 [(.iload_n 2, 1), (.aload_n 0, 1), (.getfield 21, 3), (.iload 6, 2)] (127, [(0, z_r 36), (1, .inl x1), (2, .inl x2), (6, .inl x6)], [.inl x6, z_r 40, .inl x2], zW T' (zwG G' 28) S n, 0, 0) (by decide +kernel) rfl ⟨trivial, trivial, rfl, trivial, trivial⟩ ?_
      refine z_callS M.1 (av := [z_r 40, .inl x6]) (st := [.inl x2]) (by decide +kernel) (c_at (zW T' (zwG G' 28) S n) 40 4 rfl (by decide) x6) M.2.1 zl_Sight_72 zs_T_at ⟨by decide, by decide, by decide, by decide⟩ rfl (Nat.le_of_ble_eq_true rfl) (fun v w' hv => ?_)
      obtain ⟨rfl, rfl⟩ := hv
      show z_G X zm_Sight_lookAt (130, [(0, z_r 36), (1, .inl x1), (2, .inl x2), (6, .inl x6)], [.inl (zAt (S 40) 4 x6), .inl x2], zW T' (zwG G' 28) S n, 0, 0)
      refine z_go2 M.1 130 [(.iand, 1)] (131, [(0, z_r 36), (1, .inl x1), (2, .inl x2), (6, .inl x6)], [.inl (x2 &&& (zAt (S 40) 4 x6))], zW T' (zwG G' 28) S n, 0, 0) (by decide +kernel) rfl ⟨trivial, trivial⟩ ?_
      refine z_if_eq 164 M.1 (off := 33) (by decide +kernel) (by decide) (fun c131 => ?_) (fun c131 => ?_)
      · rw [if_pos c131] at K hs
        refine z_go2 M.1 164 [(.iinc 6 1, 3), (.goto (-53), 3)] (114, [(6, .inl (x6 + 1)), (0, z_r 36), (1, .inl x1), (2, .inl x2)], [], zW T' (zwG G' 28) S n, 0, 0) (by decide +kernel) rfl ⟨trivial, trivial, trivial⟩ ?_
        exact z_lvs (lv' := [(0, z_r 36), (1, .inl x1), (2, .inl x2), (6, .inl (x6 + 1))]) [1, 2, 3, 0] rfl (hC S (x6 + 1) K hs)
      · rw [if_neg c131] at K hs
        refine z_go2 M.1 134 [(.aload_n 0, 1), (.getfield 24, 3), (.iload 6, 2), (.aload_n 0, 1), (.getfield 24, 3), (.iload 6, 2)] (146, [(0, z_r 36), (1, .inl x1), (2, .inl x2), (6, .inl x6)], [.inl x6, z_r 41, .inl x6, z_r 41], zW T' (zwG G' 28) S n, 0, 0) (by decide +kernel) rfl ⟨trivial, rfl, trivial, trivial, rfl, trivial, trivial⟩ ?_
        refine z_callS M.1 (av := [z_r 41, .inl x6]) (st := [.inl x6, z_r 41]) (by decide +kernel) (c_at (zW T' (zwG G' 28) S n) 41 4 rfl (by decide) x6) M.2.1 zl_Sight_72 zs_T_at ⟨by decide, by decide, by decide, by decide⟩ rfl (Nat.le_of_ble_eq_true rfl) (fun v w' hv => ?_)
        obtain ⟨rfl, rfl⟩ := hv
        show z_G X zm_Sight_lookAt (149, [(0, z_r 36), (1, .inl x1), (2, .inl x2), (6, .inl x6)], [.inl (zAt (S 41) 4 x6), .inl x6, z_r 41], zW T' (zwG G' 28) S n, 0, 0)
        refine z_go2 M.1 149 [(.iload_n 1, 1)] (150, [(0, z_r 36), (1, .inl x1), (2, .inl x2), (6, .inl x6)], [.inl x1, .inl (zAt (S 41) 4 x6), .inl x6, z_r 41], zW T' (zwG G' 28) S n, 0, 0) (by decide +kernel) rfl ⟨trivial, trivial⟩ ?_
        refine z_callS M.1 (av := [.inl x1]) (st := [.inl (zAt (S 41) 4 x6), .inl x6, z_r 41]) (by decide +kernel) (c_T_bit T' (zwG G' 28) S n x1) M.2.1 zl_Sight_76 zs_T_bit ⟨by decide, by decide, by decide, by decide⟩ rfl (Nat.le_of_ble_eq_true rfl) (fun v w' hv => ?_)
        obtain ⟨rfl, rfl⟩ := hv
        show z_G X zm_Sight_lookAt (153, [(0, z_r 36), (1, .inl x1), (2, .inl x2), (6, .inl x6)], [.inl (F_T_bit S x1), .inl (zAt (S 41) 4 x6), .inl x6, z_r 41], zW T' (zwG G' 28) S n, 0, 0)
        refine z_go2 M.1 153 [(.ior, 1)] (154, [(0, z_r 36), (1, .inl x1), (2, .inl x2), (6, .inl x6)], [.inl ((zAt (S 41) 4 x6) ||| (F_T_bit S x1)), .inl x6, z_r 41], zW T' (zwG G' 28) S n, 0, 0) (by decide +kernel) rfl ⟨trivial, trivial⟩ ?_
        refine z_callS M.1 (av := [z_r 41, .inl x6, .inl ((zAt (S 41) 4 x6) ||| (F_T_bit S x1))]) (st := []) (by decide +kernel) (c_put (zW T' (zwG G' 28) S n) 41 4 rfl (by decide) x6 ((zAt (S 41) 4 x6) ||| (F_T_bit S x1))) M.2.1 zl_Sight_80 zs_T_put ⟨by decide, by decide, by decide, by decide⟩ rfl (Nat.le_of_ble_eq_true rfl) (fun v w' hv => ?_)
        obtain ⟨S154, hF154⟩ : ∃ y, zPut S 41 4 x6 ((zAt (S 41) 4 x6) ||| (F_T_bit S x1)) = y := ⟨_, rfl⟩
        replace hv : v = none ∧ w' = zW T' (zwG G' 28) (zPut S 41 4 x6 ((zAt (S 41) 4 x6) ||| (F_T_bit S x1))) n := hv
        rw [hF154] at K hv
        try rw [hF154] at hs
        try dsimp only [z_let] at K hs
        obtain ⟨rfl, rfl⟩ := hv
        show z_G X zm_Sight_lookAt (157, [(0, z_r 36), (1, .inl x1), (2, .inl x2), (6, .inl x6)], [], zW T' (zwG G' 28) S154 n, 0, 0)
        refine z_go2 M.1 157 [(.aload_n 0, 1), (.iload_n 1, 1), (.iload 6, 2)] (161, [(0, z_r 36), (1, .inl x1), (2, .inl x2), (6, .inl x6)], [.inl x6, .inl x1, z_r 36], zW T' (zwG G' 28) S154 n, 0, 0) (by decide +kernel) rfl ⟨trivial, trivial, trivial, trivial⟩ ?_
        refine z_callV M.1 (av := [.inl x1, .inl x6]) (st := []) (a := 36) (ci := 8) (by decide +kernel) (c_Sight_tell_28 T' G' S154 n x1 x6 hs.1) M.2.1 zl_Sight_84 zv_Sight_tell rfl rfl rfl ⟨by decide, by decide, by decide, by decide⟩ rfl (Nat.le_of_ble_eq_true rfl) (fun v w' hv => ?_)
        replace hs := hs.2
        obtain ⟨S161, hF161⟩ : ∃ y, F_Sight_tell 28 S154 x1 x6 = y := ⟨_, rfl⟩
        rw [hF161] at K hv
        try rw [hF161] at hs
        try dsimp only [z_let] at K hs
        obtain ⟨rfl, rfl⟩ := hv
        show z_G X zm_Sight_lookAt (164, [(0, z_r 36), (1, .inl x1), (2, .inl x2), (6, .inl x6)], [], zW T' (zwG G' 28) S161 n, 0, 0)
        refine z_go2 M.1 164 [(.iinc 6 1, 3), (.goto (-53), 3)] (114, [(6, .inl (x6 + 1)), (0, z_r 36), (1, .inl x1), (2, .inl x2)], [], zW T' (zwG G' 28) S161 n, 0, 0) (by decide +kernel) rfl ⟨trivial, trivial, trivial⟩ ?_
        exact z_lvs (lv' := [(0, z_r 36), (1, .inl x1), (2, .inl x2), (6, .inl (x6 + 1))]) [1, 2, 3, 0] rfl (hC S161 (x6 + 1) K hs)
def F_Sight_lookAt_j107 (wd : Nat) (S : (Nat → Nat → Int32)) (x1 : Int32) (x2 : Int32) (s0 : Int32) (s1 : Int32) : (Nat → Nat → Int32) := (match F_Sight_lookAt_L114 wd x1 x2 1300 (z_uS S 36 9 (s1 ||| s0)) 0 with | S114 => S114)
def Sf_Sight_lookAt_j107 (wd : Nat) (S : (Nat → Nat → Int32)) (x1 : Int32) (x2 : Int32) (s0 : Int32) (s1 : Int32) : Prop := (Sf_Sight_lookAt_L114 wd x1 x2 1300 (z_uS S 36 9 (s1 ||| s0)) 0 ∧ True)
theorem t_Sight_lookAt_j107_9 {X : z_X} {Post : Option z_V → z_W → Prop} (M : z_M X zm_Sight_lookAt rm_Sight_lookAt Post) {T' : Nat → Nat × Nat} {G' : Nat → Nat → Option Nat} {n : Nat} {Q : (Nat → Nat → Int32) → Prop} (S : (Nat → Nat → Int32)) (x1 : Int32) (x2 : Int32) (s0 : Int32) (s1 : Int32) (hQ : ∀ S', Q S' → Post none (zW T' (zwG G' 9) S' n)) (K : Q (F_Sight_lookAt_j107 9 S x1 x2 s0 s1)) (hs : Sf_Sight_lookAt_j107 9 S x1 x2 s0 s1) : z_G X zm_Sight_lookAt (107, [(0, z_r 36), (1, .inl x1), (2, .inl x2)], [.inl s0, .inl s1, z_r 36], zW T' (zwG G' 9) S n, 0, 0) := by
  unfold F_Sight_lookAt_j107 at K
  unfold Sf_Sight_lookAt_j107 at hs
  try simp only [Nat.reduceAdd] at K hs
  refine z_go2 M.1 107 [(.ior, 1), (.putfield 48, 3), (.iconst 0, 1), (.istore 6, 2)] (114, [(6, .inl 0), (0, z_r 36), (1, .inl x1), (2, .inl x2)], [], zW T' (zwG G' 9) (z_uS S 36 9 (s1 ||| s0)) n, 0, 0) (by decide +kernel) rfl ⟨trivial, ⟨rfl, trivial⟩, trivial, trivial, trivial⟩ ?_
  refine z_lvs (lv' := [(0, z_r 36), (1, .inl x1), (2, .inl x2), (6, .inl 0)]) [1, 2, 3, 0] rfl ?_
  refine t_Sight_lookAt_L114_9 M (Q := fun o => F_Sight_lookAt_L114 9 x1 x2 1300 (z_uS S 36 9 (s1 ||| s0)) 0 = o) x1 x2 (fun S114 hL114 => ?_) 1300 (z_uS S 36 9 (s1 ||| s0)) 0 rfl hs.1
  replace hs := hs.2
  rw [hL114] at K
  try dsimp only at K
  exact z_vret M (by decide +kernel) rfl (by decide) (by decide) (hQ _ K)
theorem t_Sight_lookAt_j107_28 {X : z_X} {Post : Option z_V → z_W → Prop} (M : z_M X zm_Sight_lookAt rm_Sight_lookAt Post) {T' : Nat → Nat × Nat} {G' : Nat → Nat → Option Nat} {n : Nat} {Q : (Nat → Nat → Int32) → Prop} (S : (Nat → Nat → Int32)) (x1 : Int32) (x2 : Int32) (s0 : Int32) (s1 : Int32) (hQ : ∀ S', Q S' → Post none (zW T' (zwG G' 28) S' n)) (K : Q (F_Sight_lookAt_j107 28 S x1 x2 s0 s1)) (hs : Sf_Sight_lookAt_j107 28 S x1 x2 s0 s1) : z_G X zm_Sight_lookAt (107, [(0, z_r 36), (1, .inl x1), (2, .inl x2)], [.inl s0, .inl s1, z_r 36], zW T' (zwG G' 28) S n, 0, 0) := by
  unfold F_Sight_lookAt_j107 at K
  unfold Sf_Sight_lookAt_j107 at hs
  try simp only [Nat.reduceAdd] at K hs
  refine z_go2 M.1 107 [(.ior, 1), (.putfield 48, 3), (.iconst 0, 1), (.istore 6, 2)] (114, [(6, .inl 0), (0, z_r 36), (1, .inl x1), (2, .inl x2)], [], zW T' (zwG G' 28) (z_uS S 36 9 (s1 ||| s0)) n, 0, 0) (by decide +kernel) rfl ⟨trivial, ⟨rfl, trivial⟩, trivial, trivial, trivial⟩ ?_
  refine z_lvs (lv' := [(0, z_r 36), (1, .inl x1), (2, .inl x2), (6, .inl 0)]) [1, 2, 3, 0] rfl ?_
  refine t_Sight_lookAt_L114_28 M (Q := fun o => F_Sight_lookAt_L114 28 x1 x2 1300 (z_uS S 36 9 (s1 ||| s0)) 0 = o) x1 x2 (fun S114 hL114 => ?_) 1300 (z_uS S 36 9 (s1 ||| s0)) 0 rfl hs.1
  replace hs := hs.2
  rw [hL114] at K
  try dsimp only at K
  exact z_vret M (by decide +kernel) rfl (by decide) (by decide) (hQ _ K)
def F_Sight_lookAt_j47 (wd : Nat) (S : (Nat → Nat → Int32)) (x1 : Int32) (x2 : Int32) (x3 : Int32) (s0 : Int32) : (Nat → Nat → Int32) := (if s0 = 0 then S else (if (x2 &&& (zAt (S 37) 3 x3)) = 0 then S else (if (x2 &&& (zAt (S 38) 3 x3)) = 0 then (F_Sight_lookAt_j107 wd (z_uS S 36 8 ((S 36 8) ||| (F_T_bit S x1))) x1 x2 0 (S 36 9)) else (F_Sight_lookAt_j107 wd (z_uS S 36 8 ((S 36 8) ||| (F_T_bit S x1))) x1 x2 (F_T_bit (z_uS S 36 8 ((S 36 8) ||| (F_T_bit S x1))) x1) (S 36 9)))))
def Sf_Sight_lookAt_j47 (wd : Nat) (S : (Nat → Nat → Int32)) (x1 : Int32) (x2 : Int32) (x3 : Int32) (s0 : Int32) : Prop := (if s0 = 0 then True else (if (x2 &&& (zAt (S 37) 3 x3)) = 0 then True else (if (x2 &&& (zAt (S 38) 3 x3)) = 0 then (Sf_Sight_lookAt_j107 wd (z_uS S 36 8 ((S 36 8) ||| (F_T_bit S x1))) x1 x2 0 (S 36 9)) else (Sf_Sight_lookAt_j107 wd (z_uS S 36 8 ((S 36 8) ||| (F_T_bit S x1))) x1 x2 (F_T_bit (z_uS S 36 8 ((S 36 8) ||| (F_T_bit S x1))) x1) (S 36 9)))))
theorem t_Sight_lookAt_j47_9 {X : z_X} {Post : Option z_V → z_W → Prop} (M : z_M X zm_Sight_lookAt rm_Sight_lookAt Post) {T' : Nat → Nat × Nat} {G' : Nat → Nat → Option Nat} {n : Nat} {Q : (Nat → Nat → Int32) → Prop} (S : (Nat → Nat → Int32)) (x1 : Int32) (x2 : Int32) (x3 : Int32) (s0 : Int32) (hQ : ∀ S', Q S' → Post none (zW T' (zwG G' 9) S' n)) (K : Q (F_Sight_lookAt_j47 9 S x1 x2 x3 s0)) (hs : Sf_Sight_lookAt_j47 9 S x1 x2 x3 s0) : z_G X zm_Sight_lookAt (47, [(0, z_r 36), (1, .inl x1), (2, .inl x2), (3, .inl x3)], [.inl s0], zW T' (zwG G' 9) S n, 0, 0) := by
  unfold F_Sight_lookAt_j47 at K
  unfold Sf_Sight_lookAt_j47 at hs
  try simp only [Nat.reduceAdd] at K hs
  refine z_go2 M.1 47 [(.istore 5, 2), (.iload 5, 2)] (51, [(5, .inl s0), (0, z_r 36), (1, .inl x1), (2, .inl x2), (3, .inl x3)], [.inl s0], zW T' (zwG G' 9) S n, 0, 0) (by decide +kernel) rfl ⟨trivial, trivial, trivial⟩ ?_
  refine z_if_eq 67 M.1 (off := 16) (by decide +kernel) (by decide) (fun c51 => ?_) (fun c51 => ?_)
  · rw [if_pos c51] at K hs
    exact z_vret M (by decide +kernel) rfl (by decide) (by decide) (hQ _ K)
  · rw [if_neg c51] at K hs
    refine z_go2 M.1 54 [(.iload_n 2, 1), (.aload_n 0, 1), (.getfield 9, 3), (.iload_n 3, 1)] (60, [(5, .inl s0), (0, z_r 36), (1, .inl x1), (2, .inl x2), (3, .inl x3)], [.inl x3, z_r 37, .inl x2], zW T' (zwG G' 9) S n, 0, 0) (by decide +kernel) rfl ⟨trivial, trivial, rfl, trivial, trivial⟩ ?_
    refine z_callS M.1 (av := [z_r 37, .inl x3]) (st := [.inl x2]) (by decide +kernel) (c_at (zW T' (zwG G' 9) S n) 37 3 rfl (by decide) x3) M.2.1 zl_Sight_72 zs_T_at ⟨by decide, by decide, by decide, by decide⟩ rfl (Nat.le_of_ble_eq_true rfl) (fun v w' hv => ?_)
    obtain ⟨rfl, rfl⟩ := hv
    show z_G X zm_Sight_lookAt (63, [(5, .inl s0), (0, z_r 36), (1, .inl x1), (2, .inl x2), (3, .inl x3)], [.inl (zAt (S 37) 3 x3), .inl x2], zW T' (zwG G' 9) S n, 0, 0)
    refine z_go2 M.1 63 [(.iand, 1)] (64, [(5, .inl s0), (0, z_r 36), (1, .inl x1), (2, .inl x2), (3, .inl x3)], [.inl (x2 &&& (zAt (S 37) 3 x3))], zW T' (zwG G' 9) S n, 0, 0) (by decide +kernel) rfl ⟨trivial, trivial⟩ ?_
    refine z_if_ne 68 M.1 (off := 4) (by decide +kernel) (by decide) (fun c64 => ?_) (fun c64 => ?_)
    · rw [if_neg c64] at K hs
      refine z_go2 M.1 68 [(.aload_n 0, 1), (.dup, 1), (.getfield 44, 3), (.iload_n 1, 1)] (74, [(5, .inl s0), (0, z_r 36), (1, .inl x1), (2, .inl x2), (3, .inl x3)], [.inl x1, .inl (S 36 8), z_r 36], zW T' (zwG G' 9) S n, 0, 0) (by decide +kernel) rfl ⟨trivial, rfl, rfl, trivial, trivial⟩ ?_
      refine z_callS M.1 (av := [.inl x1]) (st := [.inl (S 36 8), z_r 36]) (by decide +kernel) (c_T_bit T' (zwG G' 9) S n x1) M.2.1 zl_Sight_76 zs_T_bit ⟨by decide, by decide, by decide, by decide⟩ rfl (Nat.le_of_ble_eq_true rfl) (fun v w' hv => ?_)
      obtain ⟨rfl, rfl⟩ := hv
      show z_G X zm_Sight_lookAt (77, [(5, .inl s0), (0, z_r 36), (1, .inl x1), (2, .inl x2), (3, .inl x3)], [.inl (F_T_bit S x1), .inl (S 36 8), z_r 36], zW T' (zwG G' 9) S n, 0, 0)
      refine z_go2 M.1 77 [(.ior, 1), (.putfield 44, 3), (.aload_n 0, 1), (.dup, 1), (.getfield 48, 3), (.iload_n 2, 1), (.aload_n 0, 1), (.getfield 15, 3), (.iload_n 3, 1)] (92, [(5, .inl s0), (0, z_r 36), (1, .inl x1), (2, .inl x2), (3, .inl x3)], [.inl x3, z_r 38, .inl x2, .inl (S 36 9), z_r 36], zW T' (zwG G' 9) (z_uS S 36 8 ((S 36 8) ||| (F_T_bit S x1))) n, 0, 0) (by decide +kernel) rfl ⟨trivial, ⟨rfl, trivial⟩, trivial, rfl, rfl, trivial, trivial, rfl, trivial, trivial⟩ ?_
      refine z_callS M.1 (av := [z_r 38, .inl x3]) (st := [.inl x2, .inl (S 36 9), z_r 36]) (by decide +kernel) (c_at (zW T' (zwG G' 9) (z_uS S 36 8 ((S 36 8) ||| (F_T_bit S x1))) n) 38 3 rfl (by decide) x3) M.2.1 zl_Sight_72 zs_T_at ⟨by decide, by decide, by decide, by decide⟩ rfl (Nat.le_of_ble_eq_true rfl) (fun v w' hv => ?_)
      obtain ⟨rfl, rfl⟩ := hv
      show z_G X zm_Sight_lookAt (95, [(5, .inl s0), (0, z_r 36), (1, .inl x1), (2, .inl x2), (3, .inl x3)], [.inl (zAt (S 38) 3 x3), .inl x2, .inl (S 36 9), z_r 36], zW T' (zwG G' 9) (z_uS S 36 8 ((S 36 8) ||| (F_T_bit S x1))) n, 0, 0)
      refine z_go2 M.1 95 [(.iand, 1)] (96, [(5, .inl s0), (0, z_r 36), (1, .inl x1), (2, .inl x2), (3, .inl x3)], [.inl (x2 &&& (zAt (S 38) 3 x3)), .inl (S 36 9), z_r 36], zW T' (zwG G' 9) (z_uS S 36 8 ((S 36 8) ||| (F_T_bit S x1))) n, 0, 0) (by decide +kernel) rfl ⟨trivial, trivial⟩ ?_
      refine z_if_eq 106 M.1 (off := 10) (by decide +kernel) (by decide) (fun c96 => ?_) (fun c96 => ?_)
      · rw [if_pos c96] at K hs
        refine z_go2 M.1 106 [(.iconst 0, 1)] (107, [(5, .inl s0), (0, z_r 36), (1, .inl x1), (2, .inl x2), (3, .inl x3)], [.inl 0, .inl (S 36 9), z_r 36], zW T' (zwG G' 9) (z_uS S 36 8 ((S 36 8) ||| (F_T_bit S x1))) n, 0, 0) (by decide +kernel) rfl ⟨trivial, trivial⟩ ?_
        exact z_lvs (lv' := [(0, z_r 36), (1, .inl x1), (2, .inl x2)]) [1, 2, 3] rfl (t_Sight_lookAt_j107_9 M (z_uS S 36 8 ((S 36 8) ||| (F_T_bit S x1))) x1 x2 0 (S 36 9) hQ K hs)
      · rw [if_neg c96] at K hs
        refine z_go2 M.1 99 [(.iload_n 1, 1)] (100, [(5, .inl s0), (0, z_r 36), (1, .inl x1), (2, .inl x2), (3, .inl x3)], [.inl x1, .inl (S 36 9), z_r 36], zW T' (zwG G' 9) (z_uS S 36 8 ((S 36 8) ||| (F_T_bit S x1))) n, 0, 0) (by decide +kernel) rfl ⟨trivial, trivial⟩ ?_
        refine z_callS M.1 (av := [.inl x1]) (st := [.inl (S 36 9), z_r 36]) (by decide +kernel) (c_T_bit T' (zwG G' 9) (z_uS S 36 8 ((S 36 8) ||| (F_T_bit S x1))) n x1) M.2.1 zl_Sight_76 zs_T_bit ⟨by decide, by decide, by decide, by decide⟩ rfl (Nat.le_of_ble_eq_true rfl) (fun v w' hv => ?_)
        obtain ⟨rfl, rfl⟩ := hv
        show z_G X zm_Sight_lookAt (103, [(5, .inl s0), (0, z_r 36), (1, .inl x1), (2, .inl x2), (3, .inl x3)], [.inl (F_T_bit (z_uS S 36 8 ((S 36 8) ||| (F_T_bit S x1))) x1), .inl (S 36 9), z_r 36], zW T' (zwG G' 9) (z_uS S 36 8 ((S 36 8) ||| (F_T_bit S x1))) n, 0, 0)
        refine z_go2 M.1 103 [(.goto 4, 3)] (107, [(5, .inl s0), (0, z_r 36), (1, .inl x1), (2, .inl x2), (3, .inl x3)], [.inl (F_T_bit (z_uS S 36 8 ((S 36 8) ||| (F_T_bit S x1))) x1), .inl (S 36 9), z_r 36], zW T' (zwG G' 9) (z_uS S 36 8 ((S 36 8) ||| (F_T_bit S x1))) n, 0, 0) (by decide +kernel) rfl ⟨trivial, trivial⟩ ?_
        exact z_lvs (lv' := [(0, z_r 36), (1, .inl x1), (2, .inl x2)]) [1, 2, 3] rfl (t_Sight_lookAt_j107_9 M (z_uS S 36 8 ((S 36 8) ||| (F_T_bit S x1))) x1 x2 (F_T_bit (z_uS S 36 8 ((S 36 8) ||| (F_T_bit S x1))) x1) (S 36 9) hQ K hs)
    · rw [if_pos c64] at K hs
      exact z_vret M (by decide +kernel) rfl (by decide) (by decide) (hQ _ K)
theorem t_Sight_lookAt_j47_28 {X : z_X} {Post : Option z_V → z_W → Prop} (M : z_M X zm_Sight_lookAt rm_Sight_lookAt Post) {T' : Nat → Nat × Nat} {G' : Nat → Nat → Option Nat} {n : Nat} {Q : (Nat → Nat → Int32) → Prop} (S : (Nat → Nat → Int32)) (x1 : Int32) (x2 : Int32) (x3 : Int32) (s0 : Int32) (hQ : ∀ S', Q S' → Post none (zW T' (zwG G' 28) S' n)) (K : Q (F_Sight_lookAt_j47 28 S x1 x2 x3 s0)) (hs : Sf_Sight_lookAt_j47 28 S x1 x2 x3 s0) : z_G X zm_Sight_lookAt (47, [(0, z_r 36), (1, .inl x1), (2, .inl x2), (3, .inl x3)], [.inl s0], zW T' (zwG G' 28) S n, 0, 0) := by
  unfold F_Sight_lookAt_j47 at K
  unfold Sf_Sight_lookAt_j47 at hs
  try simp only [Nat.reduceAdd] at K hs
  refine z_go2 M.1 47 [(.istore 5, 2), (.iload 5, 2)] (51, [(5, .inl s0), (0, z_r 36), (1, .inl x1), (2, .inl x2), (3, .inl x3)], [.inl s0], zW T' (zwG G' 28) S n, 0, 0) (by decide +kernel) rfl ⟨trivial, trivial, trivial⟩ ?_
  refine z_if_eq 67 M.1 (off := 16) (by decide +kernel) (by decide) (fun c51 => ?_) (fun c51 => ?_)
  · rw [if_pos c51] at K hs
    exact z_vret M (by decide +kernel) rfl (by decide) (by decide) (hQ _ K)
  · rw [if_neg c51] at K hs
    refine z_go2 M.1 54 [(.iload_n 2, 1), (.aload_n 0, 1), (.getfield 9, 3), (.iload_n 3, 1)] (60, [(5, .inl s0), (0, z_r 36), (1, .inl x1), (2, .inl x2), (3, .inl x3)], [.inl x3, z_r 37, .inl x2], zW T' (zwG G' 28) S n, 0, 0) (by decide +kernel) rfl ⟨trivial, trivial, rfl, trivial, trivial⟩ ?_
    refine z_callS M.1 (av := [z_r 37, .inl x3]) (st := [.inl x2]) (by decide +kernel) (c_at (zW T' (zwG G' 28) S n) 37 3 rfl (by decide) x3) M.2.1 zl_Sight_72 zs_T_at ⟨by decide, by decide, by decide, by decide⟩ rfl (Nat.le_of_ble_eq_true rfl) (fun v w' hv => ?_)
    obtain ⟨rfl, rfl⟩ := hv
    show z_G X zm_Sight_lookAt (63, [(5, .inl s0), (0, z_r 36), (1, .inl x1), (2, .inl x2), (3, .inl x3)], [.inl (zAt (S 37) 3 x3), .inl x2], zW T' (zwG G' 28) S n, 0, 0)
    refine z_go2 M.1 63 [(.iand, 1)] (64, [(5, .inl s0), (0, z_r 36), (1, .inl x1), (2, .inl x2), (3, .inl x3)], [.inl (x2 &&& (zAt (S 37) 3 x3))], zW T' (zwG G' 28) S n, 0, 0) (by decide +kernel) rfl ⟨trivial, trivial⟩ ?_
    refine z_if_ne 68 M.1 (off := 4) (by decide +kernel) (by decide) (fun c64 => ?_) (fun c64 => ?_)
    · rw [if_neg c64] at K hs
      refine z_go2 M.1 68 [(.aload_n 0, 1), (.dup, 1), (.getfield 44, 3), (.iload_n 1, 1)] (74, [(5, .inl s0), (0, z_r 36), (1, .inl x1), (2, .inl x2), (3, .inl x3)], [.inl x1, .inl (S 36 8), z_r 36], zW T' (zwG G' 28) S n, 0, 0) (by decide +kernel) rfl ⟨trivial, rfl, rfl, trivial, trivial⟩ ?_
      refine z_callS M.1 (av := [.inl x1]) (st := [.inl (S 36 8), z_r 36]) (by decide +kernel) (c_T_bit T' (zwG G' 28) S n x1) M.2.1 zl_Sight_76 zs_T_bit ⟨by decide, by decide, by decide, by decide⟩ rfl (Nat.le_of_ble_eq_true rfl) (fun v w' hv => ?_)
      obtain ⟨rfl, rfl⟩ := hv
      show z_G X zm_Sight_lookAt (77, [(5, .inl s0), (0, z_r 36), (1, .inl x1), (2, .inl x2), (3, .inl x3)], [.inl (F_T_bit S x1), .inl (S 36 8), z_r 36], zW T' (zwG G' 28) S n, 0, 0)
      refine z_go2 M.1 77 [(.ior, 1), (.putfield 44, 3), (.aload_n 0, 1), (.dup, 1), (.getfield 48, 3), (.iload_n 2, 1), (.aload_n 0, 1), (.getfield 15, 3), (.iload_n 3, 1)] (92, [(5, .inl s0), (0, z_r 36), (1, .inl x1), (2, .inl x2), (3, .inl x3)], [.inl x3, z_r 38, .inl x2, .inl (S 36 9), z_r 36], zW T' (zwG G' 28) (z_uS S 36 8 ((S 36 8) ||| (F_T_bit S x1))) n, 0, 0) (by decide +kernel) rfl ⟨trivial, ⟨rfl, trivial⟩, trivial, rfl, rfl, trivial, trivial, rfl, trivial, trivial⟩ ?_
      refine z_callS M.1 (av := [z_r 38, .inl x3]) (st := [.inl x2, .inl (S 36 9), z_r 36]) (by decide +kernel) (c_at (zW T' (zwG G' 28) (z_uS S 36 8 ((S 36 8) ||| (F_T_bit S x1))) n) 38 3 rfl (by decide) x3) M.2.1 zl_Sight_72 zs_T_at ⟨by decide, by decide, by decide, by decide⟩ rfl (Nat.le_of_ble_eq_true rfl) (fun v w' hv => ?_)
      obtain ⟨rfl, rfl⟩ := hv
      show z_G X zm_Sight_lookAt (95, [(5, .inl s0), (0, z_r 36), (1, .inl x1), (2, .inl x2), (3, .inl x3)], [.inl (zAt (S 38) 3 x3), .inl x2, .inl (S 36 9), z_r 36], zW T' (zwG G' 28) (z_uS S 36 8 ((S 36 8) ||| (F_T_bit S x1))) n, 0, 0)
      refine z_go2 M.1 95 [(.iand, 1)] (96, [(5, .inl s0), (0, z_r 36), (1, .inl x1), (2, .inl x2), (3, .inl x3)], [.inl (x2 &&& (zAt (S 38) 3 x3)), .inl (S 36 9), z_r 36], zW T' (zwG G' 28) (z_uS S 36 8 ((S 36 8) ||| (F_T_bit S x1))) n, 0, 0) (by decide +kernel) rfl ⟨trivial, trivial⟩ ?_
      refine z_if_eq 106 M.1 (off := 10) (by decide +kernel) (by decide) (fun c96 => ?_) (fun c96 => ?_)
      · rw [if_pos c96] at K hs
        refine z_go2 M.1 106 [(.iconst 0, 1)] (107, [(5, .inl s0), (0, z_r 36), (1, .inl x1), (2, .inl x2), (3, .inl x3)], [.inl 0, .inl (S 36 9), z_r 36], zW T' (zwG G' 28) (z_uS S 36 8 ((S 36 8) ||| (F_T_bit S x1))) n, 0, 0) (by decide +kernel) rfl ⟨trivial, trivial⟩ ?_
        exact z_lvs (lv' := [(0, z_r 36), (1, .inl x1), (2, .inl x2)]) [1, 2, 3] rfl (t_Sight_lookAt_j107_28 M (z_uS S 36 8 ((S 36 8) ||| (F_T_bit S x1))) x1 x2 0 (S 36 9) hQ K hs)
      · rw [if_neg c96] at K hs
        refine z_go2 M.1 99 [(.iload_n 1, 1)] (100, [(5, .inl s0), (0, z_r 36), (1, .inl x1), (2, .inl x2), (3, .inl x3)], [.inl x1, .inl (S 36 9), z_r 36], zW T' (zwG G' 28) (z_uS S 36 8 ((S 36 8) ||| (F_T_bit S x1))) n, 0, 0) (by decide +kernel) rfl ⟨trivial, trivial⟩ ?_
        refine z_callS M.1 (av := [.inl x1]) (st := [.inl (S 36 9), z_r 36]) (by decide +kernel) (c_T_bit T' (zwG G' 28) (z_uS S 36 8 ((S 36 8) ||| (F_T_bit S x1))) n x1) M.2.1 zl_Sight_76 zs_T_bit ⟨by decide, by decide, by decide, by decide⟩ rfl (Nat.le_of_ble_eq_true rfl) (fun v w' hv => ?_)
        obtain ⟨rfl, rfl⟩ := hv
        show z_G X zm_Sight_lookAt (103, [(5, .inl s0), (0, z_r 36), (1, .inl x1), (2, .inl x2), (3, .inl x3)], [.inl (F_T_bit (z_uS S 36 8 ((S 36 8) ||| (F_T_bit S x1))) x1), .inl (S 36 9), z_r 36], zW T' (zwG G' 28) (z_uS S 36 8 ((S 36 8) ||| (F_T_bit S x1))) n, 0, 0)
        refine z_go2 M.1 103 [(.goto 4, 3)] (107, [(5, .inl s0), (0, z_r 36), (1, .inl x1), (2, .inl x2), (3, .inl x3)], [.inl (F_T_bit (z_uS S 36 8 ((S 36 8) ||| (F_T_bit S x1))) x1), .inl (S 36 9), z_r 36], zW T' (zwG G' 28) (z_uS S 36 8 ((S 36 8) ||| (F_T_bit S x1))) n, 0, 0) (by decide +kernel) rfl ⟨trivial, trivial⟩ ?_
        exact z_lvs (lv' := [(0, z_r 36), (1, .inl x1), (2, .inl x2)]) [1, 2, 3] rfl (t_Sight_lookAt_j107_28 M (z_uS S 36 8 ((S 36 8) ||| (F_T_bit S x1))) x1 x2 (F_T_bit (z_uS S 36 8 ((S 36 8) ||| (F_T_bit S x1))) x1) (S 36 9) hQ K hs)
    · rw [if_pos c64] at K hs
      exact z_vret M (by decide +kernel) rfl (by decide) (by decide) (hQ _ K)
def F_Sight_lookAt_j42 (wd : Nat) (S : (Nat → Nat → Int32)) (x1 : Int32) (x2 : Int32) (x3 : Int32) : (Nat → Nat → Int32) := (F_Sight_lookAt_j47 wd S x1 x2 x3 1)
def Sf_Sight_lookAt_j42 (wd : Nat) (S : (Nat → Nat → Int32)) (x1 : Int32) (x2 : Int32) (x3 : Int32) : Prop := (Sf_Sight_lookAt_j47 wd S x1 x2 x3 1)
theorem t_Sight_lookAt_j42_9 {X : z_X} {Post : Option z_V → z_W → Prop} (M : z_M X zm_Sight_lookAt rm_Sight_lookAt Post) {T' : Nat → Nat × Nat} {G' : Nat → Nat → Option Nat} {n : Nat} {Q : (Nat → Nat → Int32) → Prop} (S : (Nat → Nat → Int32)) (x1 : Int32) (x2 : Int32) (x3 : Int32) (hQ : ∀ S', Q S' → Post none (zW T' (zwG G' 9) S' n)) (K : Q (F_Sight_lookAt_j42 9 S x1 x2 x3)) (hs : Sf_Sight_lookAt_j42 9 S x1 x2 x3) : z_G X zm_Sight_lookAt (42, [(0, z_r 36), (1, .inl x1), (2, .inl x2), (3, .inl x3)], [], zW T' (zwG G' 9) S n, 0, 0) := by
  unfold F_Sight_lookAt_j42 at K
  unfold Sf_Sight_lookAt_j42 at hs
  try simp only [Nat.reduceAdd] at K hs
  refine z_go2 M.1 42 [(.iconst 1, 1), (.goto 4, 3)] (47, [(0, z_r 36), (1, .inl x1), (2, .inl x2), (3, .inl x3)], [.inl 1], zW T' (zwG G' 9) S n, 0, 0) (by decide +kernel) rfl ⟨trivial, trivial, trivial⟩ ?_
  exact z_lvs (lv' := [(0, z_r 36), (1, .inl x1), (2, .inl x2), (3, .inl x3)]) [0, 1, 2, 3] rfl (t_Sight_lookAt_j47_9 M S x1 x2 x3 1 hQ K hs)
theorem t_Sight_lookAt_j42_28 {X : z_X} {Post : Option z_V → z_W → Prop} (M : z_M X zm_Sight_lookAt rm_Sight_lookAt Post) {T' : Nat → Nat × Nat} {G' : Nat → Nat → Option Nat} {n : Nat} {Q : (Nat → Nat → Int32) → Prop} (S : (Nat → Nat → Int32)) (x1 : Int32) (x2 : Int32) (x3 : Int32) (hQ : ∀ S', Q S' → Post none (zW T' (zwG G' 28) S' n)) (K : Q (F_Sight_lookAt_j42 28 S x1 x2 x3)) (hs : Sf_Sight_lookAt_j42 28 S x1 x2 x3) : z_G X zm_Sight_lookAt (42, [(0, z_r 36), (1, .inl x1), (2, .inl x2), (3, .inl x3)], [], zW T' (zwG G' 28) S n, 0, 0) := by
  unfold F_Sight_lookAt_j42 at K
  unfold Sf_Sight_lookAt_j42 at hs
  try simp only [Nat.reduceAdd] at K hs
  refine z_go2 M.1 42 [(.iconst 1, 1), (.goto 4, 3)] (47, [(0, z_r 36), (1, .inl x1), (2, .inl x2), (3, .inl x3)], [.inl 1], zW T' (zwG G' 28) S n, 0, 0) (by decide +kernel) rfl ⟨trivial, trivial, trivial⟩ ?_
  exact z_lvs (lv' := [(0, z_r 36), (1, .inl x1), (2, .inl x2), (3, .inl x3)]) [0, 1, 2, 3] rfl (t_Sight_lookAt_j47_28 M S x1 x2 x3 1 hQ K hs)
def F_Sight_lookAt (wd : Nat) (S : (Nat → Nat → Int32)) (p1 : Int32) (p2 : Int32) : (Nat → Nat → Int32) := (if (F_World_cell wd S p1 6) = 0 then (F_Sight_lookAt_j42 wd S p1 p2 (F_World_cell wd S p1 8)) else (if (p2 &&& (zAt (S 39) 3 (F_World_cell wd S p1 6))) = 0 then (F_Sight_lookAt_j47 wd S p1 p2 (F_World_cell wd S p1 8) 0) else (F_Sight_lookAt_j42 wd S p1 p2 (F_World_cell wd S p1 8))))
def Sf_Sight_lookAt (wd : Nat) (S : (Nat → Nat → Int32)) (p1 : Int32) (p2 : Int32) : Prop := (Sf_World_cell wd S p1 8 ∧ (Sf_World_cell wd S p1 6 ∧ (if (F_World_cell wd S p1 6) = 0 then (Sf_Sight_lookAt_j42 wd S p1 p2 (F_World_cell wd S p1 8)) else (if (p2 &&& (zAt (S 39) 3 (F_World_cell wd S p1 6))) = 0 then (Sf_Sight_lookAt_j47 wd S p1 p2 (F_World_cell wd S p1 8) 0) else (Sf_Sight_lookAt_j42 wd S p1 p2 (F_World_cell wd S p1 8))))))
theorem c_Sight_lookAt_9 (T' : Nat → Nat × Nat) (G' : Nat → Nat → Option Nat) (S : (Nat → Nat → Int32)) (n : Nat) (p1 : Int32) (p2 : Int32) (hs : Sf_Sight_lookAt 9 S p1 p2) : z_Run rm_Sight_lookAt zm_Sight_lookAt [z_r 36, .inl p1, .inl p2] (zW T' (zwG G' 9) S n) (zq none (zW T' (zwG G' 9) (F_Sight_lookAt 9 S p1 p2) n)) := by
  refine z_body (by decide) zf_Sight_ok (Nat.le_of_ble_eq_true rfl) (fun X M => ?_)
  obtain ⟨Q, hQ, K⟩ : ∃ Q : (Nat → Nat → Int32) → Prop, (∀ S', Q S' → zq none (zW T' (zwG G' 9) (F_Sight_lookAt 9 S p1 p2) n) none (zW T' (zwG G' 9) S' n)) ∧ Q (F_Sight_lookAt 9 S p1 p2) := ⟨fun o => F_Sight_lookAt 9 S p1 p2 = o, fun S' h => ⟨rfl, by rw [h]⟩, rfl⟩
  show z_G X zm_Sight_lookAt (0, [(0, z_r 36), (1, .inl p1), (2, .inl p2)], [], zW T' (zwG G' 9) S n, 0, 0)
  unfold F_Sight_lookAt at K
  unfold Sf_Sight_lookAt at hs
  try simp only [Nat.reduceAdd] at K hs
  refine z_go2 M.1 0 [(.aload_n 0, 1), (.getfield 40, 3), (.iload_n 1, 1), (.bipush 8, 2)] (7, [(0, z_r 36), (1, .inl p1), (2, .inl p2)], [.inl 8, .inl p1, z_r 9], zW T' (zwG G' 9) S n, 0, 0) (by decide +kernel) rfl ⟨trivial, rfl, trivial, trivial, trivial⟩ ?_
  refine z_callV M.1 (av := [.inl p1, .inl 8]) (st := []) (a := 9) (ci := 10) (by decide +kernel) (c_World_cell_9 T' (zwG G' 9) S n p1 8 hs.1) M.2.1 zl_Sight_61 zv_World_cell rfl rfl rfl ⟨by decide, by decide, by decide, by decide⟩ rfl (Nat.le_of_ble_eq_true rfl) (fun v w' hv => ?_)
  obtain ⟨rfl, rfl⟩ := hv
  replace hs := hs.2
  show z_G X zm_Sight_lookAt (10, [(0, z_r 36), (1, .inl p1), (2, .inl p2)], [.inl (F_World_cell 9 S p1 8)], zW T' (zwG G' 9) S n, 0, 0)
  refine z_go2 M.1 10 [(.istore_n 3, 1), (.aload_n 0, 1), (.getfield 40, 3), (.iload_n 1, 1), (.bipush 6, 2)] (18, [(3, .inl (F_World_cell 9 S p1 8)), (0, z_r 36), (1, .inl p1), (2, .inl p2)], [.inl 6, .inl p1, z_r 9], zW T' (zwG G' 9) S n, 0, 0) (by decide +kernel) rfl ⟨trivial, trivial, rfl, trivial, trivial, trivial⟩ ?_
  refine z_callV M.1 (av := [.inl p1, .inl 6]) (st := []) (a := 9) (ci := 10) (by decide +kernel) (c_World_cell_9 T' (zwG G' 9) S n p1 6 hs.1) M.2.1 zl_Sight_61 zv_World_cell rfl rfl rfl ⟨by decide, by decide, by decide, by decide⟩ rfl (Nat.le_of_ble_eq_true rfl) (fun v w' hv => ?_)
  obtain ⟨rfl, rfl⟩ := hv
  replace hs := hs.2
  show z_G X zm_Sight_lookAt (21, [(3, .inl (F_World_cell 9 S p1 8)), (0, z_r 36), (1, .inl p1), (2, .inl p2)], [.inl (F_World_cell 9 S p1 6)], zW T' (zwG G' 9) S n, 0, 0)
  refine z_go2 M.1 21 [(.istore 4, 2), (.iload 4, 2)] (25, [(4, .inl (F_World_cell 9 S p1 6)), (3, .inl (F_World_cell 9 S p1 8)), (0, z_r 36), (1, .inl p1), (2, .inl p2)], [.inl (F_World_cell 9 S p1 6)], zW T' (zwG G' 9) S n, 0, 0) (by decide +kernel) rfl ⟨trivial, trivial, trivial⟩ ?_
  refine z_if_eq 42 M.1 (off := 17) (by decide +kernel) (by decide) (fun c25 => ?_) (fun c25 => ?_)
  · rw [if_pos c25] at K hs
    exact z_lvs (lv' := [(0, z_r 36), (1, .inl p1), (2, .inl p2), (3, .inl (F_World_cell 9 S p1 8))]) [2, 3, 4, 1] rfl (t_Sight_lookAt_j42_9 M S p1 p2 (F_World_cell 9 S p1 8) hQ K hs)
  · rw [if_neg c25] at K hs
    refine z_go2 M.1 28 [(.iload_n 2, 1), (.aload_n 0, 1), (.getfield 18, 3), (.iload 4, 2)] (35, [(4, .inl (F_World_cell 9 S p1 6)), (3, .inl (F_World_cell 9 S p1 8)), (0, z_r 36), (1, .inl p1), (2, .inl p2)], [.inl (F_World_cell 9 S p1 6), z_r 39, .inl p2], zW T' (zwG G' 9) S n, 0, 0) (by decide +kernel) rfl ⟨trivial, trivial, rfl, trivial, trivial⟩ ?_
    refine z_callS M.1 (av := [z_r 39, .inl (F_World_cell 9 S p1 6)]) (st := [.inl p2]) (by decide +kernel) (c_at (zW T' (zwG G' 9) S n) 39 3 rfl (by decide) (F_World_cell 9 S p1 6)) M.2.1 zl_Sight_72 zs_T_at ⟨by decide, by decide, by decide, by decide⟩ rfl (Nat.le_of_ble_eq_true rfl) (fun v w' hv => ?_)
    obtain ⟨rfl, rfl⟩ := hv
    show z_G X zm_Sight_lookAt (38, [(4, .inl (F_World_cell 9 S p1 6)), (3, .inl (F_World_cell 9 S p1 8)), (0, z_r 36), (1, .inl p1), (2, .inl p2)], [.inl (zAt (S 39) 3 (F_World_cell 9 S p1 6)), .inl p2], zW T' (zwG G' 9) S n, 0, 0)
    refine z_go2 M.1 38 [(.iand, 1)] (39, [(4, .inl (F_World_cell 9 S p1 6)), (3, .inl (F_World_cell 9 S p1 8)), (0, z_r 36), (1, .inl p1), (2, .inl p2)], [.inl (p2 &&& (zAt (S 39) 3 (F_World_cell 9 S p1 6)))], zW T' (zwG G' 9) S n, 0, 0) (by decide +kernel) rfl ⟨trivial, trivial⟩ ?_
    refine z_if_eq 46 M.1 (off := 7) (by decide +kernel) (by decide) (fun c39 => ?_) (fun c39 => ?_)
    · rw [if_pos c39] at K hs
      refine z_go2 M.1 46 [(.iconst 0, 1)] (47, [(4, .inl (F_World_cell 9 S p1 6)), (3, .inl (F_World_cell 9 S p1 8)), (0, z_r 36), (1, .inl p1), (2, .inl p2)], [.inl 0], zW T' (zwG G' 9) S n, 0, 0) (by decide +kernel) rfl ⟨trivial, trivial⟩ ?_
      exact z_lvs (lv' := [(0, z_r 36), (1, .inl p1), (2, .inl p2), (3, .inl (F_World_cell 9 S p1 8))]) [2, 3, 4, 1] rfl (t_Sight_lookAt_j47_9 M S p1 p2 (F_World_cell 9 S p1 8) 0 hQ K hs)
    · rw [if_neg c39] at K hs
      exact z_lvs (lv' := [(0, z_r 36), (1, .inl p1), (2, .inl p2), (3, .inl (F_World_cell 9 S p1 8))]) [2, 3, 4, 1] rfl (t_Sight_lookAt_j42_9 M S p1 p2 (F_World_cell 9 S p1 8) hQ K hs)
theorem c_Sight_lookAt_28 (T' : Nat → Nat × Nat) (G' : Nat → Nat → Option Nat) (S : (Nat → Nat → Int32)) (n : Nat) (p1 : Int32) (p2 : Int32) (hs : Sf_Sight_lookAt 28 S p1 p2) : z_Run rm_Sight_lookAt zm_Sight_lookAt [z_r 36, .inl p1, .inl p2] (zW T' (zwG G' 28) S n) (zq none (zW T' (zwG G' 28) (F_Sight_lookAt 28 S p1 p2) n)) := by
  refine z_body (by decide) zf_Sight_ok (Nat.le_of_ble_eq_true rfl) (fun X M => ?_)
  obtain ⟨Q, hQ, K⟩ : ∃ Q : (Nat → Nat → Int32) → Prop, (∀ S', Q S' → zq none (zW T' (zwG G' 28) (F_Sight_lookAt 28 S p1 p2) n) none (zW T' (zwG G' 28) S' n)) ∧ Q (F_Sight_lookAt 28 S p1 p2) := ⟨fun o => F_Sight_lookAt 28 S p1 p2 = o, fun S' h => ⟨rfl, by rw [h]⟩, rfl⟩
  show z_G X zm_Sight_lookAt (0, [(0, z_r 36), (1, .inl p1), (2, .inl p2)], [], zW T' (zwG G' 28) S n, 0, 0)
  unfold F_Sight_lookAt at K
  unfold Sf_Sight_lookAt at hs
  try simp only [Nat.reduceAdd] at K hs
  refine z_go2 M.1 0 [(.aload_n 0, 1), (.getfield 40, 3), (.iload_n 1, 1), (.bipush 8, 2)] (7, [(0, z_r 36), (1, .inl p1), (2, .inl p2)], [.inl 8, .inl p1, z_r 28], zW T' (zwG G' 28) S n, 0, 0) (by decide +kernel) rfl ⟨trivial, rfl, trivial, trivial, trivial⟩ ?_
  refine z_callV M.1 (av := [.inl p1, .inl 8]) (st := []) (a := 28) (ci := 10) (by decide +kernel) (c_World_cell_28 T' (zwG G' 28) S n p1 8 hs.1) M.2.1 zl_Sight_61 zv_World_cell rfl rfl rfl ⟨by decide, by decide, by decide, by decide⟩ rfl (Nat.le_of_ble_eq_true rfl) (fun v w' hv => ?_)
  obtain ⟨rfl, rfl⟩ := hv
  replace hs := hs.2
  show z_G X zm_Sight_lookAt (10, [(0, z_r 36), (1, .inl p1), (2, .inl p2)], [.inl (F_World_cell 28 S p1 8)], zW T' (zwG G' 28) S n, 0, 0)
  refine z_go2 M.1 10 [(.istore_n 3, 1), (.aload_n 0, 1), (.getfield 40, 3), (.iload_n 1, 1), (.bipush 6, 2)] (18, [(3, .inl (F_World_cell 28 S p1 8)), (0, z_r 36), (1, .inl p1), (2, .inl p2)], [.inl 6, .inl p1, z_r 28], zW T' (zwG G' 28) S n, 0, 0) (by decide +kernel) rfl ⟨trivial, trivial, rfl, trivial, trivial, trivial⟩ ?_
  refine z_callV M.1 (av := [.inl p1, .inl 6]) (st := []) (a := 28) (ci := 10) (by decide +kernel) (c_World_cell_28 T' (zwG G' 28) S n p1 6 hs.1) M.2.1 zl_Sight_61 zv_World_cell rfl rfl rfl ⟨by decide, by decide, by decide, by decide⟩ rfl (Nat.le_of_ble_eq_true rfl) (fun v w' hv => ?_)
  obtain ⟨rfl, rfl⟩ := hv
  replace hs := hs.2
  show z_G X zm_Sight_lookAt (21, [(3, .inl (F_World_cell 28 S p1 8)), (0, z_r 36), (1, .inl p1), (2, .inl p2)], [.inl (F_World_cell 28 S p1 6)], zW T' (zwG G' 28) S n, 0, 0)
  refine z_go2 M.1 21 [(.istore 4, 2), (.iload 4, 2)] (25, [(4, .inl (F_World_cell 28 S p1 6)), (3, .inl (F_World_cell 28 S p1 8)), (0, z_r 36), (1, .inl p1), (2, .inl p2)], [.inl (F_World_cell 28 S p1 6)], zW T' (zwG G' 28) S n, 0, 0) (by decide +kernel) rfl ⟨trivial, trivial, trivial⟩ ?_
  refine z_if_eq 42 M.1 (off := 17) (by decide +kernel) (by decide) (fun c25 => ?_) (fun c25 => ?_)
  · rw [if_pos c25] at K hs
    exact z_lvs (lv' := [(0, z_r 36), (1, .inl p1), (2, .inl p2), (3, .inl (F_World_cell 28 S p1 8))]) [2, 3, 4, 1] rfl (t_Sight_lookAt_j42_28 M S p1 p2 (F_World_cell 28 S p1 8) hQ K hs)
  · rw [if_neg c25] at K hs
    refine z_go2 M.1 28 [(.iload_n 2, 1), (.aload_n 0, 1), (.getfield 18, 3), (.iload 4, 2)] (35, [(4, .inl (F_World_cell 28 S p1 6)), (3, .inl (F_World_cell 28 S p1 8)), (0, z_r 36), (1, .inl p1), (2, .inl p2)], [.inl (F_World_cell 28 S p1 6), z_r 39, .inl p2], zW T' (zwG G' 28) S n, 0, 0) (by decide +kernel) rfl ⟨trivial, trivial, rfl, trivial, trivial⟩ ?_
    refine z_callS M.1 (av := [z_r 39, .inl (F_World_cell 28 S p1 6)]) (st := [.inl p2]) (by decide +kernel) (c_at (zW T' (zwG G' 28) S n) 39 3 rfl (by decide) (F_World_cell 28 S p1 6)) M.2.1 zl_Sight_72 zs_T_at ⟨by decide, by decide, by decide, by decide⟩ rfl (Nat.le_of_ble_eq_true rfl) (fun v w' hv => ?_)
    obtain ⟨rfl, rfl⟩ := hv
    show z_G X zm_Sight_lookAt (38, [(4, .inl (F_World_cell 28 S p1 6)), (3, .inl (F_World_cell 28 S p1 8)), (0, z_r 36), (1, .inl p1), (2, .inl p2)], [.inl (zAt (S 39) 3 (F_World_cell 28 S p1 6)), .inl p2], zW T' (zwG G' 28) S n, 0, 0)
    refine z_go2 M.1 38 [(.iand, 1)] (39, [(4, .inl (F_World_cell 28 S p1 6)), (3, .inl (F_World_cell 28 S p1 8)), (0, z_r 36), (1, .inl p1), (2, .inl p2)], [.inl (p2 &&& (zAt (S 39) 3 (F_World_cell 28 S p1 6)))], zW T' (zwG G' 28) S n, 0, 0) (by decide +kernel) rfl ⟨trivial, trivial⟩ ?_
    refine z_if_eq 46 M.1 (off := 7) (by decide +kernel) (by decide) (fun c39 => ?_) (fun c39 => ?_)
    · rw [if_pos c39] at K hs
      refine z_go2 M.1 46 [(.iconst 0, 1)] (47, [(4, .inl (F_World_cell 28 S p1 6)), (3, .inl (F_World_cell 28 S p1 8)), (0, z_r 36), (1, .inl p1), (2, .inl p2)], [.inl 0], zW T' (zwG G' 28) S n, 0, 0) (by decide +kernel) rfl ⟨trivial, trivial⟩ ?_
      exact z_lvs (lv' := [(0, z_r 36), (1, .inl p1), (2, .inl p2), (3, .inl (F_World_cell 28 S p1 8))]) [2, 3, 4, 1] rfl (t_Sight_lookAt_j47_28 M S p1 p2 (F_World_cell 28 S p1 8) 0 hQ K hs)
    · rw [if_neg c39] at K hs
      exact z_lvs (lv' := [(0, z_r 36), (1, .inl p1), (2, .inl p2), (3, .inl (F_World_cell 28 S p1 8))]) [2, 3, 4, 1] rfl (t_Sight_lookAt_j42_28 M S p1 p2 (F_World_cell 28 S p1 8) hQ K hs)

-- TrackHouse$Sight.value
abbrev rm_Sight_value : Room := zr 2
def F_Sight_value (wd : Nat) (S : (Nat → Nat → Int32)) (p1 : Int32) (p2 : Int32) : Int32 := (if p2 = 3 then (if (F_Sight_canRead S p1 p2) = 0 then (-1) else (F_Sight_computed wd S p1)) else (if (F_T_isIn S (zAt (S 42) 3 p2) p1) = 0 then (-1) else (F_World_cell wd S p1 ((1 : Int32) + p2))))
def Sf_Sight_value (wd : Nat) (S : (Nat → Nat → Int32)) (p1 : Int32) (p2 : Int32) : Prop := (if p2 = 3 then (Sf_Sight_canRead S p1 p2 ∧ (if (F_Sight_canRead S p1 p2) = 0 then True else (Sf_Sight_computed wd S p1 ∧ True))) else (if (F_T_isIn S (zAt (S 42) 3 p2) p1) = 0 then True else (Sf_World_cell wd S p1 ((1 : Int32) + p2) ∧ True)))
theorem c_Sight_value_9 (T' : Nat → Nat × Nat) (G' : Nat → Nat → Option Nat) (S : (Nat → Nat → Int32)) (n : Nat) (p1 : Int32) (p2 : Int32) (hs : Sf_Sight_value 9 S p1 p2) : z_Run rm_Sight_value zm_Sight_value [z_r 36, .inl p1, .inl p2] (zW T' (zwG G' 9) S n) (zq (some (.inl (F_Sight_value 9 S p1 p2))) (zW T' (zwG G' 9) S n)) := by
  refine z_body (by decide) zf_Sight_ok (Nat.le_of_ble_eq_true rfl) (fun X M => ?_)
  obtain ⟨Q, hQ, K⟩ : ∃ Q : Int32 → Prop, (∀ v, Q v → zq (some (.inl (F_Sight_value 9 S p1 p2))) (zW T' (zwG G' 9) S n) (some (.inl v)) (zW T' (zwG G' 9) S n)) ∧ Q (F_Sight_value 9 S p1 p2) := ⟨fun o => F_Sight_value 9 S p1 p2 = o, fun v h => ⟨by rw [h], rfl⟩, rfl⟩
  show z_G X zm_Sight_value (0, [(0, z_r 36), (1, .inl p1), (2, .inl p2)], [], zW T' (zwG G' 9) S n, 0, 0)
  unfold F_Sight_value at K
  unfold Sf_Sight_value at hs
  try simp only [Nat.reduceAdd] at K hs
  refine z_go2 M.1 0 [(.iload_n 2, 1), (.iconst 3, 1)] (2, [(0, z_r 36), (1, .inl p1), (2, .inl p2)], [.inl 3, .inl p2], zW T' (zwG G' 9) S n, 0, 0) (by decide +kernel) rfl ⟨trivial, trivial, trivial⟩ ?_
  refine z_icmp_ne 24 M.1 (off := 22) (by decide +kernel) (by decide) (fun c2 => ?_) (fun c2 => ?_)
  · rw [if_neg c2] at K hs
    refine z_go2 M.1 24 [(.aload_n 0, 1), (.getfield 27, 3), (.iload_n 2, 1)] (29, [(0, z_r 36), (1, .inl p1), (2, .inl p2)], [.inl p2, z_r 42], zW T' (zwG G' 9) S n, 0, 0) (by decide +kernel) rfl ⟨trivial, rfl, trivial, trivial⟩ ?_
    refine z_callS M.1 (av := [z_r 42, .inl p2]) (st := []) (by decide +kernel) (c_at (zW T' (zwG G' 9) S n) 42 3 rfl (by decide) p2) M.2.1 zl_Sight_72 zs_T_at ⟨by decide, by decide, by decide, by decide⟩ rfl (Nat.le_of_ble_eq_true rfl) (fun v w' hv => ?_)
    obtain ⟨rfl, rfl⟩ := hv
    show z_G X zm_Sight_value (32, [(0, z_r 36), (1, .inl p1), (2, .inl p2)], [.inl (zAt (S 42) 3 p2)], zW T' (zwG G' 9) S n, 0, 0)
    refine z_go2 M.1 32 [(.iload_n 1, 1)] (33, [(0, z_r 36), (1, .inl p1), (2, .inl p2)], [.inl p1, .inl (zAt (S 42) 3 p2)], zW T' (zwG G' 9) S n, 0, 0) (by decide +kernel) rfl ⟨trivial, trivial⟩ ?_
    refine z_callS M.1 (av := [.inl (zAt (S 42) 3 p2), .inl p1]) (st := []) (by decide +kernel) (c_T_isIn T' (zwG G' 9) S n (zAt (S 42) 3 p2) p1) M.2.1 zl_Sight_90 zs_T_isIn ⟨by decide, by decide, by decide, by decide⟩ rfl (Nat.le_of_ble_eq_true rfl) (fun v w' hv => ?_)
    obtain ⟨rfl, rfl⟩ := hv
    show z_G X zm_Sight_value (36, [(0, z_r 36), (1, .inl p1), (2, .inl p2)], [.inl (F_T_isIn S (zAt (S 42) 3 p2) p1)], zW T' (zwG G' 9) S n, 0, 0)
    refine z_if_eq 53 M.1 (off := 17) (by decide +kernel) (by decide) (fun c36 => ?_) (fun c36 => ?_)
    · rw [if_pos c36] at K hs
      refine z_go2 M.1 53 [(.iconst (-1), 1)] (54, [(0, z_r 36), (1, .inl p1), (2, .inl p2)], [.inl (-1)], zW T' (zwG G' 9) S n, 0, 0) (by decide +kernel) rfl ⟨trivial, trivial⟩ ?_
      exact z_iret M (by decide +kernel) .int rfl rfl (by decide) (by decide) (hQ _ K)
    · rw [if_neg c36] at K hs
      refine z_go2 M.1 39 [(.aload_n 0, 1), (.getfield 40, 3), (.iload_n 1, 1), (.iconst 1, 1), (.iload_n 2, 1), (.iadd, 1)] (47, [(0, z_r 36), (1, .inl p1), (2, .inl p2)], [.inl ((1 : Int32) + p2), .inl p1, z_r 9], zW T' (zwG G' 9) S n, 0, 0) (by decide +kernel) rfl ⟨trivial, rfl, trivial, trivial, trivial, trivial, trivial⟩ ?_
      refine z_callV M.1 (av := [.inl p1, .inl ((1 : Int32) + p2)]) (st := []) (a := 9) (ci := 10) (by decide +kernel) (c_World_cell_9 T' (zwG G' 9) S n p1 ((1 : Int32) + p2) hs.1) M.2.1 zl_Sight_61 zv_World_cell rfl rfl rfl ⟨by decide, by decide, by decide, by decide⟩ rfl (Nat.le_of_ble_eq_true rfl) (fun v w' hv => ?_)
      obtain ⟨rfl, rfl⟩ := hv
      replace hs := hs.2
      show z_G X zm_Sight_value (50, [(0, z_r 36), (1, .inl p1), (2, .inl p2)], [.inl (F_World_cell 9 S p1 ((1 : Int32) + p2))], zW T' (zwG G' 9) S n, 0, 0)
      refine z_go2 M.1 50 [(.goto 4, 3)] (54, [(0, z_r 36), (1, .inl p1), (2, .inl p2)], [.inl (F_World_cell 9 S p1 ((1 : Int32) + p2))], zW T' (zwG G' 9) S n, 0, 0) (by decide +kernel) rfl ⟨trivial, trivial⟩ ?_
      exact z_iret M (by decide +kernel) .int rfl rfl (by decide) (by decide) (hQ _ K)
  · rw [if_pos c2] at K hs
    refine z_go2 M.1 5 [(.aload_n 0, 1), (.iload_n 1, 1), (.iload_n 2, 1)] (8, [(0, z_r 36), (1, .inl p1), (2, .inl p2)], [.inl p2, .inl p1, z_r 36], zW T' (zwG G' 9) S n, 0, 0) (by decide +kernel) rfl ⟨trivial, trivial, trivial, trivial⟩ ?_
    refine z_callV M.1 (av := [.inl p1, .inl p2]) (st := []) (a := 36) (ci := 8) (by decide +kernel) (c_Sight_canRead T' (zwG G' 9) S n p1 p2 hs.1) M.2.1 zl_Sight_93 zv_Sight_canRead rfl rfl rfl ⟨by decide, by decide, by decide, by decide⟩ rfl (Nat.le_of_ble_eq_true rfl) (fun v w' hv => ?_)
    obtain ⟨rfl, rfl⟩ := hv
    replace hs := hs.2
    show z_G X zm_Sight_value (11, [(0, z_r 36), (1, .inl p1), (2, .inl p2)], [.inl (F_Sight_canRead S p1 p2)], zW T' (zwG G' 9) S n, 0, 0)
    refine z_if_eq 22 M.1 (off := 11) (by decide +kernel) (by decide) (fun c11 => ?_) (fun c11 => ?_)
    · rw [if_pos c11] at K hs
      refine z_go2 M.1 22 [(.iconst (-1), 1)] (23, [(0, z_r 36), (1, .inl p1), (2, .inl p2)], [.inl (-1)], zW T' (zwG G' 9) S n, 0, 0) (by decide +kernel) rfl ⟨trivial, trivial⟩ ?_
      exact z_iret M (by decide +kernel) .int rfl rfl (by decide) (by decide) (hQ _ K)
    · rw [if_neg c11] at K hs
      refine z_go2 M.1 14 [(.aload_n 0, 1), (.iload_n 1, 1)] (16, [(0, z_r 36), (1, .inl p1), (2, .inl p2)], [.inl p1, z_r 36], zW T' (zwG G' 9) S n, 0, 0) (by decide +kernel) rfl ⟨trivial, trivial, trivial⟩ ?_
      refine z_callV M.1 (av := [.inl p1]) (st := []) (a := 36) (ci := 8) (by decide +kernel) (c_Sight_computed_9 T' G' S n p1 hs.1) M.2.1 zl_Sight_96 zv_Sight_computed rfl rfl rfl ⟨by decide, by decide, by decide, by decide⟩ rfl (Nat.le_of_ble_eq_true rfl) (fun v w' hv => ?_)
      obtain ⟨rfl, rfl⟩ := hv
      replace hs := hs.2
      show z_G X zm_Sight_value (19, [(0, z_r 36), (1, .inl p1), (2, .inl p2)], [.inl (F_Sight_computed 9 S p1)], zW T' (zwG G' 9) S n, 0, 0)
      refine z_go2 M.1 19 [(.goto 4, 3)] (23, [(0, z_r 36), (1, .inl p1), (2, .inl p2)], [.inl (F_Sight_computed 9 S p1)], zW T' (zwG G' 9) S n, 0, 0) (by decide +kernel) rfl ⟨trivial, trivial⟩ ?_
      exact z_iret M (by decide +kernel) .int rfl rfl (by decide) (by decide) (hQ _ K)
theorem c_Sight_value_28 (T' : Nat → Nat × Nat) (G' : Nat → Nat → Option Nat) (S : (Nat → Nat → Int32)) (n : Nat) (p1 : Int32) (p2 : Int32) (hs : Sf_Sight_value 28 S p1 p2) : z_Run rm_Sight_value zm_Sight_value [z_r 36, .inl p1, .inl p2] (zW T' (zwG G' 28) S n) (zq (some (.inl (F_Sight_value 28 S p1 p2))) (zW T' (zwG G' 28) S n)) := by
  refine z_body (by decide) zf_Sight_ok (Nat.le_of_ble_eq_true rfl) (fun X M => ?_)
  obtain ⟨Q, hQ, K⟩ : ∃ Q : Int32 → Prop, (∀ v, Q v → zq (some (.inl (F_Sight_value 28 S p1 p2))) (zW T' (zwG G' 28) S n) (some (.inl v)) (zW T' (zwG G' 28) S n)) ∧ Q (F_Sight_value 28 S p1 p2) := ⟨fun o => F_Sight_value 28 S p1 p2 = o, fun v h => ⟨by rw [h], rfl⟩, rfl⟩
  show z_G X zm_Sight_value (0, [(0, z_r 36), (1, .inl p1), (2, .inl p2)], [], zW T' (zwG G' 28) S n, 0, 0)
  unfold F_Sight_value at K
  unfold Sf_Sight_value at hs
  try simp only [Nat.reduceAdd] at K hs
  refine z_go2 M.1 0 [(.iload_n 2, 1), (.iconst 3, 1)] (2, [(0, z_r 36), (1, .inl p1), (2, .inl p2)], [.inl 3, .inl p2], zW T' (zwG G' 28) S n, 0, 0) (by decide +kernel) rfl ⟨trivial, trivial, trivial⟩ ?_
  refine z_icmp_ne 24 M.1 (off := 22) (by decide +kernel) (by decide) (fun c2 => ?_) (fun c2 => ?_)
  · rw [if_neg c2] at K hs
    refine z_go2 M.1 24 [(.aload_n 0, 1), (.getfield 27, 3), (.iload_n 2, 1)] (29, [(0, z_r 36), (1, .inl p1), (2, .inl p2)], [.inl p2, z_r 42], zW T' (zwG G' 28) S n, 0, 0) (by decide +kernel) rfl ⟨trivial, rfl, trivial, trivial⟩ ?_
    refine z_callS M.1 (av := [z_r 42, .inl p2]) (st := []) (by decide +kernel) (c_at (zW T' (zwG G' 28) S n) 42 3 rfl (by decide) p2) M.2.1 zl_Sight_72 zs_T_at ⟨by decide, by decide, by decide, by decide⟩ rfl (Nat.le_of_ble_eq_true rfl) (fun v w' hv => ?_)
    obtain ⟨rfl, rfl⟩ := hv
    show z_G X zm_Sight_value (32, [(0, z_r 36), (1, .inl p1), (2, .inl p2)], [.inl (zAt (S 42) 3 p2)], zW T' (zwG G' 28) S n, 0, 0)
    refine z_go2 M.1 32 [(.iload_n 1, 1)] (33, [(0, z_r 36), (1, .inl p1), (2, .inl p2)], [.inl p1, .inl (zAt (S 42) 3 p2)], zW T' (zwG G' 28) S n, 0, 0) (by decide +kernel) rfl ⟨trivial, trivial⟩ ?_
    refine z_callS M.1 (av := [.inl (zAt (S 42) 3 p2), .inl p1]) (st := []) (by decide +kernel) (c_T_isIn T' (zwG G' 28) S n (zAt (S 42) 3 p2) p1) M.2.1 zl_Sight_90 zs_T_isIn ⟨by decide, by decide, by decide, by decide⟩ rfl (Nat.le_of_ble_eq_true rfl) (fun v w' hv => ?_)
    obtain ⟨rfl, rfl⟩ := hv
    show z_G X zm_Sight_value (36, [(0, z_r 36), (1, .inl p1), (2, .inl p2)], [.inl (F_T_isIn S (zAt (S 42) 3 p2) p1)], zW T' (zwG G' 28) S n, 0, 0)
    refine z_if_eq 53 M.1 (off := 17) (by decide +kernel) (by decide) (fun c36 => ?_) (fun c36 => ?_)
    · rw [if_pos c36] at K hs
      refine z_go2 M.1 53 [(.iconst (-1), 1)] (54, [(0, z_r 36), (1, .inl p1), (2, .inl p2)], [.inl (-1)], zW T' (zwG G' 28) S n, 0, 0) (by decide +kernel) rfl ⟨trivial, trivial⟩ ?_
      exact z_iret M (by decide +kernel) .int rfl rfl (by decide) (by decide) (hQ _ K)
    · rw [if_neg c36] at K hs
      refine z_go2 M.1 39 [(.aload_n 0, 1), (.getfield 40, 3), (.iload_n 1, 1), (.iconst 1, 1), (.iload_n 2, 1), (.iadd, 1)] (47, [(0, z_r 36), (1, .inl p1), (2, .inl p2)], [.inl ((1 : Int32) + p2), .inl p1, z_r 28], zW T' (zwG G' 28) S n, 0, 0) (by decide +kernel) rfl ⟨trivial, rfl, trivial, trivial, trivial, trivial, trivial⟩ ?_
      refine z_callV M.1 (av := [.inl p1, .inl ((1 : Int32) + p2)]) (st := []) (a := 28) (ci := 10) (by decide +kernel) (c_World_cell_28 T' (zwG G' 28) S n p1 ((1 : Int32) + p2) hs.1) M.2.1 zl_Sight_61 zv_World_cell rfl rfl rfl ⟨by decide, by decide, by decide, by decide⟩ rfl (Nat.le_of_ble_eq_true rfl) (fun v w' hv => ?_)
      obtain ⟨rfl, rfl⟩ := hv
      replace hs := hs.2
      show z_G X zm_Sight_value (50, [(0, z_r 36), (1, .inl p1), (2, .inl p2)], [.inl (F_World_cell 28 S p1 ((1 : Int32) + p2))], zW T' (zwG G' 28) S n, 0, 0)
      refine z_go2 M.1 50 [(.goto 4, 3)] (54, [(0, z_r 36), (1, .inl p1), (2, .inl p2)], [.inl (F_World_cell 28 S p1 ((1 : Int32) + p2))], zW T' (zwG G' 28) S n, 0, 0) (by decide +kernel) rfl ⟨trivial, trivial⟩ ?_
      exact z_iret M (by decide +kernel) .int rfl rfl (by decide) (by decide) (hQ _ K)
  · rw [if_pos c2] at K hs
    refine z_go2 M.1 5 [(.aload_n 0, 1), (.iload_n 1, 1), (.iload_n 2, 1)] (8, [(0, z_r 36), (1, .inl p1), (2, .inl p2)], [.inl p2, .inl p1, z_r 36], zW T' (zwG G' 28) S n, 0, 0) (by decide +kernel) rfl ⟨trivial, trivial, trivial, trivial⟩ ?_
    refine z_callV M.1 (av := [.inl p1, .inl p2]) (st := []) (a := 36) (ci := 8) (by decide +kernel) (c_Sight_canRead T' (zwG G' 28) S n p1 p2 hs.1) M.2.1 zl_Sight_93 zv_Sight_canRead rfl rfl rfl ⟨by decide, by decide, by decide, by decide⟩ rfl (Nat.le_of_ble_eq_true rfl) (fun v w' hv => ?_)
    obtain ⟨rfl, rfl⟩ := hv
    replace hs := hs.2
    show z_G X zm_Sight_value (11, [(0, z_r 36), (1, .inl p1), (2, .inl p2)], [.inl (F_Sight_canRead S p1 p2)], zW T' (zwG G' 28) S n, 0, 0)
    refine z_if_eq 22 M.1 (off := 11) (by decide +kernel) (by decide) (fun c11 => ?_) (fun c11 => ?_)
    · rw [if_pos c11] at K hs
      refine z_go2 M.1 22 [(.iconst (-1), 1)] (23, [(0, z_r 36), (1, .inl p1), (2, .inl p2)], [.inl (-1)], zW T' (zwG G' 28) S n, 0, 0) (by decide +kernel) rfl ⟨trivial, trivial⟩ ?_
      exact z_iret M (by decide +kernel) .int rfl rfl (by decide) (by decide) (hQ _ K)
    · rw [if_neg c11] at K hs
      refine z_go2 M.1 14 [(.aload_n 0, 1), (.iload_n 1, 1)] (16, [(0, z_r 36), (1, .inl p1), (2, .inl p2)], [.inl p1, z_r 36], zW T' (zwG G' 28) S n, 0, 0) (by decide +kernel) rfl ⟨trivial, trivial, trivial⟩ ?_
      refine z_callV M.1 (av := [.inl p1]) (st := []) (a := 36) (ci := 8) (by decide +kernel) (c_Sight_computed_28 T' G' S n p1 hs.1) M.2.1 zl_Sight_96 zv_Sight_computed rfl rfl rfl ⟨by decide, by decide, by decide, by decide⟩ rfl (Nat.le_of_ble_eq_true rfl) (fun v w' hv => ?_)
      obtain ⟨rfl, rfl⟩ := hv
      replace hs := hs.2
      show z_G X zm_Sight_value (19, [(0, z_r 36), (1, .inl p1), (2, .inl p2)], [.inl (F_Sight_computed 28 S p1)], zW T' (zwG G' 28) S n, 0, 0)
      refine z_go2 M.1 19 [(.goto 4, 3)] (23, [(0, z_r 36), (1, .inl p1), (2, .inl p2)], [.inl (F_Sight_computed 28 S p1)], zW T' (zwG G' 28) S n, 0, 0) (by decide +kernel) rfl ⟨trivial, trivial⟩ ?_
      exact z_iret M (by decide +kernel) .int rfl rfl (by decide) (by decide) (hQ _ K)


-- TrackHouse$Sight.look
abbrev rm_Sight_look : Room := zr 3
def F_Sight_look_L33 (a : Nat) (x2 : Int32) : Nat → (Nat → Nat → Int32) → Int32 → ((Nat → Nat → Int32))
  | 0, S, x3 => S
  | f + 1, S, x3 => (if (30 : Int32) ≤ x3 then S else (if (F_World_has a S x3) = 0 then ((F_Sight_look_L33 a x2 f) S (x3 + 1)) else (z_let (F_Sight_lookAt a S x3 (F_World_rolesOf a S x2 (F_World_cell a S x3 8))) (fun S70 => ((F_Sight_look_L33 a x2 f) S70 (x3 + 1))))))
def Sf_Sight_look_L33 (a : Nat) (x2 : Int32) : Nat → (Nat → Nat → Int32) → Int32 → Prop
  | 0, _, _ => False
  | f + 1, S, x3 => (if (30 : Int32) ≤ x3 then True else (if (F_World_has a S x3) = 0 then ((Sf_Sight_look_L33 a x2 f) S (x3 + 1)) else (Sf_World_cell a S x3 8 ∧ (Sf_Sight_lookAt a S x3 (F_World_rolesOf a S x2 (F_World_cell a S x3 8)) ∧ (z_let (F_Sight_lookAt a S x3 (F_World_rolesOf a S x2 (F_World_cell a S x3 8))) (fun S70 => ((Sf_Sight_look_L33 a x2 f) S70 (x3 + 1))))))))
theorem t_Sight_look_L33_9 {X : z_X} {Post : Option z_V → z_W → Prop} (M : z_M X zm_Sight_look rm_Sight_look Post) {T' : Nat → Nat × Nat} {G' : Nat → Nat → Option Nat} {n : Nat} {q0 : Nat} {Q : ((Nat → Nat → Int32)) → Prop}  (x2 : Int32) (hE : ∀ (S' : (Nat → Nat → Int32)), Q S' → z_G X zm_Sight_look (79, [], [], zW T' (zwG G' 9) S' n, 0, 0)) (f : Nat) : ∀ (S : (Nat → Nat → Int32)) (x3 : Int32), Q (F_Sight_look_L33 9 x2 f S x3) → Sf_Sight_look_L33 9 x2 f S x3 → z_G X zm_Sight_look (33, [(0, z_r 36), (2, .inl x2), (3, .inl x3)], [], zW T' (zwG G' 9) S n, 0, 0) := by
  induction f with
  | zero => intro S x3 K hs; exact False.elim hs
  | succ f hC =>
    intro S x3 K hs
    rw [F_Sight_look_L33] at K
    rw [Sf_Sight_look_L33] at hs
    try simp only [Nat.reduceAdd] at K hs
    refine z_go2 M.1 33 [(.iload_n 3, 1), (.bipush 30, 2)] (36, [(0, z_r 36), (2, .inl x2), (3, .inl x3)], [.inl 30, .inl x3], zW T' (zwG G' 9) S n, 0, 0) (by decide +kernel) rfl ⟨trivial, trivial, trivial⟩ ?_
    refine z_icmp_ge 79 M.1 (off := 43) (by decide +kernel) (by decide) (fun c36 => ?_) (fun c36 => ?_)
    · rw [if_pos c36] at K hs
      exact z_lvs (lv' := []) [] rfl (hE S K)
    · rw [if_neg c36] at K hs
      refine z_go2 M.1 39 [(.aload_n 0, 1), (.getfield 40, 3), (.iload_n 3, 1)] (44, [(0, z_r 36), (2, .inl x2), (3, .inl x3)], [.inl x3, z_r 9], zW T' (zwG G' 9) S n, 0, 0) (by decide +kernel) rfl ⟨trivial, rfl, trivial, trivial⟩ ?_
      refine z_callV M.1 (av := [.inl x3]) (st := []) (a := 9) (ci := 10) (by decide +kernel) (c_World_has_9 T' (zwG G' 9) S n x3) M.2.1 zl_Sight_57 zv_World_has rfl rfl rfl ⟨by decide, by decide, by decide, by decide⟩ rfl (Nat.le_of_ble_eq_true rfl) (fun v w' hv => ?_)
      obtain ⟨rfl, rfl⟩ := hv
      show z_G X zm_Sight_look (47, [(0, z_r 36), (2, .inl x2), (3, .inl x3)], [.inl (F_World_has 9 S x3)], zW T' (zwG G' 9) S n, 0, 0)
      refine z_if_eq 73 M.1 (off := 26) (by decide +kernel) (by decide) (fun c47 => ?_) (fun c47 => ?_)
      · rw [if_pos c47] at K hs
        refine z_go2 M.1 73 [(.iinc 3 1, 3), (.goto (-43), 3)] (33, [(3, .inl (x3 + 1)), (0, z_r 36), (2, .inl x2)], [], zW T' (zwG G' 9) S n, 0, 0) (by decide +kernel) rfl ⟨trivial, trivial, trivial⟩ ?_
        exact z_lvs (lv' := [(0, z_r 36), (2, .inl x2), (3, .inl (x3 + 1))]) [1, 2, 0] rfl (hC S (x3 + 1) K hs)
      · rw [if_neg c47] at K hs
        refine z_go2 M.1 50 [(.aload_n 0, 1), (.iload_n 3, 1), (.aload_n 0, 1), (.getfield 40, 3), (.iload_n 2, 1), (.aload_n 0, 1), (.getfield 40, 3), (.iload_n 3, 1), (.bipush 8, 2)] (64, [(0, z_r 36), (2, .inl x2), (3, .inl x3)], [.inl 8, .inl x3, z_r 9, .inl x2, z_r 9, .inl x3, z_r 36], zW T' (zwG G' 9) S n, 0, 0) (by decide +kernel) rfl ⟨trivial, trivial, trivial, rfl, trivial, trivial, rfl, trivial, trivial, trivial⟩ ?_
        refine z_callV M.1 (av := [.inl x3, .inl 8]) (st := [.inl x2, z_r 9, .inl x3, z_r 36]) (a := 9) (ci := 10) (by decide +kernel) (c_World_cell_9 T' (zwG G' 9) S n x3 8 hs.1) M.2.1 zl_Sight_61 zv_World_cell rfl rfl rfl ⟨by decide, by decide, by decide, by decide⟩ rfl (Nat.le_of_ble_eq_true rfl) (fun v w' hv => ?_)
        obtain ⟨rfl, rfl⟩ := hv
        replace hs := hs.2
        show z_G X zm_Sight_look (67, [(0, z_r 36), (2, .inl x2), (3, .inl x3)], [.inl (F_World_cell 9 S x3 8), .inl x2, z_r 9, .inl x3, z_r 36], zW T' (zwG G' 9) S n, 0, 0)
        refine z_callV M.1 (av := [.inl x2, .inl (F_World_cell 9 S x3 8)]) (st := [.inl x3, z_r 36]) (a := 9) (ci := 10) (by decide +kernel) (c_World_rolesOf_9 T' (zwG G' 9) S n x2 (F_World_cell 9 S x3 8)) M.2.1 zl_Sight_65 zv_World_rolesOf rfl rfl rfl ⟨by decide, by decide, by decide, by decide⟩ rfl (Nat.le_of_ble_eq_true rfl) (fun v w' hv => ?_)
        obtain ⟨rfl, rfl⟩ := hv
        show z_G X zm_Sight_look (70, [(0, z_r 36), (2, .inl x2), (3, .inl x3)], [.inl (F_World_rolesOf 9 S x2 (F_World_cell 9 S x3 8)), .inl x3, z_r 36], zW T' (zwG G' 9) S n, 0, 0)
        refine z_callV M.1 (av := [.inl x3, .inl (F_World_rolesOf 9 S x2 (F_World_cell 9 S x3 8))]) (st := []) (a := 36) (ci := 8) (by decide +kernel) (c_Sight_lookAt_9 T' G' S n x3 (F_World_rolesOf 9 S x2 (F_World_cell 9 S x3 8)) hs.1) M.2.1 zl_Sight_68 zv_Sight_lookAt rfl rfl rfl ⟨by decide, by decide, by decide, by decide⟩ rfl (Nat.le_of_ble_eq_true rfl) (fun v w' hv => ?_)
        replace hs := hs.2
        obtain ⟨S70, hF70⟩ : ∃ y, F_Sight_lookAt 9 S x3 (F_World_rolesOf 9 S x2 (F_World_cell 9 S x3 8)) = y := ⟨_, rfl⟩
        rw [hF70] at K hv
        try rw [hF70] at hs
        try dsimp only [z_let] at K hs
        obtain ⟨rfl, rfl⟩ := hv
        show z_G X zm_Sight_look (73, [(0, z_r 36), (2, .inl x2), (3, .inl x3)], [], zW T' (zwG G' 9) S70 n, 0, 0)
        refine z_go2 M.1 73 [(.iinc 3 1, 3), (.goto (-43), 3)] (33, [(3, .inl (x3 + 1)), (0, z_r 36), (2, .inl x2)], [], zW T' (zwG G' 9) S70 n, 0, 0) (by decide +kernel) rfl ⟨trivial, trivial, trivial⟩ ?_
        exact z_lvs (lv' := [(0, z_r 36), (2, .inl x2), (3, .inl (x3 + 1))]) [1, 2, 0] rfl (hC S70 (x3 + 1) K hs)
theorem t_Sight_look_L33_28 {X : z_X} {Post : Option z_V → z_W → Prop} (M : z_M X zm_Sight_look rm_Sight_look Post) {T' : Nat → Nat × Nat} {G' : Nat → Nat → Option Nat} {n : Nat} {q0 : Nat} {Q : ((Nat → Nat → Int32)) → Prop}  (x2 : Int32) (hE : ∀ (S' : (Nat → Nat → Int32)), Q S' → z_G X zm_Sight_look (79, [], [], zW T' (zwG G' 28) S' n, 0, 0)) (f : Nat) : ∀ (S : (Nat → Nat → Int32)) (x3 : Int32), Q (F_Sight_look_L33 28 x2 f S x3) → Sf_Sight_look_L33 28 x2 f S x3 → z_G X zm_Sight_look (33, [(0, z_r 36), (2, .inl x2), (3, .inl x3)], [], zW T' (zwG G' 28) S n, 0, 0) := by
  induction f with
  | zero => intro S x3 K hs; exact False.elim hs
  | succ f hC =>
    intro S x3 K hs
    rw [F_Sight_look_L33] at K
    rw [Sf_Sight_look_L33] at hs
    try simp only [Nat.reduceAdd] at K hs
    refine z_go2 M.1 33 [(.iload_n 3, 1), (.bipush 30, 2)] (36, [(0, z_r 36), (2, .inl x2), (3, .inl x3)], [.inl 30, .inl x3], zW T' (zwG G' 28) S n, 0, 0) (by decide +kernel) rfl ⟨trivial, trivial, trivial⟩ ?_
    refine z_icmp_ge 79 M.1 (off := 43) (by decide +kernel) (by decide) (fun c36 => ?_) (fun c36 => ?_)
    · rw [if_pos c36] at K hs
      exact z_lvs (lv' := []) [] rfl (hE S K)
    · rw [if_neg c36] at K hs
      refine z_go2 M.1 39 [(.aload_n 0, 1), (.getfield 40, 3), (.iload_n 3, 1)] (44, [(0, z_r 36), (2, .inl x2), (3, .inl x3)], [.inl x3, z_r 28], zW T' (zwG G' 28) S n, 0, 0) (by decide +kernel) rfl ⟨trivial, rfl, trivial, trivial⟩ ?_
      refine z_callV M.1 (av := [.inl x3]) (st := []) (a := 28) (ci := 10) (by decide +kernel) (c_World_has_28 T' (zwG G' 28) S n x3) M.2.1 zl_Sight_57 zv_World_has rfl rfl rfl ⟨by decide, by decide, by decide, by decide⟩ rfl (Nat.le_of_ble_eq_true rfl) (fun v w' hv => ?_)
      obtain ⟨rfl, rfl⟩ := hv
      show z_G X zm_Sight_look (47, [(0, z_r 36), (2, .inl x2), (3, .inl x3)], [.inl (F_World_has 28 S x3)], zW T' (zwG G' 28) S n, 0, 0)
      refine z_if_eq 73 M.1 (off := 26) (by decide +kernel) (by decide) (fun c47 => ?_) (fun c47 => ?_)
      · rw [if_pos c47] at K hs
        refine z_go2 M.1 73 [(.iinc 3 1, 3), (.goto (-43), 3)] (33, [(3, .inl (x3 + 1)), (0, z_r 36), (2, .inl x2)], [], zW T' (zwG G' 28) S n, 0, 0) (by decide +kernel) rfl ⟨trivial, trivial, trivial⟩ ?_
        exact z_lvs (lv' := [(0, z_r 36), (2, .inl x2), (3, .inl (x3 + 1))]) [1, 2, 0] rfl (hC S (x3 + 1) K hs)
      · rw [if_neg c47] at K hs
        refine z_go2 M.1 50 [(.aload_n 0, 1), (.iload_n 3, 1), (.aload_n 0, 1), (.getfield 40, 3), (.iload_n 2, 1), (.aload_n 0, 1), (.getfield 40, 3), (.iload_n 3, 1), (.bipush 8, 2)] (64, [(0, z_r 36), (2, .inl x2), (3, .inl x3)], [.inl 8, .inl x3, z_r 28, .inl x2, z_r 28, .inl x3, z_r 36], zW T' (zwG G' 28) S n, 0, 0) (by decide +kernel) rfl ⟨trivial, trivial, trivial, rfl, trivial, trivial, rfl, trivial, trivial, trivial⟩ ?_
        refine z_callV M.1 (av := [.inl x3, .inl 8]) (st := [.inl x2, z_r 28, .inl x3, z_r 36]) (a := 28) (ci := 10) (by decide +kernel) (c_World_cell_28 T' (zwG G' 28) S n x3 8 hs.1) M.2.1 zl_Sight_61 zv_World_cell rfl rfl rfl ⟨by decide, by decide, by decide, by decide⟩ rfl (Nat.le_of_ble_eq_true rfl) (fun v w' hv => ?_)
        obtain ⟨rfl, rfl⟩ := hv
        replace hs := hs.2
        show z_G X zm_Sight_look (67, [(0, z_r 36), (2, .inl x2), (3, .inl x3)], [.inl (F_World_cell 28 S x3 8), .inl x2, z_r 28, .inl x3, z_r 36], zW T' (zwG G' 28) S n, 0, 0)
        refine z_callV M.1 (av := [.inl x2, .inl (F_World_cell 28 S x3 8)]) (st := [.inl x3, z_r 36]) (a := 28) (ci := 10) (by decide +kernel) (c_World_rolesOf_28 T' (zwG G' 28) S n x2 (F_World_cell 28 S x3 8)) M.2.1 zl_Sight_65 zv_World_rolesOf rfl rfl rfl ⟨by decide, by decide, by decide, by decide⟩ rfl (Nat.le_of_ble_eq_true rfl) (fun v w' hv => ?_)
        obtain ⟨rfl, rfl⟩ := hv
        show z_G X zm_Sight_look (70, [(0, z_r 36), (2, .inl x2), (3, .inl x3)], [.inl (F_World_rolesOf 28 S x2 (F_World_cell 28 S x3 8)), .inl x3, z_r 36], zW T' (zwG G' 28) S n, 0, 0)
        refine z_callV M.1 (av := [.inl x3, .inl (F_World_rolesOf 28 S x2 (F_World_cell 28 S x3 8))]) (st := []) (a := 36) (ci := 8) (by decide +kernel) (c_Sight_lookAt_28 T' G' S n x3 (F_World_rolesOf 28 S x2 (F_World_cell 28 S x3 8)) hs.1) M.2.1 zl_Sight_68 zv_Sight_lookAt rfl rfl rfl ⟨by decide, by decide, by decide, by decide⟩ rfl (Nat.le_of_ble_eq_true rfl) (fun v w' hv => ?_)
        replace hs := hs.2
        obtain ⟨S70, hF70⟩ : ∃ y, F_Sight_lookAt 28 S x3 (F_World_rolesOf 28 S x2 (F_World_cell 28 S x3 8)) = y := ⟨_, rfl⟩
        rw [hF70] at K hv
        try rw [hF70] at hs
        try dsimp only [z_let] at K hs
        obtain ⟨rfl, rfl⟩ := hv
        show z_G X zm_Sight_look (73, [(0, z_r 36), (2, .inl x2), (3, .inl x3)], [], zW T' (zwG G' 28) S70 n, 0, 0)
        refine z_go2 M.1 73 [(.iinc 3 1, 3), (.goto (-43), 3)] (33, [(3, .inl (x3 + 1)), (0, z_r 36), (2, .inl x2)], [], zW T' (zwG G' 28) S70 n, 0, 0) (by decide +kernel) rfl ⟨trivial, trivial, trivial⟩ ?_
        exact z_lvs (lv' := [(0, z_r 36), (2, .inl x2), (3, .inl (x3 + 1))]) [1, 2, 0] rfl (hC S70 (x3 + 1) K hs)
def F_Sight_look (a : Nat) (S : (Nat → Nat → Int32)) (p2 : Int32) : (Nat → Nat → Int32) := (z_let (zFill (z_uS (z_uS S 36 8 0) 36 9 0) 41 4 0) (fun S20 => (z_let (zFill S20 42 3 0) (fun S28 => (match F_Sight_look_L33 a p2 1300 S28 0 with | S33 => S33)))))
def Sf_Sight_look (a : Nat) (S : (Nat → Nat → Int32)) (p2 : Int32) : Prop := (z_let (zFill (z_uS (z_uS S 36 8 0) 36 9 0) 41 4 0) (fun S20 => (z_let (zFill S20 42 3 0) (fun S28 => (Sf_Sight_look_L33 a p2 1300 S28 0 ∧ True)))))
theorem c_Sight_look_9 (T' : Nat → Nat × Nat) (G' : Nat → Nat → Option Nat) (q0 : Nat) (S : (Nat → Nat → Int32)) (n : Nat) (p2 : Int32) (hs : Sf_Sight_look 9 S p2) : z_Run rm_Sight_look zm_Sight_look [z_r 36, z_r 9, .inl p2] (zW T' (zwG G' q0) S n) (zq none (zW T' (zwG G' 9) (F_Sight_look 9 S p2) n)) := by
  refine z_body (by decide) zf_Sight_ok (Nat.le_of_ble_eq_true rfl) (fun X M => ?_)
  obtain ⟨Q, hQ, K⟩ : ∃ Q : (Nat → Nat → Int32) → Prop, (∀ S', Q S' → zq none (zW T' (zwG G' 9) (F_Sight_look 9 S p2) n) none (zW T' (zwG G' 9) S' n)) ∧ Q (F_Sight_look 9 S p2) := ⟨fun o => F_Sight_look 9 S p2 = o, fun S' h => ⟨rfl, by rw [h]⟩, rfl⟩
  show z_G X zm_Sight_look (0, [(0, z_r 36), (1, z_r 9), (2, .inl p2)], [], zW T' (zwG G' q0) S n, 0, 0)
  unfold F_Sight_look at K
  unfold Sf_Sight_look at hs
  try simp only [Nat.reduceAdd] at K hs
  refine z_go2 M.1 0 [(.aload_n 0, 1), (.aload_n 1, 1)] (2, [(0, z_r 36), (1, z_r 9), (2, .inl p2)], [z_r 9, z_r 36], zW T' (zwG G' q0) S n, 0, 0) (by decide +kernel) rfl ⟨trivial, trivial, trivial⟩ ?_
  refine z_putw M.1 (idx := 40) (by decide +kernel) (by decide) ?_
  refine z_go2 M.1 5 [(.aload_n 0, 1), (.iconst 0, 1), (.putfield 44, 3), (.aload_n 0, 1), (.iconst 0, 1), (.putfield 48, 3), (.aload_n 0, 1), (.getfield 24, 3), (.iconst 0, 1)] (20, [(0, z_r 36), (1, z_r 9), (2, .inl p2)], [.inl 0, z_r 41], zW T' (zwG G' 9) (z_uS (z_uS S 36 8 0) 36 9 0) n, 0, 0) (by decide +kernel) rfl ⟨trivial, trivial, ⟨rfl, trivial⟩, trivial, trivial, ⟨rfl, trivial⟩, trivial, rfl, trivial, trivial⟩ ?_
  refine z_callS M.1 (av := [z_r 41, .inl 0]) (st := []) (by decide +kernel) (c_fill (zT T') (zG (zwG G' 9)) (z_uS (z_uS S 36 8 0) 36 9 0) n 41 4 rfl (by decide) 0) M.2.1 zl_Sight_51 zs_Arrays_fill ⟨by decide, by decide, by decide, by decide⟩ rfl (Nat.le_of_ble_eq_true rfl) (fun v w' hv => ?_)
  obtain ⟨S20, hF20⟩ : ∃ y, zFill (z_uS (z_uS S 36 8 0) 36 9 0) 41 4 0 = y := ⟨_, rfl⟩
  replace hv : v = none ∧ w' = zW T' (zwG G' 9) (zFill (z_uS (z_uS S 36 8 0) 36 9 0) 41 4 0) n := hv
  rw [hF20] at K hv
  try rw [hF20] at hs
  try dsimp only [z_let] at K hs
  obtain ⟨rfl, rfl⟩ := hv
  show z_G X zm_Sight_look (23, [(0, z_r 36), (1, z_r 9), (2, .inl p2)], [], zW T' (zwG G' 9) S20 n, 0, 0)
  refine z_go2 M.1 23 [(.aload_n 0, 1), (.getfield 27, 3), (.iconst 0, 1)] (28, [(0, z_r 36), (1, z_r 9), (2, .inl p2)], [.inl 0, z_r 42], zW T' (zwG G' 9) S20 n, 0, 0) (by decide +kernel) rfl ⟨trivial, rfl, trivial, trivial⟩ ?_
  refine z_callS M.1 (av := [z_r 42, .inl 0]) (st := []) (by decide +kernel) (c_fill (zT T') (zG (zwG G' 9)) S20 n 42 3 rfl (by decide) 0) M.2.1 zl_Sight_51 zs_Arrays_fill ⟨by decide, by decide, by decide, by decide⟩ rfl (Nat.le_of_ble_eq_true rfl) (fun v w' hv => ?_)
  obtain ⟨S28, hF28⟩ : ∃ y, zFill S20 42 3 0 = y := ⟨_, rfl⟩
  replace hv : v = none ∧ w' = zW T' (zwG G' 9) (zFill S20 42 3 0) n := hv
  rw [hF28] at K hv
  try rw [hF28] at hs
  try dsimp only [z_let] at K hs
  obtain ⟨rfl, rfl⟩ := hv
  show z_G X zm_Sight_look (31, [(0, z_r 36), (1, z_r 9), (2, .inl p2)], [], zW T' (zwG G' 9) S28 n, 0, 0)
  refine z_go2 M.1 31 [(.iconst 0, 1), (.istore_n 3, 1)] (33, [(3, .inl 0), (0, z_r 36), (1, z_r 9), (2, .inl p2)], [], zW T' (zwG G' 9) S28 n, 0, 0) (by decide +kernel) rfl ⟨trivial, trivial, trivial⟩ ?_
  refine z_lvs (lv' := [(0, z_r 36), (2, .inl p2), (3, .inl 0)]) [1, 3, 0] rfl ?_
  refine t_Sight_look_L33_9 M (q0 := q0) (Q := fun o => F_Sight_look_L33 9 p2 1300 S28 0 = o) p2 (fun S33 hL33 => ?_) 1300 S28 0 rfl hs.1
  replace hs := hs.2
  rw [hL33] at K
  try dsimp only at K
  exact z_vret M (by decide +kernel) rfl (by decide) (by decide) (hQ _ K)
theorem c_Sight_look_28 (T' : Nat → Nat × Nat) (G' : Nat → Nat → Option Nat) (q0 : Nat) (S : (Nat → Nat → Int32)) (n : Nat) (p2 : Int32) (hs : Sf_Sight_look 28 S p2) : z_Run rm_Sight_look zm_Sight_look [z_r 36, z_r 28, .inl p2] (zW T' (zwG G' q0) S n) (zq none (zW T' (zwG G' 28) (F_Sight_look 28 S p2) n)) := by
  refine z_body (by decide) zf_Sight_ok (Nat.le_of_ble_eq_true rfl) (fun X M => ?_)
  obtain ⟨Q, hQ, K⟩ : ∃ Q : (Nat → Nat → Int32) → Prop, (∀ S', Q S' → zq none (zW T' (zwG G' 28) (F_Sight_look 28 S p2) n) none (zW T' (zwG G' 28) S' n)) ∧ Q (F_Sight_look 28 S p2) := ⟨fun o => F_Sight_look 28 S p2 = o, fun S' h => ⟨rfl, by rw [h]⟩, rfl⟩
  show z_G X zm_Sight_look (0, [(0, z_r 36), (1, z_r 28), (2, .inl p2)], [], zW T' (zwG G' q0) S n, 0, 0)
  unfold F_Sight_look at K
  unfold Sf_Sight_look at hs
  try simp only [Nat.reduceAdd] at K hs
  refine z_go2 M.1 0 [(.aload_n 0, 1), (.aload_n 1, 1)] (2, [(0, z_r 36), (1, z_r 28), (2, .inl p2)], [z_r 28, z_r 36], zW T' (zwG G' q0) S n, 0, 0) (by decide +kernel) rfl ⟨trivial, trivial, trivial⟩ ?_
  refine z_putw M.1 (idx := 40) (by decide +kernel) (by decide) ?_
  refine z_go2 M.1 5 [(.aload_n 0, 1), (.iconst 0, 1), (.putfield 44, 3), (.aload_n 0, 1), (.iconst 0, 1), (.putfield 48, 3), (.aload_n 0, 1), (.getfield 24, 3), (.iconst 0, 1)] (20, [(0, z_r 36), (1, z_r 28), (2, .inl p2)], [.inl 0, z_r 41], zW T' (zwG G' 28) (z_uS (z_uS S 36 8 0) 36 9 0) n, 0, 0) (by decide +kernel) rfl ⟨trivial, trivial, ⟨rfl, trivial⟩, trivial, trivial, ⟨rfl, trivial⟩, trivial, rfl, trivial, trivial⟩ ?_
  refine z_callS M.1 (av := [z_r 41, .inl 0]) (st := []) (by decide +kernel) (c_fill (zT T') (zG (zwG G' 28)) (z_uS (z_uS S 36 8 0) 36 9 0) n 41 4 rfl (by decide) 0) M.2.1 zl_Sight_51 zs_Arrays_fill ⟨by decide, by decide, by decide, by decide⟩ rfl (Nat.le_of_ble_eq_true rfl) (fun v w' hv => ?_)
  obtain ⟨S20, hF20⟩ : ∃ y, zFill (z_uS (z_uS S 36 8 0) 36 9 0) 41 4 0 = y := ⟨_, rfl⟩
  replace hv : v = none ∧ w' = zW T' (zwG G' 28) (zFill (z_uS (z_uS S 36 8 0) 36 9 0) 41 4 0) n := hv
  rw [hF20] at K hv
  try rw [hF20] at hs
  try dsimp only [z_let] at K hs
  obtain ⟨rfl, rfl⟩ := hv
  show z_G X zm_Sight_look (23, [(0, z_r 36), (1, z_r 28), (2, .inl p2)], [], zW T' (zwG G' 28) S20 n, 0, 0)
  refine z_go2 M.1 23 [(.aload_n 0, 1), (.getfield 27, 3), (.iconst 0, 1)] (28, [(0, z_r 36), (1, z_r 28), (2, .inl p2)], [.inl 0, z_r 42], zW T' (zwG G' 28) S20 n, 0, 0) (by decide +kernel) rfl ⟨trivial, rfl, trivial, trivial⟩ ?_
  refine z_callS M.1 (av := [z_r 42, .inl 0]) (st := []) (by decide +kernel) (c_fill (zT T') (zG (zwG G' 28)) S20 n 42 3 rfl (by decide) 0) M.2.1 zl_Sight_51 zs_Arrays_fill ⟨by decide, by decide, by decide, by decide⟩ rfl (Nat.le_of_ble_eq_true rfl) (fun v w' hv => ?_)
  obtain ⟨S28, hF28⟩ : ∃ y, zFill S20 42 3 0 = y := ⟨_, rfl⟩
  replace hv : v = none ∧ w' = zW T' (zwG G' 28) (zFill S20 42 3 0) n := hv
  rw [hF28] at K hv
  try rw [hF28] at hs
  try dsimp only [z_let] at K hs
  obtain ⟨rfl, rfl⟩ := hv
  show z_G X zm_Sight_look (31, [(0, z_r 36), (1, z_r 28), (2, .inl p2)], [], zW T' (zwG G' 28) S28 n, 0, 0)
  refine z_go2 M.1 31 [(.iconst 0, 1), (.istore_n 3, 1)] (33, [(3, .inl 0), (0, z_r 36), (1, z_r 28), (2, .inl p2)], [], zW T' (zwG G' 28) S28 n, 0, 0) (by decide +kernel) rfl ⟨trivial, trivial, trivial⟩ ?_
  refine z_lvs (lv' := [(0, z_r 36), (2, .inl p2), (3, .inl 0)]) [1, 3, 0] rfl ?_
  refine t_Sight_look_L33_28 M (q0 := q0) (Q := fun o => F_Sight_look_L33 28 p2 1300 S28 0 = o) p2 (fun S33 hL33 => ?_) 1300 S28 0 rfl hs.1
  replace hs := hs.2
  rw [hL33] at K
  try dsimp only at K
  exact z_vret M (by decide +kernel) rfl (by decide) (by decide) (hQ _ K)











