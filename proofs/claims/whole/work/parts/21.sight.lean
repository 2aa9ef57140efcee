-- TrackHouse$Sight.tell
abbrev rm_Sight_tell : Room := zr 1
def F_Sight_tell (wd : Nat) (S : (Nat → Nat → Int32)) (p1 : Int32) (p2 : Int32) : (Nat → Nat → Int32) := (if (F_Kinds_has S (F_World_cell wd S p1 9) p2) = 0 then S else (if (F_World_cell wd S p1 ((1 : Int32) + p2)) = (-1) then S else (z_let (zPut S 42 3 p2 ((zAt (S 42) 3 p2) ||| (F_T_bit S p1))) (fun S54 => S54))))
def Sf_Sight_tell (wd : Nat) (S : (Nat → Nat → Int32)) (p1 : Int32) (p2 : Int32) : Prop := (Sf_World_cell wd S p1 9 ∧ (Sf_Kinds_has S (F_World_cell wd S p1 9) p2 ∧ (if (F_Kinds_has S (F_World_cell wd S p1 9) p2) = 0 then True else (Sf_World_cell wd S p1 ((1 : Int32) + p2) ∧ True))))
theorem c_Sight_tell_9 (T' : Nat → Nat × Nat) (G' : Nat → Nat → Option Nat) (S : (Nat → Nat → Int32)) (n : Nat) (p1 : Int32) (p2 : Int32) (hs : Sf_Sight_tell 9 S p1 p2) : z_Run rm_Sight_tell zm_Sight_tell [z_r 36, .inl p1, .inl p2] (zW T' (zwG G' 9) S n) (zq none (zW T' (zwG G' 9) (F_Sight_tell 9 S p1 p2) n)) := by
  refine z_body (by decide) zf_Sight_ok (Nat.le_of_ble_eq_true rfl) (fun X M => ?_)
  obtain ⟨Q, hQ, K⟩ : ∃ Q : (Nat → Nat → Int32) → Prop, (∀ S', Q S' → zq none (zW T' (zwG G' 9) (F_Sight_tell 9 S p1 p2) n) none (zW T' (zwG G' 9) S' n)) ∧ Q (F_Sight_tell 9 S p1 p2) := ⟨fun o => F_Sight_tell 9 S p1 p2 = o, fun S' h => ⟨rfl, by rw [h]⟩, rfl⟩
  show z_G X zm_Sight_tell (0, [(0, z_r 36), (1, .inl p1), (2, .inl p2)], [], zW T' (zwG G' 9) S n, 0, 0)
  unfold F_Sight_tell at K
  unfold Sf_Sight_tell at hs
  try simp only [Nat.reduceAdd] at K hs
  refine z_go2 M.1 0 [(.aload_n 0, 1), (.getfield 33, 3), (.aload_n 0, 1), (.getfield 40, 3), (.iload_n 1, 1), (.bipush 9, 2)] (11, [(0, z_r 36), (1, .inl p1), (2, .inl p2)], [.inl 9, .inl p1, z_r 9, z_r 43], zW T' (zwG G' 9) S n, 0, 0) (by decide +kernel) rfl ⟨trivial, rfl, trivial, rfl, trivial, trivial, trivial⟩ ?_
  refine z_callV M.1 (av := [.inl p1, .inl 9]) (st := [z_r 43]) (a := 9) (ci := 10) (by decide +kernel) (c_World_cell_9 T' (zwG G' 9) S n p1 9 hs.1) M.2.1 zl_Sight_61 zv_World_cell rfl rfl rfl ⟨by decide, by decide, by decide, by decide⟩ rfl (Nat.le_of_ble_eq_true rfl) (fun v w' hv => ?_)
  obtain ⟨rfl, rfl⟩ := hv
  replace hs := hs.2
  show z_G X zm_Sight_tell (14, [(0, z_r 36), (1, .inl p1), (2, .inl p2)], [.inl (F_World_cell 9 S p1 9), z_r 43], zW T' (zwG G' 9) S n, 0, 0)
  refine z_go2 M.1 14 [(.iload_n 2, 1)] (15, [(0, z_r 36), (1, .inl p1), (2, .inl p2)], [.inl p2, .inl (F_World_cell 9 S p1 9), z_r 43], zW T' (zwG G' 9) S n, 0, 0) (by decide +kernel) rfl ⟨trivial, trivial⟩ ?_
  refine z_callV M.1 (av := [.inl (F_World_cell 9 S p1 9), .inl p2]) (st := []) (a := 43) (ci := 3) (by decide +kernel) (c_Kinds_has T' (zwG G' 9) S n (F_World_cell 9 S p1 9) p2 hs.1) M.2.1 zl_Sight_87 zv_Kinds_has rfl rfl rfl ⟨by decide, by decide, by decide, by decide⟩ rfl (Nat.le_of_ble_eq_true rfl) (fun v w' hv => ?_)
  obtain ⟨rfl, rfl⟩ := hv
  replace hs := hs.2
  show z_G X zm_Sight_tell (18, [(0, z_r 36), (1, .inl p1), (2, .inl p2)], [.inl (F_Kinds_has S (F_World_cell 9 S p1 9) p2)], zW T' (zwG G' 9) S n, 0, 0)
  refine z_if_eq 57 M.1 (off := 39) (by decide +kernel) (by decide) (fun c18 => ?_) (fun c18 => ?_)
  · rw [if_pos c18] at K hs
    exact z_vret M (by decide +kernel) rfl (by decide) (by decide) (hQ _ K)
  · rw [if_neg c18] at K hs
    refine z_go2 M.1 21 [(.aload_n 0, 1), (.getfield 40, 3), (.iload_n 1, 1), (.iconst 1, 1), (.iload_n 2, 1), (.iadd, 1)] (29, [(0, z_r 36), (1, .inl p1), (2, .inl p2)], [.inl ((1 : Int32) + p2), .inl p1, z_r 9], zW T' (zwG G' 9) S n, 0, 0) (by decide +kernel) rfl ⟨trivial, rfl, trivial, trivial, trivial, trivial, trivial⟩ ?_
    refine z_callV M.1 (av := [.inl p1, .inl ((1 : Int32) + p2)]) (st := []) (a := 9) (ci := 10) (by decide +kernel) (c_World_cell_9 T' (zwG G' 9) S n p1 ((1 : Int32) + p2) hs.1) M.2.1 zl_Sight_61 zv_World_cell rfl rfl rfl ⟨by decide, by decide, by decide, by decide⟩ rfl (Nat.le_of_ble_eq_true rfl) (fun v w' hv => ?_)
    obtain ⟨rfl, rfl⟩ := hv
    replace hs := hs.2
    show z_G X zm_Sight_tell (32, [(0, z_r 36), (1, .inl p1), (2, .inl p2)], [.inl (F_World_cell 9 S p1 ((1 : Int32) + p2))], zW T' (zwG G' 9) S n, 0, 0)
    refine z_go2 M.1 32 [(.iconst (-1), 1)] (33, [(0, z_r 36), (1, .inl p1), (2, .inl p2)], [.inl (-1), .inl (F_World_cell 9 S p1 ((1 : Int32) + p2))], zW T' (zwG G' 9) S n, 0, 0) (by decide +kernel) rfl ⟨trivial, trivial⟩ ?_
    refine z_icmp_eq 57 M.1 (off := 24) (by decide +kernel) (by decide) (fun c33 => ?_) (fun c33 => ?_)
    · rw [if_pos c33] at K
      exact z_vret M (by decide +kernel) rfl (by decide) (by decide) (hQ _ K)
    · rw [if_neg c33] at K
      refine z_go2 M.1 36 [(.aload_n 0, 1), (.getfield 27, 3), (.iload_n 2, 1), (.aload_n 0, 1), (.getfield 27, 3), (.iload_n 2, 1)] (46, [(0, z_r 36), (1, .inl p1), (2, .inl p2)], [.inl p2, z_r 42, .inl p2, z_r 42], zW T' (zwG G' 9) S n, 0, 0) (by decide +kernel) rfl ⟨trivial, rfl, trivial, trivial, rfl, trivial, trivial⟩ ?_
      refine z_callS M.1 (av := [z_r 42, .inl p2]) (st := [.inl p2, z_r 42]) (by decide +kernel) (c_at (zW T' (zwG G' 9) S n) 42 3 rfl (by decide) p2) M.2.1 zl_Sight_72 zs_T_at ⟨by decide, by decide, by decide, by decide⟩ rfl (Nat.le_of_ble_eq_true rfl) (fun v w' hv => ?_)
      obtain ⟨rfl, rfl⟩ := hv
      show z_G X zm_Sight_tell (49, [(0, z_r 36), (1, .inl p1), (2, .inl p2)], [.inl (zAt (S 42) 3 p2), .inl p2, z_r 42], zW T' (zwG G' 9) S n, 0, 0)
      refine z_go2 M.1 49 [(.iload_n 1, 1)] (50, [(0, z_r 36), (1, .inl p1), (2, .inl p2)], [.inl p1, .inl (zAt (S 42) 3 p2), .inl p2, z_r 42], zW T' (zwG G' 9) S n, 0, 0) (by decide +kernel) rfl ⟨trivial, trivial⟩ ?_
      refine z_callS M.1 (av := [.inl p1]) (st := [.inl (zAt (S 42) 3 p2), .inl p2, z_r 42]) (by decide +kernel) (c_T_bit T' (zwG G' 9) S n p1) M.2.1 zl_Sight_76 zs_T_bit ⟨by decide, by decide, by decide, by decide⟩ rfl (Nat.le_of_ble_eq_true rfl) (fun v w' hv => ?_)
      obtain ⟨rfl, rfl⟩ := hv
      show z_G X zm_Sight_tell (53, [(0, z_r 36), (1, .inl p1), (2, .inl p2)], [.inl (F_T_bit S p1), .inl (zAt (S 42) 3 p2), .inl p2, z_r 42], zW T' (zwG G' 9) S n, 0, 0)
      refine z_go2 M.1 53 [(.ior, 1)] (54, [(0, z_r 36), (1, .inl p1), (2, .inl p2)], [.inl ((zAt (S 42) 3 p2) ||| (F_T_bit S p1)), .inl p2, z_r 42], zW T' (zwG G' 9) S n, 0, 0) (by decide +kernel) rfl ⟨trivial, trivial⟩ ?_
      refine z_callS M.1 (av := [z_r 42, .inl p2, .inl ((zAt (S 42) 3 p2) ||| (F_T_bit S p1))]) (st := []) (by decide +kernel) (c_put (zW T' (zwG G' 9) S n) 42 3 rfl (by decide) p2 ((zAt (S 42) 3 p2) ||| (F_T_bit S p1))) M.2.1 zl_Sight_80 zs_T_put ⟨by decide, by decide, by decide, by decide⟩ rfl (Nat.le_of_ble_eq_true rfl) (fun v w' hv => ?_)
      obtain ⟨S54, hF54⟩ : ∃ y, zPut S 42 3 p2 ((zAt (S 42) 3 p2) ||| (F_T_bit S p1)) = y := ⟨_, rfl⟩
      replace hv : v = none ∧ w' = zW T' (zwG G' 9) (zPut S 42 3 p2 ((zAt (S 42) 3 p2) ||| (F_T_bit S p1))) n := hv
      rw [hF54] at K hv
      try dsimp only [z_let] at K
      obtain ⟨rfl, rfl⟩ := hv
      show z_G X zm_Sight_tell (57, [(0, z_r 36), (1, .inl p1), (2, .inl p2)], [], zW T' (zwG G' 9) S54 n, 0, 0)
      exact z_vret M (by decide +kernel) rfl (by decide) (by decide) (hQ _ K)
theorem c_Sight_tell_28 (T' : Nat → Nat × Nat) (G' : Nat → Nat → Option Nat) (S : (Nat → Nat → Int32)) (n : Nat) (p1 : Int32) (p2 : Int32) (hs : Sf_Sight_tell 28 S p1 p2) : z_Run rm_Sight_tell zm_Sight_tell [z_r 36, .inl p1, .inl p2] (zW T' (zwG G' 28) S n) (zq none (zW T' (zwG G' 28) (F_Sight_tell 28 S p1 p2) n)) := by
  refine z_body (by decide) zf_Sight_ok (Nat.le_of_ble_eq_true rfl) (fun X M => ?_)
  obtain ⟨Q, hQ, K⟩ : ∃ Q : (Nat → Nat → Int32) → Prop, (∀ S', Q S' → zq none (zW T' (zwG G' 28) (F_Sight_tell 28 S p1 p2) n) none (zW T' (zwG G' 28) S' n)) ∧ Q (F_Sight_tell 28 S p1 p2) := ⟨fun o => F_Sight_tell 28 S p1 p2 = o, fun S' h => ⟨rfl, by rw [h]⟩, rfl⟩
  show z_G X zm_Sight_tell (0, [(0, z_r 36), (1, .inl p1), (2, .inl p2)], [], zW T' (zwG G' 28) S n, 0, 0)
  unfold F_Sight_tell at K
  unfold Sf_Sight_tell at hs
  try simp only [Nat.reduceAdd] at K hs
  refine z_go2 M.1 0 [(.aload_n 0, 1), (.getfield 33, 3), (.aload_n 0, 1), (.getfield 40, 3), (.iload_n 1, 1), (.bipush 9, 2)] (11, [(0, z_r 36), (1, .inl p1), (2, .inl p2)], [.inl 9, .inl p1, z_r 28, z_r 43], zW T' (zwG G' 28) S n, 0, 0) (by decide +kernel) rfl ⟨trivial, rfl, trivial, rfl, trivial, trivial, trivial⟩ ?_
  refine z_callV M.1 (av := [.inl p1, .inl 9]) (st := [z_r 43]) (a := 28) (ci := 10) (by decide +kernel) (c_World_cell_28 T' (zwG G' 28) S n p1 9 hs.1) M.2.1 zl_Sight_61 zv_World_cell rfl rfl rfl ⟨by decide, by decide, by decide, by decide⟩ rfl (Nat.le_of_ble_eq_true rfl) (fun v w' hv => ?_)
  obtain ⟨rfl, rfl⟩ := hv
  replace hs := hs.2
  show z_G X zm_Sight_tell (14, [(0, z_r 36), (1, .inl p1), (2, .inl p2)], [.inl (F_World_cell 28 S p1 9), z_r 43], zW T' (zwG G' 28) S n, 0, 0)
  refine z_go2 M.1 14 [(.iload_n 2, 1)] (15, [(0, z_r 36), (1, .inl p1), (2, .inl p2)], [.inl p2, .inl (F_World_cell 28 S p1 9), z_r 43], zW T' (zwG G' 28) S n, 0, 0) (by decide +kernel) rfl ⟨trivial, trivial⟩ ?_
  refine z_callV M.1 (av := [.inl (F_World_cell 28 S p1 9), .inl p2]) (st := []) (a := 43) (ci := 3) (by decide +kernel) (c_Kinds_has T' (zwG G' 28) S n (F_World_cell 28 S p1 9) p2 hs.1) M.2.1 zl_Sight_87 zv_Kinds_has rfl rfl rfl ⟨by decide, by decide, by decide, by decide⟩ rfl (Nat.le_of_ble_eq_true rfl) (fun v w' hv => ?_)
  obtain ⟨rfl, rfl⟩ := hv
  replace hs := hs.2
  show z_G X zm_Sight_tell (18, [(0, z_r 36), (1, .inl p1), (2, .inl p2)], [.inl (F_Kinds_has S (F_World_cell 28 S p1 9) p2)], zW T' (zwG G' 28) S n, 0, 0)
  refine z_if_eq 57 M.1 (off := 39) (by decide +kernel) (by decide) (fun c18 => ?_) (fun c18 => ?_)
  · rw [if_pos c18] at K hs
    exact z_vret M (by decide +kernel) rfl (by decide) (by decide) (hQ _ K)
  · rw [if_neg c18] at K hs
    refine z_go2 M.1 21 [(.aload_n 0, 1), (.getfield 40, 3), (.iload_n 1, 1), (.iconst 1, 1), (.iload_n 2, 1), (.iadd, 1)] (29, [(0, z_r 36), (1, .inl p1), (2, .inl p2)], [.inl ((1 : Int32) + p2), .inl p1, z_r 28], zW T' (zwG G' 28) S n, 0, 0) (by decide +kernel) rfl ⟨trivial, rfl, trivial, trivial, trivial, trivial, trivial⟩ ?_
    refine z_callV M.1 (av := [.inl p1, .inl ((1 : Int32) + p2)]) (st := []) (a := 28) (ci := 10) (by decide +kernel) (c_World_cell_28 T' (zwG G' 28) S n p1 ((1 : Int32) + p2) hs.1) M.2.1 zl_Sight_61 zv_World_cell rfl rfl rfl ⟨by decide, by decide, by decide, by decide⟩ rfl (Nat.le_of_ble_eq_true rfl) (fun v w' hv => ?_)
    obtain ⟨rfl, rfl⟩ := hv
    replace hs := hs.2
    show z_G X zm_Sight_tell (32, [(0, z_r 36), (1, .inl p1), (2, .inl p2)], [.inl (F_World_cell 28 S p1 ((1 : Int32) + p2))], zW T' (zwG G' 28) S n, 0, 0)
    refine z_go2 M.1 32 [(.iconst (-1), 1)] (33, [(0, z_r 36), (1, .inl p1), (2, .inl p2)], [.inl (-1), .inl (F_World_cell 28 S p1 ((1 : Int32) + p2))], zW T' (zwG G' 28) S n, 0, 0) (by decide +kernel) rfl ⟨trivial, trivial⟩ ?_
    refine z_icmp_eq 57 M.1 (off := 24) (by decide +kernel) (by decide) (fun c33 => ?_) (fun c33 => ?_)
    · rw [if_pos c33] at K
      exact z_vret M (by decide +kernel) rfl (by decide) (by decide) (hQ _ K)
    · rw [if_neg c33] at K
      refine z_go2 M.1 36 [(.aload_n 0, 1), (.getfield 27, 3), (.iload_n 2, 1), (.aload_n 0, 1), (.getfield 27, 3), (.iload_n 2, 1)] (46, [(0, z_r 36), (1, .inl p1), (2, .inl p2)], [.inl p2, z_r 42, .inl p2, z_r 42], zW T' (zwG G' 28) S n, 0, 0) (by decide +kernel) rfl ⟨trivial, rfl, trivial, trivial, rfl, trivial, trivial⟩ ?_
      refine z_callS M.1 (av := [z_r 42, .inl p2]) (st := [.inl p2, z_r 42]) (by decide +kernel) (c_at (zW T' (zwG G' 28) S n) 42 3 rfl (by decide) p2) M.2.1 zl_Sight_72 zs_T_at ⟨by decide, by decide, by decide, by decide⟩ rfl (Nat.le_of_ble_eq_true rfl) (fun v w' hv => ?_)
      obtain ⟨rfl, rfl⟩ := hv
      show z_G X zm_Sight_tell (49, [(0, z_r 36), (1, .inl p1), (2, .inl p2)], [.inl (zAt (S 42) 3 p2), .inl p2, z_r 42], zW T' (zwG G' 28) S n, 0, 0)
      refine z_go2 M.1 49 [(.iload_n 1, 1)] (50, [(0, z_r 36), (1, .inl p1), (2, .inl p2)], [.inl p1, .inl (zAt (S 42) 3 p2), .inl p2, z_r 42], zW T' (zwG G' 28) S n, 0, 0) (by decide +kernel) rfl ⟨trivial, trivial⟩ ?_
      refine z_callS M.1 (av := [.inl p1]) (st := [.inl (zAt (S 42) 3 p2), .inl p2, z_r 42]) (by decide +kernel) (c_T_bit T' (zwG G' 28) S n p1) M.2.1 zl_Sight_76 zs_T_bit ⟨by decide, by decide, by decide, by decide⟩ rfl (Nat.le_of_ble_eq_true rfl) (fun v w' hv => ?_)
      obtain ⟨rfl, rfl⟩ := hv
      show z_G X zm_Sight_tell (53, [(0, z_r 36), (1, .inl p1), (2, .inl p2)], [.inl (F_T_bit S p1), .inl (zAt (S 42) 3 p2), .inl p2, z_r 42], zW T' (zwG G' 28) S n, 0, 0)
      refine z_go2 M.1 53 [(.ior, 1)] (54, [(0, z_r 36), (1, .inl p1), (2, .inl p2)], [.inl ((zAt (S 42) 3 p2) ||| (F_T_bit S p1)), .inl p2, z_r 42], zW T' (zwG G' 28) S n, 0, 0) (by decide +kernel) rfl ⟨trivial, trivial⟩ ?_
      refine z_callS M.1 (av := [z_r 42, .inl p2, .inl ((zAt (S 42) 3 p2) ||| (F_T_bit S p1))]) (st := []) (by decide +kernel) (c_put (zW T' (zwG G' 28) S n) 42 3 rfl (by decide) p2 ((zAt (S 42) 3 p2) ||| (F_T_bit S p1))) M.2.1 zl_Sight_80 zs_T_put ⟨by decide, by decide, by decide, by decide⟩ rfl (Nat.le_of_ble_eq_true rfl) (fun v w' hv => ?_)
      obtain ⟨S54, hF54⟩ : ∃ y, zPut S 42 3 p2 ((zAt (S 42) 3 p2) ||| (F_T_bit S p1)) = y := ⟨_, rfl⟩
      replace hv : v = none ∧ w' = zW T' (zwG G' 28) (zPut S 42 3 p2 ((zAt (S 42) 3 p2) ||| (F_T_bit S p1))) n := hv
      rw [hF54] at K hv
      try dsimp only [z_let] at K
      obtain ⟨rfl, rfl⟩ := hv
      show z_G X zm_Sight_tell (57, [(0, z_r 36), (1, .inl p1), (2, .inl p2)], [], zW T' (zwG G' 28) S54 n, 0, 0)
      exact z_vret M (by decide +kernel) rfl (by decide) (by decide) (hQ _ K)

-- TrackHouse$Sight.sees
abbrev rm_Sight_sees : Room := zr 1
def F_Sight_sees (S : (Nat → Nat → Int32)) (p1 : Int32) : Int32 := (F_T_isIn S (S 36 8) p1)
def Sf_Sight_sees (S : (Nat → Nat → Int32)) (p1 : Int32) : Prop := (narrow .boolean (.int (F_T_isIn S (S 36 8) p1)) = .int (F_T_isIn S (S 36 8) p1) ∧ True)
theorem c_Sight_sees (T' : Nat → Nat × Nat) (G' : Nat → Nat → Option Nat) (S : (Nat → Nat → Int32)) (n : Nat) (p1 : Int32) (hs : Sf_Sight_sees S p1) : z_Run rm_Sight_sees zm_Sight_sees [z_r 36, .inl p1] (zW T' G' S n) (zq (some (.inl (F_Sight_sees S p1))) (zW T' G' S n)) := by
  refine z_body (by decide) zf_Sight_ok (Nat.le_of_ble_eq_true rfl) (fun X M => ?_)
  obtain ⟨Q, hQ, K⟩ : ∃ Q : Int32 → Prop, (∀ v, Q v → zq (some (.inl (F_Sight_sees S p1))) (zW T' G' S n) (some (.inl v)) (zW T' G' S n)) ∧ Q (F_Sight_sees S p1) := ⟨fun o => F_Sight_sees S p1 = o, fun v h => ⟨by rw [h], rfl⟩, rfl⟩
  show z_G X zm_Sight_sees (0, [(0, z_r 36), (1, .inl p1)], [], zW T' G' S n, 0, 0)
  unfold F_Sight_sees at K
  unfold Sf_Sight_sees at hs
  refine z_go2 M.1 0 [(.aload_n 0, 1), (.getfield 44, 3), (.iload_n 1, 1)] (5, [(0, z_r 36), (1, .inl p1)], [.inl p1, .inl (S 36 8)], zW T' G' S n, 0, 0) (by decide +kernel) rfl ⟨trivial, rfl, trivial, trivial⟩ ?_
  refine z_callS M.1 (av := [.inl (S 36 8), .inl p1]) (st := []) (by decide +kernel) (c_T_isIn T' G' S n (S 36 8) p1) M.2.1 zl_Sight_90 zs_T_isIn ⟨by decide, by decide, by decide, by decide⟩ rfl (Nat.le_of_ble_eq_true rfl) (fun v w' hv => ?_)
  obtain ⟨rfl, rfl⟩ := hv
  show z_G X zm_Sight_sees (8, [(0, z_r 36), (1, .inl p1)], [.inl (F_T_isIn S (S 36 8) p1)], zW T' G' S n, 0, 0)
  exact z_iret M (by decide +kernel) .boolean rfl hs.1 (by decide) (by decide) (hQ _ K)

-- TrackHouse$Sight.canEdit
abbrev rm_Sight_canEdit : Room := zr 1
def F_Sight_canEdit (S : (Nat → Nat → Int32)) (p1 : Int32) : Int32 := (F_T_isIn S (S 36 9) p1)
def Sf_Sight_canEdit (S : (Nat → Nat → Int32)) (p1 : Int32) : Prop := (narrow .boolean (.int (F_T_isIn S (S 36 9) p1)) = .int (F_T_isIn S (S 36 9) p1) ∧ True)
theorem c_Sight_canEdit (T' : Nat → Nat × Nat) (G' : Nat → Nat → Option Nat) (S : (Nat → Nat → Int32)) (n : Nat) (p1 : Int32) (hs : Sf_Sight_canEdit S p1) : z_Run rm_Sight_canEdit zm_Sight_canEdit [z_r 36, .inl p1] (zW T' G' S n) (zq (some (.inl (F_Sight_canEdit S p1))) (zW T' G' S n)) := by
  refine z_body (by decide) zf_Sight_ok (Nat.le_of_ble_eq_true rfl) (fun X M => ?_)
  obtain ⟨Q, hQ, K⟩ : ∃ Q : Int32 → Prop, (∀ v, Q v → zq (some (.inl (F_Sight_canEdit S p1))) (zW T' G' S n) (some (.inl v)) (zW T' G' S n)) ∧ Q (F_Sight_canEdit S p1) := ⟨fun o => F_Sight_canEdit S p1 = o, fun v h => ⟨by rw [h], rfl⟩, rfl⟩
  show z_G X zm_Sight_canEdit (0, [(0, z_r 36), (1, .inl p1)], [], zW T' G' S n, 0, 0)
  unfold F_Sight_canEdit at K
  unfold Sf_Sight_canEdit at hs
  refine z_go2 M.1 0 [(.aload_n 0, 1), (.getfield 48, 3), (.iload_n 1, 1)] (5, [(0, z_r 36), (1, .inl p1)], [.inl p1, .inl (S 36 9)], zW T' G' S n, 0, 0) (by decide +kernel) rfl ⟨trivial, rfl, trivial, trivial⟩ ?_
  refine z_callS M.1 (av := [.inl (S 36 9), .inl p1]) (st := []) (by decide +kernel) (c_T_isIn T' G' S n (S 36 9) p1) M.2.1 zl_Sight_90 zs_T_isIn ⟨by decide, by decide, by decide, by decide⟩ rfl (Nat.le_of_ble_eq_true rfl) (fun v w' hv => ?_)
  obtain ⟨rfl, rfl⟩ := hv
  show z_G X zm_Sight_canEdit (8, [(0, z_r 36), (1, .inl p1)], [.inl (F_T_isIn S (S 36 9) p1)], zW T' G' S n, 0, 0)
  exact z_iret M (by decide +kernel) .boolean rfl hs.1 (by decide) (by decide) (hQ _ K)

-- TrackHouse$Sight.canRead
abbrev rm_Sight_canRead : Room := zr 1
def F_Sight_canRead (S : (Nat → Nat → Int32)) (p1 : Int32) (p2 : Int32) : Int32 := (F_T_isIn S (zAt (S 41) 4 p2) p1)
def Sf_Sight_canRead (S : (Nat → Nat → Int32)) (p1 : Int32) (p2 : Int32) : Prop := (narrow .boolean (.int (F_T_isIn S (zAt (S 41) 4 p2) p1)) = .int (F_T_isIn S (zAt (S 41) 4 p2) p1) ∧ True)
theorem c_Sight_canRead (T' : Nat → Nat × Nat) (G' : Nat → Nat → Option Nat) (S : (Nat → Nat → Int32)) (n : Nat) (p1 : Int32) (p2 : Int32) (hs : Sf_Sight_canRead S p1 p2) : z_Run rm_Sight_canRead zm_Sight_canRead [z_r 36, .inl p1, .inl p2] (zW T' G' S n) (zq (some (.inl (F_Sight_canRead S p1 p2))) (zW T' G' S n)) := by
  refine z_body (by decide) zf_Sight_ok (Nat.le_of_ble_eq_true rfl) (fun X M => ?_)
  obtain ⟨Q, hQ, K⟩ : ∃ Q : Int32 → Prop, (∀ v, Q v → zq (some (.inl (F_Sight_canRead S p1 p2))) (zW T' G' S n) (some (.inl v)) (zW T' G' S n)) ∧ Q (F_Sight_canRead S p1 p2) := ⟨fun o => F_Sight_canRead S p1 p2 = o, fun v h => ⟨by rw [h], rfl⟩, rfl⟩
  show z_G X zm_Sight_canRead (0, [(0, z_r 36), (1, .inl p1), (2, .inl p2)], [], zW T' G' S n, 0, 0)
  unfold F_Sight_canRead at K
  unfold Sf_Sight_canRead at hs
  refine z_go2 M.1 0 [(.aload_n 0, 1), (.getfield 24, 3), (.iload_n 2, 1)] (5, [(0, z_r 36), (1, .inl p1), (2, .inl p2)], [.inl p2, z_r 41], zW T' G' S n, 0, 0) (by decide +kernel) rfl ⟨trivial, rfl, trivial, trivial⟩ ?_
  refine z_callS M.1 (av := [z_r 41, .inl p2]) (st := []) (by decide +kernel) (c_at (zW T' G' S n) 41 4 rfl (by decide) p2) M.2.1 zl_Sight_72 zs_T_at ⟨by decide, by decide, by decide, by decide⟩ rfl (Nat.le_of_ble_eq_true rfl) (fun v w' hv => ?_)
  obtain ⟨rfl, rfl⟩ := hv
  show z_G X zm_Sight_canRead (8, [(0, z_r 36), (1, .inl p1), (2, .inl p2)], [.inl (zAt (S 41) 4 p2)], zW T' G' S n, 0, 0)
  refine z_go2 M.1 8 [(.iload_n 1, 1)] (9, [(0, z_r 36), (1, .inl p1), (2, .inl p2)], [.inl p1, .inl (zAt (S 41) 4 p2)], zW T' G' S n, 0, 0) (by decide +kernel) rfl ⟨trivial, trivial⟩ ?_
  refine z_callS M.1 (av := [.inl (zAt (S 41) 4 p2), .inl p1]) (st := []) (by decide +kernel) (c_T_isIn T' G' S n (zAt (S 41) 4 p2) p1) M.2.1 zl_Sight_90 zs_T_isIn ⟨by decide, by decide, by decide, by decide⟩ rfl (Nat.le_of_ble_eq_true rfl) (fun v w' hv => ?_)
  obtain ⟨rfl, rfl⟩ := hv
  show z_G X zm_Sight_canRead (12, [(0, z_r 36), (1, .inl p1), (2, .inl p2)], [.inl (F_T_isIn S (zAt (S 41) 4 p2) p1)], zW T' G' S n, 0, 0)
  exact z_iret M (by decide +kernel) .boolean rfl hs.1 (by decide) (by decide) (hQ _ K)

-- TrackHouse$Sight.computed
abbrev rm_Sight_computed : Room := zr 1
def F_Sight_computed_l38_119 (wd : Nat) (rc : Int32 → Int32 → Int32 → Int32 → Int32 → (Int32 × Int32 × Int32 × Int32)) (S : (Nat → Nat → Int32)) (x1 : Int32) (x2 : Int32) (x3 : Int32) (x4 : Int32) (x5 : Int32) (x7 : Int32) (x8 : Int32) (x9 : Int32) (s0 : Int32) : (Int32 × Int32 × Int32 × Int32) := (rc x4 x5 s0 (F_Math_max S x7 x9) (x8 + 1))
def Sf_Sight_computed_l38_119 (wd : Nat) (rc : Int32 → Int32 → Int32 → Int32 → Int32 → (Int32 × Int32 × Int32 × Int32)) (sr : Int32 → Int32 → Int32 → Int32 → Int32 → Prop) (S : (Nat → Nat → Int32)) (x1 : Int32) (x2 : Int32) (x3 : Int32) (x4 : Int32) (x5 : Int32) (x7 : Int32) (x8 : Int32) (x9 : Int32) (s0 : Int32) : Prop := (sr x4 x5 s0 (F_Math_max S x7 x9) (x8 + 1))
theorem t_Sight_computed_l38_119_9 {X : z_X} {Post : Option z_V → z_W → Prop} (M : z_M X zm_Sight_computed rm_Sight_computed Post) {T' : Nat → Nat × Nat} {G' : Nat → Nat → Option Nat} {n : Nat} {Q : (Int32 × Int32 × Int32 × Int32) → Prop} (rc : Int32 → Int32 → Int32 → Int32 → Int32 → (Int32 × Int32 × Int32 × Int32)) (sr : Int32 → Int32 → Int32 → Int32 → Int32 → Prop) (S : (Nat → Nat → Int32)) (x1 : Int32) (x2 : Int32) (x3 : Int32) (x4 : Int32) (x5 : Int32) (x7 : Int32) (x8 : Int32) (x9 : Int32) (s0 : Int32) (hE : ∀ (y4 : Int32) (y5 : Int32) (y6 : Int32) (y7 : Int32), Q (y4, y5, y6, y7) → z_G X zm_Sight_computed (136, [(0, z_r 36), (2, .inl x2), (4, .inl y4), (5, .inl y5), (6, .inl y6), (7, .inl y7)], [], zW T' (zwG G' 9) S n, 0, 0)) (hC : ∀ (x4 : Int32) (x5 : Int32) (x6 : Int32) (x7 : Int32) (x8 : Int32), Q (rc x4 x5 x6 x7 x8) → sr x4 x5 x6 x7 x8 → z_G X zm_Sight_computed (38, [(0, z_r 36), (1, .inl x1), (2, .inl x2), (3, .inl x3), (4, .inl x4), (5, .inl x5), (6, .inl x6), (7, .inl x7), (8, .inl x8)], [], zW T' (zwG G' 9) S n, 0, 0)) (K : Q (F_Sight_computed_l38_119 9 rc S x1 x2 x3 x4 x5 x7 x8 x9 s0)) (hs : Sf_Sight_computed_l38_119 9 rc sr S x1 x2 x3 x4 x5 x7 x8 x9 s0) : z_G X zm_Sight_computed (119, [(0, z_r 36), (1, .inl x1), (2, .inl x2), (3, .inl x3), (4, .inl x4), (5, .inl x5), (7, .inl x7), (8, .inl x8), (9, .inl x9)], [.inl s0], zW T' (zwG G' 9) S n, 0, 0) := by
  unfold F_Sight_computed_l38_119 at K
  unfold Sf_Sight_computed_l38_119 at hs
  try simp only [Nat.reduceAdd] at K hs
  refine z_go2 M.1 119 [(.istore 6, 2), (.iload 7, 2), (.iload 9, 2)] (125, [(6, .inl s0), (0, z_r 36), (1, .inl x1), (2, .inl x2), (3, .inl x3), (4, .inl x4), (5, .inl x5), (7, .inl x7), (8, .inl x8), (9, .inl x9)], [.inl x9, .inl x7], zW T' (zwG G' 9) S n, 0, 0) (by decide +kernel) rfl ⟨trivial, trivial, trivial, trivial⟩ ?_
  refine z_callS M.1 (av := [.inl x7, .inl x9]) (st := []) (by decide +kernel) (c_Math_max T' (zwG G' 9) S n x7 x9) M.2.1 zl_Sight_102 zs_Math_max ⟨by decide, by decide, by decide, by decide⟩ rfl (Nat.le_of_ble_eq_true rfl) (fun v w' hv => ?_)
  obtain ⟨rfl, rfl⟩ := hv
  show z_G X zm_Sight_computed (128, [(6, .inl s0), (0, z_r 36), (1, .inl x1), (2, .inl x2), (3, .inl x3), (4, .inl x4), (5, .inl x5), (7, .inl x7), (8, .inl x8), (9, .inl x9)], [.inl (F_Math_max S x7 x9)], zW T' (zwG G' 9) S n, 0, 0)
  refine z_go2 M.1 128 [(.istore 7, 2), (.iinc 8 1, 3), (.goto (-95), 3)] (38, [(8, .inl (x8 + 1)), (7, .inl (F_Math_max S x7 x9)), (6, .inl s0), (0, z_r 36), (1, .inl x1), (2, .inl x2), (3, .inl x3), (4, .inl x4), (5, .inl x5), (9, .inl x9)], [], zW T' (zwG G' 9) S n, 0, 0) (by decide +kernel) rfl ⟨trivial, trivial, trivial, trivial⟩ ?_
  exact z_lvs (lv' := [(0, z_r 36), (1, .inl x1), (2, .inl x2), (3, .inl x3), (4, .inl x4), (5, .inl x5), (6, .inl s0), (7, .inl (F_Math_max S x7 x9)), (8, .inl (x8 + 1))]) [3, 4, 5, 6, 7, 8, 2, 1, 0] rfl (hC x4 x5 s0 (F_Math_max S x7 x9) (x8 + 1) K hs)
theorem t_Sight_computed_l38_119_28 {X : z_X} {Post : Option z_V → z_W → Prop} (M : z_M X zm_Sight_computed rm_Sight_computed Post) {T' : Nat → Nat × Nat} {G' : Nat → Nat → Option Nat} {n : Nat} {Q : (Int32 × Int32 × Int32 × Int32) → Prop} (rc : Int32 → Int32 → Int32 → Int32 → Int32 → (Int32 × Int32 × Int32 × Int32)) (sr : Int32 → Int32 → Int32 → Int32 → Int32 → Prop) (S : (Nat → Nat → Int32)) (x1 : Int32) (x2 : Int32) (x3 : Int32) (x4 : Int32) (x5 : Int32) (x7 : Int32) (x8 : Int32) (x9 : Int32) (s0 : Int32) (hE : ∀ (y4 : Int32) (y5 : Int32) (y6 : Int32) (y7 : Int32), Q (y4, y5, y6, y7) → z_G X zm_Sight_computed (136, [(0, z_r 36), (2, .inl x2), (4, .inl y4), (5, .inl y5), (6, .inl y6), (7, .inl y7)], [], zW T' (zwG G' 28) S n, 0, 0)) (hC : ∀ (x4 : Int32) (x5 : Int32) (x6 : Int32) (x7 : Int32) (x8 : Int32), Q (rc x4 x5 x6 x7 x8) → sr x4 x5 x6 x7 x8 → z_G X zm_Sight_computed (38, [(0, z_r 36), (1, .inl x1), (2, .inl x2), (3, .inl x3), (4, .inl x4), (5, .inl x5), (6, .inl x6), (7, .inl x7), (8, .inl x8)], [], zW T' (zwG G' 28) S n, 0, 0)) (K : Q (F_Sight_computed_l38_119 28 rc S x1 x2 x3 x4 x5 x7 x8 x9 s0)) (hs : Sf_Sight_computed_l38_119 28 rc sr S x1 x2 x3 x4 x5 x7 x8 x9 s0) : z_G X zm_Sight_computed (119, [(0, z_r 36), (1, .inl x1), (2, .inl x2), (3, .inl x3), (4, .inl x4), (5, .inl x5), (7, .inl x7), (8, .inl x8), (9, .inl x9)], [.inl s0], zW T' (zwG G' 28) S n, 0, 0) := by
  unfold F_Sight_computed_l38_119 at K
  unfold Sf_Sight_computed_l38_119 at hs
  try simp only [Nat.reduceAdd] at K hs
  refine z_go2 M.1 119 [(.istore 6, 2), (.iload 7, 2), (.iload 9, 2)] (125, [(6, .inl s0), (0, z_r 36), (1, .inl x1), (2, .inl x2), (3, .inl x3), (4, .inl x4), (5, .inl x5), (7, .inl x7), (8, .inl x8), (9, .inl x9)], [.inl x9, .inl x7], zW T' (zwG G' 28) S n, 0, 0) (by decide +kernel) rfl ⟨trivial, trivial, trivial, trivial⟩ ?_
  refine z_callS M.1 (av := [.inl x7, .inl x9]) (st := []) (by decide +kernel) (c_Math_max T' (zwG G' 28) S n x7 x9) M.2.1 zl_Sight_102 zs_Math_max ⟨by decide, by decide, by decide, by decide⟩ rfl (Nat.le_of_ble_eq_true rfl) (fun v w' hv => ?_)
  obtain ⟨rfl, rfl⟩ := hv
  show z_G X zm_Sight_computed (128, [(6, .inl s0), (0, z_r 36), (1, .inl x1), (2, .inl x2), (3, .inl x3), (4, .inl x4), (5, .inl x5), (7, .inl x7), (8, .inl x8), (9, .inl x9)], [.inl (F_Math_max S x7 x9)], zW T' (zwG G' 28) S n, 0, 0)
  refine z_go2 M.1 128 [(.istore 7, 2), (.iinc 8 1, 3), (.goto (-95), 3)] (38, [(8, .inl (x8 + 1)), (7, .inl (F_Math_max S x7 x9)), (6, .inl s0), (0, z_r 36), (1, .inl x1), (2, .inl x2), (3, .inl x3), (4, .inl x4), (5, .inl x5), (9, .inl x9)], [], zW T' (zwG G' 28) S n, 0, 0) (by decide +kernel) rfl ⟨trivial, trivial, trivial, trivial⟩ ?_
  exact z_lvs (lv' := [(0, z_r 36), (1, .inl x1), (2, .inl x2), (3, .inl x3), (4, .inl x4), (5, .inl x5), (6, .inl s0), (7, .inl (F_Math_max S x7 x9)), (8, .inl (x8 + 1))]) [3, 4, 5, 6, 7, 8, 2, 1, 0] rfl (hC x4 x5 s0 (F_Math_max S x7 x9) (x8 + 1) K hs)
def F_Sight_computed_l38_112 (wd : Nat) (rc : Int32 → Int32 → Int32 → Int32 → Int32 → (Int32 × Int32 × Int32 × Int32)) (S : (Nat → Nat → Int32)) (x1 : Int32) (x2 : Int32) (x3 : Int32) (x4 : Int32) (x5 : Int32) (x7 : Int32) (x8 : Int32) (x9 : Int32) : (Int32 × Int32 × Int32 × Int32) := (F_Sight_computed_l38_119 wd rc S x1 x2 x3 x4 x5 x7 x8 x9 x9)
def Sf_Sight_computed_l38_112 (wd : Nat) (rc : Int32 → Int32 → Int32 → Int32 → Int32 → (Int32 × Int32 × Int32 × Int32)) (sr : Int32 → Int32 → Int32 → Int32 → Int32 → Prop) (S : (Nat → Nat → Int32)) (x1 : Int32) (x2 : Int32) (x3 : Int32) (x4 : Int32) (x5 : Int32) (x7 : Int32) (x8 : Int32) (x9 : Int32) : Prop := (Sf_Sight_computed_l38_119 wd rc sr S x1 x2 x3 x4 x5 x7 x8 x9 x9)
theorem t_Sight_computed_l38_112_9 {X : z_X} {Post : Option z_V → z_W → Prop} (M : z_M X zm_Sight_computed rm_Sight_computed Post) {T' : Nat → Nat × Nat} {G' : Nat → Nat → Option Nat} {n : Nat} {Q : (Int32 × Int32 × Int32 × Int32) → Prop} (rc : Int32 → Int32 → Int32 → Int32 → Int32 → (Int32 × Int32 × Int32 × Int32)) (sr : Int32 → Int32 → Int32 → Int32 → Int32 → Prop) (S : (Nat → Nat → Int32)) (x1 : Int32) (x2 : Int32) (x3 : Int32) (x4 : Int32) (x5 : Int32) (x7 : Int32) (x8 : Int32) (x9 : Int32) (hE : ∀ (y4 : Int32) (y5 : Int32) (y6 : Int32) (y7 : Int32), Q (y4, y5, y6, y7) → z_G X zm_Sight_computed (136, [(0, z_r 36), (2, .inl x2), (4, .inl y4), (5, .inl y5), (6, .inl y6), (7, .inl y7)], [], zW T' (zwG G' 9) S n, 0, 0)) (hC : ∀ (x4 : Int32) (x5 : Int32) (x6 : Int32) (x7 : Int32) (x8 : Int32), Q (rc x4 x5 x6 x7 x8) → sr x4 x5 x6 x7 x8 → z_G X zm_Sight_computed (38, [(0, z_r 36), (1, .inl x1), (2, .inl x2), (3, .inl x3), (4, .inl x4), (5, .inl x5), (6, .inl x6), (7, .inl x7), (8, .inl x8)], [], zW T' (zwG G' 9) S n, 0, 0)) (K : Q (F_Sight_computed_l38_112 9 rc S x1 x2 x3 x4 x5 x7 x8 x9)) (hs : Sf_Sight_computed_l38_112 9 rc sr S x1 x2 x3 x4 x5 x7 x8 x9) : z_G X zm_Sight_computed (112, [(0, z_r 36), (1, .inl x1), (2, .inl x2), (3, .inl x3), (4, .inl x4), (5, .inl x5), (7, .inl x7), (8, .inl x8), (9, .inl x9)], [], zW T' (zwG G' 9) S n, 0, 0) := by
  unfold F_Sight_computed_l38_112 at K
  unfold Sf_Sight_computed_l38_112 at hs
  try simp only [Nat.reduceAdd] at K hs
  refine z_go2 M.1 112 [(.iload 9, 2), (.goto 5, 3)] (119, [(0, z_r 36), (1, .inl x1), (2, .inl x2), (3, .inl x3), (4, .inl x4), (5, .inl x5), (7, .inl x7), (8, .inl x8), (9, .inl x9)], [.inl x9], zW T' (zwG G' 9) S n, 0, 0) (by decide +kernel) rfl ⟨trivial, trivial, trivial⟩ ?_
  exact z_lvs (lv' := [(0, z_r 36), (1, .inl x1), (2, .inl x2), (3, .inl x3), (4, .inl x4), (5, .inl x5), (7, .inl x7), (8, .inl x8), (9, .inl x9)]) [0, 1, 2, 3, 4, 5, 6, 7, 8] rfl (t_Sight_computed_l38_119_9 M rc sr S x1 x2 x3 x4 x5 x7 x8 x9 x9 hE hC K hs)
theorem t_Sight_computed_l38_112_28 {X : z_X} {Post : Option z_V → z_W → Prop} (M : z_M X zm_Sight_computed rm_Sight_computed Post) {T' : Nat → Nat × Nat} {G' : Nat → Nat → Option Nat} {n : Nat} {Q : (Int32 × Int32 × Int32 × Int32) → Prop} (rc : Int32 → Int32 → Int32 → Int32 → Int32 → (Int32 × Int32 × Int32 × Int32)) (sr : Int32 → Int32 → Int32 → Int32 → Int32 → Prop) (S : (Nat → Nat → Int32)) (x1 : Int32) (x2 : Int32) (x3 : Int32) (x4 : Int32) (x5 : Int32) (x7 : Int32) (x8 : Int32) (x9 : Int32) (hE : ∀ (y4 : Int32) (y5 : Int32) (y6 : Int32) (y7 : Int32), Q (y4, y5, y6, y7) → z_G X zm_Sight_computed (136, [(0, z_r 36), (2, .inl x2), (4, .inl y4), (5, .inl y5), (6, .inl y6), (7, .inl y7)], [], zW T' (zwG G' 28) S n, 0, 0)) (hC : ∀ (x4 : Int32) (x5 : Int32) (x6 : Int32) (x7 : Int32) (x8 : Int32), Q (rc x4 x5 x6 x7 x8) → sr x4 x5 x6 x7 x8 → z_G X zm_Sight_computed (38, [(0, z_r 36), (1, .inl x1), (2, .inl x2), (3, .inl x3), (4, .inl x4), (5, .inl x5), (6, .inl x6), (7, .inl x7), (8, .inl x8)], [], zW T' (zwG G' 28) S n, 0, 0)) (K : Q (F_Sight_computed_l38_112 28 rc S x1 x2 x3 x4 x5 x7 x8 x9)) (hs : Sf_Sight_computed_l38_112 28 rc sr S x1 x2 x3 x4 x5 x7 x8 x9) : z_G X zm_Sight_computed (112, [(0, z_r 36), (1, .inl x1), (2, .inl x2), (3, .inl x3), (4, .inl x4), (5, .inl x5), (7, .inl x7), (8, .inl x8), (9, .inl x9)], [], zW T' (zwG G' 28) S n, 0, 0) := by
  unfold F_Sight_computed_l38_112 at K
  unfold Sf_Sight_computed_l38_112 at hs
  try simp only [Nat.reduceAdd] at K hs
  refine z_go2 M.1 112 [(.iload 9, 2), (.goto 5, 3)] (119, [(0, z_r 36), (1, .inl x1), (2, .inl x2), (3, .inl x3), (4, .inl x4), (5, .inl x5), (7, .inl x7), (8, .inl x8), (9, .inl x9)], [.inl x9], zW T' (zwG G' 28) S n, 0, 0) (by decide +kernel) rfl ⟨trivial, trivial, trivial⟩ ?_
  exact z_lvs (lv' := [(0, z_r 36), (1, .inl x1), (2, .inl x2), (3, .inl x3), (4, .inl x4), (5, .inl x5), (7, .inl x7), (8, .inl x8), (9, .inl x9)]) [0, 1, 2, 3, 4, 5, 6, 7, 8] rfl (t_Sight_computed_l38_119_28 M rc sr S x1 x2 x3 x4 x5 x7 x8 x9 x9 hE hC K hs)
def F_Sight_computed_L38 (wd : Nat) (S : (Nat → Nat → Int32)) (x1 : Int32) (x2 : Int32) (x3 : Int32) : Nat → Int32 → Int32 → Int32 → Int32 → Int32 → (Int32 × Int32 × Int32 × Int32)
  | 0, x4, x5, x6, x7, x8 => (x4, x5, x6, x7)
  | f + 1, x4, x5, x6, x7, x8 => (if (30 : Int32) ≤ x8 then (x4, x5, x6, x7) else (if (F_T_isIn S (zAt (S 42) 3 x3) x8) = 0 then ((F_Sight_computed_L38 wd S x1 x2 x3 f) x4 x5 x6 x7 (x8 + 1)) else (if (F_World_cell wd S x8 5) = x1 then (if x6 = (-1) then (F_Sight_computed_l38_112 wd (F_Sight_computed_L38 wd S x1 x2 x3 f) S x1 x2 x3 (x4 + 1) (x5 + (F_World_cell wd S x8 ((1 : Int32) + x3))) x7 x8 (F_World_cell wd S x8 ((1 : Int32) + x3))) else (if x6 ≤ (F_World_cell wd S x8 ((1 : Int32) + x3)) then (F_Sight_computed_l38_119 wd (F_Sight_computed_L38 wd S x1 x2 x3 f) S x1 x2 x3 (x4 + 1) (x5 + (F_World_cell wd S x8 ((1 : Int32) + x3))) x7 x8 (F_World_cell wd S x8 ((1 : Int32) + x3)) x6) else (F_Sight_computed_l38_112 wd (F_Sight_computed_L38 wd S x1 x2 x3 f) S x1 x2 x3 (x4 + 1) (x5 + (F_World_cell wd S x8 ((1 : Int32) + x3))) x7 x8 (F_World_cell wd S x8 ((1 : Int32) + x3))))) else ((F_Sight_computed_L38 wd S x1 x2 x3 f) x4 x5 x6 x7 (x8 + 1)))))
def Sf_Sight_computed_L38 (wd : Nat) (S : (Nat → Nat → Int32)) (x1 : Int32) (x2 : Int32) (x3 : Int32) : Nat → Int32 → Int32 → Int32 → Int32 → Int32 → Prop
  | 0, _, _, _, _, _ => False
  | f + 1, x4, x5, x6, x7, x8 => (if (30 : Int32) ≤ x8 then True else (if (F_T_isIn S (zAt (S 42) 3 x3) x8) = 0 then ((Sf_Sight_computed_L38 wd S x1 x2 x3 f) x4 x5 x6 x7 (x8 + 1)) else (Sf_World_cell wd S x8 5 ∧ (if (F_World_cell wd S x8 5) = x1 then (Sf_World_cell wd S x8 ((1 : Int32) + x3) ∧ (if x6 = (-1) then (Sf_Sight_computed_l38_112 wd (F_Sight_computed_L38 wd S x1 x2 x3 f) (Sf_Sight_computed_L38 wd S x1 x2 x3 f) S x1 x2 x3 (x4 + 1) (x5 + (F_World_cell wd S x8 ((1 : Int32) + x3))) x7 x8 (F_World_cell wd S x8 ((1 : Int32) + x3))) else (if x6 ≤ (F_World_cell wd S x8 ((1 : Int32) + x3)) then (Sf_Sight_computed_l38_119 wd (F_Sight_computed_L38 wd S x1 x2 x3 f) (Sf_Sight_computed_L38 wd S x1 x2 x3 f) S x1 x2 x3 (x4 + 1) (x5 + (F_World_cell wd S x8 ((1 : Int32) + x3))) x7 x8 (F_World_cell wd S x8 ((1 : Int32) + x3)) x6) else (Sf_Sight_computed_l38_112 wd (F_Sight_computed_L38 wd S x1 x2 x3 f) (Sf_Sight_computed_L38 wd S x1 x2 x3 f) S x1 x2 x3 (x4 + 1) (x5 + (F_World_cell wd S x8 ((1 : Int32) + x3))) x7 x8 (F_World_cell wd S x8 ((1 : Int32) + x3)))))) else ((Sf_Sight_computed_L38 wd S x1 x2 x3 f) x4 x5 x6 x7 (x8 + 1))))))
theorem t_Sight_computed_L38_9 {X : z_X} {Post : Option z_V → z_W → Prop} (M : z_M X zm_Sight_computed rm_Sight_computed Post) {T' : Nat → Nat × Nat} {G' : Nat → Nat → Option Nat} {n : Nat} {Q : (Int32 × Int32 × Int32 × Int32) → Prop} (S : (Nat → Nat → Int32))  (x1 : Int32) (x2 : Int32) (x3 : Int32) (hE : ∀ (y4 : Int32) (y5 : Int32) (y6 : Int32) (y7 : Int32), Q (y4, y5, y6, y7) → z_G X zm_Sight_computed (136, [(0, z_r 36), (2, .inl x2), (4, .inl y4), (5, .inl y5), (6, .inl y6), (7, .inl y7)], [], zW T' (zwG G' 9) S n, 0, 0)) (f : Nat) : ∀ (x4 : Int32) (x5 : Int32) (x6 : Int32) (x7 : Int32) (x8 : Int32), Q (F_Sight_computed_L38 9 S x1 x2 x3 f x4 x5 x6 x7 x8) → Sf_Sight_computed_L38 9 S x1 x2 x3 f x4 x5 x6 x7 x8 → z_G X zm_Sight_computed (38, [(0, z_r 36), (1, .inl x1), (2, .inl x2), (3, .inl x3), (4, .inl x4), (5, .inl x5), (6, .inl x6), (7, .inl x7), (8, .inl x8)], [], zW T' (zwG G' 9) S n, 0, 0) := by
  induction f with
  | zero => intro x4 x5 x6 x7 x8 K hs; exact False.elim hs
  | succ f hC =>
    intro x4 x5 x6 x7 x8 K hs
    rw [F_Sight_computed_L38] at K
    rw [Sf_Sight_computed_L38] at hs
    try simp only [Nat.reduceAdd] at K hs
    refine z_go2 M.1 38 [(.iload 8, 2), (.bipush 30, 2)] (42, [(0, z_r 36), (1, .inl x1), (2, .inl x2), (3, .inl x3), (4, .inl x4), (5, .inl x5), (6, .inl x6), (7, .inl x7), (8, .inl x8)], [.inl 30, .inl x8], zW T' (zwG G' 9) S n, 0, 0) (by decide +kernel) rfl ⟨trivial, trivial, trivial⟩ ?_
    refine z_icmp_ge 136 M.1 (off := 94) (by decide +kernel) (by decide) (fun c42 => ?_) (fun c42 => ?_)
    · rw [if_pos c42] at K hs
      exact z_lvs (lv' := [(0, z_r 36), (2, .inl x2), (4, .inl x4), (5, .inl x5), (6, .inl x6), (7, .inl x7)]) [0, 2, 4, 5, 6, 7] rfl (hE x4 x5 x6 x7 K)
    · rw [if_neg c42] at K hs
      refine z_go2 M.1 45 [(.aload_n 0, 1), (.getfield 27, 3), (.iload_n 3, 1)] (50, [(0, z_r 36), (1, .inl x1), (2, .inl x2), (3, .inl x3), (4, .inl x4), (5, .inl x5), (6, .inl x6), (7, .inl x7), (8, .inl x8)], [.inl x3, z_r 42], zW T' (zwG G' 9) S n, 0, 0) (by decide +kernel) rfl ⟨trivial, rfl, trivial, trivial⟩ ?_
      refine z_callS M.1 (av := [z_r 42, .inl x3]) (st := []) (by decide +kernel) (c_at (zW T' (zwG G' 9) S n) 42 3 rfl (by decide) x3) M.2.1 zl_Sight_72 zs_T_at ⟨by decide, by decide, by decide, by decide⟩ rfl (Nat.le_of_ble_eq_true rfl) (fun v w' hv => ?_)
      obtain ⟨rfl, rfl⟩ := hv
      show z_G X zm_Sight_computed (53, [(0, z_r 36), (1, .inl x1), (2, .inl x2), (3, .inl x3), (4, .inl x4), (5, .inl x5), (6, .inl x6), (7, .inl x7), (8, .inl x8)], [.inl (zAt (S 42) 3 x3)], zW T' (zwG G' 9) S n, 0, 0)
      refine z_go2 M.1 53 [(.iload 8, 2)] (55, [(0, z_r 36), (1, .inl x1), (2, .inl x2), (3, .inl x3), (4, .inl x4), (5, .inl x5), (6, .inl x6), (7, .inl x7), (8, .inl x8)], [.inl x8, .inl (zAt (S 42) 3 x3)], zW T' (zwG G' 9) S n, 0, 0) (by decide +kernel) rfl ⟨trivial, trivial⟩ ?_
      refine z_callS M.1 (av := [.inl (zAt (S 42) 3 x3), .inl x8]) (st := []) (by decide +kernel) (c_T_isIn T' (zwG G' 9) S n (zAt (S 42) 3 x3) x8) M.2.1 zl_Sight_90 zs_T_isIn ⟨by decide, by decide, by decide, by decide⟩ rfl (Nat.le_of_ble_eq_true rfl) (fun v w' hv => ?_)
      obtain ⟨rfl, rfl⟩ := hv
      show z_G X zm_Sight_computed (58, [(0, z_r 36), (1, .inl x1), (2, .inl x2), (3, .inl x3), (4, .inl x4), (5, .inl x5), (6, .inl x6), (7, .inl x7), (8, .inl x8)], [.inl (F_T_isIn S (zAt (S 42) 3 x3) x8)], zW T' (zwG G' 9) S n, 0, 0)
      refine z_if_eq 130 M.1 (off := 72) (by decide +kernel) (by decide) (fun c58 => ?_) (fun c58 => ?_)
      · rw [if_pos c58] at K hs
        refine z_go2 M.1 130 [(.iinc 8 1, 3), (.goto (-95), 3)] (38, [(8, .inl (x8 + 1)), (0, z_r 36), (1, .inl x1), (2, .inl x2), (3, .inl x3), (4, .inl x4), (5, .inl x5), (6, .inl x6), (7, .inl x7)], [], zW T' (zwG G' 9) S n, 0, 0) (by decide +kernel) rfl ⟨trivial, trivial, trivial⟩ ?_
        exact z_lvs (lv' := [(0, z_r 36), (1, .inl x1), (2, .inl x2), (3, .inl x3), (4, .inl x4), (5, .inl x5), (6, .inl x6), (7, .inl x7), (8, .inl (x8 + 1))]) [1, 2, 3, 4, 5, 6, 7, 8, 0] rfl (hC x4 x5 x6 x7 (x8 + 1) K hs)
      · rw [if_neg c58] at K hs
        refine z_go2 M.1 61 [(.aload_n 0, 1), (.getfield 40, 3), (.iload 8, 2), (.iconst 5, 1)] (68, [(0, z_r 36), (1, .inl x1), (2, .inl x2), (3, .inl x3), (4, .inl x4), (5, .inl x5), (6, .inl x6), (7, .inl x7), (8, .inl x8)], [.inl 5, .inl x8, z_r 9], zW T' (zwG G' 9) S n, 0, 0) (by decide +kernel) rfl ⟨trivial, rfl, trivial, trivial, trivial⟩ ?_
        refine z_callV M.1 (av := [.inl x8, .inl 5]) (st := []) (a := 9) (ci := 10) (by decide +kernel) (c_World_cell_9 T' (zwG G' 9) S n x8 5 hs.1) M.2.1 zl_Sight_61 zv_World_cell rfl rfl rfl ⟨by decide, by decide, by decide, by decide⟩ rfl (Nat.le_of_ble_eq_true rfl) (fun v w' hv => ?_)
        obtain ⟨rfl, rfl⟩ := hv
        replace hs := hs.2
        show z_G X zm_Sight_computed (71, [(0, z_r 36), (1, .inl x1), (2, .inl x2), (3, .inl x3), (4, .inl x4), (5, .inl x5), (6, .inl x6), (7, .inl x7), (8, .inl x8)], [.inl (F_World_cell 9 S x8 5)], zW T' (zwG G' 9) S n, 0, 0)
        refine z_go2 M.1 71 [(.iload_n 1, 1)] (72, [(0, z_r 36), (1, .inl x1), (2, .inl x2), (3, .inl x3), (4, .inl x4), (5, .inl x5), (6, .inl x6), (7, .inl x7), (8, .inl x8)], [.inl x1, .inl (F_World_cell 9 S x8 5)], zW T' (zwG G' 9) S n, 0, 0) (by decide +kernel) rfl ⟨trivial, trivial⟩ ?_
        refine z_icmp_ne 130 M.1 (off := 58) (by decide +kernel) (by decide) (fun c72 => ?_) (fun c72 => ?_)
        · rw [if_neg c72] at K hs
          refine z_go2 M.1 130 [(.iinc 8 1, 3), (.goto (-95), 3)] (38, [(8, .inl (x8 + 1)), (0, z_r 36), (1, .inl x1), (2, .inl x2), (3, .inl x3), (4, .inl x4), (5, .inl x5), (6, .inl x6), (7, .inl x7)], [], zW T' (zwG G' 9) S n, 0, 0) (by decide +kernel) rfl ⟨trivial, trivial, trivial⟩ ?_
          exact z_lvs (lv' := [(0, z_r 36), (1, .inl x1), (2, .inl x2), (3, .inl x3), (4, .inl x4), (5, .inl x5), (6, .inl x6), (7, .inl x7), (8, .inl (x8 + 1))]) [1, 2, 3, 4, 5, 6, 7, 8, 0] rfl (hC x4 x5 x6 x7 (x8 + 1) K hs)
        · rw [if_pos c72] at K hs
          refine z_go2 M.1 75 [(.aload_n 0, 1), (.getfield 40, 3), (.iload 8, 2), (.iconst 1, 1), (.iload_n 3, 1), (.iadd, 1)] (84, [(0, z_r 36), (1, .inl x1), (2, .inl x2), (3, .inl x3), (4, .inl x4), (5, .inl x5), (6, .inl x6), (7, .inl x7), (8, .inl x8)], [.inl ((1 : Int32) + x3), .inl x8, z_r 9], zW T' (zwG G' 9) S n, 0, 0) (by decide +kernel) rfl ⟨trivial, rfl, trivial, trivial, trivial, trivial, trivial⟩ ?_
          refine z_callV M.1 (av := [.inl x8, .inl ((1 : Int32) + x3)]) (st := []) (a := 9) (ci := 10) (by decide +kernel) (c_World_cell_9 T' (zwG G' 9) S n x8 ((1 : Int32) + x3) hs.1) M.2.1 zl_Sight_61 zv_World_cell rfl rfl rfl ⟨by decide, by decide, by decide, by decide⟩ rfl (Nat.le_of_ble_eq_true rfl) (fun v w' hv => ?_)
          obtain ⟨rfl, rfl⟩ := hv
          replace hs := hs.2
          show z_G X zm_Sight_computed (87, [(0, z_r 36), (1, .inl x1), (2, .inl x2), (3, .inl x3), (4, .inl x4), (5, .inl x5), (6, .inl x6), (7, .inl x7), (8, .inl x8)], [.inl (F_World_cell 9 S x8 ((1 : Int32) + x3))], zW T' (zwG G' 9) S n, 0, 0)
          refine z_go2 M.1 87 [(.istore 9, 2), (.iinc 4 1, 3), (.iload 5, 2), (.iload 9, 2), (.iadd, 1), (.istore 5, 2), (.iload 6, 2), (.iconst (-1), 1)] (102, [(5, .inl (x5 + (F_World_cell 9 S x8 ((1 : Int32) + x3)))), (4, .inl (x4 + 1)), (9, .inl (F_World_cell 9 S x8 ((1 : Int32) + x3))), (0, z_r 36), (1, .inl x1), (2, .inl x2), (3, .inl x3), (6, .inl x6), (7, .inl x7), (8, .inl x8)], [.inl (-1), .inl x6], zW T' (zwG G' 9) S n, 0, 0) (by decide +kernel) rfl ⟨trivial, trivial, trivial, trivial, trivial, trivial, trivial, trivial, trivial⟩ ?_
          refine z_icmp_eq 112 M.1 (off := 10) (by decide +kernel) (by decide) (fun c102 => ?_) (fun c102 => ?_)
          · rw [if_pos c102] at K hs
            exact z_lvs (lv' := [(0, z_r 36), (1, .inl x1), (2, .inl x2), (3, .inl x3), (4, .inl (x4 + 1)), (5, .inl (x5 + (F_World_cell 9 S x8 ((1 : Int32) + x3)))), (7, .inl x7), (8, .inl x8), (9, .inl (F_World_cell 9 S x8 ((1 : Int32) + x3)))]) [3, 4, 5, 6, 1, 0, 8, 9, 2] rfl (t_Sight_computed_l38_112_9 M (F_Sight_computed_L38 9 S x1 x2 x3 f) (Sf_Sight_computed_L38 9 S x1 x2 x3 f) S x1 x2 x3 (x4 + 1) (x5 + (F_World_cell 9 S x8 ((1 : Int32) + x3))) x7 x8 (F_World_cell 9 S x8 ((1 : Int32) + x3)) hE hC K hs)
          · rw [if_neg c102] at K hs
            refine z_go2 M.1 105 [(.iload 9, 2), (.iload 6, 2)] (109, [(5, .inl (x5 + (F_World_cell 9 S x8 ((1 : Int32) + x3)))), (4, .inl (x4 + 1)), (9, .inl (F_World_cell 9 S x8 ((1 : Int32) + x3))), (0, z_r 36), (1, .inl x1), (2, .inl x2), (3, .inl x3), (6, .inl x6), (7, .inl x7), (8, .inl x8)], [.inl x6, .inl (F_World_cell 9 S x8 ((1 : Int32) + x3))], zW T' (zwG G' 9) S n, 0, 0) (by decide +kernel) rfl ⟨trivial, trivial, trivial⟩ ?_
            refine z_icmp_ge 117 M.1 (off := 8) (by decide +kernel) (by decide) (fun c109 => ?_) (fun c109 => ?_)
            · rw [if_pos c109] at K hs
              refine z_go2 M.1 117 [(.iload 6, 2)] (119, [(5, .inl (x5 + (F_World_cell 9 S x8 ((1 : Int32) + x3)))), (4, .inl (x4 + 1)), (9, .inl (F_World_cell 9 S x8 ((1 : Int32) + x3))), (0, z_r 36), (1, .inl x1), (2, .inl x2), (3, .inl x3), (6, .inl x6), (7, .inl x7), (8, .inl x8)], [.inl x6], zW T' (zwG G' 9) S n, 0, 0) (by decide +kernel) rfl ⟨trivial, trivial⟩ ?_
              exact z_lvs (lv' := [(0, z_r 36), (1, .inl x1), (2, .inl x2), (3, .inl x3), (4, .inl (x4 + 1)), (5, .inl (x5 + (F_World_cell 9 S x8 ((1 : Int32) + x3)))), (7, .inl x7), (8, .inl x8), (9, .inl (F_World_cell 9 S x8 ((1 : Int32) + x3)))]) [3, 4, 5, 6, 1, 0, 8, 9, 2] rfl (t_Sight_computed_l38_119_9 M (F_Sight_computed_L38 9 S x1 x2 x3 f) (Sf_Sight_computed_L38 9 S x1 x2 x3 f) S x1 x2 x3 (x4 + 1) (x5 + (F_World_cell 9 S x8 ((1 : Int32) + x3))) x7 x8 (F_World_cell 9 S x8 ((1 : Int32) + x3)) x6 hE hC K hs)
            · rw [if_neg c109] at K hs
              exact z_lvs (lv' := [(0, z_r 36), (1, .inl x1), (2, .inl x2), (3, .inl x3), (4, .inl (x4 + 1)), (5, .inl (x5 + (F_World_cell 9 S x8 ((1 : Int32) + x3)))), (7, .inl x7), (8, .inl x8), (9, .inl (F_World_cell 9 S x8 ((1 : Int32) + x3)))]) [3, 4, 5, 6, 1, 0, 8, 9, 2] rfl (t_Sight_computed_l38_112_9 M (F_Sight_computed_L38 9 S x1 x2 x3 f) (Sf_Sight_computed_L38 9 S x1 x2 x3 f) S x1 x2 x3 (x4 + 1) (x5 + (F_World_cell 9 S x8 ((1 : Int32) + x3))) x7 x8 (F_World_cell 9 S x8 ((1 : Int32) + x3)) hE hC K hs)
theorem t_Sight_computed_L38_28 {X : z_X} {Post : Option z_V → z_W → Prop} (M : z_M X zm_Sight_computed rm_Sight_computed Post) {T' : Nat → Nat × Nat} {G' : Nat → Nat → Option Nat} {n : Nat} {Q : (Int32 × Int32 × Int32 × Int32) → Prop} (S : (Nat → Nat → Int32))  (x1 : Int32) (x2 : Int32) (x3 : Int32) (hE : ∀ (y4 : Int32) (y5 : Int32) (y6 : Int32) (y7 : Int32), Q (y4, y5, y6, y7) → z_G X zm_Sight_computed (136, [(0, z_r 36), (2, .inl x2), (4, .inl y4), (5, .inl y5), (6, .inl y6), (7, .inl y7)], [], zW T' (zwG G' 28) S n, 0, 0)) (f : Nat) : ∀ (x4 : Int32) (x5 : Int32) (x6 : Int32) (x7 : Int32) (x8 : Int32), Q (F_Sight_computed_L38 28 S x1 x2 x3 f x4 x5 x6 x7 x8) → Sf_Sight_computed_L38 28 S x1 x2 x3 f x4 x5 x6 x7 x8 → z_G X zm_Sight_computed (38, [(0, z_r 36), (1, .inl x1), (2, .inl x2), (3, .inl x3), (4, .inl x4), (5, .inl x5), (6, .inl x6), (7, .inl x7), (8, .inl x8)], [], zW T' (zwG G' 28) S n, 0, 0) := by
  induction f with
  | zero => intro x4 x5 x6 x7 x8 K hs; exact False.elim hs
  | succ f hC =>
    intro x4 x5 x6 x7 x8 K hs
    rw [F_Sight_computed_L38] at K
    rw [Sf_Sight_computed_L38] at hs
    try simp only [Nat.reduceAdd] at K hs
    refine z_go2 M.1 38 [(.iload 8, 2), (.bipush 30, 2)] (42, [(0, z_r 36), (1, .inl x1), (2, .inl x2), (3, .inl x3), (4, .inl x4), (5, .inl x5), (6, .inl x6), (7, .inl x7), (8, .inl x8)], [.inl 30, .inl x8], zW T' (zwG G' 28) S n, 0, 0) (by decide +kernel) rfl ⟨trivial, trivial, trivial⟩ ?_
    refine z_icmp_ge 136 M.1 (off := 94) (by decide +kernel) (by decide) (fun c42 => ?_) (fun c42 => ?_)
    · rw [if_pos c42] at K hs
      exact z_lvs (lv' := [(0, z_r 36), (2, .inl x2), (4, .inl x4), (5, .inl x5), (6, .inl x6), (7, .inl x7)]) [0, 2, 4, 5, 6, 7] rfl (hE x4 x5 x6 x7 K)
    · rw [if_neg c42] at K hs
      refine z_go2 M.1 45 [(.aload_n 0, 1), (.getfield 27, 3), (.iload_n 3, 1)] (50, [(0, z_r 36), (1, .inl x1), (2, .inl x2), (3, .inl x3), (4, .inl x4), (5, .inl x5), (6, .inl x6), (7, .inl x7), (8, .inl x8)], [.inl x3, z_r 42], zW T' (zwG G' 28) S n, 0, 0) (by decide +kernel) rfl ⟨trivial, rfl, trivial, trivial⟩ ?_
      refine z_callS M.1 (av := [z_r 42, .inl x3]) (st := []) (by decide +kernel) (c_at (zW T' (zwG G' 28) S n) 42 3 rfl (by decide) x3) M.2.1 zl_Sight_72 zs_T_at ⟨by decide, by decide, by decide, by decide⟩ rfl (Nat.le_of_ble_eq_true rfl) (fun v w' hv => ?_)
      obtain ⟨rfl, rfl⟩ := hv
      show z_G X zm_Sight_computed (53, [(0, z_r 36), (1, .inl x1), (2, .inl x2), (3, .inl x3), (4, .inl x4), (5, .inl x5), (6, .inl x6), (7, .inl x7), (8, .inl x8)], [.inl (zAt (S 42) 3 x3)], zW T' (zwG G' 28) S n, 0, 0)
      refine z_go2 M.1 53 [(.iload 8, 2)] (55, [(0, z_r 36), (1, .inl x1), (2, .inl x2), (3, .inl x3), (4, .inl x4), (5, .inl x5), (6, .inl x6), (7, .inl x7), (8, .inl x8)], [.inl x8, .inl (zAt (S 42) 3 x3)], zW T' (zwG G' 28) S n, 0, 0) (by decide +kernel) rfl ⟨trivial, trivial⟩ ?_
      refine z_callS M.1 (av := [.inl (zAt (S 42) 3 x3), .inl x8]) (st := []) (by decide +kernel) (c_T_isIn T' (zwG G' 28) S n (zAt (S 42) 3 x3) x8) M.2.1 zl_Sight_90 zs_T_isIn ⟨by decide, by decide, by decide, by decide⟩ rfl (Nat.le_of_ble_eq_true rfl) (fun v w' hv => ?_)
      obtain ⟨rfl, rfl⟩ := hv
      show z_G X zm_Sight_computed (58, [(0, z_r 36), (1, .inl x1), (2, .inl x2), (3, .inl x3), (4, .inl x4), (5, .inl x5), (6, .inl x6), (7, .inl x7), (8, .inl x8)], [.inl (F_T_isIn S (zAt (S 42) 3 x3) x8)], zW T' (zwG G' 28) S n, 0, 0)
      refine z_if_eq 130 M.1 (off := 72) (by decide +kernel) (by decide) (fun c58 => ?_) (fun c58 => ?_)
      · rw [if_pos c58] at K hs
        refine z_go2 M.1 130 [(.iinc 8 1, 3), (.goto (-95), 3)] (38, [(8, .inl (x8 + 1)), (0, z_r 36), (1, .inl x1), (2, .inl x2), (3, .inl x3), (4, .inl x4), (5, .inl x5), (6, .inl x6), (7, .inl x7)], [], zW T' (zwG G' 28) S n, 0, 0) (by decide +kernel) rfl ⟨trivial, trivial, trivial⟩ ?_
        exact z_lvs (lv' := [(0, z_r 36), (1, .inl x1), (2, .inl x2), (3, .inl x3), (4, .inl x4), (5, .inl x5), (6, .inl x6), (7, .inl x7), (8, .inl (x8 + 1))]) [1, 2, 3, 4, 5, 6, 7, 8, 0] rfl (hC x4 x5 x6 x7 (x8 + 1) K hs)
      · rw [if_neg c58] at K hs
        refine z_go2 M.1 61 [(.aload_n 0, 1), (.getfield 40, 3), (.iload 8, 2), (.iconst 5, 1)] (68, [(0, z_r 36), (1, .inl x1), (2, .inl x2), (3, .inl x3), (4, .inl x4), (5, .inl x5), (6, .inl x6), (7, .inl x7), (8, .inl x8)], [.inl 5, .inl x8, z_r 28], zW T' (zwG G' 28) S n, 0, 0) (by decide +kernel) rfl ⟨trivial, rfl, trivial, trivial, trivial⟩ ?_
        refine z_callV M.1 (av := [.inl x8, .inl 5]) (st := []) (a := 28) (ci := 10) (by decide +kernel) (c_World_cell_28 T' (zwG G' 28) S n x8 5 hs.1) M.2.1 zl_Sight_61 zv_World_cell rfl rfl rfl ⟨by decide, by decide, by decide, by decide⟩ rfl (Nat.le_of_ble_eq_true rfl) (fun v w' hv => ?_)
        obtain ⟨rfl, rfl⟩ := hv
        replace hs := hs.2
        show z_G X zm_Sight_computed (71, [(0, z_r 36), (1, .inl x1), (2, .inl x2), (3, .inl x3), (4, .inl x4), (5, .inl x5), (6, .inl x6), (7, .inl x7), (8, .inl x8)], [.inl (F_World_cell 28 S x8 5)], zW T' (zwG G' 28) S n, 0, 0)
        refine z_go2 M.1 71 [(.iload_n 1, 1)] (72, [(0, z_r 36), (1, .inl x1), (2, .inl x2), (3, .inl x3), (4, .inl x4), (5, .inl x5), (6, .inl x6), (7, .inl x7), (8, .inl x8)], [.inl x1, .inl (F_World_cell 28 S x8 5)], zW T' (zwG G' 28) S n, 0, 0) (by decide +kernel) rfl ⟨trivial, trivial⟩ ?_
        refine z_icmp_ne 130 M.1 (off := 58) (by decide +kernel) (by decide) (fun c72 => ?_) (fun c72 => ?_)
        · rw [if_neg c72] at K hs
          refine z_go2 M.1 130 [(.iinc 8 1, 3), (.goto (-95), 3)] (38, [(8, .inl (x8 + 1)), (0, z_r 36), (1, .inl x1), (2, .inl x2), (3, .inl x3), (4, .inl x4), (5, .inl x5), (6, .inl x6), (7, .inl x7)], [], zW T' (zwG G' 28) S n, 0, 0) (by decide +kernel) rfl ⟨trivial, trivial, trivial⟩ ?_
          exact z_lvs (lv' := [(0, z_r 36), (1, .inl x1), (2, .inl x2), (3, .inl x3), (4, .inl x4), (5, .inl x5), (6, .inl x6), (7, .inl x7), (8, .inl (x8 + 1))]) [1, 2, 3, 4, 5, 6, 7, 8, 0] rfl (hC x4 x5 x6 x7 (x8 + 1) K hs)
        · rw [if_pos c72] at K hs
          refine z_go2 M.1 75 [(.aload_n 0, 1), (.getfield 40, 3), (.iload 8, 2), (.iconst 1, 1), (.iload_n 3, 1), (.iadd, 1)] (84, [(0, z_r 36), (1, .inl x1), (2, .inl x2), (3, .inl x3), (4, .inl x4), (5, .inl x5), (6, .inl x6), (7, .inl x7), (8, .inl x8)], [.inl ((1 : Int32) + x3), .inl x8, z_r 28], zW T' (zwG G' 28) S n, 0, 0) (by decide +kernel) rfl ⟨trivial, rfl, trivial, trivial, trivial, trivial, trivial⟩ ?_
          refine z_callV M.1 (av := [.inl x8, .inl ((1 : Int32) + x3)]) (st := []) (a := 28) (ci := 10) (by decide +kernel) (c_World_cell_28 T' (zwG G' 28) S n x8 ((1 : Int32) + x3) hs.1) M.2.1 zl_Sight_61 zv_World_cell rfl rfl rfl ⟨by decide, by decide, by decide, by decide⟩ rfl (Nat.le_of_ble_eq_true rfl) (fun v w' hv => ?_)
          obtain ⟨rfl, rfl⟩ := hv
          replace hs := hs.2
          show z_G X zm_Sight_computed (87, [(0, z_r 36), (1, .inl x1), (2, .inl x2), (3, .inl x3), (4, .inl x4), (5, .inl x5), (6, .inl x6), (7, .inl x7), (8, .inl x8)], [.inl (F_World_cell 28 S x8 ((1 : Int32) + x3))], zW T' (zwG G' 28) S n, 0, 0)
          refine z_go2 M.1 87 [(.istore 9, 2), (.iinc 4 1, 3), (.iload 5, 2), (.iload 9, 2), (.iadd, 1), (.istore 5, 2), (.iload 6, 2), (.iconst (-1), 1)] (102, [(5, .inl (x5 + (F_World_cell 28 S x8 ((1 : Int32) + x3)))), (4, .inl (x4 + 1)), (9, .inl (F_World_cell 28 S x8 ((1 : Int32) + x3))), (0, z_r 36), (1, .inl x1), (2, .inl x2), (3, .inl x3), (6, .inl x6), (7, .inl x7), (8, .inl x8)], [.inl (-1), .inl x6], zW T' (zwG G' 28) S n, 0, 0) (by decide +kernel) rfl ⟨trivial, trivial, trivial, trivial, trivial, trivial, trivial, trivial, trivial⟩ ?_
          refine z_icmp_eq 112 M.1 (off := 10) (by decide +kernel) (by decide) (fun c102 => ?_) (fun c102 => ?_)
          · rw [if_pos c102] at K hs
            exact z_lvs (lv' := [(0, z_r 36), (1, .inl x1), (2, .inl x2), (3, .inl x3), (4, .inl (x4 + 1)), (5, .inl (x5 + (F_World_cell 28 S x8 ((1 : Int32) + x3)))), (7, .inl x7), (8, .inl x8), (9, .inl (F_World_cell 28 S x8 ((1 : Int32) + x3)))]) [3, 4, 5, 6, 1, 0, 8, 9, 2] rfl (t_Sight_computed_l38_112_28 M (F_Sight_computed_L38 28 S x1 x2 x3 f) (Sf_Sight_computed_L38 28 S x1 x2 x3 f) S x1 x2 x3 (x4 + 1) (x5 + (F_World_cell 28 S x8 ((1 : Int32) + x3))) x7 x8 (F_World_cell 28 S x8 ((1 : Int32) + x3)) hE hC K hs)
          · rw [if_neg c102] at K hs
            refine z_go2 M.1 105 [(.iload 9, 2), (.iload 6, 2)] (109, [(5, .inl (x5 + (F_World_cell 28 S x8 ((1 : Int32) + x3)))), (4, .inl (x4 + 1)), (9, .inl (F_World_cell 28 S x8 ((1 : Int32) + x3))), (0, z_r 36), (1, .inl x1), (2, .inl x2), (3, .inl x3), (6, .inl x6), (7, .inl x7), (8, .inl x8)], [.inl x6, .inl (F_World_cell 28 S x8 ((1 : Int32) + x3))], zW T' (zwG G' 28) S n, 0, 0) (by decide +kernel) rfl ⟨trivial, trivial, trivial⟩ ?_
            refine z_icmp_ge 117 M.1 (off := 8) (by decide +kernel) (by decide) (fun c109 => ?_) (fun c109 => ?_)
            · rw [if_pos c109] at K hs
              refine z_go2 M.1 117 [(.iload 6, 2)] (119, [(5, .inl (x5 + (F_World_cell 28 S x8 ((1 : Int32) + x3)))), (4, .inl (x4 + 1)), (9, .inl (F_World_cell 28 S x8 ((1 : Int32) + x3))), (0, z_r 36), (1, .inl x1), (2, .inl x2), (3, .inl x3), (6, .inl x6), (7, .inl x7), (8, .inl x8)], [.inl x6], zW T' (zwG G' 28) S n, 0, 0) (by decide +kernel) rfl ⟨trivial, trivial⟩ ?_
              exact z_lvs (lv' := [(0, z_r 36), (1, .inl x1), (2, .inl x2), (3, .inl x3), (4, .inl (x4 + 1)), (5, .inl (x5 + (F_World_cell 28 S x8 ((1 : Int32) + x3)))), (7, .inl x7), (8, .inl x8), (9, .inl (F_World_cell 28 S x8 ((1 : Int32) + x3)))]) [3, 4, 5, 6, 1, 0, 8, 9, 2] rfl (t_Sight_computed_l38_119_28 M (F_Sight_computed_L38 28 S x1 x2 x3 f) (Sf_Sight_computed_L38 28 S x1 x2 x3 f) S x1 x2 x3 (x4 + 1) (x5 + (F_World_cell 28 S x8 ((1 : Int32) + x3))) x7 x8 (F_World_cell 28 S x8 ((1 : Int32) + x3)) x6 hE hC K hs)
            · rw [if_neg c109] at K hs
              exact z_lvs (lv' := [(0, z_r 36), (1, .inl x1), (2, .inl x2), (3, .inl x3), (4, .inl (x4 + 1)), (5, .inl (x5 + (F_World_cell 28 S x8 ((1 : Int32) + x3)))), (7, .inl x7), (8, .inl x8), (9, .inl (F_World_cell 28 S x8 ((1 : Int32) + x3)))]) [3, 4, 5, 6, 1, 0, 8, 9, 2] rfl (t_Sight_computed_l38_112_28 M (F_Sight_computed_L38 28 S x1 x2 x3 f) (Sf_Sight_computed_L38 28 S x1 x2 x3 f) S x1 x2 x3 (x4 + 1) (x5 + (F_World_cell 28 S x8 ((1 : Int32) + x3))) x7 x8 (F_World_cell 28 S x8 ((1 : Int32) + x3)) hE hC K hs)
def F_Sight_computed (wd : Nat) (S : (Nat → Nat → Int32)) (p1 : Int32) : Int32 := (match F_Sight_computed_L38 wd S p1 (F_World_cell wd S p1 9) (zAt (S 46) 3 (F_World_cell wd S p1 9)) 1300 0 0 (-1) (-1) 0 with | (y4_38, y5_38, y6_38, y7_38) => (if (zAt (S 45) 3 (F_World_cell wd S p1 9)) = 0 then y4_38 else (if (zAt (S 45) 3 (F_World_cell wd S p1 9)) = 1 then y5_38 else (if (zAt (S 45) 3 (F_World_cell wd S p1 9)) = 2 then y6_38 else (if (zAt (S 45) 3 (F_World_cell wd S p1 9)) = 3 then y7_38 else (-1))))))
def Sf_Sight_computed (wd : Nat) (S : (Nat → Nat → Int32)) (p1 : Int32) : Prop := (Sf_World_cell wd S p1 9 ∧ (Sf_Sight_computed_L38 wd S p1 (F_World_cell wd S p1 9) (zAt (S 46) 3 (F_World_cell wd S p1 9)) 1300 0 0 (-1) (-1) 0 ∧ True))
theorem c_Sight_computed_9 (T' : Nat → Nat × Nat) (G' : Nat → Nat → Option Nat) (S : (Nat → Nat → Int32)) (n : Nat) (p1 : Int32) (hs : Sf_Sight_computed 9 S p1) : z_Run rm_Sight_computed zm_Sight_computed [z_r 36, .inl p1] (zW T' (zwG G' 9) S n) (zq (some (.inl (F_Sight_computed 9 S p1))) (zW T' (zwG G' 9) S n)) := by
  refine z_body (by decide) zf_Sight_ok (Nat.le_of_ble_eq_true rfl) (fun X M => ?_)
  obtain ⟨Q, hQ, K⟩ : ∃ Q : Int32 → Prop, (∀ v, Q v → zq (some (.inl (F_Sight_computed 9 S p1))) (zW T' (zwG G' 9) S n) (some (.inl v)) (zW T' (zwG G' 9) S n)) ∧ Q (F_Sight_computed 9 S p1) := ⟨fun o => F_Sight_computed 9 S p1 = o, fun v h => ⟨by rw [h], rfl⟩, rfl⟩
  show z_G X zm_Sight_computed (0, [(0, z_r 36), (1, .inl p1)], [], zW T' (zwG G' 9) S n, 0, 0)
  unfold F_Sight_computed at K
  unfold Sf_Sight_computed at hs
  try simp only [Nat.reduceAdd] at K hs
  refine z_go2 M.1 0 [(.aload_n 0, 1), (.getfield 40, 3), (.iload_n 1, 1), (.bipush 9, 2)] (7, [(0, z_r 36), (1, .inl p1)], [.inl 9, .inl p1, z_r 9], zW T' (zwG G' 9) S n, 0, 0) (by decide +kernel) rfl ⟨trivial, rfl, trivial, trivial, trivial⟩ ?_
  refine z_callV M.1 (av := [.inl p1, .inl 9]) (st := []) (a := 9) (ci := 10) (by decide +kernel) (c_World_cell_9 T' (zwG G' 9) S n p1 9 hs.1) M.2.1 zl_Sight_61 zv_World_cell rfl rfl rfl ⟨by decide, by decide, by decide, by decide⟩ rfl (Nat.le_of_ble_eq_true rfl) (fun v w' hv => ?_)
  obtain ⟨rfl, rfl⟩ := hv
  replace hs := hs.2
  show z_G X zm_Sight_computed (10, [(0, z_r 36), (1, .inl p1)], [.inl (F_World_cell 9 S p1 9)], zW T' (zwG G' 9) S n, 0, 0)
  refine z_go2 M.1 10 [(.istore_n 2, 1), (.aload_n 0, 1), (.getfield 33, 3), (.getfield 99, 3), (.iload_n 2, 1)] (19, [(2, .inl (F_World_cell 9 S p1 9)), (0, z_r 36), (1, .inl p1)], [.inl (F_World_cell 9 S p1 9), z_r 46], zW T' (zwG G' 9) S n, 0, 0) (by decide +kernel) rfl ⟨trivial, trivial, rfl, rfl, trivial, trivial⟩ ?_
  refine z_callS M.1 (av := [z_r 46, .inl (F_World_cell 9 S p1 9)]) (st := []) (by decide +kernel) (c_at (zW T' (zwG G' 9) S n) 46 3 rfl (by decide) (F_World_cell 9 S p1 9)) M.2.1 zl_Sight_72 zs_T_at ⟨by decide, by decide, by decide, by decide⟩ rfl (Nat.le_of_ble_eq_true rfl) (fun v w' hv => ?_)
  obtain ⟨rfl, rfl⟩ := hv
  show z_G X zm_Sight_computed (22, [(2, .inl (F_World_cell 9 S p1 9)), (0, z_r 36), (1, .inl p1)], [.inl (zAt (S 46) 3 (F_World_cell 9 S p1 9))], zW T' (zwG G' 9) S n, 0, 0)
  refine z_go2 M.1 22 [(.istore_n 3, 1), (.iconst 0, 1), (.istore 4, 2), (.iconst 0, 1), (.istore 5, 2), (.iconst (-1), 1), (.istore 6, 2), (.iconst (-1), 1), (.istore 7, 2), (.iconst 0, 1), (.istore 8, 2)] (38, [(8, .inl 0), (7, .inl (-1)), (6, .inl (-1)), (5, .inl 0), (4, .inl 0), (3, .inl (zAt (S 46) 3 (F_World_cell 9 S p1 9))), (2, .inl (F_World_cell 9 S p1 9)), (0, z_r 36), (1, .inl p1)], [], zW T' (zwG G' 9) S n, 0, 0) (by decide +kernel) rfl ⟨trivial, trivial, trivial, trivial, trivial, trivial, trivial, trivial, trivial, trivial, trivial, trivial⟩ ?_
  refine z_lvs (lv' := [(0, z_r 36), (1, .inl p1), (2, .inl (F_World_cell 9 S p1 9)), (3, .inl (zAt (S 46) 3 (F_World_cell 9 S p1 9))), (4, .inl 0), (5, .inl 0), (6, .inl (-1)), (7, .inl (-1)), (8, .inl 0)]) [7, 8, 6, 5, 4, 3, 2, 1, 0] rfl ?_
  refine t_Sight_computed_L38_9 M (Q := fun o => F_Sight_computed_L38 9 S p1 (F_World_cell 9 S p1 9) (zAt (S 46) 3 (F_World_cell 9 S p1 9)) 1300 0 0 (-1) (-1) 0 = o) S p1 (F_World_cell 9 S p1 9) (zAt (S 46) 3 (F_World_cell 9 S p1 9)) (fun y4_38 y5_38 y6_38 y7_38 hL38 => ?_) 1300 0 0 (-1) (-1) 0 rfl hs.1
  replace hs := hs.2
  rw [hL38] at K
  try dsimp only at K
  refine z_go2 M.1 136 [(.aload_n 0, 1), (.getfield 33, 3), (.getfield 107, 3), (.iload_n 2, 1)] (144, [(0, z_r 36), (2, .inl (F_World_cell 9 S p1 9)), (4, .inl y4_38), (5, .inl y5_38), (6, .inl y6_38), (7, .inl y7_38)], [.inl (F_World_cell 9 S p1 9), z_r 45], zW T' (zwG G' 9) S n, 0, 0) (by decide +kernel) rfl ⟨trivial, rfl, rfl, trivial, trivial⟩ ?_
  refine z_callS M.1 (av := [z_r 45, .inl (F_World_cell 9 S p1 9)]) (st := []) (by decide +kernel) (c_at (zW T' (zwG G' 9) S n) 45 3 rfl (by decide) (F_World_cell 9 S p1 9)) M.2.1 zl_Sight_72 zs_T_at ⟨by decide, by decide, by decide, by decide⟩ rfl (Nat.le_of_ble_eq_true rfl) (fun v w' hv => ?_)
  obtain ⟨rfl, rfl⟩ := hv
  show z_G X zm_Sight_computed (147, [(0, z_r 36), (2, .inl (F_World_cell 9 S p1 9)), (4, .inl y4_38), (5, .inl y5_38), (6, .inl y6_38), (7, .inl y7_38)], [.inl (zAt (S 45) 3 (F_World_cell 9 S p1 9))], zW T' (zwG G' 9) S n, 0, 0)
  by_cases c147_0 : (zAt (S 45) 3 (F_World_cell 9 S p1 9)) = 0
  · rw [if_pos c147_0] at K
    refine z_tabE 176 M.1 (dflt := 41) (lo := 0) (hi := 3) (offs := #[29, 32, 35, 38]) (len := 29) c147_0 (off := 29) (by decide +kernel) (by decide) (by decide) (by decide) (by decide) ?_
    refine z_go2 M.1 176 [(.iload 4, 2)] (178, [(0, z_r 36), (2, .inl (F_World_cell 9 S p1 9)), (4, .inl y4_38), (5, .inl y5_38), (6, .inl y6_38), (7, .inl y7_38)], [.inl y4_38], zW T' (zwG G' 9) S n, 0, 0) (by decide +kernel) rfl ⟨trivial, trivial⟩ ?_
    exact z_iret M (by decide +kernel) .int rfl rfl (by decide) (by decide) (hQ _ K)
  · rw [if_neg c147_0] at K
    by_cases c147_1 : (zAt (S 45) 3 (F_World_cell 9 S p1 9)) = 1
    · rw [if_pos c147_1] at K
      refine z_tabE 179 M.1 (dflt := 41) (lo := 0) (hi := 3) (offs := #[29, 32, 35, 38]) (len := 29) c147_1 (off := 32) (by decide +kernel) (by decide) (by decide) (by decide) (by decide) ?_
      refine z_go2 M.1 179 [(.iload 5, 2)] (181, [(0, z_r 36), (2, .inl (F_World_cell 9 S p1 9)), (4, .inl y4_38), (5, .inl y5_38), (6, .inl y6_38), (7, .inl y7_38)], [.inl y5_38], zW T' (zwG G' 9) S n, 0, 0) (by decide +kernel) rfl ⟨trivial, trivial⟩ ?_
      exact z_iret M (by decide +kernel) .int rfl rfl (by decide) (by decide) (hQ _ K)
    · rw [if_neg c147_1] at K
      by_cases c147_2 : (zAt (S 45) 3 (F_World_cell 9 S p1 9)) = 2
      · rw [if_pos c147_2] at K
        refine z_tabE 182 M.1 (dflt := 41) (lo := 0) (hi := 3) (offs := #[29, 32, 35, 38]) (len := 29) c147_2 (off := 35) (by decide +kernel) (by decide) (by decide) (by decide) (by decide) ?_
        refine z_go2 M.1 182 [(.iload 6, 2)] (184, [(0, z_r 36), (2, .inl (F_World_cell 9 S p1 9)), (4, .inl y4_38), (5, .inl y5_38), (6, .inl y6_38), (7, .inl y7_38)], [.inl y6_38], zW T' (zwG G' 9) S n, 0, 0) (by decide +kernel) rfl ⟨trivial, trivial⟩ ?_
        exact z_iret M (by decide +kernel) .int rfl rfl (by decide) (by decide) (hQ _ K)
      · rw [if_neg c147_2] at K
        by_cases c147_3 : (zAt (S 45) 3 (F_World_cell 9 S p1 9)) = 3
        · rw [if_pos c147_3] at K
          refine z_tabE 185 M.1 (dflt := 41) (lo := 0) (hi := 3) (offs := #[29, 32, 35, 38]) (len := 29) c147_3 (off := 38) (by decide +kernel) (by decide) (by decide) (by decide) (by decide) ?_
          refine z_go2 M.1 185 [(.iload 7, 2)] (187, [(0, z_r 36), (2, .inl (F_World_cell 9 S p1 9)), (4, .inl y4_38), (5, .inl y5_38), (6, .inl y6_38), (7, .inl y7_38)], [.inl y7_38], zW T' (zwG G' 9) S n, 0, 0) (by decide +kernel) rfl ⟨trivial, trivial⟩ ?_
          exact z_iret M (by decide +kernel) .int rfl rfl (by decide) (by decide) (hQ _ K)
        · rw [if_neg c147_3] at K
          refine z_tableOut 188 M.1 (dflt := 41) (lo := 0) (hi := 3) (offs := #[29, 32, 35, 38]) (len := 29) (by decide +kernel) (by have h0_ := lv_neT c147_0 (k := 0) (a := 0) (by decide); have h1_ := lv_neT c147_1 (k := 1) (a := 1) (by decide); have h2_ := lv_neT c147_2 (k := 2) (a := 2) (by decide); have h3_ := lv_neT c147_3 (k := 3) (a := 3) (by decide); omega) (by decide) ?_
          refine z_go2 M.1 188 [(.iconst (-1), 1)] (189, [(0, z_r 36), (2, .inl (F_World_cell 9 S p1 9)), (4, .inl y4_38), (5, .inl y5_38), (6, .inl y6_38), (7, .inl y7_38)], [.inl (-1)], zW T' (zwG G' 9) S n, 0, 0) (by decide +kernel) rfl ⟨trivial, trivial⟩ ?_
          exact z_iret M (by decide +kernel) .int rfl rfl (by decide) (by decide) (hQ _ K)
theorem c_Sight_computed_28 (T' : Nat → Nat × Nat) (G' : Nat → Nat → Option Nat) (S : (Nat → Nat → Int32)) (n : Nat) (p1 : Int32) (hs : Sf_Sight_computed 28 S p1) : z_Run rm_Sight_computed zm_Sight_computed [z_r 36, .inl p1] (zW T' (zwG G' 28) S n) (zq (some (.inl (F_Sight_computed 28 S p1))) (zW T' (zwG G' 28) S n)) := by
  refine z_body (by decide) zf_Sight_ok (Nat.le_of_ble_eq_true rfl) (fun X M => ?_)
  obtain ⟨Q, hQ, K⟩ : ∃ Q : Int32 → Prop, (∀ v, Q v → zq (some (.inl (F_Sight_computed 28 S p1))) (zW T' (zwG G' 28) S n) (some (.inl v)) (zW T' (zwG G' 28) S n)) ∧ Q (F_Sight_computed 28 S p1) := ⟨fun o => F_Sight_computed 28 S p1 = o, fun v h => ⟨by rw [h], rfl⟩, rfl⟩
  show z_G X zm_Sight_computed (0, [(0, z_r 36), (1, .inl p1)], [], zW T' (zwG G' 28) S n, 0, 0)
  unfold F_Sight_computed at K
  unfold Sf_Sight_computed at hs
  try simp only [Nat.reduceAdd] at K hs
  refine z_go2 M.1 0 [(.aload_n 0, 1), (.getfield 40, 3), (.iload_n 1, 1), (.bipush 9, 2)] (7, [(0, z_r 36), (1, .inl p1)], [.inl 9, .inl p1, z_r 28], zW T' (zwG G' 28) S n, 0, 0) (by decide +kernel) rfl ⟨trivial, rfl, trivial, trivial, trivial⟩ ?_
  refine z_callV M.1 (av := [.inl p1, .inl 9]) (st := []) (a := 28) (ci := 10) (by decide +kernel) (c_World_cell_28 T' (zwG G' 28) S n p1 9 hs.1) M.2.1 zl_Sight_61 zv_World_cell rfl rfl rfl ⟨by decide, by decide, by decide, by decide⟩ rfl (Nat.le_of_ble_eq_true rfl) (fun v w' hv => ?_)
  obtain ⟨rfl, rfl⟩ := hv
  replace hs := hs.2
  show z_G X zm_Sight_computed (10, [(0, z_r 36), (1, .inl p1)], [.inl (F_World_cell 28 S p1 9)], zW T' (zwG G' 28) S n, 0, 0)
  refine z_go2 M.1 10 [(.istore_n 2, 1), (.aload_n 0, 1), (.getfield 33, 3), (.getfield 99, 3), (.iload_n 2, 1)] (19, [(2, .inl (F_World_cell 28 S p1 9)), (0, z_r 36), (1, .inl p1)], [.inl (F_World_cell 28 S p1 9), z_r 46], zW T' (zwG G' 28) S n, 0, 0) (by decide +kernel) rfl ⟨trivial, trivial, rfl, rfl, trivial, trivial⟩ ?_
  refine z_callS M.1 (av := [z_r 46, .inl (F_World_cell 28 S p1 9)]) (st := []) (by decide +kernel) (c_at (zW T' (zwG G' 28) S n) 46 3 rfl (by decide) (F_World_cell 28 S p1 9)) M.2.1 zl_Sight_72 zs_T_at ⟨by decide, by decide, by decide, by decide⟩ rfl (Nat.le_of_ble_eq_true rfl) (fun v w' hv => ?_)
  obtain ⟨rfl, rfl⟩ := hv
  show z_G X zm_Sight_computed (22, [(2, .inl (F_World_cell 28 S p1 9)), (0, z_r 36), (1, .inl p1)], [.inl (zAt (S 46) 3 (F_World_cell 28 S p1 9))], zW T' (zwG G' 28) S n, 0, 0)
  refine z_go2 M.1 22 [(.istore_n 3, 1), (.iconst 0, 1), (.istore 4, 2), (.iconst 0, 1), (.istore 5, 2), (.iconst (-1), 1), (.istore 6, 2), (.iconst (-1), 1), (.istore 7, 2), (.iconst 0, 1), (.istore 8, 2)] (38, [(8, .inl 0), (7, .inl (-1)), (6, .inl (-1)), (5, .inl 0), (4, .inl 0), (3, .inl (zAt (S 46) 3 (F_World_cell 28 S p1 9))), (2, .inl (F_World_cell 28 S p1 9)), (0, z_r 36), (1, .inl p1)], [], zW T' (zwG G' 28) S n, 0, 0) (by decide +kernel) rfl ⟨trivial, trivial, trivial, trivial, trivial, trivial, trivial, trivial, trivial, trivial, trivial, trivial⟩ ?_
  refine z_lvs (lv' := [(0, z_r 36), (1, .inl p1), (2, .inl (F_World_cell 28 S p1 9)), (3, .inl (zAt (S 46) 3 (F_World_cell 28 S p1 9))), (4, .inl 0), (5, .inl 0), (6, .inl (-1)), (7, .inl (-1)), (8, .inl 0)]) [7, 8, 6, 5, 4, 3, 2, 1, 0] rfl ?_
  refine t_Sight_computed_L38_28 M (Q := fun o => F_Sight_computed_L38 28 S p1 (F_World_cell 28 S p1 9) (zAt (S 46) 3 (F_World_cell 28 S p1 9)) 1300 0 0 (-1) (-1) 0 = o) S p1 (F_World_cell 28 S p1 9) (zAt (S 46) 3 (F_World_cell 28 S p1 9)) (fun y4_38 y5_38 y6_38 y7_38 hL38 => ?_) 1300 0 0 (-1) (-1) 0 rfl hs.1
  replace hs := hs.2
  rw [hL38] at K
  try dsimp only at K
  refine z_go2 M.1 136 [(.aload_n 0, 1), (.getfield 33, 3), (.getfield 107, 3), (.iload_n 2, 1)] (144, [(0, z_r 36), (2, .inl (F_World_cell 28 S p1 9)), (4, .inl y4_38), (5, .inl y5_38), (6, .inl y6_38), (7, .inl y7_38)], [.inl (F_World_cell 28 S p1 9), z_r 45], zW T' (zwG G' 28) S n, 0, 0) (by decide +kernel) rfl ⟨trivial, rfl, rfl, trivial, trivial⟩ ?_
  refine z_callS M.1 (av := [z_r 45, .inl (F_World_cell 28 S p1 9)]) (st := []) (by decide +kernel) (c_at (zW T' (zwG G' 28) S n) 45 3 rfl (by decide) (F_World_cell 28 S p1 9)) M.2.1 zl_Sight_72 zs_T_at ⟨by decide, by decide, by decide, by decide⟩ rfl (Nat.le_of_ble_eq_true rfl) (fun v w' hv => ?_)
  obtain ⟨rfl, rfl⟩ := hv
  show z_G X zm_Sight_computed (147, [(0, z_r 36), (2, .inl (F_World_cell 28 S p1 9)), (4, .inl y4_38), (5, .inl y5_38), (6, .inl y6_38), (7, .inl y7_38)], [.inl (zAt (S 45) 3 (F_World_cell 28 S p1 9))], zW T' (zwG G' 28) S n, 0, 0)
  by_cases c147_0 : (zAt (S 45) 3 (F_World_cell 28 S p1 9)) = 0
  · rw [if_pos c147_0] at K
    refine z_tabE 176 M.1 (dflt := 41) (lo := 0) (hi := 3) (offs := #[29, 32, 35, 38]) (len := 29) c147_0 (off := 29) (by decide +kernel) (by decide) (by decide) (by decide) (by decide) ?_
    refine z_go2 M.1 176 [(.iload 4, 2)] (178, [(0, z_r 36), (2, .inl (F_World_cell 28 S p1 9)), (4, .inl y4_38), (5, .inl y5_38), (6, .inl y6_38), (7, .inl y7_38)], [.inl y4_38], zW T' (zwG G' 28) S n, 0, 0) (by decide +kernel) rfl ⟨trivial, trivial⟩ ?_
    exact z_iret M (by decide +kernel) .int rfl rfl (by decide) (by decide) (hQ _ K)
  · rw [if_neg c147_0] at K
    by_cases c147_1 : (zAt (S 45) 3 (F_World_cell 28 S p1 9)) = 1
    · rw [if_pos c147_1] at K
      refine z_tabE 179 M.1 (dflt := 41) (lo := 0) (hi := 3) (offs := #[29, 32, 35, 38]) (len := 29) c147_1 (off := 32) (by decide +kernel) (by decide) (by decide) (by decide) (by decide) ?_
      refine z_go2 M.1 179 [(.iload 5, 2)] (181, [(0, z_r 36), (2, .inl (F_World_cell 28 S p1 9)), (4, .inl y4_38), (5, .inl y5_38), (6, .inl y6_38), (7, .inl y7_38)], [.inl y5_38], zW T' (zwG G' 28) S n, 0, 0) (by decide +kernel) rfl ⟨trivial, trivial⟩ ?_
      exact z_iret M (by decide +kernel) .int rfl rfl (by decide) (by decide) (hQ _ K)
    · rw [if_neg c147_1] at K
      by_cases c147_2 : (zAt (S 45) 3 (F_World_cell 28 S p1 9)) = 2
      · rw [if_pos c147_2] at K
        refine z_tabE 182 M.1 (dflt := 41) (lo := 0) (hi := 3) (offs := #[29, 32, 35, 38]) (len := 29) c147_2 (off := 35) (by decide +kernel) (by decide) (by decide) (by decide) (by decide) ?_
        refine z_go2 M.1 182 [(.iload 6, 2)] (184, [(0, z_r 36), (2, .inl (F_World_cell 28 S p1 9)), (4, .inl y4_38), (5, .inl y5_38), (6, .inl y6_38), (7, .inl y7_38)], [.inl y6_38], zW T' (zwG G' 28) S n, 0, 0) (by decide +kernel) rfl ⟨trivial, trivial⟩ ?_
        exact z_iret M (by decide +kernel) .int rfl rfl (by decide) (by decide) (hQ _ K)
      · rw [if_neg c147_2] at K
        by_cases c147_3 : (zAt (S 45) 3 (F_World_cell 28 S p1 9)) = 3
        · rw [if_pos c147_3] at K
          refine z_tabE 185 M.1 (dflt := 41) (lo := 0) (hi := 3) (offs := #[29, 32, 35, 38]) (len := 29) c147_3 (off := 38) (by decide +kernel) (by decide) (by decide) (by decide) (by decide) ?_
          refine z_go2 M.1 185 [(.iload 7, 2)] (187, [(0, z_r 36), (2, .inl (F_World_cell 28 S p1 9)), (4, .inl y4_38), (5, .inl y5_38), (6, .inl y6_38), (7, .inl y7_38)], [.inl y7_38], zW T' (zwG G' 28) S n, 0, 0) (by decide +kernel) rfl ⟨trivial, trivial⟩ ?_
          exact z_iret M (by decide +kernel) .int rfl rfl (by decide) (by decide) (hQ _ K)
        · rw [if_neg c147_3] at K
          refine z_tableOut 188 M.1 (dflt := 41) (lo := 0) (hi := 3) (offs := #[29, 32, 35, 38]) (len := 29) (by decide +kernel) (by have h0_ := lv_neT c147_0 (k := 0) (a := 0) (by decide); have h1_ := lv_neT c147_1 (k := 1) (a := 1) (by decide); have h2_ := lv_neT c147_2 (k := 2) (a := 2) (by decide); have h3_ := lv_neT c147_3 (k := 3) (a := 3) (by decide); omega) (by decide) ?_
          refine z_go2 M.1 188 [(.iconst (-1), 1)] (189, [(0, z_r 36), (2, .inl (F_World_cell 28 S p1 9)), (4, .inl y4_38), (5, .inl y5_38), (6, .inl y6_38), (7, .inl y7_38)], [.inl (-1)], zW T' (zwG G' 28) S n, 0, 0) (by decide +kernel) rfl ⟨trivial, trivial⟩ ?_
          exact z_iret M (by decide +kernel) .int rfl rfl (by decide) (by decide) (hQ _ K)

-- TrackHouse$Sight.lookAt
abbrev rm_Sight_lookAt : Room := zr 2
def F_Sight_lookAt_L114 (wd : Nat) (x1 : Int32) (x2 : Int32) : Nat → (Nat → Nat → Int32) → Int32 → ((Nat → Nat → Int32))
  | 0, S, x6 => S
  | f + 1, S, x6 => (if (3 : Int32) < x6 then S else (if (x2 &&& (zAt (S 40) 4 x6)) = 0 then ((F_Sight_lookAt_L114 wd x1 x2 f) S (x6 + 1)) else (z_let (zPut S 41 4 x6 ((zAt (S 41) 4 x6) ||| (F_T_bit S x1))) (fun S154 => (z_let (F_Sight_tell wd S154 x1 x6) (fun S161 => ((F_Sight_lookAt_L114 wd x1 x2 f) S161 (x6 + 1))))))))
def Sf_Sight_lookAt_L114 (wd : Nat) (x1 : Int32) (x2 : Int32) : Nat → (Nat → Nat → Int32) → Int32 → Prop
  | 0, _, _ => False
  | f + 1, S, x6 => (if (3 : Int32) < x6 then True else (if (x2 &&& (zAt (S 40) 4 x6)) = 0 then ((Sf_Sight_lookAt_L114 wd x1 x2 f) S (x6 + 1)) else (z_let (zPut S 41 4 x6 ((zAt (S 41) 4 x6) ||| (F_T_bit S x1))) (fun S154 => (Sf_Sight_tell wd S154 x1 x6 ∧ (z_let (F_Sight_tell wd S154 x1 x6) (fun S161 => ((Sf_Sight_lookAt_L114 wd x1 x2 f) S161 (x6 + 1)))))))))
theorem t_Sight_lookAt_L114_9 {X : z_X} {Post : Option z_V → z_W → Prop} (M : z_M X zm_Sight_lookAt rm_Sight_lookAt Post) {T' : Nat → Nat × Nat} {G' : Nat → Nat → Option Nat} {n : Nat} {Q : ((Nat → Nat → Int32)) → Prop}  (x1 : Int32) (x2 : Int32) (hE : ∀ (S' : (Nat → Nat → Int32)), Q S' → z_G X zm_Sight_lookAt (170, [], [], zW T' (zwG G' 9) S' n, 0, 0)) (f : Nat) : ∀ (S : (Nat → Nat → Int32)) (x6 : Int32), Q (F_Sight_lookAt_L114 9 x1 x2 f S x6) → Sf_Sight_lookAt_L114 9 x1 x2 f S x6 → z_G X zm_Sight_lookAt (114, [(0, z_r 36), (1, .inl x1), (2, .inl x2), (6, .inl x6)], [], zW T' (zwG G' 9) S n, 0, 0) := by
  induction f with
  | zero => intro S x6 K hs; exact False.elim hs
  | succ f hC =>
    intro S x6 K hs
    rw [F_Sight_lookAt_L114] at K
    rw [Sf_Sight_lookAt_L114] at hs
    try simp only [Nat.reduceAdd] at K hs
    refine z_go2 M.1 114 [(.iload 6, 2), (.iconst 3, 1)] (117, [(0, z_r 36), (1, .inl x1), (2, .inl x2), (6, .inl x6)], [.inl 3, .inl x6], zW T' (zwG G' 9) S n, 0, 0) (by decide +kernel) rfl ⟨trivial, trivial, trivial⟩ ?_
    refine z_icmp_gt 170 M.1 (off := 53) (by decide +kernel) (by decide) (fun c117 => ?_) (fun c117 => ?_)
    · rw [if_pos c117] at K hs
      exact z_lvs (lv' := []) [] rfl (hE S K)
    · rw [if_neg c117] at K hs
      refine z_go2 M.1 120 [(.iload_n 2, 1), (.aload_n 0, 1), (.getfield 21, 3), (.iload 6, 2)] (127, [(0, z_r 36), (1, .inl x1), (2, .inl x2), (6, .inl x6)], [.inl x6, z_r 40, .inl x2], zW T' (zwG G' 9) S n, 0, 0) (by decide +kernel) rfl ⟨trivial, trivial, rfl, trivial, trivial⟩ ?_
      refine z_callS M.1 (av := [z_r 40, .inl x6]) (st := [.inl x2]) (by decide +kernel) (c_at (zW T' (zwG G' 9) S n) 40 4 rfl (by decide) x6) M.2.1 zl_Sight_72 zs_T_at ⟨by decide, by decide, by decide, by decide⟩ rfl (Nat.le_of_ble_eq_true rfl) (fun v w' hv => ?_)
      obtain ⟨rfl, rfl⟩ := hv
      show z_G X zm_Sight_lookAt (130, [(0, z_r 36), (1, .inl x1), (2, .inl x2), (6, .inl x6)], [.inl (zAt (S 40) 4 x6), .inl x2], zW T' (zwG G' 9) S n, 0, 0)
      refine z_go2 M.1 130 [(.iand, 1)] (131, [(0, z_r 36), (1, .inl x1), (2, .inl x2), (6, .inl x6)], [.inl (x2 &&& (zAt (S 40) 4 x6))], zW T' (zwG G' 9) S n, 0, 0) (by decide +kernel) rfl ⟨trivial, trivial⟩ ?_
      refine z_if_eq 164 M.1 (off := 33) (by decide +kernel) (by decide) (fun c131 => ?_) (fun c131 => ?_)
      · rw [if_pos c131] at K hs
        refine z_go2 M.1 164 [(.iinc 6 1, 3), (.goto (-53), 3)] (114, [(6, .inl (x6 + 1)), (0, z_r 36), (1, .inl x1), (2, .inl x2)], [], zW T' (zwG G' 9) S n, 0, 0) (by decide +kernel) rfl ⟨trivial, trivial, trivial⟩ ?_
        exact z_lvs (lv' := [(0, z_r 36), (1, .inl x1), (2, .inl x2), (6, .inl (x6 + 1))]) [1, 2, 3, 0] rfl (hC S (x6 + 1) K hs)
      · rw [if_neg c131] at K hs
        refine z_go2 M.1 134 [(.aload_n 0, 1), (.getfield 24, 3), (.iload 6, 2), (.aload_n 0, 1), (.getfield 24, 3), (.iload 6, 2)] (146, [(0, z_r 36), (1, .inl x1), (2, .inl x2), (6, .inl x6)], [.inl x6, z_r 41, .inl x6, z_r 41], zW T' (zwG G' 9) S n, 0, 0) (by decide +kernel) rfl ⟨trivial, rfl, trivial, trivial, rfl, trivial, trivial⟩ ?_
        refine z_callS M.1 (av := [z_r 41, .inl x6]) (st := [.inl x6, z_r 41]) (by decide +kernel) (c_at (zW T' (zwG G' 9) S n) 41 4 rfl (by decide) x6) M.2.1 zl_Sight_72 zs_T_at ⟨by decide, by decide, by decide, by decide⟩ rfl (Nat.le_of_ble_eq_true rfl) (fun v w' hv => ?_)
        obtain ⟨rfl, rfl⟩ := hv
        show z_G X zm_Sight_lookAt (149, [(0, z_r 36), (1, .inl x1), (2, .inl x2), (6, .inl x6)], [.inl (zAt (S 41) 4 x6), .inl x6, z_r 41], zW T' (zwG G' 9) S n, 0, 0)
        refine z_go2 M.1 149 [(.iload_n 1, 1)] (150, [(0, z_r 36), (1, .inl x1), (2, .inl x2), (6, .inl x6)], [.inl x1, .inl (zAt (S 41) 4 x6), .inl x6, z_r 41], zW T' (zwG G' 9) S n, 0, 0) (by decide +kernel) rfl ⟨trivial, trivial⟩ ?_
        refine z_callS M.1 (av := [.inl x1]) (st := [.inl (zAt (S 41) 4 x6), .inl x6, z_r 41]) (by decide +kernel) (c_T_bit T' (zwG G' 9) S n x1) M.2.1 zl_Sight_76 zs_T_bit ⟨by decide, by decide, by decide, by decide⟩ rfl (Nat.le_of_ble_eq_true rfl) (fun v w' hv => ?_)
        obtain ⟨rfl, rfl⟩ := hv
        show z_G X zm_Sight_lookAt (153, [(0, z_r 36), (1, .inl x1), (2, .inl x2), (6, .inl x6)], [.inl (F_T_bit S x1), .inl (zAt (S 41) 4 x6), .inl x6, z_r 41], zW T' (zwG G' 9) S n, 0, 0)
        refine z_go2 M.1 153 [(.ior, 1)] (154, [(0, z_r 36), (1, .inl x1), (2, .inl x2), (6, .inl x6)], [.inl ((zAt (S 41) 4 x6) ||| (F_T_bit S x1)), .inl x6, z_r 41], zW T' (zwG G' 9) S n, 0, 0) (by decide +kernel) rfl ⟨trivial, trivial⟩ ?_
        refine z_callS M.1 (av := [z_r 41, .inl x6, .inl ((zAt (S 41) 4 x6) ||| (F_T_bit S x1))]) (st := []) (by decide +kernel) (c_put (zW T' (zwG G' 9) S n) 41 4 rfl (by decide) x6 ((zAt (S 41) 4 x6) ||| (F_T_bit S x1))) M.2.1 zl_Sight_80 zs_T_put ⟨by decide, by decide, by decide, by decide⟩ rfl (Nat.le_of_ble_eq_true rfl) (fun v w' hv => ?_)
        obtain ⟨S154, hF154⟩ : ∃ y, zPut S 41 4 x6 ((zAt (S 41) 4 x6) ||| (F_T_bit S x1)) = y := ⟨_, rfl⟩
        replace hv : v = none ∧ w' = zW T' (zwG G' 9) (zPut S 41 4 x6 ((zAt (S 41) 4 x6) ||| (F_T_bit S x1))) n := hv
        rw [hF154] at K hv hs
        try dsimp only [z_let] at K hs
        obtain ⟨rfl, rfl⟩ := hv
        show z_G X zm_Sight_lookAt (157, [(0, z_r 36), (1, .inl x1), (2, .inl x2), (6, .inl x6)], [], zW T' (zwG G' 9) S154 n, 0, 0)
        refine z_go2 M.1 157 [(.aload_n 0, 1), (.iload_n 1, 1), (.iload 6, 2)] (161, [(0, z_r 36), (1, .inl x1), (2, .inl x2), (6, .inl x6)], [.inl x6, .inl x1, z_r 36], zW T' (zwG G' 9) S154 n, 0, 0) (by decide +kernel) rfl ⟨trivial, trivial, trivial, trivial⟩ ?_
        refine z_callV M.1 (av := [.inl x1, .inl x6]) (st := []) (a := 36) (ci := 8) (by decide +kernel) (c_Sight_tell_9 T' G' S154 n x1 x6 hs.1) M.2.1 zl_Sight_84 zv_Sight_tell rfl rfl rfl ⟨by decide, by decide, by decide, by decide⟩ rfl (Nat.le_of_ble_eq_true rfl) (fun v w' hv => ?_)
        replace hs := hs.2
        obtain ⟨S161, hF161⟩ : ∃ y, F_Sight_tell 9 S154 x1 x6 = y := ⟨_, rfl⟩
        rw [hF161] at K hv hs
        try dsimp only [z_let] at K hs
        obtain ⟨rfl, rfl⟩ := hv
        show z_G X zm_Sight_lookAt (164, [(0, z_r 36), (1, .inl x1), (2, .inl x2), (6, .inl x6)], [], zW T' (zwG G' 9) S161 n, 0, 0)
        refine z_go2 M.1 164 [(.iinc 6 1, 3), (.goto (-53), 3)] (114, [(6, .inl (x6 + 1)), (0, z_r 36), (1, .inl x1), (2, .inl x2)], [], zW T' (zwG G' 9) S161 n, 0, 0) (by decide +kernel) rfl ⟨trivial, trivial, trivial⟩ ?_
        exact z_lvs (lv' := [(0, z_r 36), (1, .inl x1), (2, .inl x2), (6, .inl (x6 + 1))]) [1, 2, 3, 0] rfl (hC S161 (x6 + 1) K hs)
theorem t_Sight_lookAt_L114_28 {X : z_X} {Post : Option z_V → z_W → Prop} (M : z_M X zm_Sight_lookAt rm_Sight_lookAt Post) {T' : Nat → Nat × Nat} {G' : Nat → Nat → Option Nat} {n : Nat} {Q : ((Nat → Nat → Int32)) → Prop}  (x1 : Int32) (x2 : Int32) (hE : ∀ (S' : (Nat → Nat → Int32)), Q S' → z_G X zm_Sight_lookAt (170, [], [], zW T' (zwG G' 28) S' n, 0, 0)) (f : Nat) : ∀ (S : (Nat → Nat → Int32)) (x6 : Int32), Q (F_Sight_lookAt_L114 28 x1 x2 f S x6) → Sf_Sight_lookAt_L114 28 x1 x2 f S x6 → z_G X zm_Sight_lookAt (114, [(0, z_r 36), (1, .inl x1), (2, .inl x2), (6, .inl x6)], [], zW T' (zwG G' 28) S n, 0, 0) := by
  induction f with
  | zero => intro S x6 K hs; exact False.elim hs
  | succ f hC =>
    intro S x6 K hs
    rw [F_Sight_lookAt_L114] at K
    rw [Sf_Sight_lookAt_L114] at hs
    try simp only [Nat.reduceAdd] at K hs
    refine z_go2 M.1 114 [(.iload 6, 2), (.iconst 3, 1)] (117, [(0, z_r 36), (1, .inl x1), (2, .inl x2), (6, .inl x6)], [.inl 3, .inl x6], zW T' (zwG G' 28) S n, 0, 0) (by decide +kernel) rfl ⟨trivial, trivial, trivial⟩ ?_
    refine z_icmp_gt 170 M.1 (off := 53) (by decide +kernel) (by decide) (fun c117 => ?_) (fun c117 => ?_)
    · rw [if_pos c117] at K hs
      exact z_lvs (lv' := []) [] rfl (hE S K)
    · rw [if_neg c117] at K hs
      refine z_go2 M.1 120 [(.iload_n 2, 1), (.aload_n 0, 1), (.getfield 21, 3), (.iload 6, 2)] (127, [(0, z_r 36), (1, .inl x1), (2, .inl x2), (6, .inl x6)], [.inl x6, z_r 40, .inl x2], zW T' (zwG G' 28) S n, 0, 0) (by decide +kernel) rfl ⟨trivial, trivial, rfl, trivial, trivial⟩ ?_
      refine z_callS M.1 (av := [z_r 40, .inl x6]) (st := [.inl x2]) (by decide +kernel) (c_at (zW T' (zwG G' 28) S n) 40 4 rfl (by decide) x6) M.2.1 zl_Sight_72 zs_T_at ⟨by decide, by decide, by decide, by decide⟩ rfl (Nat.le_of_ble_eq_true rfl) (fun v w' hv => ?_)
      obtain ⟨rfl, rfl⟩ := hv
      show z_G X zm_Sight_lookAt (130, [(0, z_r 36), (1, .inl x1), (2, .inl x2), (6, .inl x6)], [.inl (zAt (S 40) 4 x6), .inl x2], zW T' (zwG G' 28) S n, 0, 0)
      refine z_go2 M.1 130 [(.iand, 1)] (131, [(0, z_r 36), (1, .inl x1), (2, .inl x2), (6, .inl x6)], [.inl (x2 &&& (zAt (S 40) 4 x6))], zW T' (zwG G' 28) S n, 0, 0) (by decide +kernel) rfl ⟨trivial, trivial⟩ ?_
      refine z_if_eq 164 M.1 (off := 33) (by decide +kernel) (by decide) (fun c131 => ?_) (fun c131 => ?_)
      · rw [if_pos c131] at K hs
        refine z_go2 M.1 164 [(.iinc 6 1, 3), (.goto (-53), 3)] (114, [(6, .inl (x6 + 1)), (0, z_r 36), (1, .inl x1), (2, .inl x2)], [], zW T' (zwG G' 28) S n, 0, 0) (by decide +kernel) rfl ⟨trivial, trivial, trivial⟩ ?_
        exact z_lvs (lv' := [(0, z_r 36), (1, .inl x1), (2, .inl x2), (6, .inl (x6 + 1))]) [1, 2, 3, 0] rfl (hC S (x6 + 1) K hs)
      · rw [if_neg c131] at K hs
        refine z_go2 M.1 134 [(.aload_n 0, 1), (.getfield 24, 3), (.iload 6, 2), (.aload_n 0, 1), (.getfield 24, 3), (.iload 6, 2)] (146, [(0, z_r 36), (1, .inl x1), (2, .inl x2), (6, .inl x6)], [.inl x6, z_r 41, .inl x6, z_r 41], zW T' (zwG G' 28) S n, 0, 0) (by decide +kernel) rfl ⟨trivial, rfl, trivial, trivial, rfl, trivial, trivial⟩ ?_
        refine z_callS M.1 (av := [z_r 41, .inl x6]) (st := [.inl x6, z_r 41]) (by decide +kernel) (c_at (zW T' (zwG G' 28) S n) 41 4 rfl (by decide) x6) M.2.1 zl_Sight_72 zs_T_at ⟨by decide, by decide, by decide, by decide⟩ rfl (Nat.le_of_ble_eq_true rfl) (fun v w' hv => ?_)
        obtain ⟨rfl, rfl⟩ := hv
        show z_G X zm_Sight_lookAt (149, [(0, z_r 36), (1, .inl x1), (2, .inl x2), (6, .inl x6)], [.inl (zAt (S 41) 4 x6), .inl x6, z_r 41], zW T' (zwG G' 28) S n, 0, 0)
        refine z_go2 M.1 149 [(.iload_n 1, 1)] (150, [(0, z_r 36), (1, .inl x1), (2, .inl x2), (6, .inl x6)], [.inl x1, .inl (zAt (S 41) 4 x6), .inl x6, z_r 41], zW T' (zwG G' 28) S n, 0, 0) (by decide +kernel) rfl ⟨trivial, trivial⟩ ?_
        refine z_callS M.1 (av := [.inl x1]) (st := [.inl (zAt (S 41) 4 x6), .inl x6, z_r 41]) (by decide +kernel) (c_T_bit T' (zwG G' 28) S n x1) M.2.1 zl_Sight_76 zs_T_bit ⟨by decide, by decide, by decide, by decide⟩ rfl (Nat.le_of_ble_eq_true rfl) (fun v w' hv => ?_)
        obtain ⟨rfl, rfl⟩ := hv
        show z_G X zm_Sight_lookAt (153, [(0, z_r 36), (1, .inl x1), (2, .inl x2), (6, .inl x6)], [.inl (F_T_bit S x1), .inl (zAt (S 41) 4 x6), .inl x6, z_r 41], zW T' (zwG G' 28) S n, 0, 0)
        refine z_go2 M.1 153 [(.ior, 1)] (154, [(0, z_r 36), (1, .inl x1), (2, .inl x2), (6, .inl x6)], [.inl ((zAt (S 41) 4 x6) ||| (F_T_bit S x1)), .inl x6, z_r 41], zW T' (zwG G' 28) S n, 0, 0) (by decide +kernel) rfl ⟨trivial, trivial⟩ ?_
        refine z_callS M.1 (av := [z_r 41, .inl x6, .inl ((zAt (S 41) 4 x6) ||| (F_T_bit S x1))]) (st := []) (by decide +kernel) (c_put (zW T' (zwG G' 28) S n) 41 4 rfl (by decide) x6 ((zAt (S 41) 4 x6) ||| (F_T_bit S x1))) M.2.1 zl_Sight_80 zs_T_put ⟨by decide, by decide, by decide, by decide⟩ rfl (Nat.le_of_ble_eq_true rfl) (fun v w' hv => ?_)
        obtain ⟨S154, hF154⟩ : ∃ y, zPut S 41 4 x6 ((zAt (S 41) 4 x6) ||| (F_T_bit S x1)) = y := ⟨_, rfl⟩
        replace hv : v = none ∧ w' = zW T' (zwG G' 28) (zPut S 41 4 x6 ((zAt (S 41) 4 x6) ||| (F_T_bit S x1))) n := hv
        rw [hF154] at K hv hs
        try dsimp only [z_let] at K hs
        obtain ⟨rfl, rfl⟩ := hv
        show z_G X zm_Sight_lookAt (157, [(0, z_r 36), (1, .inl x1), (2, .inl x2), (6, .inl x6)], [], zW T' (zwG G' 28) S154 n, 0, 0)
        refine z_go2 M.1 157 [(.aload_n 0, 1), (.iload_n 1, 1), (.iload 6, 2)] (161, [(0, z_r 36), (1, .inl x1), (2, .inl x2), (6, .inl x6)], [.inl x6, .inl x1, z_r 36], zW T' (zwG G' 28) S154 n, 0, 0) (by decide +kernel) rfl ⟨trivial, trivial, trivial, trivial⟩ ?_
        refine z_callV M.1 (av := [.inl x1, .inl x6]) (st := []) (a := 36) (ci := 8) (by decide +kernel) (c_Sight_tell_28 T' G' S154 n x1 x6 hs.1) M.2.1 zl_Sight_84 zv_Sight_tell rfl rfl rfl ⟨by decide, by decide, by decide, by decide⟩ rfl (Nat.le_of_ble_eq_true rfl) (fun v w' hv => ?_)
        replace hs := hs.2
        obtain ⟨S161, hF161⟩ : ∃ y, F_Sight_tell 28 S154 x1 x6 = y := ⟨_, rfl⟩
        rw [hF161] at K hv hs
        try dsimp only [z_let] at K hs
        obtain ⟨rfl, rfl⟩ := hv
        show z_G X zm_Sight_lookAt (164, [(0, z_r 36), (1, .inl x1), (2, .inl x2), (6, .inl x6)], [], zW T' (zwG G' 28) S161 n, 0, 0)
        refine z_go2 M.1 164 [(.iinc 6 1, 3), (.goto (-53), 3)] (114, [(6, .inl (x6 + 1)), (0, z_r 36), (1, .inl x1), (2, .inl x2)], [], zW T' (zwG G' 28) S161 n, 0, 0) (by decide +kernel) rfl ⟨trivial, trivial, trivial⟩ ?_
        exact z_lvs (lv' := [(0, z_r 36), (1, .inl x1), (2, .inl x2), (6, .inl (x6 + 1))]) [1, 2, 3, 0] rfl (hC S161 (x6 + 1) K hs)
def F_Sight_lookAt_j107 (wd : Nat) (S : (Nat → Nat → Int32)) (x1 : Int32) (x2 : Int32) (s0 : Int32) (s1 : Int32) : (Nat → Nat → Int32) := (match F_Sight_lookAt_L114 wd x1 x2 1300 (z_uS S 36 9 (s1 ||| s0)) 0 with | S114 => S114)
def Sf_Sight_lookAt_j107 (wd : Nat) (S : (Nat → Nat → Int32)) (x1 : Int32) (x2 : Int32) (s0 : Int32) (s1 : Int32) : Prop := (Sf_Sight_lookAt_L114 wd x1 x2 1300 (z_uS S 36 9 (s1 ||| s0)) 0 ∧ True)
theorem t_Sight_lookAt_j107_9 {X : z_X} {Post : Option z_V → z_W → Prop} (M : z_M X zm_Sight_lookAt rm_Sight_lookAt Post) {T' : Nat → Nat × Nat} {G' : Nat → Nat → Option Nat} {n : Nat} {Q : (Nat → Nat → Int32) → Prop} (S : (Nat → Nat → Int32)) (x1 : Int32) (x2 : Int32) (s0 : Int32) (s1 : Int32) (hQ : ∀ S', Q S' → Post none (zW T' (zwG G' 9) S' n)) (K : Q (F_Sight_lookAt_j107 9 S x1 x2 s0 s1)) (hs : Sf_Sight_lookAt_j107 9 S x1 x2 s0 s1) : z_G X zm_Sight_lookAt (107, [(0, z_r 36), (1, .inl x1), (2, .inl x2)], [.inl s0, .inl s1, z_r 36], zW T' (zwG G' 9) S n, 0, 0) := by
  unfold F_Sight_lookAt_j107 at K
  unfold Sf_Sight_lookAt_j107 at hs
  try simp only [Nat.reduceAdd] at K hs
  refine z_go2 M.1 107 [(.ior, 1), (.putfield 48, 3), (.iconst 0, 1), (.istore 6, 2)] (114, [(6, .inl 0), (0, z_r 36), (1, .inl x1), (2, .inl x2)], [], zW T' (zwG G' 9) (z_uS S 36 9 (s1 ||| s0)) n, 0, 0) (by decide +kernel) rfl ⟨trivial, ⟨rfl, trivial⟩, trivial, trivial, trivial⟩ ?_
  refine z_lvs (lv' := [(0, z_r 36), (1, .inl x1), (2, .inl x2), (6, .inl 0)]) [1, 2, 3, 0] rfl ?_
  refine t_Sight_lookAt_L114_9 M (Q := fun o => F_Sight_lookAt_L114 9 x1 x2 1300 (z_uS S 36 9 (s1 ||| s0)) 0 = o) x1 x2 (fun S114 hL114 => ?_) 1300 (z_uS S 36 9 (s1 ||| s0)) 0 rfl hs.1
  replace hs := hs.2
  rw [hL114] at K
  try dsimp only at K
  exact z_vret M (by decide +kernel) rfl (by decide) (by decide) (hQ _ K)
theorem t_Sight_lookAt_j107_28 {X : z_X} {Post : Option z_V → z_W → Prop} (M : z_M X zm_Sight_lookAt rm_Sight_lookAt Post) {T' : Nat → Nat × Nat} {G' : Nat → Nat → Option Nat} {n : Nat} {Q : (Nat → Nat → Int32) → Prop} (S : (Nat → Nat → Int32)) (x1 : Int32) (x2 : Int32) (s0 : Int32) (s1 : Int32) (hQ : ∀ S', Q S' → Post none (zW T' (zwG G' 28) S' n)) (K : Q (F_Sight_lookAt_j107 28 S x1 x2 s0 s1)) (hs : Sf_Sight_lookAt_j107 28 S x1 x2 s0 s1) : z_G X zm_Sight_lookAt (107, [(0, z_r 36), (1, .inl x1), (2, .inl x2)], [.inl s0, .inl s1, z_r 36], zW T' (zwG G' 28) S n, 0, 0) := by
  unfold F_Sight_lookAt_j107 at K
  unfold Sf_Sight_lookAt_j107 at hs
  try simp only [Nat.reduceAdd] at K hs
  refine z_go2 M.1 107 [(.ior, 1), (.putfield 48, 3), (.iconst 0, 1), (.istore 6, 2)] (114, [(6, .inl 0), (0, z_r 36), (1, .inl x1), (2, .inl x2)], [], zW T' (zwG G' 28) (z_uS S 36 9 (s1 ||| s0)) n, 0, 0) (by decide +kernel) rfl ⟨trivial, ⟨rfl, trivial⟩, trivial, trivial, trivial⟩ ?_
  refine z_lvs (lv' := [(0, z_r 36), (1, .inl x1), (2, .inl x2), (6, .inl 0)]) [1, 2, 3, 0] rfl ?_
  refine t_Sight_lookAt_L114_28 M (Q := fun o => F_Sight_lookAt_L114 28 x1 x2 1300 (z_uS S 36 9 (s1 ||| s0)) 0 = o) x1 x2 (fun S114 hL114 => ?_) 1300 (z_uS S 36 9 (s1 ||| s0)) 0 rfl hs.1
  replace hs := hs.2
  rw [hL114] at K
  try dsimp only at K
  exact z_vret M (by decide +kernel) rfl (by decide) (by decide) (hQ _ K)
def F_Sight_lookAt_j47 (wd : Nat) (S : (Nat → Nat → Int32)) (x1 : Int32) (x2 : Int32) (x3 : Int32) (s0 : Int32) : (Nat → Nat → Int32) := (if s0 = 0 then S else (if (x2 &&& (zAt (S 37) 3 x3)) = 0 then S else (if (x2 &&& (zAt (S 38) 3 x3)) = 0 then (F_Sight_lookAt_j107 wd (z_uS S 36 8 ((S 36 8) ||| (F_T_bit S x1))) x1 x2 0 (S 36 9)) else (F_Sight_lookAt_j107 wd (z_uS S 36 8 ((S 36 8) ||| (F_T_bit S x1))) x1 x2 (F_T_bit (z_uS S 36 8 ((S 36 8) ||| (F_T_bit S x1))) x1) (S 36 9)))))
def Sf_Sight_lookAt_j47 (wd : Nat) (S : (Nat → Nat → Int32)) (x1 : Int32) (x2 : Int32) (x3 : Int32) (s0 : Int32) : Prop := (if s0 = 0 then True else (if (x2 &&& (zAt (S 37) 3 x3)) = 0 then True else (if (x2 &&& (zAt (S 38) 3 x3)) = 0 then (Sf_Sight_lookAt_j107 wd (z_uS S 36 8 ((S 36 8) ||| (F_T_bit S x1))) x1 x2 0 (S 36 9)) else (Sf_Sight_lookAt_j107 wd (z_uS S 36 8 ((S 36 8) ||| (F_T_bit S x1))) x1 x2 (F_T_bit (z_uS S 36 8 ((S 36 8) ||| (F_T_bit S x1))) x1) (S 36 9)))))
theorem t_Sight_lookAt_j47_9 {X : z_X} {Post : Option z_V → z_W → Prop} (M : z_M X zm_Sight_lookAt rm_Sight_lookAt Post) {T' : Nat → Nat × Nat} {G' : Nat → Nat → Option Nat} {n : Nat} {Q : (Nat → Nat → Int32) → Prop} (S : (Nat → Nat → Int32)) (x1 : Int32) (x2 : Int32) (x3 : Int32) (s0 : Int32) (hQ : ∀ S', Q S' → Post none (zW T' (zwG G' 9) S' n)) (K : Q (F_Sight_lookAt_j47 9 S x1 x2 x3 s0)) (hs : Sf_Sight_lookAt_j47 9 S x1 x2 x3 s0) : z_G X zm_Sight_lookAt (47, [(0, z_r 36), (1, .inl x1), (2, .inl x2), (3, .inl x3)], [.inl s0], zW T' (zwG G' 9) S n, 0, 0) := by
  unfold F_Sight_lookAt_j47 at K
  unfold Sf_Sight_lookAt_j47 at hs
  try simp only [Nat.reduceAdd] at K hs
  refine z_go2 M.1 47 [(.istore 5, 2), (.iload 5, 2)] (51, [(5, .inl s0), (0, z_r 36), (1, .inl x1), (2, .inl x2), (3, .inl x3)], [.inl s0], zW T' (zwG G' 9) S n, 0, 0) (by decide +kernel) rfl ⟨trivial, trivial, trivial⟩ ?_
  refine z_if_eq 67 M.1 (off := 16) (by decide +kernel) (by decide) (fun c51 => ?_) (fun c51 => ?_)
  · rw [if_pos c51] at K hs
    exact z_vret M (by decide +kernel) rfl (by decide) (by decide) (hQ _ K)
  · rw [if_neg c51] at K hs
    refine z_go2 M.1 54 [(.iload_n 2, 1), (.aload_n 0, 1), (.getfield 9, 3), (.iload_n 3, 1)] (60, [(5, .inl s0), (0, z_r 36), (1, .inl x1), (2, .inl x2), (3, .inl x3)], [.inl x3, z_r 37, .inl x2], zW T' (zwG G' 9) S n, 0, 0) (by decide +kernel) rfl ⟨trivial, trivial, rfl, trivial, trivial⟩ ?_
    refine z_callS M.1 (av := [z_r 37, .inl x3]) (st := [.inl x2]) (by decide +kernel) (c_at (zW T' (zwG G' 9) S n) 37 3 rfl (by decide) x3) M.2.1 zl_Sight_72 zs_T_at ⟨by decide, by decide, by decide, by decide⟩ rfl (Nat.le_of_ble_eq_true rfl) (fun v w' hv => ?_)
    obtain ⟨rfl, rfl⟩ := hv
    show z_G X zm_Sight_lookAt (63, [(5, .inl s0), (0, z_r 36), (1, .inl x1), (2, .inl x2), (3, .inl x3)], [.inl (zAt (S 37) 3 x3), .inl x2], zW T' (zwG G' 9) S n, 0, 0)
    refine z_go2 M.1 63 [(.iand, 1)] (64, [(5, .inl s0), (0, z_r 36), (1, .inl x1), (2, .inl x2), (3, .inl x3)], [.inl (x2 &&& (zAt (S 37) 3 x3))], zW T' (zwG G' 9) S n, 0, 0) (by decide +kernel) rfl ⟨trivial, trivial⟩ ?_
    refine z_if_ne 68 M.1 (off := 4) (by decide +kernel) (by decide) (fun c64 => ?_) (fun c64 => ?_)
    · rw [if_neg c64] at K hs
      refine z_go2 M.1 68 [(.aload_n 0, 1), (.dup, 1), (.getfield 44, 3), (.iload_n 1, 1)] (74, [(5, .inl s0), (0, z_r 36), (1, .inl x1), (2, .inl x2), (3, .inl x3)], [.inl x1, .inl (S 36 8), z_r 36], zW T' (zwG G' 9) S n, 0, 0) (by decide +kernel) rfl ⟨trivial, rfl, rfl, trivial, trivial⟩ ?_
      refine z_callS M.1 (av := [.inl x1]) (st := [.inl (S 36 8), z_r 36]) (by decide +kernel) (c_T_bit T' (zwG G' 9) S n x1) M.2.1 zl_Sight_76 zs_T_bit ⟨by decide, by decide, by decide, by decide⟩ rfl (Nat.le_of_ble_eq_true rfl) (fun v w' hv => ?_)
      obtain ⟨rfl, rfl⟩ := hv
      show z_G X zm_Sight_lookAt (77, [(5, .inl s0), (0, z_r 36), (1, .inl x1), (2, .inl x2), (3, .inl x3)], [.inl (F_T_bit S x1), .inl (S 36 8), z_r 36], zW T' (zwG G' 9) S n, 0, 0)
      refine z_go2 M.1 77 [(.ior, 1), (.putfield 44, 3), (.aload_n 0, 1), (.dup, 1), (.getfield 48, 3), (.iload_n 2, 1), (.aload_n 0, 1), (.getfield 15, 3), (.iload_n 3, 1)] (92, [(5, .inl s0), (0, z_r 36), (1, .inl x1), (2, .inl x2), (3, .inl x3)], [.inl x3, z_r 38, .inl x2, .inl (S 36 9), z_r 36], zW T' (zwG G' 9) (z_uS S 36 8 ((S 36 8) ||| (F_T_bit S x1))) n, 0, 0) (by decide +kernel) rfl ⟨trivial, ⟨rfl, trivial⟩, trivial, rfl, rfl, trivial, trivial, rfl, trivial, trivial⟩ ?_
      refine z_callS M.1 (av := [z_r 38, .inl x3]) (st := [.inl x2, .inl (S 36 9), z_r 36]) (by decide +kernel) (c_at (zW T' (zwG G' 9) (z_uS S 36 8 ((S 36 8) ||| (F_T_bit S x1))) n) 38 3 rfl (by decide) x3) M.2.1 zl_Sight_72 zs_T_at ⟨by decide, by decide, by decide, by decide⟩ rfl (Nat.le_of_ble_eq_true rfl) (fun v w' hv => ?_)
      obtain ⟨rfl, rfl⟩ := hv
      show z_G X zm_Sight_lookAt (95, [(5, .inl s0), (0, z_r 36), (1, .inl x1), (2, .inl x2), (3, .inl x3)], [.inl (zAt (S 38) 3 x3), .inl x2, .inl (S 36 9), z_r 36], zW T' (zwG G' 9) (z_uS S 36 8 ((S 36 8) ||| (F_T_bit S x1))) n, 0, 0)
      refine z_go2 M.1 95 [(.iand, 1)] (96, [(5, .inl s0), (0, z_r 36), (1, .inl x1), (2, .inl x2), (3, .inl x3)], [.inl (x2 &&& (zAt (S 38) 3 x3)), .inl (S 36 9), z_r 36], zW T' (zwG G' 9) (z_uS S 36 8 ((S 36 8) ||| (F_T_bit S x1))) n, 0, 0) (by decide +kernel) rfl ⟨trivial, trivial⟩ ?_
      refine z_if_eq 106 M.1 (off := 10) (by decide +kernel) (by decide) (fun c96 => ?_) (fun c96 => ?_)
      · rw [if_pos c96] at K hs
        refine z_go2 M.1 106 [(.iconst 0, 1)] (107, [(5, .inl s0), (0, z_r 36), (1, .inl x1), (2, .inl x2), (3, .inl x3)], [.inl 0, .inl (S 36 9), z_r 36], zW T' (zwG G' 9) (z_uS S 36 8 ((S 36 8) ||| (F_T_bit S x1))) n, 0, 0) (by decide +kernel) rfl ⟨trivial, trivial⟩ ?_
        exact z_lvs (lv' := [(0, z_r 36), (1, .inl x1), (2, .inl x2)]) [1, 2, 3] rfl (t_Sight_lookAt_j107_9 M (z_uS S 36 8 ((S 36 8) ||| (F_T_bit S x1))) x1 x2 0 (S 36 9) hQ K hs)
      · rw [if_neg c96] at K hs
        refine z_go2 M.1 99 [(.iload_n 1, 1)] (100, [(5, .inl s0), (0, z_r 36), (1, .inl x1), (2, .inl x2), (3, .inl x3)], [.inl x1, .inl (S 36 9), z_r 36], zW T' (zwG G' 9) (z_uS S 36 8 ((S 36 8) ||| (F_T_bit S x1))) n, 0, 0) (by decide +kernel) rfl ⟨trivial, trivial⟩ ?_
        refine z_callS M.1 (av := [.inl x1]) (st := [.inl (S 36 9), z_r 36]) (by decide +kernel) (c_T_bit T' (zwG G' 9) (z_uS S 36 8 ((S 36 8) ||| (F_T_bit S x1))) n x1) M.2.1 zl_Sight_76 zs_T_bit ⟨by decide, by decide, by decide, by decide⟩ rfl (Nat.le_of_ble_eq_true rfl) (fun v w' hv => ?_)
        obtain ⟨rfl, rfl⟩ := hv
        show z_G X zm_Sight_lookAt (103, [(5, .inl s0), (0, z_r 36), (1, .inl x1), (2, .inl x2), (3, .inl x3)], [.inl (F_T_bit (z_uS S 36 8 ((S 36 8) ||| (F_T_bit S x1))) x1), .inl (S 36 9), z_r 36], zW T' (zwG G' 9) (z_uS S 36 8 ((S 36 8) ||| (F_T_bit S x1))) n, 0, 0)
        refine z_go2 M.1 103 [(.goto 4, 3)] (107, [(5, .inl s0), (0, z_r 36), (1, .inl x1), (2, .inl x2), (3, .inl x3)], [.inl (F_T_bit (z_uS S 36 8 ((S 36 8) ||| (F_T_bit S x1))) x1), .inl (S 36 9), z_r 36], zW T' (zwG G' 9) (z_uS S 36 8 ((S 36 8) ||| (F_T_bit S x1))) n, 0, 0) (by decide +kernel) rfl ⟨trivial, trivial⟩ ?_
        exact z_lvs (lv' := [(0, z_r 36), (1, .inl x1), (2, .inl x2)]) [1, 2, 3] rfl (t_Sight_lookAt_j107_9 M (z_uS S 36 8 ((S 36 8) ||| (F_T_bit S x1))) x1 x2 (F_T_bit (z_uS S 36 8 ((S 36 8) ||| (F_T_bit S x1))) x1) (S 36 9) hQ K hs)
    · rw [if_pos c64] at K hs
      exact z_vret M (by decide +kernel) rfl (by decide) (by decide) (hQ _ K)
theorem t_Sight_lookAt_j47_28 {X : z_X} {Post : Option z_V → z_W → Prop} (M : z_M X zm_Sight_lookAt rm_Sight_lookAt Post) {T' : Nat → Nat × Nat} {G' : Nat → Nat → Option Nat} {n : Nat} {Q : (Nat → Nat → Int32) → Prop} (S : (Nat → Nat → Int32)) (x1 : Int32) (x2 : Int32) (x3 : Int32) (s0 : Int32) (hQ : ∀ S', Q S' → Post none (zW T' (zwG G' 28) S' n)) (K : Q (F_Sight_lookAt_j47 28 S x1 x2 x3 s0)) (hs : Sf_Sight_lookAt_j47 28 S x1 x2 x3 s0) : z_G X zm_Sight_lookAt (47, [(0, z_r 36), (1, .inl x1), (2, .inl x2), (3, .inl x3)], [.inl s0], zW T' (zwG G' 28) S n, 0, 0) := by
  unfold F_Sight_lookAt_j47 at K
  unfold Sf_Sight_lookAt_j47 at hs
  try simp only [Nat.reduceAdd] at K hs
  refine z_go2 M.1 47 [(.istore 5, 2), (.iload 5, 2)] (51, [(5, .inl s0), (0, z_r 36), (1, .inl x1), (2, .inl x2), (3, .inl x3)], [.inl s0], zW T' (zwG G' 28) S n, 0, 0) (by decide +kernel) rfl ⟨trivial, trivial, trivial⟩ ?_
  refine z_if_eq 67 M.1 (off := 16) (by decide +kernel) (by decide) (fun c51 => ?_) (fun c51 => ?_)
  · rw [if_pos c51] at K hs
    exact z_vret M (by decide +kernel) rfl (by decide) (by decide) (hQ _ K)
  · rw [if_neg c51] at K hs
    refine z_go2 M.1 54 [(.iload_n 2, 1), (.aload_n 0, 1), (.getfield 9, 3), (.iload_n 3, 1)] (60, [(5, .inl s0), (0, z_r 36), (1, .inl x1), (2, .inl x2), (3, .inl x3)], [.inl x3, z_r 37, .inl x2], zW T' (zwG G' 28) S n, 0, 0) (by decide +kernel) rfl ⟨trivial, trivial, rfl, trivial, trivial⟩ ?_
    refine z_callS M.1 (av := [z_r 37, .inl x3]) (st := [.inl x2]) (by decide +kernel) (c_at (zW T' (zwG G' 28) S n) 37 3 rfl (by decide) x3) M.2.1 zl_Sight_72 zs_T_at ⟨by decide, by decide, by decide, by decide⟩ rfl (Nat.le_of_ble_eq_true rfl) (fun v w' hv => ?_)
    obtain ⟨rfl, rfl⟩ := hv
    show z_G X zm_Sight_lookAt (63, [(5, .inl s0), (0, z_r 36), (1, .inl x1), (2, .inl x2), (3, .inl x3)], [.inl (zAt (S 37) 3 x3), .inl x2], zW T' (zwG G' 28) S n, 0, 0)
    refine z_go2 M.1 63 [(.iand, 1)] (64, [(5, .inl s0), (0, z_r 36), (1, .inl x1), (2, .inl x2), (3, .inl x3)], [.inl (x2 &&& (zAt (S 37) 3 x3))], zW T' (zwG G' 28) S n, 0, 0) (by decide +kernel) rfl ⟨trivial, trivial⟩ ?_
    refine z_if_ne 68 M.1 (off := 4) (by decide +kernel) (by decide) (fun c64 => ?_) (fun c64 => ?_)
    · rw [if_neg c64] at K hs
      refine z_go2 M.1 68 [(.aload_n 0, 1), (.dup, 1), (.getfield 44, 3), (.iload_n 1, 1)] (74, [(5, .inl s0), (0, z_r 36), (1, .inl x1), (2, .inl x2), (3, .inl x3)], [.inl x1, .inl (S 36 8), z_r 36], zW T' (zwG G' 28) S n, 0, 0) (by decide +kernel) rfl ⟨trivial, rfl, rfl, trivial, trivial⟩ ?_
      refine z_callS M.1 (av := [.inl x1]) (st := [.inl (S 36 8), z_r 36]) (by decide +kernel) (c_T_bit T' (zwG G' 28) S n x1) M.2.1 zl_Sight_76 zs_T_bit ⟨by decide, by decide, by decide, by decide⟩ rfl (Nat.le_of_ble_eq_true rfl) (fun v w' hv => ?_)
      obtain ⟨rfl, rfl⟩ := hv
      show z_G X zm_Sight_lookAt (77, [(5, .inl s0), (0, z_r 36), (1, .inl x1), (2, .inl x2), (3, .inl x3)], [.inl (F_T_bit S x1), .inl (S 36 8), z_r 36], zW T' (zwG G' 28) S n, 0, 0)
      refine z_go2 M.1 77 [(.ior, 1), (.putfield 44, 3), (.aload_n 0, 1), (.dup, 1), (.getfield 48, 3), (.iload_n 2, 1), (.aload_n 0, 1), (.getfield 15, 3), (.iload_n 3, 1)] (92, [(5, .inl s0), (0, z_r 36), (1, .inl x1), (2, .inl x2), (3, .inl x3)], [.inl x3, z_r 38, .inl x2, .inl (S 36 9), z_r 36], zW T' (zwG G' 28) (z_uS S 36 8 ((S 36 8) ||| (F_T_bit S x1))) n, 0, 0) (by decide +kernel) rfl ⟨trivial, ⟨rfl, trivial⟩, trivial, rfl, rfl, trivial, trivial, rfl, trivial, trivial⟩ ?_
      refine z_callS M.1 (av := [z_r 38, .inl x3]) (st := [.inl x2, .inl (S 36 9), z_r 36]) (by decide +kernel) (c_at (zW T' (zwG G' 28) (z_uS S 36 8 ((S 36 8) ||| (F_T_bit S x1))) n) 38 3 rfl (by decide) x3) M.2.1 zl_Sight_72 zs_T_at ⟨by decide, by decide, by decide, by decide⟩ rfl (Nat.le_of_ble_eq_true rfl) (fun v w' hv => ?_)
      obtain ⟨rfl, rfl⟩ := hv
      show z_G X zm_Sight_lookAt (95, [(5, .inl s0), (0, z_r 36), (1, .inl x1), (2, .inl x2), (3, .inl x3)], [.inl (zAt (S 38) 3 x3), .inl x2, .inl (S 36 9), z_r 36], zW T' (zwG G' 28) (z_uS S 36 8 ((S 36 8) ||| (F_T_bit S x1))) n, 0, 0)
      refine z_go2 M.1 95 [(.iand, 1)] (96, [(5, .inl s0), (0, z_r 36), (1, .inl x1), (2, .inl x2), (3, .inl x3)], [.inl (x2 &&& (zAt (S 38) 3 x3)), .inl (S 36 9), z_r 36], zW T' (zwG G' 28) (z_uS S 36 8 ((S 36 8) ||| (F_T_bit S x1))) n, 0, 0) (by decide +kernel) rfl ⟨trivial, trivial⟩ ?_
      refine z_if_eq 106 M.1 (off := 10) (by decide +kernel) (by decide) (fun c96 => ?_) (fun c96 => ?_)
      · rw [if_pos c96] at K hs
        refine z_go2 M.1 106 [(.iconst 0, 1)] (107, [(5, .inl s0), (0, z_r 36), (1, .inl x1), (2, .inl x2), (3, .inl x3)], [.inl 0, .inl (S 36 9), z_r 36], zW T' (zwG G' 28) (z_uS S 36 8 ((S 36 8) ||| (F_T_bit S x1))) n, 0, 0) (by decide +kernel) rfl ⟨trivial, trivial⟩ ?_
        exact z_lvs (lv' := [(0, z_r 36), (1, .inl x1), (2, .inl x2)]) [1, 2, 3] rfl (t_Sight_lookAt_j107_28 M (z_uS S 36 8 ((S 36 8) ||| (F_T_bit S x1))) x1 x2 0 (S 36 9) hQ K hs)
      · rw [if_neg c96] at K hs
        refine z_go2 M.1 99 [(.iload_n 1, 1)] (100, [(5, .inl s0), (0, z_r 36), (1, .inl x1), (2, .inl x2), (3, .inl x3)], [.inl x1, .inl (S 36 9), z_r 36], zW T' (zwG G' 28) (z_uS S 36 8 ((S 36 8) ||| (F_T_bit S x1))) n, 0, 0) (by decide +kernel) rfl ⟨trivial, trivial⟩ ?_
        refine z_callS M.1 (av := [.inl x1]) (st := [.inl (S 36 9), z_r 36]) (by decide +kernel) (c_T_bit T' (zwG G' 28) (z_uS S 36 8 ((S 36 8) ||| (F_T_bit S x1))) n x1) M.2.1 zl_Sight_76 zs_T_bit ⟨by decide, by decide, by decide, by decide⟩ rfl (Nat.le_of_ble_eq_true rfl) (fun v w' hv => ?_)
        obtain ⟨rfl, rfl⟩ := hv
        show z_G X zm_Sight_lookAt (103, [(5, .inl s0), (0, z_r 36), (1, .inl x1), (2, .inl x2), (3, .inl x3)], [.inl (F_T_bit (z_uS S 36 8 ((S 36 8) ||| (F_T_bit S x1))) x1), .inl (S 36 9), z_r 36], zW T' (zwG G' 28) (z_uS S 36 8 ((S 36 8) ||| (F_T_bit S x1))) n, 0, 0)
        refine z_go2 M.1 103 [(.goto 4, 3)] (107, [(5, .inl s0), (0, z_r 36), (1, .inl x1), (2, .inl x2), (3, .inl x3)], [.inl (F_T_bit (z_uS S 36 8 ((S 36 8) ||| (F_T_bit S x1))) x1), .inl (S 36 9), z_r 36], zW T' (zwG G' 28) (z_uS S 36 8 ((S 36 8) ||| (F_T_bit S x1))) n, 0, 0) (by decide +kernel) rfl ⟨trivial, trivial⟩ ?_
        exact z_lvs (lv' := [(0, z_r 36), (1, .inl x1), (2, .inl x2)]) [1, 2, 3] rfl (t_Sight_lookAt_j107_28 M (z_uS S 36 8 ((S 36 8) ||| (F_T_bit S x1))) x1 x2 (F_T_bit (z_uS S 36 8 ((S 36 8) ||| (F_T_bit S x1))) x1) (S 36 9) hQ K hs)
    · rw [if_pos c64] at K hs
      exact z_vret M (by decide +kernel) rfl (by decide) (by decide) (hQ _ K)
def F_Sight_lookAt_j42 (wd : Nat) (S : (Nat → Nat → Int32)) (x1 : Int32) (x2 : Int32) (x3 : Int32) : (Nat → Nat → Int32) := (F_Sight_lookAt_j47 wd S x1 x2 x3 1)
def Sf_Sight_lookAt_j42 (wd : Nat) (S : (Nat → Nat → Int32)) (x1 : Int32) (x2 : Int32) (x3 : Int32) : Prop := (Sf_Sight_lookAt_j47 wd S x1 x2 x3 1)
theorem t_Sight_lookAt_j42_9 {X : z_X} {Post : Option z_V → z_W → Prop} (M : z_M X zm_Sight_lookAt rm_Sight_lookAt Post) {T' : Nat → Nat × Nat} {G' : Nat → Nat → Option Nat} {n : Nat} {Q : (Nat → Nat → Int32) → Prop} (S : (Nat → Nat → Int32)) (x1 : Int32) (x2 : Int32) (x3 : Int32) (hQ : ∀ S', Q S' → Post none (zW T' (zwG G' 9) S' n)) (K : Q (F_Sight_lookAt_j42 9 S x1 x2 x3)) (hs : Sf_Sight_lookAt_j42 9 S x1 x2 x3) : z_G X zm_Sight_lookAt (42, [(0, z_r 36), (1, .inl x1), (2, .inl x2), (3, .inl x3)], [], zW T' (zwG G' 9) S n, 0, 0) := by
  unfold F_Sight_lookAt_j42 at K
  unfold Sf_Sight_lookAt_j42 at hs
  try simp only [Nat.reduceAdd] at K hs
  refine z_go2 M.1 42 [(.iconst 1, 1), (.goto 4, 3)] (47, [(0, z_r 36), (1, .inl x1), (2, .inl x2), (3, .inl x3)], [.inl 1], zW T' (zwG G' 9) S n, 0, 0) (by decide +kernel) rfl ⟨trivial, trivial, trivial⟩ ?_
  exact z_lvs (lv' := [(0, z_r 36), (1, .inl x1), (2, .inl x2), (3, .inl x3)]) [0, 1, 2, 3] rfl (t_Sight_lookAt_j47_9 M S x1 x2 x3 1 hQ K hs)
theorem t_Sight_lookAt_j42_28 {X : z_X} {Post : Option z_V → z_W → Prop} (M : z_M X zm_Sight_lookAt rm_Sight_lookAt Post) {T' : Nat → Nat × Nat} {G' : Nat → Nat → Option Nat} {n : Nat} {Q : (Nat → Nat → Int32) → Prop} (S : (Nat → Nat → Int32)) (x1 : Int32) (x2 : Int32) (x3 : Int32) (hQ : ∀ S', Q S' → Post none (zW T' (zwG G' 28) S' n)) (K : Q (F_Sight_lookAt_j42 28 S x1 x2 x3)) (hs : Sf_Sight_lookAt_j42 28 S x1 x2 x3) : z_G X zm_Sight_lookAt (42, [(0, z_r 36), (1, .inl x1), (2, .inl x2), (3, .inl x3)], [], zW T' (zwG G' 28) S n, 0, 0) := by
  unfold F_Sight_lookAt_j42 at K
  unfold Sf_Sight_lookAt_j42 at hs
  try simp only [Nat.reduceAdd] at K hs
  refine z_go2 M.1 42 [(.iconst 1, 1), (.goto 4, 3)] (47, [(0, z_r 36), (1, .inl x1), (2, .inl x2), (3, .inl x3)], [.inl 1], zW T' (zwG G' 28) S n, 0, 0) (by decide +kernel) rfl ⟨trivial, trivial, trivial⟩ ?_
  exact z_lvs (lv' := [(0, z_r 36), (1, .inl x1), (2, .inl x2), (3, .inl x3)]) [0, 1, 2, 3] rfl (t_Sight_lookAt_j47_28 M S x1 x2 x3 1 hQ K hs)
def F_Sight_lookAt (wd : Nat) (S : (Nat → Nat → Int32)) (p1 : Int32) (p2 : Int32) : (Nat → Nat → Int32) := (if (F_World_cell wd S p1 6) = 0 then (F_Sight_lookAt_j42 wd S p1 p2 (F_World_cell wd S p1 8)) else (if (p2 &&& (zAt (S 39) 3 (F_World_cell wd S p1 6))) = 0 then (F_Sight_lookAt_j47 wd S p1 p2 (F_World_cell wd S p1 8) 0) else (F_Sight_lookAt_j42 wd S p1 p2 (F_World_cell wd S p1 8))))
def Sf_Sight_lookAt (wd : Nat) (S : (Nat → Nat → Int32)) (p1 : Int32) (p2 : Int32) : Prop := (Sf_World_cell wd S p1 8 ∧ (Sf_World_cell wd S p1 6 ∧ (if (F_World_cell wd S p1 6) = 0 then (Sf_Sight_lookAt_j42 wd S p1 p2 (F_World_cell wd S p1 8)) else (if (p2 &&& (zAt (S 39) 3 (F_World_cell wd S p1 6))) = 0 then (Sf_Sight_lookAt_j47 wd S p1 p2 (F_World_cell wd S p1 8) 0) else (Sf_Sight_lookAt_j42 wd S p1 p2 (F_World_cell wd S p1 8))))))
theorem c_Sight_lookAt_9 (T' : Nat → Nat × Nat) (G' : Nat → Nat → Option Nat) (S : (Nat → Nat → Int32)) (n : Nat) (p1 : Int32) (p2 : Int32) (hs : Sf_Sight_lookAt 9 S p1 p2) : z_Run rm_Sight_lookAt zm_Sight_lookAt [z_r 36, .inl p1, .inl p2] (zW T' (zwG G' 9) S n) (zq none (zW T' (zwG G' 9) (F_Sight_lookAt 9 S p1 p2) n)) := by
  refine z_body (by decide) zf_Sight_ok (Nat.le_of_ble_eq_true rfl) (fun X M => ?_)
  obtain ⟨Q, hQ, K⟩ : ∃ Q : (Nat → Nat → Int32) → Prop, (∀ S', Q S' → zq none (zW T' (zwG G' 9) (F_Sight_lookAt 9 S p1 p2) n) none (zW T' (zwG G' 9) S' n)) ∧ Q (F_Sight_lookAt 9 S p1 p2) := ⟨fun o => F_Sight_lookAt 9 S p1 p2 = o, fun S' h => ⟨rfl, by rw [h]⟩, rfl⟩
  show z_G X zm_Sight_lookAt (0, [(0, z_r 36), (1, .inl p1), (2, .inl p2)], [], zW T' (zwG G' 9) S n, 0, 0)
  unfold F_Sight_lookAt at K
  unfold Sf_Sight_lookAt at hs
  try simp only [Nat.reduceAdd] at K hs
  refine z_go2 M.1 0 [(.aload_n 0, 1), (.getfield 40, 3), (.iload_n 1, 1), (.bipush 8, 2)] (7, [(0, z_r 36), (1, .inl p1), (2, .inl p2)], [.inl 8, .inl p1, z_r 9], zW T' (zwG G' 9) S n, 0, 0) (by decide +kernel) rfl ⟨trivial, rfl, trivial, trivial, trivial⟩ ?_
  refine z_callV M.1 (av := [.inl p1, .inl 8]) (st := []) (a := 9) (ci := 10) (by decide +kernel) (c_World_cell_9 T' (zwG G' 9) S n p1 8 hs.1) M.2.1 zl_Sight_61 zv_World_cell rfl rfl rfl ⟨by decide, by decide, by decide, by decide⟩ rfl (Nat.le_of_ble_eq_true rfl) (fun v w' hv => ?_)
  obtain ⟨rfl, rfl⟩ := hv
  replace hs := hs.2
  show z_G X zm_Sight_lookAt (10, [(0, z_r 36), (1, .inl p1), (2, .inl p2)], [.inl (F_World_cell 9 S p1 8)], zW T' (zwG G' 9) S n, 0, 0)
  refine z_go2 M.1 10 [(.istore_n 3, 1), (.aload_n 0, 1), (.getfield 40, 3), (.iload_n 1, 1), (.bipush 6, 2)] (18, [(3, .inl (F_World_cell 9 S p1 8)), (0, z_r 36), (1, .inl p1), (2, .inl p2)], [.inl 6, .inl p1, z_r 9], zW T' (zwG G' 9) S n, 0, 0) (by decide +kernel) rfl ⟨trivial, trivial, rfl, trivial, trivial, trivial⟩ ?_
  refine z_callV M.1 (av := [.inl p1, .inl 6]) (st := []) (a := 9) (ci := 10) (by decide +kernel) (c_World_cell_9 T' (zwG G' 9) S n p1 6 hs.1) M.2.1 zl_Sight_61 zv_World_cell rfl rfl rfl ⟨by decide, by decide, by decide, by decide⟩ rfl (Nat.le_of_ble_eq_true rfl) (fun v w' hv => ?_)
  obtain ⟨rfl, rfl⟩ := hv
  replace hs := hs.2
  show z_G X zm_Sight_lookAt (21, [(3, .inl (F_World_cell 9 S p1 8)), (0, z_r 36), (1, .inl p1), (2, .inl p2)], [.inl (F_World_cell 9 S p1 6)], zW T' (zwG G' 9) S n, 0, 0)
  refine z_go2 M.1 21 [(.istore 4, 2), (.iload 4, 2)] (25, [(4, .inl (F_World_cell 9 S p1 6)), (3, .inl (F_World_cell 9 S p1 8)), (0, z_r 36), (1, .inl p1), (2, .inl p2)], [.inl (F_World_cell 9 S p1 6)], zW T' (zwG G' 9) S n, 0, 0) (by decide +kernel) rfl ⟨trivial, trivial, trivial⟩ ?_
  refine z_if_eq 42 M.1 (off := 17) (by decide +kernel) (by decide) (fun c25 => ?_) (fun c25 => ?_)
  · rw [if_pos c25] at K hs
    exact z_lvs (lv' := [(0, z_r 36), (1, .inl p1), (2, .inl p2), (3, .inl (F_World_cell 9 S p1 8))]) [2, 3, 4, 1] rfl (t_Sight_lookAt_j42_9 M S p1 p2 (F_World_cell 9 S p1 8) hQ K hs)
  · rw [if_neg c25] at K hs
    refine z_go2 M.1 28 [(.iload_n 2, 1), (.aload_n 0, 1), (.getfield 18, 3), (.iload 4, 2)] (35, [(4, .inl (F_World_cell 9 S p1 6)), (3, .inl (F_World_cell 9 S p1 8)), (0, z_r 36), (1, .inl p1), (2, .inl p2)], [.inl (F_World_cell 9 S p1 6), z_r 39, .inl p2], zW T' (zwG G' 9) S n, 0, 0) (by decide +kernel) rfl ⟨trivial, trivial, rfl, trivial, trivial⟩ ?_
    refine z_callS M.1 (av := [z_r 39, .inl (F_World_cell 9 S p1 6)]) (st := [.inl p2]) (by decide +kernel) (c_at (zW T' (zwG G' 9) S n) 39 3 rfl (by decide) (F_World_cell 9 S p1 6)) M.2.1 zl_Sight_72 zs_T_at ⟨by decide, by decide, by decide, by decide⟩ rfl (Nat.le_of_ble_eq_true rfl) (fun v w' hv => ?_)
    obtain ⟨rfl, rfl⟩ := hv
    show z_G X zm_Sight_lookAt (38, [(4, .inl (F_World_cell 9 S p1 6)), (3, .inl (F_World_cell 9 S p1 8)), (0, z_r 36), (1, .inl p1), (2, .inl p2)], [.inl (zAt (S 39) 3 (F_World_cell 9 S p1 6)), .inl p2], zW T' (zwG G' 9) S n, 0, 0)
    refine z_go2 M.1 38 [(.iand, 1)] (39, [(4, .inl (F_World_cell 9 S p1 6)), (3, .inl (F_World_cell 9 S p1 8)), (0, z_r 36), (1, .inl p1), (2, .inl p2)], [.inl (p2 &&& (zAt (S 39) 3 (F_World_cell 9 S p1 6)))], zW T' (zwG G' 9) S n, 0, 0) (by decide +kernel) rfl ⟨trivial, trivial⟩ ?_
    refine z_if_eq 46 M.1 (off := 7) (by decide +kernel) (by decide) (fun c39 => ?_) (fun c39 => ?_)
    · rw [if_pos c39] at K hs
      refine z_go2 M.1 46 [(.iconst 0, 1)] (47, [(4, .inl (F_World_cell 9 S p1 6)), (3, .inl (F_World_cell 9 S p1 8)), (0, z_r 36), (1, .inl p1), (2, .inl p2)], [.inl 0], zW T' (zwG G' 9) S n, 0, 0) (by decide +kernel) rfl ⟨trivial, trivial⟩ ?_
      exact z_lvs (lv' := [(0, z_r 36), (1, .inl p1), (2, .inl p2), (3, .inl (F_World_cell 9 S p1 8))]) [2, 3, 4, 1] rfl (t_Sight_lookAt_j47_9 M S p1 p2 (F_World_cell 9 S p1 8) 0 hQ K hs)
    · rw [if_neg c39] at K hs
      exact z_lvs (lv' := [(0, z_r 36), (1, .inl p1), (2, .inl p2), (3, .inl (F_World_cell 9 S p1 8))]) [2, 3, 4, 1] rfl (t_Sight_lookAt_j42_9 M S p1 p2 (F_World_cell 9 S p1 8) hQ K hs)
theorem c_Sight_lookAt_28 (T' : Nat → Nat × Nat) (G' : Nat → Nat → Option Nat) (S : (Nat → Nat → Int32)) (n : Nat) (p1 : Int32) (p2 : Int32) (hs : Sf_Sight_lookAt 28 S p1 p2) : z_Run rm_Sight_lookAt zm_Sight_lookAt [z_r 36, .inl p1, .inl p2] (zW T' (zwG G' 28) S n) (zq none (zW T' (zwG G' 28) (F_Sight_lookAt 28 S p1 p2) n)) := by
  refine z_body (by decide) zf_Sight_ok (Nat.le_of_ble_eq_true rfl) (fun X M => ?_)
  obtain ⟨Q, hQ, K⟩ : ∃ Q : (Nat → Nat → Int32) → Prop, (∀ S', Q S' → zq none (zW T' (zwG G' 28) (F_Sight_lookAt 28 S p1 p2) n) none (zW T' (zwG G' 28) S' n)) ∧ Q (F_Sight_lookAt 28 S p1 p2) := ⟨fun o => F_Sight_lookAt 28 S p1 p2 = o, fun S' h => ⟨rfl, by rw [h]⟩, rfl⟩
  show z_G X zm_Sight_lookAt (0, [(0, z_r 36), (1, .inl p1), (2, .inl p2)], [], zW T' (zwG G' 28) S n, 0, 0)
  unfold F_Sight_lookAt at K
  unfold Sf_Sight_lookAt at hs
  try simp only [Nat.reduceAdd] at K hs
  refine z_go2 M.1 0 [(.aload_n 0, 1), (.getfield 40, 3), (.iload_n 1, 1), (.bipush 8, 2)] (7, [(0, z_r 36), (1, .inl p1), (2, .inl p2)], [.inl 8, .inl p1, z_r 28], zW T' (zwG G' 28) S n, 0, 0) (by decide +kernel) rfl ⟨trivial, rfl, trivial, trivial, trivial⟩ ?_
  refine z_callV M.1 (av := [.inl p1, .inl 8]) (st := []) (a := 28) (ci := 10) (by decide +kernel) (c_World_cell_28 T' (zwG G' 28) S n p1 8 hs.1) M.2.1 zl_Sight_61 zv_World_cell rfl rfl rfl ⟨by decide, by decide, by decide, by decide⟩ rfl (Nat.le_of_ble_eq_true rfl) (fun v w' hv => ?_)
  obtain ⟨rfl, rfl⟩ := hv
  replace hs := hs.2
  show z_G X zm_Sight_lookAt (10, [(0, z_r 36), (1, .inl p1), (2, .inl p2)], [.inl (F_World_cell 28 S p1 8)], zW T' (zwG G' 28) S n, 0, 0)
  refine z_go2 M.1 10 [(.istore_n 3, 1), (.aload_n 0, 1), (.getfield 40, 3), (.iload_n 1, 1), (.bipush 6, 2)] (18, [(3, .inl (F_World_cell 28 S p1 8)), (0, z_r 36), (1, .inl p1), (2, .inl p2)], [.inl 6, .inl p1, z_r 28], zW T' (zwG G' 28) S n, 0, 0) (by decide +kernel) rfl ⟨trivial, trivial, rfl, trivial, trivial, trivial⟩ ?_
  refine z_callV M.1 (av := [.inl p1, .inl 6]) (st := []) (a := 28) (ci := 10) (by decide +kernel) (c_World_cell_28 T' (zwG G' 28) S n p1 6 hs.1) M.2.1 zl_Sight_61 zv_World_cell rfl rfl rfl ⟨by decide, by decide, by decide, by decide⟩ rfl (Nat.le_of_ble_eq_true rfl) (fun v w' hv => ?_)
  obtain ⟨rfl, rfl⟩ := hv
  replace hs := hs.2
  show z_G X zm_Sight_lookAt (21, [(3, .inl (F_World_cell 28 S p1 8)), (0, z_r 36), (1, .inl p1), (2, .inl p2)], [.inl (F_World_cell 28 S p1 6)], zW T' (zwG G' 28) S n, 0, 0)
  refine z_go2 M.1 21 [(.istore 4, 2), (.iload 4, 2)] (25, [(4, .inl (F_World_cell 28 S p1 6)), (3, .inl (F_World_cell 28 S p1 8)), (0, z_r 36), (1, .inl p1), (2, .inl p2)], [.inl (F_World_cell 28 S p1 6)], zW T' (zwG G' 28) S n, 0, 0) (by decide +kernel) rfl ⟨trivial, trivial, trivial⟩ ?_
  refine z_if_eq 42 M.1 (off := 17) (by decide +kernel) (by decide) (fun c25 => ?_) (fun c25 => ?_)
  · rw [if_pos c25] at K hs
    exact z_lvs (lv' := [(0, z_r 36), (1, .inl p1), (2, .inl p2), (3, .inl (F_World_cell 28 S p1 8))]) [2, 3, 4, 1] rfl (t_Sight_lookAt_j42_28 M S p1 p2 (F_World_cell 28 S p1 8) hQ K hs)
  · rw [if_neg c25] at K hs
    refine z_go2 M.1 28 [(.iload_n 2, 1), (.aload_n 0, 1), (.getfield 18, 3), (.iload 4, 2)] (35, [(4, .inl (F_World_cell 28 S p1 6)), (3, .inl (F_World_cell 28 S p1 8)), (0, z_r 36), (1, .inl p1), (2, .inl p2)], [.inl (F_World_cell 28 S p1 6), z_r 39, .inl p2], zW T' (zwG G' 28) S n, 0, 0) (by decide +kernel) rfl ⟨trivial, trivial, rfl, trivial, trivial⟩ ?_
    refine z_callS M.1 (av := [z_r 39, .inl (F_World_cell 28 S p1 6)]) (st := [.inl p2]) (by decide +kernel) (c_at (zW T' (zwG G' 28) S n) 39 3 rfl (by decide) (F_World_cell 28 S p1 6)) M.2.1 zl_Sight_72 zs_T_at ⟨by decide, by decide, by decide, by decide⟩ rfl (Nat.le_of_ble_eq_true rfl) (fun v w' hv => ?_)
    obtain ⟨rfl, rfl⟩ := hv
    show z_G X zm_Sight_lookAt (38, [(4, .inl (F_World_cell 28 S p1 6)), (3, .inl (F_World_cell 28 S p1 8)), (0, z_r 36), (1, .inl p1), (2, .inl p2)], [.inl (zAt (S 39) 3 (F_World_cell 28 S p1 6)), .inl p2], zW T' (zwG G' 28) S n, 0, 0)
    refine z_go2 M.1 38 [(.iand, 1)] (39, [(4, .inl (F_World_cell 28 S p1 6)), (3, .inl (F_World_cell 28 S p1 8)), (0, z_r 36), (1, .inl p1), (2, .inl p2)], [.inl (p2 &&& (zAt (S 39) 3 (F_World_cell 28 S p1 6)))], zW T' (zwG G' 28) S n, 0, 0) (by decide +kernel) rfl ⟨trivial, trivial⟩ ?_
    refine z_if_eq 46 M.1 (off := 7) (by decide +kernel) (by decide) (fun c39 => ?_) (fun c39 => ?_)
    · rw [if_pos c39] at K hs
      refine z_go2 M.1 46 [(.iconst 0, 1)] (47, [(4, .inl (F_World_cell 28 S p1 6)), (3, .inl (F_World_cell 28 S p1 8)), (0, z_r 36), (1, .inl p1), (2, .inl p2)], [.inl 0], zW T' (zwG G' 28) S n, 0, 0) (by decide +kernel) rfl ⟨trivial, trivial⟩ ?_
      exact z_lvs (lv' := [(0, z_r 36), (1, .inl p1), (2, .inl p2), (3, .inl (F_World_cell 28 S p1 8))]) [2, 3, 4, 1] rfl (t_Sight_lookAt_j47_28 M S p1 p2 (F_World_cell 28 S p1 8) 0 hQ K hs)
    · rw [if_neg c39] at K hs
      exact z_lvs (lv' := [(0, z_r 36), (1, .inl p1), (2, .inl p2), (3, .inl (F_World_cell 28 S p1 8))]) [2, 3, 4, 1] rfl (t_Sight_lookAt_j42_28 M S p1 p2 (F_World_cell 28 S p1 8) hQ K hs)

-- TrackHouse$Sight.value
abbrev rm_Sight_value : Room := zr 2
def F_Sight_value (wd : Nat) (S : (Nat → Nat → Int32)) (p1 : Int32) (p2 : Int32) : Int32 := (if p2 = 3 then (if (F_Sight_canRead S p1 p2) = 0 then (-1) else (F_Sight_computed wd S p1)) else (if (F_T_isIn S (zAt (S 42) 3 p2) p1) = 0 then (-1) else (F_World_cell wd S p1 ((1 : Int32) + p2))))
def Sf_Sight_value (wd : Nat) (S : (Nat → Nat → Int32)) (p1 : Int32) (p2 : Int32) : Prop := (if p2 = 3 then (Sf_Sight_canRead S p1 p2 ∧ (if (F_Sight_canRead S p1 p2) = 0 then True else (Sf_Sight_computed wd S p1 ∧ True))) else (if (F_T_isIn S (zAt (S 42) 3 p2) p1) = 0 then True else (Sf_World_cell wd S p1 ((1 : Int32) + p2) ∧ True)))
theorem c_Sight_value_9 (T' : Nat → Nat × Nat) (G' : Nat → Nat → Option Nat) (S : (Nat → Nat → Int32)) (n : Nat) (p1 : Int32) (p2 : Int32) (hs : Sf_Sight_value 9 S p1 p2) : z_Run rm_Sight_value zm_Sight_value [z_r 36, .inl p1, .inl p2] (zW T' (zwG G' 9) S n) (zq (some (.inl (F_Sight_value 9 S p1 p2))) (zW T' (zwG G' 9) S n)) := by
  refine z_body (by decide) zf_Sight_ok (Nat.le_of_ble_eq_true rfl) (fun X M => ?_)
  obtain ⟨Q, hQ, K⟩ : ∃ Q : Int32 → Prop, (∀ v, Q v → zq (some (.inl (F_Sight_value 9 S p1 p2))) (zW T' (zwG G' 9) S n) (some (.inl v)) (zW T' (zwG G' 9) S n)) ∧ Q (F_Sight_value 9 S p1 p2) := ⟨fun o => F_Sight_value 9 S p1 p2 = o, fun v h => ⟨by rw [h], rfl⟩, rfl⟩
  show z_G X zm_Sight_value (0, [(0, z_r 36), (1, .inl p1), (2, .inl p2)], [], zW T' (zwG G' 9) S n, 0, 0)
  unfold F_Sight_value at K
  unfold Sf_Sight_value at hs
  try simp only [Nat.reduceAdd] at K hs
  refine z_go2 M.1 0 [(.iload_n 2, 1), (.iconst 3, 1)] (2, [(0, z_r 36), (1, .inl p1), (2, .inl p2)], [.inl 3, .inl p2], zW T' (zwG G' 9) S n, 0, 0) (by decide +kernel) rfl ⟨trivial, trivial, trivial⟩ ?_
  refine z_icmp_ne 24 M.1 (off := 22) (by decide +kernel) (by decide) (fun c2 => ?_) (fun c2 => ?_)
  · rw [if_neg c2] at K hs
    refine z_go2 M.1 24 [(.aload_n 0, 1), (.getfield 27, 3), (.iload_n 2, 1)] (29, [(0, z_r 36), (1, .inl p1), (2, .inl p2)], [.inl p2, z_r 42], zW T' (zwG G' 9) S n, 0, 0) (by decide +kernel) rfl ⟨trivial, rfl, trivial, trivial⟩ ?_
    refine z_callS M.1 (av := [z_r 42, .inl p2]) (st := []) (by decide +kernel) (c_at (zW T' (zwG G' 9) S n) 42 3 rfl (by decide) p2) M.2.1 zl_Sight_72 zs_T_at ⟨by decide, by decide, by decide, by decide⟩ rfl (Nat.le_of_ble_eq_true rfl) (fun v w' hv => ?_)
    obtain ⟨rfl, rfl⟩ := hv
    show z_G X zm_Sight_value (32, [(0, z_r 36), (1, .inl p1), (2, .inl p2)], [.inl (zAt (S 42) 3 p2)], zW T' (zwG G' 9) S n, 0, 0)
    refine z_go2 M.1 32 [(.iload_n 1, 1)] (33, [(0, z_r 36), (1, .inl p1), (2, .inl p2)], [.inl p1, .inl (zAt (S 42) 3 p2)], zW T' (zwG G' 9) S n, 0, 0) (by decide +kernel) rfl ⟨trivial, trivial⟩ ?_
    refine z_callS M.1 (av := [.inl (zAt (S 42) 3 p2), .inl p1]) (st := []) (by decide +kernel) (c_T_isIn T' (zwG G' 9) S n (zAt (S 42) 3 p2) p1) M.2.1 zl_Sight_90 zs_T_isIn ⟨by decide, by decide, by decide, by decide⟩ rfl (Nat.le_of_ble_eq_true rfl) (fun v w' hv => ?_)
    obtain ⟨rfl, rfl⟩ := hv
    show z_G X zm_Sight_value (36, [(0, z_r 36), (1, .inl p1), (2, .inl p2)], [.inl (F_T_isIn S (zAt (S 42) 3 p2) p1)], zW T' (zwG G' 9) S n, 0, 0)
    refine z_if_eq 53 M.1 (off := 17) (by decide +kernel) (by decide) (fun c36 => ?_) (fun c36 => ?_)
    · rw [if_pos c36] at K hs
      refine z_go2 M.1 53 [(.iconst (-1), 1)] (54, [(0, z_r 36), (1, .inl p1), (2, .inl p2)], [.inl (-1)], zW T' (zwG G' 9) S n, 0, 0) (by decide +kernel) rfl ⟨trivial, trivial⟩ ?_
      exact z_iret M (by decide +kernel) .int rfl rfl (by decide) (by decide) (hQ _ K)
    · rw [if_neg c36] at K hs
      refine z_go2 M.1 39 [(.aload_n 0, 1), (.getfield 40, 3), (.iload_n 1, 1), (.iconst 1, 1), (.iload_n 2, 1), (.iadd, 1)] (47, [(0, z_r 36), (1, .inl p1), (2, .inl p2)], [.inl ((1 : Int32) + p2), .inl p1, z_r 9], zW T' (zwG G' 9) S n, 0, 0) (by decide +kernel) rfl ⟨trivial, rfl, trivial, trivial, trivial, trivial, trivial⟩ ?_
      refine z_callV M.1 (av := [.inl p1, .inl ((1 : Int32) + p2)]) (st := []) (a := 9) (ci := 10) (by decide +kernel) (c_World_cell_9 T' (zwG G' 9) S n p1 ((1 : Int32) + p2) hs.1) M.2.1 zl_Sight_61 zv_World_cell rfl rfl rfl ⟨by decide, by decide, by decide, by decide⟩ rfl (Nat.le_of_ble_eq_true rfl) (fun v w' hv => ?_)
      obtain ⟨rfl, rfl⟩ := hv
      replace hs := hs.2
      show z_G X zm_Sight_value (50, [(0, z_r 36), (1, .inl p1), (2, .inl p2)], [.inl (F_World_cell 9 S p1 ((1 : Int32) + p2))], zW T' (zwG G' 9) S n, 0, 0)
      refine z_go2 M.1 50 [(.goto 4, 3)] (54, [(0, z_r 36), (1, .inl p1), (2, .inl p2)], [.inl (F_World_cell 9 S p1 ((1 : Int32) + p2))], zW T' (zwG G' 9) S n, 0, 0) (by decide +kernel) rfl ⟨trivial, trivial⟩ ?_
      exact z_iret M (by decide +kernel) .int rfl rfl (by decide) (by decide) (hQ _ K)
  · rw [if_pos c2] at K hs
    refine z_go2 M.1 5 [(.aload_n 0, 1), (.iload_n 1, 1), (.iload_n 2, 1)] (8, [(0, z_r 36), (1, .inl p1), (2, .inl p2)], [.inl p2, .inl p1, z_r 36], zW T' (zwG G' 9) S n, 0, 0) (by decide +kernel) rfl ⟨trivial, trivial, trivial, trivial⟩ ?_
    refine z_callV M.1 (av := [.inl p1, .inl p2]) (st := []) (a := 36) (ci := 8) (by decide +kernel) (c_Sight_canRead T' (zwG G' 9) S n p1 p2 hs.1) M.2.1 zl_Sight_93 zv_Sight_canRead rfl rfl rfl ⟨by decide, by decide, by decide, by decide⟩ rfl (Nat.le_of_ble_eq_true rfl) (fun v w' hv => ?_)
    obtain ⟨rfl, rfl⟩ := hv
    replace hs := hs.2
    show z_G X zm_Sight_value (11, [(0, z_r 36), (1, .inl p1), (2, .inl p2)], [.inl (F_Sight_canRead S p1 p2)], zW T' (zwG G' 9) S n, 0, 0)
    refine z_if_eq 22 M.1 (off := 11) (by decide +kernel) (by decide) (fun c11 => ?_) (fun c11 => ?_)
    · rw [if_pos c11] at K hs
      refine z_go2 M.1 22 [(.iconst (-1), 1)] (23, [(0, z_r 36), (1, .inl p1), (2, .inl p2)], [.inl (-1)], zW T' (zwG G' 9) S n, 0, 0) (by decide +kernel) rfl ⟨trivial, trivial⟩ ?_
      exact z_iret M (by decide +kernel) .int rfl rfl (by decide) (by decide) (hQ _ K)
    · rw [if_neg c11] at K hs
      refine z_go2 M.1 14 [(.aload_n 0, 1), (.iload_n 1, 1)] (16, [(0, z_r 36), (1, .inl p1), (2, .inl p2)], [.inl p1, z_r 36], zW T' (zwG G' 9) S n, 0, 0) (by decide +kernel) rfl ⟨trivial, trivial, trivial⟩ ?_
      refine z_callV M.1 (av := [.inl p1]) (st := []) (a := 36) (ci := 8) (by decide +kernel) (c_Sight_computed_9 T' G' S n p1 hs.1) M.2.1 zl_Sight_96 zv_Sight_computed rfl rfl rfl ⟨by decide, by decide, by decide, by decide⟩ rfl (Nat.le_of_ble_eq_true rfl) (fun v w' hv => ?_)
      obtain ⟨rfl, rfl⟩ := hv
      replace hs := hs.2
      show z_G X zm_Sight_value (19, [(0, z_r 36), (1, .inl p1), (2, .inl p2)], [.inl (F_Sight_computed 9 S p1)], zW T' (zwG G' 9) S n, 0, 0)
      refine z_go2 M.1 19 [(.goto 4, 3)] (23, [(0, z_r 36), (1, .inl p1), (2, .inl p2)], [.inl (F_Sight_computed 9 S p1)], zW T' (zwG G' 9) S n, 0, 0) (by decide +kernel) rfl ⟨trivial, trivial⟩ ?_
      exact z_iret M (by decide +kernel) .int rfl rfl (by decide) (by decide) (hQ _ K)
theorem c_Sight_value_28 (T' : Nat → Nat × Nat) (G' : Nat → Nat → Option Nat) (S : (Nat → Nat → Int32)) (n : Nat) (p1 : Int32) (p2 : Int32) (hs : Sf_Sight_value 28 S p1 p2) : z_Run rm_Sight_value zm_Sight_value [z_r 36, .inl p1, .inl p2] (zW T' (zwG G' 28) S n) (zq (some (.inl (F_Sight_value 28 S p1 p2))) (zW T' (zwG G' 28) S n)) := by
  refine z_body (by decide) zf_Sight_ok (Nat.le_of_ble_eq_true rfl) (fun X M => ?_)
  obtain ⟨Q, hQ, K⟩ : ∃ Q : Int32 → Prop, (∀ v, Q v → zq (some (.inl (F_Sight_value 28 S p1 p2))) (zW T' (zwG G' 28) S n) (some (.inl v)) (zW T' (zwG G' 28) S n)) ∧ Q (F_Sight_value 28 S p1 p2) := ⟨fun o => F_Sight_value 28 S p1 p2 = o, fun v h => ⟨by rw [h], rfl⟩, rfl⟩
  show z_G X zm_Sight_value (0, [(0, z_r 36), (1, .inl p1), (2, .inl p2)], [], zW T' (zwG G' 28) S n, 0, 0)
  unfold F_Sight_value at K
  unfold Sf_Sight_value at hs
  try simp only [Nat.reduceAdd] at K hs
  refine z_go2 M.1 0 [(.iload_n 2, 1), (.iconst 3, 1)] (2, [(0, z_r 36), (1, .inl p1), (2, .inl p2)], [.inl 3, .inl p2], zW T' (zwG G' 28) S n, 0, 0) (by decide +kernel) rfl ⟨trivial, trivial, trivial⟩ ?_
  refine z_icmp_ne 24 M.1 (off := 22) (by decide +kernel) (by decide) (fun c2 => ?_) (fun c2 => ?_)
  · rw [if_neg c2] at K hs
    refine z_go2 M.1 24 [(.aload_n 0, 1), (.getfield 27, 3), (.iload_n 2, 1)] (29, [(0, z_r 36), (1, .inl p1), (2, .inl p2)], [.inl p2, z_r 42], zW T' (zwG G' 28) S n, 0, 0) (by decide +kernel) rfl ⟨trivial, rfl, trivial, trivial⟩ ?_
    refine z_callS M.1 (av := [z_r 42, .inl p2]) (st := []) (by decide +kernel) (c_at (zW T' (zwG G' 28) S n) 42 3 rfl (by decide) p2) M.2.1 zl_Sight_72 zs_T_at ⟨by decide, by decide, by decide, by decide⟩ rfl (Nat.le_of_ble_eq_true rfl) (fun v w' hv => ?_)
    obtain ⟨rfl, rfl⟩ := hv
    show z_G X zm_Sight_value (32, [(0, z_r 36), (1, .inl p1), (2, .inl p2)], [.inl (zAt (S 42) 3 p2)], zW T' (zwG G' 28) S n, 0, 0)
    refine z_go2 M.1 32 [(.iload_n 1, 1)] (33, [(0, z_r 36), (1, .inl p1), (2, .inl p2)], [.inl p1, .inl (zAt (S 42) 3 p2)], zW T' (zwG G' 28) S n, 0, 0) (by decide +kernel) rfl ⟨trivial, trivial⟩ ?_
    refine z_callS M.1 (av := [.inl (zAt (S 42) 3 p2), .inl p1]) (st := []) (by decide +kernel) (c_T_isIn T' (zwG G' 28) S n (zAt (S 42) 3 p2) p1) M.2.1 zl_Sight_90 zs_T_isIn ⟨by decide, by decide, by decide, by decide⟩ rfl (Nat.le_of_ble_eq_true rfl) (fun v w' hv => ?_)
    obtain ⟨rfl, rfl⟩ := hv
    show z_G X zm_Sight_value (36, [(0, z_r 36), (1, .inl p1), (2, .inl p2)], [.inl (F_T_isIn S (zAt (S 42) 3 p2) p1)], zW T' (zwG G' 28) S n, 0, 0)
    refine z_if_eq 53 M.1 (off := 17) (by decide +kernel) (by decide) (fun c36 => ?_) (fun c36 => ?_)
    · rw [if_pos c36] at K hs
      refine z_go2 M.1 53 [(.iconst (-1), 1)] (54, [(0, z_r 36), (1, .inl p1), (2, .inl p2)], [.inl (-1)], zW T' (zwG G' 28) S n, 0, 0) (by decide +kernel) rfl ⟨trivial, trivial⟩ ?_
      exact z_iret M (by decide +kernel) .int rfl rfl (by decide) (by decide) (hQ _ K)
    · rw [if_neg c36] at K hs
      refine z_go2 M.1 39 [(.aload_n 0, 1), (.getfield 40, 3), (.iload_n 1, 1), (.iconst 1, 1), (.iload_n 2, 1), (.iadd, 1)] (47, [(0, z_r 36), (1, .inl p1), (2, .inl p2)], [.inl ((1 : Int32) + p2), .inl p1, z_r 28], zW T' (zwG G' 28) S n, 0, 0) (by decide +kernel) rfl ⟨trivial, rfl, trivial, trivial, trivial, trivial, trivial⟩ ?_
      refine z_callV M.1 (av := [.inl p1, .inl ((1 : Int32) + p2)]) (st := []) (a := 28) (ci := 10) (by decide +kernel) (c_World_cell_28 T' (zwG G' 28) S n p1 ((1 : Int32) + p2) hs.1) M.2.1 zl_Sight_61 zv_World_cell rfl rfl rfl ⟨by decide, by decide, by decide, by decide⟩ rfl (Nat.le_of_ble_eq_true rfl) (fun v w' hv => ?_)
      obtain ⟨rfl, rfl⟩ := hv
      replace hs := hs.2
      show z_G X zm_Sight_value (50, [(0, z_r 36), (1, .inl p1), (2, .inl p2)], [.inl (F_World_cell 28 S p1 ((1 : Int32) + p2))], zW T' (zwG G' 28) S n, 0, 0)
      refine z_go2 M.1 50 [(.goto 4, 3)] (54, [(0, z_r 36), (1, .inl p1), (2, .inl p2)], [.inl (F_World_cell 28 S p1 ((1 : Int32) + p2))], zW T' (zwG G' 28) S n, 0, 0) (by decide +kernel) rfl ⟨trivial, trivial⟩ ?_
      exact z_iret M (by decide +kernel) .int rfl rfl (by decide) (by decide) (hQ _ K)
  · rw [if_pos c2] at K hs
    refine z_go2 M.1 5 [(.aload_n 0, 1), (.iload_n 1, 1), (.iload_n 2, 1)] (8, [(0, z_r 36), (1, .inl p1), (2, .inl p2)], [.inl p2, .inl p1, z_r 36], zW T' (zwG G' 28) S n, 0, 0) (by decide +kernel) rfl ⟨trivial, trivial, trivial, trivial⟩ ?_
    refine z_callV M.1 (av := [.inl p1, .inl p2]) (st := []) (a := 36) (ci := 8) (by decide +kernel) (c_Sight_canRead T' (zwG G' 28) S n p1 p2 hs.1) M.2.1 zl_Sight_93 zv_Sight_canRead rfl rfl rfl ⟨by decide, by decide, by decide, by decide⟩ rfl (Nat.le_of_ble_eq_true rfl) (fun v w' hv => ?_)
    obtain ⟨rfl, rfl⟩ := hv
    replace hs := hs.2
    show z_G X zm_Sight_value (11, [(0, z_r 36), (1, .inl p1), (2, .inl p2)], [.inl (F_Sight_canRead S p1 p2)], zW T' (zwG G' 28) S n, 0, 0)
    refine z_if_eq 22 M.1 (off := 11) (by decide +kernel) (by decide) (fun c11 => ?_) (fun c11 => ?_)
    · rw [if_pos c11] at K hs
      refine z_go2 M.1 22 [(.iconst (-1), 1)] (23, [(0, z_r 36), (1, .inl p1), (2, .inl p2)], [.inl (-1)], zW T' (zwG G' 28) S n, 0, 0) (by decide +kernel) rfl ⟨trivial, trivial⟩ ?_
      exact z_iret M (by decide +kernel) .int rfl rfl (by decide) (by decide) (hQ _ K)
    · rw [if_neg c11] at K hs
      refine z_go2 M.1 14 [(.aload_n 0, 1), (.iload_n 1, 1)] (16, [(0, z_r 36), (1, .inl p1), (2, .inl p2)], [.inl p1, z_r 36], zW T' (zwG G' 28) S n, 0, 0) (by decide +kernel) rfl ⟨trivial, trivial, trivial⟩ ?_
      refine z_callV M.1 (av := [.inl p1]) (st := []) (a := 36) (ci := 8) (by decide +kernel) (c_Sight_computed_28 T' G' S n p1 hs.1) M.2.1 zl_Sight_96 zv_Sight_computed rfl rfl rfl ⟨by decide, by decide, by decide, by decide⟩ rfl (Nat.le_of_ble_eq_true rfl) (fun v w' hv => ?_)
      obtain ⟨rfl, rfl⟩ := hv
      replace hs := hs.2
      show z_G X zm_Sight_value (19, [(0, z_r 36), (1, .inl p1), (2, .inl p2)], [.inl (F_Sight_computed 28 S p1)], zW T' (zwG G' 28) S n, 0, 0)
      refine z_go2 M.1 19 [(.goto 4, 3)] (23, [(0, z_r 36), (1, .inl p1), (2, .inl p2)], [.inl (F_Sight_computed 28 S p1)], zW T' (zwG G' 28) S n, 0, 0) (by decide +kernel) rfl ⟨trivial, trivial⟩ ?_
      exact z_iret M (by decide +kernel) .int rfl rfl (by decide) (by decide) (hQ _ K)

-- TrackHouse$Sight.total
abbrev rm_Sight_total : Room := zr 3
def F_Sight_total_l5_32 (wd : Nat) (rc : Int32 → Int32 → (Int32)) (S : (Nat → Nat → Int32)) (x1 : Int32) (x2 : Int32) (x3 : Int32) (x4 : Int32) (s0 : Int32) : (Int32) := (if s0 = (-1) then (rc (x3 + 0) (x4 + 1)) else (rc (x3 + s0) (x4 + 1)))
def Sf_Sight_total_l5_32 (wd : Nat) (rc : Int32 → Int32 → (Int32)) (sr : Int32 → Int32 → Prop) (S : (Nat → Nat → Int32)) (x1 : Int32) (x2 : Int32) (x3 : Int32) (x4 : Int32) (s0 : Int32) : Prop := (if s0 = (-1) then (sr (x3 + 0) (x4 + 1)) else (sr (x3 + s0) (x4 + 1)))
theorem t_Sight_total_l5_32_9 {X : z_X} {Post : Option z_V → z_W → Prop} (M : z_M X zm_Sight_total rm_Sight_total Post) {T' : Nat → Nat × Nat} {G' : Nat → Nat → Option Nat} {n : Nat} {Q : (Int32) → Prop} (rc : Int32 → Int32 → (Int32)) (sr : Int32 → Int32 → Prop) (S : (Nat → Nat → Int32)) (x1 : Int32) (x2 : Int32) (x3 : Int32) (x4 : Int32) (s0 : Int32) (hE : ∀ (y3 : Int32), Q y3 → z_G X zm_Sight_total (55, [(3, .inl y3)], [], zW T' (zwG G' 9) S n, 0, 0)) (hC : ∀ (x3 : Int32) (x4 : Int32), Q (rc x3 x4) → sr x3 x4 → z_G X zm_Sight_total (5, [(0, z_r 36), (1, .inl x1), (2, .inl x2), (3, .inl x3), (4, .inl x4)], [], zW T' (zwG G' 9) S n, 0, 0)) (K : Q (F_Sight_total_l5_32 9 rc S x1 x2 x3 x4 s0)) (hs : Sf_Sight_total_l5_32 9 rc sr S x1 x2 x3 x4 s0) : z_G X zm_Sight_total (32, [(0, z_r 36), (1, .inl x1), (2, .inl x2), (3, .inl x3), (4, .inl x4)], [.inl s0], zW T' (zwG G' 9) S n, 0, 0) := by
  unfold F_Sight_total_l5_32 at K
  unfold Sf_Sight_total_l5_32 at hs
  try simp only [Nat.reduceAdd] at K hs
  refine z_go2 M.1 32 [(.istore 5, 2), (.iload_n 3, 1), (.iload 5, 2), (.iconst (-1), 1)] (38, [(5, .inl s0), (0, z_r 36), (1, .inl x1), (2, .inl x2), (3, .inl x3), (4, .inl x4)], [.inl (-1), .inl s0, .inl x3], zW T' (zwG G' 9) S n, 0, 0) (by decide +kernel) rfl ⟨trivial, trivial, trivial, trivial, trivial⟩ ?_
  refine z_icmp_ne 45 M.1 (off := 7) (by decide +kernel) (by decide) (fun c38 => ?_) (fun c38 => ?_)
  · rw [if_neg c38] at K hs
    refine z_go2 M.1 45 [(.iload 5, 2), (.iadd, 1), (.istore_n 3, 1), (.iinc 4 1, 3), (.goto (-47), 3)] (5, [(4, .inl (x4 + 1)), (3, .inl (x3 + s0)), (5, .inl s0), (0, z_r 36), (1, .inl x1), (2, .inl x2)], [], zW T' (zwG G' 9) S n, 0, 0) (by decide +kernel) rfl ⟨trivial, trivial, trivial, trivial, trivial, trivial⟩ ?_
    exact z_lvs (lv' := [(0, z_r 36), (1, .inl x1), (2, .inl x2), (3, .inl (x3 + s0)), (4, .inl (x4 + 1))]) [3, 4, 5, 1, 0] rfl (hC (x3 + s0) (x4 + 1) K hs)
  · rw [if_pos c38] at K hs
    refine z_go2 M.1 41 [(.iconst 0, 1), (.goto 5, 3), (.iadd, 1), (.istore_n 3, 1), (.iinc 4 1, 3), (.goto (-47), 3)] (5, [(4, .inl (x4 + 1)), (3, .inl (x3 + 0)), (5, .inl s0), (0, z_r 36), (1, .inl x1), (2, .inl x2)], [], zW T' (zwG G' 9) S n, 0, 0) (by decide +kernel) rfl ⟨trivial, trivial, trivial, trivial, trivial, trivial, trivial⟩ ?_
    exact z_lvs (lv' := [(0, z_r 36), (1, .inl x1), (2, .inl x2), (3, .inl (x3 + 0)), (4, .inl (x4 + 1))]) [3, 4, 5, 1, 0] rfl (hC (x3 + 0) (x4 + 1) K hs)
theorem t_Sight_total_l5_32_28 {X : z_X} {Post : Option z_V → z_W → Prop} (M : z_M X zm_Sight_total rm_Sight_total Post) {T' : Nat → Nat × Nat} {G' : Nat → Nat → Option Nat} {n : Nat} {Q : (Int32) → Prop} (rc : Int32 → Int32 → (Int32)) (sr : Int32 → Int32 → Prop) (S : (Nat → Nat → Int32)) (x1 : Int32) (x2 : Int32) (x3 : Int32) (x4 : Int32) (s0 : Int32) (hE : ∀ (y3 : Int32), Q y3 → z_G X zm_Sight_total (55, [(3, .inl y3)], [], zW T' (zwG G' 28) S n, 0, 0)) (hC : ∀ (x3 : Int32) (x4 : Int32), Q (rc x3 x4) → sr x3 x4 → z_G X zm_Sight_total (5, [(0, z_r 36), (1, .inl x1), (2, .inl x2), (3, .inl x3), (4, .inl x4)], [], zW T' (zwG G' 28) S n, 0, 0)) (K : Q (F_Sight_total_l5_32 28 rc S x1 x2 x3 x4 s0)) (hs : Sf_Sight_total_l5_32 28 rc sr S x1 x2 x3 x4 s0) : z_G X zm_Sight_total (32, [(0, z_r 36), (1, .inl x1), (2, .inl x2), (3, .inl x3), (4, .inl x4)], [.inl s0], zW T' (zwG G' 28) S n, 0, 0) := by
  unfold F_Sight_total_l5_32 at K
  unfold Sf_Sight_total_l5_32 at hs
  try simp only [Nat.reduceAdd] at K hs
  refine z_go2 M.1 32 [(.istore 5, 2), (.iload_n 3, 1), (.iload 5, 2), (.iconst (-1), 1)] (38, [(5, .inl s0), (0, z_r 36), (1, .inl x1), (2, .inl x2), (3, .inl x3), (4, .inl x4)], [.inl (-1), .inl s0, .inl x3], zW T' (zwG G' 28) S n, 0, 0) (by decide +kernel) rfl ⟨trivial, trivial, trivial, trivial, trivial⟩ ?_
  refine z_icmp_ne 45 M.1 (off := 7) (by decide +kernel) (by decide) (fun c38 => ?_) (fun c38 => ?_)
  · rw [if_neg c38] at K hs
    refine z_go2 M.1 45 [(.iload 5, 2), (.iadd, 1), (.istore_n 3, 1), (.iinc 4 1, 3), (.goto (-47), 3)] (5, [(4, .inl (x4 + 1)), (3, .inl (x3 + s0)), (5, .inl s0), (0, z_r 36), (1, .inl x1), (2, .inl x2)], [], zW T' (zwG G' 28) S n, 0, 0) (by decide +kernel) rfl ⟨trivial, trivial, trivial, trivial, trivial, trivial⟩ ?_
    exact z_lvs (lv' := [(0, z_r 36), (1, .inl x1), (2, .inl x2), (3, .inl (x3 + s0)), (4, .inl (x4 + 1))]) [3, 4, 5, 1, 0] rfl (hC (x3 + s0) (x4 + 1) K hs)
  · rw [if_pos c38] at K hs
    refine z_go2 M.1 41 [(.iconst 0, 1), (.goto 5, 3), (.iadd, 1), (.istore_n 3, 1), (.iinc 4 1, 3), (.goto (-47), 3)] (5, [(4, .inl (x4 + 1)), (3, .inl (x3 + 0)), (5, .inl s0), (0, z_r 36), (1, .inl x1), (2, .inl x2)], [], zW T' (zwG G' 28) S n, 0, 0) (by decide +kernel) rfl ⟨trivial, trivial, trivial, trivial, trivial, trivial, trivial⟩ ?_
    exact z_lvs (lv' := [(0, z_r 36), (1, .inl x1), (2, .inl x2), (3, .inl (x3 + 0)), (4, .inl (x4 + 1))]) [3, 4, 5, 1, 0] rfl (hC (x3 + 0) (x4 + 1) K hs)
def F_Sight_total_L5 (wd : Nat) (S : (Nat → Nat → Int32)) (x1 : Int32) (x2 : Int32) : Nat → Int32 → Int32 → (Int32)
  | 0, x3, x4 => x3
  | f + 1, x3, x4 => (if (30 : Int32) ≤ x4 then x3 else (if (F_T_isIn S x1 x4) = 0 then (F_Sight_total_l5_32 wd (F_Sight_total_L5 wd S x1 x2 f) S x1 x2 x3 x4 (-1)) else (F_Sight_total_l5_32 wd (F_Sight_total_L5 wd S x1 x2 f) S x1 x2 x3 x4 (F_Sight_value wd S x4 x2))))
def Sf_Sight_total_L5 (wd : Nat) (S : (Nat → Nat → Int32)) (x1 : Int32) (x2 : Int32) : Nat → Int32 → Int32 → Prop
  | 0, _, _ => False
  | f + 1, x3, x4 => (if (30 : Int32) ≤ x4 then True else (if (F_T_isIn S x1 x4) = 0 then (Sf_Sight_total_l5_32 wd (F_Sight_total_L5 wd S x1 x2 f) (Sf_Sight_total_L5 wd S x1 x2 f) S x1 x2 x3 x4 (-1)) else (Sf_Sight_value wd S x4 x2 ∧ (Sf_Sight_total_l5_32 wd (F_Sight_total_L5 wd S x1 x2 f) (Sf_Sight_total_L5 wd S x1 x2 f) S x1 x2 x3 x4 (F_Sight_value wd S x4 x2)))))
theorem t_Sight_total_L5_9 {X : z_X} {Post : Option z_V → z_W → Prop} (M : z_M X zm_Sight_total rm_Sight_total Post) {T' : Nat → Nat × Nat} {G' : Nat → Nat → Option Nat} {n : Nat} {Q : (Int32) → Prop} (S : (Nat → Nat → Int32))  (x1 : Int32) (x2 : Int32) (hE : ∀ (y3 : Int32), Q y3 → z_G X zm_Sight_total (55, [(3, .inl y3)], [], zW T' (zwG G' 9) S n, 0, 0)) (f : Nat) : ∀ (x3 : Int32) (x4 : Int32), Q (F_Sight_total_L5 9 S x1 x2 f x3 x4) → Sf_Sight_total_L5 9 S x1 x2 f x3 x4 → z_G X zm_Sight_total (5, [(0, z_r 36), (1, .inl x1), (2, .inl x2), (3, .inl x3), (4, .inl x4)], [], zW T' (zwG G' 9) S n, 0, 0) := by
  induction f with
  | zero => intro x3 x4 K hs; exact False.elim hs
  | succ f hC =>
    intro x3 x4 K hs
    rw [F_Sight_total_L5] at K
    rw [Sf_Sight_total_L5] at hs
    try simp only [Nat.reduceAdd] at K hs
    refine z_go2 M.1 5 [(.iload 4, 2), (.bipush 30, 2)] (9, [(0, z_r 36), (1, .inl x1), (2, .inl x2), (3, .inl x3), (4, .inl x4)], [.inl 30, .inl x4], zW T' (zwG G' 9) S n, 0, 0) (by decide +kernel) rfl ⟨trivial, trivial, trivial⟩ ?_
    refine z_icmp_ge 55 M.1 (off := 46) (by decide +kernel) (by decide) (fun c9 => ?_) (fun c9 => ?_)
    · rw [if_pos c9] at K hs
      exact z_lvs (lv' := [(3, .inl x3)]) [3] rfl (hE x3 K)
    · rw [if_neg c9] at K hs
      refine z_go2 M.1 12 [(.iload_n 1, 1), (.iload 4, 2)] (15, [(0, z_r 36), (1, .inl x1), (2, .inl x2), (3, .inl x3), (4, .inl x4)], [.inl x4, .inl x1], zW T' (zwG G' 9) S n, 0, 0) (by decide +kernel) rfl ⟨trivial, trivial, trivial⟩ ?_
      refine z_callS M.1 (av := [.inl x1, .inl x4]) (st := []) (by decide +kernel) (c_T_isIn T' (zwG G' 9) S n x1 x4) M.2.1 zl_Sight_90 zs_T_isIn ⟨by decide, by decide, by decide, by decide⟩ rfl (Nat.le_of_ble_eq_true rfl) (fun v w' hv => ?_)
      obtain ⟨rfl, rfl⟩ := hv
      show z_G X zm_Sight_total (18, [(0, z_r 36), (1, .inl x1), (2, .inl x2), (3, .inl x3), (4, .inl x4)], [.inl (F_T_isIn S x1 x4)], zW T' (zwG G' 9) S n, 0, 0)
      refine z_if_eq 31 M.1 (off := 13) (by decide +kernel) (by decide) (fun c18 => ?_) (fun c18 => ?_)
      · rw [if_pos c18] at K hs
        refine z_go2 M.1 31 [(.iconst (-1), 1)] (32, [(0, z_r 36), (1, .inl x1), (2, .inl x2), (3, .inl x3), (4, .inl x4)], [.inl (-1)], zW T' (zwG G' 9) S n, 0, 0) (by decide +kernel) rfl ⟨trivial, trivial⟩ ?_
        exact z_lvs (lv' := [(0, z_r 36), (1, .inl x1), (2, .inl x2), (3, .inl x3), (4, .inl x4)]) [0, 1, 2, 3, 4] rfl (t_Sight_total_l5_32_9 M (F_Sight_total_L5 9 S x1 x2 f) (Sf_Sight_total_L5 9 S x1 x2 f) S x1 x2 x3 x4 (-1) hE hC K hs)
      · rw [if_neg c18] at K hs
        refine z_go2 M.1 21 [(.aload_n 0, 1), (.iload 4, 2), (.iload_n 2, 1)] (25, [(0, z_r 36), (1, .inl x1), (2, .inl x2), (3, .inl x3), (4, .inl x4)], [.inl x2, .inl x4, z_r 36], zW T' (zwG G' 9) S n, 0, 0) (by decide +kernel) rfl ⟨trivial, trivial, trivial, trivial⟩ ?_
        refine z_callV M.1 (av := [.inl x4, .inl x2]) (st := []) (a := 36) (ci := 8) (by decide +kernel) (c_Sight_value_9 T' G' S n x4 x2 hs.1) M.2.1 zl_Sight_110 zv_Sight_value rfl rfl rfl ⟨by decide, by decide, by decide, by decide⟩ rfl (Nat.le_of_ble_eq_true rfl) (fun v w' hv => ?_)
        obtain ⟨rfl, rfl⟩ := hv
        replace hs := hs.2
        show z_G X zm_Sight_total (28, [(0, z_r 36), (1, .inl x1), (2, .inl x2), (3, .inl x3), (4, .inl x4)], [.inl (F_Sight_value 9 S x4 x2)], zW T' (zwG G' 9) S n, 0, 0)
        refine z_go2 M.1 28 [(.goto 4, 3)] (32, [(0, z_r 36), (1, .inl x1), (2, .inl x2), (3, .inl x3), (4, .inl x4)], [.inl (F_Sight_value 9 S x4 x2)], zW T' (zwG G' 9) S n, 0, 0) (by decide +kernel) rfl ⟨trivial, trivial⟩ ?_
        exact z_lvs (lv' := [(0, z_r 36), (1, .inl x1), (2, .inl x2), (3, .inl x3), (4, .inl x4)]) [0, 1, 2, 3, 4] rfl (t_Sight_total_l5_32_9 M (F_Sight_total_L5 9 S x1 x2 f) (Sf_Sight_total_L5 9 S x1 x2 f) S x1 x2 x3 x4 (F_Sight_value 9 S x4 x2) hE hC K hs)
theorem t_Sight_total_L5_28 {X : z_X} {Post : Option z_V → z_W → Prop} (M : z_M X zm_Sight_total rm_Sight_total Post) {T' : Nat → Nat × Nat} {G' : Nat → Nat → Option Nat} {n : Nat} {Q : (Int32) → Prop} (S : (Nat → Nat → Int32))  (x1 : Int32) (x2 : Int32) (hE : ∀ (y3 : Int32), Q y3 → z_G X zm_Sight_total (55, [(3, .inl y3)], [], zW T' (zwG G' 28) S n, 0, 0)) (f : Nat) : ∀ (x3 : Int32) (x4 : Int32), Q (F_Sight_total_L5 28 S x1 x2 f x3 x4) → Sf_Sight_total_L5 28 S x1 x2 f x3 x4 → z_G X zm_Sight_total (5, [(0, z_r 36), (1, .inl x1), (2, .inl x2), (3, .inl x3), (4, .inl x4)], [], zW T' (zwG G' 28) S n, 0, 0) := by
  induction f with
  | zero => intro x3 x4 K hs; exact False.elim hs
  | succ f hC =>
    intro x3 x4 K hs
    rw [F_Sight_total_L5] at K
    rw [Sf_Sight_total_L5] at hs
    try simp only [Nat.reduceAdd] at K hs
    refine z_go2 M.1 5 [(.iload 4, 2), (.bipush 30, 2)] (9, [(0, z_r 36), (1, .inl x1), (2, .inl x2), (3, .inl x3), (4, .inl x4)], [.inl 30, .inl x4], zW T' (zwG G' 28) S n, 0, 0) (by decide +kernel) rfl ⟨trivial, trivial, trivial⟩ ?_
    refine z_icmp_ge 55 M.1 (off := 46) (by decide +kernel) (by decide) (fun c9 => ?_) (fun c9 => ?_)
    · rw [if_pos c9] at K hs
      exact z_lvs (lv' := [(3, .inl x3)]) [3] rfl (hE x3 K)
    · rw [if_neg c9] at K hs
      refine z_go2 M.1 12 [(.iload_n 1, 1), (.iload 4, 2)] (15, [(0, z_r 36), (1, .inl x1), (2, .inl x2), (3, .inl x3), (4, .inl x4)], [.inl x4, .inl x1], zW T' (zwG G' 28) S n, 0, 0) (by decide +kernel) rfl ⟨trivial, trivial, trivial⟩ ?_
      refine z_callS M.1 (av := [.inl x1, .inl x4]) (st := []) (by decide +kernel) (c_T_isIn T' (zwG G' 28) S n x1 x4) M.2.1 zl_Sight_90 zs_T_isIn ⟨by decide, by decide, by decide, by decide⟩ rfl (Nat.le_of_ble_eq_true rfl) (fun v w' hv => ?_)
      obtain ⟨rfl, rfl⟩ := hv
      show z_G X zm_Sight_total (18, [(0, z_r 36), (1, .inl x1), (2, .inl x2), (3, .inl x3), (4, .inl x4)], [.inl (F_T_isIn S x1 x4)], zW T' (zwG G' 28) S n, 0, 0)
      refine z_if_eq 31 M.1 (off := 13) (by decide +kernel) (by decide) (fun c18 => ?_) (fun c18 => ?_)
      · rw [if_pos c18] at K hs
        refine z_go2 M.1 31 [(.iconst (-1), 1)] (32, [(0, z_r 36), (1, .inl x1), (2, .inl x2), (3, .inl x3), (4, .inl x4)], [.inl (-1)], zW T' (zwG G' 28) S n, 0, 0) (by decide +kernel) rfl ⟨trivial, trivial⟩ ?_
        exact z_lvs (lv' := [(0, z_r 36), (1, .inl x1), (2, .inl x2), (3, .inl x3), (4, .inl x4)]) [0, 1, 2, 3, 4] rfl (t_Sight_total_l5_32_28 M (F_Sight_total_L5 28 S x1 x2 f) (Sf_Sight_total_L5 28 S x1 x2 f) S x1 x2 x3 x4 (-1) hE hC K hs)
      · rw [if_neg c18] at K hs
        refine z_go2 M.1 21 [(.aload_n 0, 1), (.iload 4, 2), (.iload_n 2, 1)] (25, [(0, z_r 36), (1, .inl x1), (2, .inl x2), (3, .inl x3), (4, .inl x4)], [.inl x2, .inl x4, z_r 36], zW T' (zwG G' 28) S n, 0, 0) (by decide +kernel) rfl ⟨trivial, trivial, trivial, trivial⟩ ?_
        refine z_callV M.1 (av := [.inl x4, .inl x2]) (st := []) (a := 36) (ci := 8) (by decide +kernel) (c_Sight_value_28 T' G' S n x4 x2 hs.1) M.2.1 zl_Sight_110 zv_Sight_value rfl rfl rfl ⟨by decide, by decide, by decide, by decide⟩ rfl (Nat.le_of_ble_eq_true rfl) (fun v w' hv => ?_)
        obtain ⟨rfl, rfl⟩ := hv
        replace hs := hs.2
        show z_G X zm_Sight_total (28, [(0, z_r 36), (1, .inl x1), (2, .inl x2), (3, .inl x3), (4, .inl x4)], [.inl (F_Sight_value 28 S x4 x2)], zW T' (zwG G' 28) S n, 0, 0)
        refine z_go2 M.1 28 [(.goto 4, 3)] (32, [(0, z_r 36), (1, .inl x1), (2, .inl x2), (3, .inl x3), (4, .inl x4)], [.inl (F_Sight_value 28 S x4 x2)], zW T' (zwG G' 28) S n, 0, 0) (by decide +kernel) rfl ⟨trivial, trivial⟩ ?_
        exact z_lvs (lv' := [(0, z_r 36), (1, .inl x1), (2, .inl x2), (3, .inl x3), (4, .inl x4)]) [0, 1, 2, 3, 4] rfl (t_Sight_total_l5_32_28 M (F_Sight_total_L5 28 S x1 x2 f) (Sf_Sight_total_L5 28 S x1 x2 f) S x1 x2 x3 x4 (F_Sight_value 28 S x4 x2) hE hC K hs)
def F_Sight_total (wd : Nat) (S : (Nat → Nat → Int32)) (p1 : Int32) (p2 : Int32) : Int32 := (match F_Sight_total_L5 wd S p1 p2 1300 0 0 with | y3_5 => y3_5)
def Sf_Sight_total (wd : Nat) (S : (Nat → Nat → Int32)) (p1 : Int32) (p2 : Int32) : Prop := (Sf_Sight_total_L5 wd S p1 p2 1300 0 0 ∧ True)
theorem c_Sight_total_9 (T' : Nat → Nat × Nat) (G' : Nat → Nat → Option Nat) (S : (Nat → Nat → Int32)) (n : Nat) (p1 : Int32) (p2 : Int32) (hs : Sf_Sight_total 9 S p1 p2) : z_Run rm_Sight_total zm_Sight_total [z_r 36, .inl p1, .inl p2] (zW T' (zwG G' 9) S n) (zq (some (.inl (F_Sight_total 9 S p1 p2))) (zW T' (zwG G' 9) S n)) := by
  refine z_body (by decide) zf_Sight_ok (Nat.le_of_ble_eq_true rfl) (fun X M => ?_)
  obtain ⟨Q, hQ, K⟩ : ∃ Q : Int32 → Prop, (∀ v, Q v → zq (some (.inl (F_Sight_total 9 S p1 p2))) (zW T' (zwG G' 9) S n) (some (.inl v)) (zW T' (zwG G' 9) S n)) ∧ Q (F_Sight_total 9 S p1 p2) := ⟨fun o => F_Sight_total 9 S p1 p2 = o, fun v h => ⟨by rw [h], rfl⟩, rfl⟩
  show z_G X zm_Sight_total (0, [(0, z_r 36), (1, .inl p1), (2, .inl p2)], [], zW T' (zwG G' 9) S n, 0, 0)
  unfold F_Sight_total at K
  unfold Sf_Sight_total at hs
  try simp only [Nat.reduceAdd] at K hs
  refine z_go2 M.1 0 [(.iconst 0, 1), (.istore_n 3, 1), (.iconst 0, 1), (.istore 4, 2)] (5, [(4, .inl 0), (3, .inl 0), (0, z_r 36), (1, .inl p1), (2, .inl p2)], [], zW T' (zwG G' 9) S n, 0, 0) (by decide +kernel) rfl ⟨trivial, trivial, trivial, trivial, trivial⟩ ?_
  refine z_lvs (lv' := [(0, z_r 36), (1, .inl p1), (2, .inl p2), (3, .inl 0), (4, .inl 0)]) [2, 3, 4, 1, 0] rfl ?_
  refine t_Sight_total_L5_9 M (Q := fun o => F_Sight_total_L5 9 S p1 p2 1300 0 0 = o) S p1 p2 (fun y3_5 hL5 => ?_) 1300 0 0 rfl hs.1
  replace hs := hs.2
  rw [hL5] at K
  try dsimp only at K
  refine z_go2 M.1 55 [(.iload_n 3, 1)] (56, [(3, .inl y3_5)], [.inl y3_5], zW T' (zwG G' 9) S n, 0, 0) (by decide +kernel) rfl ⟨trivial, trivial⟩ ?_
  exact z_iret M (by decide +kernel) .int rfl rfl (by decide) (by decide) (hQ _ K)
theorem c_Sight_total_28 (T' : Nat → Nat × Nat) (G' : Nat → Nat → Option Nat) (S : (Nat → Nat → Int32)) (n : Nat) (p1 : Int32) (p2 : Int32) (hs : Sf_Sight_total 28 S p1 p2) : z_Run rm_Sight_total zm_Sight_total [z_r 36, .inl p1, .inl p2] (zW T' (zwG G' 28) S n) (zq (some (.inl (F_Sight_total 28 S p1 p2))) (zW T' (zwG G' 28) S n)) := by
  refine z_body (by decide) zf_Sight_ok (Nat.le_of_ble_eq_true rfl) (fun X M => ?_)
  obtain ⟨Q, hQ, K⟩ : ∃ Q : Int32 → Prop, (∀ v, Q v → zq (some (.inl (F_Sight_total 28 S p1 p2))) (zW T' (zwG G' 28) S n) (some (.inl v)) (zW T' (zwG G' 28) S n)) ∧ Q (F_Sight_total 28 S p1 p2) := ⟨fun o => F_Sight_total 28 S p1 p2 = o, fun v h => ⟨by rw [h], rfl⟩, rfl⟩
  show z_G X zm_Sight_total (0, [(0, z_r 36), (1, .inl p1), (2, .inl p2)], [], zW T' (zwG G' 28) S n, 0, 0)
  unfold F_Sight_total at K
  unfold Sf_Sight_total at hs
  try simp only [Nat.reduceAdd] at K hs
  refine z_go2 M.1 0 [(.iconst 0, 1), (.istore_n 3, 1), (.iconst 0, 1), (.istore 4, 2)] (5, [(4, .inl 0), (3, .inl 0), (0, z_r 36), (1, .inl p1), (2, .inl p2)], [], zW T' (zwG G' 28) S n, 0, 0) (by decide +kernel) rfl ⟨trivial, trivial, trivial, trivial, trivial⟩ ?_
  refine z_lvs (lv' := [(0, z_r 36), (1, .inl p1), (2, .inl p2), (3, .inl 0), (4, .inl 0)]) [2, 3, 4, 1, 0] rfl ?_
  refine t_Sight_total_L5_28 M (Q := fun o => F_Sight_total_L5 28 S p1 p2 1300 0 0 = o) S p1 p2 (fun y3_5 hL5 => ?_) 1300 0 0 rfl hs.1
  replace hs := hs.2
  rw [hL5] at K
  try dsimp only at K
  refine z_go2 M.1 55 [(.iload_n 3, 1)] (56, [(3, .inl y3_5)], [.inl y3_5], zW T' (zwG G' 28) S n, 0, 0) (by decide +kernel) rfl ⟨trivial, trivial⟩ ?_
  exact z_iret M (by decide +kernel) .int rfl rfl (by decide) (by decide) (hQ _ K)

-- TrackHouse$Sight.look
abbrev rm_Sight_look : Room := zr 3
def F_Sight_look_L33 (a : Nat) (x2 : Int32) : Nat → (Nat → Nat → Int32) → Int32 → ((Nat → Nat → Int32))
  | 0, S, x3 => S
  | f + 1, S, x3 => (if (30 : Int32) ≤ x3 then S else (if (F_World_has a S x3) = 0 then ((F_Sight_look_L33 a x2 f) S (x3 + 1)) else (z_let (F_Sight_lookAt a S x3 (F_World_rolesOf a S x2 (F_World_cell a S x3 8))) (fun S70 => ((F_Sight_look_L33 a x2 f) S70 (x3 + 1))))))
def Sf_Sight_look_L33 (a : Nat) (x2 : Int32) : Nat → (Nat → Nat → Int32) → Int32 → Prop
  | 0, _, _ => False
  | f + 1, S, x3 => (if (30 : Int32) ≤ x3 then True else (if (F_World_has a S x3) = 0 then ((Sf_Sight_look_L33 a x2 f) S (x3 + 1)) else (Sf_World_cell a S x3 8 ∧ (Sf_Sight_lookAt a S x3 (F_World_rolesOf a S x2 (F_World_cell a S x3 8)) ∧ (z_let (F_Sight_lookAt a S x3 (F_World_rolesOf a S x2 (F_World_cell a S x3 8))) (fun S70 => ((Sf_Sight_look_L33 a x2 f) S70 (x3 + 1))))))))
theorem t_Sight_look_L33_9 {X : z_X} {Post : Option z_V → z_W → Prop} (M : z_M X zm_Sight_look rm_Sight_look Post) {T' : Nat → Nat × Nat} {G' : Nat → Nat → Option Nat} {n : Nat} {q0 : Nat} {Q : ((Nat → Nat → Int32)) → Prop}  (x2 : Int32) (hE : ∀ (S' : (Nat → Nat → Int32)), Q S' → z_G X zm_Sight_look (79, [], [], zW T' (zwG G' 9) S' n, 0, 0)) (f : Nat) : ∀ (S : (Nat → Nat → Int32)) (x3 : Int32), Q (F_Sight_look_L33 9 x2 f S x3) → Sf_Sight_look_L33 9 x2 f S x3 → z_G X zm_Sight_look (33, [(0, z_r 36), (2, .inl x2), (3, .inl x3)], [], zW T' (zwG G' 9) S n, 0, 0) := by
  induction f with
  | zero => intro S x3 K hs; exact False.elim hs
  | succ f hC =>
    intro S x3 K hs
    rw [F_Sight_look_L33] at K
    rw [Sf_Sight_look_L33] at hs
    try simp only [Nat.reduceAdd] at K hs
    refine z_go2 M.1 33 [(.iload_n 3, 1), (.bipush 30, 2)] (36, [(0, z_r 36), (2, .inl x2), (3, .inl x3)], [.inl 30, .inl x3], zW T' (zwG G' 9) S n, 0, 0) (by decide +kernel) rfl ⟨trivial, trivial, trivial⟩ ?_
    refine z_icmp_ge 79 M.1 (off := 43) (by decide +kernel) (by decide) (fun c36 => ?_) (fun c36 => ?_)
    · rw [if_pos c36] at K hs
      exact z_lvs (lv' := []) [] rfl (hE S K)
    · rw [if_neg c36] at K hs
      refine z_go2 M.1 39 [(.aload_n 0, 1), (.getfield 40, 3), (.iload_n 3, 1)] (44, [(0, z_r 36), (2, .inl x2), (3, .inl x3)], [.inl x3, z_r 9], zW T' (zwG G' 9) S n, 0, 0) (by decide +kernel) rfl ⟨trivial, rfl, trivial, trivial⟩ ?_
      refine z_callV M.1 (av := [.inl x3]) (st := []) (a := 9) (ci := 10) (by decide +kernel) (c_World_has_9 T' (zwG G' 9) S n x3) M.2.1 zl_Sight_57 zv_World_has rfl rfl rfl ⟨by decide, by decide, by decide, by decide⟩ rfl (Nat.le_of_ble_eq_true rfl) (fun v w' hv => ?_)
      obtain ⟨rfl, rfl⟩ := hv
      show z_G X zm_Sight_look (47, [(0, z_r 36), (2, .inl x2), (3, .inl x3)], [.inl (F_World_has 9 S x3)], zW T' (zwG G' 9) S n, 0, 0)
      refine z_if_eq 73 M.1 (off := 26) (by decide +kernel) (by decide) (fun c47 => ?_) (fun c47 => ?_)
      · rw [if_pos c47] at K hs
        refine z_go2 M.1 73 [(.iinc 3 1, 3), (.goto (-43), 3)] (33, [(3, .inl (x3 + 1)), (0, z_r 36), (2, .inl x2)], [], zW T' (zwG G' 9) S n, 0, 0) (by decide +kernel) rfl ⟨trivial, trivial, trivial⟩ ?_
        exact z_lvs (lv' := [(0, z_r 36), (2, .inl x2), (3, .inl (x3 + 1))]) [1, 2, 0] rfl (hC S (x3 + 1) K hs)
      · rw [if_neg c47] at K hs
        refine z_go2 M.1 50 [(.aload_n 0, 1), (.iload_n 3, 1), (.aload_n 0, 1), (.getfield 40, 3), (.iload_n 2, 1), (.aload_n 0, 1), (.getfield 40, 3), (.iload_n 3, 1), (.bipush 8, 2)] (64, [(0, z_r 36), (2, .inl x2), (3, .inl x3)], [.inl 8, .inl x3, z_r 9, .inl x2, z_r 9, .inl x3, z_r 36], zW T' (zwG G' 9) S n, 0, 0) (by decide +kernel) rfl ⟨trivial, trivial, trivial, rfl, trivial, trivial, rfl, trivial, trivial, trivial⟩ ?_
        refine z_callV M.1 (av := [.inl x3, .inl 8]) (st := [.inl x2, z_r 9, .inl x3, z_r 36]) (a := 9) (ci := 10) (by decide +kernel) (c_World_cell_9 T' (zwG G' 9) S n x3 8 hs.1) M.2.1 zl_Sight_61 zv_World_cell rfl rfl rfl ⟨by decide, by decide, by decide, by decide⟩ rfl (Nat.le_of_ble_eq_true rfl) (fun v w' hv => ?_)
        obtain ⟨rfl, rfl⟩ := hv
        replace hs := hs.2
        show z_G X zm_Sight_look (67, [(0, z_r 36), (2, .inl x2), (3, .inl x3)], [.inl (F_World_cell 9 S x3 8), .inl x2, z_r 9, .inl x3, z_r 36], zW T' (zwG G' 9) S n, 0, 0)
        refine z_callV M.1 (av := [.inl x2, .inl (F_World_cell 9 S x3 8)]) (st := [.inl x3, z_r 36]) (a := 9) (ci := 10) (by decide +kernel) (c_World_rolesOf_9 T' (zwG G' 9) S n x2 (F_World_cell 9 S x3 8)) M.2.1 zl_Sight_65 zv_World_rolesOf rfl rfl rfl ⟨by decide, by decide, by decide, by decide⟩ rfl (Nat.le_of_ble_eq_true rfl) (fun v w' hv => ?_)
        obtain ⟨rfl, rfl⟩ := hv
        show z_G X zm_Sight_look (70, [(0, z_r 36), (2, .inl x2), (3, .inl x3)], [.inl (F_World_rolesOf 9 S x2 (F_World_cell 9 S x3 8)), .inl x3, z_r 36], zW T' (zwG G' 9) S n, 0, 0)
        refine z_callV M.1 (av := [.inl x3, .inl (F_World_rolesOf 9 S x2 (F_World_cell 9 S x3 8))]) (st := []) (a := 36) (ci := 8) (by decide +kernel) (c_Sight_lookAt_9 T' G' S n x3 (F_World_rolesOf 9 S x2 (F_World_cell 9 S x3 8)) hs.1) M.2.1 zl_Sight_68 zv_Sight_lookAt rfl rfl rfl ⟨by decide, by decide, by decide, by decide⟩ rfl (Nat.le_of_ble_eq_true rfl) (fun v w' hv => ?_)
        replace hs := hs.2
        obtain ⟨S70, hF70⟩ : ∃ y, F_Sight_lookAt 9 S x3 (F_World_rolesOf 9 S x2 (F_World_cell 9 S x3 8)) = y := ⟨_, rfl⟩
        rw [hF70] at K hv hs
        try dsimp only [z_let] at K hs
        obtain ⟨rfl, rfl⟩ := hv
        show z_G X zm_Sight_look (73, [(0, z_r 36), (2, .inl x2), (3, .inl x3)], [], zW T' (zwG G' 9) S70 n, 0, 0)
        refine z_go2 M.1 73 [(.iinc 3 1, 3), (.goto (-43), 3)] (33, [(3, .inl (x3 + 1)), (0, z_r 36), (2, .inl x2)], [], zW T' (zwG G' 9) S70 n, 0, 0) (by decide +kernel) rfl ⟨trivial, trivial, trivial⟩ ?_
        exact z_lvs (lv' := [(0, z_r 36), (2, .inl x2), (3, .inl (x3 + 1))]) [1, 2, 0] rfl (hC S70 (x3 + 1) K hs)
theorem t_Sight_look_L33_28 {X : z_X} {Post : Option z_V → z_W → Prop} (M : z_M X zm_Sight_look rm_Sight_look Post) {T' : Nat → Nat × Nat} {G' : Nat → Nat → Option Nat} {n : Nat} {q0 : Nat} {Q : ((Nat → Nat → Int32)) → Prop}  (x2 : Int32) (hE : ∀ (S' : (Nat → Nat → Int32)), Q S' → z_G X zm_Sight_look (79, [], [], zW T' (zwG G' 28) S' n, 0, 0)) (f : Nat) : ∀ (S : (Nat → Nat → Int32)) (x3 : Int32), Q (F_Sight_look_L33 28 x2 f S x3) → Sf_Sight_look_L33 28 x2 f S x3 → z_G X zm_Sight_look (33, [(0, z_r 36), (2, .inl x2), (3, .inl x3)], [], zW T' (zwG G' 28) S n, 0, 0) := by
  induction f with
  | zero => intro S x3 K hs; exact False.elim hs
  | succ f hC =>
    intro S x3 K hs
    rw [F_Sight_look_L33] at K
    rw [Sf_Sight_look_L33] at hs
    try simp only [Nat.reduceAdd] at K hs
    refine z_go2 M.1 33 [(.iload_n 3, 1), (.bipush 30, 2)] (36, [(0, z_r 36), (2, .inl x2), (3, .inl x3)], [.inl 30, .inl x3], zW T' (zwG G' 28) S n, 0, 0) (by decide +kernel) rfl ⟨trivial, trivial, trivial⟩ ?_
    refine z_icmp_ge 79 M.1 (off := 43) (by decide +kernel) (by decide) (fun c36 => ?_) (fun c36 => ?_)
    · rw [if_pos c36] at K hs
      exact z_lvs (lv' := []) [] rfl (hE S K)
    · rw [if_neg c36] at K hs
      refine z_go2 M.1 39 [(.aload_n 0, 1), (.getfield 40, 3), (.iload_n 3, 1)] (44, [(0, z_r 36), (2, .inl x2), (3, .inl x3)], [.inl x3, z_r 28], zW T' (zwG G' 28) S n, 0, 0) (by decide +kernel) rfl ⟨trivial, rfl, trivial, trivial⟩ ?_
      refine z_callV M.1 (av := [.inl x3]) (st := []) (a := 28) (ci := 10) (by decide +kernel) (c_World_has_28 T' (zwG G' 28) S n x3) M.2.1 zl_Sight_57 zv_World_has rfl rfl rfl ⟨by decide, by decide, by decide, by decide⟩ rfl (Nat.le_of_ble_eq_true rfl) (fun v w' hv => ?_)
      obtain ⟨rfl, rfl⟩ := hv
      show z_G X zm_Sight_look (47, [(0, z_r 36), (2, .inl x2), (3, .inl x3)], [.inl (F_World_has 28 S x3)], zW T' (zwG G' 28) S n, 0, 0)
      refine z_if_eq 73 M.1 (off := 26) (by decide +kernel) (by decide) (fun c47 => ?_) (fun c47 => ?_)
      · rw [if_pos c47] at K hs
        refine z_go2 M.1 73 [(.iinc 3 1, 3), (.goto (-43), 3)] (33, [(3, .inl (x3 + 1)), (0, z_r 36), (2, .inl x2)], [], zW T' (zwG G' 28) S n, 0, 0) (by decide +kernel) rfl ⟨trivial, trivial, trivial⟩ ?_
        exact z_lvs (lv' := [(0, z_r 36), (2, .inl x2), (3, .inl (x3 + 1))]) [1, 2, 0] rfl (hC S (x3 + 1) K hs)
      · rw [if_neg c47] at K hs
        refine z_go2 M.1 50 [(.aload_n 0, 1), (.iload_n 3, 1), (.aload_n 0, 1), (.getfield 40, 3), (.iload_n 2, 1), (.aload_n 0, 1), (.getfield 40, 3), (.iload_n 3, 1), (.bipush 8, 2)] (64, [(0, z_r 36), (2, .inl x2), (3, .inl x3)], [.inl 8, .inl x3, z_r 28, .inl x2, z_r 28, .inl x3, z_r 36], zW T' (zwG G' 28) S n, 0, 0) (by decide +kernel) rfl ⟨trivial, trivial, trivial, rfl, trivial, trivial, rfl, trivial, trivial, trivial⟩ ?_
        refine z_callV M.1 (av := [.inl x3, .inl 8]) (st := [.inl x2, z_r 28, .inl x3, z_r 36]) (a := 28) (ci := 10) (by decide +kernel) (c_World_cell_28 T' (zwG G' 28) S n x3 8 hs.1) M.2.1 zl_Sight_61 zv_World_cell rfl rfl rfl ⟨by decide, by decide, by decide, by decide⟩ rfl (Nat.le_of_ble_eq_true rfl) (fun v w' hv => ?_)
        obtain ⟨rfl, rfl⟩ := hv
        replace hs := hs.2
        show z_G X zm_Sight_look (67, [(0, z_r 36), (2, .inl x2), (3, .inl x3)], [.inl (F_World_cell 28 S x3 8), .inl x2, z_r 28, .inl x3, z_r 36], zW T' (zwG G' 28) S n, 0, 0)
        refine z_callV M.1 (av := [.inl x2, .inl (F_World_cell 28 S x3 8)]) (st := [.inl x3, z_r 36]) (a := 28) (ci := 10) (by decide +kernel) (c_World_rolesOf_28 T' (zwG G' 28) S n x2 (F_World_cell 28 S x3 8)) M.2.1 zl_Sight_65 zv_World_rolesOf rfl rfl rfl ⟨by decide, by decide, by decide, by decide⟩ rfl (Nat.le_of_ble_eq_true rfl) (fun v w' hv => ?_)
        obtain ⟨rfl, rfl⟩ := hv
        show z_G X zm_Sight_look (70, [(0, z_r 36), (2, .inl x2), (3, .inl x3)], [.inl (F_World_rolesOf 28 S x2 (F_World_cell 28 S x3 8)), .inl x3, z_r 36], zW T' (zwG G' 28) S n, 0, 0)
        refine z_callV M.1 (av := [.inl x3, .inl (F_World_rolesOf 28 S x2 (F_World_cell 28 S x3 8))]) (st := []) (a := 36) (ci := 8) (by decide +kernel) (c_Sight_lookAt_28 T' G' S n x3 (F_World_rolesOf 28 S x2 (F_World_cell 28 S x3 8)) hs.1) M.2.1 zl_Sight_68 zv_Sight_lookAt rfl rfl rfl ⟨by decide, by decide, by decide, by decide⟩ rfl (Nat.le_of_ble_eq_true rfl) (fun v w' hv => ?_)
        replace hs := hs.2
        obtain ⟨S70, hF70⟩ : ∃ y, F_Sight_lookAt 28 S x3 (F_World_rolesOf 28 S x2 (F_World_cell 28 S x3 8)) = y := ⟨_, rfl⟩
        rw [hF70] at K hv hs
        try dsimp only [z_let] at K hs
        obtain ⟨rfl, rfl⟩ := hv
        show z_G X zm_Sight_look (73, [(0, z_r 36), (2, .inl x2), (3, .inl x3)], [], zW T' (zwG G' 28) S70 n, 0, 0)
        refine z_go2 M.1 73 [(.iinc 3 1, 3), (.goto (-43), 3)] (33, [(3, .inl (x3 + 1)), (0, z_r 36), (2, .inl x2)], [], zW T' (zwG G' 28) S70 n, 0, 0) (by decide +kernel) rfl ⟨trivial, trivial, trivial⟩ ?_
        exact z_lvs (lv' := [(0, z_r 36), (2, .inl x2), (3, .inl (x3 + 1))]) [1, 2, 0] rfl (hC S70 (x3 + 1) K hs)
def F_Sight_look (a : Nat) (S : (Nat → Nat → Int32)) (p2 : Int32) : (Nat → Nat → Int32) := (z_let (zFill (z_uS (z_uS S 36 8 0) 36 9 0) 41 4 0) (fun S20 => (z_let (zFill S20 42 3 0) (fun S28 => (match F_Sight_look_L33 a p2 1300 S28 0 with | S33 => S33)))))
def Sf_Sight_look (a : Nat) (S : (Nat → Nat → Int32)) (p2 : Int32) : Prop := (z_let (zFill (z_uS (z_uS S 36 8 0) 36 9 0) 41 4 0) (fun S20 => (z_let (zFill S20 42 3 0) (fun S28 => (Sf_Sight_look_L33 a p2 1300 S28 0 ∧ True)))))
theorem c_Sight_look_9 (T' : Nat → Nat × Nat) (G' : Nat → Nat → Option Nat) (q0 : Nat) (S : (Nat → Nat → Int32)) (n : Nat) (p2 : Int32) (hs : Sf_Sight_look 9 S p2) : z_Run rm_Sight_look zm_Sight_look [z_r 36, z_r 9, .inl p2] (zW T' (zwG G' q0) S n) (zq none (zW T' (zwG G' 9) (F_Sight_look 9 S p2) n)) := by
  refine z_body (by decide) zf_Sight_ok (Nat.le_of_ble_eq_true rfl) (fun X M => ?_)
  obtain ⟨Q, hQ, K⟩ : ∃ Q : (Nat → Nat → Int32) → Prop, (∀ S', Q S' → zq none (zW T' (zwG G' 9) (F_Sight_look 9 S p2) n) none (zW T' (zwG G' 9) S' n)) ∧ Q (F_Sight_look 9 S p2) := ⟨fun o => F_Sight_look 9 S p2 = o, fun S' h => ⟨rfl, by rw [h]⟩, rfl⟩
  show z_G X zm_Sight_look (0, [(0, z_r 36), (1, z_r 9), (2, .inl p2)], [], zW T' (zwG G' q0) S n, 0, 0)
  unfold F_Sight_look at K
  unfold Sf_Sight_look at hs
  try simp only [Nat.reduceAdd] at K hs
  refine z_go2 M.1 0 [(.aload_n 0, 1), (.aload_n 1, 1)] (2, [(0, z_r 36), (1, z_r 9), (2, .inl p2)], [z_r 9, z_r 36], zW T' (zwG G' q0) S n, 0, 0) (by decide +kernel) rfl ⟨trivial, trivial, trivial⟩ ?_
  refine z_putw M.1 (idx := 40) (by decide +kernel) (by decide) ?_
  refine z_go2 M.1 5 [(.aload_n 0, 1), (.iconst 0, 1), (.putfield 44, 3), (.aload_n 0, 1), (.iconst 0, 1), (.putfield 48, 3), (.aload_n 0, 1), (.getfield 24, 3), (.iconst 0, 1)] (20, [(0, z_r 36), (1, z_r 9), (2, .inl p2)], [.inl 0, z_r 41], zW T' (zwG G' 9) (z_uS (z_uS S 36 8 0) 36 9 0) n, 0, 0) (by decide +kernel) rfl ⟨trivial, trivial, ⟨rfl, trivial⟩, trivial, trivial, ⟨rfl, trivial⟩, trivial, rfl, trivial, trivial⟩ ?_
  refine z_callS M.1 (av := [z_r 41, .inl 0]) (st := []) (by decide +kernel) (c_fill (zT T') (zG (zwG G' 9)) (z_uS (z_uS S 36 8 0) 36 9 0) n 41 4 rfl (by decide) 0) M.2.1 zl_Sight_51 zs_Arrays_fill ⟨by decide, by decide, by decide, by decide⟩ rfl (Nat.le_of_ble_eq_true rfl) (fun v w' hv => ?_)
  obtain ⟨S20, hF20⟩ : ∃ y, zFill (z_uS (z_uS S 36 8 0) 36 9 0) 41 4 0 = y := ⟨_, rfl⟩
  replace hv : v = none ∧ w' = zW T' (zwG G' 9) (zFill (z_uS (z_uS S 36 8 0) 36 9 0) 41 4 0) n := hv
  rw [hF20] at K hv hs
  try dsimp only [z_let] at K hs
  obtain ⟨rfl, rfl⟩ := hv
  show z_G X zm_Sight_look (23, [(0, z_r 36), (1, z_r 9), (2, .inl p2)], [], zW T' (zwG G' 9) S20 n, 0, 0)
  refine z_go2 M.1 23 [(.aload_n 0, 1), (.getfield 27, 3), (.iconst 0, 1)] (28, [(0, z_r 36), (1, z_r 9), (2, .inl p2)], [.inl 0, z_r 42], zW T' (zwG G' 9) S20 n, 0, 0) (by decide +kernel) rfl ⟨trivial, rfl, trivial, trivial⟩ ?_
  refine z_callS M.1 (av := [z_r 42, .inl 0]) (st := []) (by decide +kernel) (c_fill (zT T') (zG (zwG G' 9)) S20 n 42 3 rfl (by decide) 0) M.2.1 zl_Sight_51 zs_Arrays_fill ⟨by decide, by decide, by decide, by decide⟩ rfl (Nat.le_of_ble_eq_true rfl) (fun v w' hv => ?_)
  obtain ⟨S28, hF28⟩ : ∃ y, zFill S20 42 3 0 = y := ⟨_, rfl⟩
  replace hv : v = none ∧ w' = zW T' (zwG G' 9) (zFill S20 42 3 0) n := hv
  rw [hF28] at K hv hs
  try dsimp only [z_let] at K hs
  obtain ⟨rfl, rfl⟩ := hv
  show z_G X zm_Sight_look (31, [(0, z_r 36), (1, z_r 9), (2, .inl p2)], [], zW T' (zwG G' 9) S28 n, 0, 0)
  refine z_go2 M.1 31 [(.iconst 0, 1), (.istore_n 3, 1)] (33, [(3, .inl 0), (0, z_r 36), (1, z_r 9), (2, .inl p2)], [], zW T' (zwG G' 9) S28 n, 0, 0) (by decide +kernel) rfl ⟨trivial, trivial, trivial⟩ ?_
  refine z_lvs (lv' := [(0, z_r 36), (2, .inl p2), (3, .inl 0)]) [1, 3, 0] rfl ?_
  refine t_Sight_look_L33_9 M (q0 := q0) (Q := fun o => F_Sight_look_L33 9 p2 1300 S28 0 = o) p2 (fun S33 hL33 => ?_) 1300 S28 0 rfl hs.1
  replace hs := hs.2
  rw [hL33] at K
  try dsimp only at K
  exact z_vret M (by decide +kernel) rfl (by decide) (by decide) (hQ _ K)
theorem c_Sight_look_28 (T' : Nat → Nat × Nat) (G' : Nat → Nat → Option Nat) (q0 : Nat) (S : (Nat → Nat → Int32)) (n : Nat) (p2 : Int32) (hs : Sf_Sight_look 28 S p2) : z_Run rm_Sight_look zm_Sight_look [z_r 36, z_r 28, .inl p2] (zW T' (zwG G' q0) S n) (zq none (zW T' (zwG G' 28) (F_Sight_look 28 S p2) n)) := by
  refine z_body (by decide) zf_Sight_ok (Nat.le_of_ble_eq_true rfl) (fun X M => ?_)
  obtain ⟨Q, hQ, K⟩ : ∃ Q : (Nat → Nat → Int32) → Prop, (∀ S', Q S' → zq none (zW T' (zwG G' 28) (F_Sight_look 28 S p2) n) none (zW T' (zwG G' 28) S' n)) ∧ Q (F_Sight_look 28 S p2) := ⟨fun o => F_Sight_look 28 S p2 = o, fun S' h => ⟨rfl, by rw [h]⟩, rfl⟩
  show z_G X zm_Sight_look (0, [(0, z_r 36), (1, z_r 28), (2, .inl p2)], [], zW T' (zwG G' q0) S n, 0, 0)
  unfold F_Sight_look at K
  unfold Sf_Sight_look at hs
  try simp only [Nat.reduceAdd] at K hs
  refine z_go2 M.1 0 [(.aload_n 0, 1), (.aload_n 1, 1)] (2, [(0, z_r 36), (1, z_r 28), (2, .inl p2)], [z_r 28, z_r 36], zW T' (zwG G' q0) S n, 0, 0) (by decide +kernel) rfl ⟨trivial, trivial, trivial⟩ ?_
  refine z_putw M.1 (idx := 40) (by decide +kernel) (by decide) ?_
  refine z_go2 M.1 5 [(.aload_n 0, 1), (.iconst 0, 1), (.putfield 44, 3), (.aload_n 0, 1), (.iconst 0, 1), (.putfield 48, 3), (.aload_n 0, 1), (.getfield 24, 3), (.iconst 0, 1)] (20, [(0, z_r 36), (1, z_r 28), (2, .inl p2)], [.inl 0, z_r 41], zW T' (zwG G' 28) (z_uS (z_uS S 36 8 0) 36 9 0) n, 0, 0) (by decide +kernel) rfl ⟨trivial, trivial, ⟨rfl, trivial⟩, trivial, trivial, ⟨rfl, trivial⟩, trivial, rfl, trivial, trivial⟩ ?_
  refine z_callS M.1 (av := [z_r 41, .inl 0]) (st := []) (by decide +kernel) (c_fill (zT T') (zG (zwG G' 28)) (z_uS (z_uS S 36 8 0) 36 9 0) n 41 4 rfl (by decide) 0) M.2.1 zl_Sight_51 zs_Arrays_fill ⟨by decide, by decide, by decide, by decide⟩ rfl (Nat.le_of_ble_eq_true rfl) (fun v w' hv => ?_)
  obtain ⟨S20, hF20⟩ : ∃ y, zFill (z_uS (z_uS S 36 8 0) 36 9 0) 41 4 0 = y := ⟨_, rfl⟩
  replace hv : v = none ∧ w' = zW T' (zwG G' 28) (zFill (z_uS (z_uS S 36 8 0) 36 9 0) 41 4 0) n := hv
  rw [hF20] at K hv hs
  try dsimp only [z_let] at K hs
  obtain ⟨rfl, rfl⟩ := hv
  show z_G X zm_Sight_look (23, [(0, z_r 36), (1, z_r 28), (2, .inl p2)], [], zW T' (zwG G' 28) S20 n, 0, 0)
  refine z_go2 M.1 23 [(.aload_n 0, 1), (.getfield 27, 3), (.iconst 0, 1)] (28, [(0, z_r 36), (1, z_r 28), (2, .inl p2)], [.inl 0, z_r 42], zW T' (zwG G' 28) S20 n, 0, 0) (by decide +kernel) rfl ⟨trivial, rfl, trivial, trivial⟩ ?_
  refine z_callS M.1 (av := [z_r 42, .inl 0]) (st := []) (by decide +kernel) (c_fill (zT T') (zG (zwG G' 28)) S20 n 42 3 rfl (by decide) 0) M.2.1 zl_Sight_51 zs_Arrays_fill ⟨by decide, by decide, by decide, by decide⟩ rfl (Nat.le_of_ble_eq_true rfl) (fun v w' hv => ?_)
  obtain ⟨S28, hF28⟩ : ∃ y, zFill S20 42 3 0 = y := ⟨_, rfl⟩
  replace hv : v = none ∧ w' = zW T' (zwG G' 28) (zFill S20 42 3 0) n := hv
  rw [hF28] at K hv hs
  try dsimp only [z_let] at K hs
  obtain ⟨rfl, rfl⟩ := hv
  show z_G X zm_Sight_look (31, [(0, z_r 36), (1, z_r 28), (2, .inl p2)], [], zW T' (zwG G' 28) S28 n, 0, 0)
  refine z_go2 M.1 31 [(.iconst 0, 1), (.istore_n 3, 1)] (33, [(3, .inl 0), (0, z_r 36), (1, z_r 28), (2, .inl p2)], [], zW T' (zwG G' 28) S28 n, 0, 0) (by decide +kernel) rfl ⟨trivial, trivial, trivial⟩ ?_
  refine z_lvs (lv' := [(0, z_r 36), (2, .inl p2), (3, .inl 0)]) [1, 3, 0] rfl ?_
  refine t_Sight_look_L33_28 M (q0 := q0) (Q := fun o => F_Sight_look_L33 28 p2 1300 S28 0 = o) p2 (fun S33 hL33 => ?_) 1300 S28 0 rfl hs.1
  replace hs := hs.2
  rw [hL33] at K
  try dsimp only at K
  exact z_vret M (by decide +kernel) rfl (by decide) (by decide) (hQ _ K)

-- TrackHouse$View.cameFrom
abbrev rm_View_cameFrom : Room := zr 1
def F_View_cameFrom (S : (Nat → Nat → Int32)) (p1 : Int32) (p2 : Int32) (p3 : Int32) : Int32 := (if (F_T_isState S p2) = 0 then 0 else (if (F_T_isIn S (zAt (S 33) 180 ((p1 * 6) + p2)) p3) = 0 then 0 else 1))
theorem c_View_cameFrom (T' : Nat → Nat × Nat) (G' : Nat → Nat → Option Nat) (S : (Nat → Nat → Int32)) (n : Nat) (p1 : Int32) (p2 : Int32) (p3 : Int32) : z_Run rm_View_cameFrom zm_View_cameFrom [z_r 27, .inl p1, .inl p2, .inl p3] (zW T' G' S n) (zq (some (.inl (F_View_cameFrom S p1 p2 p3))) (zW T' G' S n)) := by
  refine z_body (by decide) zf_View_ok (Nat.le_of_ble_eq_true rfl) (fun X M => ?_)
  obtain ⟨Q, hQ, K⟩ : ∃ Q : Int32 → Prop, (∀ v, Q v → zq (some (.inl (F_View_cameFrom S p1 p2 p3))) (zW T' G' S n) (some (.inl v)) (zW T' G' S n)) ∧ Q (F_View_cameFrom S p1 p2 p3) := ⟨fun o => F_View_cameFrom S p1 p2 p3 = o, fun v h => ⟨by rw [h], rfl⟩, rfl⟩
  show z_G X zm_View_cameFrom (0, [(0, z_r 27), (1, .inl p1), (2, .inl p2), (3, .inl p3)], [], zW T' G' S n, 0, 0)
  unfold F_View_cameFrom at K
  refine z_go2 M.1 0 [(.iload_n 2, 1)] (1, [(0, z_r 27), (1, .inl p1), (2, .inl p2), (3, .inl p3)], [.inl p2], zW T' G' S n, 0, 0) (by decide +kernel) rfl ⟨trivial, trivial⟩ ?_
  refine z_callS M.1 (av := [.inl p2]) (st := []) (by decide +kernel) (c_T_isState T' G' S n p2) M.2.1 zl_View_85 zs_T_isState ⟨by decide, by decide, by decide, by decide⟩ rfl (Nat.le_of_ble_eq_true rfl) (fun v w' hv => ?_)
  obtain ⟨rfl, rfl⟩ := hv
  show z_G X zm_View_cameFrom (4, [(0, z_r 27), (1, .inl p1), (2, .inl p2), (3, .inl p3)], [.inl (F_T_isState S p2)], zW T' G' S n, 0, 0)
  refine z_if_eq 31 M.1 (off := 27) (by decide +kernel) (by decide) (fun c4 => ?_) (fun c4 => ?_)
  · rw [if_pos c4] at K
    refine z_go2 M.1 31 [(.iconst 0, 1)] (32, [(0, z_r 27), (1, .inl p1), (2, .inl p2), (3, .inl p3)], [.inl 0], zW T' G' S n, 0, 0) (by decide +kernel) rfl ⟨trivial, trivial⟩ ?_
    exact z_iret M (by decide +kernel) .boolean rfl rfl (by decide) (by decide) (hQ _ K)
  · rw [if_neg c4] at K
    refine z_go2 M.1 7 [(.aload_n 0, 1), (.getfield 22, 3), (.iload_n 1, 1), (.bipush 6, 2), (.imul, 1), (.iload_n 2, 1), (.iadd, 1)] (17, [(0, z_r 27), (1, .inl p1), (2, .inl p2), (3, .inl p3)], [.inl ((p1 * 6) + p2), z_r 33], zW T' G' S n, 0, 0) (by decide +kernel) rfl ⟨trivial, rfl, trivial, trivial, trivial, trivial, trivial, trivial⟩ ?_
    refine z_callS M.1 (av := [z_r 33, .inl ((p1 * 6) + p2)]) (st := []) (by decide +kernel) (c_at (zW T' G' S n) 33 180 rfl (by decide) ((p1 * 6) + p2)) M.2.1 zl_View_46 zs_T_at ⟨by decide, by decide, by decide, by decide⟩ rfl (Nat.le_of_ble_eq_true rfl) (fun v w' hv => ?_)
    obtain ⟨rfl, rfl⟩ := hv
    show z_G X zm_View_cameFrom (20, [(0, z_r 27), (1, .inl p1), (2, .inl p2), (3, .inl p3)], [.inl (zAt (S 33) 180 ((p1 * 6) + p2))], zW T' G' S n, 0, 0)
    refine z_go2 M.1 20 [(.iload_n 3, 1)] (21, [(0, z_r 27), (1, .inl p1), (2, .inl p2), (3, .inl p3)], [.inl p3, .inl (zAt (S 33) 180 ((p1 * 6) + p2))], zW T' G' S n, 0, 0) (by decide +kernel) rfl ⟨trivial, trivial⟩ ?_
    refine z_callS M.1 (av := [.inl (zAt (S 33) 180 ((p1 * 6) + p2)), .inl p3]) (st := []) (by decide +kernel) (c_T_isIn T' G' S n (zAt (S 33) 180 ((p1 * 6) + p2)) p3) M.2.1 zl_View_88 zs_T_isIn ⟨by decide, by decide, by decide, by decide⟩ rfl (Nat.le_of_ble_eq_true rfl) (fun v w' hv => ?_)
    obtain ⟨rfl, rfl⟩ := hv
    show z_G X zm_View_cameFrom (24, [(0, z_r 27), (1, .inl p1), (2, .inl p2), (3, .inl p3)], [.inl (F_T_isIn S (zAt (S 33) 180 ((p1 * 6) + p2)) p3)], zW T' G' S n, 0, 0)
    refine z_if_eq 31 M.1 (off := 7) (by decide +kernel) (by decide) (fun c24 => ?_) (fun c24 => ?_)
    · rw [if_pos c24] at K
      refine z_go2 M.1 31 [(.iconst 0, 1)] (32, [(0, z_r 27), (1, .inl p1), (2, .inl p2), (3, .inl p3)], [.inl 0], zW T' G' S n, 0, 0) (by decide +kernel) rfl ⟨trivial, trivial⟩ ?_
      exact z_iret M (by decide +kernel) .boolean rfl rfl (by decide) (by decide) (hQ _ K)
    · rw [if_neg c24] at K
      refine z_go2 M.1 27 [(.iconst 1, 1), (.goto 4, 3)] (32, [(0, z_r 27), (1, .inl p1), (2, .inl p2), (3, .inl p3)], [.inl 1], zW T' G' S n, 0, 0) (by decide +kernel) rfl ⟨trivial, trivial, trivial⟩ ?_
      exact z_iret M (by decide +kernel) .boolean rfl rfl (by decide) (by decide) (hQ _ K)

-- TrackHouse$View.read
abbrev rm_View_read : Room := zr 3
def F_View_read_j188 (S : (Nat → Nat → Int32)) (x2 : Int32) : (Nat → Nat → Int32) := (z_let (F_World_redo 28 S x2) (fun S194 => S194))
def Sf_View_read_j188 (S : (Nat → Nat → Int32)) (x2 : Int32) : Prop := (Sf_World_redo 28 S x2 ∧ True)
theorem t_View_read_j188 {X : z_X} {Post : Option z_V → z_W → Prop} (M : z_M X zm_View_read rm_View_read Post) {T' : Nat → Nat × Nat} {G' : Nat → Nat → Option Nat} {n : Nat} {Q : (Nat → Nat → Int32) → Prop} (S : (Nat → Nat → Int32)) (x2 : Int32) (hQ : ∀ S', Q S' → Post none (zW T' G' S' n)) (K : Q (F_View_read_j188 S x2)) (hs : Sf_View_read_j188 S x2) : z_G X zm_View_read (188, [(0, z_r 27), (1, z_r 1), (2, .inl x2)], [], zW T' G' S n, 0, 0) := by
  unfold F_View_read_j188 at K
  unfold Sf_View_read_j188 at hs
  refine z_go2 M.1 188 [(.aload_n 0, 1), (.getfield 12, 3), (.aload_n 1, 1), (.iload_n 2, 1)] (194, [(0, z_r 27), (1, z_r 1), (2, .inl x2)], [.inl x2, z_r 1, z_r 28], zW T' G' S n, 0, 0) (by decide +kernel) rfl ⟨trivial, rfl, trivial, trivial, trivial⟩ ?_
  refine z_callV M.1 (av := [z_r 1, .inl x2]) (st := []) (a := 28) (ci := 10) (by decide +kernel) (c_World_redo_28 T' G' S n x2 hs.1) M.2.1 zl_View_82 zv_World_redo rfl rfl rfl ⟨by decide, by decide, by decide, by decide⟩ rfl (Nat.le_of_ble_eq_true rfl) (fun v w' hv => ?_)
  replace hs := hs.2
  obtain ⟨S194, hF194⟩ : ∃ y, F_World_redo 28 S x2 = y := ⟨_, rfl⟩
  rw [hF194] at K hv
  try dsimp only [z_let] at K
  obtain ⟨rfl, rfl⟩ := hv
  show z_G X zm_View_read (197, [(0, z_r 27), (1, z_r 1), (2, .inl x2)], [], zW T' G' S194 n, 0, 0)
  exact z_vret M (by decide +kernel) rfl (by decide) (by decide) (hQ _ K)
def F_View_read_L78 (x2 : Int32) (x3 : Int32) : Nat → (Nat → Nat → Int32) → Int32 → ((Nat → Nat → Int32))
  | 0, S, x5 => S
  | f + 1, S, x5 => (if (6 : Int32) ≤ x5 then S else (z_let (zPut S 33 180 ((x3 * 6) + x5) 0) (fun S97 => ((F_View_read_L78 x2 x3 f) S97 (x5 + 1)))))
def Sf_View_read_L78 (x2 : Int32) (x3 : Int32) : Nat → (Nat → Nat → Int32) → Int32 → Prop
  | 0, _, _ => False
  | f + 1, S, x5 => (if (6 : Int32) ≤ x5 then True else (z_let (zPut S 33 180 ((x3 * 6) + x5) 0) (fun S97 => ((Sf_View_read_L78 x2 x3 f) S97 (x5 + 1)))))
theorem t_View_read_L78 {X : z_X} {Post : Option z_V → z_W → Prop} (M : z_M X zm_View_read rm_View_read Post) {T' : Nat → Nat × Nat} {G' : Nat → Nat → Option Nat} {n : Nat} {Q : ((Nat → Nat → Int32)) → Prop}  (x2 : Int32) (x3 : Int32) (hE : ∀ (S' : (Nat → Nat → Int32)), Q S' → z_G X zm_View_read (106, [(0, z_r 27), (1, z_r 1), (2, .inl x2)], [], zW T' G' S' n, 0, 0)) (f : Nat) : ∀ (S : (Nat → Nat → Int32)) (x5 : Int32), Q (F_View_read_L78 x2 x3 f S x5) → Sf_View_read_L78 x2 x3 f S x5 → z_G X zm_View_read (78, [(0, z_r 27), (1, z_r 1), (2, .inl x2), (3, .inl x3), (5, .inl x5)], [], zW T' G' S n, 0, 0) := by
  induction f with
  | zero => intro S x5 K hs; exact False.elim hs
  | succ f hC =>
    intro S x5 K hs
    rw [F_View_read_L78] at K
    rw [Sf_View_read_L78] at hs
    refine z_go2 M.1 78 [(.iload 5, 2), (.bipush 6, 2)] (82, [(0, z_r 27), (1, z_r 1), (2, .inl x2), (3, .inl x3), (5, .inl x5)], [.inl 6, .inl x5], zW T' G' S n, 0, 0) (by decide +kernel) rfl ⟨trivial, trivial, trivial⟩ ?_
    refine z_icmp_ge 106 M.1 (off := 24) (by decide +kernel) (by decide) (fun c82 => ?_) (fun c82 => ?_)
    · rw [if_pos c82] at K hs
      exact z_lvs (lv' := [(0, z_r 27), (1, z_r 1), (2, .inl x2)]) [0, 1, 2] rfl (hE S K)
    · rw [if_neg c82] at K hs
      refine z_go2 M.1 85 [(.aload_n 0, 1), (.getfield 22, 3), (.iload_n 3, 1), (.bipush 6, 2), (.imul, 1), (.iload 5, 2), (.iadd, 1), (.iconst 0, 1)] (97, [(0, z_r 27), (1, z_r 1), (2, .inl x2), (3, .inl x3), (5, .inl x5)], [.inl 0, .inl ((x3 * 6) + x5), z_r 33], zW T' G' S n, 0, 0) (by decide +kernel) rfl ⟨trivial, rfl, trivial, trivial, trivial, trivial, trivial, trivial, trivial⟩ ?_
      refine z_callS M.1 (av := [z_r 33, .inl ((x3 * 6) + x5), .inl 0]) (st := []) (by decide +kernel) (c_put (zW T' G' S n) 33 180 rfl (by decide) ((x3 * 6) + x5) 0) M.2.1 zl_View_67 zs_T_put ⟨by decide, by decide, by decide, by decide⟩ rfl (Nat.le_of_ble_eq_true rfl) (fun v w' hv => ?_)
      obtain ⟨S97, hF97⟩ : ∃ y, zPut S 33 180 ((x3 * 6) + x5) 0 = y := ⟨_, rfl⟩
      replace hv : v = none ∧ w' = zW T' G' (zPut S 33 180 ((x3 * 6) + x5) 0) n := hv
      rw [hF97] at K hv hs
      try dsimp only [z_let] at K hs
      obtain ⟨rfl, rfl⟩ := hv
      show z_G X zm_View_read (100, [(0, z_r 27), (1, z_r 1), (2, .inl x2), (3, .inl x3), (5, .inl x5)], [], zW T' G' S97 n, 0, 0)
      refine z_go2 M.1 100 [(.iinc 5 1, 3), (.goto (-25), 3)] (78, [(5, .inl (x5 + 1)), (0, z_r 27), (1, z_r 1), (2, .inl x2), (3, .inl x3)], [], zW T' G' S97 n, 0, 0) (by decide +kernel) rfl ⟨trivial, trivial, trivial⟩ ?_
      exact z_lvs (lv' := [(0, z_r 27), (1, z_r 1), (2, .inl x2), (3, .inl x3), (5, .inl (x5 + 1))]) [1, 2, 3, 4, 0] rfl (hC S97 (x5 + 1) K hs)
def F_View_read_j56 (S : (Nat → Nat → Int32)) (x2 : Int32) (x3 : Int32) (x4 : Int32) : (Nat → Nat → Int32) := (if x4 = 13 then (z_let (zPut S 32 30 x3 (F_T_bit S 0)) (fun S72 => (match F_View_read_L78 x2 x3 1300 S72 0 with | S78 => (F_View_read_j188 S78 x2)))) else (if x4 = 0 then (z_let (zPut S 32 30 x3 ((zAt (S 32) 30 x3) ||| (F_T_bit S (zAt (S 8) 900 x2)))) (fun S155 => (z_let (zPut S155 33 180 ((x3 * 6) + (F_World_cell 28 S x3 0)) ((zAt (S155 33) 180 ((x3 * 6) + (F_World_cell 28 S x3 0))) ||| (F_T_bit S155 (zAt (S155 8) 900 x2)))) (fun S185 => (z_let (F_World_redo 28 S185 x2) (fun S194 => S194)))))) else (F_View_read_j188 S x2)))
def Sf_View_read_j56 (S : (Nat → Nat → Int32)) (x2 : Int32) (x3 : Int32) (x4 : Int32) : Prop := (if x4 = 13 then (z_let (zPut S 32 30 x3 (F_T_bit S 0)) (fun S72 => (Sf_View_read_L78 x2 x3 1300 S72 0 ∧ (match F_View_read_L78 x2 x3 1300 S72 0 with | S78 => (Sf_View_read_j188 S78 x2))))) else (if x4 = 0 then (Sf_World_cell 28 S x3 0 ∧ (z_let (zPut S 32 30 x3 ((zAt (S 32) 30 x3) ||| (F_T_bit S (zAt (S 8) 900 x2)))) (fun S155 => (z_let (zPut S155 33 180 ((x3 * 6) + (F_World_cell 28 S x3 0)) ((zAt (S155 33) 180 ((x3 * 6) + (F_World_cell 28 S x3 0))) ||| (F_T_bit S155 (zAt (S155 8) 900 x2)))) (fun S185 => (Sf_World_redo 28 S185 x2 ∧ True)))))) else (Sf_View_read_j188 S x2)))
theorem t_View_read_j56 {X : z_X} {Post : Option z_V → z_W → Prop} (M : z_M X zm_View_read rm_View_read Post) {T' : Nat → Nat × Nat} {G' : Nat → Nat → Option Nat} {n : Nat} {Q : (Nat → Nat → Int32) → Prop} (S : (Nat → Nat → Int32)) (x2 : Int32) (x3 : Int32) (x4 : Int32) (hQ : ∀ S', Q S' → Post none (zW T' G' S' n)) (K : Q (F_View_read_j56 S x2 x3 x4)) (hs : Sf_View_read_j56 S x2 x3 x4) : z_G X zm_View_read (56, [(0, z_r 27), (1, z_r 1), (2, .inl x2), (3, .inl x3), (4, .inl x4)], [], zW T' G' S n, 0, 0) := by
  unfold F_View_read_j56 at K
  unfold Sf_View_read_j56 at hs
  refine z_go2 M.1 56 [(.iload 4, 2), (.bipush 13, 2)] (60, [(0, z_r 27), (1, z_r 1), (2, .inl x2), (3, .inl x3), (4, .inl x4)], [.inl 13, .inl x4], zW T' G' S n, 0, 0) (by decide +kernel) rfl ⟨trivial, trivial, trivial⟩ ?_
  refine z_icmp_ne 109 M.1 (off := 49) (by decide +kernel) (by decide) (fun c60 => ?_) (fun c60 => ?_)
  · rw [if_neg c60] at K hs
    refine z_go2 M.1 109 [(.iload 4, 2)] (111, [(0, z_r 27), (1, z_r 1), (2, .inl x2), (3, .inl x3), (4, .inl x4)], [.inl x4], zW T' G' S n, 0, 0) (by decide +kernel) rfl ⟨trivial, trivial⟩ ?_
    refine z_if_ne 188 M.1 (off := 77) (by decide +kernel) (by decide) (fun c111 => ?_) (fun c111 => ?_)
    · rw [if_neg c111] at K hs
      exact z_lvs (lv' := [(0, z_r 27), (1, z_r 1), (2, .inl x2)]) [0, 1, 2] rfl (t_View_read_j188 M S x2 hQ K hs)
    · rw [if_pos c111] at K hs
      refine z_go2 M.1 114 [(.iload_n 3, 1), (.bipush 6, 2), (.imul, 1), (.aload_n 0, 1), (.getfield 12, 3), (.iload_n 3, 1), (.iconst 0, 1)] (124, [(0, z_r 27), (1, z_r 1), (2, .inl x2), (3, .inl x3), (4, .inl x4)], [.inl 0, .inl x3, z_r 28, .inl (x3 * 6)], zW T' G' S n, 0, 0) (by decide +kernel) rfl ⟨trivial, trivial, trivial, trivial, rfl, trivial, trivial, trivial⟩ ?_
      refine z_callV M.1 (av := [.inl x3, .inl 0]) (st := [.inl (x3 * 6)]) (a := 28) (ci := 10) (by decide +kernel) (c_World_cell_28 T' G' S n x3 0 hs.1) M.2.1 zl_View_75 zv_World_cell rfl rfl rfl ⟨by decide, by decide, by decide, by decide⟩ rfl (Nat.le_of_ble_eq_true rfl) (fun v w' hv => ?_)
      obtain ⟨rfl, rfl⟩ := hv
      replace hs := hs.2
      show z_G X zm_View_read (127, [(0, z_r 27), (1, z_r 1), (2, .inl x2), (3, .inl x3), (4, .inl x4)], [.inl (F_World_cell 28 S x3 0), .inl (x3 * 6)], zW T' G' S n, 0, 0)
      refine z_go2 M.1 127 [(.iadd, 1), (.istore 5, 2), (.aload_n 0, 1), (.getfield 18, 3), (.iload_n 3, 1), (.aload_n 0, 1), (.getfield 18, 3), (.iload_n 3, 1)] (140, [(5, .inl ((x3 * 6) + (F_World_cell 28 S x3 0))), (0, z_r 27), (1, z_r 1), (2, .inl x2), (3, .inl x3), (4, .inl x4)], [.inl x3, z_r 32, .inl x3, z_r 32], zW T' G' S n, 0, 0) (by decide +kernel) rfl ⟨trivial, trivial, trivial, rfl, trivial, trivial, rfl, trivial, trivial⟩ ?_
      refine z_callS M.1 (av := [z_r 32, .inl x3]) (st := [.inl x3, z_r 32]) (by decide +kernel) (c_at (zW T' G' S n) 32 30 rfl (by decide) x3) M.2.1 zl_View_46 zs_T_at ⟨by decide, by decide, by decide, by decide⟩ rfl (Nat.le_of_ble_eq_true rfl) (fun v w' hv => ?_)
      obtain ⟨rfl, rfl⟩ := hv
      show z_G X zm_View_read (143, [(5, .inl ((x3 * 6) + (F_World_cell 28 S x3 0))), (0, z_r 27), (1, z_r 1), (2, .inl x2), (3, .inl x3), (4, .inl x4)], [.inl (zAt (S 32) 30 x3), .inl x3, z_r 32], zW T' G' S n, 0, 0)
      refine z_go2 M.1 143 [(.aload_n 1, 1), (.getfield 79, 3), (.iload_n 2, 1)] (148, [(5, .inl ((x3 * 6) + (F_World_cell 28 S x3 0))), (0, z_r 27), (1, z_r 1), (2, .inl x2), (3, .inl x3), (4, .inl x4)], [.inl x2, z_r 8, .inl (zAt (S 32) 30 x3), .inl x3, z_r 32], zW T' G' S n, 0, 0) (by decide +kernel) rfl ⟨trivial, rfl, trivial, trivial⟩ ?_
      refine z_callS M.1 (av := [z_r 8, .inl x2]) (st := [.inl (zAt (S 32) 30 x3), .inl x3, z_r 32]) (by decide +kernel) (c_at (zW T' G' S n) 8 900 rfl (by decide) x2) M.2.1 zl_View_46 zs_T_at ⟨by decide, by decide, by decide, by decide⟩ rfl (Nat.le_of_ble_eq_true rfl) (fun v w' hv => ?_)
      obtain ⟨rfl, rfl⟩ := hv
      show z_G X zm_View_read (151, [(5, .inl ((x3 * 6) + (F_World_cell 28 S x3 0))), (0, z_r 27), (1, z_r 1), (2, .inl x2), (3, .inl x3), (4, .inl x4)], [.inl (zAt (S 8) 900 x2), .inl (zAt (S 32) 30 x3), .inl x3, z_r 32], zW T' G' S n, 0, 0)
      refine z_callS M.1 (av := [.inl (zAt (S 8) 900 x2)]) (st := [.inl (zAt (S 32) 30 x3), .inl x3, z_r 32]) (by decide +kernel) (c_T_bit T' G' S n (zAt (S 8) 900 x2)) M.2.1 zl_View_71 zs_T_bit ⟨by decide, by decide, by decide, by decide⟩ rfl (Nat.le_of_ble_eq_true rfl) (fun v w' hv => ?_)
      obtain ⟨rfl, rfl⟩ := hv
      show z_G X zm_View_read (154, [(5, .inl ((x3 * 6) + (F_World_cell 28 S x3 0))), (0, z_r 27), (1, z_r 1), (2, .inl x2), (3, .inl x3), (4, .inl x4)], [.inl (F_T_bit S (zAt (S 8) 900 x2)), .inl (zAt (S 32) 30 x3), .inl x3, z_r 32], zW T' G' S n, 0, 0)
      refine z_go2 M.1 154 [(.ior, 1)] (155, [(5, .inl ((x3 * 6) + (F_World_cell 28 S x3 0))), (0, z_r 27), (1, z_r 1), (2, .inl x2), (3, .inl x3), (4, .inl x4)], [.inl ((zAt (S 32) 30 x3) ||| (F_T_bit S (zAt (S 8) 900 x2))), .inl x3, z_r 32], zW T' G' S n, 0, 0) (by decide +kernel) rfl ⟨trivial, trivial⟩ ?_
      refine z_callS M.1 (av := [z_r 32, .inl x3, .inl ((zAt (S 32) 30 x3) ||| (F_T_bit S (zAt (S 8) 900 x2)))]) (st := []) (by decide +kernel) (c_put (zW T' G' S n) 32 30 rfl (by decide) x3 ((zAt (S 32) 30 x3) ||| (F_T_bit S (zAt (S 8) 900 x2)))) M.2.1 zl_View_67 zs_T_put ⟨by decide, by decide, by decide, by decide⟩ rfl (Nat.le_of_ble_eq_true rfl) (fun v w' hv => ?_)
      obtain ⟨S155, hF155⟩ : ∃ y, zPut S 32 30 x3 ((zAt (S 32) 30 x3) ||| (F_T_bit S (zAt (S 8) 900 x2))) = y := ⟨_, rfl⟩
      replace hv : v = none ∧ w' = zW T' G' (zPut S 32 30 x3 ((zAt (S 32) 30 x3) ||| (F_T_bit S (zAt (S 8) 900 x2)))) n := hv
      rw [hF155] at K hv hs
      try dsimp only [z_let] at K hs
      obtain ⟨rfl, rfl⟩ := hv
      show z_G X zm_View_read (158, [(5, .inl ((x3 * 6) + (F_World_cell 28 S x3 0))), (0, z_r 27), (1, z_r 1), (2, .inl x2), (3, .inl x3), (4, .inl x4)], [], zW T' G' S155 n, 0, 0)
      refine z_go2 M.1 158 [(.aload_n 0, 1), (.getfield 22, 3), (.iload 5, 2), (.aload_n 0, 1), (.getfield 22, 3), (.iload 5, 2)] (170, [(5, .inl ((x3 * 6) + (F_World_cell 28 S x3 0))), (0, z_r 27), (1, z_r 1), (2, .inl x2), (3, .inl x3), (4, .inl x4)], [.inl ((x3 * 6) + (F_World_cell 28 S x3 0)), z_r 33, .inl ((x3 * 6) + (F_World_cell 28 S x3 0)), z_r 33], zW T' G' S155 n, 0, 0) (by decide +kernel) rfl ⟨trivial, rfl, trivial, trivial, rfl, trivial, trivial⟩ ?_
      refine z_callS M.1 (av := [z_r 33, .inl ((x3 * 6) + (F_World_cell 28 S x3 0))]) (st := [.inl ((x3 * 6) + (F_World_cell 28 S x3 0)), z_r 33]) (by decide +kernel) (c_at (zW T' G' S155 n) 33 180 rfl (by decide) ((x3 * 6) + (F_World_cell 28 S x3 0))) M.2.1 zl_View_46 zs_T_at ⟨by decide, by decide, by decide, by decide⟩ rfl (Nat.le_of_ble_eq_true rfl) (fun v w' hv => ?_)
      obtain ⟨rfl, rfl⟩ := hv
      show z_G X zm_View_read (173, [(5, .inl ((x3 * 6) + (F_World_cell 28 S x3 0))), (0, z_r 27), (1, z_r 1), (2, .inl x2), (3, .inl x3), (4, .inl x4)], [.inl (zAt (S155 33) 180 ((x3 * 6) + (F_World_cell 28 S x3 0))), .inl ((x3 * 6) + (F_World_cell 28 S x3 0)), z_r 33], zW T' G' S155 n, 0, 0)
      refine z_go2 M.1 173 [(.aload_n 1, 1), (.getfield 79, 3), (.iload_n 2, 1)] (178, [(5, .inl ((x3 * 6) + (F_World_cell 28 S x3 0))), (0, z_r 27), (1, z_r 1), (2, .inl x2), (3, .inl x3), (4, .inl x4)], [.inl x2, z_r 8, .inl (zAt (S155 33) 180 ((x3 * 6) + (F_World_cell 28 S x3 0))), .inl ((x3 * 6) + (F_World_cell 28 S x3 0)), z_r 33], zW T' G' S155 n, 0, 0) (by decide +kernel) rfl ⟨trivial, rfl, trivial, trivial⟩ ?_
      refine z_callS M.1 (av := [z_r 8, .inl x2]) (st := [.inl (zAt (S155 33) 180 ((x3 * 6) + (F_World_cell 28 S x3 0))), .inl ((x3 * 6) + (F_World_cell 28 S x3 0)), z_r 33]) (by decide +kernel) (c_at (zW T' G' S155 n) 8 900 rfl (by decide) x2) M.2.1 zl_View_46 zs_T_at ⟨by decide, by decide, by decide, by decide⟩ rfl (Nat.le_of_ble_eq_true rfl) (fun v w' hv => ?_)
      obtain ⟨rfl, rfl⟩ := hv
      show z_G X zm_View_read (181, [(5, .inl ((x3 * 6) + (F_World_cell 28 S x3 0))), (0, z_r 27), (1, z_r 1), (2, .inl x2), (3, .inl x3), (4, .inl x4)], [.inl (zAt (S155 8) 900 x2), .inl (zAt (S155 33) 180 ((x3 * 6) + (F_World_cell 28 S x3 0))), .inl ((x3 * 6) + (F_World_cell 28 S x3 0)), z_r 33], zW T' G' S155 n, 0, 0)
      refine z_callS M.1 (av := [.inl (zAt (S155 8) 900 x2)]) (st := [.inl (zAt (S155 33) 180 ((x3 * 6) + (F_World_cell 28 S x3 0))), .inl ((x3 * 6) + (F_World_cell 28 S x3 0)), z_r 33]) (by decide +kernel) (c_T_bit T' G' S155 n (zAt (S155 8) 900 x2)) M.2.1 zl_View_71 zs_T_bit ⟨by decide, by decide, by decide, by decide⟩ rfl (Nat.le_of_ble_eq_true rfl) (fun v w' hv => ?_)
      obtain ⟨rfl, rfl⟩ := hv
      show z_G X zm_View_read (184, [(5, .inl ((x3 * 6) + (F_World_cell 28 S x3 0))), (0, z_r 27), (1, z_r 1), (2, .inl x2), (3, .inl x3), (4, .inl x4)], [.inl (F_T_bit S155 (zAt (S155 8) 900 x2)), .inl (zAt (S155 33) 180 ((x3 * 6) + (F_World_cell 28 S x3 0))), .inl ((x3 * 6) + (F_World_cell 28 S x3 0)), z_r 33], zW T' G' S155 n, 0, 0)
      refine z_go2 M.1 184 [(.ior, 1)] (185, [(5, .inl ((x3 * 6) + (F_World_cell 28 S x3 0))), (0, z_r 27), (1, z_r 1), (2, .inl x2), (3, .inl x3), (4, .inl x4)], [.inl ((zAt (S155 33) 180 ((x3 * 6) + (F_World_cell 28 S x3 0))) ||| (F_T_bit S155 (zAt (S155 8) 900 x2))), .inl ((x3 * 6) + (F_World_cell 28 S x3 0)), z_r 33], zW T' G' S155 n, 0, 0) (by decide +kernel) rfl ⟨trivial, trivial⟩ ?_
      refine z_callS M.1 (av := [z_r 33, .inl ((x3 * 6) + (F_World_cell 28 S x3 0)), .inl ((zAt (S155 33) 180 ((x3 * 6) + (F_World_cell 28 S x3 0))) ||| (F_T_bit S155 (zAt (S155 8) 900 x2)))]) (st := []) (by decide +kernel) (c_put (zW T' G' S155 n) 33 180 rfl (by decide) ((x3 * 6) + (F_World_cell 28 S x3 0)) ((zAt (S155 33) 180 ((x3 * 6) + (F_World_cell 28 S x3 0))) ||| (F_T_bit S155 (zAt (S155 8) 900 x2)))) M.2.1 zl_View_67 zs_T_put ⟨by decide, by decide, by decide, by decide⟩ rfl (Nat.le_of_ble_eq_true rfl) (fun v w' hv => ?_)
      obtain ⟨S185, hF185⟩ : ∃ y, zPut S155 33 180 ((x3 * 6) + (F_World_cell 28 S x3 0)) ((zAt (S155 33) 180 ((x3 * 6) + (F_World_cell 28 S x3 0))) ||| (F_T_bit S155 (zAt (S155 8) 900 x2))) = y := ⟨_, rfl⟩
      replace hv : v = none ∧ w' = zW T' G' (zPut S155 33 180 ((x3 * 6) + (F_World_cell 28 S x3 0)) ((zAt (S155 33) 180 ((x3 * 6) + (F_World_cell 28 S x3 0))) ||| (F_T_bit S155 (zAt (S155 8) 900 x2)))) n := hv
      rw [hF185] at K hv hs
      try dsimp only [z_let] at K hs
      obtain ⟨rfl, rfl⟩ := hv
      show z_G X zm_View_read (188, [(5, .inl ((x3 * 6) + (F_World_cell 28 S x3 0))), (0, z_r 27), (1, z_r 1), (2, .inl x2), (3, .inl x3), (4, .inl x4)], [], zW T' G' S185 n, 0, 0)
      refine z_go2 M.1 188 [(.aload_n 0, 1), (.getfield 12, 3), (.aload_n 1, 1), (.iload_n 2, 1)] (194, [(5, .inl ((x3 * 6) + (F_World_cell 28 S x3 0))), (0, z_r 27), (1, z_r 1), (2, .inl x2), (3, .inl x3), (4, .inl x4)], [.inl x2, z_r 1, z_r 28], zW T' G' S185 n, 0, 0) (by decide +kernel) rfl ⟨trivial, rfl, trivial, trivial, trivial⟩ ?_
      refine z_callV M.1 (av := [z_r 1, .inl x2]) (st := []) (a := 28) (ci := 10) (by decide +kernel) (c_World_redo_28 T' G' S185 n x2 hs.1) M.2.1 zl_View_82 zv_World_redo rfl rfl rfl ⟨by decide, by decide, by decide, by decide⟩ rfl (Nat.le_of_ble_eq_true rfl) (fun v w' hv => ?_)
      replace hs := hs.2
      obtain ⟨S194, hF194⟩ : ∃ y, F_World_redo 28 S185 x2 = y := ⟨_, rfl⟩
      rw [hF194] at K hv
      try dsimp only [z_let] at K
      obtain ⟨rfl, rfl⟩ := hv
      show z_G X zm_View_read (197, [(5, .inl ((x3 * 6) + (F_World_cell 28 S x3 0))), (0, z_r 27), (1, z_r 1), (2, .inl x2), (3, .inl x3), (4, .inl x4)], [], zW T' G' S194 n, 0, 0)
      exact z_vret M (by decide +kernel) rfl (by decide) (by decide) (hQ _ K)
  · rw [if_pos c60] at K hs
    refine z_go2 M.1 63 [(.aload_n 0, 1), (.getfield 18, 3), (.iload_n 3, 1), (.iconst 0, 1)] (69, [(0, z_r 27), (1, z_r 1), (2, .inl x2), (3, .inl x3), (4, .inl x4)], [.inl 0, .inl x3, z_r 32], zW T' G' S n, 0, 0) (by decide +kernel) rfl ⟨trivial, rfl, trivial, trivial, trivial⟩ ?_
    refine z_callS M.1 (av := [.inl 0]) (st := [.inl x3, z_r 32]) (by decide +kernel) (c_T_bit T' G' S n 0) M.2.1 zl_View_71 zs_T_bit ⟨by decide, by decide, by decide, by decide⟩ rfl (Nat.le_of_ble_eq_true rfl) (fun v w' hv => ?_)
    obtain ⟨rfl, rfl⟩ := hv
    show z_G X zm_View_read (72, [(0, z_r 27), (1, z_r 1), (2, .inl x2), (3, .inl x3), (4, .inl x4)], [.inl (F_T_bit S 0), .inl x3, z_r 32], zW T' G' S n, 0, 0)
    refine z_callS M.1 (av := [z_r 32, .inl x3, .inl (F_T_bit S 0)]) (st := []) (by decide +kernel) (c_put (zW T' G' S n) 32 30 rfl (by decide) x3 (F_T_bit S 0)) M.2.1 zl_View_67 zs_T_put ⟨by decide, by decide, by decide, by decide⟩ rfl (Nat.le_of_ble_eq_true rfl) (fun v w' hv => ?_)
    obtain ⟨S72, hF72⟩ : ∃ y, zPut S 32 30 x3 (F_T_bit S 0) = y := ⟨_, rfl⟩
    replace hv : v = none ∧ w' = zW T' G' (zPut S 32 30 x3 (F_T_bit S 0)) n := hv
    rw [hF72] at K hv hs
    try dsimp only [z_let] at K hs
    obtain ⟨rfl, rfl⟩ := hv
    show z_G X zm_View_read (75, [(0, z_r 27), (1, z_r 1), (2, .inl x2), (3, .inl x3), (4, .inl x4)], [], zW T' G' S72 n, 0, 0)
    refine z_go2 M.1 75 [(.iconst 0, 1), (.istore 5, 2)] (78, [(5, .inl 0), (0, z_r 27), (1, z_r 1), (2, .inl x2), (3, .inl x3), (4, .inl x4)], [], zW T' G' S72 n, 0, 0) (by decide +kernel) rfl ⟨trivial, trivial, trivial⟩ ?_
    refine z_lvs (lv' := [(0, z_r 27), (1, z_r 1), (2, .inl x2), (3, .inl x3), (5, .inl 0)]) [1, 2, 3, 4, 0] rfl ?_
    refine t_View_read_L78 M (Q := fun o => F_View_read_L78 x2 x3 1300 S72 0 = o) x2 x3 (fun S78 hL78 => ?_) 1300 S72 0 rfl hs.1
    replace hs := hs.2
    rw [hL78] at K hs
    try dsimp only at K hs
    refine z_go2 M.1 106 [(.goto 82, 3)] (188, [(0, z_r 27), (1, z_r 1), (2, .inl x2)], [], zW T' G' S78 n, 0, 0) (by decide +kernel) rfl ⟨trivial, trivial⟩ ?_
    exact z_lvs (lv' := [(0, z_r 27), (1, z_r 1), (2, .inl x2)]) [0, 1, 2] rfl (t_View_read_j188 M S78 x2 hQ K hs)
def F_View_read (S : (Nat → Nat → Int32)) (p2 : Int32) : (Nat → Nat → Int32) := (if (zAt (S 4) 900 p2) = (-1) then (F_View_read_j56 S p2 (zAt (S 4) 900 p2) (zAt (S 5) 900 p2)) else (z_let (zPut S 34 30 (zAt (S 4) 900 p2) (zAt (S 3) 900 p2)) (fun S37 => (z_let (zPut S37 35 30 (zAt (S 4) 900 p2) (zAt (S37 2) 900 p2)) (fun S53 => (if (zAt (S 5) 900 p2) = 13 then (z_let (zPut S53 32 30 (zAt (S 4) 900 p2) (F_T_bit S53 0)) (fun S72 => (match F_View_read_L78 p2 (zAt (S 4) 900 p2) 1300 S72 0 with | S78 => (F_View_read_j188 S78 p2)))) else (if (zAt (S 5) 900 p2) = 0 then (z_let (zPut S53 32 30 (zAt (S 4) 900 p2) ((zAt (S53 32) 30 (zAt (S 4) 900 p2)) ||| (F_T_bit S53 (zAt (S53 8) 900 p2)))) (fun S155 => (z_let (zPut S155 33 180 (((zAt (S 4) 900 p2) * 6) + (F_World_cell 28 S53 (zAt (S 4) 900 p2) 0)) ((zAt (S155 33) 180 (((zAt (S 4) 900 p2) * 6) + (F_World_cell 28 S53 (zAt (S 4) 900 p2) 0))) ||| (F_T_bit S155 (zAt (S155 8) 900 p2)))) (fun S185 => (z_let (F_World_redo 28 S185 p2) (fun S194 => S194)))))) else (F_View_read_j188 S53 p2))))))))
def Sf_View_read (S : (Nat → Nat → Int32)) (p2 : Int32) : Prop := (if (zAt (S 4) 900 p2) = (-1) then (Sf_View_read_j56 S p2 (zAt (S 4) 900 p2) (zAt (S 5) 900 p2)) else (z_let (zPut S 34 30 (zAt (S 4) 900 p2) (zAt (S 3) 900 p2)) (fun S37 => (z_let (zPut S37 35 30 (zAt (S 4) 900 p2) (zAt (S37 2) 900 p2)) (fun S53 => (if (zAt (S 5) 900 p2) = 13 then (z_let (zPut S53 32 30 (zAt (S 4) 900 p2) (F_T_bit S53 0)) (fun S72 => (Sf_View_read_L78 p2 (zAt (S 4) 900 p2) 1300 S72 0 ∧ (match F_View_read_L78 p2 (zAt (S 4) 900 p2) 1300 S72 0 with | S78 => (Sf_View_read_j188 S78 p2))))) else (if (zAt (S 5) 900 p2) = 0 then (Sf_World_cell 28 S53 (zAt (S 4) 900 p2) 0 ∧ (z_let (zPut S53 32 30 (zAt (S 4) 900 p2) ((zAt (S53 32) 30 (zAt (S 4) 900 p2)) ||| (F_T_bit S53 (zAt (S53 8) 900 p2)))) (fun S155 => (z_let (zPut S155 33 180 (((zAt (S 4) 900 p2) * 6) + (F_World_cell 28 S53 (zAt (S 4) 900 p2) 0)) ((zAt (S155 33) 180 (((zAt (S 4) 900 p2) * 6) + (F_World_cell 28 S53 (zAt (S 4) 900 p2) 0))) ||| (F_T_bit S155 (zAt (S155 8) 900 p2)))) (fun S185 => (Sf_World_redo 28 S185 p2 ∧ True)))))) else (Sf_View_read_j188 S53 p2))))))))
theorem c_View_read (T' : Nat → Nat × Nat) (G' : Nat → Nat → Option Nat) (S : (Nat → Nat → Int32)) (n : Nat) (p2 : Int32) (hs : Sf_View_read S p2) : z_Run rm_View_read zm_View_read [z_r 27, z_r 1, .inl p2] (zW T' G' S n) (zq none (zW T' G' (F_View_read S p2) n)) := by
  refine z_body (by decide) zf_View_ok (Nat.le_of_ble_eq_true rfl) (fun X M => ?_)
  obtain ⟨Q, hQ, K⟩ : ∃ Q : (Nat → Nat → Int32) → Prop, (∀ S', Q S' → zq none (zW T' G' (F_View_read S p2) n) none (zW T' G' S' n)) ∧ Q (F_View_read S p2) := ⟨fun o => F_View_read S p2 = o, fun S' h => ⟨rfl, by rw [h]⟩, rfl⟩
  show z_G X zm_View_read (0, [(0, z_r 27), (1, z_r 1), (2, .inl p2)], [], zW T' G' S n, 0, 0)
  unfold F_View_read at K
  unfold Sf_View_read at hs
  refine z_go2 M.1 0 [(.aload_n 1, 1), (.getfield 54, 3), (.iload_n 2, 1)] (5, [(0, z_r 27), (1, z_r 1), (2, .inl p2)], [.inl p2, z_r 4], zW T' G' S n, 0, 0) (by decide +kernel) rfl ⟨trivial, rfl, trivial, trivial⟩ ?_
  refine z_callS M.1 (av := [z_r 4, .inl p2]) (st := []) (by decide +kernel) (c_at (zW T' G' S n) 4 900 rfl (by decide) p2) M.2.1 zl_View_46 zs_T_at ⟨by decide, by decide, by decide, by decide⟩ rfl (Nat.le_of_ble_eq_true rfl) (fun v w' hv => ?_)
  obtain ⟨rfl, rfl⟩ := hv
  show z_G X zm_View_read (8, [(0, z_r 27), (1, z_r 1), (2, .inl p2)], [.inl (zAt (S 4) 900 p2)], zW T' G' S n, 0, 0)
  refine z_go2 M.1 8 [(.istore_n 3, 1), (.aload_n 1, 1), (.getfield 57, 3), (.iload_n 2, 1)] (14, [(3, .inl (zAt (S 4) 900 p2)), (0, z_r 27), (1, z_r 1), (2, .inl p2)], [.inl p2, z_r 5], zW T' G' S n, 0, 0) (by decide +kernel) rfl ⟨trivial, trivial, rfl, trivial, trivial⟩ ?_
  refine z_callS M.1 (av := [z_r 5, .inl p2]) (st := []) (by decide +kernel) (c_at (zW T' G' S n) 5 900 rfl (by decide) p2) M.2.1 zl_View_46 zs_T_at ⟨by decide, by decide, by decide, by decide⟩ rfl (Nat.le_of_ble_eq_true rfl) (fun v w' hv => ?_)
  obtain ⟨rfl, rfl⟩ := hv
  show z_G X zm_View_read (17, [(3, .inl (zAt (S 4) 900 p2)), (0, z_r 27), (1, z_r 1), (2, .inl p2)], [.inl (zAt (S 5) 900 p2)], zW T' G' S n, 0, 0)
  refine z_go2 M.1 17 [(.istore 4, 2), (.iload_n 3, 1), (.iconst (-1), 1)] (21, [(4, .inl (zAt (S 5) 900 p2)), (3, .inl (zAt (S 4) 900 p2)), (0, z_r 27), (1, z_r 1), (2, .inl p2)], [.inl (-1), .inl (zAt (S 4) 900 p2)], zW T' G' S n, 0, 0) (by decide +kernel) rfl ⟨trivial, trivial, trivial, trivial⟩ ?_
  refine z_icmp_eq 56 M.1 (off := 35) (by decide +kernel) (by decide) (fun c21 => ?_) (fun c21 => ?_)
  · rw [if_pos c21] at K hs
    exact z_lvs (lv' := [(0, z_r 27), (1, z_r 1), (2, .inl p2), (3, .inl (zAt (S 4) 900 p2)), (4, .inl (zAt (S 5) 900 p2))]) [2, 3, 4, 1, 0] rfl (t_View_read_j56 M S p2 (zAt (S 4) 900 p2) (zAt (S 5) 900 p2) hQ K hs)
  · rw [if_neg c21] at K hs
    refine z_go2 M.1 24 [(.aload_n 0, 1), (.getfield 25, 3), (.iload_n 3, 1), (.aload_n 1, 1), (.getfield 64, 3), (.iload_n 2, 1)] (34, [(4, .inl (zAt (S 5) 900 p2)), (3, .inl (zAt (S 4) 900 p2)), (0, z_r 27), (1, z_r 1), (2, .inl p2)], [.inl p2, z_r 3, .inl (zAt (S 4) 900 p2), z_r 34], zW T' G' S n, 0, 0) (by decide +kernel) rfl ⟨trivial, rfl, trivial, trivial, rfl, trivial, trivial⟩ ?_
    refine z_callS M.1 (av := [z_r 3, .inl p2]) (st := [.inl (zAt (S 4) 900 p2), z_r 34]) (by decide +kernel) (c_at (zW T' G' S n) 3 900 rfl (by decide) p2) M.2.1 zl_View_46 zs_T_at ⟨by decide, by decide, by decide, by decide⟩ rfl (Nat.le_of_ble_eq_true rfl) (fun v w' hv => ?_)
    obtain ⟨rfl, rfl⟩ := hv
    show z_G X zm_View_read (37, [(4, .inl (zAt (S 5) 900 p2)), (3, .inl (zAt (S 4) 900 p2)), (0, z_r 27), (1, z_r 1), (2, .inl p2)], [.inl (zAt (S 3) 900 p2), .inl (zAt (S 4) 900 p2), z_r 34], zW T' G' S n, 0, 0)
    refine z_callS M.1 (av := [z_r 34, .inl (zAt (S 4) 900 p2), .inl (zAt (S 3) 900 p2)]) (st := []) (by decide +kernel) (c_put (zW T' G' S n) 34 30 rfl (by decide) (zAt (S 4) 900 p2) (zAt (S 3) 900 p2)) M.2.1 zl_View_67 zs_T_put ⟨by decide, by decide, by decide, by decide⟩ rfl (Nat.le_of_ble_eq_true rfl) (fun v w' hv => ?_)
    obtain ⟨S37, hF37⟩ : ∃ y, zPut S 34 30 (zAt (S 4) 900 p2) (zAt (S 3) 900 p2) = y := ⟨_, rfl⟩
    replace hv : v = none ∧ w' = zW T' G' (zPut S 34 30 (zAt (S 4) 900 p2) (zAt (S 3) 900 p2)) n := hv
    rw [hF37] at K hv hs
    try dsimp only [z_let] at K hs
    obtain ⟨rfl, rfl⟩ := hv
    show z_G X zm_View_read (40, [(4, .inl (zAt (S 5) 900 p2)), (3, .inl (zAt (S 4) 900 p2)), (0, z_r 27), (1, z_r 1), (2, .inl p2)], [], zW T' G' S37 n, 0, 0)
    refine z_go2 M.1 40 [(.aload_n 0, 1), (.getfield 28, 3), (.iload_n 3, 1), (.aload_n 1, 1), (.getfield 43, 3), (.iload_n 2, 1)] (50, [(4, .inl (zAt (S 5) 900 p2)), (3, .inl (zAt (S 4) 900 p2)), (0, z_r 27), (1, z_r 1), (2, .inl p2)], [.inl p2, z_r 2, .inl (zAt (S 4) 900 p2), z_r 35], zW T' G' S37 n, 0, 0) (by decide +kernel) rfl ⟨trivial, rfl, trivial, trivial, rfl, trivial, trivial⟩ ?_
    refine z_callS M.1 (av := [z_r 2, .inl p2]) (st := [.inl (zAt (S 4) 900 p2), z_r 35]) (by decide +kernel) (c_at (zW T' G' S37 n) 2 900 rfl (by decide) p2) M.2.1 zl_View_46 zs_T_at ⟨by decide, by decide, by decide, by decide⟩ rfl (Nat.le_of_ble_eq_true rfl) (fun v w' hv => ?_)
    obtain ⟨rfl, rfl⟩ := hv
    show z_G X zm_View_read (53, [(4, .inl (zAt (S 5) 900 p2)), (3, .inl (zAt (S 4) 900 p2)), (0, z_r 27), (1, z_r 1), (2, .inl p2)], [.inl (zAt (S37 2) 900 p2), .inl (zAt (S 4) 900 p2), z_r 35], zW T' G' S37 n, 0, 0)
    refine z_callS M.1 (av := [z_r 35, .inl (zAt (S 4) 900 p2), .inl (zAt (S37 2) 900 p2)]) (st := []) (by decide +kernel) (c_put (zW T' G' S37 n) 35 30 rfl (by decide) (zAt (S 4) 900 p2) (zAt (S37 2) 900 p2)) M.2.1 zl_View_67 zs_T_put ⟨by decide, by decide, by decide, by decide⟩ rfl (Nat.le_of_ble_eq_true rfl) (fun v w' hv => ?_)
    obtain ⟨S53, hF53⟩ : ∃ y, zPut S37 35 30 (zAt (S 4) 900 p2) (zAt (S37 2) 900 p2) = y := ⟨_, rfl⟩
    replace hv : v = none ∧ w' = zW T' G' (zPut S37 35 30 (zAt (S 4) 900 p2) (zAt (S37 2) 900 p2)) n := hv
    rw [hF53] at K hv hs
    try dsimp only [z_let] at K hs
    obtain ⟨rfl, rfl⟩ := hv
    show z_G X zm_View_read (56, [(4, .inl (zAt (S 5) 900 p2)), (3, .inl (zAt (S 4) 900 p2)), (0, z_r 27), (1, z_r 1), (2, .inl p2)], [], zW T' G' S53 n, 0, 0)
    refine z_go2 M.1 56 [(.iload 4, 2), (.bipush 13, 2)] (60, [(4, .inl (zAt (S 5) 900 p2)), (3, .inl (zAt (S 4) 900 p2)), (0, z_r 27), (1, z_r 1), (2, .inl p2)], [.inl 13, .inl (zAt (S 5) 900 p2)], zW T' G' S53 n, 0, 0) (by decide +kernel) rfl ⟨trivial, trivial, trivial⟩ ?_
    refine z_icmp_ne 109 M.1 (off := 49) (by decide +kernel) (by decide) (fun c60 => ?_) (fun c60 => ?_)
    · rw [if_neg c60] at K hs
      refine z_go2 M.1 109 [(.iload 4, 2)] (111, [(4, .inl (zAt (S 5) 900 p2)), (3, .inl (zAt (S 4) 900 p2)), (0, z_r 27), (1, z_r 1), (2, .inl p2)], [.inl (zAt (S 5) 900 p2)], zW T' G' S53 n, 0, 0) (by decide +kernel) rfl ⟨trivial, trivial⟩ ?_
      refine z_if_ne 188 M.1 (off := 77) (by decide +kernel) (by decide) (fun c111 => ?_) (fun c111 => ?_)
      · rw [if_neg c111] at K hs
        exact z_lvs (lv' := [(0, z_r 27), (1, z_r 1), (2, .inl p2)]) [2, 3, 4] rfl (t_View_read_j188 M S53 p2 hQ K hs)
      · rw [if_pos c111] at K hs
        refine z_go2 M.1 114 [(.iload_n 3, 1), (.bipush 6, 2), (.imul, 1), (.aload_n 0, 1), (.getfield 12, 3), (.iload_n 3, 1), (.iconst 0, 1)] (124, [(4, .inl (zAt (S 5) 900 p2)), (3, .inl (zAt (S 4) 900 p2)), (0, z_r 27), (1, z_r 1), (2, .inl p2)], [.inl 0, .inl (zAt (S 4) 900 p2), z_r 28, .inl ((zAt (S 4) 900 p2) * 6)], zW T' G' S53 n, 0, 0) (by decide +kernel) rfl ⟨trivial, trivial, trivial, trivial, rfl, trivial, trivial, trivial⟩ ?_
        refine z_callV M.1 (av := [.inl (zAt (S 4) 900 p2), .inl 0]) (st := [.inl ((zAt (S 4) 900 p2) * 6)]) (a := 28) (ci := 10) (by decide +kernel) (c_World_cell_28 T' G' S53 n (zAt (S 4) 900 p2) 0 hs.1) M.2.1 zl_View_75 zv_World_cell rfl rfl rfl ⟨by decide, by decide, by decide, by decide⟩ rfl (Nat.le_of_ble_eq_true rfl) (fun v w' hv => ?_)
        obtain ⟨rfl, rfl⟩ := hv
        replace hs := hs.2
        show z_G X zm_View_read (127, [(4, .inl (zAt (S 5) 900 p2)), (3, .inl (zAt (S 4) 900 p2)), (0, z_r 27), (1, z_r 1), (2, .inl p2)], [.inl (F_World_cell 28 S53 (zAt (S 4) 900 p2) 0), .inl ((zAt (S 4) 900 p2) * 6)], zW T' G' S53 n, 0, 0)
        refine z_go2 M.1 127 [(.iadd, 1), (.istore 5, 2), (.aload_n 0, 1), (.getfield 18, 3), (.iload_n 3, 1), (.aload_n 0, 1), (.getfield 18, 3), (.iload_n 3, 1)] (140, [(5, .inl (((zAt (S 4) 900 p2) * 6) + (F_World_cell 28 S53 (zAt (S 4) 900 p2) 0))), (4, .inl (zAt (S 5) 900 p2)), (3, .inl (zAt (S 4) 900 p2)), (0, z_r 27), (1, z_r 1), (2, .inl p2)], [.inl (zAt (S 4) 900 p2), z_r 32, .inl (zAt (S 4) 900 p2), z_r 32], zW T' G' S53 n, 0, 0) (by decide +kernel) rfl ⟨trivial, trivial, trivial, rfl, trivial, trivial, rfl, trivial, trivial⟩ ?_
        refine z_callS M.1 (av := [z_r 32, .inl (zAt (S 4) 900 p2)]) (st := [.inl (zAt (S 4) 900 p2), z_r 32]) (by decide +kernel) (c_at (zW T' G' S53 n) 32 30 rfl (by decide) (zAt (S 4) 900 p2)) M.2.1 zl_View_46 zs_T_at ⟨by decide, by decide, by decide, by decide⟩ rfl (Nat.le_of_ble_eq_true rfl) (fun v w' hv => ?_)
        obtain ⟨rfl, rfl⟩ := hv
        show z_G X zm_View_read (143, [(5, .inl (((zAt (S 4) 900 p2) * 6) + (F_World_cell 28 S53 (zAt (S 4) 900 p2) 0))), (4, .inl (zAt (S 5) 900 p2)), (3, .inl (zAt (S 4) 900 p2)), (0, z_r 27), (1, z_r 1), (2, .inl p2)], [.inl (zAt (S53 32) 30 (zAt (S 4) 900 p2)), .inl (zAt (S 4) 900 p2), z_r 32], zW T' G' S53 n, 0, 0)
        refine z_go2 M.1 143 [(.aload_n 1, 1), (.getfield 79, 3), (.iload_n 2, 1)] (148, [(5, .inl (((zAt (S 4) 900 p2) * 6) + (F_World_cell 28 S53 (zAt (S 4) 900 p2) 0))), (4, .inl (zAt (S 5) 900 p2)), (3, .inl (zAt (S 4) 900 p2)), (0, z_r 27), (1, z_r 1), (2, .inl p2)], [.inl p2, z_r 8, .inl (zAt (S53 32) 30 (zAt (S 4) 900 p2)), .inl (zAt (S 4) 900 p2), z_r 32], zW T' G' S53 n, 0, 0) (by decide +kernel) rfl ⟨trivial, rfl, trivial, trivial⟩ ?_
        refine z_callS M.1 (av := [z_r 8, .inl p2]) (st := [.inl (zAt (S53 32) 30 (zAt (S 4) 900 p2)), .inl (zAt (S 4) 900 p2), z_r 32]) (by decide +kernel) (c_at (zW T' G' S53 n) 8 900 rfl (by decide) p2) M.2.1 zl_View_46 zs_T_at ⟨by decide, by decide, by decide, by decide⟩ rfl (Nat.le_of_ble_eq_true rfl) (fun v w' hv => ?_)
        obtain ⟨rfl, rfl⟩ := hv
        show z_G X zm_View_read (151, [(5, .inl (((zAt (S 4) 900 p2) * 6) + (F_World_cell 28 S53 (zAt (S 4) 900 p2) 0))), (4, .inl (zAt (S 5) 900 p2)), (3, .inl (zAt (S 4) 900 p2)), (0, z_r 27), (1, z_r 1), (2, .inl p2)], [.inl (zAt (S53 8) 900 p2), .inl (zAt (S53 32) 30 (zAt (S 4) 900 p2)), .inl (zAt (S 4) 900 p2), z_r 32], zW T' G' S53 n, 0, 0)
        refine z_callS M.1 (av := [.inl (zAt (S53 8) 900 p2)]) (st := [.inl (zAt (S53 32) 30 (zAt (S 4) 900 p2)), .inl (zAt (S 4) 900 p2), z_r 32]) (by decide +kernel) (c_T_bit T' G' S53 n (zAt (S53 8) 900 p2)) M.2.1 zl_View_71 zs_T_bit ⟨by decide, by decide, by decide, by decide⟩ rfl (Nat.le_of_ble_eq_true rfl) (fun v w' hv => ?_)
        obtain ⟨rfl, rfl⟩ := hv
        show z_G X zm_View_read (154, [(5, .inl (((zAt (S 4) 900 p2) * 6) + (F_World_cell 28 S53 (zAt (S 4) 900 p2) 0))), (4, .inl (zAt (S 5) 900 p2)), (3, .inl (zAt (S 4) 900 p2)), (0, z_r 27), (1, z_r 1), (2, .inl p2)], [.inl (F_T_bit S53 (zAt (S53 8) 900 p2)), .inl (zAt (S53 32) 30 (zAt (S 4) 900 p2)), .inl (zAt (S 4) 900 p2), z_r 32], zW T' G' S53 n, 0, 0)
        refine z_go2 M.1 154 [(.ior, 1)] (155, [(5, .inl (((zAt (S 4) 900 p2) * 6) + (F_World_cell 28 S53 (zAt (S 4) 900 p2) 0))), (4, .inl (zAt (S 5) 900 p2)), (3, .inl (zAt (S 4) 900 p2)), (0, z_r 27), (1, z_r 1), (2, .inl p2)], [.inl ((zAt (S53 32) 30 (zAt (S 4) 900 p2)) ||| (F_T_bit S53 (zAt (S53 8) 900 p2))), .inl (zAt (S 4) 900 p2), z_r 32], zW T' G' S53 n, 0, 0) (by decide +kernel) rfl ⟨trivial, trivial⟩ ?_
        refine z_callS M.1 (av := [z_r 32, .inl (zAt (S 4) 900 p2), .inl ((zAt (S53 32) 30 (zAt (S 4) 900 p2)) ||| (F_T_bit S53 (zAt (S53 8) 900 p2)))]) (st := []) (by decide +kernel) (c_put (zW T' G' S53 n) 32 30 rfl (by decide) (zAt (S 4) 900 p2) ((zAt (S53 32) 30 (zAt (S 4) 900 p2)) ||| (F_T_bit S53 (zAt (S53 8) 900 p2)))) M.2.1 zl_View_67 zs_T_put ⟨by decide, by decide, by decide, by decide⟩ rfl (Nat.le_of_ble_eq_true rfl) (fun v w' hv => ?_)
        obtain ⟨S155, hF155⟩ : ∃ y, zPut S53 32 30 (zAt (S 4) 900 p2) ((zAt (S53 32) 30 (zAt (S 4) 900 p2)) ||| (F_T_bit S53 (zAt (S53 8) 900 p2))) = y := ⟨_, rfl⟩
        replace hv : v = none ∧ w' = zW T' G' (zPut S53 32 30 (zAt (S 4) 900 p2) ((zAt (S53 32) 30 (zAt (S 4) 900 p2)) ||| (F_T_bit S53 (zAt (S53 8) 900 p2)))) n := hv
        rw [hF155] at K hv hs
        try dsimp only [z_let] at K hs
        obtain ⟨rfl, rfl⟩ := hv
        show z_G X zm_View_read (158, [(5, .inl (((zAt (S 4) 900 p2) * 6) + (F_World_cell 28 S53 (zAt (S 4) 900 p2) 0))), (4, .inl (zAt (S 5) 900 p2)), (3, .inl (zAt (S 4) 900 p2)), (0, z_r 27), (1, z_r 1), (2, .inl p2)], [], zW T' G' S155 n, 0, 0)
        refine z_go2 M.1 158 [(.aload_n 0, 1), (.getfield 22, 3), (.iload 5, 2), (.aload_n 0, 1), (.getfield 22, 3), (.iload 5, 2)] (170, [(5, .inl (((zAt (S 4) 900 p2) * 6) + (F_World_cell 28 S53 (zAt (S 4) 900 p2) 0))), (4, .inl (zAt (S 5) 900 p2)), (3, .inl (zAt (S 4) 900 p2)), (0, z_r 27), (1, z_r 1), (2, .inl p2)], [.inl (((zAt (S 4) 900 p2) * 6) + (F_World_cell 28 S53 (zAt (S 4) 900 p2) 0)), z_r 33, .inl (((zAt (S 4) 900 p2) * 6) + (F_World_cell 28 S53 (zAt (S 4) 900 p2) 0)), z_r 33], zW T' G' S155 n, 0, 0) (by decide +kernel) rfl ⟨trivial, rfl, trivial, trivial, rfl, trivial, trivial⟩ ?_
        refine z_callS M.1 (av := [z_r 33, .inl (((zAt (S 4) 900 p2) * 6) + (F_World_cell 28 S53 (zAt (S 4) 900 p2) 0))]) (st := [.inl (((zAt (S 4) 900 p2) * 6) + (F_World_cell 28 S53 (zAt (S 4) 900 p2) 0)), z_r 33]) (by decide +kernel) (c_at (zW T' G' S155 n) 33 180 rfl (by decide) (((zAt (S 4) 900 p2) * 6) + (F_World_cell 28 S53 (zAt (S 4) 900 p2) 0))) M.2.1 zl_View_46 zs_T_at ⟨by decide, by decide, by decide, by decide⟩ rfl (Nat.le_of_ble_eq_true rfl) (fun v w' hv => ?_)
        obtain ⟨rfl, rfl⟩ := hv
        show z_G X zm_View_read (173, [(5, .inl (((zAt (S 4) 900 p2) * 6) + (F_World_cell 28 S53 (zAt (S 4) 900 p2) 0))), (4, .inl (zAt (S 5) 900 p2)), (3, .inl (zAt (S 4) 900 p2)), (0, z_r 27), (1, z_r 1), (2, .inl p2)], [.inl (zAt (S155 33) 180 (((zAt (S 4) 900 p2) * 6) + (F_World_cell 28 S53 (zAt (S 4) 900 p2) 0))), .inl (((zAt (S 4) 900 p2) * 6) + (F_World_cell 28 S53 (zAt (S 4) 900 p2) 0)), z_r 33], zW T' G' S155 n, 0, 0)
        refine z_go2 M.1 173 [(.aload_n 1, 1), (.getfield 79, 3), (.iload_n 2, 1)] (178, [(5, .inl (((zAt (S 4) 900 p2) * 6) + (F_World_cell 28 S53 (zAt (S 4) 900 p2) 0))), (4, .inl (zAt (S 5) 900 p2)), (3, .inl (zAt (S 4) 900 p2)), (0, z_r 27), (1, z_r 1), (2, .inl p2)], [.inl p2, z_r 8, .inl (zAt (S155 33) 180 (((zAt (S 4) 900 p2) * 6) + (F_World_cell 28 S53 (zAt (S 4) 900 p2) 0))), .inl (((zAt (S 4) 900 p2) * 6) + (F_World_cell 28 S53 (zAt (S 4) 900 p2) 0)), z_r 33], zW T' G' S155 n, 0, 0) (by decide +kernel) rfl ⟨trivial, rfl, trivial, trivial⟩ ?_
        refine z_callS M.1 (av := [z_r 8, .inl p2]) (st := [.inl (zAt (S155 33) 180 (((zAt (S 4) 900 p2) * 6) + (F_World_cell 28 S53 (zAt (S 4) 900 p2) 0))), .inl (((zAt (S 4) 900 p2) * 6) + (F_World_cell 28 S53 (zAt (S 4) 900 p2) 0)), z_r 33]) (by decide +kernel) (c_at (zW T' G' S155 n) 8 900 rfl (by decide) p2) M.2.1 zl_View_46 zs_T_at ⟨by decide, by decide, by decide, by decide⟩ rfl (Nat.le_of_ble_eq_true rfl) (fun v w' hv => ?_)
        obtain ⟨rfl, rfl⟩ := hv
        show z_G X zm_View_read (181, [(5, .inl (((zAt (S 4) 900 p2) * 6) + (F_World_cell 28 S53 (zAt (S 4) 900 p2) 0))), (4, .inl (zAt (S 5) 900 p2)), (3, .inl (zAt (S 4) 900 p2)), (0, z_r 27), (1, z_r 1), (2, .inl p2)], [.inl (zAt (S155 8) 900 p2), .inl (zAt (S155 33) 180 (((zAt (S 4) 900 p2) * 6) + (F_World_cell 28 S53 (zAt (S 4) 900 p2) 0))), .inl (((zAt (S 4) 900 p2) * 6) + (F_World_cell 28 S53 (zAt (S 4) 900 p2) 0)), z_r 33], zW T' G' S155 n, 0, 0)
        refine z_callS M.1 (av := [.inl (zAt (S155 8) 900 p2)]) (st := [.inl (zAt (S155 33) 180 (((zAt (S 4) 900 p2) * 6) + (F_World_cell 28 S53 (zAt (S 4) 900 p2) 0))), .inl (((zAt (S 4) 900 p2) * 6) + (F_World_cell 28 S53 (zAt (S 4) 900 p2) 0)), z_r 33]) (by decide +kernel) (c_T_bit T' G' S155 n (zAt (S155 8) 900 p2)) M.2.1 zl_View_71 zs_T_bit ⟨by decide, by decide, by decide, by decide⟩ rfl (Nat.le_of_ble_eq_true rfl) (fun v w' hv => ?_)
        obtain ⟨rfl, rfl⟩ := hv
        show z_G X zm_View_read (184, [(5, .inl (((zAt (S 4) 900 p2) * 6) + (F_World_cell 28 S53 (zAt (S 4) 900 p2) 0))), (4, .inl (zAt (S 5) 900 p2)), (3, .inl (zAt (S 4) 900 p2)), (0, z_r 27), (1, z_r 1), (2, .inl p2)], [.inl (F_T_bit S155 (zAt (S155 8) 900 p2)), .inl (zAt (S155 33) 180 (((zAt (S 4) 900 p2) * 6) + (F_World_cell 28 S53 (zAt (S 4) 900 p2) 0))), .inl (((zAt (S 4) 900 p2) * 6) + (F_World_cell 28 S53 (zAt (S 4) 900 p2) 0)), z_r 33], zW T' G' S155 n, 0, 0)
        refine z_go2 M.1 184 [(.ior, 1)] (185, [(5, .inl (((zAt (S 4) 900 p2) * 6) + (F_World_cell 28 S53 (zAt (S 4) 900 p2) 0))), (4, .inl (zAt (S 5) 900 p2)), (3, .inl (zAt (S 4) 900 p2)), (0, z_r 27), (1, z_r 1), (2, .inl p2)], [.inl ((zAt (S155 33) 180 (((zAt (S 4) 900 p2) * 6) + (F_World_cell 28 S53 (zAt (S 4) 900 p2) 0))) ||| (F_T_bit S155 (zAt (S155 8) 900 p2))), .inl (((zAt (S 4) 900 p2) * 6) + (F_World_cell 28 S53 (zAt (S 4) 900 p2) 0)), z_r 33], zW T' G' S155 n, 0, 0) (by decide +kernel) rfl ⟨trivial, trivial⟩ ?_
        refine z_callS M.1 (av := [z_r 33, .inl (((zAt (S 4) 900 p2) * 6) + (F_World_cell 28 S53 (zAt (S 4) 900 p2) 0)), .inl ((zAt (S155 33) 180 (((zAt (S 4) 900 p2) * 6) + (F_World_cell 28 S53 (zAt (S 4) 900 p2) 0))) ||| (F_T_bit S155 (zAt (S155 8) 900 p2)))]) (st := []) (by decide +kernel) (c_put (zW T' G' S155 n) 33 180 rfl (by decide) (((zAt (S 4) 900 p2) * 6) + (F_World_cell 28 S53 (zAt (S 4) 900 p2) 0)) ((zAt (S155 33) 180 (((zAt (S 4) 900 p2) * 6) + (F_World_cell 28 S53 (zAt (S 4) 900 p2) 0))) ||| (F_T_bit S155 (zAt (S155 8) 900 p2)))) M.2.1 zl_View_67 zs_T_put ⟨by decide, by decide, by decide, by decide⟩ rfl (Nat.le_of_ble_eq_true rfl) (fun v w' hv => ?_)
        obtain ⟨S185, hF185⟩ : ∃ y, zPut S155 33 180 (((zAt (S 4) 900 p2) * 6) + (F_World_cell 28 S53 (zAt (S 4) 900 p2) 0)) ((zAt (S155 33) 180 (((zAt (S 4) 900 p2) * 6) + (F_World_cell 28 S53 (zAt (S 4) 900 p2) 0))) ||| (F_T_bit S155 (zAt (S155 8) 900 p2))) = y := ⟨_, rfl⟩
        replace hv : v = none ∧ w' = zW T' G' (zPut S155 33 180 (((zAt (S 4) 900 p2) * 6) + (F_World_cell 28 S53 (zAt (S 4) 900 p2) 0)) ((zAt (S155 33) 180 (((zAt (S 4) 900 p2) * 6) + (F_World_cell 28 S53 (zAt (S 4) 900 p2) 0))) ||| (F_T_bit S155 (zAt (S155 8) 900 p2)))) n := hv
        rw [hF185] at K hv hs
        try dsimp only [z_let] at K hs
        obtain ⟨rfl, rfl⟩ := hv
        show z_G X zm_View_read (188, [(5, .inl (((zAt (S 4) 900 p2) * 6) + (F_World_cell 28 S53 (zAt (S 4) 900 p2) 0))), (4, .inl (zAt (S 5) 900 p2)), (3, .inl (zAt (S 4) 900 p2)), (0, z_r 27), (1, z_r 1), (2, .inl p2)], [], zW T' G' S185 n, 0, 0)
        refine z_go2 M.1 188 [(.aload_n 0, 1), (.getfield 12, 3), (.aload_n 1, 1), (.iload_n 2, 1)] (194, [(5, .inl (((zAt (S 4) 900 p2) * 6) + (F_World_cell 28 S53 (zAt (S 4) 900 p2) 0))), (4, .inl (zAt (S 5) 900 p2)), (3, .inl (zAt (S 4) 900 p2)), (0, z_r 27), (1, z_r 1), (2, .inl p2)], [.inl p2, z_r 1, z_r 28], zW T' G' S185 n, 0, 0) (by decide +kernel) rfl ⟨trivial, rfl, trivial, trivial, trivial⟩ ?_
        refine z_callV M.1 (av := [z_r 1, .inl p2]) (st := []) (a := 28) (ci := 10) (by decide +kernel) (c_World_redo_28 T' G' S185 n p2 hs.1) M.2.1 zl_View_82 zv_World_redo rfl rfl rfl ⟨by decide, by decide, by decide, by decide⟩ rfl (Nat.le_of_ble_eq_true rfl) (fun v w' hv => ?_)
        replace hs := hs.2
        obtain ⟨S194, hF194⟩ : ∃ y, F_World_redo 28 S185 p2 = y := ⟨_, rfl⟩
        rw [hF194] at K hv
        try dsimp only [z_let] at K
        obtain ⟨rfl, rfl⟩ := hv
        show z_G X zm_View_read (197, [(5, .inl (((zAt (S 4) 900 p2) * 6) + (F_World_cell 28 S53 (zAt (S 4) 900 p2) 0))), (4, .inl (zAt (S 5) 900 p2)), (3, .inl (zAt (S 4) 900 p2)), (0, z_r 27), (1, z_r 1), (2, .inl p2)], [], zW T' G' S194 n, 0, 0)
        exact z_vret M (by decide +kernel) rfl (by decide) (by decide) (hQ _ K)
    · rw [if_pos c60] at K hs
      refine z_go2 M.1 63 [(.aload_n 0, 1), (.getfield 18, 3), (.iload_n 3, 1), (.iconst 0, 1)] (69, [(4, .inl (zAt (S 5) 900 p2)), (3, .inl (zAt (S 4) 900 p2)), (0, z_r 27), (1, z_r 1), (2, .inl p2)], [.inl 0, .inl (zAt (S 4) 900 p2), z_r 32], zW T' G' S53 n, 0, 0) (by decide +kernel) rfl ⟨trivial, rfl, trivial, trivial, trivial⟩ ?_
      refine z_callS M.1 (av := [.inl 0]) (st := [.inl (zAt (S 4) 900 p2), z_r 32]) (by decide +kernel) (c_T_bit T' G' S53 n 0) M.2.1 zl_View_71 zs_T_bit ⟨by decide, by decide, by decide, by decide⟩ rfl (Nat.le_of_ble_eq_true rfl) (fun v w' hv => ?_)
      obtain ⟨rfl, rfl⟩ := hv
      show z_G X zm_View_read (72, [(4, .inl (zAt (S 5) 900 p2)), (3, .inl (zAt (S 4) 900 p2)), (0, z_r 27), (1, z_r 1), (2, .inl p2)], [.inl (F_T_bit S53 0), .inl (zAt (S 4) 900 p2), z_r 32], zW T' G' S53 n, 0, 0)
      refine z_callS M.1 (av := [z_r 32, .inl (zAt (S 4) 900 p2), .inl (F_T_bit S53 0)]) (st := []) (by decide +kernel) (c_put (zW T' G' S53 n) 32 30 rfl (by decide) (zAt (S 4) 900 p2) (F_T_bit S53 0)) M.2.1 zl_View_67 zs_T_put ⟨by decide, by decide, by decide, by decide⟩ rfl (Nat.le_of_ble_eq_true rfl) (fun v w' hv => ?_)
      obtain ⟨S72, hF72⟩ : ∃ y, zPut S53 32 30 (zAt (S 4) 900 p2) (F_T_bit S53 0) = y := ⟨_, rfl⟩
      replace hv : v = none ∧ w' = zW T' G' (zPut S53 32 30 (zAt (S 4) 900 p2) (F_T_bit S53 0)) n := hv
      rw [hF72] at K hv hs
      try dsimp only [z_let] at K hs
      obtain ⟨rfl, rfl⟩ := hv
      show z_G X zm_View_read (75, [(4, .inl (zAt (S 5) 900 p2)), (3, .inl (zAt (S 4) 900 p2)), (0, z_r 27), (1, z_r 1), (2, .inl p2)], [], zW T' G' S72 n, 0, 0)
      refine z_go2 M.1 75 [(.iconst 0, 1), (.istore 5, 2)] (78, [(5, .inl 0), (4, .inl (zAt (S 5) 900 p2)), (3, .inl (zAt (S 4) 900 p2)), (0, z_r 27), (1, z_r 1), (2, .inl p2)], [], zW T' G' S72 n, 0, 0) (by decide +kernel) rfl ⟨trivial, trivial, trivial⟩ ?_
      refine z_lvs (lv' := [(0, z_r 27), (1, z_r 1), (2, .inl p2), (3, .inl (zAt (S 4) 900 p2)), (5, .inl 0)]) [3, 4, 5, 2, 0] rfl ?_
      refine t_View_read_L78 M (Q := fun o => F_View_read_L78 p2 (zAt (S 4) 900 p2) 1300 S72 0 = o) p2 (zAt (S 4) 900 p2) (fun S78 hL78 => ?_) 1300 S72 0 rfl hs.1
      replace hs := hs.2
      rw [hL78] at K hs
      try dsimp only at K hs
      refine z_go2 M.1 106 [(.goto 82, 3)] (188, [(0, z_r 27), (1, z_r 1), (2, .inl p2)], [], zW T' G' S78 n, 0, 0) (by decide +kernel) rfl ⟨trivial, trivial⟩ ?_
      exact z_lvs (lv' := [(0, z_r 27), (1, z_r 1), (2, .inl p2)]) [0, 1, 2] rfl (t_View_read_j188 M S78 p2 hQ K hs)

-- TrackHouse$View.readUpTo
abbrev rm_View_readUpTo : Room := zr 4
def F_View_readUpTo_L14 (x2 : Int32) : Nat → (Nat → Nat → Int32) → Int32 → ((Nat → Nat → Int32))
  | 0, S, x3 => S
  | f + 1, S, x3 => (if (S 1 7) ≤ x3 then S else (if x2 < (zAt (S 2) 900 x3) then S else (z_let (F_View_read S x3) (fun S37 => ((F_View_readUpTo_L14 x2 f) S37 (x3 + 1))))))
def Sf_View_readUpTo_L14 (x2 : Int32) : Nat → (Nat → Nat → Int32) → Int32 → Prop
  | 0, _, _ => False
  | f + 1, S, x3 => (if (S 1 7) ≤ x3 then True else (if x2 < (zAt (S 2) 900 x3) then True else (Sf_View_read S x3 ∧ (z_let (F_View_read S x3) (fun S37 => ((Sf_View_readUpTo_L14 x2 f) S37 (x3 + 1)))))))
theorem t_View_readUpTo_L14 {X : z_X} {Post : Option z_V → z_W → Prop} (M : z_M X zm_View_readUpTo rm_View_readUpTo Post) {T' : Nat → Nat × Nat} {G' : Nat → Nat → Option Nat} {n : Nat} {Q : ((Nat → Nat → Int32)) → Prop}  (x2 : Int32) (hE : ∀ (S' : (Nat → Nat → Int32)), Q S' → z_G X zm_View_readUpTo (46, [], [], zW T' G' S' n, 0, 0)) (f : Nat) : ∀ (S : (Nat → Nat → Int32)) (x3 : Int32), Q (F_View_readUpTo_L14 x2 f S x3) → Sf_View_readUpTo_L14 x2 f S x3 → z_G X zm_View_readUpTo (14, [(0, z_r 27), (1, z_r 1), (2, .inl x2), (3, .inl x3)], [], zW T' G' S n, 0, 0) := by
  induction f with
  | zero => intro S x3 K hs; exact False.elim hs
  | succ f hC =>
    intro S x3 K hs
    rw [F_View_readUpTo_L14] at K
    rw [Sf_View_readUpTo_L14] at hs
    refine z_go2 M.1 14 [(.iload_n 3, 1), (.aload_n 1, 1), (.getfield 38, 3)] (19, [(0, z_r 27), (1, z_r 1), (2, .inl x2), (3, .inl x3)], [.inl (S 1 7), .inl x3], zW T' G' S n, 0, 0) (by decide +kernel) rfl ⟨trivial, trivial, rfl, trivial⟩ ?_
    refine z_icmp_ge 46 M.1 (off := 27) (by decide +kernel) (by decide) (fun c19 => ?_) (fun c19 => ?_)
    · rw [if_pos c19] at K hs
      exact z_lvs (lv' := []) [] rfl (hE S K)
    · rw [if_neg c19] at K hs
      refine z_go2 M.1 22 [(.aload_n 1, 1), (.getfield 43, 3), (.iload_n 3, 1)] (27, [(0, z_r 27), (1, z_r 1), (2, .inl x2), (3, .inl x3)], [.inl x3, z_r 2], zW T' G' S n, 0, 0) (by decide +kernel) rfl ⟨trivial, rfl, trivial, trivial⟩ ?_
      refine z_callS M.1 (av := [z_r 2, .inl x3]) (st := []) (by decide +kernel) (c_at (zW T' G' S n) 2 900 rfl (by decide) x3) M.2.1 zl_View_46 zs_T_at ⟨by decide, by decide, by decide, by decide⟩ rfl (Nat.le_of_ble_eq_true rfl) (fun v w' hv => ?_)
      obtain ⟨rfl, rfl⟩ := hv
      show z_G X zm_View_readUpTo (30, [(0, z_r 27), (1, z_r 1), (2, .inl x2), (3, .inl x3)], [.inl (zAt (S 2) 900 x3)], zW T' G' S n, 0, 0)
      refine z_go2 M.1 30 [(.iload_n 2, 1)] (31, [(0, z_r 27), (1, z_r 1), (2, .inl x2), (3, .inl x3)], [.inl x2, .inl (zAt (S 2) 900 x3)], zW T' G' S n, 0, 0) (by decide +kernel) rfl ⟨trivial, trivial⟩ ?_
      refine z_icmp_gt 46 M.1 (off := 15) (by decide +kernel) (by decide) (fun c31 => ?_) (fun c31 => ?_)
      · rw [if_pos c31] at K hs
        exact z_lvs (lv' := []) [] rfl (hE S K)
      · rw [if_neg c31] at K hs
        refine z_go2 M.1 34 [(.aload_n 0, 1), (.aload_n 1, 1), (.iload_n 3, 1)] (37, [(0, z_r 27), (1, z_r 1), (2, .inl x2), (3, .inl x3)], [.inl x3, z_r 1, z_r 27], zW T' G' S n, 0, 0) (by decide +kernel) rfl ⟨trivial, trivial, trivial, trivial⟩ ?_
        refine z_callV M.1 (av := [z_r 1, .inl x3]) (st := []) (a := 27) (ci := 9) (by decide +kernel) (c_View_read T' G' S n x3 hs.1) M.2.1 zl_View_50 zv_View_read rfl rfl rfl ⟨by decide, by decide, by decide, by decide⟩ rfl (Nat.le_of_ble_eq_true rfl) (fun v w' hv => ?_)
        replace hs := hs.2
        obtain ⟨S37, hF37⟩ : ∃ y, F_View_read S x3 = y := ⟨_, rfl⟩
        rw [hF37] at K hv hs
        try dsimp only [z_let] at K hs
        obtain ⟨rfl, rfl⟩ := hv
        show z_G X zm_View_readUpTo (40, [(0, z_r 27), (1, z_r 1), (2, .inl x2), (3, .inl x3)], [], zW T' G' S37 n, 0, 0)
        refine z_go2 M.1 40 [(.iinc 3 1, 3), (.goto (-29), 3)] (14, [(3, .inl (x3 + 1)), (0, z_r 27), (1, z_r 1), (2, .inl x2)], [], zW T' G' S37 n, 0, 0) (by decide +kernel) rfl ⟨trivial, trivial, trivial⟩ ?_
        exact z_lvs (lv' := [(0, z_r 27), (1, z_r 1), (2, .inl x2), (3, .inl (x3 + 1))]) [1, 2, 3, 0] rfl (hC S37 (x3 + 1) K hs)
def F_View_readUpTo (S : (Nat → Nat → Int32)) (p2 : Int32) : (Nat → Nat → Int32) := (z_let (F_World_clear 28 S) (fun S4 => (match F_View_readUpTo_L14 p2 1300 (z_uS S4 27 5 p2) 0 with | S14 => S14)))
def Sf_View_readUpTo (S : (Nat → Nat → Int32)) (p2 : Int32) : Prop := (z_let (F_World_clear 28 S) (fun S4 => (Sf_View_readUpTo_L14 p2 1300 (z_uS S4 27 5 p2) 0 ∧ True)))
theorem c_View_readUpTo (T' : Nat → Nat × Nat) (G' : Nat → Nat → Option Nat) (S : (Nat → Nat → Int32)) (n : Nat) (p2 : Int32) (hs : Sf_View_readUpTo S p2) : z_Run rm_View_readUpTo zm_View_readUpTo [z_r 27, z_r 1, .inl p2] (zW T' G' S n) (zq none (zW T' G' (F_View_readUpTo S p2) n)) := by
  refine z_body (by decide) zf_View_ok (Nat.le_of_ble_eq_true rfl) (fun X M => ?_)
  obtain ⟨Q, hQ, K⟩ : ∃ Q : (Nat → Nat → Int32) → Prop, (∀ S', Q S' → zq none (zW T' G' (F_View_readUpTo S p2) n) none (zW T' G' S' n)) ∧ Q (F_View_readUpTo S p2) := ⟨fun o => F_View_readUpTo S p2 = o, fun S' h => ⟨rfl, by rw [h]⟩, rfl⟩
  show z_G X zm_View_readUpTo (0, [(0, z_r 27), (1, z_r 1), (2, .inl p2)], [], zW T' G' S n, 0, 0)
  unfold F_View_readUpTo at K
  unfold Sf_View_readUpTo at hs
  refine z_go2 M.1 0 [(.aload_n 0, 1), (.getfield 12, 3)] (4, [(0, z_r 27), (1, z_r 1), (2, .inl p2)], [z_r 28], zW T' G' S n, 0, 0) (by decide +kernel) rfl ⟨trivial, rfl, trivial⟩ ?_
  refine z_callV M.1 (av := []) (st := []) (a := 28) (ci := 10) (by decide +kernel) (c_World_clear_28 T' G' S n) M.2.1 zl_View_35 zv_World_clear rfl rfl rfl ⟨by decide, by decide, by decide, by decide⟩ rfl (Nat.le_of_ble_eq_true rfl) (fun v w' hv => ?_)
  obtain ⟨S4, hF4⟩ : ∃ y, F_World_clear 28 S = y := ⟨_, rfl⟩
  rw [hF4] at K hv hs
  try dsimp only [z_let] at K hs
  obtain ⟨rfl, rfl⟩ := hv
  show z_G X zm_View_readUpTo (7, [(0, z_r 27), (1, z_r 1), (2, .inl p2)], [], zW T' G' S4 n, 0, 0)
  refine z_go2 M.1 7 [(.aload_n 0, 1), (.iload_n 2, 1), (.putfield 31, 3), (.iconst 0, 1), (.istore_n 3, 1)] (14, [(3, .inl 0), (0, z_r 27), (1, z_r 1), (2, .inl p2)], [], zW T' G' (z_uS S4 27 5 p2) n, 0, 0) (by decide +kernel) rfl ⟨trivial, trivial, ⟨rfl, trivial⟩, trivial, trivial, trivial⟩ ?_
  refine z_lvs (lv' := [(0, z_r 27), (1, z_r 1), (2, .inl p2), (3, .inl 0)]) [1, 2, 3, 0] rfl ?_
  refine t_View_readUpTo_L14 M (Q := fun o => F_View_readUpTo_L14 p2 1300 (z_uS S4 27 5 p2) 0 = o) p2 (fun S14 hL14 => ?_) 1300 (z_uS S4 27 5 p2) 0 rfl hs.1
  replace hs := hs.2
  rw [hL14] at K
  try dsimp only at K
  exact z_vret M (by decide +kernel) rfl (by decide) (by decide) (hQ _ K)

-- TrackHouse$View.readIndexed
abbrev rm_View_readIndexed : Room := zr 4
def F_View_readIndexed_l16_99 (rc : (Nat → Nat → Int32) → Int32 → ((Nat → Nat → Int32))) (S : (Nat → Nat → Int32)) (x2 : Int32) (x3 : Int32) (x5 : Int32) : ((Nat → Nat → Int32)) := (z_let (F_View_read S x5) (fun S103 => (rc S103 (x5 + 1))))
def Sf_View_readIndexed_l16_99 (rc : (Nat → Nat → Int32) → Int32 → ((Nat → Nat → Int32))) (sr : (Nat → Nat → Int32) → Int32 → Prop) (S : (Nat → Nat → Int32)) (x2 : Int32) (x3 : Int32) (x5 : Int32) : Prop := (Sf_View_read S x5 ∧ (z_let (F_View_read S x5) (fun S103 => (sr S103 (x5 + 1)))))
theorem t_View_readIndexed_l16_99 {X : z_X} {Post : Option z_V → z_W → Prop} (M : z_M X zm_View_readIndexed rm_View_readIndexed Post) {T' : Nat → Nat × Nat} {G' : Nat → Nat → Option Nat} {n : Nat} {Q : ((Nat → Nat → Int32)) → Prop} (rc : (Nat → Nat → Int32) → Int32 → ((Nat → Nat → Int32))) (sr : (Nat → Nat → Int32) → Int32 → Prop) (S : (Nat → Nat → Int32)) (x2 : Int32) (x3 : Int32) (x5 : Int32) (hE : ∀ (S' : (Nat → Nat → Int32)), Q S' → z_G X zm_View_readIndexed (112, [], [], zW T' G' S' n, 0, 0)) (hC : ∀ (S : (Nat → Nat → Int32)) (x5 : Int32), Q (rc S x5) → sr S x5 → z_G X zm_View_readIndexed (16, [(0, z_r 27), (1, z_r 1), (2, .inl x2), (3, .inl x3), (5, .inl x5)], [], zW T' G' S n, 0, 0)) (K : Q (F_View_readIndexed_l16_99 rc S x2 x3 x5)) (hs : Sf_View_readIndexed_l16_99 rc sr S x2 x3 x5) : z_G X zm_View_readIndexed (99, [(0, z_r 27), (1, z_r 1), (2, .inl x2), (3, .inl x3), (5, .inl x5)], [], zW T' G' S n, 0, 0) := by
  unfold F_View_readIndexed_l16_99 at K
  unfold Sf_View_readIndexed_l16_99 at hs
  refine z_go2 M.1 99 [(.aload_n 0, 1), (.aload_n 1, 1), (.iload 5, 2)] (103, [(0, z_r 27), (1, z_r 1), (2, .inl x2), (3, .inl x3), (5, .inl x5)], [.inl x5, z_r 1, z_r 27], zW T' G' S n, 0, 0) (by decide +kernel) rfl ⟨trivial, trivial, trivial, trivial⟩ ?_
  refine z_callV M.1 (av := [z_r 1, .inl x5]) (st := []) (a := 27) (ci := 9) (by decide +kernel) (c_View_read T' G' S n x5 hs.1) M.2.1 zl_View_50 zv_View_read rfl rfl rfl ⟨by decide, by decide, by decide, by decide⟩ rfl (Nat.le_of_ble_eq_true rfl) (fun v w' hv => ?_)
  replace hs := hs.2
  obtain ⟨S103, hF103⟩ : ∃ y, F_View_read S x5 = y := ⟨_, rfl⟩
  rw [hF103] at K hv hs
  try dsimp only [z_let] at K hs
  obtain ⟨rfl, rfl⟩ := hv
  show z_G X zm_View_readIndexed (106, [(0, z_r 27), (1, z_r 1), (2, .inl x2), (3, .inl x3), (5, .inl x5)], [], zW T' G' S103 n, 0, 0)
  refine z_go2 M.1 106 [(.iinc 5 1, 3), (.goto (-93), 3)] (16, [(5, .inl (x5 + 1)), (0, z_r 27), (1, z_r 1), (2, .inl x2), (3, .inl x3)], [], zW T' G' S103 n, 0, 0) (by decide +kernel) rfl ⟨trivial, trivial, trivial⟩ ?_
  exact z_lvs (lv' := [(0, z_r 27), (1, z_r 1), (2, .inl x2), (3, .inl x3), (5, .inl (x5 + 1))]) [1, 2, 3, 4, 0] rfl (hC S103 (x5 + 1) K hs)
def F_View_readIndexed_l16_73 (rc : (Nat → Nat → Int32) → Int32 → ((Nat → Nat → Int32))) (S : (Nat → Nat → Int32)) (x2 : Int32) (x3 : Int32) (x5 : Int32) (s0 : Int32) : ((Nat → Nat → Int32)) := (if x5 < x2 then (F_View_readIndexed_l16_99 rc S x2 x3 x5) else (if (zAt (S 3) 900 x5) = x3 then (if s0 = 0 then (rc S (x5 + 1)) else (F_View_readIndexed_l16_99 rc S x2 x3 x5)) else (rc S (x5 + 1))))
def Sf_View_readIndexed_l16_73 (rc : (Nat → Nat → Int32) → Int32 → ((Nat → Nat → Int32))) (sr : (Nat → Nat → Int32) → Int32 → Prop) (S : (Nat → Nat → Int32)) (x2 : Int32) (x3 : Int32) (x5 : Int32) (s0 : Int32) : Prop := (if x5 < x2 then (Sf_View_readIndexed_l16_99 rc sr S x2 x3 x5) else (if (zAt (S 3) 900 x5) = x3 then (if s0 = 0 then (sr S (x5 + 1)) else (Sf_View_readIndexed_l16_99 rc sr S x2 x3 x5)) else (sr S (x5 + 1))))
theorem t_View_readIndexed_l16_73 {X : z_X} {Post : Option z_V → z_W → Prop} (M : z_M X zm_View_readIndexed rm_View_readIndexed Post) {T' : Nat → Nat × Nat} {G' : Nat → Nat → Option Nat} {n : Nat} {Q : ((Nat → Nat → Int32)) → Prop} (rc : (Nat → Nat → Int32) → Int32 → ((Nat → Nat → Int32))) (sr : (Nat → Nat → Int32) → Int32 → Prop) (S : (Nat → Nat → Int32)) (x2 : Int32) (x3 : Int32) (x5 : Int32) (s0 : Int32) (hE : ∀ (S' : (Nat → Nat → Int32)), Q S' → z_G X zm_View_readIndexed (112, [], [], zW T' G' S' n, 0, 0)) (hC : ∀ (S : (Nat → Nat → Int32)) (x5 : Int32), Q (rc S x5) → sr S x5 → z_G X zm_View_readIndexed (16, [(0, z_r 27), (1, z_r 1), (2, .inl x2), (3, .inl x3), (5, .inl x5)], [], zW T' G' S n, 0, 0)) (K : Q (F_View_readIndexed_l16_73 rc S x2 x3 x5 s0)) (hs : Sf_View_readIndexed_l16_73 rc sr S x2 x3 x5 s0) : z_G X zm_View_readIndexed (73, [(0, z_r 27), (1, z_r 1), (2, .inl x2), (3, .inl x3), (5, .inl x5)], [.inl s0], zW T' G' S n, 0, 0) := by
  unfold F_View_readIndexed_l16_73 at K
  unfold Sf_View_readIndexed_l16_73 at hs
  refine z_go2 M.1 73 [(.istore 7, 2), (.iload 5, 2), (.iload_n 2, 1)] (78, [(7, .inl s0), (0, z_r 27), (1, z_r 1), (2, .inl x2), (3, .inl x3), (5, .inl x5)], [.inl x2, .inl x5], zW T' G' S n, 0, 0) (by decide +kernel) rfl ⟨trivial, trivial, trivial, trivial⟩ ?_
  refine z_icmp_lt 99 M.1 (off := 21) (by decide +kernel) (by decide) (fun c78 => ?_) (fun c78 => ?_)
  · rw [if_pos c78] at K hs
    exact z_lvs (lv' := [(0, z_r 27), (1, z_r 1), (2, .inl x2), (3, .inl x3), (5, .inl x5)]) [1, 2, 3, 4, 5] rfl (t_View_readIndexed_l16_99 M rc sr S x2 x3 x5 hE hC K hs)
  · rw [if_neg c78] at K hs
    refine z_go2 M.1 81 [(.aload_n 1, 1), (.getfield 64, 3), (.iload 5, 2)] (87, [(7, .inl s0), (0, z_r 27), (1, z_r 1), (2, .inl x2), (3, .inl x3), (5, .inl x5)], [.inl x5, z_r 3], zW T' G' S n, 0, 0) (by decide +kernel) rfl ⟨trivial, rfl, trivial, trivial⟩ ?_
    refine z_callS M.1 (av := [z_r 3, .inl x5]) (st := []) (by decide +kernel) (c_at (zW T' G' S n) 3 900 rfl (by decide) x5) M.2.1 zl_View_46 zs_T_at ⟨by decide, by decide, by decide, by decide⟩ rfl (Nat.le_of_ble_eq_true rfl) (fun v w' hv => ?_)
    obtain ⟨rfl, rfl⟩ := hv
    show z_G X zm_View_readIndexed (90, [(7, .inl s0), (0, z_r 27), (1, z_r 1), (2, .inl x2), (3, .inl x3), (5, .inl x5)], [.inl (zAt (S 3) 900 x5)], zW T' G' S n, 0, 0)
    refine z_go2 M.1 90 [(.iload_n 3, 1)] (91, [(7, .inl s0), (0, z_r 27), (1, z_r 1), (2, .inl x2), (3, .inl x3), (5, .inl x5)], [.inl x3, .inl (zAt (S 3) 900 x5)], zW T' G' S n, 0, 0) (by decide +kernel) rfl ⟨trivial, trivial⟩ ?_
    refine z_icmp_ne 106 M.1 (off := 15) (by decide +kernel) (by decide) (fun c91 => ?_) (fun c91 => ?_)
    · rw [if_neg c91] at K hs
      refine z_go2 M.1 106 [(.iinc 5 1, 3), (.goto (-93), 3)] (16, [(5, .inl (x5 + 1)), (7, .inl s0), (0, z_r 27), (1, z_r 1), (2, .inl x2), (3, .inl x3)], [], zW T' G' S n, 0, 0) (by decide +kernel) rfl ⟨trivial, trivial, trivial⟩ ?_
      exact z_lvs (lv' := [(0, z_r 27), (1, z_r 1), (2, .inl x2), (3, .inl x3), (5, .inl (x5 + 1))]) [2, 3, 4, 5, 0] rfl (hC S (x5 + 1) K hs)
    · rw [if_pos c91] at K hs
      refine z_go2 M.1 94 [(.iload 7, 2)] (96, [(7, .inl s0), (0, z_r 27), (1, z_r 1), (2, .inl x2), (3, .inl x3), (5, .inl x5)], [.inl s0], zW T' G' S n, 0, 0) (by decide +kernel) rfl ⟨trivial, trivial⟩ ?_
      refine z_if_eq 106 M.1 (off := 10) (by decide +kernel) (by decide) (fun c96 => ?_) (fun c96 => ?_)
      · rw [if_pos c96] at K hs
        refine z_go2 M.1 106 [(.iinc 5 1, 3), (.goto (-93), 3)] (16, [(5, .inl (x5 + 1)), (7, .inl s0), (0, z_r 27), (1, z_r 1), (2, .inl x2), (3, .inl x3)], [], zW T' G' S n, 0, 0) (by decide +kernel) rfl ⟨trivial, trivial, trivial⟩ ?_
        exact z_lvs (lv' := [(0, z_r 27), (1, z_r 1), (2, .inl x2), (3, .inl x3), (5, .inl (x5 + 1))]) [2, 3, 4, 5, 0] rfl (hC S (x5 + 1) K hs)
      · rw [if_neg c96] at K hs
        exact z_lvs (lv' := [(0, z_r 27), (1, z_r 1), (2, .inl x2), (3, .inl x3), (5, .inl x5)]) [1, 2, 3, 4, 5] rfl (t_View_readIndexed_l16_99 M rc sr S x2 x3 x5 hE hC K hs)
def F_View_readIndexed_l16_68 (rc : (Nat → Nat → Int32) → Int32 → ((Nat → Nat → Int32))) (S : (Nat → Nat → Int32)) (x2 : Int32) (x3 : Int32) (x5 : Int32) : ((Nat → Nat → Int32)) := (F_View_readIndexed_l16_73 rc S x2 x3 x5 1)
def Sf_View_readIndexed_l16_68 (rc : (Nat → Nat → Int32) → Int32 → ((Nat → Nat → Int32))) (sr : (Nat → Nat → Int32) → Int32 → Prop) (S : (Nat → Nat → Int32)) (x2 : Int32) (x3 : Int32) (x5 : Int32) : Prop := (Sf_View_readIndexed_l16_73 rc sr S x2 x3 x5 1)
theorem t_View_readIndexed_l16_68 {X : z_X} {Post : Option z_V → z_W → Prop} (M : z_M X zm_View_readIndexed rm_View_readIndexed Post) {T' : Nat → Nat × Nat} {G' : Nat → Nat → Option Nat} {n : Nat} {Q : ((Nat → Nat → Int32)) → Prop} (rc : (Nat → Nat → Int32) → Int32 → ((Nat → Nat → Int32))) (sr : (Nat → Nat → Int32) → Int32 → Prop) (S : (Nat → Nat → Int32)) (x2 : Int32) (x3 : Int32) (x5 : Int32) (hE : ∀ (S' : (Nat → Nat → Int32)), Q S' → z_G X zm_View_readIndexed (112, [], [], zW T' G' S' n, 0, 0)) (hC : ∀ (S : (Nat → Nat → Int32)) (x5 : Int32), Q (rc S x5) → sr S x5 → z_G X zm_View_readIndexed (16, [(0, z_r 27), (1, z_r 1), (2, .inl x2), (3, .inl x3), (5, .inl x5)], [], zW T' G' S n, 0, 0)) (K : Q (F_View_readIndexed_l16_68 rc S x2 x3 x5)) (hs : Sf_View_readIndexed_l16_68 rc sr S x2 x3 x5) : z_G X zm_View_readIndexed (68, [(0, z_r 27), (1, z_r 1), (2, .inl x2), (3, .inl x3), (5, .inl x5)], [], zW T' G' S n, 0, 0) := by
  unfold F_View_readIndexed_l16_68 at K
  unfold Sf_View_readIndexed_l16_68 at hs
  refine z_go2 M.1 68 [(.iconst 1, 1), (.goto 4, 3)] (73, [(0, z_r 27), (1, z_r 1), (2, .inl x2), (3, .inl x3), (5, .inl x5)], [.inl 1], zW T' G' S n, 0, 0) (by decide +kernel) rfl ⟨trivial, trivial, trivial⟩ ?_
  exact z_lvs (lv' := [(0, z_r 27), (1, z_r 1), (2, .inl x2), (3, .inl x3), (5, .inl x5)]) [0, 1, 2, 3, 4] rfl (t_View_readIndexed_l16_73 M rc sr S x2 x3 x5 1 hE hC K hs)
def F_View_readIndexed_L16 (x2 : Int32) (x3 : Int32) : Nat → (Nat → Nat → Int32) → Int32 → ((Nat → Nat → Int32))
  | 0, S, x5 => S
  | f + 1, S, x5 => (if (S 1 7) ≤ x5 then S else (if (zAt (S 4) 900 x5) = (-1) then (F_View_readIndexed_l16_68 (F_View_readIndexed_L16 x2 x3 f) S x2 x3 x5) else (if (zAt (S 5) 900 x5) = 13 then (F_View_readIndexed_l16_68 (F_View_readIndexed_L16 x2 x3 f) S x2 x3 x5) else (if (F_World_has 28 S (zAt (S 4) 900 x5)) = 0 then (F_View_readIndexed_l16_73 (F_View_readIndexed_L16 x2 x3 f) S x2 x3 x5 0) else (F_View_readIndexed_l16_68 (F_View_readIndexed_L16 x2 x3 f) S x2 x3 x5)))))
def Sf_View_readIndexed_L16 (x2 : Int32) (x3 : Int32) : Nat → (Nat → Nat → Int32) → Int32 → Prop
  | 0, _, _ => False
  | f + 1, S, x5 => (if (S 1 7) ≤ x5 then True else (if (zAt (S 4) 900 x5) = (-1) then (Sf_View_readIndexed_l16_68 (F_View_readIndexed_L16 x2 x3 f) (Sf_View_readIndexed_L16 x2 x3 f) S x2 x3 x5) else (if (zAt (S 5) 900 x5) = 13 then (Sf_View_readIndexed_l16_68 (F_View_readIndexed_L16 x2 x3 f) (Sf_View_readIndexed_L16 x2 x3 f) S x2 x3 x5) else (if (F_World_has 28 S (zAt (S 4) 900 x5)) = 0 then (Sf_View_readIndexed_l16_73 (F_View_readIndexed_L16 x2 x3 f) (Sf_View_readIndexed_L16 x2 x3 f) S x2 x3 x5 0) else (Sf_View_readIndexed_l16_68 (F_View_readIndexed_L16 x2 x3 f) (Sf_View_readIndexed_L16 x2 x3 f) S x2 x3 x5)))))
theorem t_View_readIndexed_L16 {X : z_X} {Post : Option z_V → z_W → Prop} (M : z_M X zm_View_readIndexed rm_View_readIndexed Post) {T' : Nat → Nat × Nat} {G' : Nat → Nat → Option Nat} {n : Nat} {Q : ((Nat → Nat → Int32)) → Prop}  (x2 : Int32) (x3 : Int32) (hE : ∀ (S' : (Nat → Nat → Int32)), Q S' → z_G X zm_View_readIndexed (112, [], [], zW T' G' S' n, 0, 0)) (f : Nat) : ∀ (S : (Nat → Nat → Int32)) (x5 : Int32), Q (F_View_readIndexed_L16 x2 x3 f S x5) → Sf_View_readIndexed_L16 x2 x3 f S x5 → z_G X zm_View_readIndexed (16, [(0, z_r 27), (1, z_r 1), (2, .inl x2), (3, .inl x3), (5, .inl x5)], [], zW T' G' S n, 0, 0) := by
  induction f with
  | zero => intro S x5 K hs; exact False.elim hs
  | succ f hC =>
    intro S x5 K hs
    rw [F_View_readIndexed_L16] at K
    rw [Sf_View_readIndexed_L16] at hs
    refine z_go2 M.1 16 [(.iload 5, 2), (.aload_n 1, 1), (.getfield 38, 3)] (22, [(0, z_r 27), (1, z_r 1), (2, .inl x2), (3, .inl x3), (5, .inl x5)], [.inl (S 1 7), .inl x5], zW T' G' S n, 0, 0) (by decide +kernel) rfl ⟨trivial, trivial, rfl, trivial⟩ ?_
    refine z_icmp_ge 112 M.1 (off := 90) (by decide +kernel) (by decide) (fun c22 => ?_) (fun c22 => ?_)
    · rw [if_pos c22] at K hs
      exact z_lvs (lv' := []) [] rfl (hE S K)
    · rw [if_neg c22] at K hs
      refine z_go2 M.1 25 [(.aload_n 1, 1), (.getfield 54, 3), (.iload 5, 2)] (31, [(0, z_r 27), (1, z_r 1), (2, .inl x2), (3, .inl x3), (5, .inl x5)], [.inl x5, z_r 4], zW T' G' S n, 0, 0) (by decide +kernel) rfl ⟨trivial, rfl, trivial, trivial⟩ ?_
      refine z_callS M.1 (av := [z_r 4, .inl x5]) (st := []) (by decide +kernel) (c_at (zW T' G' S n) 4 900 rfl (by decide) x5) M.2.1 zl_View_46 zs_T_at ⟨by decide, by decide, by decide, by decide⟩ rfl (Nat.le_of_ble_eq_true rfl) (fun v w' hv => ?_)
      obtain ⟨rfl, rfl⟩ := hv
      show z_G X zm_View_readIndexed (34, [(0, z_r 27), (1, z_r 1), (2, .inl x2), (3, .inl x3), (5, .inl x5)], [.inl (zAt (S 4) 900 x5)], zW T' G' S n, 0, 0)
      refine z_go2 M.1 34 [(.istore 6, 2), (.iload 6, 2), (.iconst (-1), 1)] (39, [(6, .inl (zAt (S 4) 900 x5)), (0, z_r 27), (1, z_r 1), (2, .inl x2), (3, .inl x3), (5, .inl x5)], [.inl (-1), .inl (zAt (S 4) 900 x5)], zW T' G' S n, 0, 0) (by decide +kernel) rfl ⟨trivial, trivial, trivial, trivial⟩ ?_
      refine z_icmp_eq 68 M.1 (off := 29) (by decide +kernel) (by decide) (fun c39 => ?_) (fun c39 => ?_)
      · rw [if_pos c39] at K hs
        exact z_lvs (lv' := [(0, z_r 27), (1, z_r 1), (2, .inl x2), (3, .inl x3), (5, .inl x5)]) [1, 2, 3, 4, 5] rfl (t_View_readIndexed_l16_68 M (F_View_readIndexed_L16 x2 x3 f) (Sf_View_readIndexed_L16 x2 x3 f) S x2 x3 x5 hE hC K hs)
      · rw [if_neg c39] at K hs
        refine z_go2 M.1 42 [(.aload_n 1, 1), (.getfield 57, 3), (.iload 5, 2)] (48, [(6, .inl (zAt (S 4) 900 x5)), (0, z_r 27), (1, z_r 1), (2, .inl x2), (3, .inl x3), (5, .inl x5)], [.inl x5, z_r 5], zW T' G' S n, 0, 0) (by decide +kernel) rfl ⟨trivial, rfl, trivial, trivial⟩ ?_
        refine z_callS M.1 (av := [z_r 5, .inl x5]) (st := []) (by decide +kernel) (c_at (zW T' G' S n) 5 900 rfl (by decide) x5) M.2.1 zl_View_46 zs_T_at ⟨by decide, by decide, by decide, by decide⟩ rfl (Nat.le_of_ble_eq_true rfl) (fun v w' hv => ?_)
        obtain ⟨rfl, rfl⟩ := hv
        show z_G X zm_View_readIndexed (51, [(6, .inl (zAt (S 4) 900 x5)), (0, z_r 27), (1, z_r 1), (2, .inl x2), (3, .inl x3), (5, .inl x5)], [.inl (zAt (S 5) 900 x5)], zW T' G' S n, 0, 0)
        refine z_go2 M.1 51 [(.bipush 13, 2)] (53, [(6, .inl (zAt (S 4) 900 x5)), (0, z_r 27), (1, z_r 1), (2, .inl x2), (3, .inl x3), (5, .inl x5)], [.inl 13, .inl (zAt (S 5) 900 x5)], zW T' G' S n, 0, 0) (by decide +kernel) rfl ⟨trivial, trivial⟩ ?_
        refine z_icmp_eq 68 M.1 (off := 15) (by decide +kernel) (by decide) (fun c53 => ?_) (fun c53 => ?_)
        · rw [if_pos c53] at K hs
          exact z_lvs (lv' := [(0, z_r 27), (1, z_r 1), (2, .inl x2), (3, .inl x3), (5, .inl x5)]) [1, 2, 3, 4, 5] rfl (t_View_readIndexed_l16_68 M (F_View_readIndexed_L16 x2 x3 f) (Sf_View_readIndexed_L16 x2 x3 f) S x2 x3 x5 hE hC K hs)
        · rw [if_neg c53] at K hs
          refine z_go2 M.1 56 [(.aload_n 0, 1), (.getfield 12, 3), (.iload 6, 2)] (62, [(6, .inl (zAt (S 4) 900 x5)), (0, z_r 27), (1, z_r 1), (2, .inl x2), (3, .inl x3), (5, .inl x5)], [.inl (zAt (S 4) 900 x5), z_r 28], zW T' G' S n, 0, 0) (by decide +kernel) rfl ⟨trivial, rfl, trivial, trivial⟩ ?_
          refine z_callV M.1 (av := [.inl (zAt (S 4) 900 x5)]) (st := []) (a := 28) (ci := 10) (by decide +kernel) (c_World_has_28 T' G' S n (zAt (S 4) 900 x5)) M.2.1 zl_View_60 zv_World_has rfl rfl rfl ⟨by decide, by decide, by decide, by decide⟩ rfl (Nat.le_of_ble_eq_true rfl) (fun v w' hv => ?_)
          obtain ⟨rfl, rfl⟩ := hv
          show z_G X zm_View_readIndexed (65, [(6, .inl (zAt (S 4) 900 x5)), (0, z_r 27), (1, z_r 1), (2, .inl x2), (3, .inl x3), (5, .inl x5)], [.inl (F_World_has 28 S (zAt (S 4) 900 x5))], zW T' G' S n, 0, 0)
          refine z_if_eq 72 M.1 (off := 7) (by decide +kernel) (by decide) (fun c65 => ?_) (fun c65 => ?_)
          · rw [if_pos c65] at K hs
            refine z_go2 M.1 72 [(.iconst 0, 1)] (73, [(6, .inl (zAt (S 4) 900 x5)), (0, z_r 27), (1, z_r 1), (2, .inl x2), (3, .inl x3), (5, .inl x5)], [.inl 0], zW T' G' S n, 0, 0) (by decide +kernel) rfl ⟨trivial, trivial⟩ ?_
            exact z_lvs (lv' := [(0, z_r 27), (1, z_r 1), (2, .inl x2), (3, .inl x3), (5, .inl x5)]) [1, 2, 3, 4, 5] rfl (t_View_readIndexed_l16_73 M (F_View_readIndexed_L16 x2 x3 f) (Sf_View_readIndexed_L16 x2 x3 f) S x2 x3 x5 0 hE hC K hs)
          · rw [if_neg c65] at K hs
            exact z_lvs (lv' := [(0, z_r 27), (1, z_r 1), (2, .inl x2), (3, .inl x3), (5, .inl x5)]) [1, 2, 3, 4, 5] rfl (t_View_readIndexed_l16_68 M (F_View_readIndexed_L16 x2 x3 f) (Sf_View_readIndexed_L16 x2 x3 f) S x2 x3 x5 hE hC K hs)
def F_View_readIndexed (S : (Nat → Nat → Int32)) (p2 : Int32) (p3 : Int32) (p4 : Int32) : (Nat → Nat → Int32) := (z_let (F_World_clear 28 S) (fun S4 => (match F_View_readIndexed_L16 p2 p3 1300 (z_uS S4 27 5 p4) 0 with | S16 => S16)))
def Sf_View_readIndexed (S : (Nat → Nat → Int32)) (p2 : Int32) (p3 : Int32) (p4 : Int32) : Prop := (z_let (F_World_clear 28 S) (fun S4 => (Sf_View_readIndexed_L16 p2 p3 1300 (z_uS S4 27 5 p4) 0 ∧ True)))
theorem c_View_readIndexed (T' : Nat → Nat × Nat) (G' : Nat → Nat → Option Nat) (S : (Nat → Nat → Int32)) (n : Nat) (p2 : Int32) (p3 : Int32) (p4 : Int32) (hs : Sf_View_readIndexed S p2 p3 p4) : z_Run rm_View_readIndexed zm_View_readIndexed [z_r 27, z_r 1, .inl p2, .inl p3, .inl p4] (zW T' G' S n) (zq none (zW T' G' (F_View_readIndexed S p2 p3 p4) n)) := by
  refine z_body (by decide) zf_View_ok (Nat.le_of_ble_eq_true rfl) (fun X M => ?_)
  obtain ⟨Q, hQ, K⟩ : ∃ Q : (Nat → Nat → Int32) → Prop, (∀ S', Q S' → zq none (zW T' G' (F_View_readIndexed S p2 p3 p4) n) none (zW T' G' S' n)) ∧ Q (F_View_readIndexed S p2 p3 p4) := ⟨fun o => F_View_readIndexed S p2 p3 p4 = o, fun S' h => ⟨rfl, by rw [h]⟩, rfl⟩
  show z_G X zm_View_readIndexed (0, [(0, z_r 27), (1, z_r 1), (2, .inl p2), (3, .inl p3), (4, .inl p4)], [], zW T' G' S n, 0, 0)
  unfold F_View_readIndexed at K
  unfold Sf_View_readIndexed at hs
  refine z_go2 M.1 0 [(.aload_n 0, 1), (.getfield 12, 3)] (4, [(0, z_r 27), (1, z_r 1), (2, .inl p2), (3, .inl p3), (4, .inl p4)], [z_r 28], zW T' G' S n, 0, 0) (by decide +kernel) rfl ⟨trivial, rfl, trivial⟩ ?_
  refine z_callV M.1 (av := []) (st := []) (a := 28) (ci := 10) (by decide +kernel) (c_World_clear_28 T' G' S n) M.2.1 zl_View_35 zv_World_clear rfl rfl rfl ⟨by decide, by decide, by decide, by decide⟩ rfl (Nat.le_of_ble_eq_true rfl) (fun v w' hv => ?_)
  obtain ⟨S4, hF4⟩ : ∃ y, F_World_clear 28 S = y := ⟨_, rfl⟩
  rw [hF4] at K hv hs
  try dsimp only [z_let] at K hs
  obtain ⟨rfl, rfl⟩ := hv
  show z_G X zm_View_readIndexed (7, [(0, z_r 27), (1, z_r 1), (2, .inl p2), (3, .inl p3), (4, .inl p4)], [], zW T' G' S4 n, 0, 0)
  refine z_go2 M.1 7 [(.aload_n 0, 1), (.iload 4, 2), (.putfield 31, 3), (.iconst 0, 1), (.istore 5, 2)] (16, [(5, .inl 0), (0, z_r 27), (1, z_r 1), (2, .inl p2), (3, .inl p3), (4, .inl p4)], [], zW T' G' (z_uS S4 27 5 p4) n, 0, 0) (by decide +kernel) rfl ⟨trivial, trivial, ⟨rfl, trivial⟩, trivial, trivial, trivial⟩ ?_
  refine z_lvs (lv' := [(0, z_r 27), (1, z_r 1), (2, .inl p2), (3, .inl p3), (5, .inl 0)]) [1, 2, 3, 4, 0] rfl ?_
  refine t_View_readIndexed_L16 M (Q := fun o => F_View_readIndexed_L16 p2 p3 1300 (z_uS S4 27 5 p4) 0 = o) p2 p3 (fun S16 hL16 => ?_) 1300 (z_uS S4 27 5 p4) 0 rfl hs.1
  replace hs := hs.2
  rw [hL16] at K
  try dsimp only at K
  exact z_vret M (by decide +kernel) rfl (by decide) (by decide) (hQ _ K)

-- TrackHouse$Finder.isOfOne
abbrev rm_Finder_isOfOne : Room := zr 0
def F_Finder_isOfOne (S : (Nat → Nat → Int32)) (p0 : Int32) : Int32 := (if p0 = 33 then 1 else (if p0 = 67 then 1 else (if p0 = 85 then 1 else (if p0 = 76 then 1 else (if p0 = 73 then 1 else 0)))))
theorem c_Finder_isOfOne (T' : Nat → Nat × Nat) (G' : Nat → Nat → Option Nat) (S : (Nat → Nat → Int32)) (n : Nat) (p0 : Int32) : z_Run rm_Finder_isOfOne zm_Finder_isOfOne [.inl p0] (zW T' G' S n) (zq (some (.inl (F_Finder_isOfOne S p0))) (zW T' G' S n)) := by
  refine z_body (by decide) zf_Finder_ok (Nat.le_of_ble_eq_true rfl) (fun X M => ?_)
  obtain ⟨Q, hQ, K⟩ : ∃ Q : Int32 → Prop, (∀ v, Q v → zq (some (.inl (F_Finder_isOfOne S p0))) (zW T' G' S n) (some (.inl v)) (zW T' G' S n)) ∧ Q (F_Finder_isOfOne S p0) := ⟨fun o => F_Finder_isOfOne S p0 = o, fun v h => ⟨by rw [h], rfl⟩, rfl⟩
  show z_G X zm_Finder_isOfOne (0, [(0, .inl p0)], [], zW T' G' S n, 0, 0)
  unfold F_Finder_isOfOne at K
  refine z_go2 M.1 0 [(.iload_n 0, 1), (.bipush 33, 2)] (3, [(0, .inl p0)], [.inl 33, .inl p0], zW T' G' S n, 0, 0) (by decide +kernel) rfl ⟨trivial, trivial, trivial⟩ ?_
  refine z_icmp_eq 30 M.1 (off := 27) (by decide +kernel) (by decide) (fun c3 => ?_) (fun c3 => ?_)
  · rw [if_pos c3] at K
    refine z_go2 M.1 30 [(.iconst 1, 1), (.goto 4, 3)] (35, [(0, .inl p0)], [.inl 1], zW T' G' S n, 0, 0) (by decide +kernel) rfl ⟨trivial, trivial, trivial⟩ ?_
    exact z_iret M (by decide +kernel) .boolean rfl rfl (by decide) (by decide) (hQ _ K)
  · rw [if_neg c3] at K
    refine z_go2 M.1 6 [(.iload_n 0, 1), (.bipush 67, 2)] (9, [(0, .inl p0)], [.inl 67, .inl p0], zW T' G' S n, 0, 0) (by decide +kernel) rfl ⟨trivial, trivial, trivial⟩ ?_
    refine z_icmp_eq 30 M.1 (off := 21) (by decide +kernel) (by decide) (fun c9 => ?_) (fun c9 => ?_)
    · rw [if_pos c9] at K
      refine z_go2 M.1 30 [(.iconst 1, 1), (.goto 4, 3)] (35, [(0, .inl p0)], [.inl 1], zW T' G' S n, 0, 0) (by decide +kernel) rfl ⟨trivial, trivial, trivial⟩ ?_
      exact z_iret M (by decide +kernel) .boolean rfl rfl (by decide) (by decide) (hQ _ K)
    · rw [if_neg c9] at K
      refine z_go2 M.1 12 [(.iload_n 0, 1), (.bipush 85, 2)] (15, [(0, .inl p0)], [.inl 85, .inl p0], zW T' G' S n, 0, 0) (by decide +kernel) rfl ⟨trivial, trivial, trivial⟩ ?_
      refine z_icmp_eq 30 M.1 (off := 15) (by decide +kernel) (by decide) (fun c15 => ?_) (fun c15 => ?_)
      · rw [if_pos c15] at K
        refine z_go2 M.1 30 [(.iconst 1, 1), (.goto 4, 3)] (35, [(0, .inl p0)], [.inl 1], zW T' G' S n, 0, 0) (by decide +kernel) rfl ⟨trivial, trivial, trivial⟩ ?_
        exact z_iret M (by decide +kernel) .boolean rfl rfl (by decide) (by decide) (hQ _ K)
      · rw [if_neg c15] at K
        refine z_go2 M.1 18 [(.iload_n 0, 1), (.bipush 76, 2)] (21, [(0, .inl p0)], [.inl 76, .inl p0], zW T' G' S n, 0, 0) (by decide +kernel) rfl ⟨trivial, trivial, trivial⟩ ?_
        refine z_icmp_eq 30 M.1 (off := 9) (by decide +kernel) (by decide) (fun c21 => ?_) (fun c21 => ?_)
        · rw [if_pos c21] at K
          refine z_go2 M.1 30 [(.iconst 1, 1), (.goto 4, 3)] (35, [(0, .inl p0)], [.inl 1], zW T' G' S n, 0, 0) (by decide +kernel) rfl ⟨trivial, trivial, trivial⟩ ?_
          exact z_iret M (by decide +kernel) .boolean rfl rfl (by decide) (by decide) (hQ _ K)
        · rw [if_neg c21] at K
          refine z_go2 M.1 24 [(.iload_n 0, 1), (.bipush 73, 2)] (27, [(0, .inl p0)], [.inl 73, .inl p0], zW T' G' S n, 0, 0) (by decide +kernel) rfl ⟨trivial, trivial, trivial⟩ ?_
          refine z_icmp_ne 34 M.1 (off := 7) (by decide +kernel) (by decide) (fun c27 => ?_) (fun c27 => ?_)
          · rw [if_neg c27] at K
            refine z_go2 M.1 34 [(.iconst 0, 1)] (35, [(0, .inl p0)], [.inl 0], zW T' G' S n, 0, 0) (by decide +kernel) rfl ⟨trivial, trivial⟩ ?_
            exact z_iret M (by decide +kernel) .boolean rfl rfl (by decide) (by decide) (hQ _ K)
          · rw [if_pos c27] at K
            refine z_go2 M.1 30 [(.iconst 1, 1), (.goto 4, 3)] (35, [(0, .inl p0)], [.inl 1], zW T' G' S n, 0, 0) (by decide +kernel) rfl ⟨trivial, trivial, trivial⟩ ?_
            exact z_iret M (by decide +kernel) .boolean rfl rfl (by decide) (by decide) (hQ _ K)

-- TrackHouse$Finder.related
abbrev rm_Finder_related : Room := zr 1
def F_Finder_related_l38_163 (rc : Int32 → Int32 → (Int32)) (S : (Nat → Nat → Int32)) (x1 : Int32) (x2 : Int32) (x4 : Int32) (x5 : Int32) (x6 : Int32) : (Int32) := (if x1 = 73 then (if (F_T_isIn S x4 x6) = 0 then (rc x5 (x6 + 1)) else (rc (x5 ||| (F_World_linksOf 28 S x2 x6)) (x6 + 1))) else (rc x5 (x6 + 1)))
def Sf_Finder_related_l38_163 (rc : Int32 → Int32 → (Int32)) (sr : Int32 → Int32 → Prop) (S : (Nat → Nat → Int32)) (x1 : Int32) (x2 : Int32) (x4 : Int32) (x5 : Int32) (x6 : Int32) : Prop := (if x1 = 73 then (if (F_T_isIn S x4 x6) = 0 then (sr x5 (x6 + 1)) else (Sf_World_linksOf 28 S x2 x6 ∧ (sr (x5 ||| (F_World_linksOf 28 S x2 x6)) (x6 + 1)))) else (sr x5 (x6 + 1)))
theorem t_Finder_related_l38_163 {X : z_X} {Post : Option z_V → z_W → Prop} (M : z_M X zm_Finder_related rm_Finder_related Post) {T' : Nat → Nat × Nat} {G' : Nat → Nat → Option Nat} {n : Nat} {Q : (Int32) → Prop} (rc : Int32 → Int32 → (Int32)) (sr : Int32 → Int32 → Prop) (S : (Nat → Nat → Int32)) (x1 : Int32) (x2 : Int32) (x4 : Int32) (x5 : Int32) (x6 : Int32) (hE : ∀ (y5 : Int32), Q y5 → z_G X zm_Finder_related (203, [(0, z_r 17), (5, .inl y5)], [], zW T' G' S n, 0, 0)) (hC : ∀ (x5 : Int32) (x6 : Int32), Q (rc x5 x6) → sr x5 x6 → z_G X zm_Finder_related (38, [(0, z_r 17), (1, .inl x1), (2, .inl x2), (4, .inl x4), (5, .inl x5), (6, .inl x6)], [], zW T' G' S n, 0, 0)) (K : Q (F_Finder_related_l38_163 rc S x1 x2 x4 x5 x6)) (hs : Sf_Finder_related_l38_163 rc sr S x1 x2 x4 x5 x6) : z_G X zm_Finder_related (163, [(0, z_r 17), (1, .inl x1), (2, .inl x2), (4, .inl x4), (5, .inl x5), (6, .inl x6)], [], zW T' G' S n, 0, 0) := by
  unfold F_Finder_related_l38_163 at K
  unfold Sf_Finder_related_l38_163 at hs
  refine z_go2 M.1 163 [(.iload_n 1, 1), (.bipush 73, 2)] (166, [(0, z_r 17), (1, .inl x1), (2, .inl x2), (4, .inl x4), (5, .inl x5), (6, .inl x6)], [.inl 73, .inl x1], zW T' G' S n, 0, 0) (by decide +kernel) rfl ⟨trivial, trivial, trivial⟩ ?_
  refine z_icmp_ne 197 M.1 (off := 31) (by decide +kernel) (by decide) (fun c166 => ?_) (fun c166 => ?_)
  · rw [if_neg c166] at K hs
    refine z_go2 M.1 197 [(.iinc 6 1, 3), (.goto (-162), 3)] (38, [(6, .inl (x6 + 1)), (0, z_r 17), (1, .inl x1), (2, .inl x2), (4, .inl x4), (5, .inl x5)], [], zW T' G' S n, 0, 0) (by decide +kernel) rfl ⟨trivial, trivial, trivial⟩ ?_
    exact z_lvs (lv' := [(0, z_r 17), (1, .inl x1), (2, .inl x2), (4, .inl x4), (5, .inl x5), (6, .inl (x6 + 1))]) [1, 2, 3, 4, 5, 0] rfl (hC x5 (x6 + 1) K hs)
  · rw [if_pos c166] at K hs
    refine z_go2 M.1 169 [(.iload 4, 2), (.iload 6, 2)] (173, [(0, z_r 17), (1, .inl x1), (2, .inl x2), (4, .inl x4), (5, .inl x5), (6, .inl x6)], [.inl x6, .inl x4], zW T' G' S n, 0, 0) (by decide +kernel) rfl ⟨trivial, trivial, trivial⟩ ?_
    refine z_callS M.1 (av := [.inl x4, .inl x6]) (st := []) (by decide +kernel) (c_T_isIn T' G' S n x4 x6) M.2.1 zl_Finder_78 zs_T_isIn ⟨by decide, by decide, by decide, by decide⟩ rfl (Nat.le_of_ble_eq_true rfl) (fun v w' hv => ?_)
    obtain ⟨rfl, rfl⟩ := hv
    show z_G X zm_Finder_related (176, [(0, z_r 17), (1, .inl x1), (2, .inl x2), (4, .inl x4), (5, .inl x5), (6, .inl x6)], [.inl (F_T_isIn S x4 x6)], zW T' G' S n, 0, 0)
    refine z_if_eq 197 M.1 (off := 21) (by decide +kernel) (by decide) (fun c176 => ?_) (fun c176 => ?_)
    · rw [if_pos c176] at K hs
      refine z_go2 M.1 197 [(.iinc 6 1, 3), (.goto (-162), 3)] (38, [(6, .inl (x6 + 1)), (0, z_r 17), (1, .inl x1), (2, .inl x2), (4, .inl x4), (5, .inl x5)], [], zW T' G' S n, 0, 0) (by decide +kernel) rfl ⟨trivial, trivial, trivial⟩ ?_
      exact z_lvs (lv' := [(0, z_r 17), (1, .inl x1), (2, .inl x2), (4, .inl x4), (5, .inl x5), (6, .inl (x6 + 1))]) [1, 2, 3, 4, 5, 0] rfl (hC x5 (x6 + 1) K hs)
    · rw [if_neg c176] at K hs
      refine z_go2 M.1 179 [(.iload 5, 2), (.aload_n 0, 1), (.getfield 25, 3), (.getfield 69, 3), (.iload_n 2, 1), (.iload 6, 2)] (191, [(0, z_r 17), (1, .inl x1), (2, .inl x2), (4, .inl x4), (5, .inl x5), (6, .inl x6)], [.inl x6, .inl x2, z_r 28, .inl x5], zW T' G' S n, 0, 0) (by decide +kernel) rfl ⟨trivial, trivial, rfl, rfl, trivial, trivial, trivial⟩ ?_
      refine z_callV M.1 (av := [.inl x2, .inl x6]) (st := [.inl x5]) (a := 28) (ci := 10) (by decide +kernel) (c_World_linksOf_28 T' G' S n x2 x6 hs.1) M.2.1 zl_Finder_89 zv_World_linksOf rfl rfl rfl ⟨by decide, by decide, by decide, by decide⟩ rfl (Nat.le_of_ble_eq_true rfl) (fun v w' hv => ?_)
      obtain ⟨rfl, rfl⟩ := hv
      replace hs := hs.2
      show z_G X zm_Finder_related (194, [(0, z_r 17), (1, .inl x1), (2, .inl x2), (4, .inl x4), (5, .inl x5), (6, .inl x6)], [.inl (F_World_linksOf 28 S x2 x6), .inl x5], zW T' G' S n, 0, 0)
      refine z_go2 M.1 194 [(.ior, 1), (.istore 5, 2), (.iinc 6 1, 3), (.goto (-162), 3)] (38, [(6, .inl (x6 + 1)), (5, .inl (x5 ||| (F_World_linksOf 28 S x2 x6))), (0, z_r 17), (1, .inl x1), (2, .inl x2), (4, .inl x4)], [], zW T' G' S n, 0, 0) (by decide +kernel) rfl ⟨trivial, trivial, trivial, trivial, trivial⟩ ?_
      exact z_lvs (lv' := [(0, z_r 17), (1, .inl x1), (2, .inl x2), (4, .inl x4), (5, .inl (x5 ||| (F_World_linksOf 28 S x2 x6))), (6, .inl (x6 + 1))]) [2, 3, 4, 5, 1, 0] rfl (hC (x5 ||| (F_World_linksOf 28 S x2 x6)) (x6 + 1) K hs)
def F_Finder_related_l38_125 (rc : Int32 → Int32 → (Int32)) (S : (Nat → Nat → Int32)) (x1 : Int32) (x2 : Int32) (x4 : Int32) (x5 : Int32) (x6 : Int32) : (Int32) := (if x1 = 76 then (if (x4 &&& (F_World_linksOf 28 S x2 x6)) = 0 then (F_Finder_related_l38_163 rc S x1 x2 x4 x5 x6) else (rc (x5 ||| (F_T_bit S x6)) (x6 + 1))) else (F_Finder_related_l38_163 rc S x1 x2 x4 x5 x6))
def Sf_Finder_related_l38_125 (rc : Int32 → Int32 → (Int32)) (sr : Int32 → Int32 → Prop) (S : (Nat → Nat → Int32)) (x1 : Int32) (x2 : Int32) (x4 : Int32) (x5 : Int32) (x6 : Int32) : Prop := (if x1 = 76 then (Sf_World_linksOf 28 S x2 x6 ∧ (if (x4 &&& (F_World_linksOf 28 S x2 x6)) = 0 then (Sf_Finder_related_l38_163 rc sr S x1 x2 x4 x5 x6) else (sr (x5 ||| (F_T_bit S x6)) (x6 + 1)))) else (Sf_Finder_related_l38_163 rc sr S x1 x2 x4 x5 x6))
theorem t_Finder_related_l38_125 {X : z_X} {Post : Option z_V → z_W → Prop} (M : z_M X zm_Finder_related rm_Finder_related Post) {T' : Nat → Nat × Nat} {G' : Nat → Nat → Option Nat} {n : Nat} {Q : (Int32) → Prop} (rc : Int32 → Int32 → (Int32)) (sr : Int32 → Int32 → Prop) (S : (Nat → Nat → Int32)) (x1 : Int32) (x2 : Int32) (x4 : Int32) (x5 : Int32) (x6 : Int32) (hE : ∀ (y5 : Int32), Q y5 → z_G X zm_Finder_related (203, [(0, z_r 17), (5, .inl y5)], [], zW T' G' S n, 0, 0)) (hC : ∀ (x5 : Int32) (x6 : Int32), Q (rc x5 x6) → sr x5 x6 → z_G X zm_Finder_related (38, [(0, z_r 17), (1, .inl x1), (2, .inl x2), (4, .inl x4), (5, .inl x5), (6, .inl x6)], [], zW T' G' S n, 0, 0)) (K : Q (F_Finder_related_l38_125 rc S x1 x2 x4 x5 x6)) (hs : Sf_Finder_related_l38_125 rc sr S x1 x2 x4 x5 x6) : z_G X zm_Finder_related (125, [(0, z_r 17), (1, .inl x1), (2, .inl x2), (4, .inl x4), (5, .inl x5), (6, .inl x6)], [], zW T' G' S n, 0, 0) := by
  unfold F_Finder_related_l38_125 at K
  unfold Sf_Finder_related_l38_125 at hs
  refine z_go2 M.1 125 [(.iload_n 1, 1), (.bipush 76, 2)] (128, [(0, z_r 17), (1, .inl x1), (2, .inl x2), (4, .inl x4), (5, .inl x5), (6, .inl x6)], [.inl 76, .inl x1], zW T' G' S n, 0, 0) (by decide +kernel) rfl ⟨trivial, trivial, trivial⟩ ?_
  refine z_icmp_ne 163 M.1 (off := 35) (by decide +kernel) (by decide) (fun c128 => ?_) (fun c128 => ?_)
  · rw [if_neg c128] at K hs
    exact z_lvs (lv' := [(0, z_r 17), (1, .inl x1), (2, .inl x2), (4, .inl x4), (5, .inl x5), (6, .inl x6)]) [0, 1, 2, 3, 4, 5] rfl (t_Finder_related_l38_163 M rc sr S x1 x2 x4 x5 x6 hE hC K hs)
  · rw [if_pos c128] at K hs
    refine z_go2 M.1 131 [(.iload 4, 2), (.aload_n 0, 1), (.getfield 25, 3), (.getfield 69, 3), (.iload_n 2, 1), (.iload 6, 2)] (143, [(0, z_r 17), (1, .inl x1), (2, .inl x2), (4, .inl x4), (5, .inl x5), (6, .inl x6)], [.inl x6, .inl x2, z_r 28, .inl x4], zW T' G' S n, 0, 0) (by decide +kernel) rfl ⟨trivial, trivial, rfl, rfl, trivial, trivial, trivial⟩ ?_
    refine z_callV M.1 (av := [.inl x2, .inl x6]) (st := [.inl x4]) (a := 28) (ci := 10) (by decide +kernel) (c_World_linksOf_28 T' G' S n x2 x6 hs.1) M.2.1 zl_Finder_89 zv_World_linksOf rfl rfl rfl ⟨by decide, by decide, by decide, by decide⟩ rfl (Nat.le_of_ble_eq_true rfl) (fun v w' hv => ?_)
    obtain ⟨rfl, rfl⟩ := hv
    replace hs := hs.2
    show z_G X zm_Finder_related (146, [(0, z_r 17), (1, .inl x1), (2, .inl x2), (4, .inl x4), (5, .inl x5), (6, .inl x6)], [.inl (F_World_linksOf 28 S x2 x6), .inl x4], zW T' G' S n, 0, 0)
    refine z_go2 M.1 146 [(.iand, 1)] (147, [(0, z_r 17), (1, .inl x1), (2, .inl x2), (4, .inl x4), (5, .inl x5), (6, .inl x6)], [.inl (x4 &&& (F_World_linksOf 28 S x2 x6))], zW T' G' S n, 0, 0) (by decide +kernel) rfl ⟨trivial, trivial⟩ ?_
    refine z_if_eq 163 M.1 (off := 16) (by decide +kernel) (by decide) (fun c147 => ?_) (fun c147 => ?_)
    · rw [if_pos c147] at K hs
      exact z_lvs (lv' := [(0, z_r 17), (1, .inl x1), (2, .inl x2), (4, .inl x4), (5, .inl x5), (6, .inl x6)]) [0, 1, 2, 3, 4, 5] rfl (t_Finder_related_l38_163 M rc sr S x1 x2 x4 x5 x6 hE hC K hs)
    · rw [if_neg c147] at K hs
      refine z_go2 M.1 150 [(.iload 5, 2), (.iload 6, 2)] (154, [(0, z_r 17), (1, .inl x1), (2, .inl x2), (4, .inl x4), (5, .inl x5), (6, .inl x6)], [.inl x6, .inl x5], zW T' G' S n, 0, 0) (by decide +kernel) rfl ⟨trivial, trivial, trivial⟩ ?_
      refine z_callS M.1 (av := [.inl x6]) (st := [.inl x5]) (by decide +kernel) (c_T_bit T' G' S n x6) M.2.1 zl_Finder_86 zs_T_bit ⟨by decide, by decide, by decide, by decide⟩ rfl (Nat.le_of_ble_eq_true rfl) (fun v w' hv => ?_)
      obtain ⟨rfl, rfl⟩ := hv
      show z_G X zm_Finder_related (157, [(0, z_r 17), (1, .inl x1), (2, .inl x2), (4, .inl x4), (5, .inl x5), (6, .inl x6)], [.inl (F_T_bit S x6), .inl x5], zW T' G' S n, 0, 0)
      refine z_go2 M.1 157 [(.ior, 1), (.istore 5, 2), (.goto 37, 3), (.iinc 6 1, 3), (.goto (-162), 3)] (38, [(6, .inl (x6 + 1)), (5, .inl (x5 ||| (F_T_bit S x6))), (0, z_r 17), (1, .inl x1), (2, .inl x2), (4, .inl x4)], [], zW T' G' S n, 0, 0) (by decide +kernel) rfl ⟨trivial, trivial, trivial, trivial, trivial, trivial⟩ ?_
      exact z_lvs (lv' := [(0, z_r 17), (1, .inl x1), (2, .inl x2), (4, .inl x4), (5, .inl (x5 ||| (F_T_bit S x6))), (6, .inl (x6 + 1))]) [2, 3, 4, 5, 1, 0] rfl (hC (x5 ||| (F_T_bit S x6)) (x6 + 1) K hs)
def F_Finder_related_l38_85 (rc : Int32 → Int32 → (Int32)) (S : (Nat → Nat → Int32)) (x1 : Int32) (x2 : Int32) (x4 : Int32) (x5 : Int32) (x6 : Int32) : (Int32) := (if x1 = 85 then (if (F_T_isIn S x4 (F_World_cell 28 S x6 5)) = 0 then (F_Finder_related_l38_125 rc S x1 x2 x4 x5 x6) else (rc (x5 ||| (F_T_bit S x6)) (x6 + 1))) else (F_Finder_related_l38_125 rc S x1 x2 x4 x5 x6))
def Sf_Finder_related_l38_85 (rc : Int32 → Int32 → (Int32)) (sr : Int32 → Int32 → Prop) (S : (Nat → Nat → Int32)) (x1 : Int32) (x2 : Int32) (x4 : Int32) (x5 : Int32) (x6 : Int32) : Prop := (if x1 = 85 then (Sf_World_cell 28 S x6 5 ∧ (if (F_T_isIn S x4 (F_World_cell 28 S x6 5)) = 0 then (Sf_Finder_related_l38_125 rc sr S x1 x2 x4 x5 x6) else (sr (x5 ||| (F_T_bit S x6)) (x6 + 1)))) else (Sf_Finder_related_l38_125 rc sr S x1 x2 x4 x5 x6))
theorem t_Finder_related_l38_85 {X : z_X} {Post : Option z_V → z_W → Prop} (M : z_M X zm_Finder_related rm_Finder_related Post) {T' : Nat → Nat × Nat} {G' : Nat → Nat → Option Nat} {n : Nat} {Q : (Int32) → Prop} (rc : Int32 → Int32 → (Int32)) (sr : Int32 → Int32 → Prop) (S : (Nat → Nat → Int32)) (x1 : Int32) (x2 : Int32) (x4 : Int32) (x5 : Int32) (x6 : Int32) (hE : ∀ (y5 : Int32), Q y5 → z_G X zm_Finder_related (203, [(0, z_r 17), (5, .inl y5)], [], zW T' G' S n, 0, 0)) (hC : ∀ (x5 : Int32) (x6 : Int32), Q (rc x5 x6) → sr x5 x6 → z_G X zm_Finder_related (38, [(0, z_r 17), (1, .inl x1), (2, .inl x2), (4, .inl x4), (5, .inl x5), (6, .inl x6)], [], zW T' G' S n, 0, 0)) (K : Q (F_Finder_related_l38_85 rc S x1 x2 x4 x5 x6)) (hs : Sf_Finder_related_l38_85 rc sr S x1 x2 x4 x5 x6) : z_G X zm_Finder_related (85, [(0, z_r 17), (1, .inl x1), (2, .inl x2), (4, .inl x4), (5, .inl x5), (6, .inl x6)], [], zW T' G' S n, 0, 0) := by
  unfold F_Finder_related_l38_85 at K
  unfold Sf_Finder_related_l38_85 at hs
  refine z_go2 M.1 85 [(.iload_n 1, 1), (.bipush 85, 2)] (88, [(0, z_r 17), (1, .inl x1), (2, .inl x2), (4, .inl x4), (5, .inl x5), (6, .inl x6)], [.inl 85, .inl x1], zW T' G' S n, 0, 0) (by decide +kernel) rfl ⟨trivial, trivial, trivial⟩ ?_
  refine z_icmp_ne 125 M.1 (off := 37) (by decide +kernel) (by decide) (fun c88 => ?_) (fun c88 => ?_)
  · rw [if_neg c88] at K hs
    exact z_lvs (lv' := [(0, z_r 17), (1, .inl x1), (2, .inl x2), (4, .inl x4), (5, .inl x5), (6, .inl x6)]) [0, 1, 2, 3, 4, 5] rfl (t_Finder_related_l38_125 M rc sr S x1 x2 x4 x5 x6 hE hC K hs)
  · rw [if_pos c88] at K hs
    refine z_go2 M.1 91 [(.iload 4, 2), (.aload_n 0, 1), (.getfield 25, 3), (.getfield 69, 3), (.iload 6, 2), (.iconst 5, 1)] (103, [(0, z_r 17), (1, .inl x1), (2, .inl x2), (4, .inl x4), (5, .inl x5), (6, .inl x6)], [.inl 5, .inl x6, z_r 28, .inl x4], zW T' G' S n, 0, 0) (by decide +kernel) rfl ⟨trivial, trivial, rfl, rfl, trivial, trivial, trivial⟩ ?_
    refine z_callV M.1 (av := [.inl x6, .inl 5]) (st := [.inl x4]) (a := 28) (ci := 10) (by decide +kernel) (c_World_cell_28 T' G' S n x6 5 hs.1) M.2.1 zl_Finder_82 zv_World_cell rfl rfl rfl ⟨by decide, by decide, by decide, by decide⟩ rfl (Nat.le_of_ble_eq_true rfl) (fun v w' hv => ?_)
    obtain ⟨rfl, rfl⟩ := hv
    replace hs := hs.2
    show z_G X zm_Finder_related (106, [(0, z_r 17), (1, .inl x1), (2, .inl x2), (4, .inl x4), (5, .inl x5), (6, .inl x6)], [.inl (F_World_cell 28 S x6 5), .inl x4], zW T' G' S n, 0, 0)
    refine z_callS M.1 (av := [.inl x4, .inl (F_World_cell 28 S x6 5)]) (st := []) (by decide +kernel) (c_T_isIn T' G' S n x4 (F_World_cell 28 S x6 5)) M.2.1 zl_Finder_78 zs_T_isIn ⟨by decide, by decide, by decide, by decide⟩ rfl (Nat.le_of_ble_eq_true rfl) (fun v w' hv => ?_)
    obtain ⟨rfl, rfl⟩ := hv
    show z_G X zm_Finder_related (109, [(0, z_r 17), (1, .inl x1), (2, .inl x2), (4, .inl x4), (5, .inl x5), (6, .inl x6)], [.inl (F_T_isIn S x4 (F_World_cell 28 S x6 5))], zW T' G' S n, 0, 0)
    refine z_if_eq 125 M.1 (off := 16) (by decide +kernel) (by decide) (fun c109 => ?_) (fun c109 => ?_)
    · rw [if_pos c109] at K hs
      exact z_lvs (lv' := [(0, z_r 17), (1, .inl x1), (2, .inl x2), (4, .inl x4), (5, .inl x5), (6, .inl x6)]) [0, 1, 2, 3, 4, 5] rfl (t_Finder_related_l38_125 M rc sr S x1 x2 x4 x5 x6 hE hC K hs)
    · rw [if_neg c109] at K hs
      refine z_go2 M.1 112 [(.iload 5, 2), (.iload 6, 2)] (116, [(0, z_r 17), (1, .inl x1), (2, .inl x2), (4, .inl x4), (5, .inl x5), (6, .inl x6)], [.inl x6, .inl x5], zW T' G' S n, 0, 0) (by decide +kernel) rfl ⟨trivial, trivial, trivial⟩ ?_
      refine z_callS M.1 (av := [.inl x6]) (st := [.inl x5]) (by decide +kernel) (c_T_bit T' G' S n x6) M.2.1 zl_Finder_86 zs_T_bit ⟨by decide, by decide, by decide, by decide⟩ rfl (Nat.le_of_ble_eq_true rfl) (fun v w' hv => ?_)
      obtain ⟨rfl, rfl⟩ := hv
      show z_G X zm_Finder_related (119, [(0, z_r 17), (1, .inl x1), (2, .inl x2), (4, .inl x4), (5, .inl x5), (6, .inl x6)], [.inl (F_T_bit S x6), .inl x5], zW T' G' S n, 0, 0)
      refine z_go2 M.1 119 [(.ior, 1), (.istore 5, 2), (.goto 75, 3), (.iinc 6 1, 3), (.goto (-162), 3)] (38, [(6, .inl (x6 + 1)), (5, .inl (x5 ||| (F_T_bit S x6))), (0, z_r 17), (1, .inl x1), (2, .inl x2), (4, .inl x4)], [], zW T' G' S n, 0, 0) (by decide +kernel) rfl ⟨trivial, trivial, trivial, trivial, trivial, trivial⟩ ?_
      exact z_lvs (lv' := [(0, z_r 17), (1, .inl x1), (2, .inl x2), (4, .inl x4), (5, .inl (x5 ||| (F_T_bit S x6))), (6, .inl (x6 + 1))]) [2, 3, 4, 5, 1, 0] rfl (hC (x5 ||| (F_T_bit S x6)) (x6 + 1) K hs)
def F_Finder_related_L38 (S : (Nat → Nat → Int32)) (x1 : Int32) (x2 : Int32) (x4 : Int32) : Nat → Int32 → Int32 → (Int32)
  | 0, x5, x6 => x5
  | f + 1, x5, x6 => (if (30 : Int32) ≤ x6 then x5 else (if x1 = 67 then (if (F_T_isIn S x4 x6) = 0 then (F_Finder_related_l38_85 (F_Finder_related_L38 S x1 x2 x4 f) S x1 x2 x4 x5 x6) else ((F_Finder_related_L38 S x1 x2 x4 f) (x5 ||| (F_T_bit S (F_World_cell 28 S x6 5))) (x6 + 1))) else (F_Finder_related_l38_85 (F_Finder_related_L38 S x1 x2 x4 f) S x1 x2 x4 x5 x6)))
def Sf_Finder_related_L38 (S : (Nat → Nat → Int32)) (x1 : Int32) (x2 : Int32) (x4 : Int32) : Nat → Int32 → Int32 → Prop
  | 0, _, _ => False
  | f + 1, x5, x6 => (if (30 : Int32) ≤ x6 then True else (if x1 = 67 then (if (F_T_isIn S x4 x6) = 0 then (Sf_Finder_related_l38_85 (F_Finder_related_L38 S x1 x2 x4 f) (Sf_Finder_related_L38 S x1 x2 x4 f) S x1 x2 x4 x5 x6) else (Sf_World_cell 28 S x6 5 ∧ ((Sf_Finder_related_L38 S x1 x2 x4 f) (x5 ||| (F_T_bit S (F_World_cell 28 S x6 5))) (x6 + 1)))) else (Sf_Finder_related_l38_85 (F_Finder_related_L38 S x1 x2 x4 f) (Sf_Finder_related_L38 S x1 x2 x4 f) S x1 x2 x4 x5 x6)))
theorem t_Finder_related_L38 {X : z_X} {Post : Option z_V → z_W → Prop} (M : z_M X zm_Finder_related rm_Finder_related Post) {T' : Nat → Nat × Nat} {G' : Nat → Nat → Option Nat} {n : Nat} {Q : (Int32) → Prop} (S : (Nat → Nat → Int32))  (x1 : Int32) (x2 : Int32) (x4 : Int32) (hE : ∀ (y5 : Int32), Q y5 → z_G X zm_Finder_related (203, [(0, z_r 17), (5, .inl y5)], [], zW T' G' S n, 0, 0)) (f : Nat) : ∀ (x5 : Int32) (x6 : Int32), Q (F_Finder_related_L38 S x1 x2 x4 f x5 x6) → Sf_Finder_related_L38 S x1 x2 x4 f x5 x6 → z_G X zm_Finder_related (38, [(0, z_r 17), (1, .inl x1), (2, .inl x2), (4, .inl x4), (5, .inl x5), (6, .inl x6)], [], zW T' G' S n, 0, 0) := by
  induction f with
  | zero => intro x5 x6 K hs; exact False.elim hs
  | succ f hC =>
    intro x5 x6 K hs
    rw [F_Finder_related_L38] at K
    rw [Sf_Finder_related_L38] at hs
    refine z_go2 M.1 38 [(.iload 6, 2), (.bipush 30, 2)] (42, [(0, z_r 17), (1, .inl x1), (2, .inl x2), (4, .inl x4), (5, .inl x5), (6, .inl x6)], [.inl 30, .inl x6], zW T' G' S n, 0, 0) (by decide +kernel) rfl ⟨trivial, trivial, trivial⟩ ?_
    refine z_icmp_ge 203 M.1 (off := 161) (by decide +kernel) (by decide) (fun c42 => ?_) (fun c42 => ?_)
    · rw [if_pos c42] at K hs
      exact z_lvs (lv' := [(0, z_r 17), (5, .inl x5)]) [0, 4] rfl (hE x5 K)
    · rw [if_neg c42] at K hs
      refine z_go2 M.1 45 [(.iload_n 1, 1), (.bipush 67, 2)] (48, [(0, z_r 17), (1, .inl x1), (2, .inl x2), (4, .inl x4), (5, .inl x5), (6, .inl x6)], [.inl 67, .inl x1], zW T' G' S n, 0, 0) (by decide +kernel) rfl ⟨trivial, trivial, trivial⟩ ?_
      refine z_icmp_ne 85 M.1 (off := 37) (by decide +kernel) (by decide) (fun c48 => ?_) (fun c48 => ?_)
      · rw [if_neg c48] at K hs
        exact z_lvs (lv' := [(0, z_r 17), (1, .inl x1), (2, .inl x2), (4, .inl x4), (5, .inl x5), (6, .inl x6)]) [0, 1, 2, 3, 4, 5] rfl (t_Finder_related_l38_85 M (F_Finder_related_L38 S x1 x2 x4 f) (Sf_Finder_related_L38 S x1 x2 x4 f) S x1 x2 x4 x5 x6 hE hC K hs)
      · rw [if_pos c48] at K hs
        refine z_go2 M.1 51 [(.iload 4, 2), (.iload 6, 2)] (55, [(0, z_r 17), (1, .inl x1), (2, .inl x2), (4, .inl x4), (5, .inl x5), (6, .inl x6)], [.inl x6, .inl x4], zW T' G' S n, 0, 0) (by decide +kernel) rfl ⟨trivial, trivial, trivial⟩ ?_
        refine z_callS M.1 (av := [.inl x4, .inl x6]) (st := []) (by decide +kernel) (c_T_isIn T' G' S n x4 x6) M.2.1 zl_Finder_78 zs_T_isIn ⟨by decide, by decide, by decide, by decide⟩ rfl (Nat.le_of_ble_eq_true rfl) (fun v w' hv => ?_)
        obtain ⟨rfl, rfl⟩ := hv
        show z_G X zm_Finder_related (58, [(0, z_r 17), (1, .inl x1), (2, .inl x2), (4, .inl x4), (5, .inl x5), (6, .inl x6)], [.inl (F_T_isIn S x4 x6)], zW T' G' S n, 0, 0)
        refine z_if_eq 85 M.1 (off := 27) (by decide +kernel) (by decide) (fun c58 => ?_) (fun c58 => ?_)
        · rw [if_pos c58] at K hs
          exact z_lvs (lv' := [(0, z_r 17), (1, .inl x1), (2, .inl x2), (4, .inl x4), (5, .inl x5), (6, .inl x6)]) [0, 1, 2, 3, 4, 5] rfl (t_Finder_related_l38_85 M (F_Finder_related_L38 S x1 x2 x4 f) (Sf_Finder_related_L38 S x1 x2 x4 f) S x1 x2 x4 x5 x6 hE hC K hs)
        · rw [if_neg c58] at K hs
          refine z_go2 M.1 61 [(.iload 5, 2), (.aload_n 0, 1), (.getfield 25, 3), (.getfield 69, 3), (.iload 6, 2), (.iconst 5, 1)] (73, [(0, z_r 17), (1, .inl x1), (2, .inl x2), (4, .inl x4), (5, .inl x5), (6, .inl x6)], [.inl 5, .inl x6, z_r 28, .inl x5], zW T' G' S n, 0, 0) (by decide +kernel) rfl ⟨trivial, trivial, rfl, rfl, trivial, trivial, trivial⟩ ?_
          refine z_callV M.1 (av := [.inl x6, .inl 5]) (st := [.inl x5]) (a := 28) (ci := 10) (by decide +kernel) (c_World_cell_28 T' G' S n x6 5 hs.1) M.2.1 zl_Finder_82 zv_World_cell rfl rfl rfl ⟨by decide, by decide, by decide, by decide⟩ rfl (Nat.le_of_ble_eq_true rfl) (fun v w' hv => ?_)
          obtain ⟨rfl, rfl⟩ := hv
          replace hs := hs.2
          show z_G X zm_Finder_related (76, [(0, z_r 17), (1, .inl x1), (2, .inl x2), (4, .inl x4), (5, .inl x5), (6, .inl x6)], [.inl (F_World_cell 28 S x6 5), .inl x5], zW T' G' S n, 0, 0)
          refine z_callS M.1 (av := [.inl (F_World_cell 28 S x6 5)]) (st := [.inl x5]) (by decide +kernel) (c_T_bit T' G' S n (F_World_cell 28 S x6 5)) M.2.1 zl_Finder_86 zs_T_bit ⟨by decide, by decide, by decide, by decide⟩ rfl (Nat.le_of_ble_eq_true rfl) (fun v w' hv => ?_)
          obtain ⟨rfl, rfl⟩ := hv
          show z_G X zm_Finder_related (79, [(0, z_r 17), (1, .inl x1), (2, .inl x2), (4, .inl x4), (5, .inl x5), (6, .inl x6)], [.inl (F_T_bit S (F_World_cell 28 S x6 5)), .inl x5], zW T' G' S n, 0, 0)
          refine z_go2 M.1 79 [(.ior, 1), (.istore 5, 2), (.goto 115, 3), (.iinc 6 1, 3), (.goto (-162), 3)] (38, [(6, .inl (x6 + 1)), (5, .inl (x5 ||| (F_T_bit S (F_World_cell 28 S x6 5)))), (0, z_r 17), (1, .inl x1), (2, .inl x2), (4, .inl x4)], [], zW T' G' S n, 0, 0) (by decide +kernel) rfl ⟨trivial, trivial, trivial, trivial, trivial, trivial⟩ ?_
          exact z_lvs (lv' := [(0, z_r 17), (1, .inl x1), (2, .inl x2), (4, .inl x4), (5, .inl (x5 ||| (F_T_bit S (F_World_cell 28 S x6 5)))), (6, .inl (x6 + 1))]) [2, 3, 4, 5, 1, 0] rfl (hC (x5 ||| (F_T_bit S (F_World_cell 28 S x6 5))) (x6 + 1) K hs)
def F_Finder_related (S : (Nat → Nat → Int32)) (p1 : Int32) (p2 : Int32) (p3 : Int32) : Int32 := (if p1 = 33 then ((p3 ^^^ (-1)) &&& (S 28 3)) else (match F_Finder_related_L38 S p1 p2 (p3 &&& (S 36 8)) 1300 0 0 with | y5_38 => (y5_38 &&& (S 28 3))))
def Sf_Finder_related (S : (Nat → Nat → Int32)) (p1 : Int32) (p2 : Int32) (p3 : Int32) : Prop := (if p1 = 33 then True else (Sf_Finder_related_L38 S p1 p2 (p3 &&& (S 36 8)) 1300 0 0 ∧ True))
theorem c_Finder_related (T' : Nat → Nat × Nat) (G' : Nat → Nat → Option Nat) (S : (Nat → Nat → Int32)) (n : Nat) (p1 : Int32) (p2 : Int32) (p3 : Int32) (hs : Sf_Finder_related S p1 p2 p3) : z_Run rm_Finder_related zm_Finder_related [z_r 17, .inl p1, .inl p2, .inl p3] (zW T' G' S n) (zq (some (.inl (F_Finder_related S p1 p2 p3))) (zW T' G' S n)) := by
  refine z_body (by decide) zf_Finder_ok (Nat.le_of_ble_eq_true rfl) (fun X M => ?_)
  obtain ⟨Q, hQ, K⟩ : ∃ Q : Int32 → Prop, (∀ v, Q v → zq (some (.inl (F_Finder_related S p1 p2 p3))) (zW T' G' S n) (some (.inl v)) (zW T' G' S n)) ∧ Q (F_Finder_related S p1 p2 p3) := ⟨fun o => F_Finder_related S p1 p2 p3 = o, fun v h => ⟨by rw [h], rfl⟩, rfl⟩
  show z_G X zm_Finder_related (0, [(0, z_r 17), (1, .inl p1), (2, .inl p2), (3, .inl p3)], [], zW T' G' S n, 0, 0)
  unfold F_Finder_related at K
  unfold Sf_Finder_related at hs
  refine z_go2 M.1 0 [(.iload_n 1, 1), (.bipush 33, 2)] (3, [(0, z_r 17), (1, .inl p1), (2, .inl p2), (3, .inl p3)], [.inl 33, .inl p1], zW T' G' S n, 0, 0) (by decide +kernel) rfl ⟨trivial, trivial, trivial⟩ ?_
  refine z_icmp_ne 21 M.1 (off := 18) (by decide +kernel) (by decide) (fun c3 => ?_) (fun c3 => ?_)
  · rw [if_neg c3] at K hs
    refine z_go2 M.1 21 [(.iload_n 3, 1), (.aload_n 0, 1), (.getfield 32, 3), (.getfield 66, 3), (.iand, 1), (.istore 4, 2), (.iconst 0, 1), (.istore 5, 2), (.iconst 0, 1), (.istore 6, 2)] (38, [(6, .inl 0), (5, .inl 0), (4, .inl (p3 &&& (S 36 8))), (0, z_r 17), (1, .inl p1), (2, .inl p2), (3, .inl p3)], [], zW T' G' S n, 0, 0) (by decide +kernel) rfl ⟨trivial, trivial, rfl, rfl, trivial, trivial, trivial, trivial, trivial, trivial, trivial⟩ ?_
    refine z_lvs (lv' := [(0, z_r 17), (1, .inl p1), (2, .inl p2), (4, .inl (p3 &&& (S 36 8))), (5, .inl 0), (6, .inl 0)]) [3, 4, 5, 2, 1, 0] rfl ?_
    refine t_Finder_related_L38 M (Q := fun o => F_Finder_related_L38 S p1 p2 (p3 &&& (S 36 8)) 1300 0 0 = o) S p1 p2 (p3 &&& (S 36 8)) (fun y5_38 hL38 => ?_) 1300 0 0 rfl hs.1
    replace hs := hs.2
    rw [hL38] at K
    try dsimp only at K
    refine z_go2 M.1 203 [(.iload 5, 2), (.aload_n 0, 1), (.getfield 25, 3), (.getfield 69, 3), (.getfield 73, 3), (.iand, 1)] (216, [(0, z_r 17), (5, .inl y5_38)], [.inl (y5_38 &&& (S 28 3))], zW T' G' S n, 0, 0) (by decide +kernel) rfl ⟨trivial, trivial, rfl, rfl, rfl, trivial, trivial⟩ ?_
    exact z_iret M (by decide +kernel) .int rfl rfl (by decide) (by decide) (hQ _ K)
  · rw [if_pos c3] at K hs
    refine z_go2 M.1 6 [(.iload_n 3, 1), (.iconst (-1), 1), (.ixor, 1), (.aload_n 0, 1), (.getfield 25, 3), (.getfield 69, 3), (.getfield 73, 3), (.iand, 1)] (20, [(0, z_r 17), (1, .inl p1), (2, .inl p2), (3, .inl p3)], [.inl ((p3 ^^^ (-1)) &&& (S 28 3))], zW T' G' S n, 0, 0) (by decide +kernel) rfl ⟨trivial, trivial, trivial, trivial, rfl, rfl, rfl, trivial, trivial⟩ ?_
    exact z_iret M (by decide +kernel) .int rfl rfl (by decide) (by decide) (hQ _ K)

-- TrackHouse$Finder.holds
abbrev rm_Finder_holds : Room := zr 2
def F_Finder_holds (S : (Nat → Nat → Int32)) (p1 : Int32) (p2 : Int32) : Int32 := (if (zAt (S 21) 30 p1) = 66 then (if (zAt (S 34) 30 p2) = (zAt (S 22) 30 p1) then 1 else 0) else (if (zAt (S 21) 30 p1) = 68 then (if (zAt (S 35) 30 p2) < ((S 27 5) - (((10 : Int32) * (zAt (S 22) 30 p1)) + (zAt (S 23) 30 p1))) then 0 else 1) else (if (zAt (S 21) 30 p1) = 87 then (F_T_isIn S (zAt (S 32) 30 p2) (zAt (S 22) 30 p1)) else (if (zAt (S 21) 30 p1) = 88 then (F_View_cameFrom S p2 (zAt (S 22) 30 p1) (zAt (S 23) 30 p1)) else (if (zAt (S 21) 30 p1) = 97 then (if (F_World_cell 28 S p2 4) = (zAt (S 22) 30 p1) then 1 else 0) else (if (zAt (S 21) 30 p1) = 107 then (if (F_World_cell 28 S p2 9) = (zAt (S 22) 30 p1) then 1 else 0) else (if (zAt (S 21) 30 p1) = 112 then (if (F_World_cell 28 S p2 8) = (zAt (S 22) 30 p1) then 1 else 0) else (if (zAt (S 21) 30 p1) = 115 then (if (F_World_cell 28 S p2 0) = (zAt (S 22) 30 p1) then 1 else 0) else (if (zAt (S 21) 30 p1) = 118 then (if (F_World_cell 28 S p2 7) = (zAt (S 22) 30 p1) then 1 else 0) else (if (zAt (S 21) 30 p1) = 120 then (if (F_World_cell 28 S p2 4) = (-1) then 1 else 0) else 0))))))))))
def Sf_Finder_holds (S : (Nat → Nat → Int32)) (p1 : Int32) (p2 : Int32) : Prop := (if (zAt (S 21) 30 p1) = 66 then True else (if (zAt (S 21) 30 p1) = 68 then True else (if (zAt (S 21) 30 p1) = 87 then (narrow .boolean (.int (F_T_isIn S (zAt (S 32) 30 p2) (zAt (S 22) 30 p1))) = .int (F_T_isIn S (zAt (S 32) 30 p2) (zAt (S 22) 30 p1)) ∧ True) else (if (zAt (S 21) 30 p1) = 88 then (narrow .boolean (.int (F_View_cameFrom S p2 (zAt (S 22) 30 p1) (zAt (S 23) 30 p1))) = .int (F_View_cameFrom S p2 (zAt (S 22) 30 p1) (zAt (S 23) 30 p1)) ∧ True) else (if (zAt (S 21) 30 p1) = 97 then (Sf_World_cell 28 S p2 4 ∧ True) else (if (zAt (S 21) 30 p1) = 107 then (Sf_World_cell 28 S p2 9 ∧ True) else (if (zAt (S 21) 30 p1) = 112 then (Sf_World_cell 28 S p2 8 ∧ True) else (if (zAt (S 21) 30 p1) = 115 then (Sf_World_cell 28 S p2 0 ∧ True) else (if (zAt (S 21) 30 p1) = 118 then (Sf_World_cell 28 S p2 7 ∧ True) else (if (zAt (S 21) 30 p1) = 120 then (Sf_World_cell 28 S p2 4 ∧ True) else True))))))))))
theorem c_Finder_holds (T' : Nat → Nat × Nat) (G' : Nat → Nat → Option Nat) (S : (Nat → Nat → Int32)) (n : Nat) (p1 : Int32) (p2 : Int32) (hs : Sf_Finder_holds S p1 p2) : z_Run rm_Finder_holds zm_Finder_holds [z_r 17, .inl p1, .inl p2] (zW T' G' S n) (zq (some (.inl (F_Finder_holds S p1 p2))) (zW T' G' S n)) := by
  refine z_body (by decide) zf_Finder_ok (Nat.le_of_ble_eq_true rfl) (fun X M => ?_)
  obtain ⟨Q, hQ, K⟩ : ∃ Q : Int32 → Prop, (∀ v, Q v → zq (some (.inl (F_Finder_holds S p1 p2))) (zW T' G' S n) (some (.inl v)) (zW T' G' S n)) ∧ Q (F_Finder_holds S p1 p2) := ⟨fun o => F_Finder_holds S p1 p2 = o, fun v h => ⟨by rw [h], rfl⟩, rfl⟩
  show z_G X zm_Finder_holds (0, [(0, z_r 17), (1, .inl p1), (2, .inl p2)], [], zW T' G' S n, 0, 0)
  unfold F_Finder_holds at K
  unfold Sf_Finder_holds at hs
  refine z_go2 M.1 0 [(.aload_n 0, 1), (.getfield 18, 3), (.getfield 55, 3), (.iload_n 1, 1)] (8, [(0, z_r 17), (1, .inl p1), (2, .inl p2)], [.inl p1, z_r 22], zW T' G' S n, 0, 0) (by decide +kernel) rfl ⟨trivial, rfl, rfl, trivial, trivial⟩ ?_
  refine z_callS M.1 (av := [z_r 22, .inl p1]) (st := []) (by decide +kernel) (c_at (zW T' G' S n) 22 30 rfl (by decide) p1) M.2.1 zl_Finder_43 zs_T_at ⟨by decide, by decide, by decide, by decide⟩ rfl (Nat.le_of_ble_eq_true rfl) (fun v w' hv => ?_)
  obtain ⟨rfl, rfl⟩ := hv
  show z_G X zm_Finder_holds (11, [(0, z_r 17), (1, .inl p1), (2, .inl p2)], [.inl (zAt (S 22) 30 p1)], zW T' G' S n, 0, 0)
  refine z_go2 M.1 11 [(.istore_n 3, 1), (.aload_n 0, 1), (.getfield 18, 3), (.getfield 104, 3), (.iload_n 1, 1)] (20, [(3, .inl (zAt (S 22) 30 p1)), (0, z_r 17), (1, .inl p1), (2, .inl p2)], [.inl p1, z_r 23], zW T' G' S n, 0, 0) (by decide +kernel) rfl ⟨trivial, trivial, rfl, rfl, trivial, trivial⟩ ?_
  refine z_callS M.1 (av := [z_r 23, .inl p1]) (st := []) (by decide +kernel) (c_at (zW T' G' S n) 23 30 rfl (by decide) p1) M.2.1 zl_Finder_43 zs_T_at ⟨by decide, by decide, by decide, by decide⟩ rfl (Nat.le_of_ble_eq_true rfl) (fun v w' hv => ?_)
  obtain ⟨rfl, rfl⟩ := hv
  show z_G X zm_Finder_holds (23, [(3, .inl (zAt (S 22) 30 p1)), (0, z_r 17), (1, .inl p1), (2, .inl p2)], [.inl (zAt (S 23) 30 p1)], zW T' G' S n, 0, 0)
  refine z_go2 M.1 23 [(.istore 4, 2), (.aload_n 0, 1), (.getfield 18, 3), (.getfield 40, 3), (.iload_n 1, 1)] (33, [(4, .inl (zAt (S 23) 30 p1)), (3, .inl (zAt (S 22) 30 p1)), (0, z_r 17), (1, .inl p1), (2, .inl p2)], [.inl p1, z_r 21], zW T' G' S n, 0, 0) (by decide +kernel) rfl ⟨trivial, trivial, rfl, rfl, trivial, trivial⟩ ?_
  refine z_callS M.1 (av := [z_r 21, .inl p1]) (st := []) (by decide +kernel) (c_at (zW T' G' S n) 21 30 rfl (by decide) p1) M.2.1 zl_Finder_43 zs_T_at ⟨by decide, by decide, by decide, by decide⟩ rfl (Nat.le_of_ble_eq_true rfl) (fun v w' hv => ?_)
  obtain ⟨rfl, rfl⟩ := hv
  show z_G X zm_Finder_holds (36, [(4, .inl (zAt (S 23) 30 p1)), (3, .inl (zAt (S 22) 30 p1)), (0, z_r 17), (1, .inl p1), (2, .inl p2)], [.inl (zAt (S 21) 30 p1)], zW T' G' S n, 0, 0)
  by_cases c36_0 : (zAt (S 21) 30 p1) = 66
  · rw [if_pos c36_0] at K hs
    refine z_lookE 326 M.1 (dflt := 311) (ps := #[(66, 290), (68, 255), (87, 227), (88, 243), (97, 183), (107, 114), (112, 137), (115, 92), (118, 160), (120, 205)]) (len := 92) c36_0 (off := 290) (by decide +kernel) (by decide) (by decide) (by decide) ?_
    refine z_go2 M.1 326 [(.aload_n 0, 1), (.getfield 25, 3), (.getfield 120, 3), (.iload_n 2, 1)] (334, [(4, .inl (zAt (S 23) 30 p1)), (3, .inl (zAt (S 22) 30 p1)), (0, z_r 17), (1, .inl p1), (2, .inl p2)], [.inl p2, z_r 34], zW T' G' S n, 0, 0) (by decide +kernel) rfl ⟨trivial, rfl, rfl, trivial, trivial⟩ ?_
    refine z_callS M.1 (av := [z_r 34, .inl p2]) (st := []) (by decide +kernel) (c_at (zW T' G' S n) 34 30 rfl (by decide) p2) M.2.1 zl_Finder_43 zs_T_at ⟨by decide, by decide, by decide, by decide⟩ rfl (Nat.le_of_ble_eq_true rfl) (fun v w' hv => ?_)
    obtain ⟨rfl, rfl⟩ := hv
    show z_G X zm_Finder_holds (337, [(4, .inl (zAt (S 23) 30 p1)), (3, .inl (zAt (S 22) 30 p1)), (0, z_r 17), (1, .inl p1), (2, .inl p2)], [.inl (zAt (S 34) 30 p2)], zW T' G' S n, 0, 0)
    refine z_go2 M.1 337 [(.iload_n 3, 1)] (338, [(4, .inl (zAt (S 23) 30 p1)), (3, .inl (zAt (S 22) 30 p1)), (0, z_r 17), (1, .inl p1), (2, .inl p2)], [.inl (zAt (S 22) 30 p1), .inl (zAt (S 34) 30 p2)], zW T' G' S n, 0, 0) (by decide +kernel) rfl ⟨trivial, trivial⟩ ?_
    refine z_icmp_ne 345 M.1 (off := 7) (by decide +kernel) (by decide) (fun c338 => ?_) (fun c338 => ?_)
    · rw [if_neg c338] at K
      refine z_go2 M.1 345 [(.iconst 0, 1)] (346, [(4, .inl (zAt (S 23) 30 p1)), (3, .inl (zAt (S 22) 30 p1)), (0, z_r 17), (1, .inl p1), (2, .inl p2)], [.inl 0], zW T' G' S n, 0, 0) (by decide +kernel) rfl ⟨trivial, trivial⟩ ?_
      exact z_iret M (by decide +kernel) .boolean rfl rfl (by decide) (by decide) (hQ _ K)
    · rw [if_pos c338] at K
      refine z_go2 M.1 341 [(.iconst 1, 1), (.goto 4, 3)] (346, [(4, .inl (zAt (S 23) 30 p1)), (3, .inl (zAt (S 22) 30 p1)), (0, z_r 17), (1, .inl p1), (2, .inl p2)], [.inl 1], zW T' G' S n, 0, 0) (by decide +kernel) rfl ⟨trivial, trivial, trivial⟩ ?_
      exact z_iret M (by decide +kernel) .boolean rfl rfl (by decide) (by decide) (hQ _ K)
  · rw [if_neg c36_0] at K hs
    by_cases c36_1 : (zAt (S 21) 30 p1) = 68
    · rw [if_pos c36_1] at K hs
      refine z_lookE 291 M.1 (dflt := 311) (ps := #[(66, 290), (68, 255), (87, 227), (88, 243), (97, 183), (107, 114), (112, 137), (115, 92), (118, 160), (120, 205)]) (len := 92) c36_1 (off := 255) (by decide +kernel) (by decide) (by decide) (by decide) ?_
      refine z_go2 M.1 291 [(.aload_n 0, 1), (.getfield 25, 3), (.getfield 114, 3), (.iload_n 2, 1)] (299, [(4, .inl (zAt (S 23) 30 p1)), (3, .inl (zAt (S 22) 30 p1)), (0, z_r 17), (1, .inl p1), (2, .inl p2)], [.inl p2, z_r 35], zW T' G' S n, 0, 0) (by decide +kernel) rfl ⟨trivial, rfl, rfl, trivial, trivial⟩ ?_
      refine z_callS M.1 (av := [z_r 35, .inl p2]) (st := []) (by decide +kernel) (c_at (zW T' G' S n) 35 30 rfl (by decide) p2) M.2.1 zl_Finder_43 zs_T_at ⟨by decide, by decide, by decide, by decide⟩ rfl (Nat.le_of_ble_eq_true rfl) (fun v w' hv => ?_)
      obtain ⟨rfl, rfl⟩ := hv
      show z_G X zm_Finder_holds (302, [(4, .inl (zAt (S 23) 30 p1)), (3, .inl (zAt (S 22) 30 p1)), (0, z_r 17), (1, .inl p1), (2, .inl p2)], [.inl (zAt (S 35) 30 p2)], zW T' G' S n, 0, 0)
      refine z_go2 M.1 302 [(.aload_n 0, 1), (.getfield 25, 3), (.getfield 117, 3), (.bipush 10, 2), (.iload_n 3, 1), (.imul, 1), (.iload 4, 2), (.iadd, 1), (.isub, 1)] (317, [(4, .inl (zAt (S 23) 30 p1)), (3, .inl (zAt (S 22) 30 p1)), (0, z_r 17), (1, .inl p1), (2, .inl p2)], [.inl ((S 27 5) - (((10 : Int32) * (zAt (S 22) 30 p1)) + (zAt (S 23) 30 p1))), .inl (zAt (S 35) 30 p2)], zW T' G' S n, 0, 0) (by decide +kernel) rfl ⟨trivial, rfl, rfl, trivial, trivial, trivial, trivial, trivial, trivial, trivial⟩ ?_
      refine z_icmp_lt 324 M.1 (off := 7) (by decide +kernel) (by decide) (fun c317 => ?_) (fun c317 => ?_)
      · rw [if_pos c317] at K
        refine z_go2 M.1 324 [(.iconst 0, 1)] (325, [(4, .inl (zAt (S 23) 30 p1)), (3, .inl (zAt (S 22) 30 p1)), (0, z_r 17), (1, .inl p1), (2, .inl p2)], [.inl 0], zW T' G' S n, 0, 0) (by decide +kernel) rfl ⟨trivial, trivial⟩ ?_
        exact z_iret M (by decide +kernel) .boolean rfl rfl (by decide) (by decide) (hQ _ K)
      · rw [if_neg c317] at K
        refine z_go2 M.1 320 [(.iconst 1, 1), (.goto 4, 3)] (325, [(4, .inl (zAt (S 23) 30 p1)), (3, .inl (zAt (S 22) 30 p1)), (0, z_r 17), (1, .inl p1), (2, .inl p2)], [.inl 1], zW T' G' S n, 0, 0) (by decide +kernel) rfl ⟨trivial, trivial, trivial⟩ ?_
        exact z_iret M (by decide +kernel) .boolean rfl rfl (by decide) (by decide) (hQ _ K)
    · rw [if_neg c36_1] at K hs
      by_cases c36_2 : (zAt (S 21) 30 p1) = 87
      · rw [if_pos c36_2] at K hs
        refine z_lookE 263 M.1 (dflt := 311) (ps := #[(66, 290), (68, 255), (87, 227), (88, 243), (97, 183), (107, 114), (112, 137), (115, 92), (118, 160), (120, 205)]) (len := 92) c36_2 (off := 227) (by decide +kernel) (by decide) (by decide) (by decide) ?_
        refine z_go2 M.1 263 [(.aload_n 0, 1), (.getfield 25, 3), (.getfield 107, 3), (.iload_n 2, 1)] (271, [(4, .inl (zAt (S 23) 30 p1)), (3, .inl (zAt (S 22) 30 p1)), (0, z_r 17), (1, .inl p1), (2, .inl p2)], [.inl p2, z_r 32], zW T' G' S n, 0, 0) (by decide +kernel) rfl ⟨trivial, rfl, rfl, trivial, trivial⟩ ?_
        refine z_callS M.1 (av := [z_r 32, .inl p2]) (st := []) (by decide +kernel) (c_at (zW T' G' S n) 32 30 rfl (by decide) p2) M.2.1 zl_Finder_43 zs_T_at ⟨by decide, by decide, by decide, by decide⟩ rfl (Nat.le_of_ble_eq_true rfl) (fun v w' hv => ?_)
        obtain ⟨rfl, rfl⟩ := hv
        show z_G X zm_Finder_holds (274, [(4, .inl (zAt (S 23) 30 p1)), (3, .inl (zAt (S 22) 30 p1)), (0, z_r 17), (1, .inl p1), (2, .inl p2)], [.inl (zAt (S 32) 30 p2)], zW T' G' S n, 0, 0)
        refine z_go2 M.1 274 [(.iload_n 3, 1)] (275, [(4, .inl (zAt (S 23) 30 p1)), (3, .inl (zAt (S 22) 30 p1)), (0, z_r 17), (1, .inl p1), (2, .inl p2)], [.inl (zAt (S 22) 30 p1), .inl (zAt (S 32) 30 p2)], zW T' G' S n, 0, 0) (by decide +kernel) rfl ⟨trivial, trivial⟩ ?_
        refine z_callS M.1 (av := [.inl (zAt (S 32) 30 p2), .inl (zAt (S 22) 30 p1)]) (st := []) (by decide +kernel) (c_T_isIn T' G' S n (zAt (S 32) 30 p2) (zAt (S 22) 30 p1)) M.2.1 zl_Finder_78 zs_T_isIn ⟨by decide, by decide, by decide, by decide⟩ rfl (Nat.le_of_ble_eq_true rfl) (fun v w' hv => ?_)
        obtain ⟨rfl, rfl⟩ := hv
        show z_G X zm_Finder_holds (278, [(4, .inl (zAt (S 23) 30 p1)), (3, .inl (zAt (S 22) 30 p1)), (0, z_r 17), (1, .inl p1), (2, .inl p2)], [.inl (F_T_isIn S (zAt (S 32) 30 p2) (zAt (S 22) 30 p1))], zW T' G' S n, 0, 0)
        exact z_iret M (by decide +kernel) .boolean rfl hs.1 (by decide) (by decide) (hQ _ K)
      · rw [if_neg c36_2] at K hs
        by_cases c36_3 : (zAt (S 21) 30 p1) = 88
        · rw [if_pos c36_3] at K hs
          refine z_lookE 279 M.1 (dflt := 311) (ps := #[(66, 290), (68, 255), (87, 227), (88, 243), (97, 183), (107, 114), (112, 137), (115, 92), (118, 160), (120, 205)]) (len := 92) c36_3 (off := 243) (by decide +kernel) (by decide) (by decide) (by decide) ?_
          refine z_go2 M.1 279 [(.aload_n 0, 1), (.getfield 25, 3), (.iload_n 2, 1), (.iload_n 3, 1), (.iload 4, 2)] (287, [(4, .inl (zAt (S 23) 30 p1)), (3, .inl (zAt (S 22) 30 p1)), (0, z_r 17), (1, .inl p1), (2, .inl p2)], [.inl (zAt (S 23) 30 p1), .inl (zAt (S 22) 30 p1), .inl p2, z_r 27], zW T' G' S n, 0, 0) (by decide +kernel) rfl ⟨trivial, rfl, trivial, trivial, trivial, trivial⟩ ?_
          refine z_callV M.1 (av := [.inl p2, .inl (zAt (S 22) 30 p1), .inl (zAt (S 23) 30 p1)]) (st := []) (a := 27) (ci := 9) (by decide +kernel) (c_View_cameFrom T' G' S n p2 (zAt (S 22) 30 p1) (zAt (S 23) 30 p1)) M.2.1 zl_Finder_110 zv_View_cameFrom rfl rfl rfl ⟨by decide, by decide, by decide, by decide⟩ rfl (Nat.le_of_ble_eq_true rfl) (fun v w' hv => ?_)
          obtain ⟨rfl, rfl⟩ := hv
          show z_G X zm_Finder_holds (290, [(4, .inl (zAt (S 23) 30 p1)), (3, .inl (zAt (S 22) 30 p1)), (0, z_r 17), (1, .inl p1), (2, .inl p2)], [.inl (F_View_cameFrom S p2 (zAt (S 22) 30 p1) (zAt (S 23) 30 p1))], zW T' G' S n, 0, 0)
          exact z_iret M (by decide +kernel) .boolean rfl hs.1 (by decide) (by decide) (hQ _ K)
        · rw [if_neg c36_3] at K hs
          by_cases c36_4 : (zAt (S 21) 30 p1) = 97
          · rw [if_pos c36_4] at K hs
            refine z_lookE 219 M.1 (dflt := 311) (ps := #[(66, 290), (68, 255), (87, 227), (88, 243), (97, 183), (107, 114), (112, 137), (115, 92), (118, 160), (120, 205)]) (len := 92) c36_4 (off := 183) (by decide +kernel) (by decide) (by decide) (by decide) ?_
            refine z_go2 M.1 219 [(.aload_n 0, 1), (.getfield 25, 3), (.getfield 69, 3), (.iload_n 2, 1), (.iconst 4, 1)] (228, [(4, .inl (zAt (S 23) 30 p1)), (3, .inl (zAt (S 22) 30 p1)), (0, z_r 17), (1, .inl p1), (2, .inl p2)], [.inl 4, .inl p2, z_r 28], zW T' G' S n, 0, 0) (by decide +kernel) rfl ⟨trivial, rfl, rfl, trivial, trivial, trivial⟩ ?_
            refine z_callV M.1 (av := [.inl p2, .inl 4]) (st := []) (a := 28) (ci := 10) (by decide +kernel) (c_World_cell_28 T' G' S n p2 4 hs.1) M.2.1 zl_Finder_82 zv_World_cell rfl rfl rfl ⟨by decide, by decide, by decide, by decide⟩ rfl (Nat.le_of_ble_eq_true rfl) (fun v w' hv => ?_)
            obtain ⟨rfl, rfl⟩ := hv
            replace hs := hs.2
            show z_G X zm_Finder_holds (231, [(4, .inl (zAt (S 23) 30 p1)), (3, .inl (zAt (S 22) 30 p1)), (0, z_r 17), (1, .inl p1), (2, .inl p2)], [.inl (F_World_cell 28 S p2 4)], zW T' G' S n, 0, 0)
            refine z_go2 M.1 231 [(.iload_n 3, 1)] (232, [(4, .inl (zAt (S 23) 30 p1)), (3, .inl (zAt (S 22) 30 p1)), (0, z_r 17), (1, .inl p1), (2, .inl p2)], [.inl (zAt (S 22) 30 p1), .inl (F_World_cell 28 S p2 4)], zW T' G' S n, 0, 0) (by decide +kernel) rfl ⟨trivial, trivial⟩ ?_
            refine z_icmp_ne 239 M.1 (off := 7) (by decide +kernel) (by decide) (fun c232 => ?_) (fun c232 => ?_)
            · rw [if_neg c232] at K
              refine z_go2 M.1 239 [(.iconst 0, 1)] (240, [(4, .inl (zAt (S 23) 30 p1)), (3, .inl (zAt (S 22) 30 p1)), (0, z_r 17), (1, .inl p1), (2, .inl p2)], [.inl 0], zW T' G' S n, 0, 0) (by decide +kernel) rfl ⟨trivial, trivial⟩ ?_
              exact z_iret M (by decide +kernel) .boolean rfl rfl (by decide) (by decide) (hQ _ K)
            · rw [if_pos c232] at K
              refine z_go2 M.1 235 [(.iconst 1, 1), (.goto 4, 3)] (240, [(4, .inl (zAt (S 23) 30 p1)), (3, .inl (zAt (S 22) 30 p1)), (0, z_r 17), (1, .inl p1), (2, .inl p2)], [.inl 1], zW T' G' S n, 0, 0) (by decide +kernel) rfl ⟨trivial, trivial, trivial⟩ ?_
              exact z_iret M (by decide +kernel) .boolean rfl rfl (by decide) (by decide) (hQ _ K)
          · rw [if_neg c36_4] at K hs
            by_cases c36_5 : (zAt (S 21) 30 p1) = 107
            · rw [if_pos c36_5] at K hs
              refine z_lookE 150 M.1 (dflt := 311) (ps := #[(66, 290), (68, 255), (87, 227), (88, 243), (97, 183), (107, 114), (112, 137), (115, 92), (118, 160), (120, 205)]) (len := 92) c36_5 (off := 114) (by decide +kernel) (by decide) (by decide) (by decide) ?_
              refine z_go2 M.1 150 [(.aload_n 0, 1), (.getfield 25, 3), (.getfield 69, 3), (.iload_n 2, 1), (.bipush 9, 2)] (160, [(4, .inl (zAt (S 23) 30 p1)), (3, .inl (zAt (S 22) 30 p1)), (0, z_r 17), (1, .inl p1), (2, .inl p2)], [.inl 9, .inl p2, z_r 28], zW T' G' S n, 0, 0) (by decide +kernel) rfl ⟨trivial, rfl, rfl, trivial, trivial, trivial⟩ ?_
              refine z_callV M.1 (av := [.inl p2, .inl 9]) (st := []) (a := 28) (ci := 10) (by decide +kernel) (c_World_cell_28 T' G' S n p2 9 hs.1) M.2.1 zl_Finder_82 zv_World_cell rfl rfl rfl ⟨by decide, by decide, by decide, by decide⟩ rfl (Nat.le_of_ble_eq_true rfl) (fun v w' hv => ?_)
              obtain ⟨rfl, rfl⟩ := hv
              replace hs := hs.2
              show z_G X zm_Finder_holds (163, [(4, .inl (zAt (S 23) 30 p1)), (3, .inl (zAt (S 22) 30 p1)), (0, z_r 17), (1, .inl p1), (2, .inl p2)], [.inl (F_World_cell 28 S p2 9)], zW T' G' S n, 0, 0)
              refine z_go2 M.1 163 [(.iload_n 3, 1)] (164, [(4, .inl (zAt (S 23) 30 p1)), (3, .inl (zAt (S 22) 30 p1)), (0, z_r 17), (1, .inl p1), (2, .inl p2)], [.inl (zAt (S 22) 30 p1), .inl (F_World_cell 28 S p2 9)], zW T' G' S n, 0, 0) (by decide +kernel) rfl ⟨trivial, trivial⟩ ?_
              refine z_icmp_ne 171 M.1 (off := 7) (by decide +kernel) (by decide) (fun c164 => ?_) (fun c164 => ?_)
              · rw [if_neg c164] at K
                refine z_go2 M.1 171 [(.iconst 0, 1)] (172, [(4, .inl (zAt (S 23) 30 p1)), (3, .inl (zAt (S 22) 30 p1)), (0, z_r 17), (1, .inl p1), (2, .inl p2)], [.inl 0], zW T' G' S n, 0, 0) (by decide +kernel) rfl ⟨trivial, trivial⟩ ?_
                exact z_iret M (by decide +kernel) .boolean rfl rfl (by decide) (by decide) (hQ _ K)
              · rw [if_pos c164] at K
                refine z_go2 M.1 167 [(.iconst 1, 1), (.goto 4, 3)] (172, [(4, .inl (zAt (S 23) 30 p1)), (3, .inl (zAt (S 22) 30 p1)), (0, z_r 17), (1, .inl p1), (2, .inl p2)], [.inl 1], zW T' G' S n, 0, 0) (by decide +kernel) rfl ⟨trivial, trivial, trivial⟩ ?_
                exact z_iret M (by decide +kernel) .boolean rfl rfl (by decide) (by decide) (hQ _ K)
            · rw [if_neg c36_5] at K hs
              by_cases c36_6 : (zAt (S 21) 30 p1) = 112
              · rw [if_pos c36_6] at K hs
                refine z_lookE 173 M.1 (dflt := 311) (ps := #[(66, 290), (68, 255), (87, 227), (88, 243), (97, 183), (107, 114), (112, 137), (115, 92), (118, 160), (120, 205)]) (len := 92) c36_6 (off := 137) (by decide +kernel) (by decide) (by decide) (by decide) ?_
                refine z_go2 M.1 173 [(.aload_n 0, 1), (.getfield 25, 3), (.getfield 69, 3), (.iload_n 2, 1), (.bipush 8, 2)] (183, [(4, .inl (zAt (S 23) 30 p1)), (3, .inl (zAt (S 22) 30 p1)), (0, z_r 17), (1, .inl p1), (2, .inl p2)], [.inl 8, .inl p2, z_r 28], zW T' G' S n, 0, 0) (by decide +kernel) rfl ⟨trivial, rfl, rfl, trivial, trivial, trivial⟩ ?_
                refine z_callV M.1 (av := [.inl p2, .inl 8]) (st := []) (a := 28) (ci := 10) (by decide +kernel) (c_World_cell_28 T' G' S n p2 8 hs.1) M.2.1 zl_Finder_82 zv_World_cell rfl rfl rfl ⟨by decide, by decide, by decide, by decide⟩ rfl (Nat.le_of_ble_eq_true rfl) (fun v w' hv => ?_)
                obtain ⟨rfl, rfl⟩ := hv
                replace hs := hs.2
                show z_G X zm_Finder_holds (186, [(4, .inl (zAt (S 23) 30 p1)), (3, .inl (zAt (S 22) 30 p1)), (0, z_r 17), (1, .inl p1), (2, .inl p2)], [.inl (F_World_cell 28 S p2 8)], zW T' G' S n, 0, 0)
                refine z_go2 M.1 186 [(.iload_n 3, 1)] (187, [(4, .inl (zAt (S 23) 30 p1)), (3, .inl (zAt (S 22) 30 p1)), (0, z_r 17), (1, .inl p1), (2, .inl p2)], [.inl (zAt (S 22) 30 p1), .inl (F_World_cell 28 S p2 8)], zW T' G' S n, 0, 0) (by decide +kernel) rfl ⟨trivial, trivial⟩ ?_
                refine z_icmp_ne 194 M.1 (off := 7) (by decide +kernel) (by decide) (fun c187 => ?_) (fun c187 => ?_)
                · rw [if_neg c187] at K
                  refine z_go2 M.1 194 [(.iconst 0, 1)] (195, [(4, .inl (zAt (S 23) 30 p1)), (3, .inl (zAt (S 22) 30 p1)), (0, z_r 17), (1, .inl p1), (2, .inl p2)], [.inl 0], zW T' G' S n, 0, 0) (by decide +kernel) rfl ⟨trivial, trivial⟩ ?_
                  exact z_iret M (by decide +kernel) .boolean rfl rfl (by decide) (by decide) (hQ _ K)
                · rw [if_pos c187] at K
                  refine z_go2 M.1 190 [(.iconst 1, 1), (.goto 4, 3)] (195, [(4, .inl (zAt (S 23) 30 p1)), (3, .inl (zAt (S 22) 30 p1)), (0, z_r 17), (1, .inl p1), (2, .inl p2)], [.inl 1], zW T' G' S n, 0, 0) (by decide +kernel) rfl ⟨trivial, trivial, trivial⟩ ?_
                  exact z_iret M (by decide +kernel) .boolean rfl rfl (by decide) (by decide) (hQ _ K)
              · rw [if_neg c36_6] at K hs
                by_cases c36_7 : (zAt (S 21) 30 p1) = 115
                · rw [if_pos c36_7] at K hs
                  refine z_lookE 128 M.1 (dflt := 311) (ps := #[(66, 290), (68, 255), (87, 227), (88, 243), (97, 183), (107, 114), (112, 137), (115, 92), (118, 160), (120, 205)]) (len := 92) c36_7 (off := 92) (by decide +kernel) (by decide) (by decide) (by decide) ?_
                  refine z_go2 M.1 128 [(.aload_n 0, 1), (.getfield 25, 3), (.getfield 69, 3), (.iload_n 2, 1), (.iconst 0, 1)] (137, [(4, .inl (zAt (S 23) 30 p1)), (3, .inl (zAt (S 22) 30 p1)), (0, z_r 17), (1, .inl p1), (2, .inl p2)], [.inl 0, .inl p2, z_r 28], zW T' G' S n, 0, 0) (by decide +kernel) rfl ⟨trivial, rfl, rfl, trivial, trivial, trivial⟩ ?_
                  refine z_callV M.1 (av := [.inl p2, .inl 0]) (st := []) (a := 28) (ci := 10) (by decide +kernel) (c_World_cell_28 T' G' S n p2 0 hs.1) M.2.1 zl_Finder_82 zv_World_cell rfl rfl rfl ⟨by decide, by decide, by decide, by decide⟩ rfl (Nat.le_of_ble_eq_true rfl) (fun v w' hv => ?_)
                  obtain ⟨rfl, rfl⟩ := hv
                  replace hs := hs.2
                  show z_G X zm_Finder_holds (140, [(4, .inl (zAt (S 23) 30 p1)), (3, .inl (zAt (S 22) 30 p1)), (0, z_r 17), (1, .inl p1), (2, .inl p2)], [.inl (F_World_cell 28 S p2 0)], zW T' G' S n, 0, 0)
                  refine z_go2 M.1 140 [(.iload_n 3, 1)] (141, [(4, .inl (zAt (S 23) 30 p1)), (3, .inl (zAt (S 22) 30 p1)), (0, z_r 17), (1, .inl p1), (2, .inl p2)], [.inl (zAt (S 22) 30 p1), .inl (F_World_cell 28 S p2 0)], zW T' G' S n, 0, 0) (by decide +kernel) rfl ⟨trivial, trivial⟩ ?_
                  refine z_icmp_ne 148 M.1 (off := 7) (by decide +kernel) (by decide) (fun c141 => ?_) (fun c141 => ?_)
                  · rw [if_neg c141] at K
                    refine z_go2 M.1 148 [(.iconst 0, 1)] (149, [(4, .inl (zAt (S 23) 30 p1)), (3, .inl (zAt (S 22) 30 p1)), (0, z_r 17), (1, .inl p1), (2, .inl p2)], [.inl 0], zW T' G' S n, 0, 0) (by decide +kernel) rfl ⟨trivial, trivial⟩ ?_
                    exact z_iret M (by decide +kernel) .boolean rfl rfl (by decide) (by decide) (hQ _ K)
                  · rw [if_pos c141] at K
                    refine z_go2 M.1 144 [(.iconst 1, 1), (.goto 4, 3)] (149, [(4, .inl (zAt (S 23) 30 p1)), (3, .inl (zAt (S 22) 30 p1)), (0, z_r 17), (1, .inl p1), (2, .inl p2)], [.inl 1], zW T' G' S n, 0, 0) (by decide +kernel) rfl ⟨trivial, trivial, trivial⟩ ?_
                    exact z_iret M (by decide +kernel) .boolean rfl rfl (by decide) (by decide) (hQ _ K)
                · rw [if_neg c36_7] at K hs
                  by_cases c36_8 : (zAt (S 21) 30 p1) = 118
                  · rw [if_pos c36_8] at K hs
                    refine z_lookE 196 M.1 (dflt := 311) (ps := #[(66, 290), (68, 255), (87, 227), (88, 243), (97, 183), (107, 114), (112, 137), (115, 92), (118, 160), (120, 205)]) (len := 92) c36_8 (off := 160) (by decide +kernel) (by decide) (by decide) (by decide) ?_
                    refine z_go2 M.1 196 [(.aload_n 0, 1), (.getfield 25, 3), (.getfield 69, 3), (.iload_n 2, 1), (.bipush 7, 2)] (206, [(4, .inl (zAt (S 23) 30 p1)), (3, .inl (zAt (S 22) 30 p1)), (0, z_r 17), (1, .inl p1), (2, .inl p2)], [.inl 7, .inl p2, z_r 28], zW T' G' S n, 0, 0) (by decide +kernel) rfl ⟨trivial, rfl, rfl, trivial, trivial, trivial⟩ ?_
                    refine z_callV M.1 (av := [.inl p2, .inl 7]) (st := []) (a := 28) (ci := 10) (by decide +kernel) (c_World_cell_28 T' G' S n p2 7 hs.1) M.2.1 zl_Finder_82 zv_World_cell rfl rfl rfl ⟨by decide, by decide, by decide, by decide⟩ rfl (Nat.le_of_ble_eq_true rfl) (fun v w' hv => ?_)
                    obtain ⟨rfl, rfl⟩ := hv
                    replace hs := hs.2
                    show z_G X zm_Finder_holds (209, [(4, .inl (zAt (S 23) 30 p1)), (3, .inl (zAt (S 22) 30 p1)), (0, z_r 17), (1, .inl p1), (2, .inl p2)], [.inl (F_World_cell 28 S p2 7)], zW T' G' S n, 0, 0)
                    refine z_go2 M.1 209 [(.iload_n 3, 1)] (210, [(4, .inl (zAt (S 23) 30 p1)), (3, .inl (zAt (S 22) 30 p1)), (0, z_r 17), (1, .inl p1), (2, .inl p2)], [.inl (zAt (S 22) 30 p1), .inl (F_World_cell 28 S p2 7)], zW T' G' S n, 0, 0) (by decide +kernel) rfl ⟨trivial, trivial⟩ ?_
                    refine z_icmp_ne 217 M.1 (off := 7) (by decide +kernel) (by decide) (fun c210 => ?_) (fun c210 => ?_)
                    · rw [if_neg c210] at K
                      refine z_go2 M.1 217 [(.iconst 0, 1)] (218, [(4, .inl (zAt (S 23) 30 p1)), (3, .inl (zAt (S 22) 30 p1)), (0, z_r 17), (1, .inl p1), (2, .inl p2)], [.inl 0], zW T' G' S n, 0, 0) (by decide +kernel) rfl ⟨trivial, trivial⟩ ?_
                      exact z_iret M (by decide +kernel) .boolean rfl rfl (by decide) (by decide) (hQ _ K)
                    · rw [if_pos c210] at K
                      refine z_go2 M.1 213 [(.iconst 1, 1), (.goto 4, 3)] (218, [(4, .inl (zAt (S 23) 30 p1)), (3, .inl (zAt (S 22) 30 p1)), (0, z_r 17), (1, .inl p1), (2, .inl p2)], [.inl 1], zW T' G' S n, 0, 0) (by decide +kernel) rfl ⟨trivial, trivial, trivial⟩ ?_
                      exact z_iret M (by decide +kernel) .boolean rfl rfl (by decide) (by decide) (hQ _ K)
                  · rw [if_neg c36_8] at K hs
                    by_cases c36_9 : (zAt (S 21) 30 p1) = 120
                    · rw [if_pos c36_9] at K hs
                      refine z_lookE 241 M.1 (dflt := 311) (ps := #[(66, 290), (68, 255), (87, 227), (88, 243), (97, 183), (107, 114), (112, 137), (115, 92), (118, 160), (120, 205)]) (len := 92) c36_9 (off := 205) (by decide +kernel) (by decide) (by decide) (by decide) ?_
                      refine z_go2 M.1 241 [(.aload_n 0, 1), (.getfield 25, 3), (.getfield 69, 3), (.iload_n 2, 1), (.iconst 4, 1)] (250, [(4, .inl (zAt (S 23) 30 p1)), (3, .inl (zAt (S 22) 30 p1)), (0, z_r 17), (1, .inl p1), (2, .inl p2)], [.inl 4, .inl p2, z_r 28], zW T' G' S n, 0, 0) (by decide +kernel) rfl ⟨trivial, rfl, rfl, trivial, trivial, trivial⟩ ?_
                      refine z_callV M.1 (av := [.inl p2, .inl 4]) (st := []) (a := 28) (ci := 10) (by decide +kernel) (c_World_cell_28 T' G' S n p2 4 hs.1) M.2.1 zl_Finder_82 zv_World_cell rfl rfl rfl ⟨by decide, by decide, by decide, by decide⟩ rfl (Nat.le_of_ble_eq_true rfl) (fun v w' hv => ?_)
                      obtain ⟨rfl, rfl⟩ := hv
                      replace hs := hs.2
                      show z_G X zm_Finder_holds (253, [(4, .inl (zAt (S 23) 30 p1)), (3, .inl (zAt (S 22) 30 p1)), (0, z_r 17), (1, .inl p1), (2, .inl p2)], [.inl (F_World_cell 28 S p2 4)], zW T' G' S n, 0, 0)
                      refine z_go2 M.1 253 [(.iconst (-1), 1)] (254, [(4, .inl (zAt (S 23) 30 p1)), (3, .inl (zAt (S 22) 30 p1)), (0, z_r 17), (1, .inl p1), (2, .inl p2)], [.inl (-1), .inl (F_World_cell 28 S p2 4)], zW T' G' S n, 0, 0) (by decide +kernel) rfl ⟨trivial, trivial⟩ ?_
                      refine z_icmp_ne 261 M.1 (off := 7) (by decide +kernel) (by decide) (fun c254 => ?_) (fun c254 => ?_)
                      · rw [if_neg c254] at K
                        refine z_go2 M.1 261 [(.iconst 0, 1)] (262, [(4, .inl (zAt (S 23) 30 p1)), (3, .inl (zAt (S 22) 30 p1)), (0, z_r 17), (1, .inl p1), (2, .inl p2)], [.inl 0], zW T' G' S n, 0, 0) (by decide +kernel) rfl ⟨trivial, trivial⟩ ?_
                        exact z_iret M (by decide +kernel) .boolean rfl rfl (by decide) (by decide) (hQ _ K)
                      · rw [if_pos c254] at K
                        refine z_go2 M.1 257 [(.iconst 1, 1), (.goto 4, 3)] (262, [(4, .inl (zAt (S 23) 30 p1)), (3, .inl (zAt (S 22) 30 p1)), (0, z_r 17), (1, .inl p1), (2, .inl p2)], [.inl 1], zW T' G' S n, 0, 0) (by decide +kernel) rfl ⟨trivial, trivial, trivial⟩ ?_
                        exact z_iret M (by decide +kernel) .boolean rfl rfl (by decide) (by decide) (hQ _ K)
                    · rw [if_neg c36_9] at K hs
                      refine z_lookup 347 M.1 (dflt := 311) (ps := #[(66, 290), (68, 255), (87, 227), (88, 243), (97, 183), (107, 114), (112, 137), (115, 92), (118, 160), (120, 205)]) (len := 92) (off := 311) (by decide +kernel) (by decide) (by show Op.lookupswitch.offset [(66, 290), (68, 255), (87, 227), (88, 243), (97, 183), (107, 114), (112, 137), (115, 92), (118, 160), (120, 205)] 311 _ = _; rw [lv_osw c36_0 (k := 66) (by decide), lv_osw c36_1 (k := 68) (by decide), lv_osw c36_2 (k := 87) (by decide), lv_osw c36_3 (k := 88) (by decide), lv_osw c36_4 (k := 97) (by decide), lv_osw c36_5 (k := 107) (by decide), lv_osw c36_6 (k := 112) (by decide), lv_osw c36_7 (k := 115) (by decide), lv_osw c36_8 (k := 118) (by decide), lv_osw c36_9 (k := 120) (by decide)]; rfl) (by decide) ?_
                      refine z_go2 M.1 347 [(.iconst 0, 1)] (348, [(4, .inl (zAt (S 23) 30 p1)), (3, .inl (zAt (S 22) 30 p1)), (0, z_r 17), (1, .inl p1), (2, .inl p2)], [.inl 0], zW T' G' S n, 0, 0) (by decide +kernel) rfl ⟨trivial, trivial⟩ ?_
                      exact z_iret M (by decide +kernel) .boolean rfl rfl (by decide) (by decide) (hQ _ K)

-- TrackHouse$Finder.compares
abbrev rm_Finder_compares : Room := zr 3
def F_Finder_compares_j104 (wd : Nat) (S : (Nat → Nat → Int32)) : Int32 := 0
theorem t_Finder_compares_j104_28 {X : z_X} {Post : Option z_V → z_W → Prop} (M : z_M X zm_Finder_compares rm_Finder_compares Post) {T' : Nat → Nat × Nat} {G' : Nat → Nat → Option Nat} {n : Nat} {Q : Int32 → Prop} (S : (Nat → Nat → Int32)) (hQ : ∀ v, Q v → Post (some (.inl v)) (zW T' (zwG G' 28) S n)) (K : Q (F_Finder_compares_j104 28 S)) : z_G X zm_Finder_compares (104, [], [], zW T' (zwG G' 28) S n, 0, 0) := by
  unfold F_Finder_compares_j104 at K
  try simp only [Nat.reduceAdd] at K
  refine z_go2 M.1 104 [(.iconst 0, 1)] (105, [], [.inl 0], zW T' (zwG G' 28) S n, 0, 0) (by decide +kernel) rfl ⟨trivial, trivial⟩ ?_
  exact z_iret M (by decide +kernel) .boolean rfl rfl (by decide) (by decide) (hQ _ K)
def F_Finder_compares_j87 (wd : Nat) (S : (Nat → Nat → Int32)) : Int32 := 0
theorem t_Finder_compares_j87_28 {X : z_X} {Post : Option z_V → z_W → Prop} (M : z_M X zm_Finder_compares rm_Finder_compares Post) {T' : Nat → Nat × Nat} {G' : Nat → Nat → Option Nat} {n : Nat} {Q : Int32 → Prop} (S : (Nat → Nat → Int32)) (hQ : ∀ v, Q v → Post (some (.inl v)) (zW T' (zwG G' 28) S n)) (K : Q (F_Finder_compares_j87 28 S)) : z_G X zm_Finder_compares (87, [], [], zW T' (zwG G' 28) S n, 0, 0) := by
  unfold F_Finder_compares_j87 at K
  try simp only [Nat.reduceAdd] at K
  refine z_go2 M.1 87 [(.iconst 0, 1)] (88, [], [.inl 0], zW T' (zwG G' 28) S n, 0, 0) (by decide +kernel) rfl ⟨trivial, trivial⟩ ?_
  exact z_iret M (by decide +kernel) .boolean rfl rfl (by decide) (by decide) (hQ _ K)
def F_Finder_compares (wd : Nat) (S : (Nat → Nat → Int32)) (p1 : Int32) (p2 : Int32) : Int32 := (if (zAt (S 23) 30 p1) = 60 then (if (F_Sight_value wd S p2 (zAt (S 22) 30 p1)) = (-1) then (F_Finder_compares_j104 wd S) else (if (zAt (S 24) 30 p1) ≤ (F_Sight_value wd S p2 (zAt (S 22) 30 p1)) then (F_Finder_compares_j104 wd S) else 1)) else (if (zAt (S 23) 30 p1) = 61 then (if (F_Sight_value wd S p2 (zAt (S 22) 30 p1)) = (zAt (S 24) 30 p1) then 1 else 0) else (if (zAt (S 23) 30 p1) = 62 then (if (F_Sight_value wd S p2 (zAt (S 22) 30 p1)) = (-1) then (F_Finder_compares_j87 wd S) else (if (F_Sight_value wd S p2 (zAt (S 22) 30 p1)) ≤ (zAt (S 24) 30 p1) then (F_Finder_compares_j87 wd S) else 1)) else (if (F_Sight_value wd S p2 (zAt (S 22) 30 p1)) = (-1) then 1 else 0))))
def Sf_Finder_compares (wd : Nat) (S : (Nat → Nat → Int32)) (p1 : Int32) (p2 : Int32) : Prop := (Sf_Sight_value wd S p2 (zAt (S 22) 30 p1) ∧ True)
theorem c_Finder_compares_28 (T' : Nat → Nat × Nat) (G' : Nat → Nat → Option Nat) (S : (Nat → Nat → Int32)) (n : Nat) (p1 : Int32) (p2 : Int32) (hs : Sf_Finder_compares 28 S p1 p2) : z_Run rm_Finder_compares zm_Finder_compares [z_r 17, .inl p1, .inl p2] (zW T' (zwG G' 28) S n) (zq (some (.inl (F_Finder_compares 28 S p1 p2))) (zW T' (zwG G' 28) S n)) := by
  refine z_body (by decide) zf_Finder_ok (Nat.le_of_ble_eq_true rfl) (fun X M => ?_)
  obtain ⟨Q, hQ, K⟩ : ∃ Q : Int32 → Prop, (∀ v, Q v → zq (some (.inl (F_Finder_compares 28 S p1 p2))) (zW T' (zwG G' 28) S n) (some (.inl v)) (zW T' (zwG G' 28) S n)) ∧ Q (F_Finder_compares 28 S p1 p2) := ⟨fun o => F_Finder_compares 28 S p1 p2 = o, fun v h => ⟨by rw [h], rfl⟩, rfl⟩
  show z_G X zm_Finder_compares (0, [(0, z_r 17), (1, .inl p1), (2, .inl p2)], [], zW T' (zwG G' 28) S n, 0, 0)
  unfold F_Finder_compares at K
  unfold Sf_Finder_compares at hs
  try simp only [Nat.reduceAdd] at K hs
  refine z_go2 M.1 0 [(.aload_n 0, 1), (.getfield 32, 3), (.iload_n 2, 1), (.aload_n 0, 1), (.getfield 18, 3), (.getfield 55, 3), (.iload_n 1, 1)] (13, [(0, z_r 17), (1, .inl p1), (2, .inl p2)], [.inl p1, z_r 22, .inl p2, z_r 36], zW T' (zwG G' 28) S n, 0, 0) (by decide +kernel) rfl ⟨trivial, rfl, trivial, trivial, rfl, rfl, trivial, trivial⟩ ?_
  refine z_callS M.1 (av := [z_r 22, .inl p1]) (st := [.inl p2, z_r 36]) (by decide +kernel) (c_at (zW T' (zwG G' 28) S n) 22 30 rfl (by decide) p1) M.2.1 zl_Finder_43 zs_T_at ⟨by decide, by decide, by decide, by decide⟩ rfl (Nat.le_of_ble_eq_true rfl) (fun v w' hv => ?_)
  obtain ⟨rfl, rfl⟩ := hv
  show z_G X zm_Finder_compares (16, [(0, z_r 17), (1, .inl p1), (2, .inl p2)], [.inl (zAt (S 22) 30 p1), .inl p2, z_r 36], zW T' (zwG G' 28) S n, 0, 0)
  refine z_callV M.1 (av := [.inl p2, .inl (zAt (S 22) 30 p1)]) (st := []) (a := 36) (ci := 8) (by decide +kernel) (c_Sight_value_28 T' G' S n p2 (zAt (S 22) 30 p1) hs.1) M.2.1 zl_Finder_98 zv_Sight_value rfl rfl rfl ⟨by decide, by decide, by decide, by decide⟩ rfl (Nat.le_of_ble_eq_true rfl) (fun v w' hv => ?_)
  obtain ⟨rfl, rfl⟩ := hv
  replace hs := hs.2
  show z_G X zm_Finder_compares (19, [(0, z_r 17), (1, .inl p1), (2, .inl p2)], [.inl (F_Sight_value 28 S p2 (zAt (S 22) 30 p1))], zW T' (zwG G' 28) S n, 0, 0)
  refine z_go2 M.1 19 [(.istore_n 3, 1), (.aload_n 0, 1), (.getfield 18, 3), (.getfield 101, 3), (.iload_n 1, 1)] (28, [(3, .inl (F_Sight_value 28 S p2 (zAt (S 22) 30 p1))), (0, z_r 17), (1, .inl p1), (2, .inl p2)], [.inl p1, z_r 24], zW T' (zwG G' 28) S n, 0, 0) (by decide +kernel) rfl ⟨trivial, trivial, rfl, rfl, trivial, trivial⟩ ?_
  refine z_callS M.1 (av := [z_r 24, .inl p1]) (st := []) (by decide +kernel) (c_at (zW T' (zwG G' 28) S n) 24 30 rfl (by decide) p1) M.2.1 zl_Finder_43 zs_T_at ⟨by decide, by decide, by decide, by decide⟩ rfl (Nat.le_of_ble_eq_true rfl) (fun v w' hv => ?_)
  obtain ⟨rfl, rfl⟩ := hv
  show z_G X zm_Finder_compares (31, [(3, .inl (F_Sight_value 28 S p2 (zAt (S 22) 30 p1))), (0, z_r 17), (1, .inl p1), (2, .inl p2)], [.inl (zAt (S 24) 30 p1)], zW T' (zwG G' 28) S n, 0, 0)
  refine z_go2 M.1 31 [(.istore 4, 2), (.aload_n 0, 1), (.getfield 18, 3), (.getfield 104, 3), (.iload_n 1, 1)] (41, [(4, .inl (zAt (S 24) 30 p1)), (3, .inl (F_Sight_value 28 S p2 (zAt (S 22) 30 p1))), (0, z_r 17), (1, .inl p1), (2, .inl p2)], [.inl p1, z_r 23], zW T' (zwG G' 28) S n, 0, 0) (by decide +kernel) rfl ⟨trivial, trivial, rfl, rfl, trivial, trivial⟩ ?_
  refine z_callS M.1 (av := [z_r 23, .inl p1]) (st := []) (by decide +kernel) (c_at (zW T' (zwG G' 28) S n) 23 30 rfl (by decide) p1) M.2.1 zl_Finder_43 zs_T_at ⟨by decide, by decide, by decide, by decide⟩ rfl (Nat.le_of_ble_eq_true rfl) (fun v w' hv => ?_)
  obtain ⟨rfl, rfl⟩ := hv
  show z_G X zm_Finder_compares (44, [(4, .inl (zAt (S 24) 30 p1)), (3, .inl (F_Sight_value 28 S p2 (zAt (S 22) 30 p1))), (0, z_r 17), (1, .inl p1), (2, .inl p2)], [.inl (zAt (S 23) 30 p1)], zW T' (zwG G' 28) S n, 0, 0)
  by_cases c44_0 : (zAt (S 23) 30 p1) = 60
  · rw [if_pos c44_0] at K
    refine z_tabE 89 M.1 (dflt := 74) (lo := 60) (hi := 62) (offs := #[45, 62, 28]) (len := 28) c44_0 (off := 45) (by decide +kernel) (by decide) (by decide) (by decide) (by decide) ?_
    refine z_go2 M.1 89 [(.iload_n 3, 1), (.iconst (-1), 1)] (91, [(4, .inl (zAt (S 24) 30 p1)), (3, .inl (F_Sight_value 28 S p2 (zAt (S 22) 30 p1))), (0, z_r 17), (1, .inl p1), (2, .inl p2)], [.inl (-1), .inl (F_Sight_value 28 S p2 (zAt (S 22) 30 p1))], zW T' (zwG G' 28) S n, 0, 0) (by decide +kernel) rfl ⟨trivial, trivial, trivial⟩ ?_
    refine z_icmp_eq 104 M.1 (off := 13) (by decide +kernel) (by decide) (fun c91 => ?_) (fun c91 => ?_)
    · rw [if_pos c91] at K
      exact z_lvs (lv' := []) [] rfl (t_Finder_compares_j104_28 M S hQ K)
    · rw [if_neg c91] at K
      refine z_go2 M.1 94 [(.iload_n 3, 1), (.iload 4, 2)] (97, [(4, .inl (zAt (S 24) 30 p1)), (3, .inl (F_Sight_value 28 S p2 (zAt (S 22) 30 p1))), (0, z_r 17), (1, .inl p1), (2, .inl p2)], [.inl (zAt (S 24) 30 p1), .inl (F_Sight_value 28 S p2 (zAt (S 22) 30 p1))], zW T' (zwG G' 28) S n, 0, 0) (by decide +kernel) rfl ⟨trivial, trivial, trivial⟩ ?_
      refine z_icmp_ge 104 M.1 (off := 7) (by decide +kernel) (by decide) (fun c97 => ?_) (fun c97 => ?_)
      · rw [if_pos c97] at K
        exact z_lvs (lv' := []) [] rfl (t_Finder_compares_j104_28 M S hQ K)
      · rw [if_neg c97] at K
        refine z_go2 M.1 100 [(.iconst 1, 1), (.goto 4, 3)] (105, [(4, .inl (zAt (S 24) 30 p1)), (3, .inl (F_Sight_value 28 S p2 (zAt (S 22) 30 p1))), (0, z_r 17), (1, .inl p1), (2, .inl p2)], [.inl 1], zW T' (zwG G' 28) S n, 0, 0) (by decide +kernel) rfl ⟨trivial, trivial, trivial⟩ ?_
        exact z_iret M (by decide +kernel) .boolean rfl rfl (by decide) (by decide) (hQ _ K)
  · rw [if_neg c44_0] at K
    by_cases c44_1 : (zAt (S 23) 30 p1) = 61
    · rw [if_pos c44_1] at K
      refine z_tabE 106 M.1 (dflt := 74) (lo := 60) (hi := 62) (offs := #[45, 62, 28]) (len := 28) c44_1 (off := 62) (by decide +kernel) (by decide) (by decide) (by decide) (by decide) ?_
      refine z_go2 M.1 106 [(.iload_n 3, 1), (.iload 4, 2)] (109, [(4, .inl (zAt (S 24) 30 p1)), (3, .inl (F_Sight_value 28 S p2 (zAt (S 22) 30 p1))), (0, z_r 17), (1, .inl p1), (2, .inl p2)], [.inl (zAt (S 24) 30 p1), .inl (F_Sight_value 28 S p2 (zAt (S 22) 30 p1))], zW T' (zwG G' 28) S n, 0, 0) (by decide +kernel) rfl ⟨trivial, trivial, trivial⟩ ?_
      refine z_icmp_ne 116 M.1 (off := 7) (by decide +kernel) (by decide) (fun c109 => ?_) (fun c109 => ?_)
      · rw [if_neg c109] at K
        refine z_go2 M.1 116 [(.iconst 0, 1)] (117, [(4, .inl (zAt (S 24) 30 p1)), (3, .inl (F_Sight_value 28 S p2 (zAt (S 22) 30 p1))), (0, z_r 17), (1, .inl p1), (2, .inl p2)], [.inl 0], zW T' (zwG G' 28) S n, 0, 0) (by decide +kernel) rfl ⟨trivial, trivial⟩ ?_
        exact z_iret M (by decide +kernel) .boolean rfl rfl (by decide) (by decide) (hQ _ K)
      · rw [if_pos c109] at K
        refine z_go2 M.1 112 [(.iconst 1, 1), (.goto 4, 3)] (117, [(4, .inl (zAt (S 24) 30 p1)), (3, .inl (F_Sight_value 28 S p2 (zAt (S 22) 30 p1))), (0, z_r 17), (1, .inl p1), (2, .inl p2)], [.inl 1], zW T' (zwG G' 28) S n, 0, 0) (by decide +kernel) rfl ⟨trivial, trivial, trivial⟩ ?_
        exact z_iret M (by decide +kernel) .boolean rfl rfl (by decide) (by decide) (hQ _ K)
    · rw [if_neg c44_1] at K
      by_cases c44_2 : (zAt (S 23) 30 p1) = 62
      · rw [if_pos c44_2] at K
        refine z_tabE 72 M.1 (dflt := 74) (lo := 60) (hi := 62) (offs := #[45, 62, 28]) (len := 28) c44_2 (off := 28) (by decide +kernel) (by decide) (by decide) (by decide) (by decide) ?_
        refine z_go2 M.1 72 [(.iload_n 3, 1), (.iconst (-1), 1)] (74, [(4, .inl (zAt (S 24) 30 p1)), (3, .inl (F_Sight_value 28 S p2 (zAt (S 22) 30 p1))), (0, z_r 17), (1, .inl p1), (2, .inl p2)], [.inl (-1), .inl (F_Sight_value 28 S p2 (zAt (S 22) 30 p1))], zW T' (zwG G' 28) S n, 0, 0) (by decide +kernel) rfl ⟨trivial, trivial, trivial⟩ ?_
        refine z_icmp_eq 87 M.1 (off := 13) (by decide +kernel) (by decide) (fun c74 => ?_) (fun c74 => ?_)
        · rw [if_pos c74] at K
          exact z_lvs (lv' := []) [] rfl (t_Finder_compares_j87_28 M S hQ K)
        · rw [if_neg c74] at K
          refine z_go2 M.1 77 [(.iload_n 3, 1), (.iload 4, 2)] (80, [(4, .inl (zAt (S 24) 30 p1)), (3, .inl (F_Sight_value 28 S p2 (zAt (S 22) 30 p1))), (0, z_r 17), (1, .inl p1), (2, .inl p2)], [.inl (zAt (S 24) 30 p1), .inl (F_Sight_value 28 S p2 (zAt (S 22) 30 p1))], zW T' (zwG G' 28) S n, 0, 0) (by decide +kernel) rfl ⟨trivial, trivial, trivial⟩ ?_
          refine z_icmp_le 87 M.1 (off := 7) (by decide +kernel) (by decide) (fun c80 => ?_) (fun c80 => ?_)
          · rw [if_pos c80] at K
            exact z_lvs (lv' := []) [] rfl (t_Finder_compares_j87_28 M S hQ K)
          · rw [if_neg c80] at K
            refine z_go2 M.1 83 [(.iconst 1, 1), (.goto 4, 3)] (88, [(4, .inl (zAt (S 24) 30 p1)), (3, .inl (F_Sight_value 28 S p2 (zAt (S 22) 30 p1))), (0, z_r 17), (1, .inl p1), (2, .inl p2)], [.inl 1], zW T' (zwG G' 28) S n, 0, 0) (by decide +kernel) rfl ⟨trivial, trivial, trivial⟩ ?_
            exact z_iret M (by decide +kernel) .boolean rfl rfl (by decide) (by decide) (hQ _ K)
      · rw [if_neg c44_2] at K
        refine z_tableOut 118 M.1 (dflt := 74) (lo := 60) (hi := 62) (offs := #[45, 62, 28]) (len := 28) (by decide +kernel) (by have h0_ := lv_neT c44_0 (k := 60) (a := 60) (by decide); have h1_ := lv_neT c44_1 (k := 61) (a := 61) (by decide); have h2_ := lv_neT c44_2 (k := 62) (a := 62) (by decide); omega) (by decide) ?_
        refine z_go2 M.1 118 [(.iload_n 3, 1), (.iconst (-1), 1)] (120, [(4, .inl (zAt (S 24) 30 p1)), (3, .inl (F_Sight_value 28 S p2 (zAt (S 22) 30 p1))), (0, z_r 17), (1, .inl p1), (2, .inl p2)], [.inl (-1), .inl (F_Sight_value 28 S p2 (zAt (S 22) 30 p1))], zW T' (zwG G' 28) S n, 0, 0) (by decide +kernel) rfl ⟨trivial, trivial, trivial⟩ ?_
        refine z_icmp_ne 127 M.1 (off := 7) (by decide +kernel) (by decide) (fun c120 => ?_) (fun c120 => ?_)
        · rw [if_neg c120] at K
          refine z_go2 M.1 127 [(.iconst 0, 1)] (128, [(4, .inl (zAt (S 24) 30 p1)), (3, .inl (F_Sight_value 28 S p2 (zAt (S 22) 30 p1))), (0, z_r 17), (1, .inl p1), (2, .inl p2)], [.inl 0], zW T' (zwG G' 28) S n, 0, 0) (by decide +kernel) rfl ⟨trivial, trivial⟩ ?_
          exact z_iret M (by decide +kernel) .boolean rfl rfl (by decide) (by decide) (hQ _ K)
        · rw [if_pos c120] at K
          refine z_go2 M.1 123 [(.iconst 1, 1), (.goto 4, 3)] (128, [(4, .inl (zAt (S 24) 30 p1)), (3, .inl (F_Sight_value 28 S p2 (zAt (S 22) 30 p1))), (0, z_r 17), (1, .inl p1), (2, .inl p2)], [.inl 1], zW T' (zwG G' 28) S n, 0, 0) (by decide +kernel) rfl ⟨trivial, trivial, trivial⟩ ?_
          exact z_iret M (by decide +kernel) .boolean rfl rfl (by decide) (by decide) (hQ _ K)

-- TrackHouse$Finder.leaves
abbrev rm_Finder_leaves : Room := zr 4
def F_Finder_leaves_l4_41 (wd : Nat) (rc : Int32 → Int32 → (Int32)) (S : (Nat → Nat → Int32)) (x1 : Int32) (x2 : Int32) (x3 : Int32) (s0 : Int32) : (Int32) := (if s0 = 0 then (rc (x2 ||| 0) (x3 + 1)) else (rc (x2 ||| (F_T_bit S x3)) (x3 + 1)))
def Sf_Finder_leaves_l4_41 (wd : Nat) (rc : Int32 → Int32 → (Int32)) (sr : Int32 → Int32 → Prop) (S : (Nat → Nat → Int32)) (x1 : Int32) (x2 : Int32) (x3 : Int32) (s0 : Int32) : Prop := (if s0 = 0 then (sr (x2 ||| 0) (x3 + 1)) else (sr (x2 ||| (F_T_bit S x3)) (x3 + 1)))
theorem t_Finder_leaves_l4_41_28 {X : z_X} {Post : Option z_V → z_W → Prop} (M : z_M X zm_Finder_leaves rm_Finder_leaves Post) {T' : Nat → Nat × Nat} {G' : Nat → Nat → Option Nat} {n : Nat} {Q : (Int32) → Prop} (rc : Int32 → Int32 → (Int32)) (sr : Int32 → Int32 → Prop) (S : (Nat → Nat → Int32)) (x1 : Int32) (x2 : Int32) (x3 : Int32) (s0 : Int32) (hE : ∀ (y2 : Int32), Q y2 → z_G X zm_Finder_leaves (65, [(0, z_r 17), (2, .inl y2)], [], zW T' (zwG G' 28) S n, 0, 0)) (hC : ∀ (x2 : Int32) (x3 : Int32), Q (rc x2 x3) → sr x2 x3 → z_G X zm_Finder_leaves (4, [(0, z_r 17), (1, .inl x1), (2, .inl x2), (3, .inl x3)], [], zW T' (zwG G' 28) S n, 0, 0)) (K : Q (F_Finder_leaves_l4_41 28 rc S x1 x2 x3 s0)) (hs : Sf_Finder_leaves_l4_41 28 rc sr S x1 x2 x3 s0) : z_G X zm_Finder_leaves (41, [(0, z_r 17), (1, .inl x1), (2, .inl x2), (3, .inl x3)], [.inl s0], zW T' (zwG G' 28) S n, 0, 0) := by
  unfold F_Finder_leaves_l4_41 at K
  unfold Sf_Finder_leaves_l4_41 at hs
  try simp only [Nat.reduceAdd] at K hs
  refine z_go2 M.1 41 [(.istore 4, 2), (.iload_n 2, 1), (.iload 4, 2)] (46, [(4, .inl s0), (0, z_r 17), (1, .inl x1), (2, .inl x2), (3, .inl x3)], [.inl s0, .inl x2], zW T' (zwG G' 28) S n, 0, 0) (by decide +kernel) rfl ⟨trivial, trivial, trivial, trivial⟩ ?_
  refine z_if_eq 56 M.1 (off := 10) (by decide +kernel) (by decide) (fun c46 => ?_) (fun c46 => ?_)
  · rw [if_pos c46] at K hs
    refine z_go2 M.1 56 [(.iconst 0, 1), (.ior, 1), (.istore_n 2, 1), (.iinc 3 1, 3), (.goto (-58), 3)] (4, [(3, .inl (x3 + 1)), (2, .inl (x2 ||| 0)), (4, .inl s0), (0, z_r 17), (1, .inl x1)], [], zW T' (zwG G' 28) S n, 0, 0) (by decide +kernel) rfl ⟨trivial, trivial, trivial, trivial, trivial, trivial⟩ ?_
    exact z_lvs (lv' := [(0, z_r 17), (1, .inl x1), (2, .inl (x2 ||| 0)), (3, .inl (x3 + 1))]) [3, 4, 1, 0] rfl (hC (x2 ||| 0) (x3 + 1) K hs)
  · rw [if_neg c46] at K hs
    refine z_go2 M.1 49 [(.iload_n 3, 1)] (50, [(4, .inl s0), (0, z_r 17), (1, .inl x1), (2, .inl x2), (3, .inl x3)], [.inl x3, .inl x2], zW T' (zwG G' 28) S n, 0, 0) (by decide +kernel) rfl ⟨trivial, trivial⟩ ?_
    refine z_callS M.1 (av := [.inl x3]) (st := [.inl x2]) (by decide +kernel) (c_T_bit T' (zwG G' 28) S n x3) M.2.1 zl_Finder_86 zs_T_bit ⟨by decide, by decide, by decide, by decide⟩ rfl (Nat.le_of_ble_eq_true rfl) (fun v w' hv => ?_)
    obtain ⟨rfl, rfl⟩ := hv
    show z_G X zm_Finder_leaves (53, [(4, .inl s0), (0, z_r 17), (1, .inl x1), (2, .inl x2), (3, .inl x3)], [.inl (F_T_bit S x3), .inl x2], zW T' (zwG G' 28) S n, 0, 0)
    refine z_go2 M.1 53 [(.goto 4, 3), (.ior, 1), (.istore_n 2, 1), (.iinc 3 1, 3), (.goto (-58), 3)] (4, [(3, .inl (x3 + 1)), (2, .inl (x2 ||| (F_T_bit S x3))), (4, .inl s0), (0, z_r 17), (1, .inl x1)], [], zW T' (zwG G' 28) S n, 0, 0) (by decide +kernel) rfl ⟨trivial, trivial, trivial, trivial, trivial, trivial⟩ ?_
    exact z_lvs (lv' := [(0, z_r 17), (1, .inl x1), (2, .inl (x2 ||| (F_T_bit S x3))), (3, .inl (x3 + 1))]) [3, 4, 1, 0] rfl (hC (x2 ||| (F_T_bit S x3)) (x3 + 1) K hs)
def F_Finder_leaves_L4 (wd : Nat) (S : (Nat → Nat → Int32)) (x1 : Int32) : Nat → Int32 → Int32 → (Int32)
  | 0, x2, x3 => x2
  | f + 1, x2, x3 => (if (30 : Int32) ≤ x3 then x2 else (if (zAt (S 21) 30 x1) = 102 then (F_Finder_leaves_l4_41 wd (F_Finder_leaves_L4 wd S x1 f) S x1 x2 x3 (F_Finder_compares wd S x1 x3)) else (if (F_Finder_holds S x1 x3) = 0 then ((F_Finder_leaves_L4 wd S x1 f) (x2 ||| 0) (x3 + 1)) else ((F_Finder_leaves_L4 wd S x1 f) (x2 ||| (F_T_bit S x3)) (x3 + 1)))))
def Sf_Finder_leaves_L4 (wd : Nat) (S : (Nat → Nat → Int32)) (x1 : Int32) : Nat → Int32 → Int32 → Prop
  | 0, _, _ => False
  | f + 1, x2, x3 => (if (30 : Int32) ≤ x3 then True else (if (zAt (S 21) 30 x1) = 102 then (Sf_Finder_compares wd S x1 x3 ∧ (Sf_Finder_leaves_l4_41 wd (F_Finder_leaves_L4 wd S x1 f) (Sf_Finder_leaves_L4 wd S x1 f) S x1 x2 x3 (F_Finder_compares wd S x1 x3))) else (Sf_Finder_holds S x1 x3 ∧ (if (F_Finder_holds S x1 x3) = 0 then ((Sf_Finder_leaves_L4 wd S x1 f) (x2 ||| 0) (x3 + 1)) else ((Sf_Finder_leaves_L4 wd S x1 f) (x2 ||| (F_T_bit S x3)) (x3 + 1))))))
theorem t_Finder_leaves_L4_28 {X : z_X} {Post : Option z_V → z_W → Prop} (M : z_M X zm_Finder_leaves rm_Finder_leaves Post) {T' : Nat → Nat × Nat} {G' : Nat → Nat → Option Nat} {n : Nat} {Q : (Int32) → Prop} (S : (Nat → Nat → Int32))  (x1 : Int32) (hE : ∀ (y2 : Int32), Q y2 → z_G X zm_Finder_leaves (65, [(0, z_r 17), (2, .inl y2)], [], zW T' (zwG G' 28) S n, 0, 0)) (f : Nat) : ∀ (x2 : Int32) (x3 : Int32), Q (F_Finder_leaves_L4 28 S x1 f x2 x3) → Sf_Finder_leaves_L4 28 S x1 f x2 x3 → z_G X zm_Finder_leaves (4, [(0, z_r 17), (1, .inl x1), (2, .inl x2), (3, .inl x3)], [], zW T' (zwG G' 28) S n, 0, 0) := by
  induction f with
  | zero => intro x2 x3 K hs; exact False.elim hs
  | succ f hC =>
    intro x2 x3 K hs
    rw [F_Finder_leaves_L4] at K
    rw [Sf_Finder_leaves_L4] at hs
    try simp only [Nat.reduceAdd] at K hs
    refine z_go2 M.1 4 [(.iload_n 3, 1), (.bipush 30, 2)] (7, [(0, z_r 17), (1, .inl x1), (2, .inl x2), (3, .inl x3)], [.inl 30, .inl x3], zW T' (zwG G' 28) S n, 0, 0) (by decide +kernel) rfl ⟨trivial, trivial, trivial⟩ ?_
    refine z_icmp_ge 65 M.1 (off := 58) (by decide +kernel) (by decide) (fun c7 => ?_) (fun c7 => ?_)
    · rw [if_pos c7] at K hs
      exact z_lvs (lv' := [(0, z_r 17), (2, .inl x2)]) [0, 2] rfl (hE x2 K)
    · rw [if_neg c7] at K hs
      refine z_go2 M.1 10 [(.aload_n 0, 1), (.getfield 18, 3), (.getfield 40, 3), (.iload_n 1, 1)] (18, [(0, z_r 17), (1, .inl x1), (2, .inl x2), (3, .inl x3)], [.inl x1, z_r 21], zW T' (zwG G' 28) S n, 0, 0) (by decide +kernel) rfl ⟨trivial, rfl, rfl, trivial, trivial⟩ ?_
      refine z_callS M.1 (av := [z_r 21, .inl x1]) (st := []) (by decide +kernel) (c_at (zW T' (zwG G' 28) S n) 21 30 rfl (by decide) x1) M.2.1 zl_Finder_43 zs_T_at ⟨by decide, by decide, by decide, by decide⟩ rfl (Nat.le_of_ble_eq_true rfl) (fun v w' hv => ?_)
      obtain ⟨rfl, rfl⟩ := hv
      show z_G X zm_Finder_leaves (21, [(0, z_r 17), (1, .inl x1), (2, .inl x2), (3, .inl x3)], [.inl (zAt (S 21) 30 x1)], zW T' (zwG G' 28) S n, 0, 0)
      refine z_go2 M.1 21 [(.bipush 102, 2)] (23, [(0, z_r 17), (1, .inl x1), (2, .inl x2), (3, .inl x3)], [.inl 102, .inl (zAt (S 21) 30 x1)], zW T' (zwG G' 28) S n, 0, 0) (by decide +kernel) rfl ⟨trivial, trivial⟩ ?_
      refine z_icmp_ne 35 M.1 (off := 12) (by decide +kernel) (by decide) (fun c23 => ?_) (fun c23 => ?_)
      · rw [if_neg c23] at K hs
        refine z_go2 M.1 35 [(.aload_n 0, 1), (.iload_n 1, 1), (.iload_n 3, 1)] (38, [(0, z_r 17), (1, .inl x1), (2, .inl x2), (3, .inl x3)], [.inl x3, .inl x1, z_r 17], zW T' (zwG G' 28) S n, 0, 0) (by decide +kernel) rfl ⟨trivial, trivial, trivial, trivial⟩ ?_
        refine z_callV M.1 (av := [.inl x1, .inl x3]) (st := []) (a := 17) (ci := 1) (by decide +kernel) (c_Finder_holds T' (zwG G' 28) S n x1 x3 hs.1) M.2.1 zl_Finder_95 zv_Finder_holds rfl rfl rfl ⟨by decide, by decide, by decide, by decide⟩ rfl (Nat.le_of_ble_eq_true rfl) (fun v w' hv => ?_)
        obtain ⟨rfl, rfl⟩ := hv
        replace hs := hs.2
        show z_G X zm_Finder_leaves (41, [(0, z_r 17), (1, .inl x1), (2, .inl x2), (3, .inl x3)], [.inl (F_Finder_holds S x1 x3)], zW T' (zwG G' 28) S n, 0, 0)
        refine z_go2 M.1 41 [(.istore 4, 2), (.iload_n 2, 1), (.iload 4, 2)] (46, [(4, .inl (F_Finder_holds S x1 x3)), (0, z_r 17), (1, .inl x1), (2, .inl x2), (3, .inl x3)], [.inl (F_Finder_holds S x1 x3), .inl x2], zW T' (zwG G' 28) S n, 0, 0) (by decide +kernel) rfl ⟨trivial, trivial, trivial, trivial⟩ ?_
        refine z_if_eq 56 M.1 (off := 10) (by decide +kernel) (by decide) (fun c46 => ?_) (fun c46 => ?_)
        · rw [if_pos c46] at K hs
          refine z_go2 M.1 56 [(.iconst 0, 1), (.ior, 1), (.istore_n 2, 1), (.iinc 3 1, 3), (.goto (-58), 3)] (4, [(3, .inl (x3 + 1)), (2, .inl (x2 ||| 0)), (4, .inl (F_Finder_holds S x1 x3)), (0, z_r 17), (1, .inl x1)], [], zW T' (zwG G' 28) S n, 0, 0) (by decide +kernel) rfl ⟨trivial, trivial, trivial, trivial, trivial, trivial⟩ ?_
          exact z_lvs (lv' := [(0, z_r 17), (1, .inl x1), (2, .inl (x2 ||| 0)), (3, .inl (x3 + 1))]) [3, 4, 1, 0] rfl (hC (x2 ||| 0) (x3 + 1) K hs)
        · rw [if_neg c46] at K hs
          refine z_go2 M.1 49 [(.iload_n 3, 1)] (50, [(4, .inl (F_Finder_holds S x1 x3)), (0, z_r 17), (1, .inl x1), (2, .inl x2), (3, .inl x3)], [.inl x3, .inl x2], zW T' (zwG G' 28) S n, 0, 0) (by decide +kernel) rfl ⟨trivial, trivial⟩ ?_
          refine z_callS M.1 (av := [.inl x3]) (st := [.inl x2]) (by decide +kernel) (c_T_bit T' (zwG G' 28) S n x3) M.2.1 zl_Finder_86 zs_T_bit ⟨by decide, by decide, by decide, by decide⟩ rfl (Nat.le_of_ble_eq_true rfl) (fun v w' hv => ?_)
          obtain ⟨rfl, rfl⟩ := hv
          show z_G X zm_Finder_leaves (53, [(4, .inl (F_Finder_holds S x1 x3)), (0, z_r 17), (1, .inl x1), (2, .inl x2), (3, .inl x3)], [.inl (F_T_bit S x3), .inl x2], zW T' (zwG G' 28) S n, 0, 0)
          refine z_go2 M.1 53 [(.goto 4, 3), (.ior, 1), (.istore_n 2, 1), (.iinc 3 1, 3), (.goto (-58), 3)] (4, [(3, .inl (x3 + 1)), (2, .inl (x2 ||| (F_T_bit S x3))), (4, .inl (F_Finder_holds S x1 x3)), (0, z_r 17), (1, .inl x1)], [], zW T' (zwG G' 28) S n, 0, 0) (by decide +kernel) rfl ⟨trivial, trivial, trivial, trivial, trivial, trivial⟩ ?_
          exact z_lvs (lv' := [(0, z_r 17), (1, .inl x1), (2, .inl (x2 ||| (F_T_bit S x3))), (3, .inl (x3 + 1))]) [3, 4, 1, 0] rfl (hC (x2 ||| (F_T_bit S x3)) (x3 + 1) K hs)
      · rw [if_pos c23] at K hs
        refine z_go2 M.1 26 [(.aload_n 0, 1), (.iload_n 1, 1), (.iload_n 3, 1)] (29, [(0, z_r 17), (1, .inl x1), (2, .inl x2), (3, .inl x3)], [.inl x3, .inl x1, z_r 17], zW T' (zwG G' 28) S n, 0, 0) (by decide +kernel) rfl ⟨trivial, trivial, trivial, trivial⟩ ?_
        refine z_callV M.1 (av := [.inl x1, .inl x3]) (st := []) (a := 17) (ci := 1) (by decide +kernel) (c_Finder_compares_28 T' G' S n x1 x3 hs.1) M.2.1 zl_Finder_92 zv_Finder_compares rfl rfl rfl ⟨by decide, by decide, by decide, by decide⟩ rfl (Nat.le_of_ble_eq_true rfl) (fun v w' hv => ?_)
        obtain ⟨rfl, rfl⟩ := hv
        replace hs := hs.2
        show z_G X zm_Finder_leaves (32, [(0, z_r 17), (1, .inl x1), (2, .inl x2), (3, .inl x3)], [.inl (F_Finder_compares 28 S x1 x3)], zW T' (zwG G' 28) S n, 0, 0)
        refine z_go2 M.1 32 [(.goto 9, 3)] (41, [(0, z_r 17), (1, .inl x1), (2, .inl x2), (3, .inl x3)], [.inl (F_Finder_compares 28 S x1 x3)], zW T' (zwG G' 28) S n, 0, 0) (by decide +kernel) rfl ⟨trivial, trivial⟩ ?_
        exact z_lvs (lv' := [(0, z_r 17), (1, .inl x1), (2, .inl x2), (3, .inl x3)]) [0, 1, 2, 3] rfl (t_Finder_leaves_l4_41_28 M (F_Finder_leaves_L4 28 S x1 f) (Sf_Finder_leaves_L4 28 S x1 f) S x1 x2 x3 (F_Finder_compares 28 S x1 x3) hE hC K hs)
def F_Finder_leaves (wd : Nat) (S : (Nat → Nat → Int32)) (p1 : Int32) : Int32 := (match F_Finder_leaves_L4 wd S p1 1300 0 0 with | y2_4 => (y2_4 &&& (S 28 3)))
def Sf_Finder_leaves (wd : Nat) (S : (Nat → Nat → Int32)) (p1 : Int32) : Prop := (Sf_Finder_leaves_L4 wd S p1 1300 0 0 ∧ True)
theorem c_Finder_leaves_28 (T' : Nat → Nat × Nat) (G' : Nat → Nat → Option Nat) (S : (Nat → Nat → Int32)) (n : Nat) (p1 : Int32) (hs : Sf_Finder_leaves 28 S p1) : z_Run rm_Finder_leaves zm_Finder_leaves [z_r 17, .inl p1] (zW T' (zwG G' 28) S n) (zq (some (.inl (F_Finder_leaves 28 S p1))) (zW T' (zwG G' 28) S n)) := by
  refine z_body (by decide) zf_Finder_ok (Nat.le_of_ble_eq_true rfl) (fun X M => ?_)
  obtain ⟨Q, hQ, K⟩ : ∃ Q : Int32 → Prop, (∀ v, Q v → zq (some (.inl (F_Finder_leaves 28 S p1))) (zW T' (zwG G' 28) S n) (some (.inl v)) (zW T' (zwG G' 28) S n)) ∧ Q (F_Finder_leaves 28 S p1) := ⟨fun o => F_Finder_leaves 28 S p1 = o, fun v h => ⟨by rw [h], rfl⟩, rfl⟩
  show z_G X zm_Finder_leaves (0, [(0, z_r 17), (1, .inl p1)], [], zW T' (zwG G' 28) S n, 0, 0)
  unfold F_Finder_leaves at K
  unfold Sf_Finder_leaves at hs
  try simp only [Nat.reduceAdd] at K hs
  refine z_go2 M.1 0 [(.iconst 0, 1), (.istore_n 2, 1), (.iconst 0, 1), (.istore_n 3, 1)] (4, [(3, .inl 0), (2, .inl 0), (0, z_r 17), (1, .inl p1)], [], zW T' (zwG G' 28) S n, 0, 0) (by decide +kernel) rfl ⟨trivial, trivial, trivial, trivial, trivial⟩ ?_
  refine z_lvs (lv' := [(0, z_r 17), (1, .inl p1), (2, .inl 0), (3, .inl 0)]) [2, 3, 1, 0] rfl ?_
  refine t_Finder_leaves_L4_28 M (Q := fun o => F_Finder_leaves_L4 28 S p1 1300 0 0 = o) S p1 (fun y2_4 hL4 => ?_) 1300 0 0 rfl hs.1
  replace hs := hs.2
  rw [hL4] at K
  try dsimp only at K
  refine z_go2 M.1 65 [(.iload_n 2, 1), (.aload_n 0, 1), (.getfield 25, 3), (.getfield 69, 3), (.getfield 73, 3), (.iand, 1)] (77, [(0, z_r 17), (2, .inl y2_4)], [.inl (y2_4 &&& (S 28 3))], zW T' (zwG G' 28) S n, 0, 0) (by decide +kernel) rfl ⟨trivial, trivial, rfl, rfl, rfl, trivial, trivial⟩ ?_
  exact z_iret M (by decide +kernel) .int rfl rfl (by decide) (by decide) (hQ _ K)

-- TrackHouse$Finder.hits
abbrev rm_Finder_hits : Room := zr 5
def F_Finder_hits_l4_90 (wd : Nat) (rc : (Nat → Nat → Int32) → Int32 → Int32 → ((Nat → Nat → Int32))) (S : (Nat → Nat → Int32)) (x1 : Int32) (x2 : Int32) (s0 : Int32) (s1 : Int32) : ((Nat → Nat → Int32)) := (z_let (zPut S 18 30 s1 s0) (fun S90 => (rc S90 x1 (x2 + 1))))
def Sf_Finder_hits_l4_90 (wd : Nat) (rc : (Nat → Nat → Int32) → Int32 → Int32 → ((Nat → Nat → Int32))) (sr : (Nat → Nat → Int32) → Int32 → Int32 → Prop) (S : (Nat → Nat → Int32)) (x1 : Int32) (x2 : Int32) (s0 : Int32) (s1 : Int32) : Prop := (z_let (zPut S 18 30 s1 s0) (fun S90 => (sr S90 x1 (x2 + 1))))
theorem t_Finder_hits_l4_90_28 {X : z_X} {Post : Option z_V → z_W → Prop} (M : z_M X zm_Finder_hits rm_Finder_hits Post) {T' : Nat → Nat × Nat} {G' : Nat → Nat → Option Nat} {n : Nat} {Q : ((Nat → Nat → Int32)) → Prop} (rc : (Nat → Nat → Int32) → Int32 → Int32 → ((Nat → Nat → Int32))) (sr : (Nat → Nat → Int32) → Int32 → Int32 → Prop) (S : (Nat → Nat → Int32)) (x1 : Int32) (x2 : Int32) (s0 : Int32) (s1 : Int32) (hE : ∀ (S' : (Nat → Nat → Int32)), Q S' → z_G X zm_Finder_hits (164, [(0, z_r 17)], [], zW T' (zwG G' 28) S' n, 0, 0)) (hC : ∀ (S : (Nat → Nat → Int32)) (x1 : Int32) (x2 : Int32), Q (rc S x1 x2) → sr S x1 x2 → z_G X zm_Finder_hits (4, [(0, z_r 17), (1, .inl x1), (2, .inl x2)], [], zW T' (zwG G' 28) S n, 0, 0)) (K : Q (F_Finder_hits_l4_90 28 rc S x1 x2 s0 s1)) (hs : Sf_Finder_hits_l4_90 28 rc sr S x1 x2 s0 s1) : z_G X zm_Finder_hits (90, [(0, z_r 17), (1, .inl x1), (2, .inl x2)], [.inl s0, .inl s1, z_r 18], zW T' (zwG G' 28) S n, 0, 0) := by
  unfold F_Finder_hits_l4_90 at K
  unfold Sf_Finder_hits_l4_90 at hs
  try simp only [Nat.reduceAdd] at K hs
  refine z_callS M.1 (av := [z_r 18, .inl s1, .inl s0]) (st := []) (by decide +kernel) (c_put (zW T' (zwG G' 28) S n) 18 30 rfl (by decide) s1 s0) M.2.1 zl_Finder_47 zs_T_put ⟨by decide, by decide, by decide, by decide⟩ rfl (Nat.le_of_ble_eq_true rfl) (fun v w' hv => ?_)
  obtain ⟨S90, hF90⟩ : ∃ y, zPut S 18 30 s1 s0 = y := ⟨_, rfl⟩
  replace hv : v = none ∧ w' = zW T' (zwG G' 28) (zPut S 18 30 s1 s0) n := hv
  rw [hF90] at K hv hs
  try dsimp only [z_let] at K hs
  obtain ⟨rfl, rfl⟩ := hv
  show z_G X zm_Finder_hits (93, [(0, z_r 17), (1, .inl x1), (2, .inl x2)], [], zW T' (zwG G' 28) S90 n, 0, 0)
  refine z_go2 M.1 93 [(.goto 65, 3), (.iinc 2 1, 3), (.goto (-157), 3)] (4, [(2, .inl (x2 + 1)), (0, z_r 17), (1, .inl x1)], [], zW T' (zwG G' 28) S90 n, 0, 0) (by decide +kernel) rfl ⟨trivial, trivial, trivial, trivial⟩ ?_
  exact z_lvs (lv' := [(0, z_r 17), (1, .inl x1), (2, .inl (x2 + 1))]) [1, 2, 0] rfl (hC S90 x1 (x2 + 1) K hs)
def F_Finder_hits_l4_39 (wd : Nat) (rc : (Nat → Nat → Int32) → Int32 → Int32 → ((Nat → Nat → Int32))) (S : (Nat → Nat → Int32)) (x1 : Int32) (x2 : Int32) (x3 : Int32) : ((Nat → Nat → Int32)) := (if x3 = 38 then (F_Finder_hits_l4_90 wd rc S (x1 + (-1)) x2 ((zAt (S 18) 30 ((x1 + (-1)) - 1)) &&& (zAt (S 18) 30 (x1 + (-1)))) ((x1 + (-1)) - 1)) else (F_Finder_hits_l4_90 wd rc S (x1 + (-1)) x2 ((zAt (S 18) 30 ((x1 + (-1)) - 1)) ||| (zAt (S 18) 30 (x1 + (-1)))) ((x1 + (-1)) - 1)))
def Sf_Finder_hits_l4_39 (wd : Nat) (rc : (Nat → Nat → Int32) → Int32 → Int32 → ((Nat → Nat → Int32))) (sr : (Nat → Nat → Int32) → Int32 → Int32 → Prop) (S : (Nat → Nat → Int32)) (x1 : Int32) (x2 : Int32) (x3 : Int32) : Prop := (if x3 = 38 then (Sf_Finder_hits_l4_90 wd rc sr S (x1 + (-1)) x2 ((zAt (S 18) 30 ((x1 + (-1)) - 1)) &&& (zAt (S 18) 30 (x1 + (-1)))) ((x1 + (-1)) - 1)) else (Sf_Finder_hits_l4_90 wd rc sr S (x1 + (-1)) x2 ((zAt (S 18) 30 ((x1 + (-1)) - 1)) ||| (zAt (S 18) 30 (x1 + (-1)))) ((x1 + (-1)) - 1)))
theorem t_Finder_hits_l4_39_28 {X : z_X} {Post : Option z_V → z_W → Prop} (M : z_M X zm_Finder_hits rm_Finder_hits Post) {T' : Nat → Nat × Nat} {G' : Nat → Nat → Option Nat} {n : Nat} {Q : ((Nat → Nat → Int32)) → Prop} (rc : (Nat → Nat → Int32) → Int32 → Int32 → ((Nat → Nat → Int32))) (sr : (Nat → Nat → Int32) → Int32 → Int32 → Prop) (S : (Nat → Nat → Int32)) (x1 : Int32) (x2 : Int32) (x3 : Int32) (hE : ∀ (S' : (Nat → Nat → Int32)), Q S' → z_G X zm_Finder_hits (164, [(0, z_r 17)], [], zW T' (zwG G' 28) S' n, 0, 0)) (hC : ∀ (S : (Nat → Nat → Int32)) (x1 : Int32) (x2 : Int32), Q (rc S x1 x2) → sr S x1 x2 → z_G X zm_Finder_hits (4, [(0, z_r 17), (1, .inl x1), (2, .inl x2)], [], zW T' (zwG G' 28) S n, 0, 0)) (K : Q (F_Finder_hits_l4_39 28 rc S x1 x2 x3)) (hs : Sf_Finder_hits_l4_39 28 rc sr S x1 x2 x3) : z_G X zm_Finder_hits (39, [(0, z_r 17), (1, .inl x1), (2, .inl x2), (3, .inl x3)], [], zW T' (zwG G' 28) S n, 0, 0) := by
  unfold F_Finder_hits_l4_39 at K
  unfold Sf_Finder_hits_l4_39 at hs
  try simp only [Nat.reduceAdd] at K hs
  refine z_go2 M.1 39 [(.iinc 1 (-1), 3), (.aload_n 0, 1), (.getfield 9, 3), (.iload_n 1, 1)] (47, [(1, .inl (x1 + (-1))), (0, z_r 17), (2, .inl x2), (3, .inl x3)], [.inl (x1 + (-1)), z_r 18], zW T' (zwG G' 28) S n, 0, 0) (by decide +kernel) rfl ⟨trivial, trivial, rfl, trivial, trivial⟩ ?_
  refine z_callS M.1 (av := [z_r 18, .inl (x1 + (-1))]) (st := []) (by decide +kernel) (c_at (zW T' (zwG G' 28) S n) 18 30 rfl (by decide) (x1 + (-1))) M.2.1 zl_Finder_43 zs_T_at ⟨by decide, by decide, by decide, by decide⟩ rfl (Nat.le_of_ble_eq_true rfl) (fun v w' hv => ?_)
  obtain ⟨rfl, rfl⟩ := hv
  show z_G X zm_Finder_hits (50, [(1, .inl (x1 + (-1))), (0, z_r 17), (2, .inl x2), (3, .inl x3)], [.inl (zAt (S 18) 30 (x1 + (-1)))], zW T' (zwG G' 28) S n, 0, 0)
  refine z_go2 M.1 50 [(.istore 4, 2), (.aload_n 0, 1), (.getfield 9, 3), (.iload_n 1, 1), (.iconst 1, 1), (.isub, 1)] (59, [(4, .inl (zAt (S 18) 30 (x1 + (-1)))), (1, .inl (x1 + (-1))), (0, z_r 17), (2, .inl x2), (3, .inl x3)], [.inl ((x1 + (-1)) - 1), z_r 18], zW T' (zwG G' 28) S n, 0, 0) (by decide +kernel) rfl ⟨trivial, trivial, rfl, trivial, trivial, trivial, trivial⟩ ?_
  refine z_callS M.1 (av := [z_r 18, .inl ((x1 + (-1)) - 1)]) (st := []) (by decide +kernel) (c_at (zW T' (zwG G' 28) S n) 18 30 rfl (by decide) ((x1 + (-1)) - 1)) M.2.1 zl_Finder_43 zs_T_at ⟨by decide, by decide, by decide, by decide⟩ rfl (Nat.le_of_ble_eq_true rfl) (fun v w' hv => ?_)
  obtain ⟨rfl, rfl⟩ := hv
  show z_G X zm_Finder_hits (62, [(4, .inl (zAt (S 18) 30 (x1 + (-1)))), (1, .inl (x1 + (-1))), (0, z_r 17), (2, .inl x2), (3, .inl x3)], [.inl (zAt (S 18) 30 ((x1 + (-1)) - 1))], zW T' (zwG G' 28) S n, 0, 0)
  refine z_go2 M.1 62 [(.istore 5, 2), (.aload_n 0, 1), (.getfield 9, 3), (.iload_n 1, 1), (.iconst 1, 1), (.isub, 1), (.iload_n 3, 1), (.bipush 38, 2)] (74, [(5, .inl (zAt (S 18) 30 ((x1 + (-1)) - 1))), (4, .inl (zAt (S 18) 30 (x1 + (-1)))), (1, .inl (x1 + (-1))), (0, z_r 17), (2, .inl x2), (3, .inl x3)], [.inl 38, .inl x3, .inl ((x1 + (-1)) - 1), z_r 18], zW T' (zwG G' 28) S n, 0, 0) (by decide +kernel) rfl ⟨trivial, trivial, rfl, trivial, trivial, trivial, trivial, trivial, trivial⟩ ?_
  refine z_icmp_ne 85 M.1 (off := 11) (by decide +kernel) (by decide) (fun c74 => ?_) (fun c74 => ?_)
  · rw [if_neg c74] at K hs
    refine z_go2 M.1 85 [(.iload 5, 2), (.iload 4, 2), (.ior, 1)] (90, [(5, .inl (zAt (S 18) 30 ((x1 + (-1)) - 1))), (4, .inl (zAt (S 18) 30 (x1 + (-1)))), (1, .inl (x1 + (-1))), (0, z_r 17), (2, .inl x2), (3, .inl x3)], [.inl ((zAt (S 18) 30 ((x1 + (-1)) - 1)) ||| (zAt (S 18) 30 (x1 + (-1)))), .inl ((x1 + (-1)) - 1), z_r 18], zW T' (zwG G' 28) S n, 0, 0) (by decide +kernel) rfl ⟨trivial, trivial, trivial, trivial⟩ ?_
    exact z_lvs (lv' := [(0, z_r 17), (1, .inl (x1 + (-1))), (2, .inl x2)]) [3, 2, 4] rfl (t_Finder_hits_l4_90_28 M rc sr S (x1 + (-1)) x2 ((zAt (S 18) 30 ((x1 + (-1)) - 1)) ||| (zAt (S 18) 30 (x1 + (-1)))) ((x1 + (-1)) - 1) hE hC K hs)
  · rw [if_pos c74] at K hs
    refine z_go2 M.1 77 [(.iload 5, 2), (.iload 4, 2), (.iand, 1), (.goto 8, 3)] (90, [(5, .inl (zAt (S 18) 30 ((x1 + (-1)) - 1))), (4, .inl (zAt (S 18) 30 (x1 + (-1)))), (1, .inl (x1 + (-1))), (0, z_r 17), (2, .inl x2), (3, .inl x3)], [.inl ((zAt (S 18) 30 ((x1 + (-1)) - 1)) &&& (zAt (S 18) 30 (x1 + (-1)))), .inl ((x1 + (-1)) - 1), z_r 18], zW T' (zwG G' 28) S n, 0, 0) (by decide +kernel) rfl ⟨trivial, trivial, trivial, trivial, trivial⟩ ?_
    exact z_lvs (lv' := [(0, z_r 17), (1, .inl (x1 + (-1))), (2, .inl x2)]) [3, 2, 4] rfl (t_Finder_hits_l4_90_28 M rc sr S (x1 + (-1)) x2 ((zAt (S 18) 30 ((x1 + (-1)) - 1)) &&& (zAt (S 18) 30 (x1 + (-1)))) ((x1 + (-1)) - 1) hE hC K hs)
def F_Finder_hits_L4 (wd : Nat) : Nat → (Nat → Nat → Int32) → Int32 → Int32 → ((Nat → Nat → Int32))
  | 0, S, x1, x2 => S
  | f + 1, S, x1, x2 => (if (S 19 8) ≤ x2 then S else (if (zAt (S 21) 30 x2) = 38 then (F_Finder_hits_l4_39 wd (F_Finder_hits_L4 wd f) S x1 x2 (zAt (S 21) 30 x2)) else (if (zAt (S 21) 30 x2) = 124 then (F_Finder_hits_l4_39 wd (F_Finder_hits_L4 wd f) S x1 x2 (zAt (S 21) 30 x2)) else (if (F_Finder_isOfOne S (zAt (S 21) 30 x2)) = 0 then (z_let (zPut S 18 30 x1 (F_Finder_leaves wd S x2)) (fun S152 => ((F_Finder_hits_L4 wd f) S152 (x1 + 1) (x2 + 1)))) else (z_let (zPut S 18 30 (x1 - 1) (F_Finder_related S (zAt (S 21) 30 x2) (zAt (S 22) 30 x2) (zAt (S 18) 30 (x1 - 1)))) (fun S136 => ((F_Finder_hits_L4 wd f) S136 x1 (x2 + 1))))))))
def Sf_Finder_hits_L4 (wd : Nat) : Nat → (Nat → Nat → Int32) → Int32 → Int32 → Prop
  | 0, _, _, _ => False
  | f + 1, S, x1, x2 => (if (S 19 8) ≤ x2 then True else (if (zAt (S 21) 30 x2) = 38 then (Sf_Finder_hits_l4_39 wd (F_Finder_hits_L4 wd f) (Sf_Finder_hits_L4 wd f) S x1 x2 (zAt (S 21) 30 x2)) else (if (zAt (S 21) 30 x2) = 124 then (Sf_Finder_hits_l4_39 wd (F_Finder_hits_L4 wd f) (Sf_Finder_hits_L4 wd f) S x1 x2 (zAt (S 21) 30 x2)) else (if (F_Finder_isOfOne S (zAt (S 21) 30 x2)) = 0 then (Sf_Finder_leaves wd S x2 ∧ (z_let (zPut S 18 30 x1 (F_Finder_leaves wd S x2)) (fun S152 => ((Sf_Finder_hits_L4 wd f) S152 (x1 + 1) (x2 + 1))))) else (Sf_Finder_related S (zAt (S 21) 30 x2) (zAt (S 22) 30 x2) (zAt (S 18) 30 (x1 - 1)) ∧ (z_let (zPut S 18 30 (x1 - 1) (F_Finder_related S (zAt (S 21) 30 x2) (zAt (S 22) 30 x2) (zAt (S 18) 30 (x1 - 1)))) (fun S136 => ((Sf_Finder_hits_L4 wd f) S136 x1 (x2 + 1)))))))))
theorem t_Finder_hits_L4_28 {X : z_X} {Post : Option z_V → z_W → Prop} (M : z_M X zm_Finder_hits rm_Finder_hits Post) {T' : Nat → Nat × Nat} {G' : Nat → Nat → Option Nat} {n : Nat} {Q : ((Nat → Nat → Int32)) → Prop}  (hE : ∀ (S' : (Nat → Nat → Int32)), Q S' → z_G X zm_Finder_hits (164, [(0, z_r 17)], [], zW T' (zwG G' 28) S' n, 0, 0)) (f : Nat) : ∀ (S : (Nat → Nat → Int32)) (x1 : Int32) (x2 : Int32), Q (F_Finder_hits_L4 28 f S x1 x2) → Sf_Finder_hits_L4 28 f S x1 x2 → z_G X zm_Finder_hits (4, [(0, z_r 17), (1, .inl x1), (2, .inl x2)], [], zW T' (zwG G' 28) S n, 0, 0) := by
  induction f with
  | zero => intro S x1 x2 K hs; exact False.elim hs
  | succ f hC =>
    intro S x1 x2 K hs
    rw [F_Finder_hits_L4] at K
    rw [Sf_Finder_hits_L4] at hs
    try simp only [Nat.reduceAdd] at K hs
    refine z_go2 M.1 4 [(.iload_n 2, 1), (.aload_n 0, 1), (.getfield 18, 3), (.getfield 36, 3)] (12, [(0, z_r 17), (1, .inl x1), (2, .inl x2)], [.inl (S 19 8), .inl x2], zW T' (zwG G' 28) S n, 0, 0) (by decide +kernel) rfl ⟨trivial, trivial, rfl, rfl, trivial⟩ ?_
    refine z_icmp_ge 164 M.1 (off := 152) (by decide +kernel) (by decide) (fun c12 => ?_) (fun c12 => ?_)
    · rw [if_pos c12] at K hs
      exact z_lvs (lv' := [(0, z_r 17)]) [0] rfl (hE S K)
    · rw [if_neg c12] at K hs
      refine z_go2 M.1 15 [(.aload_n 0, 1), (.getfield 18, 3), (.getfield 40, 3), (.iload_n 2, 1)] (23, [(0, z_r 17), (1, .inl x1), (2, .inl x2)], [.inl x2, z_r 21], zW T' (zwG G' 28) S n, 0, 0) (by decide +kernel) rfl ⟨trivial, rfl, rfl, trivial, trivial⟩ ?_
      refine z_callS M.1 (av := [z_r 21, .inl x2]) (st := []) (by decide +kernel) (c_at (zW T' (zwG G' 28) S n) 21 30 rfl (by decide) x2) M.2.1 zl_Finder_43 zs_T_at ⟨by decide, by decide, by decide, by decide⟩ rfl (Nat.le_of_ble_eq_true rfl) (fun v w' hv => ?_)
      obtain ⟨rfl, rfl⟩ := hv
      show z_G X zm_Finder_hits (26, [(0, z_r 17), (1, .inl x1), (2, .inl x2)], [.inl (zAt (S 21) 30 x2)], zW T' (zwG G' 28) S n, 0, 0)
      refine z_go2 M.1 26 [(.istore_n 3, 1), (.iload_n 3, 1), (.bipush 38, 2)] (30, [(3, .inl (zAt (S 21) 30 x2)), (0, z_r 17), (1, .inl x1), (2, .inl x2)], [.inl 38, .inl (zAt (S 21) 30 x2)], zW T' (zwG G' 28) S n, 0, 0) (by decide +kernel) rfl ⟨trivial, trivial, trivial, trivial⟩ ?_
      refine z_icmp_eq 39 M.1 (off := 9) (by decide +kernel) (by decide) (fun c30 => ?_) (fun c30 => ?_)
      · rw [if_pos c30] at K hs
        exact z_lvs (lv' := [(0, z_r 17), (1, .inl x1), (2, .inl x2), (3, .inl (zAt (S 21) 30 x2))]) [1, 2, 3, 0] rfl (t_Finder_hits_l4_39_28 M (F_Finder_hits_L4 28 f) (Sf_Finder_hits_L4 28 f) S x1 x2 (zAt (S 21) 30 x2) hE hC K hs)
      · rw [if_neg c30] at K hs
        refine z_go2 M.1 33 [(.iload_n 3, 1), (.bipush 124, 2)] (36, [(3, .inl (zAt (S 21) 30 x2)), (0, z_r 17), (1, .inl x1), (2, .inl x2)], [.inl 124, .inl (zAt (S 21) 30 x2)], zW T' (zwG G' 28) S n, 0, 0) (by decide +kernel) rfl ⟨trivial, trivial, trivial⟩ ?_
        refine z_icmp_ne 96 M.1 (off := 60) (by decide +kernel) (by decide) (fun c36 => ?_) (fun c36 => ?_)
        · rw [if_neg c36] at K hs
          refine z_go2 M.1 96 [(.iload_n 3, 1)] (97, [(3, .inl (zAt (S 21) 30 x2)), (0, z_r 17), (1, .inl x1), (2, .inl x2)], [.inl (zAt (S 21) 30 x2)], zW T' (zwG G' 28) S n, 0, 0) (by decide +kernel) rfl ⟨trivial, trivial⟩ ?_
          refine z_callS M.1 (av := [.inl (zAt (S 21) 30 x2)]) (st := []) (by decide +kernel) (c_Finder_isOfOne T' (zwG G' 28) S n (zAt (S 21) 30 x2)) M.2.1 zl_Finder_51 zs_Finder_isOfOne ⟨by decide, by decide, by decide, by decide⟩ rfl (Nat.le_of_ble_eq_true rfl) (fun v w' hv => ?_)
          obtain ⟨rfl, rfl⟩ := hv
          show z_G X zm_Finder_hits (100, [(3, .inl (zAt (S 21) 30 x2)), (0, z_r 17), (1, .inl x1), (2, .inl x2)], [.inl (F_Finder_isOfOne S (zAt (S 21) 30 x2))], zW T' (zwG G' 28) S n, 0, 0)
          refine z_if_eq 142 M.1 (off := 42) (by decide +kernel) (by decide) (fun c100 => ?_) (fun c100 => ?_)
          · rw [if_pos c100] at K hs
            refine z_go2 M.1 142 [(.aload_n 0, 1), (.getfield 9, 3), (.iload_n 1, 1), (.aload_n 0, 1), (.iload_n 2, 1)] (149, [(3, .inl (zAt (S 21) 30 x2)), (0, z_r 17), (1, .inl x1), (2, .inl x2)], [.inl x2, z_r 17, .inl x1, z_r 18], zW T' (zwG G' 28) S n, 0, 0) (by decide +kernel) rfl ⟨trivial, rfl, trivial, trivial, trivial, trivial⟩ ?_
            refine z_callV M.1 (av := [.inl x2]) (st := [.inl x1, z_r 18]) (a := 17) (ci := 1) (by decide +kernel) (c_Finder_leaves_28 T' G' S n x2 hs.1) M.2.1 zl_Finder_62 zv_Finder_leaves rfl rfl rfl ⟨by decide, by decide, by decide, by decide⟩ rfl (Nat.le_of_ble_eq_true rfl) (fun v w' hv => ?_)
            obtain ⟨rfl, rfl⟩ := hv
            replace hs := hs.2
            show z_G X zm_Finder_hits (152, [(3, .inl (zAt (S 21) 30 x2)), (0, z_r 17), (1, .inl x1), (2, .inl x2)], [.inl (F_Finder_leaves 28 S x2), .inl x1, z_r 18], zW T' (zwG G' 28) S n, 0, 0)
            refine z_callS M.1 (av := [z_r 18, .inl x1, .inl (F_Finder_leaves 28 S x2)]) (st := []) (by decide +kernel) (c_put (zW T' (zwG G' 28) S n) 18 30 rfl (by decide) x1 (F_Finder_leaves 28 S x2)) M.2.1 zl_Finder_47 zs_T_put ⟨by decide, by decide, by decide, by decide⟩ rfl (Nat.le_of_ble_eq_true rfl) (fun v w' hv => ?_)
            obtain ⟨S152, hF152⟩ : ∃ y, zPut S 18 30 x1 (F_Finder_leaves 28 S x2) = y := ⟨_, rfl⟩
            replace hv : v = none ∧ w' = zW T' (zwG G' 28) (zPut S 18 30 x1 (F_Finder_leaves 28 S x2)) n := hv
            rw [hF152] at K hv hs
            try dsimp only [z_let] at K hs
            obtain ⟨rfl, rfl⟩ := hv
            show z_G X zm_Finder_hits (155, [(3, .inl (zAt (S 21) 30 x2)), (0, z_r 17), (1, .inl x1), (2, .inl x2)], [], zW T' (zwG G' 28) S152 n, 0, 0)
            refine z_go2 M.1 155 [(.iinc 1 1, 3), (.iinc 2 1, 3), (.goto (-157), 3)] (4, [(2, .inl (x2 + 1)), (1, .inl (x1 + 1)), (3, .inl (zAt (S 21) 30 x2)), (0, z_r 17)], [], zW T' (zwG G' 28) S152 n, 0, 0) (by decide +kernel) rfl ⟨trivial, trivial, trivial, trivial⟩ ?_
            exact z_lvs (lv' := [(0, z_r 17), (1, .inl (x1 + 1)), (2, .inl (x2 + 1))]) [3, 1, 0] rfl (hC S152 (x1 + 1) (x2 + 1) K hs)
          · rw [if_neg c100] at K hs
            refine z_go2 M.1 103 [(.aload_n 0, 1), (.getfield 9, 3), (.iload_n 1, 1), (.iconst 1, 1), (.isub, 1), (.aload_n 0, 1), (.iload_n 3, 1), (.aload_n 0, 1), (.getfield 18, 3), (.getfield 55, 3), (.iload_n 2, 1)] (120, [(3, .inl (zAt (S 21) 30 x2)), (0, z_r 17), (1, .inl x1), (2, .inl x2)], [.inl x2, z_r 22, .inl (zAt (S 21) 30 x2), z_r 17, .inl (x1 - 1), z_r 18], zW T' (zwG G' 28) S n, 0, 0) (by decide +kernel) rfl ⟨trivial, rfl, trivial, trivial, trivial, trivial, trivial, trivial, rfl, rfl, trivial, trivial⟩ ?_
            refine z_callS M.1 (av := [z_r 22, .inl x2]) (st := [.inl (zAt (S 21) 30 x2), z_r 17, .inl (x1 - 1), z_r 18]) (by decide +kernel) (c_at (zW T' (zwG G' 28) S n) 22 30 rfl (by decide) x2) M.2.1 zl_Finder_43 zs_T_at ⟨by decide, by decide, by decide, by decide⟩ rfl (Nat.le_of_ble_eq_true rfl) (fun v w' hv => ?_)
            obtain ⟨rfl, rfl⟩ := hv
            show z_G X zm_Finder_hits (123, [(3, .inl (zAt (S 21) 30 x2)), (0, z_r 17), (1, .inl x1), (2, .inl x2)], [.inl (zAt (S 22) 30 x2), .inl (zAt (S 21) 30 x2), z_r 17, .inl (x1 - 1), z_r 18], zW T' (zwG G' 28) S n, 0, 0)
            refine z_go2 M.1 123 [(.aload_n 0, 1), (.getfield 9, 3), (.iload_n 1, 1), (.iconst 1, 1), (.isub, 1)] (130, [(3, .inl (zAt (S 21) 30 x2)), (0, z_r 17), (1, .inl x1), (2, .inl x2)], [.inl (x1 - 1), z_r 18, .inl (zAt (S 22) 30 x2), .inl (zAt (S 21) 30 x2), z_r 17, .inl (x1 - 1), z_r 18], zW T' (zwG G' 28) S n, 0, 0) (by decide +kernel) rfl ⟨trivial, rfl, trivial, trivial, trivial, trivial⟩ ?_
            refine z_callS M.1 (av := [z_r 18, .inl (x1 - 1)]) (st := [.inl (zAt (S 22) 30 x2), .inl (zAt (S 21) 30 x2), z_r 17, .inl (x1 - 1), z_r 18]) (by decide +kernel) (c_at (zW T' (zwG G' 28) S n) 18 30 rfl (by decide) (x1 - 1)) M.2.1 zl_Finder_43 zs_T_at ⟨by decide, by decide, by decide, by decide⟩ rfl (Nat.le_of_ble_eq_true rfl) (fun v w' hv => ?_)
            obtain ⟨rfl, rfl⟩ := hv
            show z_G X zm_Finder_hits (133, [(3, .inl (zAt (S 21) 30 x2)), (0, z_r 17), (1, .inl x1), (2, .inl x2)], [.inl (zAt (S 18) 30 (x1 - 1)), .inl (zAt (S 22) 30 x2), .inl (zAt (S 21) 30 x2), z_r 17, .inl (x1 - 1), z_r 18], zW T' (zwG G' 28) S n, 0, 0)
            refine z_callV M.1 (av := [.inl (zAt (S 21) 30 x2), .inl (zAt (S 22) 30 x2), .inl (zAt (S 18) 30 (x1 - 1))]) (st := [.inl (x1 - 1), z_r 18]) (a := 17) (ci := 1) (by decide +kernel) (c_Finder_related T' (zwG G' 28) S n (zAt (S 21) 30 x2) (zAt (S 22) 30 x2) (zAt (S 18) 30 (x1 - 1)) hs.1) M.2.1 zl_Finder_58 zv_Finder_related rfl rfl rfl ⟨by decide, by decide, by decide, by decide⟩ rfl (Nat.le_of_ble_eq_true rfl) (fun v w' hv => ?_)
            obtain ⟨rfl, rfl⟩ := hv
            replace hs := hs.2
            show z_G X zm_Finder_hits (136, [(3, .inl (zAt (S 21) 30 x2)), (0, z_r 17), (1, .inl x1), (2, .inl x2)], [.inl (F_Finder_related S (zAt (S 21) 30 x2) (zAt (S 22) 30 x2) (zAt (S 18) 30 (x1 - 1))), .inl (x1 - 1), z_r 18], zW T' (zwG G' 28) S n, 0, 0)
            refine z_callS M.1 (av := [z_r 18, .inl (x1 - 1), .inl (F_Finder_related S (zAt (S 21) 30 x2) (zAt (S 22) 30 x2) (zAt (S 18) 30 (x1 - 1)))]) (st := []) (by decide +kernel) (c_put (zW T' (zwG G' 28) S n) 18 30 rfl (by decide) (x1 - 1) (F_Finder_related S (zAt (S 21) 30 x2) (zAt (S 22) 30 x2) (zAt (S 18) 30 (x1 - 1)))) M.2.1 zl_Finder_47 zs_T_put ⟨by decide, by decide, by decide, by decide⟩ rfl (Nat.le_of_ble_eq_true rfl) (fun v w' hv => ?_)
            obtain ⟨S136, hF136⟩ : ∃ y, zPut S 18 30 (x1 - 1) (F_Finder_related S (zAt (S 21) 30 x2) (zAt (S 22) 30 x2) (zAt (S 18) 30 (x1 - 1))) = y := ⟨_, rfl⟩
            replace hv : v = none ∧ w' = zW T' (zwG G' 28) (zPut S 18 30 (x1 - 1) (F_Finder_related S (zAt (S 21) 30 x2) (zAt (S 22) 30 x2) (zAt (S 18) 30 (x1 - 1)))) n := hv
            rw [hF136] at K hv hs
            try dsimp only [z_let] at K hs
            obtain ⟨rfl, rfl⟩ := hv
            show z_G X zm_Finder_hits (139, [(3, .inl (zAt (S 21) 30 x2)), (0, z_r 17), (1, .inl x1), (2, .inl x2)], [], zW T' (zwG G' 28) S136 n, 0, 0)
            refine z_go2 M.1 139 [(.goto 19, 3), (.iinc 2 1, 3), (.goto (-157), 3)] (4, [(2, .inl (x2 + 1)), (3, .inl (zAt (S 21) 30 x2)), (0, z_r 17), (1, .inl x1)], [], zW T' (zwG G' 28) S136 n, 0, 0) (by decide +kernel) rfl ⟨trivial, trivial, trivial, trivial⟩ ?_
            exact z_lvs (lv' := [(0, z_r 17), (1, .inl x1), (2, .inl (x2 + 1))]) [2, 3, 0] rfl (hC S136 x1 (x2 + 1) K hs)
        · rw [if_pos c36] at K hs
          exact z_lvs (lv' := [(0, z_r 17), (1, .inl x1), (2, .inl x2), (3, .inl (zAt (S 21) 30 x2))]) [1, 2, 3, 0] rfl (t_Finder_hits_l4_39_28 M (F_Finder_hits_L4 28 f) (Sf_Finder_hits_L4 28 f) S x1 x2 (zAt (S 21) 30 x2) hE hC K hs)
def F_Finder_hits (wd : Nat) (S : (Nat → Nat → Int32)) : (Int32 × (Nat → Nat → Int32)) := (match F_Finder_hits_L4 wd 1300 S 0 0 with | S4 => (((zAt (S4 18) 30 0) &&& (S4 36 8)), S4))
def Sf_Finder_hits (wd : Nat) (S : (Nat → Nat → Int32)) : Prop := (Sf_Finder_hits_L4 wd 1300 S 0 0 ∧ True)
theorem c_Finder_hits_28 (T' : Nat → Nat × Nat) (G' : Nat → Nat → Option Nat) (S : (Nat → Nat → Int32)) (n : Nat) (hs : Sf_Finder_hits 28 S) : z_Run rm_Finder_hits zm_Finder_hits [z_r 17] (zW T' (zwG G' 28) S n) (zq (some (.inl (F_Finder_hits 28 S).1)) (zW T' (zwG G' 28) (F_Finder_hits 28 S).2 n)) := by
  refine z_body (by decide) zf_Finder_ok (Nat.le_of_ble_eq_true rfl) (fun X M => ?_)
  obtain ⟨Q, hQ, K⟩ : ∃ Q : (Int32 × (Nat → Nat → Int32)) → Prop, (∀ v S', Q (v, S') → zq (some (.inl (F_Finder_hits 28 S).1)) (zW T' (zwG G' 28) (F_Finder_hits 28 S).2 n) (some (.inl v)) (zW T' (zwG G' 28) S' n)) ∧ Q (F_Finder_hits 28 S) := ⟨fun o => F_Finder_hits 28 S = o, fun v S' h => ⟨by rw [h], by rw [h]⟩, rfl⟩
  show z_G X zm_Finder_hits (0, [(0, z_r 17)], [], zW T' (zwG G' 28) S n, 0, 0)
  unfold F_Finder_hits at K
  unfold Sf_Finder_hits at hs
  try simp only [Nat.reduceAdd] at K hs
  refine z_go2 M.1 0 [(.iconst 0, 1), (.istore_n 1, 1), (.iconst 0, 1), (.istore_n 2, 1)] (4, [(2, .inl 0), (1, .inl 0), (0, z_r 17)], [], zW T' (zwG G' 28) S n, 0, 0) (by decide +kernel) rfl ⟨trivial, trivial, trivial, trivial, trivial⟩ ?_
  refine z_lvs (lv' := [(0, z_r 17), (1, .inl 0), (2, .inl 0)]) [2, 1, 0] rfl ?_
  refine t_Finder_hits_L4_28 M (Q := fun o => F_Finder_hits_L4 28 1300 S 0 0 = o) (fun S4 hL4 => ?_) 1300 S 0 0 rfl hs.1
  replace hs := hs.2
  rw [hL4] at K
  try dsimp only at K
  refine z_go2 M.1 164 [(.aload_n 0, 1), (.getfield 9, 3), (.iconst 0, 1)] (169, [(0, z_r 17)], [.inl 0, z_r 18], zW T' (zwG G' 28) S4 n, 0, 0) (by decide +kernel) rfl ⟨trivial, rfl, trivial, trivial⟩ ?_
  refine z_callS M.1 (av := [z_r 18, .inl 0]) (st := []) (by decide +kernel) (c_at (zW T' (zwG G' 28) S4 n) 18 30 rfl (by decide) 0) M.2.1 zl_Finder_43 zs_T_at ⟨by decide, by decide, by decide, by decide⟩ rfl (Nat.le_of_ble_eq_true rfl) (fun v w' hv => ?_)
  obtain ⟨rfl, rfl⟩ := hv
  show z_G X zm_Finder_hits (172, [(0, z_r 17)], [.inl (zAt (S4 18) 30 0)], zW T' (zwG G' 28) S4 n, 0, 0)
  refine z_go2 M.1 172 [(.aload_n 0, 1), (.getfield 32, 3), (.getfield 66, 3), (.iand, 1)] (180, [(0, z_r 17)], [.inl ((zAt (S4 18) 30 0) &&& (S4 36 8))], zW T' (zwG G' 28) S4 n, 0, 0) (by decide +kernel) rfl ⟨trivial, rfl, rfl, trivial, trivial⟩ ?_
  exact z_iret M (by decide +kernel) .int rfl rfl (by decide) (by decide) (hQ _ _ K)

