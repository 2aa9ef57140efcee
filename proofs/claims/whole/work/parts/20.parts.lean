-- TrackHouse$World.isSame
abbrev rm_World_isSame_10 : Room := zr 1
def F_World_isSame_10_L15 (S : (Nat → Nat → Int32)) : Nat → Int32 → Int32 → (Int32)
  | 0, x2, x3 => x2
  | f + 1, x2, x3 => (if (300 : Int32) ≤ x3 then x2 else (if x2 = 0 then x2 else (if (S 10 (x3).toNatClampNeg) = (zAt (S 14) 300 x3) then ((F_World_isSame_10_L15 S f) 1 (x3 + 1)) else ((F_World_isSame_10_L15 S f) 0 (x3 + 1)))))
def Sf_World_isSame_10_L15 (S : (Nat → Nat → Int32)) : Nat → Int32 → Int32 → Prop
  | 0, _, _ => False
  | f + 1, x2, x3 => (if (300 : Int32) ≤ x3 then True else (if x2 = 0 then True else ((vp_in x3 300) ∧ (if (S 10 (x3).toNatClampNeg) = (zAt (S 14) 300 x3) then ((Sf_World_isSame_10_L15 S f) 1 (x3 + 1)) else ((Sf_World_isSame_10_L15 S f) 0 (x3 + 1))))))
theorem t_World_isSame_10_L15 {X : z_X} {Post : Option z_V → z_W → Prop} (M : z_M X zm_World_isSame rm_World_isSame_10 Post) {T' : Nat → Nat × Nat} {G' : Nat → Nat → Option Nat} {n : Nat} {Q : (Int32) → Prop} (S : (Nat → Nat → Int32))  (hE : ∀ (y2 : Int32), Q y2 → z_G X zm_World_isSame (48, [(2, .inl y2)], [], zW T' G' S n, 0, 0)) (f : Nat) : ∀ (x2 : Int32) (x3 : Int32), Q (F_World_isSame_10_L15 S f x2 x3) → Sf_World_isSame_10_L15 S f x2 x3 → z_G X zm_World_isSame (15, [(0, z_r 10), (1, z_r 14), (2, .inl x2), (3, .inl x3)], [], zW T' G' S n, 0, 0) := by
  induction f with
  | zero => intro x2 x3 K hs; exact False.elim hs
  | succ f hC =>
    intro x2 x3 K hs
    rw [F_World_isSame_10_L15] at K
    rw [Sf_World_isSame_10_L15] at hs
    refine z_go2 M.1 15 [(.iload_n 3, 1), (.aload_n 0, 1), (.arraylength, 1)] (18, [(0, z_r 10), (1, z_r 14), (2, .inl x2), (3, .inl x3)], [.inl 300, .inl x3], zW T' G' S n, 0, 0) (by decide +kernel) rfl ⟨trivial, trivial, rfl, trivial⟩ ?_
    refine z_icmp_ge 48 M.1 (off := 30) (by decide +kernel) (by decide) (fun c18 => ?_) (fun c18 => ?_)
    · rw [if_pos c18] at K hs
      exact z_lvs (lv' := [(2, .inl x2)]) [2] rfl (hE x2 K)
    · rw [if_neg c18] at K hs
      refine z_go2 M.1 21 [(.iload_n 2, 1)] (22, [(0, z_r 10), (1, z_r 14), (2, .inl x2), (3, .inl x3)], [.inl x2], zW T' G' S n, 0, 0) (by decide +kernel) rfl ⟨trivial, trivial⟩ ?_
      refine z_if_eq 48 M.1 (off := 26) (by decide +kernel) (by decide) (fun c22 => ?_) (fun c22 => ?_)
      · rw [if_pos c22] at K hs
        exact z_lvs (lv' := [(2, .inl x2)]) [2] rfl (hE x2 K)
      · rw [if_neg c22] at K hs
        refine z_go2 M.1 25 [(.aload_n 0, 1), (.iload_n 3, 1), (.iaload, 1), (.aload_n 1, 1), (.iload_n 3, 1)] (30, [(0, z_r 10), (1, z_r 14), (2, .inl x2), (3, .inl x3)], [.inl x3, z_r 14, .inl (S 10 (x3).toNatClampNeg)], zW T' G' S n, 0, 0) (by decide +kernel) rfl ⟨trivial, trivial, ⟨rfl, hs.1⟩, trivial, trivial, trivial⟩ ?_
        replace hs := hs.2
        refine z_callS M.1 (av := [z_r 14, .inl x3]) (st := [.inl (S 10 (x3).toNatClampNeg)]) (by decide +kernel) (c_at (zW T' G' S n) 14 300 rfl (by decide) x3) M.2.1 zl_World_37 zs_T_at ⟨by decide, by decide, by decide, by decide⟩ rfl (Nat.le_of_ble_eq_true rfl) (fun v w' hv => ?_)
        obtain ⟨rfl, rfl⟩ := hv
        show z_G X zm_World_isSame (33, [(0, z_r 10), (1, z_r 14), (2, .inl x2), (3, .inl x3)], [.inl (zAt (S 14) 300 x3), .inl (S 10 (x3).toNatClampNeg)], zW T' G' S n, 0, 0)
        refine z_icmp_ne 40 M.1 (off := 7) (by decide +kernel) (by decide) (fun c33 => ?_) (fun c33 => ?_)
        · rw [if_neg c33] at K hs
          refine z_go2 M.1 40 [(.iconst 0, 1), (.istore_n 2, 1), (.iinc 3 1, 3), (.goto (-30), 3)] (15, [(3, .inl (x3 + 1)), (2, .inl 0), (0, z_r 10), (1, z_r 14)], [], zW T' G' S n, 0, 0) (by decide +kernel) rfl ⟨trivial, trivial, trivial, trivial, trivial⟩ ?_
          exact z_lvs (lv' := [(0, z_r 10), (1, z_r 14), (2, .inl 0), (3, .inl (x3 + 1))]) [2, 3, 1, 0] rfl (hC 0 (x3 + 1) K hs)
        · rw [if_pos c33] at K hs
          refine z_go2 M.1 36 [(.iconst 1, 1), (.goto 4, 3), (.istore_n 2, 1), (.iinc 3 1, 3), (.goto (-30), 3)] (15, [(3, .inl (x3 + 1)), (2, .inl 1), (0, z_r 10), (1, z_r 14)], [], zW T' G' S n, 0, 0) (by decide +kernel) rfl ⟨trivial, trivial, trivial, trivial, trivial, trivial⟩ ?_
          exact z_lvs (lv' := [(0, z_r 10), (1, z_r 14), (2, .inl 1), (3, .inl (x3 + 1))]) [2, 3, 1, 0] rfl (hC 1 (x3 + 1) K hs)
def F_World_isSame_10_j12 (S : (Nat → Nat → Int32)) (s0 : Int32) : Int32 := (match F_World_isSame_10_L15 S 1300 s0 0 with | y2_15 => y2_15)
def Sf_World_isSame_10_j12 (S : (Nat → Nat → Int32)) (s0 : Int32) : Prop := (Sf_World_isSame_10_L15 S 1300 s0 0 ∧ (match F_World_isSame_10_L15 S 1300 s0 0 with | y2_15 => (narrow .boolean (.int y2_15) = .int y2_15 ∧ True)))
theorem t_World_isSame_10_j12 {X : z_X} {Post : Option z_V → z_W → Prop} (M : z_M X zm_World_isSame rm_World_isSame_10 Post) {T' : Nat → Nat × Nat} {G' : Nat → Nat → Option Nat} {n : Nat} {Q : Int32 → Prop} (S : (Nat → Nat → Int32)) (s0 : Int32) (hQ : ∀ v, Q v → Post (some (.inl v)) (zW T' G' S n)) (K : Q (F_World_isSame_10_j12 S s0)) (hs : Sf_World_isSame_10_j12 S s0) : z_G X zm_World_isSame (12, [(0, z_r 10), (1, z_r 14)], [.inl s0], zW T' G' S n, 0, 0) := by
  unfold F_World_isSame_10_j12 at K
  unfold Sf_World_isSame_10_j12 at hs
  refine z_go2 M.1 12 [(.istore_n 2, 1), (.iconst 0, 1), (.istore_n 3, 1)] (15, [(3, .inl 0), (2, .inl s0), (0, z_r 10), (1, z_r 14)], [], zW T' G' S n, 0, 0) (by decide +kernel) rfl ⟨trivial, trivial, trivial, trivial⟩ ?_
  refine z_lvs (lv' := [(0, z_r 10), (1, z_r 14), (2, .inl s0), (3, .inl 0)]) [2, 3, 1, 0] rfl ?_
  refine t_World_isSame_10_L15 M (Q := fun o => F_World_isSame_10_L15 S 1300 s0 0 = o) S (fun y2_15 hL15 => ?_) 1300 s0 0 rfl hs.1
  replace hs := hs.2
  rw [hL15] at K hs
  try dsimp only at K hs
  refine z_go2 M.1 48 [(.iload_n 2, 1)] (49, [(2, .inl y2_15)], [.inl y2_15], zW T' G' S n, 0, 0) (by decide +kernel) rfl ⟨trivial, trivial⟩ ?_
  exact z_iret M (by decide +kernel) .boolean rfl hs.1 (by decide) (by decide) (hQ _ K)
def F_World_isSame_10 (S : (Nat → Nat → Int32)) : Int32 := (if (300 : Int32) = 300 then (F_World_isSame_10_j12 S 1) else (F_World_isSame_10_j12 S 0))
def Sf_World_isSame_10 (S : (Nat → Nat → Int32)) : Prop := (if (300 : Int32) = 300 then (Sf_World_isSame_10_j12 S 1) else (Sf_World_isSame_10_j12 S 0))
theorem c_World_isSame_10 (T' : Nat → Nat × Nat) (G' : Nat → Nat → Option Nat) (S : (Nat → Nat → Int32)) (n : Nat) (hs : Sf_World_isSame_10 S) : z_Run rm_World_isSame_10 zm_World_isSame [z_r 10, z_r 14] (zW T' G' S n) (zq (some (.inl (F_World_isSame_10 S))) (zW T' G' S n)) := by
  refine z_body (by decide) zf_World_ok (Nat.le_of_ble_eq_true rfl) (fun X M => ?_)
  obtain ⟨Q, hQ, K⟩ : ∃ Q : Int32 → Prop, (∀ v, Q v → zq (some (.inl (F_World_isSame_10 S))) (zW T' G' S n) (some (.inl v)) (zW T' G' S n)) ∧ Q (F_World_isSame_10 S) := ⟨fun o => F_World_isSame_10 S = o, fun v h => ⟨by rw [h], rfl⟩, rfl⟩
  show z_G X zm_World_isSame (0, [(0, z_r 10), (1, z_r 14)], [], zW T' G' S n, 0, 0)
  unfold F_World_isSame_10 at K
  unfold Sf_World_isSame_10 at hs
  refine z_go2 M.1 0 [(.aload_n 0, 1), (.arraylength, 1), (.aload_n 1, 1), (.arraylength, 1)] (4, [(0, z_r 10), (1, z_r 14)], [.inl 300, .inl 300], zW T' G' S n, 0, 0) (by decide +kernel) rfl ⟨trivial, rfl, trivial, rfl, trivial⟩ ?_
  refine z_icmp_ne 11 M.1 (off := 7) (by decide +kernel) (by decide) (fun c4 => ?_) (fun c4 => ?_)
  · rw [if_neg c4] at K hs
    refine z_go2 M.1 11 [(.iconst 0, 1)] (12, [(0, z_r 10), (1, z_r 14)], [.inl 0], zW T' G' S n, 0, 0) (by decide +kernel) rfl ⟨trivial, trivial⟩ ?_
    exact z_lvs (lv' := [(0, z_r 10), (1, z_r 14)]) [0, 1] rfl (t_World_isSame_10_j12 M S 0 hQ K hs)
  · rw [if_pos c4] at K hs
    refine z_go2 M.1 7 [(.iconst 1, 1), (.goto 4, 3)] (12, [(0, z_r 10), (1, z_r 14)], [.inl 1], zW T' G' S n, 0, 0) (by decide +kernel) rfl ⟨trivial, trivial, trivial⟩ ?_
    exact z_lvs (lv' := [(0, z_r 10), (1, z_r 14)]) [0, 1] rfl (t_World_isSame_10_j12 M S 1 hQ K hs)

-- TrackHouse$World.isSame
abbrev rm_World_isSame_11 : Room := zr 1
def F_World_isSame_11_L15 (S : (Nat → Nat → Int32)) : Nat → Int32 → Int32 → (Int32)
  | 0, x2, x3 => x2
  | f + 1, x2, x3 => (if (90 : Int32) ≤ x3 then x2 else (if x2 = 0 then x2 else (if (S 11 (x3).toNatClampNeg) = (zAt (S 15) 90 x3) then ((F_World_isSame_11_L15 S f) 1 (x3 + 1)) else ((F_World_isSame_11_L15 S f) 0 (x3 + 1)))))
def Sf_World_isSame_11_L15 (S : (Nat → Nat → Int32)) : Nat → Int32 → Int32 → Prop
  | 0, _, _ => False
  | f + 1, x2, x3 => (if (90 : Int32) ≤ x3 then True else (if x2 = 0 then True else ((vp_in x3 90) ∧ (if (S 11 (x3).toNatClampNeg) = (zAt (S 15) 90 x3) then ((Sf_World_isSame_11_L15 S f) 1 (x3 + 1)) else ((Sf_World_isSame_11_L15 S f) 0 (x3 + 1))))))
theorem t_World_isSame_11_L15 {X : z_X} {Post : Option z_V → z_W → Prop} (M : z_M X zm_World_isSame rm_World_isSame_11 Post) {T' : Nat → Nat × Nat} {G' : Nat → Nat → Option Nat} {n : Nat} {Q : (Int32) → Prop} (S : (Nat → Nat → Int32))  (hE : ∀ (y2 : Int32), Q y2 → z_G X zm_World_isSame (48, [(2, .inl y2)], [], zW T' G' S n, 0, 0)) (f : Nat) : ∀ (x2 : Int32) (x3 : Int32), Q (F_World_isSame_11_L15 S f x2 x3) → Sf_World_isSame_11_L15 S f x2 x3 → z_G X zm_World_isSame (15, [(0, z_r 11), (1, z_r 15), (2, .inl x2), (3, .inl x3)], [], zW T' G' S n, 0, 0) := by
  induction f with
  | zero => intro x2 x3 K hs; exact False.elim hs
  | succ f hC =>
    intro x2 x3 K hs
    rw [F_World_isSame_11_L15] at K
    rw [Sf_World_isSame_11_L15] at hs
    refine z_go2 M.1 15 [(.iload_n 3, 1), (.aload_n 0, 1), (.arraylength, 1)] (18, [(0, z_r 11), (1, z_r 15), (2, .inl x2), (3, .inl x3)], [.inl 90, .inl x3], zW T' G' S n, 0, 0) (by decide +kernel) rfl ⟨trivial, trivial, rfl, trivial⟩ ?_
    refine z_icmp_ge 48 M.1 (off := 30) (by decide +kernel) (by decide) (fun c18 => ?_) (fun c18 => ?_)
    · rw [if_pos c18] at K hs
      exact z_lvs (lv' := [(2, .inl x2)]) [2] rfl (hE x2 K)
    · rw [if_neg c18] at K hs
      refine z_go2 M.1 21 [(.iload_n 2, 1)] (22, [(0, z_r 11), (1, z_r 15), (2, .inl x2), (3, .inl x3)], [.inl x2], zW T' G' S n, 0, 0) (by decide +kernel) rfl ⟨trivial, trivial⟩ ?_
      refine z_if_eq 48 M.1 (off := 26) (by decide +kernel) (by decide) (fun c22 => ?_) (fun c22 => ?_)
      · rw [if_pos c22] at K hs
        exact z_lvs (lv' := [(2, .inl x2)]) [2] rfl (hE x2 K)
      · rw [if_neg c22] at K hs
        refine z_go2 M.1 25 [(.aload_n 0, 1), (.iload_n 3, 1), (.iaload, 1), (.aload_n 1, 1), (.iload_n 3, 1)] (30, [(0, z_r 11), (1, z_r 15), (2, .inl x2), (3, .inl x3)], [.inl x3, z_r 15, .inl (S 11 (x3).toNatClampNeg)], zW T' G' S n, 0, 0) (by decide +kernel) rfl ⟨trivial, trivial, ⟨rfl, hs.1⟩, trivial, trivial, trivial⟩ ?_
        replace hs := hs.2
        refine z_callS M.1 (av := [z_r 15, .inl x3]) (st := [.inl (S 11 (x3).toNatClampNeg)]) (by decide +kernel) (c_at (zW T' G' S n) 15 90 rfl (by decide) x3) M.2.1 zl_World_37 zs_T_at ⟨by decide, by decide, by decide, by decide⟩ rfl (Nat.le_of_ble_eq_true rfl) (fun v w' hv => ?_)
        obtain ⟨rfl, rfl⟩ := hv
        show z_G X zm_World_isSame (33, [(0, z_r 11), (1, z_r 15), (2, .inl x2), (3, .inl x3)], [.inl (zAt (S 15) 90 x3), .inl (S 11 (x3).toNatClampNeg)], zW T' G' S n, 0, 0)
        refine z_icmp_ne 40 M.1 (off := 7) (by decide +kernel) (by decide) (fun c33 => ?_) (fun c33 => ?_)
        · rw [if_neg c33] at K hs
          refine z_go2 M.1 40 [(.iconst 0, 1), (.istore_n 2, 1), (.iinc 3 1, 3), (.goto (-30), 3)] (15, [(3, .inl (x3 + 1)), (2, .inl 0), (0, z_r 11), (1, z_r 15)], [], zW T' G' S n, 0, 0) (by decide +kernel) rfl ⟨trivial, trivial, trivial, trivial, trivial⟩ ?_
          exact z_lvs (lv' := [(0, z_r 11), (1, z_r 15), (2, .inl 0), (3, .inl (x3 + 1))]) [2, 3, 1, 0] rfl (hC 0 (x3 + 1) K hs)
        · rw [if_pos c33] at K hs
          refine z_go2 M.1 36 [(.iconst 1, 1), (.goto 4, 3), (.istore_n 2, 1), (.iinc 3 1, 3), (.goto (-30), 3)] (15, [(3, .inl (x3 + 1)), (2, .inl 1), (0, z_r 11), (1, z_r 15)], [], zW T' G' S n, 0, 0) (by decide +kernel) rfl ⟨trivial, trivial, trivial, trivial, trivial, trivial⟩ ?_
          exact z_lvs (lv' := [(0, z_r 11), (1, z_r 15), (2, .inl 1), (3, .inl (x3 + 1))]) [2, 3, 1, 0] rfl (hC 1 (x3 + 1) K hs)
def F_World_isSame_11_j12 (S : (Nat → Nat → Int32)) (s0 : Int32) : Int32 := (match F_World_isSame_11_L15 S 1300 s0 0 with | y2_15 => y2_15)
def Sf_World_isSame_11_j12 (S : (Nat → Nat → Int32)) (s0 : Int32) : Prop := (Sf_World_isSame_11_L15 S 1300 s0 0 ∧ (match F_World_isSame_11_L15 S 1300 s0 0 with | y2_15 => (narrow .boolean (.int y2_15) = .int y2_15 ∧ True)))
theorem t_World_isSame_11_j12 {X : z_X} {Post : Option z_V → z_W → Prop} (M : z_M X zm_World_isSame rm_World_isSame_11 Post) {T' : Nat → Nat × Nat} {G' : Nat → Nat → Option Nat} {n : Nat} {Q : Int32 → Prop} (S : (Nat → Nat → Int32)) (s0 : Int32) (hQ : ∀ v, Q v → Post (some (.inl v)) (zW T' G' S n)) (K : Q (F_World_isSame_11_j12 S s0)) (hs : Sf_World_isSame_11_j12 S s0) : z_G X zm_World_isSame (12, [(0, z_r 11), (1, z_r 15)], [.inl s0], zW T' G' S n, 0, 0) := by
  unfold F_World_isSame_11_j12 at K
  unfold Sf_World_isSame_11_j12 at hs
  refine z_go2 M.1 12 [(.istore_n 2, 1), (.iconst 0, 1), (.istore_n 3, 1)] (15, [(3, .inl 0), (2, .inl s0), (0, z_r 11), (1, z_r 15)], [], zW T' G' S n, 0, 0) (by decide +kernel) rfl ⟨trivial, trivial, trivial, trivial⟩ ?_
  refine z_lvs (lv' := [(0, z_r 11), (1, z_r 15), (2, .inl s0), (3, .inl 0)]) [2, 3, 1, 0] rfl ?_
  refine t_World_isSame_11_L15 M (Q := fun o => F_World_isSame_11_L15 S 1300 s0 0 = o) S (fun y2_15 hL15 => ?_) 1300 s0 0 rfl hs.1
  replace hs := hs.2
  rw [hL15] at K hs
  try dsimp only at K hs
  refine z_go2 M.1 48 [(.iload_n 2, 1)] (49, [(2, .inl y2_15)], [.inl y2_15], zW T' G' S n, 0, 0) (by decide +kernel) rfl ⟨trivial, trivial⟩ ?_
  exact z_iret M (by decide +kernel) .boolean rfl hs.1 (by decide) (by decide) (hQ _ K)
def F_World_isSame_11 (S : (Nat → Nat → Int32)) : Int32 := (if (90 : Int32) = 90 then (F_World_isSame_11_j12 S 1) else (F_World_isSame_11_j12 S 0))
def Sf_World_isSame_11 (S : (Nat → Nat → Int32)) : Prop := (if (90 : Int32) = 90 then (Sf_World_isSame_11_j12 S 1) else (Sf_World_isSame_11_j12 S 0))
theorem c_World_isSame_11 (T' : Nat → Nat × Nat) (G' : Nat → Nat → Option Nat) (S : (Nat → Nat → Int32)) (n : Nat) (hs : Sf_World_isSame_11 S) : z_Run rm_World_isSame_11 zm_World_isSame [z_r 11, z_r 15] (zW T' G' S n) (zq (some (.inl (F_World_isSame_11 S))) (zW T' G' S n)) := by
  refine z_body (by decide) zf_World_ok (Nat.le_of_ble_eq_true rfl) (fun X M => ?_)
  obtain ⟨Q, hQ, K⟩ : ∃ Q : Int32 → Prop, (∀ v, Q v → zq (some (.inl (F_World_isSame_11 S))) (zW T' G' S n) (some (.inl v)) (zW T' G' S n)) ∧ Q (F_World_isSame_11 S) := ⟨fun o => F_World_isSame_11 S = o, fun v h => ⟨by rw [h], rfl⟩, rfl⟩
  show z_G X zm_World_isSame (0, [(0, z_r 11), (1, z_r 15)], [], zW T' G' S n, 0, 0)
  unfold F_World_isSame_11 at K
  unfold Sf_World_isSame_11 at hs
  refine z_go2 M.1 0 [(.aload_n 0, 1), (.arraylength, 1), (.aload_n 1, 1), (.arraylength, 1)] (4, [(0, z_r 11), (1, z_r 15)], [.inl 90, .inl 90], zW T' G' S n, 0, 0) (by decide +kernel) rfl ⟨trivial, rfl, trivial, rfl, trivial⟩ ?_
  refine z_icmp_ne 11 M.1 (off := 7) (by decide +kernel) (by decide) (fun c4 => ?_) (fun c4 => ?_)
  · rw [if_neg c4] at K hs
    refine z_go2 M.1 11 [(.iconst 0, 1)] (12, [(0, z_r 11), (1, z_r 15)], [.inl 0], zW T' G' S n, 0, 0) (by decide +kernel) rfl ⟨trivial, trivial⟩ ?_
    exact z_lvs (lv' := [(0, z_r 11), (1, z_r 15)]) [0, 1] rfl (t_World_isSame_11_j12 M S 0 hQ K hs)
  · rw [if_pos c4] at K hs
    refine z_go2 M.1 7 [(.iconst 1, 1), (.goto 4, 3)] (12, [(0, z_r 11), (1, z_r 15)], [.inl 1], zW T' G' S n, 0, 0) (by decide +kernel) rfl ⟨trivial, trivial, trivial⟩ ?_
    exact z_lvs (lv' := [(0, z_r 11), (1, z_r 15)]) [0, 1] rfl (t_World_isSame_11_j12 M S 1 hQ K hs)

-- TrackHouse$World.isSame
abbrev rm_World_isSame_12 : Room := zr 1
def F_World_isSame_12_L15 (S : (Nat → Nat → Int32)) : Nat → Int32 → Int32 → (Int32)
  | 0, x2, x3 => x2
  | f + 1, x2, x3 => (if (24 : Int32) ≤ x3 then x2 else (if x2 = 0 then x2 else (if (S 12 (x3).toNatClampNeg) = (zAt (S 16) 24 x3) then ((F_World_isSame_12_L15 S f) 1 (x3 + 1)) else ((F_World_isSame_12_L15 S f) 0 (x3 + 1)))))
def Sf_World_isSame_12_L15 (S : (Nat → Nat → Int32)) : Nat → Int32 → Int32 → Prop
  | 0, _, _ => False
  | f + 1, x2, x3 => (if (24 : Int32) ≤ x3 then True else (if x2 = 0 then True else ((vp_in x3 24) ∧ (if (S 12 (x3).toNatClampNeg) = (zAt (S 16) 24 x3) then ((Sf_World_isSame_12_L15 S f) 1 (x3 + 1)) else ((Sf_World_isSame_12_L15 S f) 0 (x3 + 1))))))
theorem t_World_isSame_12_L15 {X : z_X} {Post : Option z_V → z_W → Prop} (M : z_M X zm_World_isSame rm_World_isSame_12 Post) {T' : Nat → Nat × Nat} {G' : Nat → Nat → Option Nat} {n : Nat} {Q : (Int32) → Prop} (S : (Nat → Nat → Int32))  (hE : ∀ (y2 : Int32), Q y2 → z_G X zm_World_isSame (48, [(2, .inl y2)], [], zW T' G' S n, 0, 0)) (f : Nat) : ∀ (x2 : Int32) (x3 : Int32), Q (F_World_isSame_12_L15 S f x2 x3) → Sf_World_isSame_12_L15 S f x2 x3 → z_G X zm_World_isSame (15, [(0, z_r 12), (1, z_r 16), (2, .inl x2), (3, .inl x3)], [], zW T' G' S n, 0, 0) := by
  induction f with
  | zero => intro x2 x3 K hs; exact False.elim hs
  | succ f hC =>
    intro x2 x3 K hs
    rw [F_World_isSame_12_L15] at K
    rw [Sf_World_isSame_12_L15] at hs
    refine z_go2 M.1 15 [(.iload_n 3, 1), (.aload_n 0, 1), (.arraylength, 1)] (18, [(0, z_r 12), (1, z_r 16), (2, .inl x2), (3, .inl x3)], [.inl 24, .inl x3], zW T' G' S n, 0, 0) (by decide +kernel) rfl ⟨trivial, trivial, rfl, trivial⟩ ?_
    refine z_icmp_ge 48 M.1 (off := 30) (by decide +kernel) (by decide) (fun c18 => ?_) (fun c18 => ?_)
    · rw [if_pos c18] at K hs
      exact z_lvs (lv' := [(2, .inl x2)]) [2] rfl (hE x2 K)
    · rw [if_neg c18] at K hs
      refine z_go2 M.1 21 [(.iload_n 2, 1)] (22, [(0, z_r 12), (1, z_r 16), (2, .inl x2), (3, .inl x3)], [.inl x2], zW T' G' S n, 0, 0) (by decide +kernel) rfl ⟨trivial, trivial⟩ ?_
      refine z_if_eq 48 M.1 (off := 26) (by decide +kernel) (by decide) (fun c22 => ?_) (fun c22 => ?_)
      · rw [if_pos c22] at K hs
        exact z_lvs (lv' := [(2, .inl x2)]) [2] rfl (hE x2 K)
      · rw [if_neg c22] at K hs
        refine z_go2 M.1 25 [(.aload_n 0, 1), (.iload_n 3, 1), (.iaload, 1), (.aload_n 1, 1), (.iload_n 3, 1)] (30, [(0, z_r 12), (1, z_r 16), (2, .inl x2), (3, .inl x3)], [.inl x3, z_r 16, .inl (S 12 (x3).toNatClampNeg)], zW T' G' S n, 0, 0) (by decide +kernel) rfl ⟨trivial, trivial, ⟨rfl, hs.1⟩, trivial, trivial, trivial⟩ ?_
        replace hs := hs.2
        refine z_callS M.1 (av := [z_r 16, .inl x3]) (st := [.inl (S 12 (x3).toNatClampNeg)]) (by decide +kernel) (c_at (zW T' G' S n) 16 24 rfl (by decide) x3) M.2.1 zl_World_37 zs_T_at ⟨by decide, by decide, by decide, by decide⟩ rfl (Nat.le_of_ble_eq_true rfl) (fun v w' hv => ?_)
        obtain ⟨rfl, rfl⟩ := hv
        show z_G X zm_World_isSame (33, [(0, z_r 12), (1, z_r 16), (2, .inl x2), (3, .inl x3)], [.inl (zAt (S 16) 24 x3), .inl (S 12 (x3).toNatClampNeg)], zW T' G' S n, 0, 0)
        refine z_icmp_ne 40 M.1 (off := 7) (by decide +kernel) (by decide) (fun c33 => ?_) (fun c33 => ?_)
        · rw [if_neg c33] at K hs
          refine z_go2 M.1 40 [(.iconst 0, 1), (.istore_n 2, 1), (.iinc 3 1, 3), (.goto (-30), 3)] (15, [(3, .inl (x3 + 1)), (2, .inl 0), (0, z_r 12), (1, z_r 16)], [], zW T' G' S n, 0, 0) (by decide +kernel) rfl ⟨trivial, trivial, trivial, trivial, trivial⟩ ?_
          exact z_lvs (lv' := [(0, z_r 12), (1, z_r 16), (2, .inl 0), (3, .inl (x3 + 1))]) [2, 3, 1, 0] rfl (hC 0 (x3 + 1) K hs)
        · rw [if_pos c33] at K hs
          refine z_go2 M.1 36 [(.iconst 1, 1), (.goto 4, 3), (.istore_n 2, 1), (.iinc 3 1, 3), (.goto (-30), 3)] (15, [(3, .inl (x3 + 1)), (2, .inl 1), (0, z_r 12), (1, z_r 16)], [], zW T' G' S n, 0, 0) (by decide +kernel) rfl ⟨trivial, trivial, trivial, trivial, trivial, trivial⟩ ?_
          exact z_lvs (lv' := [(0, z_r 12), (1, z_r 16), (2, .inl 1), (3, .inl (x3 + 1))]) [2, 3, 1, 0] rfl (hC 1 (x3 + 1) K hs)
def F_World_isSame_12_j12 (S : (Nat → Nat → Int32)) (s0 : Int32) : Int32 := (match F_World_isSame_12_L15 S 1300 s0 0 with | y2_15 => y2_15)
def Sf_World_isSame_12_j12 (S : (Nat → Nat → Int32)) (s0 : Int32) : Prop := (Sf_World_isSame_12_L15 S 1300 s0 0 ∧ (match F_World_isSame_12_L15 S 1300 s0 0 with | y2_15 => (narrow .boolean (.int y2_15) = .int y2_15 ∧ True)))
theorem t_World_isSame_12_j12 {X : z_X} {Post : Option z_V → z_W → Prop} (M : z_M X zm_World_isSame rm_World_isSame_12 Post) {T' : Nat → Nat × Nat} {G' : Nat → Nat → Option Nat} {n : Nat} {Q : Int32 → Prop} (S : (Nat → Nat → Int32)) (s0 : Int32) (hQ : ∀ v, Q v → Post (some (.inl v)) (zW T' G' S n)) (K : Q (F_World_isSame_12_j12 S s0)) (hs : Sf_World_isSame_12_j12 S s0) : z_G X zm_World_isSame (12, [(0, z_r 12), (1, z_r 16)], [.inl s0], zW T' G' S n, 0, 0) := by
  unfold F_World_isSame_12_j12 at K
  unfold Sf_World_isSame_12_j12 at hs
  refine z_go2 M.1 12 [(.istore_n 2, 1), (.iconst 0, 1), (.istore_n 3, 1)] (15, [(3, .inl 0), (2, .inl s0), (0, z_r 12), (1, z_r 16)], [], zW T' G' S n, 0, 0) (by decide +kernel) rfl ⟨trivial, trivial, trivial, trivial⟩ ?_
  refine z_lvs (lv' := [(0, z_r 12), (1, z_r 16), (2, .inl s0), (3, .inl 0)]) [2, 3, 1, 0] rfl ?_
  refine t_World_isSame_12_L15 M (Q := fun o => F_World_isSame_12_L15 S 1300 s0 0 = o) S (fun y2_15 hL15 => ?_) 1300 s0 0 rfl hs.1
  replace hs := hs.2
  rw [hL15] at K hs
  try dsimp only at K hs
  refine z_go2 M.1 48 [(.iload_n 2, 1)] (49, [(2, .inl y2_15)], [.inl y2_15], zW T' G' S n, 0, 0) (by decide +kernel) rfl ⟨trivial, trivial⟩ ?_
  exact z_iret M (by decide +kernel) .boolean rfl hs.1 (by decide) (by decide) (hQ _ K)
def F_World_isSame_12 (S : (Nat → Nat → Int32)) : Int32 := (if (24 : Int32) = 24 then (F_World_isSame_12_j12 S 1) else (F_World_isSame_12_j12 S 0))
def Sf_World_isSame_12 (S : (Nat → Nat → Int32)) : Prop := (if (24 : Int32) = 24 then (Sf_World_isSame_12_j12 S 1) else (Sf_World_isSame_12_j12 S 0))
theorem c_World_isSame_12 (T' : Nat → Nat × Nat) (G' : Nat → Nat → Option Nat) (S : (Nat → Nat → Int32)) (n : Nat) (hs : Sf_World_isSame_12 S) : z_Run rm_World_isSame_12 zm_World_isSame [z_r 12, z_r 16] (zW T' G' S n) (zq (some (.inl (F_World_isSame_12 S))) (zW T' G' S n)) := by
  refine z_body (by decide) zf_World_ok (Nat.le_of_ble_eq_true rfl) (fun X M => ?_)
  obtain ⟨Q, hQ, K⟩ : ∃ Q : Int32 → Prop, (∀ v, Q v → zq (some (.inl (F_World_isSame_12 S))) (zW T' G' S n) (some (.inl v)) (zW T' G' S n)) ∧ Q (F_World_isSame_12 S) := ⟨fun o => F_World_isSame_12 S = o, fun v h => ⟨by rw [h], rfl⟩, rfl⟩
  show z_G X zm_World_isSame (0, [(0, z_r 12), (1, z_r 16)], [], zW T' G' S n, 0, 0)
  unfold F_World_isSame_12 at K
  unfold Sf_World_isSame_12 at hs
  refine z_go2 M.1 0 [(.aload_n 0, 1), (.arraylength, 1), (.aload_n 1, 1), (.arraylength, 1)] (4, [(0, z_r 12), (1, z_r 16)], [.inl 24, .inl 24], zW T' G' S n, 0, 0) (by decide +kernel) rfl ⟨trivial, rfl, trivial, rfl, trivial⟩ ?_
  refine z_icmp_ne 11 M.1 (off := 7) (by decide +kernel) (by decide) (fun c4 => ?_) (fun c4 => ?_)
  · rw [if_neg c4] at K hs
    refine z_go2 M.1 11 [(.iconst 0, 1)] (12, [(0, z_r 12), (1, z_r 16)], [.inl 0], zW T' G' S n, 0, 0) (by decide +kernel) rfl ⟨trivial, trivial⟩ ?_
    exact z_lvs (lv' := [(0, z_r 12), (1, z_r 16)]) [0, 1] rfl (t_World_isSame_12_j12 M S 0 hQ K hs)
  · rw [if_pos c4] at K hs
    refine z_go2 M.1 7 [(.iconst 1, 1), (.goto 4, 3)] (12, [(0, z_r 12), (1, z_r 16)], [.inl 1], zW T' G' S n, 0, 0) (by decide +kernel) rfl ⟨trivial, trivial, trivial⟩ ?_
    exact z_lvs (lv' := [(0, z_r 12), (1, z_r 16)]) [0, 1] rfl (t_World_isSame_12_j12 M S 1 hQ K hs)

-- TrackHouse$World.isLike
abbrev rm_World_isLike : Room := zr 2
def F_World_isLike_j57 (S : (Nat → Nat → Int32)) : Int32 := 0
theorem t_World_isLike_j57 {X : z_X} {Post : Option z_V → z_W → Prop} (M : z_M X zm_World_isLike rm_World_isLike Post) {T' : Nat → Nat × Nat} {G' : Nat → Nat → Option Nat} {n : Nat} {Q : Int32 → Prop} (S : (Nat → Nat → Int32)) (hQ : ∀ v, Q v → Post (some (.inl v)) (zW T' G' S n)) (K : Q (F_World_isLike_j57 S)) : z_G X zm_World_isLike (57, [], [], zW T' G' S n, 0, 0) := by
  unfold F_World_isLike_j57 at K
  refine z_go2 M.1 57 [(.iconst 0, 1)] (58, [], [.inl 0], zW T' G' S n, 0, 0) (by decide +kernel) rfl ⟨trivial, trivial⟩ ?_
  exact z_iret M (by decide +kernel) .boolean rfl rfl (by decide) (by decide) (hQ _ K)
def F_World_isLike (S : (Nat → Nat → Int32)) : Int32 := (if (S 9 3) = (S 13 3) then (if (F_World_isSame_10 S) = 0 then (F_World_isLike_j57 S) else (if (F_World_isSame_11 S) = 0 then (F_World_isLike_j57 S) else (if (F_World_isSame_12 S) = 0 then (F_World_isLike_j57 S) else 1))) else (F_World_isLike_j57 S))
def Sf_World_isLike (S : (Nat → Nat → Int32)) : Prop := (if (S 9 3) = (S 13 3) then (Sf_World_isSame_10 S ∧ (if (F_World_isSame_10 S) = 0 then True else (Sf_World_isSame_11 S ∧ (if (F_World_isSame_11 S) = 0 then True else (Sf_World_isSame_12 S ∧ True))))) else True)
theorem c_World_isLike (T' : Nat → Nat × Nat) (G' : Nat → Nat → Option Nat) (S : (Nat → Nat → Int32)) (n : Nat) (hs : Sf_World_isLike S) : z_Run rm_World_isLike zm_World_isLike [z_r 9, z_r 13] (zW T' G' S n) (zq (some (.inl (F_World_isLike S))) (zW T' G' S n)) := by
  refine z_body (by decide) zf_World_ok (Nat.le_of_ble_eq_true rfl) (fun X M => ?_)
  obtain ⟨Q, hQ, K⟩ : ∃ Q : Int32 → Prop, (∀ v, Q v → zq (some (.inl (F_World_isLike S))) (zW T' G' S n) (some (.inl v)) (zW T' G' S n)) ∧ Q (F_World_isLike S) := ⟨fun o => F_World_isLike S = o, fun v h => ⟨by rw [h], rfl⟩, rfl⟩
  show z_G X zm_World_isLike (0, [(0, z_r 9), (1, z_r 13)], [], zW T' G' S n, 0, 0)
  unfold F_World_isLike at K
  unfold Sf_World_isLike at hs
  refine z_go2 M.1 0 [(.aload_n 0, 1), (.getfield 21, 3), (.aload_n 1, 1), (.getfield 21, 3)] (8, [(0, z_r 9), (1, z_r 13)], [.inl (S 13 3), .inl (S 9 3)], zW T' G' S n, 0, 0) (by decide +kernel) rfl ⟨trivial, rfl, trivial, rfl, trivial⟩ ?_
  refine z_icmp_ne 57 M.1 (off := 49) (by decide +kernel) (by decide) (fun c8 => ?_) (fun c8 => ?_)
  · rw [if_neg c8] at K hs
    exact z_lvs (lv' := []) [] rfl (t_World_isLike_j57 M S hQ K)
  · rw [if_pos c8] at K hs
    refine z_go2 M.1 11 [(.aload_n 0, 1), (.getfield 9, 3), (.aload_n 1, 1), (.getfield 9, 3)] (19, [(0, z_r 9), (1, z_r 13)], [z_r 14, z_r 10], zW T' G' S n, 0, 0) (by decide +kernel) rfl ⟨trivial, rfl, trivial, rfl, trivial⟩ ?_
    refine z_callS M.1 (av := [z_r 10, z_r 14]) (st := []) (by decide +kernel) (c_World_isSame_10 T' G' S n hs.1) M.2.1 zl_World_98 zs_World_isSame ⟨by decide, by decide, by decide, by decide⟩ rfl (Nat.le_of_ble_eq_true rfl) (fun v w' hv => ?_)
    obtain ⟨rfl, rfl⟩ := hv
    replace hs := hs.2
    show z_G X zm_World_isLike (22, [(0, z_r 9), (1, z_r 13)], [.inl (F_World_isSame_10 S)], zW T' G' S n, 0, 0)
    refine z_if_eq 57 M.1 (off := 35) (by decide +kernel) (by decide) (fun c22 => ?_) (fun c22 => ?_)
    · rw [if_pos c22] at K hs
      exact z_lvs (lv' := []) [] rfl (t_World_isLike_j57 M S hQ K)
    · rw [if_neg c22] at K hs
      refine z_go2 M.1 25 [(.aload_n 0, 1), (.getfield 15, 3), (.aload_n 1, 1), (.getfield 15, 3)] (33, [(0, z_r 9), (1, z_r 13)], [z_r 15, z_r 11], zW T' G' S n, 0, 0) (by decide +kernel) rfl ⟨trivial, rfl, trivial, rfl, trivial⟩ ?_
      refine z_callS M.1 (av := [z_r 11, z_r 15]) (st := []) (by decide +kernel) (c_World_isSame_11 T' G' S n hs.1) M.2.1 zl_World_98 zs_World_isSame ⟨by decide, by decide, by decide, by decide⟩ rfl (Nat.le_of_ble_eq_true rfl) (fun v w' hv => ?_)
      obtain ⟨rfl, rfl⟩ := hv
      replace hs := hs.2
      show z_G X zm_World_isLike (36, [(0, z_r 9), (1, z_r 13)], [.inl (F_World_isSame_11 S)], zW T' G' S n, 0, 0)
      refine z_if_eq 57 M.1 (off := 21) (by decide +kernel) (by decide) (fun c36 => ?_) (fun c36 => ?_)
      · rw [if_pos c36] at K hs
        exact z_lvs (lv' := []) [] rfl (t_World_isLike_j57 M S hQ K)
      · rw [if_neg c36] at K hs
        refine z_go2 M.1 39 [(.aload_n 0, 1), (.getfield 18, 3), (.aload_n 1, 1), (.getfield 18, 3)] (47, [(0, z_r 9), (1, z_r 13)], [z_r 16, z_r 12], zW T' G' S n, 0, 0) (by decide +kernel) rfl ⟨trivial, rfl, trivial, rfl, trivial⟩ ?_
        refine z_callS M.1 (av := [z_r 12, z_r 16]) (st := []) (by decide +kernel) (c_World_isSame_12 T' G' S n hs.1) M.2.1 zl_World_98 zs_World_isSame ⟨by decide, by decide, by decide, by decide⟩ rfl (Nat.le_of_ble_eq_true rfl) (fun v w' hv => ?_)
        obtain ⟨rfl, rfl⟩ := hv
        replace hs := hs.2
        show z_G X zm_World_isLike (50, [(0, z_r 9), (1, z_r 13)], [.inl (F_World_isSame_12 S)], zW T' G' S n, 0, 0)
        refine z_if_eq 57 M.1 (off := 7) (by decide +kernel) (by decide) (fun c50 => ?_) (fun c50 => ?_)
        · rw [if_pos c50] at K
          exact z_lvs (lv' := []) [] rfl (t_World_isLike_j57 M S hQ K)
        · rw [if_neg c50] at K
          refine z_go2 M.1 53 [(.iconst 1, 1), (.goto 4, 3)] (58, [(0, z_r 9), (1, z_r 13)], [.inl 1], zW T' G' S n, 0, 0) (by decide +kernel) rfl ⟨trivial, trivial, trivial⟩ ?_
          exact z_iret M (by decide +kernel) .boolean rfl rfl (by decide) (by decide) (hQ _ K)

-- TrackHouse$Log.add
abbrev rm_Log_add : Room := zr 0
def F_Log_add (S : (Nat → Nat → Int32)) (p1 : Int32) (p2 : Int32) (p3 : Int32) (p4 : Int32) (p5 : Int32) (p6 : Int32) (p7 : Int32) : (Nat → Nat → Int32) := (if (S 1 7) < 0 then S else (if (900 : Int32) ≤ (S 1 7) then S else (z_uS (z_uS (z_uS (z_uS (z_uS (z_uS (z_uS (z_uS S 2 (S 1 7).toNatClampNeg p1) 3 (S 1 7).toNatClampNeg p2) 4 (S 1 7).toNatClampNeg p3) 5 (S 1 7).toNatClampNeg p4) 6 (S 1 7).toNatClampNeg p5) 7 (S 1 7).toNatClampNeg p6) 8 (S 1 7).toNatClampNeg p7) 1 7 ((S 1 7) + 1))))
def Sf_Log_add (S : (Nat → Nat → Int32)) (p1 : Int32) (p2 : Int32) (p3 : Int32) (p4 : Int32) (p5 : Int32) (p6 : Int32) (p7 : Int32) : Prop := (if (S 1 7) < 0 then True else (if (900 : Int32) ≤ (S 1 7) then True else ((vp_in (S 1 7) 900) ∧ ((vp_in (S 1 7) 900) ∧ ((vp_in (S 1 7) 900) ∧ ((vp_in (S 1 7) 900) ∧ ((vp_in (S 1 7) 900) ∧ ((vp_in (S 1 7) 900) ∧ ((vp_in (S 1 7) 900) ∧ True)))))))))
theorem c_Log_add (T' : Nat → Nat × Nat) (G' : Nat → Nat → Option Nat) (S : (Nat → Nat → Int32)) (n : Nat) (p1 : Int32) (p2 : Int32) (p3 : Int32) (p4 : Int32) (p5 : Int32) (p6 : Int32) (p7 : Int32) (hs : Sf_Log_add S p1 p2 p3 p4 p5 p6 p7) : z_Run rm_Log_add zm_Log_add [z_r 1, .inl p1, .inl p2, .inl p3, .inl p4, .inl p5, .inl p6, .inl p7] (zW T' G' S n) (zq none (zW T' G' (F_Log_add S p1 p2 p3 p4 p5 p6 p7) n)) := by
  refine z_body (by decide) zf_Log_ok (Nat.le_of_ble_eq_true rfl) (fun X M => ?_)
  obtain ⟨Q, hQ, K⟩ : ∃ Q : (Nat → Nat → Int32) → Prop, (∀ S', Q S' → zq none (zW T' G' (F_Log_add S p1 p2 p3 p4 p5 p6 p7) n) none (zW T' G' S' n)) ∧ Q (F_Log_add S p1 p2 p3 p4 p5 p6 p7) := ⟨fun o => F_Log_add S p1 p2 p3 p4 p5 p6 p7 = o, fun S' h => ⟨rfl, by rw [h]⟩, rfl⟩
  show z_G X zm_Log_add (0, [(0, z_r 1), (1, .inl p1), (2, .inl p2), (3, .inl p3), (4, .inl p4), (5, .inl p5), (6, .inl p6), (7, .inl p7)], [], zW T' G' S n, 0, 0)
  unfold F_Log_add at K
  unfold Sf_Log_add at hs
  refine z_go2 M.1 0 [(.aload_n 0, 1), (.getfield 33, 3)] (4, [(0, z_r 1), (1, .inl p1), (2, .inl p2), (3, .inl p3), (4, .inl p4), (5, .inl p5), (6, .inl p6), (7, .inl p7)], [.inl (S 1 7)], zW T' G' S n, 0, 0) (by decide +kernel) rfl ⟨trivial, rfl, trivial⟩ ?_
  refine z_if_lt 101 M.1 (off := 97) (by decide +kernel) (by decide) (fun c4 => ?_) (fun c4 => ?_)
  · rw [if_pos c4] at K hs
    exact z_vret M (by decide +kernel) rfl (by decide) (by decide) (hQ _ K)
  · rw [if_neg c4] at K hs
    refine z_go2 M.1 7 [(.aload_n 0, 1), (.getfield 33, 3), (.sipush 900, 3)] (14, [(0, z_r 1), (1, .inl p1), (2, .inl p2), (3, .inl p3), (4, .inl p4), (5, .inl p5), (6, .inl p6), (7, .inl p7)], [.inl 900, .inl (S 1 7)], zW T' G' S n, 0, 0) (by decide +kernel) rfl ⟨trivial, rfl, trivial, trivial⟩ ?_
    refine z_icmp_ge 101 M.1 (off := 87) (by decide +kernel) (by decide) (fun c14 => ?_) (fun c14 => ?_)
    · rw [if_pos c14] at K hs
      exact z_vret M (by decide +kernel) rfl (by decide) (by decide) (hQ _ K)
    · rw [if_neg c14] at K hs
      refine z_go2 M.1 17 [(.aload_n 0, 1), (.getfield 9, 3), (.aload_n 0, 1), (.getfield 33, 3), (.iload_n 1, 1), (.iastore, 1), (.aload_n 0, 1), (.getfield 15, 3), (.aload_n 0, 1), (.getfield 33, 3), (.iload_n 2, 1), (.iastore, 1), (.aload_n 0, 1), (.getfield 18, 3), (.aload_n 0, 1), (.getfield 33, 3), (.iload_n 3, 1), (.iastore, 1), (.aload_n 0, 1), (.getfield 21, 3), (.aload_n 0, 1), (.getfield 33, 3), (.iload 4, 2), (.iastore, 1), (.aload_n 0, 1), (.getfield 24, 3), (.aload_n 0, 1), (.getfield 33, 3), (.iload 5, 2), (.iastore, 1), (.aload_n 0, 1), (.getfield 27, 3), (.aload_n 0, 1), (.getfield 33, 3), (.iload 6, 2), (.iastore, 1), (.aload_n 0, 1), (.getfield 30, 3), (.aload_n 0, 1), (.getfield 33, 3), (.iload 7, 2), (.iastore, 1), (.aload_n 0, 1), (.dup, 1), (.getfield 33, 3), (.iconst 1, 1), (.iadd, 1), (.putfield 33, 3)] (101, [(0, z_r 1), (1, .inl p1), (2, .inl p2), (3, .inl p3), (4, .inl p4), (5, .inl p5), (6, .inl p6), (7, .inl p7)], [], zW T' G' (z_uS (z_uS (z_uS (z_uS (z_uS (z_uS (z_uS (z_uS S 2 (S 1 7).toNatClampNeg p1) 3 (S 1 7).toNatClampNeg p2) 4 (S 1 7).toNatClampNeg p3) 5 (S 1 7).toNatClampNeg p4) 6 (S 1 7).toNatClampNeg p5) 7 (S 1 7).toNatClampNeg p6) 8 (S 1 7).toNatClampNeg p7) 1 7 ((S 1 7) + 1)) n, 0, 0) (by decide +kernel) rfl ⟨trivial, rfl, trivial, rfl, trivial, ⟨rfl, hs.1⟩, trivial, rfl, trivial, rfl, trivial, ⟨rfl, hs.2.1⟩, trivial, rfl, trivial, rfl, trivial, ⟨rfl, hs.2.2.1⟩, trivial, rfl, trivial, rfl, trivial, ⟨rfl, hs.2.2.2.1⟩, trivial, rfl, trivial, rfl, trivial, ⟨rfl, hs.2.2.2.2.1⟩, trivial, rfl, trivial, rfl, trivial, ⟨rfl, hs.2.2.2.2.2.1⟩, trivial, rfl, trivial, rfl, trivial, ⟨rfl, hs.2.2.2.2.2.2.1⟩, trivial, rfl, rfl, trivial, trivial, ⟨rfl, trivial⟩, trivial⟩ ?_
      replace hs := hs.2.2.2.2.2.2.2
      exact z_vret M (by decide +kernel) rfl (by decide) (by decide) (hQ _ K)

-- TrackHouse$Kinds.has
abbrev rm_Kinds_has : Room := zr 0
def F_Kinds_has_j36 (S : (Nat → Nat → Int32)) : Int32 := 0
theorem t_Kinds_has_j36 {X : z_X} {Post : Option z_V → z_W → Prop} (M : z_M X zm_Kinds_has rm_Kinds_has Post) {T' : Nat → Nat × Nat} {G' : Nat → Nat → Option Nat} {n : Nat} {Q : Int32 → Prop} (S : (Nat → Nat → Int32)) (hQ : ∀ v, Q v → Post (some (.inl v)) (zW T' G' S n)) (K : Q (F_Kinds_has_j36 S)) : z_G X zm_Kinds_has (36, [], [], zW T' G' S n, 0, 0) := by
  unfold F_Kinds_has_j36 at K
  refine z_go2 M.1 36 [(.iconst 0, 1)] (37, [], [.inl 0], zW T' G' S n, 0, 0) (by decide +kernel) rfl ⟨trivial, trivial⟩ ?_
  exact z_iret M (by decide +kernel) .boolean rfl rfl (by decide) (by decide) (hQ _ K)
def F_Kinds_has (S : (Nat → Nat → Int32)) (p1 : Int32) (p2 : Int32) : Int32 := (if p1 < 0 then (F_Kinds_has_j36 S) else (if (3 : Int32) ≤ p1 then (F_Kinds_has_j36 S) else (if p2 < 0 then (F_Kinds_has_j36 S) else (if (3 : Int32) ≤ p2 then (F_Kinds_has_j36 S) else (if (((S 44 (p1).toNatClampNeg) >>> (p2 &&& 31)) &&& 1) = 1 then 1 else (F_Kinds_has_j36 S))))))
def Sf_Kinds_has (S : (Nat → Nat → Int32)) (p1 : Int32) (p2 : Int32) : Prop := (if p1 < 0 then True else (if (3 : Int32) ≤ p1 then True else (if p2 < 0 then True else (if (3 : Int32) ≤ p2 then True else ((vp_in p1 3) ∧ True)))))
theorem c_Kinds_has (T' : Nat → Nat × Nat) (G' : Nat → Nat → Option Nat) (S : (Nat → Nat → Int32)) (n : Nat) (p1 : Int32) (p2 : Int32) (hs : Sf_Kinds_has S p1 p2) : z_Run rm_Kinds_has zm_Kinds_has [z_r 43, .inl p1, .inl p2] (zW T' G' S n) (zq (some (.inl (F_Kinds_has S p1 p2))) (zW T' G' S n)) := by
  refine z_body (by decide) zf_Kinds_ok (Nat.le_of_ble_eq_true rfl) (fun X M => ?_)
  obtain ⟨Q, hQ, K⟩ : ∃ Q : Int32 → Prop, (∀ v, Q v → zq (some (.inl (F_Kinds_has S p1 p2))) (zW T' G' S n) (some (.inl v)) (zW T' G' S n)) ∧ Q (F_Kinds_has S p1 p2) := ⟨fun o => F_Kinds_has S p1 p2 = o, fun v h => ⟨by rw [h], rfl⟩, rfl⟩
  show z_G X zm_Kinds_has (0, [(0, z_r 43), (1, .inl p1), (2, .inl p2)], [], zW T' G' S n, 0, 0)
  unfold F_Kinds_has at K
  unfold Sf_Kinds_has at hs
  refine z_go2 M.1 0 [(.iload_n 1, 1)] (1, [(0, z_r 43), (1, .inl p1), (2, .inl p2)], [.inl p1], zW T' G' S n, 0, 0) (by decide +kernel) rfl ⟨trivial, trivial⟩ ?_
  refine z_if_lt 36 M.1 (off := 35) (by decide +kernel) (by decide) (fun c1 => ?_) (fun c1 => ?_)
  · rw [if_pos c1] at K hs
    exact z_lvs (lv' := []) [] rfl (t_Kinds_has_j36 M S hQ K)
  · rw [if_neg c1] at K hs
    refine z_go2 M.1 4 [(.iload_n 1, 1), (.iconst 3, 1)] (6, [(0, z_r 43), (1, .inl p1), (2, .inl p2)], [.inl 3, .inl p1], zW T' G' S n, 0, 0) (by decide +kernel) rfl ⟨trivial, trivial, trivial⟩ ?_
    refine z_icmp_ge 36 M.1 (off := 30) (by decide +kernel) (by decide) (fun c6 => ?_) (fun c6 => ?_)
    · rw [if_pos c6] at K hs
      exact z_lvs (lv' := []) [] rfl (t_Kinds_has_j36 M S hQ K)
    · rw [if_neg c6] at K hs
      refine z_go2 M.1 9 [(.iload_n 2, 1)] (10, [(0, z_r 43), (1, .inl p1), (2, .inl p2)], [.inl p2], zW T' G' S n, 0, 0) (by decide +kernel) rfl ⟨trivial, trivial⟩ ?_
      refine z_if_lt 36 M.1 (off := 26) (by decide +kernel) (by decide) (fun c10 => ?_) (fun c10 => ?_)
      · rw [if_pos c10] at K hs
        exact z_lvs (lv' := []) [] rfl (t_Kinds_has_j36 M S hQ K)
      · rw [if_neg c10] at K hs
        refine z_go2 M.1 13 [(.iload_n 2, 1), (.iconst 3, 1)] (15, [(0, z_r 43), (1, .inl p1), (2, .inl p2)], [.inl 3, .inl p2], zW T' G' S n, 0, 0) (by decide +kernel) rfl ⟨trivial, trivial, trivial⟩ ?_
        refine z_icmp_ge 36 M.1 (off := 21) (by decide +kernel) (by decide) (fun c15 => ?_) (fun c15 => ?_)
        · rw [if_pos c15] at K hs
          exact z_lvs (lv' := []) [] rfl (t_Kinds_has_j36 M S hQ K)
        · rw [if_neg c15] at K hs
          refine z_go2 M.1 18 [(.aload_n 0, 1), (.getfield 9, 3), (.iload_n 1, 1), (.iaload, 1), (.iload_n 2, 1), (.ishr, 1), (.iconst 1, 1), (.iand, 1), (.iconst 1, 1)] (29, [(0, z_r 43), (1, .inl p1), (2, .inl p2)], [.inl 1, .inl (((S 44 (p1).toNatClampNeg) >>> (p2 &&& 31)) &&& 1)], zW T' G' S n, 0, 0) (by decide +kernel) rfl ⟨trivial, rfl, trivial, ⟨rfl, hs.1⟩, trivial, trivial, trivial, trivial, trivial, trivial⟩ ?_
          replace hs := hs.2
          refine z_icmp_ne 36 M.1 (off := 7) (by decide +kernel) (by decide) (fun c29 => ?_) (fun c29 => ?_)
          · rw [if_neg c29] at K
            exact z_lvs (lv' := []) [] rfl (t_Kinds_has_j36 M S hQ K)
          · rw [if_pos c29] at K
            refine z_go2 M.1 32 [(.iconst 1, 1), (.goto 4, 3)] (37, [(0, z_r 43), (1, .inl p1), (2, .inl p2)], [.inl 1], zW T' G' S n, 0, 0) (by decide +kernel) rfl ⟨trivial, trivial, trivial⟩ ?_
            exact z_iret M (by decide +kernel) .boolean rfl rfl (by decide) (by decide) (hQ _ K)

-- TrackHouse$Bulks.push
abbrev rm_Bulks_push : Room := zr 1
def F_Bulks_push (S : (Nat → Nat → Int32)) (p1 : Int32) (p2 : Int32) (p3 : Int32) (p4 : Int32) : (Nat → Nat → Int32) := (if (512 : Int32) ≤ (S 71 4) then S else (z_let (zPut S 72 512 (S 71 4) p1) (fun S19 => (z_let (zPut S19 73 512 (S19 71 4) p2) (fun S31 => (z_let (zPut S31 74 512 (S31 71 4) p3) (fun S43 => (z_let (zPut S43 75 512 (S43 71 4) p4) (fun S56 => (z_uS S56 71 4 ((S56 71 4) + 1)))))))))))
theorem c_Bulks_push (T' : Nat → Nat × Nat) (G' : Nat → Nat → Option Nat) (S : (Nat → Nat → Int32)) (n : Nat) (p1 : Int32) (p2 : Int32) (p3 : Int32) (p4 : Int32) : z_Run rm_Bulks_push zm_Bulks_push [z_r 71, .inl p1, .inl p2, .inl p3, .inl p4] (zW T' G' S n) (zq none (zW T' G' (F_Bulks_push S p1 p2 p3 p4) n)) := by
  refine z_body (by decide) zf_Bulks_ok (Nat.le_of_ble_eq_true rfl) (fun X M => ?_)
  obtain ⟨Q, hQ, K⟩ : ∃ Q : (Nat → Nat → Int32) → Prop, (∀ S', Q S' → zq none (zW T' G' (F_Bulks_push S p1 p2 p3 p4) n) none (zW T' G' S' n)) ∧ Q (F_Bulks_push S p1 p2 p3 p4) := ⟨fun o => F_Bulks_push S p1 p2 p3 p4 = o, fun S' h => ⟨rfl, by rw [h]⟩, rfl⟩
  show z_G X zm_Bulks_push (0, [(0, z_r 71), (1, .inl p1), (2, .inl p2), (3, .inl p3), (4, .inl p4)], [], zW T' G' S n, 0, 0)
  unfold F_Bulks_push at K
  refine z_go2 M.1 0 [(.aload_n 0, 1), (.getfield 24, 3), (.sipush 512, 3)] (7, [(0, z_r 71), (1, .inl p1), (2, .inl p2), (3, .inl p3), (4, .inl p4)], [.inl 512, .inl (S 71 4)], zW T' G' S n, 0, 0) (by decide +kernel) rfl ⟨trivial, rfl, trivial, trivial⟩ ?_
  refine z_icmp_ge 69 M.1 (off := 62) (by decide +kernel) (by decide) (fun c7 => ?_) (fun c7 => ?_)
  · rw [if_pos c7] at K
    exact z_vret M (by decide +kernel) rfl (by decide) (by decide) (hQ _ K)
  · rw [if_neg c7] at K
    refine z_go2 M.1 10 [(.aload_n 0, 1), (.getfield 9, 3), (.aload_n 0, 1), (.getfield 24, 3), (.iload_n 1, 1)] (19, [(0, z_r 71), (1, .inl p1), (2, .inl p2), (3, .inl p3), (4, .inl p4)], [.inl p1, .inl (S 71 4), z_r 72], zW T' G' S n, 0, 0) (by decide +kernel) rfl ⟨trivial, rfl, trivial, rfl, trivial, trivial⟩ ?_
    refine z_callS M.1 (av := [z_r 72, .inl (S 71 4), .inl p1]) (st := []) (by decide +kernel) (c_put (zW T' G' S n) 72 512 rfl (by decide) (S 71 4) p1) M.2.1 zl_Bulks_28 zs_T_put ⟨by decide, by decide, by decide, by decide⟩ rfl (Nat.le_of_ble_eq_true rfl) (fun v w' hv => ?_)
    obtain ⟨S19, hF19⟩ : ∃ y, zPut S 72 512 (S 71 4) p1 = y := ⟨_, rfl⟩
    replace hv : v = none ∧ w' = zW T' G' (zPut S 72 512 (S 71 4) p1) n := hv
    rw [hF19] at K hv
    try dsimp only [z_let] at K
    obtain ⟨rfl, rfl⟩ := hv
    show z_G X zm_Bulks_push (22, [(0, z_r 71), (1, .inl p1), (2, .inl p2), (3, .inl p3), (4, .inl p4)], [], zW T' G' S19 n, 0, 0)
    refine z_go2 M.1 22 [(.aload_n 0, 1), (.getfield 15, 3), (.aload_n 0, 1), (.getfield 24, 3), (.iload_n 2, 1)] (31, [(0, z_r 71), (1, .inl p1), (2, .inl p2), (3, .inl p3), (4, .inl p4)], [.inl p2, .inl (S19 71 4), z_r 73], zW T' G' S19 n, 0, 0) (by decide +kernel) rfl ⟨trivial, rfl, trivial, rfl, trivial, trivial⟩ ?_
    refine z_callS M.1 (av := [z_r 73, .inl (S19 71 4), .inl p2]) (st := []) (by decide +kernel) (c_put (zW T' G' S19 n) 73 512 rfl (by decide) (S19 71 4) p2) M.2.1 zl_Bulks_28 zs_T_put ⟨by decide, by decide, by decide, by decide⟩ rfl (Nat.le_of_ble_eq_true rfl) (fun v w' hv => ?_)
    obtain ⟨S31, hF31⟩ : ∃ y, zPut S19 73 512 (S19 71 4) p2 = y := ⟨_, rfl⟩
    replace hv : v = none ∧ w' = zW T' G' (zPut S19 73 512 (S19 71 4) p2) n := hv
    rw [hF31] at K hv
    try dsimp only [z_let] at K
    obtain ⟨rfl, rfl⟩ := hv
    show z_G X zm_Bulks_push (34, [(0, z_r 71), (1, .inl p1), (2, .inl p2), (3, .inl p3), (4, .inl p4)], [], zW T' G' S31 n, 0, 0)
    refine z_go2 M.1 34 [(.aload_n 0, 1), (.getfield 18, 3), (.aload_n 0, 1), (.getfield 24, 3), (.iload_n 3, 1)] (43, [(0, z_r 71), (1, .inl p1), (2, .inl p2), (3, .inl p3), (4, .inl p4)], [.inl p3, .inl (S31 71 4), z_r 74], zW T' G' S31 n, 0, 0) (by decide +kernel) rfl ⟨trivial, rfl, trivial, rfl, trivial, trivial⟩ ?_
    refine z_callS M.1 (av := [z_r 74, .inl (S31 71 4), .inl p3]) (st := []) (by decide +kernel) (c_put (zW T' G' S31 n) 74 512 rfl (by decide) (S31 71 4) p3) M.2.1 zl_Bulks_28 zs_T_put ⟨by decide, by decide, by decide, by decide⟩ rfl (Nat.le_of_ble_eq_true rfl) (fun v w' hv => ?_)
    obtain ⟨S43, hF43⟩ : ∃ y, zPut S31 74 512 (S31 71 4) p3 = y := ⟨_, rfl⟩
    replace hv : v = none ∧ w' = zW T' G' (zPut S31 74 512 (S31 71 4) p3) n := hv
    rw [hF43] at K hv
    try dsimp only [z_let] at K
    obtain ⟨rfl, rfl⟩ := hv
    show z_G X zm_Bulks_push (46, [(0, z_r 71), (1, .inl p1), (2, .inl p2), (3, .inl p3), (4, .inl p4)], [], zW T' G' S43 n, 0, 0)
    refine z_go2 M.1 46 [(.aload_n 0, 1), (.getfield 21, 3), (.aload_n 0, 1), (.getfield 24, 3), (.iload 4, 2)] (56, [(0, z_r 71), (1, .inl p1), (2, .inl p2), (3, .inl p3), (4, .inl p4)], [.inl p4, .inl (S43 71 4), z_r 75], zW T' G' S43 n, 0, 0) (by decide +kernel) rfl ⟨trivial, rfl, trivial, rfl, trivial, trivial⟩ ?_
    refine z_callS M.1 (av := [z_r 75, .inl (S43 71 4), .inl p4]) (st := []) (by decide +kernel) (c_put (zW T' G' S43 n) 75 512 rfl (by decide) (S43 71 4) p4) M.2.1 zl_Bulks_28 zs_T_put ⟨by decide, by decide, by decide, by decide⟩ rfl (Nat.le_of_ble_eq_true rfl) (fun v w' hv => ?_)
    obtain ⟨S56, hF56⟩ : ∃ y, zPut S43 75 512 (S43 71 4) p4 = y := ⟨_, rfl⟩
    replace hv : v = none ∧ w' = zW T' G' (zPut S43 75 512 (S43 71 4) p4) n := hv
    rw [hF56] at K hv
    try dsimp only [z_let] at K
    obtain ⟨rfl, rfl⟩ := hv
    show z_G X zm_Bulks_push (59, [(0, z_r 71), (1, .inl p1), (2, .inl p2), (3, .inl p3), (4, .inl p4)], [], zW T' G' S56 n, 0, 0)
    refine z_go2 M.1 59 [(.aload_n 0, 1), (.dup, 1), (.getfield 24, 3), (.iconst 1, 1), (.iadd, 1), (.putfield 24, 3)] (69, [(0, z_r 71), (1, .inl p1), (2, .inl p2), (3, .inl p3), (4, .inl p4)], [], zW T' G' (z_uS S56 71 4 ((S56 71 4) + 1)) n, 0, 0) (by decide +kernel) rfl ⟨trivial, rfl, rfl, trivial, trivial, ⟨rfl, trivial⟩, trivial⟩ ?_
    exact z_vret M (by decide +kernel) rfl (by decide) (by decide) (hQ _ K)

-- TrackHouse$Flows.has
abbrev rm_Flows_has : Room := zr 1
def F_Flows_has (S : (Nat → Nat → Int32)) (p1 : Int32) (p2 : Int32) : Int32 := (F_T_isIn S (zAt (S 55) 4 p1) p2)
def Sf_Flows_has (S : (Nat → Nat → Int32)) (p1 : Int32) (p2 : Int32) : Prop := (narrow .boolean (.int (F_T_isIn S (zAt (S 55) 4 p1) p2)) = .int (F_T_isIn S (zAt (S 55) 4 p1) p2) ∧ True)
theorem c_Flows_has (T' : Nat → Nat × Nat) (G' : Nat → Nat → Option Nat) (S : (Nat → Nat → Int32)) (n : Nat) (p1 : Int32) (p2 : Int32) (hs : Sf_Flows_has S p1 p2) : z_Run rm_Flows_has zm_Flows_has [z_r 54, .inl p1, .inl p2] (zW T' G' S n) (zq (some (.inl (F_Flows_has S p1 p2))) (zW T' G' S n)) := by
  refine z_body (by decide) zf_Flows_ok (Nat.le_of_ble_eq_true rfl) (fun X M => ?_)
  obtain ⟨Q, hQ, K⟩ : ∃ Q : Int32 → Prop, (∀ v, Q v → zq (some (.inl (F_Flows_has S p1 p2))) (zW T' G' S n) (some (.inl v)) (zW T' G' S n)) ∧ Q (F_Flows_has S p1 p2) := ⟨fun o => F_Flows_has S p1 p2 = o, fun v h => ⟨by rw [h], rfl⟩, rfl⟩
  show z_G X zm_Flows_has (0, [(0, z_r 54), (1, .inl p1), (2, .inl p2)], [], zW T' G' S n, 0, 0)
  unfold F_Flows_has at K
  unfold Sf_Flows_has at hs
  refine z_go2 M.1 0 [(.aload_n 0, 1), (.getfield 9, 3), (.iload_n 1, 1)] (5, [(0, z_r 54), (1, .inl p1), (2, .inl p2)], [.inl p1, z_r 55], zW T' G' S n, 0, 0) (by decide +kernel) rfl ⟨trivial, rfl, trivial, trivial⟩ ?_
  refine z_callS M.1 (av := [z_r 55, .inl p1]) (st := []) (by decide +kernel) (c_at (zW T' G' S n) 55 4 rfl (by decide) p1) M.2.1 zl_Flows_34 zs_T_at ⟨by decide, by decide, by decide, by decide⟩ rfl (Nat.le_of_ble_eq_true rfl) (fun v w' hv => ?_)
  obtain ⟨rfl, rfl⟩ := hv
  show z_G X zm_Flows_has (8, [(0, z_r 54), (1, .inl p1), (2, .inl p2)], [.inl (zAt (S 55) 4 p1)], zW T' G' S n, 0, 0)
  refine z_go2 M.1 8 [(.iload_n 2, 1)] (9, [(0, z_r 54), (1, .inl p1), (2, .inl p2)], [.inl p2, .inl (zAt (S 55) 4 p1)], zW T' G' S n, 0, 0) (by decide +kernel) rfl ⟨trivial, trivial⟩ ?_
  refine z_callS M.1 (av := [.inl (zAt (S 55) 4 p1), .inl p2]) (st := []) (by decide +kernel) (c_T_isIn T' G' S n (zAt (S 55) 4 p1) p2) M.2.1 zl_Flows_38 zs_T_isIn ⟨by decide, by decide, by decide, by decide⟩ rfl (Nat.le_of_ble_eq_true rfl) (fun v w' hv => ?_)
  obtain ⟨rfl, rfl⟩ := hv
  show z_G X zm_Flows_has (12, [(0, z_r 54), (1, .inl p1), (2, .inl p2)], [.inl (F_T_isIn S (zAt (S 55) 4 p1) p2)], zW T' G' S n, 0, 0)
  exact z_iret M (by decide +kernel) .boolean rfl hs.1 (by decide) (by decide) (hQ _ K)

-- TrackHouse$Flows.part
abbrev rm_Flows_part : Room := zr 1
def F_Flows_part (S : (Nat → Nat → Int32)) (p1 : Int32) (p2 : Int32) (p3 : Int32) : Int32 := (zAt (S 57) 192 ((((p1 * 8) + p2) * 6) + p3))
theorem c_Flows_part (T' : Nat → Nat × Nat) (G' : Nat → Nat → Option Nat) (S : (Nat → Nat → Int32)) (n : Nat) (p1 : Int32) (p2 : Int32) (p3 : Int32) : z_Run rm_Flows_part zm_Flows_part [z_r 54, .inl p1, .inl p2, .inl p3] (zW T' G' S n) (zq (some (.inl (F_Flows_part S p1 p2 p3))) (zW T' G' S n)) := by
  refine z_body (by decide) zf_Flows_ok (Nat.le_of_ble_eq_true rfl) (fun X M => ?_)
  obtain ⟨Q, hQ, K⟩ : ∃ Q : Int32 → Prop, (∀ v, Q v → zq (some (.inl (F_Flows_part S p1 p2 p3))) (zW T' G' S n) (some (.inl v)) (zW T' G' S n)) ∧ Q (F_Flows_part S p1 p2 p3) := ⟨fun o => F_Flows_part S p1 p2 p3 = o, fun v h => ⟨by rw [h], rfl⟩, rfl⟩
  show z_G X zm_Flows_part (0, [(0, z_r 54), (1, .inl p1), (2, .inl p2), (3, .inl p3)], [], zW T' G' S n, 0, 0)
  unfold F_Flows_part at K
  refine z_go2 M.1 0 [(.aload_n 0, 1), (.getfield 18, 3), (.iload_n 1, 1), (.bipush 8, 2), (.imul, 1), (.iload_n 2, 1), (.iadd, 1), (.bipush 6, 2), (.imul, 1), (.iload_n 3, 1), (.iadd, 1)] (15, [(0, z_r 54), (1, .inl p1), (2, .inl p2), (3, .inl p3)], [.inl ((((p1 * 8) + p2) * 6) + p3), z_r 57], zW T' G' S n, 0, 0) (by decide +kernel) rfl ⟨trivial, rfl, trivial, trivial, trivial, trivial, trivial, trivial, trivial, trivial, trivial, trivial⟩ ?_
  refine z_callS M.1 (av := [z_r 57, .inl ((((p1 * 8) + p2) * 6) + p3)]) (st := []) (by decide +kernel) (c_at (zW T' G' S n) 57 192 rfl (by decide) ((((p1 * 8) + p2) * 6) + p3)) M.2.1 zl_Flows_34 zs_T_at ⟨by decide, by decide, by decide, by decide⟩ rfl (Nat.le_of_ble_eq_true rfl) (fun v w' hv => ?_)
  obtain ⟨rfl, rfl⟩ := hv
  show z_G X zm_Flows_part (18, [(0, z_r 54), (1, .inl p1), (2, .inl p2), (3, .inl p3)], [.inl (zAt (S 57) 192 ((((p1 * 8) + p2) * 6) + p3))], zW T' G' S n, 0, 0)
  exact z_iret M (by decide +kernel) .int rfl rfl (by decide) (by decide) (hQ _ K)

-- TrackHouse$Flows.setPart
abbrev rm_Flows_setPart : Room := zr 1
def F_Flows_setPart (S : (Nat → Nat → Int32)) (p1 : Int32) (p2 : Int32) (p3 : Int32) : (Nat → Nat → Int32) := (z_let (zPut S 57 192 ((((24 : Int32) + p1) * 6) + p2) p3) (fun S14 => S14))
theorem c_Flows_setPart (T' : Nat → Nat × Nat) (G' : Nat → Nat → Option Nat) (S : (Nat → Nat → Int32)) (n : Nat) (p1 : Int32) (p2 : Int32) (p3 : Int32) : z_Run rm_Flows_setPart zm_Flows_setPart [z_r 54, .inl p1, .inl p2, .inl p3] (zW T' G' S n) (zq none (zW T' G' (F_Flows_setPart S p1 p2 p3) n)) := by
  refine z_body (by decide) zf_Flows_ok (Nat.le_of_ble_eq_true rfl) (fun X M => ?_)
  obtain ⟨Q, hQ, K⟩ : ∃ Q : (Nat → Nat → Int32) → Prop, (∀ S', Q S' → zq none (zW T' G' (F_Flows_setPart S p1 p2 p3) n) none (zW T' G' S' n)) ∧ Q (F_Flows_setPart S p1 p2 p3) := ⟨fun o => F_Flows_setPart S p1 p2 p3 = o, fun S' h => ⟨rfl, by rw [h]⟩, rfl⟩
  show z_G X zm_Flows_setPart (0, [(0, z_r 54), (1, .inl p1), (2, .inl p2), (3, .inl p3)], [], zW T' G' S n, 0, 0)
  unfold F_Flows_setPart at K
  refine z_go2 M.1 0 [(.aload_n 0, 1), (.getfield 18, 3), (.bipush 24, 2), (.iload_n 1, 1), (.iadd, 1), (.bipush 6, 2), (.imul, 1), (.iload_n 2, 1), (.iadd, 1), (.iload_n 3, 1)] (14, [(0, z_r 54), (1, .inl p1), (2, .inl p2), (3, .inl p3)], [.inl p3, .inl ((((24 : Int32) + p1) * 6) + p2), z_r 57], zW T' G' S n, 0, 0) (by decide +kernel) rfl ⟨trivial, rfl, trivial, trivial, trivial, trivial, trivial, trivial, trivial, trivial, trivial⟩ ?_
  refine z_callS M.1 (av := [z_r 57, .inl ((((24 : Int32) + p1) * 6) + p2), .inl p3]) (st := []) (by decide +kernel) (c_put (zW T' G' S n) 57 192 rfl (by decide) ((((24 : Int32) + p1) * 6) + p2) p3) M.2.1 zl_Flows_42 zs_T_put ⟨by decide, by decide, by decide, by decide⟩ rfl (Nat.le_of_ble_eq_true rfl) (fun v w' hv => ?_)
  obtain ⟨S14, hF14⟩ : ∃ y, zPut S 57 192 ((((24 : Int32) + p1) * 6) + p2) p3 = y := ⟨_, rfl⟩
  replace hv : v = none ∧ w' = zW T' G' (zPut S 57 192 ((((24 : Int32) + p1) * 6) + p2) p3) n := hv
  rw [hF14] at K hv
  try dsimp only [z_let] at K
  obtain ⟨rfl, rfl⟩ := hv
  show z_G X zm_Flows_setPart (17, [(0, z_r 54), (1, .inl p1), (2, .inl p2), (3, .inl p3)], [], zW T' G' S14 n, 0, 0)
  exact z_vret M (by decide +kernel) rfl (by decide) (by decide) (hQ _ K)

-- TrackHouse$Flows.begin
abbrev rm_Flows_begin : Room := zr 1
def F_Flows_begin_L34 (x1 : Int32) : Nat → (Nat → Nat → Int32) → Int32 → ((Nat → Nat → Int32))
  | 0, S, x2 => S
  | f + 1, S, x2 => (if (48 : Int32) ≤ x2 then S else (z_let (zPut S 57 192 ((144 : Int32) + x2) (zAt (S 57) 192 (((x1 * 8) * 6) + x2))) (fun S65 => ((F_Flows_begin_L34 x1 f) S65 (x2 + 1)))))
def Sf_Flows_begin_L34 (x1 : Int32) : Nat → (Nat → Nat → Int32) → Int32 → Prop
  | 0, _, _ => False
  | f + 1, S, x2 => (if (48 : Int32) ≤ x2 then True else (z_let (zPut S 57 192 ((144 : Int32) + x2) (zAt (S 57) 192 (((x1 * 8) * 6) + x2))) (fun S65 => ((Sf_Flows_begin_L34 x1 f) S65 (x2 + 1)))))
theorem t_Flows_begin_L34 {X : z_X} {Post : Option z_V → z_W → Prop} (M : z_M X zm_Flows_begin rm_Flows_begin Post) {T' : Nat → Nat × Nat} {G' : Nat → Nat → Option Nat} {n : Nat} {Q : ((Nat → Nat → Int32)) → Prop}  (x1 : Int32) (hE : ∀ (S' : (Nat → Nat → Int32)), Q S' → z_G X zm_Flows_begin (74, [(0, z_r 54), (1, .inl x1)], [], zW T' G' S' n, 0, 0)) (f : Nat) : ∀ (S : (Nat → Nat → Int32)) (x2 : Int32), Q (F_Flows_begin_L34 x1 f S x2) → Sf_Flows_begin_L34 x1 f S x2 → z_G X zm_Flows_begin (34, [(0, z_r 54), (1, .inl x1), (2, .inl x2)], [], zW T' G' S n, 0, 0) := by
  induction f with
  | zero => intro S x2 K hs; exact False.elim hs
  | succ f hC =>
    intro S x2 K hs
    rw [F_Flows_begin_L34] at K
    rw [Sf_Flows_begin_L34] at hs
    refine z_go2 M.1 34 [(.iload_n 2, 1), (.bipush 48, 2)] (37, [(0, z_r 54), (1, .inl x1), (2, .inl x2)], [.inl 48, .inl x2], zW T' G' S n, 0, 0) (by decide +kernel) rfl ⟨trivial, trivial, trivial⟩ ?_
    refine z_icmp_ge 74 M.1 (off := 37) (by decide +kernel) (by decide) (fun c37 => ?_) (fun c37 => ?_)
    · rw [if_pos c37] at K hs
      exact z_lvs (lv' := [(0, z_r 54), (1, .inl x1)]) [0, 1] rfl (hE S K)
    · rw [if_neg c37] at K hs
      refine z_go2 M.1 40 [(.aload_n 0, 1), (.getfield 18, 3), (.sipush 144, 3), (.iload_n 2, 1), (.iadd, 1), (.aload_n 0, 1), (.getfield 18, 3), (.iload_n 1, 1), (.bipush 8, 2), (.imul, 1), (.bipush 6, 2), (.imul, 1), (.iload_n 2, 1), (.iadd, 1)] (62, [(0, z_r 54), (1, .inl x1), (2, .inl x2)], [.inl (((x1 * 8) * 6) + x2), z_r 57, .inl ((144 : Int32) + x2), z_r 57], zW T' G' S n, 0, 0) (by decide +kernel) rfl ⟨trivial, rfl, trivial, trivial, trivial, trivial, rfl, trivial, trivial, trivial, trivial, trivial, trivial, trivial, trivial⟩ ?_
      refine z_callS M.1 (av := [z_r 57, .inl (((x1 * 8) * 6) + x2)]) (st := [.inl ((144 : Int32) + x2), z_r 57]) (by decide +kernel) (c_at (zW T' G' S n) 57 192 rfl (by decide) (((x1 * 8) * 6) + x2)) M.2.1 zl_Flows_34 zs_T_at ⟨by decide, by decide, by decide, by decide⟩ rfl (Nat.le_of_ble_eq_true rfl) (fun v w' hv => ?_)
      obtain ⟨rfl, rfl⟩ := hv
      show z_G X zm_Flows_begin (65, [(0, z_r 54), (1, .inl x1), (2, .inl x2)], [.inl (zAt (S 57) 192 (((x1 * 8) * 6) + x2)), .inl ((144 : Int32) + x2), z_r 57], zW T' G' S n, 0, 0)
      refine z_callS M.1 (av := [z_r 57, .inl ((144 : Int32) + x2), .inl (zAt (S 57) 192 (((x1 * 8) * 6) + x2))]) (st := []) (by decide +kernel) (c_put (zW T' G' S n) 57 192 rfl (by decide) ((144 : Int32) + x2) (zAt (S 57) 192 (((x1 * 8) * 6) + x2))) M.2.1 zl_Flows_42 zs_T_put ⟨by decide, by decide, by decide, by decide⟩ rfl (Nat.le_of_ble_eq_true rfl) (fun v w' hv => ?_)
      obtain ⟨S65, hF65⟩ : ∃ y, zPut S 57 192 ((144 : Int32) + x2) (zAt (S 57) 192 (((x1 * 8) * 6) + x2)) = y := ⟨_, rfl⟩
      replace hv : v = none ∧ w' = zW T' G' (zPut S 57 192 ((144 : Int32) + x2) (zAt (S 57) 192 (((x1 * 8) * 6) + x2))) n := hv
      rw [hF65] at K hv hs
      try dsimp only [z_let] at K hs
      obtain ⟨rfl, rfl⟩ := hv
      show z_G X zm_Flows_begin (68, [(0, z_r 54), (1, .inl x1), (2, .inl x2)], [], zW T' G' S65 n, 0, 0)
      refine z_go2 M.1 68 [(.iinc 2 1, 3), (.goto (-37), 3)] (34, [(2, .inl (x2 + 1)), (0, z_r 54), (1, .inl x1)], [], zW T' G' S65 n, 0, 0) (by decide +kernel) rfl ⟨trivial, trivial, trivial⟩ ?_
      exact z_lvs (lv' := [(0, z_r 54), (1, .inl x1), (2, .inl (x2 + 1))]) [1, 2, 0] rfl (hC S65 (x2 + 1) K hs)
def F_Flows_begin (S : (Nat → Nat → Int32)) (p1 : Int32) : (Nat → Nat → Int32) := (z_let (zPut S 55 4 3 (zAt (S 55) 4 p1)) (fun S13 => (z_let (zPut S13 56 4 3 (zAt (S13 56) 4 p1)) (fun S29 => (match F_Flows_begin_L34 p1 1300 S29 0 with | S34 => (z_let (zFill S34 58 6 (-1)) (fun S79 => (z_uS S79 54 4 p1))))))))
def Sf_Flows_begin (S : (Nat → Nat → Int32)) (p1 : Int32) : Prop := (z_let (zPut S 55 4 3 (zAt (S 55) 4 p1)) (fun S13 => (z_let (zPut S13 56 4 3 (zAt (S13 56) 4 p1)) (fun S29 => (Sf_Flows_begin_L34 p1 1300 S29 0 ∧ True)))))
theorem c_Flows_begin (T' : Nat → Nat × Nat) (G' : Nat → Nat → Option Nat) (S : (Nat → Nat → Int32)) (n : Nat) (p1 : Int32) (hs : Sf_Flows_begin S p1) : z_Run rm_Flows_begin zm_Flows_begin [z_r 54, .inl p1] (zW T' G' S n) (zq none (zW T' G' (F_Flows_begin S p1) n)) := by
  refine z_body (by decide) zf_Flows_ok (Nat.le_of_ble_eq_true rfl) (fun X M => ?_)
  obtain ⟨Q, hQ, K⟩ : ∃ Q : (Nat → Nat → Int32) → Prop, (∀ S', Q S' → zq none (zW T' G' (F_Flows_begin S p1) n) none (zW T' G' S' n)) ∧ Q (F_Flows_begin S p1) := ⟨fun o => F_Flows_begin S p1 = o, fun S' h => ⟨rfl, by rw [h]⟩, rfl⟩
  show z_G X zm_Flows_begin (0, [(0, z_r 54), (1, .inl p1)], [], zW T' G' S n, 0, 0)
  unfold F_Flows_begin at K
  unfold Sf_Flows_begin at hs
  refine z_go2 M.1 0 [(.aload_n 0, 1), (.getfield 9, 3), (.iconst 3, 1), (.aload_n 0, 1), (.getfield 9, 3), (.iload_n 1, 1)] (10, [(0, z_r 54), (1, .inl p1)], [.inl p1, z_r 55, .inl 3, z_r 55], zW T' G' S n, 0, 0) (by decide +kernel) rfl ⟨trivial, rfl, trivial, trivial, rfl, trivial, trivial⟩ ?_
  refine z_callS M.1 (av := [z_r 55, .inl p1]) (st := [.inl 3, z_r 55]) (by decide +kernel) (c_at (zW T' G' S n) 55 4 rfl (by decide) p1) M.2.1 zl_Flows_34 zs_T_at ⟨by decide, by decide, by decide, by decide⟩ rfl (Nat.le_of_ble_eq_true rfl) (fun v w' hv => ?_)
  obtain ⟨rfl, rfl⟩ := hv
  show z_G X zm_Flows_begin (13, [(0, z_r 54), (1, .inl p1)], [.inl (zAt (S 55) 4 p1), .inl 3, z_r 55], zW T' G' S n, 0, 0)
  refine z_callS M.1 (av := [z_r 55, .inl 3, .inl (zAt (S 55) 4 p1)]) (st := []) (by decide +kernel) (c_put (zW T' G' S n) 55 4 rfl (by decide) 3 (zAt (S 55) 4 p1)) M.2.1 zl_Flows_42 zs_T_put ⟨by decide, by decide, by decide, by decide⟩ rfl (Nat.le_of_ble_eq_true rfl) (fun v w' hv => ?_)
  obtain ⟨S13, hF13⟩ : ∃ y, zPut S 55 4 3 (zAt (S 55) 4 p1) = y := ⟨_, rfl⟩
  replace hv : v = none ∧ w' = zW T' G' (zPut S 55 4 3 (zAt (S 55) 4 p1)) n := hv
  rw [hF13] at K hv hs
  try dsimp only [z_let] at K hs
  obtain ⟨rfl, rfl⟩ := hv
  show z_G X zm_Flows_begin (16, [(0, z_r 54), (1, .inl p1)], [], zW T' G' S13 n, 0, 0)
  refine z_go2 M.1 16 [(.aload_n 0, 1), (.getfield 15, 3), (.iconst 3, 1), (.aload_n 0, 1), (.getfield 15, 3), (.iload_n 1, 1)] (26, [(0, z_r 54), (1, .inl p1)], [.inl p1, z_r 56, .inl 3, z_r 56], zW T' G' S13 n, 0, 0) (by decide +kernel) rfl ⟨trivial, rfl, trivial, trivial, rfl, trivial, trivial⟩ ?_
  refine z_callS M.1 (av := [z_r 56, .inl p1]) (st := [.inl 3, z_r 56]) (by decide +kernel) (c_at (zW T' G' S13 n) 56 4 rfl (by decide) p1) M.2.1 zl_Flows_34 zs_T_at ⟨by decide, by decide, by decide, by decide⟩ rfl (Nat.le_of_ble_eq_true rfl) (fun v w' hv => ?_)
  obtain ⟨rfl, rfl⟩ := hv
  show z_G X zm_Flows_begin (29, [(0, z_r 54), (1, .inl p1)], [.inl (zAt (S13 56) 4 p1), .inl 3, z_r 56], zW T' G' S13 n, 0, 0)
  refine z_callS M.1 (av := [z_r 56, .inl 3, .inl (zAt (S13 56) 4 p1)]) (st := []) (by decide +kernel) (c_put (zW T' G' S13 n) 56 4 rfl (by decide) 3 (zAt (S13 56) 4 p1)) M.2.1 zl_Flows_42 zs_T_put ⟨by decide, by decide, by decide, by decide⟩ rfl (Nat.le_of_ble_eq_true rfl) (fun v w' hv => ?_)
  obtain ⟨S29, hF29⟩ : ∃ y, zPut S13 56 4 3 (zAt (S13 56) 4 p1) = y := ⟨_, rfl⟩
  replace hv : v = none ∧ w' = zW T' G' (zPut S13 56 4 3 (zAt (S13 56) 4 p1)) n := hv
  rw [hF29] at K hv hs
  try dsimp only [z_let] at K hs
  obtain ⟨rfl, rfl⟩ := hv
  show z_G X zm_Flows_begin (32, [(0, z_r 54), (1, .inl p1)], [], zW T' G' S29 n, 0, 0)
  refine z_go2 M.1 32 [(.iconst 0, 1), (.istore_n 2, 1)] (34, [(2, .inl 0), (0, z_r 54), (1, .inl p1)], [], zW T' G' S29 n, 0, 0) (by decide +kernel) rfl ⟨trivial, trivial, trivial⟩ ?_
  refine z_lvs (lv' := [(0, z_r 54), (1, .inl p1), (2, .inl 0)]) [1, 2, 0] rfl ?_
  refine t_Flows_begin_L34 M (Q := fun o => F_Flows_begin_L34 p1 1300 S29 0 = o) p1 (fun S34 hL34 => ?_) 1300 S29 0 rfl hs.1
  replace hs := hs.2
  rw [hL34] at K
  try dsimp only at K
  refine z_go2 M.1 74 [(.aload_n 0, 1), (.getfield 21, 3), (.iconst (-1), 1)] (79, [(0, z_r 54), (1, .inl p1)], [.inl (-1), z_r 58], zW T' G' S34 n, 0, 0) (by decide +kernel) rfl ⟨trivial, rfl, trivial, trivial⟩ ?_
  refine z_callS M.1 (av := [z_r 58, .inl (-1)]) (st := []) (by decide +kernel) (c_fill (zT T') (zG G') S34 n 58 6 rfl (by decide) (-1)) M.2.1 zl_Flows_28 zs_Arrays_fill ⟨by decide, by decide, by decide, by decide⟩ rfl (Nat.le_of_ble_eq_true rfl) (fun v w' hv => ?_)
  obtain ⟨S79, hF79⟩ : ∃ y, zFill S34 58 6 (-1) = y := ⟨_, rfl⟩
  replace hv : v = none ∧ w' = zW T' G' (zFill S34 58 6 (-1)) n := hv
  rw [hF79] at K hv
  try dsimp only [z_let] at K
  obtain ⟨rfl, rfl⟩ := hv
  show z_G X zm_Flows_begin (82, [(0, z_r 54), (1, .inl p1)], [], zW T' G' S79 n, 0, 0)
  refine z_go2 M.1 82 [(.aload_n 0, 1), (.iload_n 1, 1), (.putfield 24, 3)] (87, [(0, z_r 54), (1, .inl p1)], [], zW T' G' (z_uS S79 54 4 p1) n, 0, 0) (by decide +kernel) rfl ⟨trivial, trivial, ⟨rfl, trivial⟩, trivial⟩ ?_
  exact z_vret M (by decide +kernel) rfl (by decide) (by decide) (hQ _ K)

-- TrackHouse$Flows.add
abbrev rm_Flows_add : Room := zr 1
def F_Flows_add (S : (Nat → Nat → Int32)) (p1 : Int32) : (Nat → Nat → Int32) := (z_let (zPut S 55 4 3 ((zAt (S 55) 4 3) ||| (F_T_bit S p1))) (fun S18 => (z_let (zPut S18 58 6 p1 (-1)) (fun S27 => S27))))
theorem c_Flows_add (T' : Nat → Nat × Nat) (G' : Nat → Nat → Option Nat) (S : (Nat → Nat → Int32)) (n : Nat) (p1 : Int32) : z_Run rm_Flows_add zm_Flows_add [z_r 54, .inl p1] (zW T' G' S n) (zq none (zW T' G' (F_Flows_add S p1) n)) := by
  refine z_body (by decide) zf_Flows_ok (Nat.le_of_ble_eq_true rfl) (fun X M => ?_)
  obtain ⟨Q, hQ, K⟩ : ∃ Q : (Nat → Nat → Int32) → Prop, (∀ S', Q S' → zq none (zW T' G' (F_Flows_add S p1) n) none (zW T' G' S' n)) ∧ Q (F_Flows_add S p1) := ⟨fun o => F_Flows_add S p1 = o, fun S' h => ⟨rfl, by rw [h]⟩, rfl⟩
  show z_G X zm_Flows_add (0, [(0, z_r 54), (1, .inl p1)], [], zW T' G' S n, 0, 0)
  unfold F_Flows_add at K
  refine z_go2 M.1 0 [(.aload_n 0, 1), (.getfield 9, 3), (.iconst 3, 1), (.aload_n 0, 1), (.getfield 9, 3), (.iconst 3, 1)] (10, [(0, z_r 54), (1, .inl p1)], [.inl 3, z_r 55, .inl 3, z_r 55], zW T' G' S n, 0, 0) (by decide +kernel) rfl ⟨trivial, rfl, trivial, trivial, rfl, trivial, trivial⟩ ?_
  refine z_callS M.1 (av := [z_r 55, .inl 3]) (st := [.inl 3, z_r 55]) (by decide +kernel) (c_at (zW T' G' S n) 55 4 rfl (by decide) 3) M.2.1 zl_Flows_34 zs_T_at ⟨by decide, by decide, by decide, by decide⟩ rfl (Nat.le_of_ble_eq_true rfl) (fun v w' hv => ?_)
  obtain ⟨rfl, rfl⟩ := hv
  show z_G X zm_Flows_add (13, [(0, z_r 54), (1, .inl p1)], [.inl (zAt (S 55) 4 3), .inl 3, z_r 55], zW T' G' S n, 0, 0)
  refine z_go2 M.1 13 [(.iload_n 1, 1)] (14, [(0, z_r 54), (1, .inl p1)], [.inl p1, .inl (zAt (S 55) 4 3), .inl 3, z_r 55], zW T' G' S n, 0, 0) (by decide +kernel) rfl ⟨trivial, trivial⟩ ?_
  refine z_callS M.1 (av := [.inl p1]) (st := [.inl (zAt (S 55) 4 3), .inl 3, z_r 55]) (by decide +kernel) (c_T_bit T' G' S n p1) M.2.1 zl_Flows_50 zs_T_bit ⟨by decide, by decide, by decide, by decide⟩ rfl (Nat.le_of_ble_eq_true rfl) (fun v w' hv => ?_)
  obtain ⟨rfl, rfl⟩ := hv
  show z_G X zm_Flows_add (17, [(0, z_r 54), (1, .inl p1)], [.inl (F_T_bit S p1), .inl (zAt (S 55) 4 3), .inl 3, z_r 55], zW T' G' S n, 0, 0)
  refine z_go2 M.1 17 [(.ior, 1)] (18, [(0, z_r 54), (1, .inl p1)], [.inl ((zAt (S 55) 4 3) ||| (F_T_bit S p1)), .inl 3, z_r 55], zW T' G' S n, 0, 0) (by decide +kernel) rfl ⟨trivial, trivial⟩ ?_
  refine z_callS M.1 (av := [z_r 55, .inl 3, .inl ((zAt (S 55) 4 3) ||| (F_T_bit S p1))]) (st := []) (by decide +kernel) (c_put (zW T' G' S n) 55 4 rfl (by decide) 3 ((zAt (S 55) 4 3) ||| (F_T_bit S p1))) M.2.1 zl_Flows_42 zs_T_put ⟨by decide, by decide, by decide, by decide⟩ rfl (Nat.le_of_ble_eq_true rfl) (fun v w' hv => ?_)
  obtain ⟨S18, hF18⟩ : ∃ y, zPut S 55 4 3 ((zAt (S 55) 4 3) ||| (F_T_bit S p1)) = y := ⟨_, rfl⟩
  replace hv : v = none ∧ w' = zW T' G' (zPut S 55 4 3 ((zAt (S 55) 4 3) ||| (F_T_bit S p1))) n := hv
  rw [hF18] at K hv
  try dsimp only [z_let] at K
  obtain ⟨rfl, rfl⟩ := hv
  show z_G X zm_Flows_add (21, [(0, z_r 54), (1, .inl p1)], [], zW T' G' S18 n, 0, 0)
  refine z_go2 M.1 21 [(.aload_n 0, 1), (.getfield 21, 3), (.iload_n 1, 1), (.iconst (-1), 1)] (27, [(0, z_r 54), (1, .inl p1)], [.inl (-1), .inl p1, z_r 58], zW T' G' S18 n, 0, 0) (by decide +kernel) rfl ⟨trivial, rfl, trivial, trivial, trivial⟩ ?_
  refine z_callS M.1 (av := [z_r 58, .inl p1, .inl (-1)]) (st := []) (by decide +kernel) (c_put (zW T' G' S18 n) 58 6 rfl (by decide) p1 (-1)) M.2.1 zl_Flows_42 zs_T_put ⟨by decide, by decide, by decide, by decide⟩ rfl (Nat.le_of_ble_eq_true rfl) (fun v w' hv => ?_)
  obtain ⟨S27, hF27⟩ : ∃ y, zPut S18 58 6 p1 (-1) = y := ⟨_, rfl⟩
  replace hv : v = none ∧ w' = zW T' G' (zPut S18 58 6 p1 (-1)) n := hv
  rw [hF27] at K hv
  try dsimp only [z_let] at K
  obtain ⟨rfl, rfl⟩ := hv
  show z_G X zm_Flows_add (30, [(0, z_r 54), (1, .inl p1)], [], zW T' G' S27 n, 0, 0)
  exact z_vret M (by decide +kernel) rfl (by decide) (by decide) (hQ _ K)

-- TrackHouse$Flows.swap
abbrev rm_Flows_swap_55 : Room := zr 1
def F_Flows_swap_55 (S : (Nat → Nat → Int32)) (p1 : Int32) (p2 : Int32) : (Nat → Nat → Int32) := (z_let (zPut S 55 4 p1 (zAt (S 55) 4 p2)) (fun S13 => (z_let (zPut S13 55 4 p2 (zAt (S 55) 4 p1)) (fun S19 => S19))))
theorem c_Flows_swap_55 (T' : Nat → Nat × Nat) (G' : Nat → Nat → Option Nat) (S : (Nat → Nat → Int32)) (n : Nat) (p1 : Int32) (p2 : Int32) : z_Run rm_Flows_swap_55 zm_Flows_swap [z_r 55, .inl p1, .inl p2] (zW T' G' S n) (zq none (zW T' G' (F_Flows_swap_55 S p1 p2) n)) := by
  refine z_body (by decide) zf_Flows_ok (Nat.le_of_ble_eq_true rfl) (fun X M => ?_)
  obtain ⟨Q, hQ, K⟩ : ∃ Q : (Nat → Nat → Int32) → Prop, (∀ S', Q S' → zq none (zW T' G' (F_Flows_swap_55 S p1 p2) n) none (zW T' G' S' n)) ∧ Q (F_Flows_swap_55 S p1 p2) := ⟨fun o => F_Flows_swap_55 S p1 p2 = o, fun S' h => ⟨rfl, by rw [h]⟩, rfl⟩
  show z_G X zm_Flows_swap (0, [(0, z_r 55), (1, .inl p1), (2, .inl p2)], [], zW T' G' S n, 0, 0)
  unfold F_Flows_swap_55 at K
  refine z_go2 M.1 0 [(.aload_n 0, 1), (.iload_n 1, 1)] (2, [(0, z_r 55), (1, .inl p1), (2, .inl p2)], [.inl p1, z_r 55], zW T' G' S n, 0, 0) (by decide +kernel) rfl ⟨trivial, trivial, trivial⟩ ?_
  refine z_callS M.1 (av := [z_r 55, .inl p1]) (st := []) (by decide +kernel) (c_at (zW T' G' S n) 55 4 rfl (by decide) p1) M.2.1 zl_Flows_34 zs_T_at ⟨by decide, by decide, by decide, by decide⟩ rfl (Nat.le_of_ble_eq_true rfl) (fun v w' hv => ?_)
  obtain ⟨rfl, rfl⟩ := hv
  show z_G X zm_Flows_swap (5, [(0, z_r 55), (1, .inl p1), (2, .inl p2)], [.inl (zAt (S 55) 4 p1)], zW T' G' S n, 0, 0)
  refine z_go2 M.1 5 [(.istore_n 3, 1), (.aload_n 0, 1), (.iload_n 1, 1), (.aload_n 0, 1), (.iload_n 2, 1)] (10, [(3, .inl (zAt (S 55) 4 p1)), (0, z_r 55), (1, .inl p1), (2, .inl p2)], [.inl p2, z_r 55, .inl p1, z_r 55], zW T' G' S n, 0, 0) (by decide +kernel) rfl ⟨trivial, trivial, trivial, trivial, trivial, trivial⟩ ?_
  refine z_callS M.1 (av := [z_r 55, .inl p2]) (st := [.inl p1, z_r 55]) (by decide +kernel) (c_at (zW T' G' S n) 55 4 rfl (by decide) p2) M.2.1 zl_Flows_34 zs_T_at ⟨by decide, by decide, by decide, by decide⟩ rfl (Nat.le_of_ble_eq_true rfl) (fun v w' hv => ?_)
  obtain ⟨rfl, rfl⟩ := hv
  show z_G X zm_Flows_swap (13, [(3, .inl (zAt (S 55) 4 p1)), (0, z_r 55), (1, .inl p1), (2, .inl p2)], [.inl (zAt (S 55) 4 p2), .inl p1, z_r 55], zW T' G' S n, 0, 0)
  refine z_callS M.1 (av := [z_r 55, .inl p1, .inl (zAt (S 55) 4 p2)]) (st := []) (by decide +kernel) (c_put (zW T' G' S n) 55 4 rfl (by decide) p1 (zAt (S 55) 4 p2)) M.2.1 zl_Flows_42 zs_T_put ⟨by decide, by decide, by decide, by decide⟩ rfl (Nat.le_of_ble_eq_true rfl) (fun v w' hv => ?_)
  obtain ⟨S13, hF13⟩ : ∃ y, zPut S 55 4 p1 (zAt (S 55) 4 p2) = y := ⟨_, rfl⟩
  replace hv : v = none ∧ w' = zW T' G' (zPut S 55 4 p1 (zAt (S 55) 4 p2)) n := hv
  rw [hF13] at K hv
  try dsimp only [z_let] at K
  obtain ⟨rfl, rfl⟩ := hv
  show z_G X zm_Flows_swap (16, [(3, .inl (zAt (S 55) 4 p1)), (0, z_r 55), (1, .inl p1), (2, .inl p2)], [], zW T' G' S13 n, 0, 0)
  refine z_go2 M.1 16 [(.aload_n 0, 1), (.iload_n 2, 1), (.iload_n 3, 1)] (19, [(3, .inl (zAt (S 55) 4 p1)), (0, z_r 55), (1, .inl p1), (2, .inl p2)], [.inl (zAt (S 55) 4 p1), .inl p2, z_r 55], zW T' G' S13 n, 0, 0) (by decide +kernel) rfl ⟨trivial, trivial, trivial, trivial⟩ ?_
  refine z_callS M.1 (av := [z_r 55, .inl p2, .inl (zAt (S 55) 4 p1)]) (st := []) (by decide +kernel) (c_put (zW T' G' S13 n) 55 4 rfl (by decide) p2 (zAt (S 55) 4 p1)) M.2.1 zl_Flows_42 zs_T_put ⟨by decide, by decide, by decide, by decide⟩ rfl (Nat.le_of_ble_eq_true rfl) (fun v w' hv => ?_)
  obtain ⟨S19, hF19⟩ : ∃ y, zPut S13 55 4 p2 (zAt (S 55) 4 p1) = y := ⟨_, rfl⟩
  replace hv : v = none ∧ w' = zW T' G' (zPut S13 55 4 p2 (zAt (S 55) 4 p1)) n := hv
  rw [hF19] at K hv
  try dsimp only [z_let] at K
  obtain ⟨rfl, rfl⟩ := hv
  show z_G X zm_Flows_swap (22, [(3, .inl (zAt (S 55) 4 p1)), (0, z_r 55), (1, .inl p1), (2, .inl p2)], [], zW T' G' S19 n, 0, 0)
  exact z_vret M (by decide +kernel) rfl (by decide) (by decide) (hQ _ K)

-- TrackHouse$Flows.swap
abbrev rm_Flows_swap_56 : Room := zr 1
def F_Flows_swap_56 (S : (Nat → Nat → Int32)) (p1 : Int32) (p2 : Int32) : (Nat → Nat → Int32) := (z_let (zPut S 56 4 p1 (zAt (S 56) 4 p2)) (fun S13 => (z_let (zPut S13 56 4 p2 (zAt (S 56) 4 p1)) (fun S19 => S19))))
theorem c_Flows_swap_56 (T' : Nat → Nat × Nat) (G' : Nat → Nat → Option Nat) (S : (Nat → Nat → Int32)) (n : Nat) (p1 : Int32) (p2 : Int32) : z_Run rm_Flows_swap_56 zm_Flows_swap [z_r 56, .inl p1, .inl p2] (zW T' G' S n) (zq none (zW T' G' (F_Flows_swap_56 S p1 p2) n)) := by
  refine z_body (by decide) zf_Flows_ok (Nat.le_of_ble_eq_true rfl) (fun X M => ?_)
  obtain ⟨Q, hQ, K⟩ : ∃ Q : (Nat → Nat → Int32) → Prop, (∀ S', Q S' → zq none (zW T' G' (F_Flows_swap_56 S p1 p2) n) none (zW T' G' S' n)) ∧ Q (F_Flows_swap_56 S p1 p2) := ⟨fun o => F_Flows_swap_56 S p1 p2 = o, fun S' h => ⟨rfl, by rw [h]⟩, rfl⟩
  show z_G X zm_Flows_swap (0, [(0, z_r 56), (1, .inl p1), (2, .inl p2)], [], zW T' G' S n, 0, 0)
  unfold F_Flows_swap_56 at K
  refine z_go2 M.1 0 [(.aload_n 0, 1), (.iload_n 1, 1)] (2, [(0, z_r 56), (1, .inl p1), (2, .inl p2)], [.inl p1, z_r 56], zW T' G' S n, 0, 0) (by decide +kernel) rfl ⟨trivial, trivial, trivial⟩ ?_
  refine z_callS M.1 (av := [z_r 56, .inl p1]) (st := []) (by decide +kernel) (c_at (zW T' G' S n) 56 4 rfl (by decide) p1) M.2.1 zl_Flows_34 zs_T_at ⟨by decide, by decide, by decide, by decide⟩ rfl (Nat.le_of_ble_eq_true rfl) (fun v w' hv => ?_)
  obtain ⟨rfl, rfl⟩ := hv
  show z_G X zm_Flows_swap (5, [(0, z_r 56), (1, .inl p1), (2, .inl p2)], [.inl (zAt (S 56) 4 p1)], zW T' G' S n, 0, 0)
  refine z_go2 M.1 5 [(.istore_n 3, 1), (.aload_n 0, 1), (.iload_n 1, 1), (.aload_n 0, 1), (.iload_n 2, 1)] (10, [(3, .inl (zAt (S 56) 4 p1)), (0, z_r 56), (1, .inl p1), (2, .inl p2)], [.inl p2, z_r 56, .inl p1, z_r 56], zW T' G' S n, 0, 0) (by decide +kernel) rfl ⟨trivial, trivial, trivial, trivial, trivial, trivial⟩ ?_
  refine z_callS M.1 (av := [z_r 56, .inl p2]) (st := [.inl p1, z_r 56]) (by decide +kernel) (c_at (zW T' G' S n) 56 4 rfl (by decide) p2) M.2.1 zl_Flows_34 zs_T_at ⟨by decide, by decide, by decide, by decide⟩ rfl (Nat.le_of_ble_eq_true rfl) (fun v w' hv => ?_)
  obtain ⟨rfl, rfl⟩ := hv
  show z_G X zm_Flows_swap (13, [(3, .inl (zAt (S 56) 4 p1)), (0, z_r 56), (1, .inl p1), (2, .inl p2)], [.inl (zAt (S 56) 4 p2), .inl p1, z_r 56], zW T' G' S n, 0, 0)
  refine z_callS M.1 (av := [z_r 56, .inl p1, .inl (zAt (S 56) 4 p2)]) (st := []) (by decide +kernel) (c_put (zW T' G' S n) 56 4 rfl (by decide) p1 (zAt (S 56) 4 p2)) M.2.1 zl_Flows_42 zs_T_put ⟨by decide, by decide, by decide, by decide⟩ rfl (Nat.le_of_ble_eq_true rfl) (fun v w' hv => ?_)
  obtain ⟨S13, hF13⟩ : ∃ y, zPut S 56 4 p1 (zAt (S 56) 4 p2) = y := ⟨_, rfl⟩
  replace hv : v = none ∧ w' = zW T' G' (zPut S 56 4 p1 (zAt (S 56) 4 p2)) n := hv
  rw [hF13] at K hv
  try dsimp only [z_let] at K
  obtain ⟨rfl, rfl⟩ := hv
  show z_G X zm_Flows_swap (16, [(3, .inl (zAt (S 56) 4 p1)), (0, z_r 56), (1, .inl p1), (2, .inl p2)], [], zW T' G' S13 n, 0, 0)
  refine z_go2 M.1 16 [(.aload_n 0, 1), (.iload_n 2, 1), (.iload_n 3, 1)] (19, [(3, .inl (zAt (S 56) 4 p1)), (0, z_r 56), (1, .inl p1), (2, .inl p2)], [.inl (zAt (S 56) 4 p1), .inl p2, z_r 56], zW T' G' S13 n, 0, 0) (by decide +kernel) rfl ⟨trivial, trivial, trivial, trivial⟩ ?_
  refine z_callS M.1 (av := [z_r 56, .inl p2, .inl (zAt (S 56) 4 p1)]) (st := []) (by decide +kernel) (c_put (zW T' G' S13 n) 56 4 rfl (by decide) p2 (zAt (S 56) 4 p1)) M.2.1 zl_Flows_42 zs_T_put ⟨by decide, by decide, by decide, by decide⟩ rfl (Nat.le_of_ble_eq_true rfl) (fun v w' hv => ?_)
  obtain ⟨S19, hF19⟩ : ∃ y, zPut S13 56 4 p2 (zAt (S 56) 4 p1) = y := ⟨_, rfl⟩
  replace hv : v = none ∧ w' = zW T' G' (zPut S13 56 4 p2 (zAt (S 56) 4 p1)) n := hv
  rw [hF19] at K hv
  try dsimp only [z_let] at K
  obtain ⟨rfl, rfl⟩ := hv
  show z_G X zm_Flows_swap (22, [(3, .inl (zAt (S 56) 4 p1)), (0, z_r 56), (1, .inl p1), (2, .inl p2)], [], zW T' G' S19 n, 0, 0)
  exact z_vret M (by decide +kernel) rfl (by decide) (by decide) (hQ _ K)

-- TrackHouse$Flows.swap
abbrev rm_Flows_swap_57 : Room := zr 1
def F_Flows_swap_57 (S : (Nat → Nat → Int32)) (p1 : Int32) (p2 : Int32) : (Nat → Nat → Int32) := (z_let (zPut S 57 192 p1 (zAt (S 57) 192 p2)) (fun S13 => (z_let (zPut S13 57 192 p2 (zAt (S 57) 192 p1)) (fun S19 => S19))))
theorem c_Flows_swap_57 (T' : Nat → Nat × Nat) (G' : Nat → Nat → Option Nat) (S : (Nat → Nat → Int32)) (n : Nat) (p1 : Int32) (p2 : Int32) : z_Run rm_Flows_swap_57 zm_Flows_swap [z_r 57, .inl p1, .inl p2] (zW T' G' S n) (zq none (zW T' G' (F_Flows_swap_57 S p1 p2) n)) := by
  refine z_body (by decide) zf_Flows_ok (Nat.le_of_ble_eq_true rfl) (fun X M => ?_)
  obtain ⟨Q, hQ, K⟩ : ∃ Q : (Nat → Nat → Int32) → Prop, (∀ S', Q S' → zq none (zW T' G' (F_Flows_swap_57 S p1 p2) n) none (zW T' G' S' n)) ∧ Q (F_Flows_swap_57 S p1 p2) := ⟨fun o => F_Flows_swap_57 S p1 p2 = o, fun S' h => ⟨rfl, by rw [h]⟩, rfl⟩
  show z_G X zm_Flows_swap (0, [(0, z_r 57), (1, .inl p1), (2, .inl p2)], [], zW T' G' S n, 0, 0)
  unfold F_Flows_swap_57 at K
  refine z_go2 M.1 0 [(.aload_n 0, 1), (.iload_n 1, 1)] (2, [(0, z_r 57), (1, .inl p1), (2, .inl p2)], [.inl p1, z_r 57], zW T' G' S n, 0, 0) (by decide +kernel) rfl ⟨trivial, trivial, trivial⟩ ?_
  refine z_callS M.1 (av := [z_r 57, .inl p1]) (st := []) (by decide +kernel) (c_at (zW T' G' S n) 57 192 rfl (by decide) p1) M.2.1 zl_Flows_34 zs_T_at ⟨by decide, by decide, by decide, by decide⟩ rfl (Nat.le_of_ble_eq_true rfl) (fun v w' hv => ?_)
  obtain ⟨rfl, rfl⟩ := hv
  show z_G X zm_Flows_swap (5, [(0, z_r 57), (1, .inl p1), (2, .inl p2)], [.inl (zAt (S 57) 192 p1)], zW T' G' S n, 0, 0)
  refine z_go2 M.1 5 [(.istore_n 3, 1), (.aload_n 0, 1), (.iload_n 1, 1), (.aload_n 0, 1), (.iload_n 2, 1)] (10, [(3, .inl (zAt (S 57) 192 p1)), (0, z_r 57), (1, .inl p1), (2, .inl p2)], [.inl p2, z_r 57, .inl p1, z_r 57], zW T' G' S n, 0, 0) (by decide +kernel) rfl ⟨trivial, trivial, trivial, trivial, trivial, trivial⟩ ?_
  refine z_callS M.1 (av := [z_r 57, .inl p2]) (st := [.inl p1, z_r 57]) (by decide +kernel) (c_at (zW T' G' S n) 57 192 rfl (by decide) p2) M.2.1 zl_Flows_34 zs_T_at ⟨by decide, by decide, by decide, by decide⟩ rfl (Nat.le_of_ble_eq_true rfl) (fun v w' hv => ?_)
  obtain ⟨rfl, rfl⟩ := hv
  show z_G X zm_Flows_swap (13, [(3, .inl (zAt (S 57) 192 p1)), (0, z_r 57), (1, .inl p1), (2, .inl p2)], [.inl (zAt (S 57) 192 p2), .inl p1, z_r 57], zW T' G' S n, 0, 0)
  refine z_callS M.1 (av := [z_r 57, .inl p1, .inl (zAt (S 57) 192 p2)]) (st := []) (by decide +kernel) (c_put (zW T' G' S n) 57 192 rfl (by decide) p1 (zAt (S 57) 192 p2)) M.2.1 zl_Flows_42 zs_T_put ⟨by decide, by decide, by decide, by decide⟩ rfl (Nat.le_of_ble_eq_true rfl) (fun v w' hv => ?_)
  obtain ⟨S13, hF13⟩ : ∃ y, zPut S 57 192 p1 (zAt (S 57) 192 p2) = y := ⟨_, rfl⟩
  replace hv : v = none ∧ w' = zW T' G' (zPut S 57 192 p1 (zAt (S 57) 192 p2)) n := hv
  rw [hF13] at K hv
  try dsimp only [z_let] at K
  obtain ⟨rfl, rfl⟩ := hv
  show z_G X zm_Flows_swap (16, [(3, .inl (zAt (S 57) 192 p1)), (0, z_r 57), (1, .inl p1), (2, .inl p2)], [], zW T' G' S13 n, 0, 0)
  refine z_go2 M.1 16 [(.aload_n 0, 1), (.iload_n 2, 1), (.iload_n 3, 1)] (19, [(3, .inl (zAt (S 57) 192 p1)), (0, z_r 57), (1, .inl p1), (2, .inl p2)], [.inl (zAt (S 57) 192 p1), .inl p2, z_r 57], zW T' G' S13 n, 0, 0) (by decide +kernel) rfl ⟨trivial, trivial, trivial, trivial⟩ ?_
  refine z_callS M.1 (av := [z_r 57, .inl p2, .inl (zAt (S 57) 192 p1)]) (st := []) (by decide +kernel) (c_put (zW T' G' S13 n) 57 192 rfl (by decide) p2 (zAt (S 57) 192 p1)) M.2.1 zl_Flows_42 zs_T_put ⟨by decide, by decide, by decide, by decide⟩ rfl (Nat.le_of_ble_eq_true rfl) (fun v w' hv => ?_)
  obtain ⟨S19, hF19⟩ : ∃ y, zPut S13 57 192 p2 (zAt (S 57) 192 p1) = y := ⟨_, rfl⟩
  replace hv : v = none ∧ w' = zW T' G' (zPut S13 57 192 p2 (zAt (S 57) 192 p1)) n := hv
  rw [hF19] at K hv
  try dsimp only [z_let] at K
  obtain ⟨rfl, rfl⟩ := hv
  show z_G X zm_Flows_swap (22, [(3, .inl (zAt (S 57) 192 p1)), (0, z_r 57), (1, .inl p1), (2, .inl p2)], [], zW T' G' S19 n, 0, 0)
  exact z_vret M (by decide +kernel) rfl (by decide) (by decide) (hQ _ K)

-- TrackHouse$Flows.setEnds
abbrev rm_Flows_setEnds : Room := zr 2
def F_Flows_setEnds (S : (Nat → Nat → Int32)) (p1 : Int32) (p2 : Int32) (p3 : Int32) : (Nat → Nat → Int32) := (z_let (F_Flows_setPart S p1 0 p2) (fun S4 => (z_let (F_Flows_setPart S4 p1 1 p3) (fun S11 => S11))))
theorem c_Flows_setEnds (T' : Nat → Nat × Nat) (G' : Nat → Nat → Option Nat) (S : (Nat → Nat → Int32)) (n : Nat) (p1 : Int32) (p2 : Int32) (p3 : Int32) : z_Run rm_Flows_setEnds zm_Flows_setEnds [z_r 54, .inl p1, .inl p2, .inl p3] (zW T' G' S n) (zq none (zW T' G' (F_Flows_setEnds S p1 p2 p3) n)) := by
  refine z_body (by decide) zf_Flows_ok (Nat.le_of_ble_eq_true rfl) (fun X M => ?_)
  obtain ⟨Q, hQ, K⟩ : ∃ Q : (Nat → Nat → Int32) → Prop, (∀ S', Q S' → zq none (zW T' G' (F_Flows_setEnds S p1 p2 p3) n) none (zW T' G' S' n)) ∧ Q (F_Flows_setEnds S p1 p2 p3) := ⟨fun o => F_Flows_setEnds S p1 p2 p3 = o, fun S' h => ⟨rfl, by rw [h]⟩, rfl⟩
  show z_G X zm_Flows_setEnds (0, [(0, z_r 54), (1, .inl p1), (2, .inl p2), (3, .inl p3)], [], zW T' G' S n, 0, 0)
  unfold F_Flows_setEnds at K
  refine z_go2 M.1 0 [(.aload_n 0, 1), (.iload_n 1, 1), (.iconst 0, 1), (.iload_n 2, 1)] (4, [(0, z_r 54), (1, .inl p1), (2, .inl p2), (3, .inl p3)], [.inl p2, .inl 0, .inl p1, z_r 54], zW T' G' S n, 0, 0) (by decide +kernel) rfl ⟨trivial, trivial, trivial, trivial, trivial⟩ ?_
  refine z_callV M.1 (av := [.inl p1, .inl 0, .inl p2]) (st := []) (a := 54) (ci := 2) (by decide +kernel) (c_Flows_setPart T' G' S n p1 0 p2) M.2.1 zl_Flows_46 zv_Flows_setPart rfl rfl rfl ⟨by decide, by decide, by decide, by decide⟩ rfl (Nat.le_of_ble_eq_true rfl) (fun v w' hv => ?_)
  obtain ⟨S4, hF4⟩ : ∃ y, F_Flows_setPart S p1 0 p2 = y := ⟨_, rfl⟩
  rw [hF4] at K hv
  try dsimp only [z_let] at K
  obtain ⟨rfl, rfl⟩ := hv
  show z_G X zm_Flows_setEnds (7, [(0, z_r 54), (1, .inl p1), (2, .inl p2), (3, .inl p3)], [], zW T' G' S4 n, 0, 0)
  refine z_go2 M.1 7 [(.aload_n 0, 1), (.iload_n 1, 1), (.iconst 1, 1), (.iload_n 3, 1)] (11, [(0, z_r 54), (1, .inl p1), (2, .inl p2), (3, .inl p3)], [.inl p3, .inl 1, .inl p1, z_r 54], zW T' G' S4 n, 0, 0) (by decide +kernel) rfl ⟨trivial, trivial, trivial, trivial, trivial⟩ ?_
  refine z_callV M.1 (av := [.inl p1, .inl 1, .inl p3]) (st := []) (a := 54) (ci := 2) (by decide +kernel) (c_Flows_setPart T' G' S4 n p1 1 p3) M.2.1 zl_Flows_46 zv_Flows_setPart rfl rfl rfl ⟨by decide, by decide, by decide, by decide⟩ rfl (Nat.le_of_ble_eq_true rfl) (fun v w' hv => ?_)
  obtain ⟨S11, hF11⟩ : ∃ y, F_Flows_setPart S4 p1 1 p3 = y := ⟨_, rfl⟩
  rw [hF11] at K hv
  try dsimp only [z_let] at K
  obtain ⟨rfl, rfl⟩ := hv
  show z_G X zm_Flows_setEnds (14, [(0, z_r 54), (1, .inl p1), (2, .inl p2), (3, .inl p3)], [], zW T' G' S11 n, 0, 0)
  exact z_vret M (by decide +kernel) rfl (by decide) (by decide) (hQ _ K)

-- TrackHouse$Flows.setTerms
abbrev rm_Flows_setTerms : Room := zr 2
def F_Flows_setTerms (S : (Nat → Nat → Int32)) (p1 : Int32) (p2 : Int32) (p3 : Int32) (p4 : Int32) (p5 : Int32) : (Nat → Nat → Int32) := (z_let (F_Flows_setPart S p1 2 p2) (fun S4 => (z_let (F_Flows_setPart S4 p1 3 p3) (fun S11 => (z_let (F_Flows_setPart S11 p1 4 p4) (fun S19 => (z_let (F_Flows_setPart S19 p1 5 p5) (fun S27 => S27))))))))
theorem c_Flows_setTerms (T' : Nat → Nat × Nat) (G' : Nat → Nat → Option Nat) (S : (Nat → Nat → Int32)) (n : Nat) (p1 : Int32) (p2 : Int32) (p3 : Int32) (p4 : Int32) (p5 : Int32) : z_Run rm_Flows_setTerms zm_Flows_setTerms [z_r 54, .inl p1, .inl p2, .inl p3, .inl p4, .inl p5] (zW T' G' S n) (zq none (zW T' G' (F_Flows_setTerms S p1 p2 p3 p4 p5) n)) := by
  refine z_body (by decide) zf_Flows_ok (Nat.le_of_ble_eq_true rfl) (fun X M => ?_)
  obtain ⟨Q, hQ, K⟩ : ∃ Q : (Nat → Nat → Int32) → Prop, (∀ S', Q S' → zq none (zW T' G' (F_Flows_setTerms S p1 p2 p3 p4 p5) n) none (zW T' G' S' n)) ∧ Q (F_Flows_setTerms S p1 p2 p3 p4 p5) := ⟨fun o => F_Flows_setTerms S p1 p2 p3 p4 p5 = o, fun S' h => ⟨rfl, by rw [h]⟩, rfl⟩
  show z_G X zm_Flows_setTerms (0, [(0, z_r 54), (1, .inl p1), (2, .inl p2), (3, .inl p3), (4, .inl p4), (5, .inl p5)], [], zW T' G' S n, 0, 0)
  unfold F_Flows_setTerms at K
  refine z_go2 M.1 0 [(.aload_n 0, 1), (.iload_n 1, 1), (.iconst 2, 1), (.iload_n 2, 1)] (4, [(0, z_r 54), (1, .inl p1), (2, .inl p2), (3, .inl p3), (4, .inl p4), (5, .inl p5)], [.inl p2, .inl 2, .inl p1, z_r 54], zW T' G' S n, 0, 0) (by decide +kernel) rfl ⟨trivial, trivial, trivial, trivial, trivial⟩ ?_
  refine z_callV M.1 (av := [.inl p1, .inl 2, .inl p2]) (st := []) (a := 54) (ci := 2) (by decide +kernel) (c_Flows_setPart T' G' S n p1 2 p2) M.2.1 zl_Flows_46 zv_Flows_setPart rfl rfl rfl ⟨by decide, by decide, by decide, by decide⟩ rfl (Nat.le_of_ble_eq_true rfl) (fun v w' hv => ?_)
  obtain ⟨S4, hF4⟩ : ∃ y, F_Flows_setPart S p1 2 p2 = y := ⟨_, rfl⟩
  rw [hF4] at K hv
  try dsimp only [z_let] at K
  obtain ⟨rfl, rfl⟩ := hv
  show z_G X zm_Flows_setTerms (7, [(0, z_r 54), (1, .inl p1), (2, .inl p2), (3, .inl p3), (4, .inl p4), (5, .inl p5)], [], zW T' G' S4 n, 0, 0)
  refine z_go2 M.1 7 [(.aload_n 0, 1), (.iload_n 1, 1), (.iconst 3, 1), (.iload_n 3, 1)] (11, [(0, z_r 54), (1, .inl p1), (2, .inl p2), (3, .inl p3), (4, .inl p4), (5, .inl p5)], [.inl p3, .inl 3, .inl p1, z_r 54], zW T' G' S4 n, 0, 0) (by decide +kernel) rfl ⟨trivial, trivial, trivial, trivial, trivial⟩ ?_
  refine z_callV M.1 (av := [.inl p1, .inl 3, .inl p3]) (st := []) (a := 54) (ci := 2) (by decide +kernel) (c_Flows_setPart T' G' S4 n p1 3 p3) M.2.1 zl_Flows_46 zv_Flows_setPart rfl rfl rfl ⟨by decide, by decide, by decide, by decide⟩ rfl (Nat.le_of_ble_eq_true rfl) (fun v w' hv => ?_)
  obtain ⟨S11, hF11⟩ : ∃ y, F_Flows_setPart S4 p1 3 p3 = y := ⟨_, rfl⟩
  rw [hF11] at K hv
  try dsimp only [z_let] at K
  obtain ⟨rfl, rfl⟩ := hv
  show z_G X zm_Flows_setTerms (14, [(0, z_r 54), (1, .inl p1), (2, .inl p2), (3, .inl p3), (4, .inl p4), (5, .inl p5)], [], zW T' G' S11 n, 0, 0)
  refine z_go2 M.1 14 [(.aload_n 0, 1), (.iload_n 1, 1), (.iconst 4, 1), (.iload 4, 2)] (19, [(0, z_r 54), (1, .inl p1), (2, .inl p2), (3, .inl p3), (4, .inl p4), (5, .inl p5)], [.inl p4, .inl 4, .inl p1, z_r 54], zW T' G' S11 n, 0, 0) (by decide +kernel) rfl ⟨trivial, trivial, trivial, trivial, trivial⟩ ?_
  refine z_callV M.1 (av := [.inl p1, .inl 4, .inl p4]) (st := []) (a := 54) (ci := 2) (by decide +kernel) (c_Flows_setPart T' G' S11 n p1 4 p4) M.2.1 zl_Flows_46 zv_Flows_setPart rfl rfl rfl ⟨by decide, by decide, by decide, by decide⟩ rfl (Nat.le_of_ble_eq_true rfl) (fun v w' hv => ?_)
  obtain ⟨S19, hF19⟩ : ∃ y, F_Flows_setPart S11 p1 4 p4 = y := ⟨_, rfl⟩
  rw [hF19] at K hv
  try dsimp only [z_let] at K
  obtain ⟨rfl, rfl⟩ := hv
  show z_G X zm_Flows_setTerms (22, [(0, z_r 54), (1, .inl p1), (2, .inl p2), (3, .inl p3), (4, .inl p4), (5, .inl p5)], [], zW T' G' S19 n, 0, 0)
  refine z_go2 M.1 22 [(.aload_n 0, 1), (.iload_n 1, 1), (.iconst 5, 1), (.iload 5, 2)] (27, [(0, z_r 54), (1, .inl p1), (2, .inl p2), (3, .inl p3), (4, .inl p4), (5, .inl p5)], [.inl p5, .inl 5, .inl p1, z_r 54], zW T' G' S19 n, 0, 0) (by decide +kernel) rfl ⟨trivial, trivial, trivial, trivial, trivial⟩ ?_
  refine z_callV M.1 (av := [.inl p1, .inl 5, .inl p5]) (st := []) (a := 54) (ci := 2) (by decide +kernel) (c_Flows_setPart T' G' S19 n p1 5 p5) M.2.1 zl_Flows_46 zv_Flows_setPart rfl rfl rfl ⟨by decide, by decide, by decide, by decide⟩ rfl (Nat.le_of_ble_eq_true rfl) (fun v w' hv => ?_)
  obtain ⟨S27, hF27⟩ : ∃ y, F_Flows_setPart S19 p1 5 p5 = y := ⟨_, rfl⟩
  rw [hF27] at K hv
  try dsimp only [z_let] at K
  obtain ⟨rfl, rfl⟩ := hv
  show z_G X zm_Flows_setTerms (30, [(0, z_r 54), (1, .inl p1), (2, .inl p2), (3, .inl p3), (4, .inl p4), (5, .inl p5)], [], zW T' G' S27 n, 0, 0)
  exact z_vret M (by decide +kernel) rfl (by decide) (by decide) (hQ _ K)

-- TrackHouse$Flows.remove
abbrev rm_Flows_remove : Room := zr 2
def F_Flows_remove_L80 (x1 : Int32) (x3 : Int32) (x4 : Int32) (x5 : Int32) : Nat → (Nat → Nat → Int32) → Int32 → ((Nat → Nat → Int32))
  | 0, S, x6 => S
  | f + 1, S, x6 => (if (6 : Int32) ≤ x6 then S else (z_let (F_Flows_setPart S x4 x6 (F_Flows_part S 3 x5 x6)) (fun S101 => ((F_Flows_remove_L80 x1 x3 x4 x5 f) S101 (x6 + 1)))))
def Sf_Flows_remove_L80 (x1 : Int32) (x3 : Int32) (x4 : Int32) (x5 : Int32) : Nat → (Nat → Nat → Int32) → Int32 → Prop
  | 0, _, _ => False
  | f + 1, S, x6 => (if (6 : Int32) ≤ x6 then True else (z_let (F_Flows_setPart S x4 x6 (F_Flows_part S 3 x5 x6)) (fun S101 => ((Sf_Flows_remove_L80 x1 x3 x4 x5 f) S101 (x6 + 1)))))
theorem t_Flows_remove_L80 {X : z_X} {Post : Option z_V → z_W → Prop} (M : z_M X zm_Flows_remove rm_Flows_remove Post) {T' : Nat → Nat × Nat} {G' : Nat → Nat → Option Nat} {n : Nat} {Q : ((Nat → Nat → Int32)) → Prop}  (x1 : Int32) (x3 : Int32) (x4 : Int32) (x5 : Int32) (hE : ∀ (S' : (Nat → Nat → Int32)), Q S' → z_G X zm_Flows_remove (110, [(0, z_r 54), (1, .inl x1), (3, .inl x3), (4, .inl x4), (5, .inl x5)], [], zW T' G' S' n, 0, 0)) (f : Nat) : ∀ (S : (Nat → Nat → Int32)) (x6 : Int32), Q (F_Flows_remove_L80 x1 x3 x4 x5 f S x6) → Sf_Flows_remove_L80 x1 x3 x4 x5 f S x6 → z_G X zm_Flows_remove (80, [(0, z_r 54), (1, .inl x1), (3, .inl x3), (4, .inl x4), (5, .inl x5), (6, .inl x6)], [], zW T' G' S n, 0, 0) := by
  induction f with
  | zero => intro S x6 K hs; exact False.elim hs
  | succ f hC =>
    intro S x6 K hs
    rw [F_Flows_remove_L80] at K
    rw [Sf_Flows_remove_L80] at hs
    refine z_go2 M.1 80 [(.iload 6, 2), (.bipush 6, 2)] (84, [(0, z_r 54), (1, .inl x1), (3, .inl x3), (4, .inl x4), (5, .inl x5), (6, .inl x6)], [.inl 6, .inl x6], zW T' G' S n, 0, 0) (by decide +kernel) rfl ⟨trivial, trivial, trivial⟩ ?_
    refine z_icmp_ge 110 M.1 (off := 26) (by decide +kernel) (by decide) (fun c84 => ?_) (fun c84 => ?_)
    · rw [if_pos c84] at K hs
      exact z_lvs (lv' := [(0, z_r 54), (1, .inl x1), (3, .inl x3), (4, .inl x4), (5, .inl x5)]) [0, 1, 2, 3, 4] rfl (hE S K)
    · rw [if_neg c84] at K hs
      refine z_go2 M.1 87 [(.aload_n 0, 1), (.iload 4, 2), (.iload 6, 2), (.aload_n 0, 1), (.iconst 3, 1), (.iload 5, 2), (.iload 6, 2)] (98, [(0, z_r 54), (1, .inl x1), (3, .inl x3), (4, .inl x4), (5, .inl x5), (6, .inl x6)], [.inl x6, .inl x5, .inl 3, z_r 54, .inl x6, .inl x4, z_r 54], zW T' G' S n, 0, 0) (by decide +kernel) rfl ⟨trivial, trivial, trivial, trivial, trivial, trivial, trivial, trivial⟩ ?_
      refine z_callV M.1 (av := [.inl 3, .inl x5, .inl x6]) (st := [.inl x6, .inl x4, z_r 54]) (a := 54) (ci := 2) (by decide +kernel) (c_Flows_part T' G' S n 3 x5 x6) M.2.1 zl_Flows_54 zv_Flows_part rfl rfl rfl ⟨by decide, by decide, by decide, by decide⟩ rfl (Nat.le_of_ble_eq_true rfl) (fun v w' hv => ?_)
      obtain ⟨rfl, rfl⟩ := hv
      show z_G X zm_Flows_remove (101, [(0, z_r 54), (1, .inl x1), (3, .inl x3), (4, .inl x4), (5, .inl x5), (6, .inl x6)], [.inl (F_Flows_part S 3 x5 x6), .inl x6, .inl x4, z_r 54], zW T' G' S n, 0, 0)
      refine z_callV M.1 (av := [.inl x4, .inl x6, .inl (F_Flows_part S 3 x5 x6)]) (st := []) (a := 54) (ci := 2) (by decide +kernel) (c_Flows_setPart T' G' S n x4 x6 (F_Flows_part S 3 x5 x6)) M.2.1 zl_Flows_46 zv_Flows_setPart rfl rfl rfl ⟨by decide, by decide, by decide, by decide⟩ rfl (Nat.le_of_ble_eq_true rfl) (fun v w' hv => ?_)
      obtain ⟨S101, hF101⟩ : ∃ y, F_Flows_setPart S x4 x6 (F_Flows_part S 3 x5 x6) = y := ⟨_, rfl⟩
      rw [hF101] at K hv hs
      try dsimp only [z_let] at K hs
      obtain ⟨rfl, rfl⟩ := hv
      show z_G X zm_Flows_remove (104, [(0, z_r 54), (1, .inl x1), (3, .inl x3), (4, .inl x4), (5, .inl x5), (6, .inl x6)], [], zW T' G' S101 n, 0, 0)
      refine z_go2 M.1 104 [(.iinc 6 1, 3), (.goto (-27), 3)] (80, [(6, .inl (x6 + 1)), (0, z_r 54), (1, .inl x1), (3, .inl x3), (4, .inl x4), (5, .inl x5)], [], zW T' G' S101 n, 0, 0) (by decide +kernel) rfl ⟨trivial, trivial, trivial⟩ ?_
      exact z_lvs (lv' := [(0, z_r 54), (1, .inl x1), (3, .inl x3), (4, .inl x4), (5, .inl x5), (6, .inl (x6 + 1))]) [1, 2, 3, 4, 5, 0] rfl (hC S101 (x6 + 1) K hs)
def F_Flows_remove_L47 (x1 : Int32) (x3 : Int32) : Nat → (Nat → Nat → Int32) → Int32 → Int32 → (Int32 × (Nat → Nat → Int32))
  | 0, S, x4, x5 => (x4, S)
  | f + 1, S, x4, x5 => (if x3 ≤ x5 then (x4, S) else (if (F_Flows_part S 3 x5 0) = x1 then ((F_Flows_remove_L47 x1 x3 f) S x4 (x5 + 1)) else (if (F_Flows_part S 3 x5 1) = x1 then ((F_Flows_remove_L47 x1 x3 f) S x4 (x5 + 1)) else (match F_Flows_remove_L80 x1 x3 x4 x5 1300 S 0 with | S80 => ((F_Flows_remove_L47 x1 x3 f) S80 (x4 + 1) (x5 + 1))))))
def Sf_Flows_remove_L47 (x1 : Int32) (x3 : Int32) : Nat → (Nat → Nat → Int32) → Int32 → Int32 → Prop
  | 0, _, _, _ => False
  | f + 1, S, x4, x5 => (if x3 ≤ x5 then True else (if (F_Flows_part S 3 x5 0) = x1 then ((Sf_Flows_remove_L47 x1 x3 f) S x4 (x5 + 1)) else (if (F_Flows_part S 3 x5 1) = x1 then ((Sf_Flows_remove_L47 x1 x3 f) S x4 (x5 + 1)) else (Sf_Flows_remove_L80 x1 x3 x4 x5 1300 S 0 ∧ (match F_Flows_remove_L80 x1 x3 x4 x5 1300 S 0 with | S80 => ((Sf_Flows_remove_L47 x1 x3 f) S80 (x4 + 1) (x5 + 1)))))))
theorem t_Flows_remove_L47 {X : z_X} {Post : Option z_V → z_W → Prop} (M : z_M X zm_Flows_remove rm_Flows_remove Post) {T' : Nat → Nat × Nat} {G' : Nat → Nat → Option Nat} {n : Nat} {Q : (Int32 × (Nat → Nat → Int32)) → Prop}  (x1 : Int32) (x3 : Int32) (hE : ∀ (y4 : Int32) (S' : (Nat → Nat → Int32)), Q (y4, S') → z_G X zm_Flows_remove (119, [(0, z_r 54), (3, .inl x3), (4, .inl y4)], [], zW T' G' S' n, 0, 0)) (f : Nat) : ∀ (S : (Nat → Nat → Int32)) (x4 : Int32) (x5 : Int32), Q (F_Flows_remove_L47 x1 x3 f S x4 x5) → Sf_Flows_remove_L47 x1 x3 f S x4 x5 → z_G X zm_Flows_remove (47, [(0, z_r 54), (1, .inl x1), (3, .inl x3), (4, .inl x4), (5, .inl x5)], [], zW T' G' S n, 0, 0) := by
  induction f with
  | zero => intro S x4 x5 K hs; exact False.elim hs
  | succ f hC =>
    intro S x4 x5 K hs
    rw [F_Flows_remove_L47] at K
    rw [Sf_Flows_remove_L47] at hs
    refine z_go2 M.1 47 [(.iload 5, 2), (.iload_n 3, 1)] (50, [(0, z_r 54), (1, .inl x1), (3, .inl x3), (4, .inl x4), (5, .inl x5)], [.inl x3, .inl x5], zW T' G' S n, 0, 0) (by decide +kernel) rfl ⟨trivial, trivial, trivial⟩ ?_
    refine z_icmp_ge 119 M.1 (off := 69) (by decide +kernel) (by decide) (fun c50 => ?_) (fun c50 => ?_)
    · rw [if_pos c50] at K hs
      exact z_lvs (lv' := [(0, z_r 54), (3, .inl x3), (4, .inl x4)]) [0, 2, 3] rfl (hE x4 S K)
    · rw [if_neg c50] at K hs
      refine z_go2 M.1 53 [(.aload_n 0, 1), (.iconst 3, 1), (.iload 5, 2), (.iconst 0, 1)] (58, [(0, z_r 54), (1, .inl x1), (3, .inl x3), (4, .inl x4), (5, .inl x5)], [.inl 0, .inl x5, .inl 3, z_r 54], zW T' G' S n, 0, 0) (by decide +kernel) rfl ⟨trivial, trivial, trivial, trivial, trivial⟩ ?_
      refine z_callV M.1 (av := [.inl 3, .inl x5, .inl 0]) (st := []) (a := 54) (ci := 2) (by decide +kernel) (c_Flows_part T' G' S n 3 x5 0) M.2.1 zl_Flows_54 zv_Flows_part rfl rfl rfl ⟨by decide, by decide, by decide, by decide⟩ rfl (Nat.le_of_ble_eq_true rfl) (fun v w' hv => ?_)
      obtain ⟨rfl, rfl⟩ := hv
      show z_G X zm_Flows_remove (61, [(0, z_r 54), (1, .inl x1), (3, .inl x3), (4, .inl x4), (5, .inl x5)], [.inl (F_Flows_part S 3 x5 0)], zW T' G' S n, 0, 0)
      refine z_go2 M.1 61 [(.iload_n 1, 1)] (62, [(0, z_r 54), (1, .inl x1), (3, .inl x3), (4, .inl x4), (5, .inl x5)], [.inl x1, .inl (F_Flows_part S 3 x5 0)], zW T' G' S n, 0, 0) (by decide +kernel) rfl ⟨trivial, trivial⟩ ?_
      refine z_icmp_eq 113 M.1 (off := 51) (by decide +kernel) (by decide) (fun c62 => ?_) (fun c62 => ?_)
      · rw [if_pos c62] at K hs
        refine z_go2 M.1 113 [(.iinc 5 1, 3), (.goto (-69), 3)] (47, [(5, .inl (x5 + 1)), (0, z_r 54), (1, .inl x1), (3, .inl x3), (4, .inl x4)], [], zW T' G' S n, 0, 0) (by decide +kernel) rfl ⟨trivial, trivial, trivial⟩ ?_
        exact z_lvs (lv' := [(0, z_r 54), (1, .inl x1), (3, .inl x3), (4, .inl x4), (5, .inl (x5 + 1))]) [1, 2, 3, 4, 0] rfl (hC S x4 (x5 + 1) K hs)
      · rw [if_neg c62] at K hs
        refine z_go2 M.1 65 [(.aload_n 0, 1), (.iconst 3, 1), (.iload 5, 2), (.iconst 1, 1)] (70, [(0, z_r 54), (1, .inl x1), (3, .inl x3), (4, .inl x4), (5, .inl x5)], [.inl 1, .inl x5, .inl 3, z_r 54], zW T' G' S n, 0, 0) (by decide +kernel) rfl ⟨trivial, trivial, trivial, trivial, trivial⟩ ?_
        refine z_callV M.1 (av := [.inl 3, .inl x5, .inl 1]) (st := []) (a := 54) (ci := 2) (by decide +kernel) (c_Flows_part T' G' S n 3 x5 1) M.2.1 zl_Flows_54 zv_Flows_part rfl rfl rfl ⟨by decide, by decide, by decide, by decide⟩ rfl (Nat.le_of_ble_eq_true rfl) (fun v w' hv => ?_)
        obtain ⟨rfl, rfl⟩ := hv
        show z_G X zm_Flows_remove (73, [(0, z_r 54), (1, .inl x1), (3, .inl x3), (4, .inl x4), (5, .inl x5)], [.inl (F_Flows_part S 3 x5 1)], zW T' G' S n, 0, 0)
        refine z_go2 M.1 73 [(.iload_n 1, 1)] (74, [(0, z_r 54), (1, .inl x1), (3, .inl x3), (4, .inl x4), (5, .inl x5)], [.inl x1, .inl (F_Flows_part S 3 x5 1)], zW T' G' S n, 0, 0) (by decide +kernel) rfl ⟨trivial, trivial⟩ ?_
        refine z_icmp_eq 113 M.1 (off := 39) (by decide +kernel) (by decide) (fun c74 => ?_) (fun c74 => ?_)
        · rw [if_pos c74] at K hs
          refine z_go2 M.1 113 [(.iinc 5 1, 3), (.goto (-69), 3)] (47, [(5, .inl (x5 + 1)), (0, z_r 54), (1, .inl x1), (3, .inl x3), (4, .inl x4)], [], zW T' G' S n, 0, 0) (by decide +kernel) rfl ⟨trivial, trivial, trivial⟩ ?_
          exact z_lvs (lv' := [(0, z_r 54), (1, .inl x1), (3, .inl x3), (4, .inl x4), (5, .inl (x5 + 1))]) [1, 2, 3, 4, 0] rfl (hC S x4 (x5 + 1) K hs)
        · rw [if_neg c74] at K hs
          refine z_go2 M.1 77 [(.iconst 0, 1), (.istore 6, 2)] (80, [(6, .inl 0), (0, z_r 54), (1, .inl x1), (3, .inl x3), (4, .inl x4), (5, .inl x5)], [], zW T' G' S n, 0, 0) (by decide +kernel) rfl ⟨trivial, trivial, trivial⟩ ?_
          refine z_lvs (lv' := [(0, z_r 54), (1, .inl x1), (3, .inl x3), (4, .inl x4), (5, .inl x5), (6, .inl 0)]) [1, 2, 3, 4, 5, 0] rfl ?_
          refine t_Flows_remove_L80 M (Q := fun o => F_Flows_remove_L80 x1 x3 x4 x5 1300 S 0 = o) x1 x3 x4 x5 (fun S80 hL80 => ?_) 1300 S 0 rfl hs.1
          replace hs := hs.2
          rw [hL80] at K hs
          try dsimp only at K hs
          refine z_go2 M.1 110 [(.iinc 4 1, 3), (.iinc 5 1, 3), (.goto (-69), 3)] (47, [(5, .inl (x5 + 1)), (4, .inl (x4 + 1)), (0, z_r 54), (1, .inl x1), (3, .inl x3)], [], zW T' G' S80 n, 0, 0) (by decide +kernel) rfl ⟨trivial, trivial, trivial, trivial⟩ ?_
          exact z_lvs (lv' := [(0, z_r 54), (1, .inl x1), (3, .inl x3), (4, .inl (x4 + 1)), (5, .inl (x5 + 1))]) [2, 3, 4, 1, 0] rfl (hC S80 (x4 + 1) (x5 + 1) K hs)
def F_Flows_remove (S : (Nat → Nat → Int32)) (p1 : Int32) (p2 : Int32) : (Int32 × (Nat → Nat → Int32)) := (z_let (zPut S 55 4 3 ((zAt (S 55) 4 3) &&& ((F_T_bit S p1) ^^^ (-1)))) (fun S20 => (z_let (zPut S20 58 6 p1 p2) (fun S29 => (match F_Flows_remove_L47 p1 (zAt (S29 56) 4 3) 1300 S29 0 0 with | (y4_47, S47) => (z_let (zPut S47 56 4 3 y4_47) (fun S126 => (((zAt (S29 56) 4 3) - y4_47), S126))))))))
def Sf_Flows_remove (S : (Nat → Nat → Int32)) (p1 : Int32) (p2 : Int32) : Prop := (z_let (zPut S 55 4 3 ((zAt (S 55) 4 3) &&& ((F_T_bit S p1) ^^^ (-1)))) (fun S20 => (z_let (zPut S20 58 6 p1 p2) (fun S29 => (Sf_Flows_remove_L47 p1 (zAt (S29 56) 4 3) 1300 S29 0 0 ∧ True)))))
theorem c_Flows_remove (T' : Nat → Nat × Nat) (G' : Nat → Nat → Option Nat) (S : (Nat → Nat → Int32)) (n : Nat) (p1 : Int32) (p2 : Int32) (hs : Sf_Flows_remove S p1 p2) : z_Run rm_Flows_remove zm_Flows_remove [z_r 54, .inl p1, .inl p2] (zW T' G' S n) (zq (some (.inl (F_Flows_remove S p1 p2).1)) (zW T' G' (F_Flows_remove S p1 p2).2 n)) := by
  refine z_body (by decide) zf_Flows_ok (Nat.le_of_ble_eq_true rfl) (fun X M => ?_)
  obtain ⟨Q, hQ, K⟩ : ∃ Q : (Int32 × (Nat → Nat → Int32)) → Prop, (∀ v S', Q (v, S') → zq (some (.inl (F_Flows_remove S p1 p2).1)) (zW T' G' (F_Flows_remove S p1 p2).2 n) (some (.inl v)) (zW T' G' S' n)) ∧ Q (F_Flows_remove S p1 p2) := ⟨fun o => F_Flows_remove S p1 p2 = o, fun v S' h => ⟨by rw [h], by rw [h]⟩, rfl⟩
  show z_G X zm_Flows_remove (0, [(0, z_r 54), (1, .inl p1), (2, .inl p2)], [], zW T' G' S n, 0, 0)
  unfold F_Flows_remove at K
  unfold Sf_Flows_remove at hs
  refine z_go2 M.1 0 [(.aload_n 0, 1), (.getfield 9, 3), (.iconst 3, 1), (.aload_n 0, 1), (.getfield 9, 3), (.iconst 3, 1)] (10, [(0, z_r 54), (1, .inl p1), (2, .inl p2)], [.inl 3, z_r 55, .inl 3, z_r 55], zW T' G' S n, 0, 0) (by decide +kernel) rfl ⟨trivial, rfl, trivial, trivial, rfl, trivial, trivial⟩ ?_
  refine z_callS M.1 (av := [z_r 55, .inl 3]) (st := [.inl 3, z_r 55]) (by decide +kernel) (c_at (zW T' G' S n) 55 4 rfl (by decide) 3) M.2.1 zl_Flows_34 zs_T_at ⟨by decide, by decide, by decide, by decide⟩ rfl (Nat.le_of_ble_eq_true rfl) (fun v w' hv => ?_)
  obtain ⟨rfl, rfl⟩ := hv
  show z_G X zm_Flows_remove (13, [(0, z_r 54), (1, .inl p1), (2, .inl p2)], [.inl (zAt (S 55) 4 3), .inl 3, z_r 55], zW T' G' S n, 0, 0)
  refine z_go2 M.1 13 [(.iload_n 1, 1)] (14, [(0, z_r 54), (1, .inl p1), (2, .inl p2)], [.inl p1, .inl (zAt (S 55) 4 3), .inl 3, z_r 55], zW T' G' S n, 0, 0) (by decide +kernel) rfl ⟨trivial, trivial⟩ ?_
  refine z_callS M.1 (av := [.inl p1]) (st := [.inl (zAt (S 55) 4 3), .inl 3, z_r 55]) (by decide +kernel) (c_T_bit T' G' S n p1) M.2.1 zl_Flows_50 zs_T_bit ⟨by decide, by decide, by decide, by decide⟩ rfl (Nat.le_of_ble_eq_true rfl) (fun v w' hv => ?_)
  obtain ⟨rfl, rfl⟩ := hv
  show z_G X zm_Flows_remove (17, [(0, z_r 54), (1, .inl p1), (2, .inl p2)], [.inl (F_T_bit S p1), .inl (zAt (S 55) 4 3), .inl 3, z_r 55], zW T' G' S n, 0, 0)
  refine z_go2 M.1 17 [(.iconst (-1), 1), (.ixor, 1), (.iand, 1)] (20, [(0, z_r 54), (1, .inl p1), (2, .inl p2)], [.inl ((zAt (S 55) 4 3) &&& ((F_T_bit S p1) ^^^ (-1))), .inl 3, z_r 55], zW T' G' S n, 0, 0) (by decide +kernel) rfl ⟨trivial, trivial, trivial, trivial⟩ ?_
  refine z_callS M.1 (av := [z_r 55, .inl 3, .inl ((zAt (S 55) 4 3) &&& ((F_T_bit S p1) ^^^ (-1)))]) (st := []) (by decide +kernel) (c_put (zW T' G' S n) 55 4 rfl (by decide) 3 ((zAt (S 55) 4 3) &&& ((F_T_bit S p1) ^^^ (-1)))) M.2.1 zl_Flows_42 zs_T_put ⟨by decide, by decide, by decide, by decide⟩ rfl (Nat.le_of_ble_eq_true rfl) (fun v w' hv => ?_)
  obtain ⟨S20, hF20⟩ : ∃ y, zPut S 55 4 3 ((zAt (S 55) 4 3) &&& ((F_T_bit S p1) ^^^ (-1))) = y := ⟨_, rfl⟩
  replace hv : v = none ∧ w' = zW T' G' (zPut S 55 4 3 ((zAt (S 55) 4 3) &&& ((F_T_bit S p1) ^^^ (-1)))) n := hv
  rw [hF20] at K hv hs
  try dsimp only [z_let] at K hs
  obtain ⟨rfl, rfl⟩ := hv
  show z_G X zm_Flows_remove (23, [(0, z_r 54), (1, .inl p1), (2, .inl p2)], [], zW T' G' S20 n, 0, 0)
  refine z_go2 M.1 23 [(.aload_n 0, 1), (.getfield 21, 3), (.iload_n 1, 1), (.iload_n 2, 1)] (29, [(0, z_r 54), (1, .inl p1), (2, .inl p2)], [.inl p2, .inl p1, z_r 58], zW T' G' S20 n, 0, 0) (by decide +kernel) rfl ⟨trivial, rfl, trivial, trivial, trivial⟩ ?_
  refine z_callS M.1 (av := [z_r 58, .inl p1, .inl p2]) (st := []) (by decide +kernel) (c_put (zW T' G' S20 n) 58 6 rfl (by decide) p1 p2) M.2.1 zl_Flows_42 zs_T_put ⟨by decide, by decide, by decide, by decide⟩ rfl (Nat.le_of_ble_eq_true rfl) (fun v w' hv => ?_)
  obtain ⟨S29, hF29⟩ : ∃ y, zPut S20 58 6 p1 p2 = y := ⟨_, rfl⟩
  replace hv : v = none ∧ w' = zW T' G' (zPut S20 58 6 p1 p2) n := hv
  rw [hF29] at K hv hs
  try dsimp only [z_let] at K hs
  obtain ⟨rfl, rfl⟩ := hv
  show z_G X zm_Flows_remove (32, [(0, z_r 54), (1, .inl p1), (2, .inl p2)], [], zW T' G' S29 n, 0, 0)
  refine z_go2 M.1 32 [(.aload_n 0, 1), (.getfield 15, 3), (.iconst 3, 1)] (37, [(0, z_r 54), (1, .inl p1), (2, .inl p2)], [.inl 3, z_r 56], zW T' G' S29 n, 0, 0) (by decide +kernel) rfl ⟨trivial, rfl, trivial, trivial⟩ ?_
  refine z_callS M.1 (av := [z_r 56, .inl 3]) (st := []) (by decide +kernel) (c_at (zW T' G' S29 n) 56 4 rfl (by decide) 3) M.2.1 zl_Flows_34 zs_T_at ⟨by decide, by decide, by decide, by decide⟩ rfl (Nat.le_of_ble_eq_true rfl) (fun v w' hv => ?_)
  obtain ⟨rfl, rfl⟩ := hv
  show z_G X zm_Flows_remove (40, [(0, z_r 54), (1, .inl p1), (2, .inl p2)], [.inl (zAt (S29 56) 4 3)], zW T' G' S29 n, 0, 0)
  refine z_go2 M.1 40 [(.istore_n 3, 1), (.iconst 0, 1), (.istore 4, 2), (.iconst 0, 1), (.istore 5, 2)] (47, [(5, .inl 0), (4, .inl 0), (3, .inl (zAt (S29 56) 4 3)), (0, z_r 54), (1, .inl p1), (2, .inl p2)], [], zW T' G' S29 n, 0, 0) (by decide +kernel) rfl ⟨trivial, trivial, trivial, trivial, trivial, trivial⟩ ?_
  refine z_lvs (lv' := [(0, z_r 54), (1, .inl p1), (3, .inl (zAt (S29 56) 4 3)), (4, .inl 0), (5, .inl 0)]) [3, 4, 2, 1, 0] rfl ?_
  refine t_Flows_remove_L47 M (Q := fun o => F_Flows_remove_L47 p1 (zAt (S29 56) 4 3) 1300 S29 0 0 = o) p1 (zAt (S29 56) 4 3) (fun y4_47 S47 hL47 => ?_) 1300 S29 0 0 rfl hs.1
  replace hs := hs.2
  rw [hL47] at K
  try dsimp only at K
  refine z_go2 M.1 119 [(.aload_n 0, 1), (.getfield 15, 3), (.iconst 3, 1), (.iload 4, 2)] (126, [(0, z_r 54), (3, .inl (zAt (S29 56) 4 3)), (4, .inl y4_47)], [.inl y4_47, .inl 3, z_r 56], zW T' G' S47 n, 0, 0) (by decide +kernel) rfl ⟨trivial, rfl, trivial, trivial, trivial⟩ ?_
  refine z_callS M.1 (av := [z_r 56, .inl 3, .inl y4_47]) (st := []) (by decide +kernel) (c_put (zW T' G' S47 n) 56 4 rfl (by decide) 3 y4_47) M.2.1 zl_Flows_42 zs_T_put ⟨by decide, by decide, by decide, by decide⟩ rfl (Nat.le_of_ble_eq_true rfl) (fun v w' hv => ?_)
  obtain ⟨S126, hF126⟩ : ∃ y, zPut S47 56 4 3 y4_47 = y := ⟨_, rfl⟩
  replace hv : v = none ∧ w' = zW T' G' (zPut S47 56 4 3 y4_47) n := hv
  rw [hF126] at K hv
  try dsimp only [z_let] at K
  obtain ⟨rfl, rfl⟩ := hv
  show z_G X zm_Flows_remove (129, [(0, z_r 54), (3, .inl (zAt (S29 56) 4 3)), (4, .inl y4_47)], [], zW T' G' S126 n, 0, 0)
  refine z_go2 M.1 129 [(.iload_n 3, 1), (.iload 4, 2), (.isub, 1)] (133, [(0, z_r 54), (3, .inl (zAt (S29 56) 4 3)), (4, .inl y4_47)], [.inl ((zAt (S29 56) 4 3) - y4_47)], zW T' G' S126 n, 0, 0) (by decide +kernel) rfl ⟨trivial, trivial, trivial, trivial⟩ ?_
  exact z_iret M (by decide +kernel) .int rfl rfl (by decide) (by decide) (hQ _ _ K)

-- TrackHouse$Flows.mappedFrom
abbrev rm_Flows_mappedFrom : Room := zr 2
def F_Flows_mappedFrom_L4 (S : (Nat → Nat → Int32)) : Nat → Int32 → Int32 → (Int32)
  | 0, x2, x3 => x2
  | f + 1, x2, x3 => (if (6 : Int32) ≤ x3 then x2 else (if (F_Flows_has S 3 x2) = 0 then ((F_Flows_mappedFrom_L4 S f) (zAt (S 58) 6 x2) (x3 + 1)) else x2))
def Sf_Flows_mappedFrom_L4 (S : (Nat → Nat → Int32)) : Nat → Int32 → Int32 → Prop
  | 0, _, _ => False
  | f + 1, x2, x3 => (if (6 : Int32) ≤ x3 then True else (Sf_Flows_has S 3 x2 ∧ (if (F_Flows_has S 3 x2) = 0 then ((Sf_Flows_mappedFrom_L4 S f) (zAt (S 58) 6 x2) (x3 + 1)) else True)))
theorem t_Flows_mappedFrom_L4 {X : z_X} {Post : Option z_V → z_W → Prop} (M : z_M X zm_Flows_mappedFrom rm_Flows_mappedFrom Post) {T' : Nat → Nat × Nat} {G' : Nat → Nat → Option Nat} {n : Nat} {Q : (Int32) → Prop} (S : (Nat → Nat → Int32))  (hE : ∀ (y2 : Int32), Q y2 → z_G X zm_Flows_mappedFrom (34, [(2, .inl y2)], [], zW T' G' S n, 0, 0)) (f : Nat) : ∀ (x2 : Int32) (x3 : Int32), Q (F_Flows_mappedFrom_L4 S f x2 x3) → Sf_Flows_mappedFrom_L4 S f x2 x3 → z_G X zm_Flows_mappedFrom (4, [(0, z_r 54), (2, .inl x2), (3, .inl x3)], [], zW T' G' S n, 0, 0) := by
  induction f with
  | zero => intro x2 x3 K hs; exact False.elim hs
  | succ f hC =>
    intro x2 x3 K hs
    rw [F_Flows_mappedFrom_L4] at K
    rw [Sf_Flows_mappedFrom_L4] at hs
    refine z_go2 M.1 4 [(.iload_n 3, 1), (.bipush 6, 2)] (7, [(0, z_r 54), (2, .inl x2), (3, .inl x3)], [.inl 6, .inl x3], zW T' G' S n, 0, 0) (by decide +kernel) rfl ⟨trivial, trivial, trivial⟩ ?_
    refine z_icmp_ge 34 M.1 (off := 27) (by decide +kernel) (by decide) (fun c7 => ?_) (fun c7 => ?_)
    · rw [if_pos c7] at K hs
      exact z_lvs (lv' := [(2, .inl x2)]) [1] rfl (hE x2 K)
    · rw [if_neg c7] at K hs
      refine z_go2 M.1 10 [(.aload_n 0, 1), (.iconst 3, 1), (.iload_n 2, 1)] (13, [(0, z_r 54), (2, .inl x2), (3, .inl x3)], [.inl x2, .inl 3, z_r 54], zW T' G' S n, 0, 0) (by decide +kernel) rfl ⟨trivial, trivial, trivial, trivial⟩ ?_
      refine z_callV M.1 (av := [.inl 3, .inl x2]) (st := []) (a := 54) (ci := 2) (by decide +kernel) (c_Flows_has T' G' S n 3 x2 hs.1) M.2.1 zl_Flows_58 zv_Flows_has rfl rfl rfl ⟨by decide, by decide, by decide, by decide⟩ rfl (Nat.le_of_ble_eq_true rfl) (fun v w' hv => ?_)
      obtain ⟨rfl, rfl⟩ := hv
      replace hs := hs.2
      show z_G X zm_Flows_mappedFrom (16, [(0, z_r 54), (2, .inl x2), (3, .inl x3)], [.inl (F_Flows_has S 3 x2)], zW T' G' S n, 0, 0)
      refine z_if_ne 34 M.1 (off := 18) (by decide +kernel) (by decide) (fun c16 => ?_) (fun c16 => ?_)
      · rw [if_neg c16] at K hs
        exact z_lvs (lv' := [(2, .inl x2)]) [1] rfl (hE x2 K)
      · rw [if_pos c16] at K hs
        refine z_go2 M.1 19 [(.aload_n 0, 1), (.getfield 21, 3), (.iload_n 2, 1)] (24, [(0, z_r 54), (2, .inl x2), (3, .inl x3)], [.inl x2, z_r 58], zW T' G' S n, 0, 0) (by decide +kernel) rfl ⟨trivial, rfl, trivial, trivial⟩ ?_
        refine z_callS M.1 (av := [z_r 58, .inl x2]) (st := []) (by decide +kernel) (c_at (zW T' G' S n) 58 6 rfl (by decide) x2) M.2.1 zl_Flows_34 zs_T_at ⟨by decide, by decide, by decide, by decide⟩ rfl (Nat.le_of_ble_eq_true rfl) (fun v w' hv => ?_)
        obtain ⟨rfl, rfl⟩ := hv
        show z_G X zm_Flows_mappedFrom (27, [(0, z_r 54), (2, .inl x2), (3, .inl x3)], [.inl (zAt (S 58) 6 x2)], zW T' G' S n, 0, 0)
        refine z_go2 M.1 27 [(.istore_n 2, 1), (.iinc 3 1, 3), (.goto (-27), 3)] (4, [(3, .inl (x3 + 1)), (2, .inl (zAt (S 58) 6 x2)), (0, z_r 54)], [], zW T' G' S n, 0, 0) (by decide +kernel) rfl ⟨trivial, trivial, trivial, trivial⟩ ?_
        exact z_lvs (lv' := [(0, z_r 54), (2, .inl (zAt (S 58) 6 x2)), (3, .inl (x3 + 1))]) [2, 1, 0] rfl (hC (zAt (S 58) 6 x2) (x3 + 1) K hs)
def F_Flows_mappedFrom (S : (Nat → Nat → Int32)) (p1 : Int32) : Int32 := (match F_Flows_mappedFrom_L4 S 1300 p1 0 with | y2_4 => y2_4)
def Sf_Flows_mappedFrom (S : (Nat → Nat → Int32)) (p1 : Int32) : Prop := (Sf_Flows_mappedFrom_L4 S 1300 p1 0 ∧ True)
theorem c_Flows_mappedFrom (T' : Nat → Nat × Nat) (G' : Nat → Nat → Option Nat) (S : (Nat → Nat → Int32)) (n : Nat) (p1 : Int32) (hs : Sf_Flows_mappedFrom S p1) : z_Run rm_Flows_mappedFrom zm_Flows_mappedFrom [z_r 54, .inl p1] (zW T' G' S n) (zq (some (.inl (F_Flows_mappedFrom S p1))) (zW T' G' S n)) := by
  refine z_body (by decide) zf_Flows_ok (Nat.le_of_ble_eq_true rfl) (fun X M => ?_)
  obtain ⟨Q, hQ, K⟩ : ∃ Q : Int32 → Prop, (∀ v, Q v → zq (some (.inl (F_Flows_mappedFrom S p1))) (zW T' G' S n) (some (.inl v)) (zW T' G' S n)) ∧ Q (F_Flows_mappedFrom S p1) := ⟨fun o => F_Flows_mappedFrom S p1 = o, fun v h => ⟨by rw [h], rfl⟩, rfl⟩
  show z_G X zm_Flows_mappedFrom (0, [(0, z_r 54), (1, .inl p1)], [], zW T' G' S n, 0, 0)
  unfold F_Flows_mappedFrom at K
  unfold Sf_Flows_mappedFrom at hs
  refine z_go2 M.1 0 [(.iload_n 1, 1), (.istore_n 2, 1), (.iconst 0, 1), (.istore_n 3, 1)] (4, [(3, .inl 0), (2, .inl p1), (0, z_r 54), (1, .inl p1)], [], zW T' G' S n, 0, 0) (by decide +kernel) rfl ⟨trivial, trivial, trivial, trivial, trivial⟩ ?_
  refine z_lvs (lv' := [(0, z_r 54), (2, .inl p1), (3, .inl 0)]) [2, 1, 0] rfl ?_
  refine t_Flows_mappedFrom_L4 M (Q := fun o => F_Flows_mappedFrom_L4 S 1300 p1 0 = o) S (fun y2_4 hL4 => ?_) 1300 p1 0 rfl hs.1
  replace hs := hs.2
  rw [hL4] at K
  try dsimp only at K
  refine z_go2 M.1 34 [(.iload_n 2, 1)] (35, [(2, .inl y2_4)], [.inl y2_4], zW T' G' S n, 0, 0) (by decide +kernel) rfl ⟨trivial, trivial⟩ ?_
  exact z_iret M (by decide +kernel) .int rfl rfl (by decide) (by decide) (hQ _ K)

-- TrackHouse$Flows.exchange
abbrev rm_Flows_exchange : Room := zr 2
def F_Flows_exchange_L20 (x1 : Int32) : Nat → (Nat → Nat → Int32) → Int32 → ((Nat → Nat → Int32))
  | 0, S, x2 => S
  | f + 1, S, x2 => (if (48 : Int32) ≤ x2 then S else (z_let (F_Flows_swap_57 S ((144 : Int32) + x2) (((x1 * 8) * 6) + x2)) (fun S44 => ((F_Flows_exchange_L20 x1 f) S44 (x2 + 1)))))
def Sf_Flows_exchange_L20 (x1 : Int32) : Nat → (Nat → Nat → Int32) → Int32 → Prop
  | 0, _, _ => False
  | f + 1, S, x2 => (if (48 : Int32) ≤ x2 then True else (z_let (F_Flows_swap_57 S ((144 : Int32) + x2) (((x1 * 8) * 6) + x2)) (fun S44 => ((Sf_Flows_exchange_L20 x1 f) S44 (x2 + 1)))))
theorem t_Flows_exchange_L20 {X : z_X} {Post : Option z_V → z_W → Prop} (M : z_M X zm_Flows_exchange rm_Flows_exchange Post) {T' : Nat → Nat × Nat} {G' : Nat → Nat → Option Nat} {n : Nat} {Q : ((Nat → Nat → Int32)) → Prop}  (x1 : Int32) (hE : ∀ (S' : (Nat → Nat → Int32)), Q S' → z_G X zm_Flows_exchange (53, [], [], zW T' G' S' n, 0, 0)) (f : Nat) : ∀ (S : (Nat → Nat → Int32)) (x2 : Int32), Q (F_Flows_exchange_L20 x1 f S x2) → Sf_Flows_exchange_L20 x1 f S x2 → z_G X zm_Flows_exchange (20, [(0, z_r 54), (1, .inl x1), (2, .inl x2)], [], zW T' G' S n, 0, 0) := by
  induction f with
  | zero => intro S x2 K hs; exact False.elim hs
  | succ f hC =>
    intro S x2 K hs
    rw [F_Flows_exchange_L20] at K
    rw [Sf_Flows_exchange_L20] at hs
    refine z_go2 M.1 20 [(.iload_n 2, 1), (.bipush 48, 2)] (23, [(0, z_r 54), (1, .inl x1), (2, .inl x2)], [.inl 48, .inl x2], zW T' G' S n, 0, 0) (by decide +kernel) rfl ⟨trivial, trivial, trivial⟩ ?_
    refine z_icmp_ge 53 M.1 (off := 30) (by decide +kernel) (by decide) (fun c23 => ?_) (fun c23 => ?_)
    · rw [if_pos c23] at K hs
      exact z_lvs (lv' := []) [] rfl (hE S K)
    · rw [if_neg c23] at K hs
      refine z_go2 M.1 26 [(.aload_n 0, 1), (.getfield 18, 3), (.sipush 144, 3), (.iload_n 2, 1), (.iadd, 1), (.iload_n 1, 1), (.bipush 8, 2), (.imul, 1), (.bipush 6, 2), (.imul, 1), (.iload_n 2, 1), (.iadd, 1)] (44, [(0, z_r 54), (1, .inl x1), (2, .inl x2)], [.inl (((x1 * 8) * 6) + x2), .inl ((144 : Int32) + x2), z_r 57], zW T' G' S n, 0, 0) (by decide +kernel) rfl ⟨trivial, rfl, trivial, trivial, trivial, trivial, trivial, trivial, trivial, trivial, trivial, trivial, trivial⟩ ?_
      refine z_callS M.1 (av := [z_r 57, .inl ((144 : Int32) + x2), .inl (((x1 * 8) * 6) + x2)]) (st := []) (by decide +kernel) (c_Flows_swap_57 T' G' S n ((144 : Int32) + x2) (((x1 * 8) * 6) + x2)) M.2.1 zl_Flows_61 zs_Flows_swap ⟨by decide, by decide, by decide, by decide⟩ rfl (Nat.le_of_ble_eq_true rfl) (fun v w' hv => ?_)
      obtain ⟨S44, hF44⟩ : ∃ y, F_Flows_swap_57 S ((144 : Int32) + x2) (((x1 * 8) * 6) + x2) = y := ⟨_, rfl⟩
      rw [hF44] at K hv hs
      try dsimp only [z_let] at K hs
      obtain ⟨rfl, rfl⟩ := hv
      show z_G X zm_Flows_exchange (47, [(0, z_r 54), (1, .inl x1), (2, .inl x2)], [], zW T' G' S44 n, 0, 0)
      refine z_go2 M.1 47 [(.iinc 2 1, 3), (.goto (-30), 3)] (20, [(2, .inl (x2 + 1)), (0, z_r 54), (1, .inl x1)], [], zW T' G' S44 n, 0, 0) (by decide +kernel) rfl ⟨trivial, trivial, trivial⟩ ?_
      exact z_lvs (lv' := [(0, z_r 54), (1, .inl x1), (2, .inl (x2 + 1))]) [1, 2, 0] rfl (hC S44 (x2 + 1) K hs)
def F_Flows_exchange (S : (Nat → Nat → Int32)) (p1 : Int32) : (Nat → Nat → Int32) := (z_let (F_Flows_swap_55 S 3 p1) (fun S6 => (z_let (F_Flows_swap_56 S6 3 p1) (fun S15 => (match F_Flows_exchange_L20 p1 1300 S15 0 with | S20 => S20)))))
def Sf_Flows_exchange (S : (Nat → Nat → Int32)) (p1 : Int32) : Prop := (z_let (F_Flows_swap_55 S 3 p1) (fun S6 => (z_let (F_Flows_swap_56 S6 3 p1) (fun S15 => (Sf_Flows_exchange_L20 p1 1300 S15 0 ∧ True)))))
theorem c_Flows_exchange (T' : Nat → Nat × Nat) (G' : Nat → Nat → Option Nat) (S : (Nat → Nat → Int32)) (n : Nat) (p1 : Int32) (hs : Sf_Flows_exchange S p1) : z_Run rm_Flows_exchange zm_Flows_exchange [z_r 54, .inl p1] (zW T' G' S n) (zq none (zW T' G' (F_Flows_exchange S p1) n)) := by
  refine z_body (by decide) zf_Flows_ok (Nat.le_of_ble_eq_true rfl) (fun X M => ?_)
  obtain ⟨Q, hQ, K⟩ : ∃ Q : (Nat → Nat → Int32) → Prop, (∀ S', Q S' → zq none (zW T' G' (F_Flows_exchange S p1) n) none (zW T' G' S' n)) ∧ Q (F_Flows_exchange S p1) := ⟨fun o => F_Flows_exchange S p1 = o, fun S' h => ⟨rfl, by rw [h]⟩, rfl⟩
  show z_G X zm_Flows_exchange (0, [(0, z_r 54), (1, .inl p1)], [], zW T' G' S n, 0, 0)
  unfold F_Flows_exchange at K
  unfold Sf_Flows_exchange at hs
  refine z_go2 M.1 0 [(.aload_n 0, 1), (.getfield 9, 3), (.iconst 3, 1), (.iload_n 1, 1)] (6, [(0, z_r 54), (1, .inl p1)], [.inl p1, .inl 3, z_r 55], zW T' G' S n, 0, 0) (by decide +kernel) rfl ⟨trivial, rfl, trivial, trivial, trivial⟩ ?_
  refine z_callS M.1 (av := [z_r 55, .inl 3, .inl p1]) (st := []) (by decide +kernel) (c_Flows_swap_55 T' G' S n 3 p1) M.2.1 zl_Flows_61 zs_Flows_swap ⟨by decide, by decide, by decide, by decide⟩ rfl (Nat.le_of_ble_eq_true rfl) (fun v w' hv => ?_)
  obtain ⟨S6, hF6⟩ : ∃ y, F_Flows_swap_55 S 3 p1 = y := ⟨_, rfl⟩
  rw [hF6] at K hv hs
  try dsimp only [z_let] at K hs
  obtain ⟨rfl, rfl⟩ := hv
  show z_G X zm_Flows_exchange (9, [(0, z_r 54), (1, .inl p1)], [], zW T' G' S6 n, 0, 0)
  refine z_go2 M.1 9 [(.aload_n 0, 1), (.getfield 15, 3), (.iconst 3, 1), (.iload_n 1, 1)] (15, [(0, z_r 54), (1, .inl p1)], [.inl p1, .inl 3, z_r 56], zW T' G' S6 n, 0, 0) (by decide +kernel) rfl ⟨trivial, rfl, trivial, trivial, trivial⟩ ?_
  refine z_callS M.1 (av := [z_r 56, .inl 3, .inl p1]) (st := []) (by decide +kernel) (c_Flows_swap_56 T' G' S6 n 3 p1) M.2.1 zl_Flows_61 zs_Flows_swap ⟨by decide, by decide, by decide, by decide⟩ rfl (Nat.le_of_ble_eq_true rfl) (fun v w' hv => ?_)
  obtain ⟨S15, hF15⟩ : ∃ y, F_Flows_swap_56 S6 3 p1 = y := ⟨_, rfl⟩
  rw [hF15] at K hv hs
  try dsimp only [z_let] at K hs
  obtain ⟨rfl, rfl⟩ := hv
  show z_G X zm_Flows_exchange (18, [(0, z_r 54), (1, .inl p1)], [], zW T' G' S15 n, 0, 0)
  refine z_go2 M.1 18 [(.iconst 0, 1), (.istore_n 2, 1)] (20, [(2, .inl 0), (0, z_r 54), (1, .inl p1)], [], zW T' G' S15 n, 0, 0) (by decide +kernel) rfl ⟨trivial, trivial, trivial⟩ ?_
  refine z_lvs (lv' := [(0, z_r 54), (1, .inl p1), (2, .inl 0)]) [1, 2, 0] rfl ?_
  refine t_Flows_exchange_L20 M (Q := fun o => F_Flows_exchange_L20 p1 1300 S15 0 = o) p1 (fun S20 hL20 => ?_) 1300 S15 0 rfl hs.1
  replace hs := hs.2
  rw [hL20] at K
  try dsimp only at K
  exact z_vret M (by decide +kernel) rfl (by decide) (by decide) (hQ _ K)

-- TrackHouse$Ranks.append
abbrev rm_Ranks_append : Room := zr 1
def F_Ranks_append_L4 (x1 : Int32) : Nat → (Nat → Nat → Int32) → Int32 → Int32 → (Int32 × (Nat → Nat → Int32))
  | 0, S, x2, x3 => (x2, S)
  | f + 1, S, x2, x3 => (if (S 68 2) ≤ x3 then (x2, S) else ((F_Ranks_append_L4 x1 f) S (F_Math_max S x2 (zAt (S 69) 30 x3)) (x3 + 1)))
def Sf_Ranks_append_L4 (x1 : Int32) : Nat → (Nat → Nat → Int32) → Int32 → Int32 → Prop
  | 0, _, _, _ => False
  | f + 1, S, x2, x3 => (if (S 68 2) ≤ x3 then True else ((Sf_Ranks_append_L4 x1 f) S (F_Math_max S x2 (zAt (S 69) 30 x3)) (x3 + 1)))
theorem t_Ranks_append_L4 {X : z_X} {Post : Option z_V → z_W → Prop} (M : z_M X zm_Ranks_append rm_Ranks_append Post) {T' : Nat → Nat × Nat} {G' : Nat → Nat → Option Nat} {n : Nat} {Q : (Int32 × (Nat → Nat → Int32)) → Prop}  (x1 : Int32) (hE : ∀ (y2 : Int32) (S' : (Nat → Nat → Int32)), Q (y2, S') → z_G X zm_Ranks_append (31, [(0, z_r 68), (1, .inl x1), (2, .inl y2)], [], zW T' G' S' n, 0, 0)) (f : Nat) : ∀ (S : (Nat → Nat → Int32)) (x2 : Int32) (x3 : Int32), Q (F_Ranks_append_L4 x1 f S x2 x3) → Sf_Ranks_append_L4 x1 f S x2 x3 → z_G X zm_Ranks_append (4, [(0, z_r 68), (1, .inl x1), (2, .inl x2), (3, .inl x3)], [], zW T' G' S n, 0, 0) := by
  induction f with
  | zero => intro S x2 x3 K hs; exact False.elim hs
  | succ f hC =>
    intro S x2 x3 K hs
    rw [F_Ranks_append_L4] at K
    rw [Sf_Ranks_append_L4] at hs
    refine z_go2 M.1 4 [(.iload_n 3, 1), (.aload_n 0, 1), (.getfield 18, 3)] (9, [(0, z_r 68), (1, .inl x1), (2, .inl x2), (3, .inl x3)], [.inl (S 68 2), .inl x3], zW T' G' S n, 0, 0) (by decide +kernel) rfl ⟨trivial, trivial, rfl, trivial⟩ ?_
    refine z_icmp_ge 31 M.1 (off := 22) (by decide +kernel) (by decide) (fun c9 => ?_) (fun c9 => ?_)
    · rw [if_pos c9] at K hs
      exact z_lvs (lv' := [(0, z_r 68), (1, .inl x1), (2, .inl x2)]) [0, 1, 2] rfl (hE x2 S K)
    · rw [if_neg c9] at K hs
      refine z_go2 M.1 12 [(.iload_n 2, 1), (.aload_n 0, 1), (.getfield 9, 3), (.iload_n 3, 1)] (18, [(0, z_r 68), (1, .inl x1), (2, .inl x2), (3, .inl x3)], [.inl x3, z_r 69, .inl x2], zW T' G' S n, 0, 0) (by decide +kernel) rfl ⟨trivial, trivial, rfl, trivial, trivial⟩ ?_
      refine z_callS M.1 (av := [z_r 69, .inl x3]) (st := [.inl x2]) (by decide +kernel) (c_at (zW T' G' S n) 69 30 rfl (by decide) x3) M.2.1 zl_Ranks_22 zs_T_at ⟨by decide, by decide, by decide, by decide⟩ rfl (Nat.le_of_ble_eq_true rfl) (fun v w' hv => ?_)
      obtain ⟨rfl, rfl⟩ := hv
      show z_G X zm_Ranks_append (21, [(0, z_r 68), (1, .inl x1), (2, .inl x2), (3, .inl x3)], [.inl (zAt (S 69) 30 x3), .inl x2], zW T' G' S n, 0, 0)
      refine z_callS M.1 (av := [.inl x2, .inl (zAt (S 69) 30 x3)]) (st := []) (by decide +kernel) (c_Math_max T' G' S n x2 (zAt (S 69) 30 x3)) M.2.1 zl_Ranks_26 zs_Math_max ⟨by decide, by decide, by decide, by decide⟩ rfl (Nat.le_of_ble_eq_true rfl) (fun v w' hv => ?_)
      obtain ⟨rfl, rfl⟩ := hv
      show z_G X zm_Ranks_append (24, [(0, z_r 68), (1, .inl x1), (2, .inl x2), (3, .inl x3)], [.inl (F_Math_max S x2 (zAt (S 69) 30 x3))], zW T' G' S n, 0, 0)
      refine z_go2 M.1 24 [(.istore_n 2, 1), (.iinc 3 1, 3), (.goto (-24), 3)] (4, [(3, .inl (x3 + 1)), (2, .inl (F_Math_max S x2 (zAt (S 69) 30 x3))), (0, z_r 68), (1, .inl x1)], [], zW T' G' S n, 0, 0) (by decide +kernel) rfl ⟨trivial, trivial, trivial, trivial⟩ ?_
      exact z_lvs (lv' := [(0, z_r 68), (1, .inl x1), (2, .inl (F_Math_max S x2 (zAt (S 69) 30 x3))), (3, .inl (x3 + 1))]) [2, 3, 1, 0] rfl (hC S (F_Math_max S x2 (zAt (S 69) 30 x3)) (x3 + 1) K hs)
def F_Ranks_append (S : (Nat → Nat → Int32)) (p1 : Int32) : (Nat → Nat → Int32) := (match F_Ranks_append_L4 p1 1300 S 0 0 with | (y2_4, S4) => (z_let (zPut S4 69 30 p1 (y2_4 + 1024)) (fun S41 => (z_uS S41 68 2 (p1 + 1)))))
def Sf_Ranks_append (S : (Nat → Nat → Int32)) (p1 : Int32) : Prop := (Sf_Ranks_append_L4 p1 1300 S 0 0 ∧ True)
theorem c_Ranks_append (T' : Nat → Nat × Nat) (G' : Nat → Nat → Option Nat) (S : (Nat → Nat → Int32)) (n : Nat) (p1 : Int32) (hs : Sf_Ranks_append S p1) : z_Run rm_Ranks_append zm_Ranks_append [z_r 68, .inl p1] (zW T' G' S n) (zq none (zW T' G' (F_Ranks_append S p1) n)) := by
  refine z_body (by decide) zf_Ranks_ok (Nat.le_of_ble_eq_true rfl) (fun X M => ?_)
  obtain ⟨Q, hQ, K⟩ : ∃ Q : (Nat → Nat → Int32) → Prop, (∀ S', Q S' → zq none (zW T' G' (F_Ranks_append S p1) n) none (zW T' G' S' n)) ∧ Q (F_Ranks_append S p1) := ⟨fun o => F_Ranks_append S p1 = o, fun S' h => ⟨rfl, by rw [h]⟩, rfl⟩
  show z_G X zm_Ranks_append (0, [(0, z_r 68), (1, .inl p1)], [], zW T' G' S n, 0, 0)
  unfold F_Ranks_append at K
  unfold Sf_Ranks_append at hs
  refine z_go2 M.1 0 [(.iconst 0, 1), (.istore_n 2, 1), (.iconst 0, 1), (.istore_n 3, 1)] (4, [(3, .inl 0), (2, .inl 0), (0, z_r 68), (1, .inl p1)], [], zW T' G' S n, 0, 0) (by decide +kernel) rfl ⟨trivial, trivial, trivial, trivial, trivial⟩ ?_
  refine z_lvs (lv' := [(0, z_r 68), (1, .inl p1), (2, .inl 0), (3, .inl 0)]) [2, 3, 1, 0] rfl ?_
  refine t_Ranks_append_L4 M (Q := fun o => F_Ranks_append_L4 p1 1300 S 0 0 = o) p1 (fun y2_4 S4 hL4 => ?_) 1300 S 0 0 rfl hs.1
  replace hs := hs.2
  rw [hL4] at K
  try dsimp only at K
  refine z_go2 M.1 31 [(.aload_n 0, 1), (.getfield 9, 3), (.iload_n 1, 1), (.iload_n 2, 1), (.sipush 1024, 3), (.iadd, 1)] (41, [(0, z_r 68), (1, .inl p1), (2, .inl y2_4)], [.inl (y2_4 + 1024), .inl p1, z_r 69], zW T' G' S4 n, 0, 0) (by decide +kernel) rfl ⟨trivial, rfl, trivial, trivial, trivial, trivial, trivial⟩ ?_
  refine z_callS M.1 (av := [z_r 69, .inl p1, .inl (y2_4 + 1024)]) (st := []) (by decide +kernel) (c_put (zW T' G' S4 n) 69 30 rfl (by decide) p1 (y2_4 + 1024)) M.2.1 zl_Ranks_32 zs_T_put ⟨by decide, by decide, by decide, by decide⟩ rfl (Nat.le_of_ble_eq_true rfl) (fun v w' hv => ?_)
  obtain ⟨S41, hF41⟩ : ∃ y, zPut S4 69 30 p1 (y2_4 + 1024) = y := ⟨_, rfl⟩
  replace hv : v = none ∧ w' = zW T' G' (zPut S4 69 30 p1 (y2_4 + 1024)) n := hv
  rw [hF41] at K hv
  try dsimp only [z_let] at K
  obtain ⟨rfl, rfl⟩ := hv
  show z_G X zm_Ranks_append (44, [(0, z_r 68), (1, .inl p1), (2, .inl y2_4)], [], zW T' G' S41 n, 0, 0)
  refine z_go2 M.1 44 [(.aload_n 0, 1), (.iload_n 1, 1), (.iconst 1, 1), (.iadd, 1), (.putfield 18, 3)] (51, [(0, z_r 68), (1, .inl p1), (2, .inl y2_4)], [], zW T' G' (z_uS S41 68 2 (p1 + 1)) n, 0, 0) (by decide +kernel) rfl ⟨trivial, trivial, trivial, trivial, ⟨rfl, trivial⟩, trivial⟩ ?_
  exact z_vret M (by decide +kernel) rfl (by decide) (by decide) (hQ _ K)

-- TrackHouse$Ranks.middle
abbrev rm_Ranks_middle : Room := zr 1
def F_Ranks_middle_L15 (S : (Nat → Nat → Int32)) (x1 : Int32) (x3 : Int32) : Nat → Int32 → Int32 → (Int32)
  | 0, x4, x5 => x4
  | f + 1, x4, x5 => (if (S 68 2) ≤ x5 then x4 else (if x5 = x1 then ((F_Ranks_middle_L15 S x1 x3 f) x4 (x5 + 1)) else (if x3 ≤ (zAt (S 69) 30 x5) then ((F_Ranks_middle_L15 S x1 x3 f) x4 (x5 + 1)) else ((F_Ranks_middle_L15 S x1 x3 f) (F_Math_max S x4 (zAt (S 69) 30 x5)) (x5 + 1)))))
def Sf_Ranks_middle_L15 (S : (Nat → Nat → Int32)) (x1 : Int32) (x3 : Int32) : Nat → Int32 → Int32 → Prop
  | 0, _, _ => False
  | f + 1, x4, x5 => (if (S 68 2) ≤ x5 then True else (if x5 = x1 then ((Sf_Ranks_middle_L15 S x1 x3 f) x4 (x5 + 1)) else (if x3 ≤ (zAt (S 69) 30 x5) then ((Sf_Ranks_middle_L15 S x1 x3 f) x4 (x5 + 1)) else ((Sf_Ranks_middle_L15 S x1 x3 f) (F_Math_max S x4 (zAt (S 69) 30 x5)) (x5 + 1)))))
theorem t_Ranks_middle_L15 {X : z_X} {Post : Option z_V → z_W → Prop} (M : z_M X zm_Ranks_middle rm_Ranks_middle Post) {T' : Nat → Nat × Nat} {G' : Nat → Nat → Option Nat} {n : Nat} {Q : (Int32) → Prop} (S : (Nat → Nat → Int32))  (x1 : Int32) (x3 : Int32) (hE : ∀ (y4 : Int32), Q y4 → z_G X zm_Ranks_middle (65, [(3, .inl x3), (4, .inl y4)], [], zW T' G' S n, 0, 0)) (f : Nat) : ∀ (x4 : Int32) (x5 : Int32), Q (F_Ranks_middle_L15 S x1 x3 f x4 x5) → Sf_Ranks_middle_L15 S x1 x3 f x4 x5 → z_G X zm_Ranks_middle (15, [(0, z_r 68), (1, .inl x1), (3, .inl x3), (4, .inl x4), (5, .inl x5)], [], zW T' G' S n, 0, 0) := by
  induction f with
  | zero => intro x4 x5 K hs; exact False.elim hs
  | succ f hC =>
    intro x4 x5 K hs
    rw [F_Ranks_middle_L15] at K
    rw [Sf_Ranks_middle_L15] at hs
    refine z_go2 M.1 15 [(.iload 5, 2), (.aload_n 0, 1), (.getfield 18, 3)] (21, [(0, z_r 68), (1, .inl x1), (3, .inl x3), (4, .inl x4), (5, .inl x5)], [.inl (S 68 2), .inl x5], zW T' G' S n, 0, 0) (by decide +kernel) rfl ⟨trivial, trivial, rfl, trivial⟩ ?_
    refine z_icmp_ge 65 M.1 (off := 44) (by decide +kernel) (by decide) (fun c21 => ?_) (fun c21 => ?_)
    · rw [if_pos c21] at K hs
      exact z_lvs (lv' := [(3, .inl x3), (4, .inl x4)]) [2, 3] rfl (hE x4 K)
    · rw [if_neg c21] at K hs
      refine z_go2 M.1 24 [(.iload 5, 2), (.iload_n 1, 1)] (27, [(0, z_r 68), (1, .inl x1), (3, .inl x3), (4, .inl x4), (5, .inl x5)], [.inl x1, .inl x5], zW T' G' S n, 0, 0) (by decide +kernel) rfl ⟨trivial, trivial, trivial⟩ ?_
      refine z_icmp_eq 59 M.1 (off := 32) (by decide +kernel) (by decide) (fun c27 => ?_) (fun c27 => ?_)
      · rw [if_pos c27] at K hs
        refine z_go2 M.1 59 [(.iinc 5 1, 3), (.goto (-47), 3)] (15, [(5, .inl (x5 + 1)), (0, z_r 68), (1, .inl x1), (3, .inl x3), (4, .inl x4)], [], zW T' G' S n, 0, 0) (by decide +kernel) rfl ⟨trivial, trivial, trivial⟩ ?_
        exact z_lvs (lv' := [(0, z_r 68), (1, .inl x1), (3, .inl x3), (4, .inl x4), (5, .inl (x5 + 1))]) [1, 2, 3, 4, 0] rfl (hC x4 (x5 + 1) K hs)
      · rw [if_neg c27] at K hs
        refine z_go2 M.1 30 [(.aload_n 0, 1), (.getfield 9, 3), (.iload 5, 2)] (36, [(0, z_r 68), (1, .inl x1), (3, .inl x3), (4, .inl x4), (5, .inl x5)], [.inl x5, z_r 69], zW T' G' S n, 0, 0) (by decide +kernel) rfl ⟨trivial, rfl, trivial, trivial⟩ ?_
        refine z_callS M.1 (av := [z_r 69, .inl x5]) (st := []) (by decide +kernel) (c_at (zW T' G' S n) 69 30 rfl (by decide) x5) M.2.1 zl_Ranks_22 zs_T_at ⟨by decide, by decide, by decide, by decide⟩ rfl (Nat.le_of_ble_eq_true rfl) (fun v w' hv => ?_)
        obtain ⟨rfl, rfl⟩ := hv
        show z_G X zm_Ranks_middle (39, [(0, z_r 68), (1, .inl x1), (3, .inl x3), (4, .inl x4), (5, .inl x5)], [.inl (zAt (S 69) 30 x5)], zW T' G' S n, 0, 0)
        refine z_go2 M.1 39 [(.iload_n 3, 1)] (40, [(0, z_r 68), (1, .inl x1), (3, .inl x3), (4, .inl x4), (5, .inl x5)], [.inl x3, .inl (zAt (S 69) 30 x5)], zW T' G' S n, 0, 0) (by decide +kernel) rfl ⟨trivial, trivial⟩ ?_
        refine z_icmp_ge 59 M.1 (off := 19) (by decide +kernel) (by decide) (fun c40 => ?_) (fun c40 => ?_)
        · rw [if_pos c40] at K hs
          refine z_go2 M.1 59 [(.iinc 5 1, 3), (.goto (-47), 3)] (15, [(5, .inl (x5 + 1)), (0, z_r 68), (1, .inl x1), (3, .inl x3), (4, .inl x4)], [], zW T' G' S n, 0, 0) (by decide +kernel) rfl ⟨trivial, trivial, trivial⟩ ?_
          exact z_lvs (lv' := [(0, z_r 68), (1, .inl x1), (3, .inl x3), (4, .inl x4), (5, .inl (x5 + 1))]) [1, 2, 3, 4, 0] rfl (hC x4 (x5 + 1) K hs)
        · rw [if_neg c40] at K hs
          refine z_go2 M.1 43 [(.iload 4, 2), (.aload_n 0, 1), (.getfield 9, 3), (.iload 5, 2)] (51, [(0, z_r 68), (1, .inl x1), (3, .inl x3), (4, .inl x4), (5, .inl x5)], [.inl x5, z_r 69, .inl x4], zW T' G' S n, 0, 0) (by decide +kernel) rfl ⟨trivial, trivial, rfl, trivial, trivial⟩ ?_
          refine z_callS M.1 (av := [z_r 69, .inl x5]) (st := [.inl x4]) (by decide +kernel) (c_at (zW T' G' S n) 69 30 rfl (by decide) x5) M.2.1 zl_Ranks_22 zs_T_at ⟨by decide, by decide, by decide, by decide⟩ rfl (Nat.le_of_ble_eq_true rfl) (fun v w' hv => ?_)
          obtain ⟨rfl, rfl⟩ := hv
          show z_G X zm_Ranks_middle (54, [(0, z_r 68), (1, .inl x1), (3, .inl x3), (4, .inl x4), (5, .inl x5)], [.inl (zAt (S 69) 30 x5), .inl x4], zW T' G' S n, 0, 0)
          refine z_callS M.1 (av := [.inl x4, .inl (zAt (S 69) 30 x5)]) (st := []) (by decide +kernel) (c_Math_max T' G' S n x4 (zAt (S 69) 30 x5)) M.2.1 zl_Ranks_26 zs_Math_max ⟨by decide, by decide, by decide, by decide⟩ rfl (Nat.le_of_ble_eq_true rfl) (fun v w' hv => ?_)
          obtain ⟨rfl, rfl⟩ := hv
          show z_G X zm_Ranks_middle (57, [(0, z_r 68), (1, .inl x1), (3, .inl x3), (4, .inl x4), (5, .inl x5)], [.inl (F_Math_max S x4 (zAt (S 69) 30 x5))], zW T' G' S n, 0, 0)
          refine z_go2 M.1 57 [(.istore 4, 2), (.iinc 5 1, 3), (.goto (-47), 3)] (15, [(5, .inl (x5 + 1)), (4, .inl (F_Math_max S x4 (zAt (S 69) 30 x5))), (0, z_r 68), (1, .inl x1), (3, .inl x3)], [], zW T' G' S n, 0, 0) (by decide +kernel) rfl ⟨trivial, trivial, trivial, trivial⟩ ?_
          exact z_lvs (lv' := [(0, z_r 68), (1, .inl x1), (3, .inl x3), (4, .inl (F_Math_max S x4 (zAt (S 69) 30 x5))), (5, .inl (x5 + 1))]) [2, 3, 4, 1, 0] rfl (hC (F_Math_max S x4 (zAt (S 69) 30 x5)) (x5 + 1) K hs)
def F_Ranks_middle_j91 (S : (Nat → Nat → Int32)) : Int32 := (-1)
theorem t_Ranks_middle_j91 {X : z_X} {Post : Option z_V → z_W → Prop} (M : z_M X zm_Ranks_middle rm_Ranks_middle Post) {T' : Nat → Nat × Nat} {G' : Nat → Nat → Option Nat} {n : Nat} {Q : Int32 → Prop} (S : (Nat → Nat → Int32)) (hQ : ∀ v, Q v → Post (some (.inl v)) (zW T' G' S n)) (K : Q (F_Ranks_middle_j91 S)) : z_G X zm_Ranks_middle (91, [], [], zW T' G' S n, 0, 0) := by
  unfold F_Ranks_middle_j91 at K
  refine z_go2 M.1 91 [(.iconst (-1), 1)] (92, [], [.inl (-1)], zW T' G' S n, 0, 0) (by decide +kernel) rfl ⟨trivial, trivial⟩ ?_
  exact z_iret M (by decide +kernel) .int rfl rfl (by decide) (by decide) (hQ _ K)
def F_Ranks_middle (S : (Nat → Nat → Int32)) (p1 : Int32) (p2 : Int32) : Int32 := (match F_Ranks_middle_L15 S p1 (zAt (S 69) 30 p2) 1300 0 0 with | y4_15 => (if ((y4_15 + (zAt (S 69) 30 p2)) / 2) ≤ y4_15 then (F_Ranks_middle_j91 S) else (if (zAt (S 69) 30 p2) ≤ ((y4_15 + (zAt (S 69) 30 p2)) / 2) then (F_Ranks_middle_j91 S) else ((y4_15 + (zAt (S 69) 30 p2)) / 2))))
def Sf_Ranks_middle (S : (Nat → Nat → Int32)) (p1 : Int32) (p2 : Int32) : Prop := (Sf_Ranks_middle_L15 S p1 (zAt (S 69) 30 p2) 1300 0 0 ∧ True)
theorem c_Ranks_middle (T' : Nat → Nat × Nat) (G' : Nat → Nat → Option Nat) (S : (Nat → Nat → Int32)) (n : Nat) (p1 : Int32) (p2 : Int32) (hs : Sf_Ranks_middle S p1 p2) : z_Run rm_Ranks_middle zm_Ranks_middle [z_r 68, .inl p1, .inl p2] (zW T' G' S n) (zq (some (.inl (F_Ranks_middle S p1 p2))) (zW T' G' S n)) := by
  refine z_body (by decide) zf_Ranks_ok (Nat.le_of_ble_eq_true rfl) (fun X M => ?_)
  obtain ⟨Q, hQ, K⟩ : ∃ Q : Int32 → Prop, (∀ v, Q v → zq (some (.inl (F_Ranks_middle S p1 p2))) (zW T' G' S n) (some (.inl v)) (zW T' G' S n)) ∧ Q (F_Ranks_middle S p1 p2) := ⟨fun o => F_Ranks_middle S p1 p2 = o, fun v h => ⟨by rw [h], rfl⟩, rfl⟩
  show z_G X zm_Ranks_middle (0, [(0, z_r 68), (1, .inl p1), (2, .inl p2)], [], zW T' G' S n, 0, 0)
  unfold F_Ranks_middle at K
  unfold Sf_Ranks_middle at hs
  refine z_go2 M.1 0 [(.aload_n 0, 1), (.getfield 9, 3), (.iload_n 2, 1)] (5, [(0, z_r 68), (1, .inl p1), (2, .inl p2)], [.inl p2, z_r 69], zW T' G' S n, 0, 0) (by decide +kernel) rfl ⟨trivial, rfl, trivial, trivial⟩ ?_
  refine z_callS M.1 (av := [z_r 69, .inl p2]) (st := []) (by decide +kernel) (c_at (zW T' G' S n) 69 30 rfl (by decide) p2) M.2.1 zl_Ranks_22 zs_T_at ⟨by decide, by decide, by decide, by decide⟩ rfl (Nat.le_of_ble_eq_true rfl) (fun v w' hv => ?_)
  obtain ⟨rfl, rfl⟩ := hv
  show z_G X zm_Ranks_middle (8, [(0, z_r 68), (1, .inl p1), (2, .inl p2)], [.inl (zAt (S 69) 30 p2)], zW T' G' S n, 0, 0)
  refine z_go2 M.1 8 [(.istore_n 3, 1), (.iconst 0, 1), (.istore 4, 2), (.iconst 0, 1), (.istore 5, 2)] (15, [(5, .inl 0), (4, .inl 0), (3, .inl (zAt (S 69) 30 p2)), (0, z_r 68), (1, .inl p1), (2, .inl p2)], [], zW T' G' S n, 0, 0) (by decide +kernel) rfl ⟨trivial, trivial, trivial, trivial, trivial, trivial⟩ ?_
  refine z_lvs (lv' := [(0, z_r 68), (1, .inl p1), (3, .inl (zAt (S 69) 30 p2)), (4, .inl 0), (5, .inl 0)]) [3, 4, 2, 1, 0] rfl ?_
  refine t_Ranks_middle_L15 M (Q := fun o => F_Ranks_middle_L15 S p1 (zAt (S 69) 30 p2) 1300 0 0 = o) S p1 (zAt (S 69) 30 p2) (fun y4_15 hL15 => ?_) 1300 0 0 rfl hs.1
  replace hs := hs.2
  rw [hL15] at K
  try dsimp only at K
  refine z_go2 M.1 65 [(.iload 4, 2), (.iload_n 3, 1), (.iadd, 1), (.iconst 2, 1), (.idiv, 1), (.istore 5, 2), (.iload 5, 2), (.iload 4, 2)] (77, [(5, .inl ((y4_15 + (zAt (S 69) 30 p2)) / 2)), (3, .inl (zAt (S 69) 30 p2)), (4, .inl y4_15)], [.inl y4_15, .inl ((y4_15 + (zAt (S 69) 30 p2)) / 2)], zW T' G' S n, 0, 0) (by decide +kernel) rfl ⟨trivial, trivial, trivial, trivial, (by decide), trivial, trivial, trivial, trivial⟩ ?_
  refine z_icmp_le 91 M.1 (off := 14) (by decide +kernel) (by decide) (fun c77 => ?_) (fun c77 => ?_)
  · rw [if_pos c77] at K
    exact z_lvs (lv' := []) [] rfl (t_Ranks_middle_j91 M S hQ K)
  · rw [if_neg c77] at K
    refine z_go2 M.1 80 [(.iload 5, 2), (.iload_n 3, 1)] (83, [(5, .inl ((y4_15 + (zAt (S 69) 30 p2)) / 2)), (3, .inl (zAt (S 69) 30 p2)), (4, .inl y4_15)], [.inl (zAt (S 69) 30 p2), .inl ((y4_15 + (zAt (S 69) 30 p2)) / 2)], zW T' G' S n, 0, 0) (by decide +kernel) rfl ⟨trivial, trivial, trivial⟩ ?_
    refine z_icmp_ge 91 M.1 (off := 8) (by decide +kernel) (by decide) (fun c83 => ?_) (fun c83 => ?_)
    · rw [if_pos c83] at K
      exact z_lvs (lv' := []) [] rfl (t_Ranks_middle_j91 M S hQ K)
    · rw [if_neg c83] at K
      refine z_go2 M.1 86 [(.iload 5, 2), (.goto 4, 3)] (92, [(5, .inl ((y4_15 + (zAt (S 69) 30 p2)) / 2)), (3, .inl (zAt (S 69) 30 p2)), (4, .inl y4_15)], [.inl ((y4_15 + (zAt (S 69) 30 p2)) / 2)], zW T' G' S n, 0, 0) (by decide +kernel) rfl ⟨trivial, trivial, trivial⟩ ?_
      exact z_iret M (by decide +kernel) .int rfl rfl (by decide) (by decide) (hQ _ K)

-- TrackHouse$Ranks.aheadOf
abbrev rm_Ranks_aheadOf : Room := zr 1
def F_Ranks_aheadOf_l5_48 (rc : Int32 → Int32 → (Int32)) (S : (Nat → Nat → Int32)) (x1 : Int32) (x2 : Int32) (x4 : Int32) (s0 : Int32) : (Int32) := (rc (s0 + 0) (x4 + 1))
def Sf_Ranks_aheadOf_l5_48 (rc : Int32 → Int32 → (Int32)) (sr : Int32 → Int32 → Prop) (S : (Nat → Nat → Int32)) (x1 : Int32) (x2 : Int32) (x4 : Int32) (s0 : Int32) : Prop := (sr (s0 + 0) (x4 + 1))
theorem t_Ranks_aheadOf_l5_48 {X : z_X} {Post : Option z_V → z_W → Prop} (M : z_M X zm_Ranks_aheadOf rm_Ranks_aheadOf Post) {T' : Nat → Nat × Nat} {G' : Nat → Nat → Option Nat} {n : Nat} {Q : (Int32) → Prop} (rc : Int32 → Int32 → (Int32)) (sr : Int32 → Int32 → Prop) (S : (Nat → Nat → Int32)) (x1 : Int32) (x2 : Int32) (x4 : Int32) (s0 : Int32) (hE : ∀ (y3 : Int32), Q y3 → z_G X zm_Ranks_aheadOf (57, [(3, .inl y3)], [], zW T' G' S n, 0, 0)) (hC : ∀ (x3 : Int32) (x4 : Int32), Q (rc x3 x4) → sr x3 x4 → z_G X zm_Ranks_aheadOf (5, [(0, z_r 68), (1, .inl x1), (2, .inl x2), (3, .inl x3), (4, .inl x4)], [], zW T' G' S n, 0, 0)) (K : Q (F_Ranks_aheadOf_l5_48 rc S x1 x2 x4 s0)) (hs : Sf_Ranks_aheadOf_l5_48 rc sr S x1 x2 x4 s0) : z_G X zm_Ranks_aheadOf (48, [(0, z_r 68), (1, .inl x1), (2, .inl x2), (4, .inl x4)], [.inl s0], zW T' G' S n, 0, 0) := by
  unfold F_Ranks_aheadOf_l5_48 at K
  unfold Sf_Ranks_aheadOf_l5_48 at hs
  refine z_go2 M.1 48 [(.iconst 0, 1), (.iadd, 1), (.istore_n 3, 1), (.iinc 4 1, 3), (.goto (-49), 3)] (5, [(4, .inl (x4 + 1)), (3, .inl (s0 + 0)), (0, z_r 68), (1, .inl x1), (2, .inl x2)], [], zW T' G' S n, 0, 0) (by decide +kernel) rfl ⟨trivial, trivial, trivial, trivial, trivial, trivial⟩ ?_
  exact z_lvs (lv' := [(0, z_r 68), (1, .inl x1), (2, .inl x2), (3, .inl (s0 + 0)), (4, .inl (x4 + 1))]) [2, 3, 4, 1, 0] rfl (hC (s0 + 0) (x4 + 1) K hs)
def F_Ranks_aheadOf_L5 (S : (Nat → Nat → Int32)) (x1 : Int32) (x2 : Int32) : Nat → Int32 → Int32 → (Int32)
  | 0, x3, x4 => x3
  | f + 1, x3, x4 => (if (S 68 2) ≤ x4 then x3 else (if (F_T_isIn S x2 x4) = 0 then (F_Ranks_aheadOf_l5_48 (F_Ranks_aheadOf_L5 S x1 x2 f) S x1 x2 x4 x3) else (if (zAt (S 69) 30 x1) ≤ (zAt (S 69) 30 x4) then (F_Ranks_aheadOf_l5_48 (F_Ranks_aheadOf_L5 S x1 x2 f) S x1 x2 x4 x3) else ((F_Ranks_aheadOf_L5 S x1 x2 f) (x3 + 1) (x4 + 1)))))
def Sf_Ranks_aheadOf_L5 (S : (Nat → Nat → Int32)) (x1 : Int32) (x2 : Int32) : Nat → Int32 → Int32 → Prop
  | 0, _, _ => False
  | f + 1, x3, x4 => (if (S 68 2) ≤ x4 then True else (if (F_T_isIn S x2 x4) = 0 then (Sf_Ranks_aheadOf_l5_48 (F_Ranks_aheadOf_L5 S x1 x2 f) (Sf_Ranks_aheadOf_L5 S x1 x2 f) S x1 x2 x4 x3) else (if (zAt (S 69) 30 x1) ≤ (zAt (S 69) 30 x4) then (Sf_Ranks_aheadOf_l5_48 (F_Ranks_aheadOf_L5 S x1 x2 f) (Sf_Ranks_aheadOf_L5 S x1 x2 f) S x1 x2 x4 x3) else ((Sf_Ranks_aheadOf_L5 S x1 x2 f) (x3 + 1) (x4 + 1)))))
theorem t_Ranks_aheadOf_L5 {X : z_X} {Post : Option z_V → z_W → Prop} (M : z_M X zm_Ranks_aheadOf rm_Ranks_aheadOf Post) {T' : Nat → Nat × Nat} {G' : Nat → Nat → Option Nat} {n : Nat} {Q : (Int32) → Prop} (S : (Nat → Nat → Int32))  (x1 : Int32) (x2 : Int32) (hE : ∀ (y3 : Int32), Q y3 → z_G X zm_Ranks_aheadOf (57, [(3, .inl y3)], [], zW T' G' S n, 0, 0)) (f : Nat) : ∀ (x3 : Int32) (x4 : Int32), Q (F_Ranks_aheadOf_L5 S x1 x2 f x3 x4) → Sf_Ranks_aheadOf_L5 S x1 x2 f x3 x4 → z_G X zm_Ranks_aheadOf (5, [(0, z_r 68), (1, .inl x1), (2, .inl x2), (3, .inl x3), (4, .inl x4)], [], zW T' G' S n, 0, 0) := by
  induction f with
  | zero => intro x3 x4 K hs; exact False.elim hs
  | succ f hC =>
    intro x3 x4 K hs
    rw [F_Ranks_aheadOf_L5] at K
    rw [Sf_Ranks_aheadOf_L5] at hs
    refine z_go2 M.1 5 [(.iload 4, 2), (.aload_n 0, 1), (.getfield 18, 3)] (11, [(0, z_r 68), (1, .inl x1), (2, .inl x2), (3, .inl x3), (4, .inl x4)], [.inl (S 68 2), .inl x4], zW T' G' S n, 0, 0) (by decide +kernel) rfl ⟨trivial, trivial, rfl, trivial⟩ ?_
    refine z_icmp_ge 57 M.1 (off := 46) (by decide +kernel) (by decide) (fun c11 => ?_) (fun c11 => ?_)
    · rw [if_pos c11] at K hs
      exact z_lvs (lv' := [(3, .inl x3)]) [3] rfl (hE x3 K)
    · rw [if_neg c11] at K hs
      refine z_go2 M.1 14 [(.iload_n 3, 1), (.iload_n 2, 1), (.iload 4, 2)] (18, [(0, z_r 68), (1, .inl x1), (2, .inl x2), (3, .inl x3), (4, .inl x4)], [.inl x4, .inl x2, .inl x3], zW T' G' S n, 0, 0) (by decide +kernel) rfl ⟨trivial, trivial, trivial, trivial⟩ ?_
      refine z_callS M.1 (av := [.inl x2, .inl x4]) (st := [.inl x3]) (by decide +kernel) (c_T_isIn T' G' S n x2 x4) M.2.1 zl_Ranks_50 zs_T_isIn ⟨by decide, by decide, by decide, by decide⟩ rfl (Nat.le_of_ble_eq_true rfl) (fun v w' hv => ?_)
      obtain ⟨rfl, rfl⟩ := hv
      show z_G X zm_Ranks_aheadOf (21, [(0, z_r 68), (1, .inl x1), (2, .inl x2), (3, .inl x3), (4, .inl x4)], [.inl (F_T_isIn S x2 x4), .inl x3], zW T' G' S n, 0, 0)
      refine z_if_eq 48 M.1 (off := 27) (by decide +kernel) (by decide) (fun c21 => ?_) (fun c21 => ?_)
      · rw [if_pos c21] at K hs
        exact z_lvs (lv' := [(0, z_r 68), (1, .inl x1), (2, .inl x2), (4, .inl x4)]) [0, 1, 2, 4] rfl (t_Ranks_aheadOf_l5_48 M (F_Ranks_aheadOf_L5 S x1 x2 f) (Sf_Ranks_aheadOf_L5 S x1 x2 f) S x1 x2 x4 x3 hE hC K hs)
      · rw [if_neg c21] at K hs
        refine z_go2 M.1 24 [(.aload_n 0, 1), (.getfield 9, 3), (.iload 4, 2)] (30, [(0, z_r 68), (1, .inl x1), (2, .inl x2), (3, .inl x3), (4, .inl x4)], [.inl x4, z_r 69, .inl x3], zW T' G' S n, 0, 0) (by decide +kernel) rfl ⟨trivial, rfl, trivial, trivial⟩ ?_
        refine z_callS M.1 (av := [z_r 69, .inl x4]) (st := [.inl x3]) (by decide +kernel) (c_at (zW T' G' S n) 69 30 rfl (by decide) x4) M.2.1 zl_Ranks_22 zs_T_at ⟨by decide, by decide, by decide, by decide⟩ rfl (Nat.le_of_ble_eq_true rfl) (fun v w' hv => ?_)
        obtain ⟨rfl, rfl⟩ := hv
        show z_G X zm_Ranks_aheadOf (33, [(0, z_r 68), (1, .inl x1), (2, .inl x2), (3, .inl x3), (4, .inl x4)], [.inl (zAt (S 69) 30 x4), .inl x3], zW T' G' S n, 0, 0)
        refine z_go2 M.1 33 [(.aload_n 0, 1), (.getfield 9, 3), (.iload_n 1, 1)] (38, [(0, z_r 68), (1, .inl x1), (2, .inl x2), (3, .inl x3), (4, .inl x4)], [.inl x1, z_r 69, .inl (zAt (S 69) 30 x4), .inl x3], zW T' G' S n, 0, 0) (by decide +kernel) rfl ⟨trivial, rfl, trivial, trivial⟩ ?_
        refine z_callS M.1 (av := [z_r 69, .inl x1]) (st := [.inl (zAt (S 69) 30 x4), .inl x3]) (by decide +kernel) (c_at (zW T' G' S n) 69 30 rfl (by decide) x1) M.2.1 zl_Ranks_22 zs_T_at ⟨by decide, by decide, by decide, by decide⟩ rfl (Nat.le_of_ble_eq_true rfl) (fun v w' hv => ?_)
        obtain ⟨rfl, rfl⟩ := hv
        show z_G X zm_Ranks_aheadOf (41, [(0, z_r 68), (1, .inl x1), (2, .inl x2), (3, .inl x3), (4, .inl x4)], [.inl (zAt (S 69) 30 x1), .inl (zAt (S 69) 30 x4), .inl x3], zW T' G' S n, 0, 0)
        refine z_icmp_ge 48 M.1 (off := 7) (by decide +kernel) (by decide) (fun c41 => ?_) (fun c41 => ?_)
        · rw [if_pos c41] at K hs
          exact z_lvs (lv' := [(0, z_r 68), (1, .inl x1), (2, .inl x2), (4, .inl x4)]) [0, 1, 2, 4] rfl (t_Ranks_aheadOf_l5_48 M (F_Ranks_aheadOf_L5 S x1 x2 f) (Sf_Ranks_aheadOf_L5 S x1 x2 f) S x1 x2 x4 x3 hE hC K hs)
        · rw [if_neg c41] at K hs
          refine z_go2 M.1 44 [(.iconst 1, 1), (.goto 4, 3), (.iadd, 1), (.istore_n 3, 1), (.iinc 4 1, 3), (.goto (-49), 3)] (5, [(4, .inl (x4 + 1)), (3, .inl (x3 + 1)), (0, z_r 68), (1, .inl x1), (2, .inl x2)], [], zW T' G' S n, 0, 0) (by decide +kernel) rfl ⟨trivial, trivial, trivial, trivial, trivial, trivial, trivial⟩ ?_
          exact z_lvs (lv' := [(0, z_r 68), (1, .inl x1), (2, .inl x2), (3, .inl (x3 + 1)), (4, .inl (x4 + 1))]) [2, 3, 4, 1, 0] rfl (hC (x3 + 1) (x4 + 1) K hs)
def F_Ranks_aheadOf (S : (Nat → Nat → Int32)) (p1 : Int32) (p2 : Int32) : Int32 := (match F_Ranks_aheadOf_L5 S p1 p2 1300 0 0 with | y3_5 => y3_5)
def Sf_Ranks_aheadOf (S : (Nat → Nat → Int32)) (p1 : Int32) (p2 : Int32) : Prop := (Sf_Ranks_aheadOf_L5 S p1 p2 1300 0 0 ∧ True)
theorem c_Ranks_aheadOf (T' : Nat → Nat × Nat) (G' : Nat → Nat → Option Nat) (S : (Nat → Nat → Int32)) (n : Nat) (p1 : Int32) (p2 : Int32) (hs : Sf_Ranks_aheadOf S p1 p2) : z_Run rm_Ranks_aheadOf zm_Ranks_aheadOf [z_r 68, .inl p1, .inl p2] (zW T' G' S n) (zq (some (.inl (F_Ranks_aheadOf S p1 p2))) (zW T' G' S n)) := by
  refine z_body (by decide) zf_Ranks_ok (Nat.le_of_ble_eq_true rfl) (fun X M => ?_)
  obtain ⟨Q, hQ, K⟩ : ∃ Q : Int32 → Prop, (∀ v, Q v → zq (some (.inl (F_Ranks_aheadOf S p1 p2))) (zW T' G' S n) (some (.inl v)) (zW T' G' S n)) ∧ Q (F_Ranks_aheadOf S p1 p2) := ⟨fun o => F_Ranks_aheadOf S p1 p2 = o, fun v h => ⟨by rw [h], rfl⟩, rfl⟩
  show z_G X zm_Ranks_aheadOf (0, [(0, z_r 68), (1, .inl p1), (2, .inl p2)], [], zW T' G' S n, 0, 0)
  unfold F_Ranks_aheadOf at K
  unfold Sf_Ranks_aheadOf at hs
  refine z_go2 M.1 0 [(.iconst 0, 1), (.istore_n 3, 1), (.iconst 0, 1), (.istore 4, 2)] (5, [(4, .inl 0), (3, .inl 0), (0, z_r 68), (1, .inl p1), (2, .inl p2)], [], zW T' G' S n, 0, 0) (by decide +kernel) rfl ⟨trivial, trivial, trivial, trivial, trivial⟩ ?_
  refine z_lvs (lv' := [(0, z_r 68), (1, .inl p1), (2, .inl p2), (3, .inl 0), (4, .inl 0)]) [2, 3, 4, 1, 0] rfl ?_
  refine t_Ranks_aheadOf_L5 M (Q := fun o => F_Ranks_aheadOf_L5 S p1 p2 1300 0 0 = o) S p1 p2 (fun y3_5 hL5 => ?_) 1300 0 0 rfl hs.1
  replace hs := hs.2
  rw [hL5] at K
  try dsimp only at K
  refine z_go2 M.1 57 [(.iload_n 3, 1)] (58, [(3, .inl y3_5)], [.inl y3_5], zW T' G' S n, 0, 0) (by decide +kernel) rfl ⟨trivial, trivial⟩ ?_
  exact z_iret M (by decide +kernel) .int rfl rfl (by decide) (by decide) (hQ _ K)

-- TrackHouse$Ranks.spread
abbrev rm_Ranks_spread : Room := zr 2
def F_Ranks_spread_L2 (x1 : Int32) : Nat → (Nat → Nat → Int32) → Int32 → ((Nat → Nat → Int32))
  | 0, S, x2 => S
  | f + 1, S, x2 => (if (S 68 2) ≤ x2 then S else (z_let (zPut S 70 30 x2 ((1024 : Int32) * ((1 : Int32) + (F_Ranks_aheadOf S x2 ((F_T_bit S x1) ^^^ (-1)))))) (fun S32 => ((F_Ranks_spread_L2 x1 f) S32 (x2 + 1)))))
def Sf_Ranks_spread_L2 (x1 : Int32) : Nat → (Nat → Nat → Int32) → Int32 → Prop
  | 0, _, _ => False
  | f + 1, S, x2 => (if (S 68 2) ≤ x2 then True else (Sf_Ranks_aheadOf S x2 ((F_T_bit S x1) ^^^ (-1)) ∧ (z_let (zPut S 70 30 x2 ((1024 : Int32) * ((1 : Int32) + (F_Ranks_aheadOf S x2 ((F_T_bit S x1) ^^^ (-1)))))) (fun S32 => ((Sf_Ranks_spread_L2 x1 f) S32 (x2 + 1))))))
theorem t_Ranks_spread_L2 {X : z_X} {Post : Option z_V → z_W → Prop} (M : z_M X zm_Ranks_spread rm_Ranks_spread Post) {T' : Nat → Nat × Nat} {G' : Nat → Nat → Option Nat} {n : Nat} {Q : ((Nat → Nat → Int32)) → Prop}  (x1 : Int32) (hE : ∀ (S' : (Nat → Nat → Int32)), Q S' → z_G X zm_Ranks_spread (41, [(0, z_r 68)], [], zW T' G' S' n, 0, 0)) (f : Nat) : ∀ (S : (Nat → Nat → Int32)) (x2 : Int32), Q (F_Ranks_spread_L2 x1 f S x2) → Sf_Ranks_spread_L2 x1 f S x2 → z_G X zm_Ranks_spread (2, [(0, z_r 68), (1, .inl x1), (2, .inl x2)], [], zW T' G' S n, 0, 0) := by
  induction f with
  | zero => intro S x2 K hs; exact False.elim hs
  | succ f hC =>
    intro S x2 K hs
    rw [F_Ranks_spread_L2] at K
    rw [Sf_Ranks_spread_L2] at hs
    refine z_go2 M.1 2 [(.iload_n 2, 1), (.aload_n 0, 1), (.getfield 18, 3)] (7, [(0, z_r 68), (1, .inl x1), (2, .inl x2)], [.inl (S 68 2), .inl x2], zW T' G' S n, 0, 0) (by decide +kernel) rfl ⟨trivial, trivial, rfl, trivial⟩ ?_
    refine z_icmp_ge 41 M.1 (off := 34) (by decide +kernel) (by decide) (fun c7 => ?_) (fun c7 => ?_)
    · rw [if_pos c7] at K hs
      exact z_lvs (lv' := [(0, z_r 68)]) [0] rfl (hE S K)
    · rw [if_neg c7] at K hs
      refine z_go2 M.1 10 [(.aload_n 0, 1), (.getfield 15, 3), (.iload_n 2, 1), (.sipush 1024, 3), (.iconst 1, 1), (.aload_n 0, 1), (.iload_n 2, 1), (.iload_n 1, 1)] (22, [(0, z_r 68), (1, .inl x1), (2, .inl x2)], [.inl x1, .inl x2, z_r 68, .inl 1, .inl 1024, .inl x2, z_r 70], zW T' G' S n, 0, 0) (by decide +kernel) rfl ⟨trivial, rfl, trivial, trivial, trivial, trivial, trivial, trivial, trivial⟩ ?_
      refine z_callS M.1 (av := [.inl x1]) (st := [.inl x2, z_r 68, .inl 1, .inl 1024, .inl x2, z_r 70]) (by decide +kernel) (c_T_bit T' G' S n x1) M.2.1 zl_Ranks_43 zs_T_bit ⟨by decide, by decide, by decide, by decide⟩ rfl (Nat.le_of_ble_eq_true rfl) (fun v w' hv => ?_)
      obtain ⟨rfl, rfl⟩ := hv
      show z_G X zm_Ranks_spread (25, [(0, z_r 68), (1, .inl x1), (2, .inl x2)], [.inl (F_T_bit S x1), .inl x2, z_r 68, .inl 1, .inl 1024, .inl x2, z_r 70], zW T' G' S n, 0, 0)
      refine z_go2 M.1 25 [(.iconst (-1), 1), (.ixor, 1)] (27, [(0, z_r 68), (1, .inl x1), (2, .inl x2)], [.inl ((F_T_bit S x1) ^^^ (-1)), .inl x2, z_r 68, .inl 1, .inl 1024, .inl x2, z_r 70], zW T' G' S n, 0, 0) (by decide +kernel) rfl ⟨trivial, trivial, trivial⟩ ?_
      refine z_callV M.1 (av := [.inl x2, .inl ((F_T_bit S x1) ^^^ (-1))]) (st := [.inl 1, .inl 1024, .inl x2, z_r 70]) (a := 68) (ci := 6) (by decide +kernel) (c_Ranks_aheadOf T' G' S n x2 ((F_T_bit S x1) ^^^ (-1)) hs.1) M.2.1 zl_Ranks_47 zv_Ranks_aheadOf rfl rfl rfl ⟨by decide, by decide, by decide, by decide⟩ rfl (Nat.le_of_ble_eq_true rfl) (fun v w' hv => ?_)
      obtain ⟨rfl, rfl⟩ := hv
      replace hs := hs.2
      show z_G X zm_Ranks_spread (30, [(0, z_r 68), (1, .inl x1), (2, .inl x2)], [.inl (F_Ranks_aheadOf S x2 ((F_T_bit S x1) ^^^ (-1))), .inl 1, .inl 1024, .inl x2, z_r 70], zW T' G' S n, 0, 0)
      refine z_go2 M.1 30 [(.iadd, 1), (.imul, 1)] (32, [(0, z_r 68), (1, .inl x1), (2, .inl x2)], [.inl ((1024 : Int32) * ((1 : Int32) + (F_Ranks_aheadOf S x2 ((F_T_bit S x1) ^^^ (-1))))), .inl x2, z_r 70], zW T' G' S n, 0, 0) (by decide +kernel) rfl ⟨trivial, trivial, trivial⟩ ?_
      refine z_callS M.1 (av := [z_r 70, .inl x2, .inl ((1024 : Int32) * ((1 : Int32) + (F_Ranks_aheadOf S x2 ((F_T_bit S x1) ^^^ (-1)))))]) (st := []) (by decide +kernel) (c_put (zW T' G' S n) 70 30 rfl (by decide) x2 ((1024 : Int32) * ((1 : Int32) + (F_Ranks_aheadOf S x2 ((F_T_bit S x1) ^^^ (-1)))))) M.2.1 zl_Ranks_32 zs_T_put ⟨by decide, by decide, by decide, by decide⟩ rfl (Nat.le_of_ble_eq_true rfl) (fun v w' hv => ?_)
      obtain ⟨S32, hF32⟩ : ∃ y, zPut S 70 30 x2 ((1024 : Int32) * ((1 : Int32) + (F_Ranks_aheadOf S x2 ((F_T_bit S x1) ^^^ (-1))))) = y := ⟨_, rfl⟩
      replace hv : v = none ∧ w' = zW T' G' (zPut S 70 30 x2 ((1024 : Int32) * ((1 : Int32) + (F_Ranks_aheadOf S x2 ((F_T_bit S x1) ^^^ (-1)))))) n := hv
      rw [hF32] at K hv hs
      try dsimp only [z_let] at K hs
      obtain ⟨rfl, rfl⟩ := hv
      show z_G X zm_Ranks_spread (35, [(0, z_r 68), (1, .inl x1), (2, .inl x2)], [], zW T' G' S32 n, 0, 0)
      refine z_go2 M.1 35 [(.iinc 2 1, 3), (.goto (-36), 3)] (2, [(2, .inl (x2 + 1)), (0, z_r 68), (1, .inl x1)], [], zW T' G' S32 n, 0, 0) (by decide +kernel) rfl ⟨trivial, trivial, trivial⟩ ?_
      exact z_lvs (lv' := [(0, z_r 68), (1, .inl x1), (2, .inl (x2 + 1))]) [1, 2, 0] rfl (hC S32 (x2 + 1) K hs)
def F_Ranks_spread_L43 : Nat → (Nat → Nat → Int32) → Int32 → ((Nat → Nat → Int32))
  | 0, S, x2 => S
  | f + 1, S, x2 => (if (S 68 2) ≤ x2 then S else (z_let (zPut S 69 30 x2 (zAt (S 70) 30 x2)) (fun S64 => ((F_Ranks_spread_L43 f) S64 (x2 + 1)))))
def Sf_Ranks_spread_L43 : Nat → (Nat → Nat → Int32) → Int32 → Prop
  | 0, _, _ => False
  | f + 1, S, x2 => (if (S 68 2) ≤ x2 then True else (z_let (zPut S 69 30 x2 (zAt (S 70) 30 x2)) (fun S64 => ((Sf_Ranks_spread_L43 f) S64 (x2 + 1)))))
theorem t_Ranks_spread_L43 {X : z_X} {Post : Option z_V → z_W → Prop} (M : z_M X zm_Ranks_spread rm_Ranks_spread Post) {T' : Nat → Nat × Nat} {G' : Nat → Nat → Option Nat} {n : Nat} {Q : ((Nat → Nat → Int32)) → Prop}  (hE : ∀ (S' : (Nat → Nat → Int32)), Q S' → z_G X zm_Ranks_spread (73, [], [], zW T' G' S' n, 0, 0)) (f : Nat) : ∀ (S : (Nat → Nat → Int32)) (x2 : Int32), Q (F_Ranks_spread_L43 f S x2) → Sf_Ranks_spread_L43 f S x2 → z_G X zm_Ranks_spread (43, [(0, z_r 68), (2, .inl x2)], [], zW T' G' S n, 0, 0) := by
  induction f with
  | zero => intro S x2 K hs; exact False.elim hs
  | succ f hC =>
    intro S x2 K hs
    rw [F_Ranks_spread_L43] at K
    rw [Sf_Ranks_spread_L43] at hs
    refine z_go2 M.1 43 [(.iload_n 2, 1), (.aload_n 0, 1), (.getfield 18, 3)] (48, [(0, z_r 68), (2, .inl x2)], [.inl (S 68 2), .inl x2], zW T' G' S n, 0, 0) (by decide +kernel) rfl ⟨trivial, trivial, rfl, trivial⟩ ?_
    refine z_icmp_ge 73 M.1 (off := 25) (by decide +kernel) (by decide) (fun c48 => ?_) (fun c48 => ?_)
    · rw [if_pos c48] at K hs
      exact z_lvs (lv' := []) [] rfl (hE S K)
    · rw [if_neg c48] at K hs
      refine z_go2 M.1 51 [(.aload_n 0, 1), (.getfield 9, 3), (.iload_n 2, 1), (.aload_n 0, 1), (.getfield 15, 3), (.iload_n 2, 1)] (61, [(0, z_r 68), (2, .inl x2)], [.inl x2, z_r 70, .inl x2, z_r 69], zW T' G' S n, 0, 0) (by decide +kernel) rfl ⟨trivial, rfl, trivial, trivial, rfl, trivial, trivial⟩ ?_
      refine z_callS M.1 (av := [z_r 70, .inl x2]) (st := [.inl x2, z_r 69]) (by decide +kernel) (c_at (zW T' G' S n) 70 30 rfl (by decide) x2) M.2.1 zl_Ranks_22 zs_T_at ⟨by decide, by decide, by decide, by decide⟩ rfl (Nat.le_of_ble_eq_true rfl) (fun v w' hv => ?_)
      obtain ⟨rfl, rfl⟩ := hv
      show z_G X zm_Ranks_spread (64, [(0, z_r 68), (2, .inl x2)], [.inl (zAt (S 70) 30 x2), .inl x2, z_r 69], zW T' G' S n, 0, 0)
      refine z_callS M.1 (av := [z_r 69, .inl x2, .inl (zAt (S 70) 30 x2)]) (st := []) (by decide +kernel) (c_put (zW T' G' S n) 69 30 rfl (by decide) x2 (zAt (S 70) 30 x2)) M.2.1 zl_Ranks_32 zs_T_put ⟨by decide, by decide, by decide, by decide⟩ rfl (Nat.le_of_ble_eq_true rfl) (fun v w' hv => ?_)
      obtain ⟨S64, hF64⟩ : ∃ y, zPut S 69 30 x2 (zAt (S 70) 30 x2) = y := ⟨_, rfl⟩
      replace hv : v = none ∧ w' = zW T' G' (zPut S 69 30 x2 (zAt (S 70) 30 x2)) n := hv
      rw [hF64] at K hv hs
      try dsimp only [z_let] at K hs
      obtain ⟨rfl, rfl⟩ := hv
      show z_G X zm_Ranks_spread (67, [(0, z_r 68), (2, .inl x2)], [], zW T' G' S64 n, 0, 0)
      refine z_go2 M.1 67 [(.iinc 2 1, 3), (.goto (-27), 3)] (43, [(2, .inl (x2 + 1)), (0, z_r 68)], [], zW T' G' S64 n, 0, 0) (by decide +kernel) rfl ⟨trivial, trivial, trivial⟩ ?_
      exact z_lvs (lv' := [(0, z_r 68), (2, .inl (x2 + 1))]) [1, 0] rfl (hC S64 (x2 + 1) K hs)
def F_Ranks_spread (S : (Nat → Nat → Int32)) (p1 : Int32) : (Nat → Nat → Int32) := (match F_Ranks_spread_L2 p1 1300 S 0 with | S2 => (match F_Ranks_spread_L43 1300 S2 0 with | S43 => S43))
def Sf_Ranks_spread (S : (Nat → Nat → Int32)) (p1 : Int32) : Prop := (Sf_Ranks_spread_L2 p1 1300 S 0 ∧ (match F_Ranks_spread_L2 p1 1300 S 0 with | S2 => (Sf_Ranks_spread_L43 1300 S2 0 ∧ True)))
theorem c_Ranks_spread (T' : Nat → Nat × Nat) (G' : Nat → Nat → Option Nat) (S : (Nat → Nat → Int32)) (n : Nat) (p1 : Int32) (hs : Sf_Ranks_spread S p1) : z_Run rm_Ranks_spread zm_Ranks_spread [z_r 68, .inl p1] (zW T' G' S n) (zq none (zW T' G' (F_Ranks_spread S p1) n)) := by
  refine z_body (by decide) zf_Ranks_ok (Nat.le_of_ble_eq_true rfl) (fun X M => ?_)
  obtain ⟨Q, hQ, K⟩ : ∃ Q : (Nat → Nat → Int32) → Prop, (∀ S', Q S' → zq none (zW T' G' (F_Ranks_spread S p1) n) none (zW T' G' S' n)) ∧ Q (F_Ranks_spread S p1) := ⟨fun o => F_Ranks_spread S p1 = o, fun S' h => ⟨rfl, by rw [h]⟩, rfl⟩
  show z_G X zm_Ranks_spread (0, [(0, z_r 68), (1, .inl p1)], [], zW T' G' S n, 0, 0)
  unfold F_Ranks_spread at K
  unfold Sf_Ranks_spread at hs
  refine z_go2 M.1 0 [(.iconst 0, 1), (.istore_n 2, 1)] (2, [(2, .inl 0), (0, z_r 68), (1, .inl p1)], [], zW T' G' S n, 0, 0) (by decide +kernel) rfl ⟨trivial, trivial, trivial⟩ ?_
  refine z_lvs (lv' := [(0, z_r 68), (1, .inl p1), (2, .inl 0)]) [1, 2, 0] rfl ?_
  refine t_Ranks_spread_L2 M (Q := fun o => F_Ranks_spread_L2 p1 1300 S 0 = o) p1 (fun S2 hL2 => ?_) 1300 S 0 rfl hs.1
  replace hs := hs.2
  rw [hL2] at K hs
  try dsimp only at K hs
  refine z_go2 M.1 41 [(.iconst 0, 1), (.istore_n 2, 1)] (43, [(2, .inl 0), (0, z_r 68)], [], zW T' G' S2 n, 0, 0) (by decide +kernel) rfl ⟨trivial, trivial, trivial⟩ ?_
  refine z_lvs (lv' := [(0, z_r 68), (2, .inl 0)]) [1, 0] rfl ?_
  refine t_Ranks_spread_L43 M (Q := fun o => F_Ranks_spread_L43 1300 S2 0 = o) (fun S43 hL43 => ?_) 1300 S2 0 rfl hs.1
  replace hs := hs.2
  rw [hL43] at K
  try dsimp only at K
  exact z_vret M (by decide +kernel) rfl (by decide) (by decide) (hQ _ K)

-- TrackHouse$Ranks.atPlace
abbrev rm_Ranks_atPlace : Room := zr 2
def F_Ranks_atPlace_L2 (S : (Nat → Nat → Int32)) (x1 : Int32) (x2 : Int32) : Nat → Int32 → ((Unit) ⊕ Int32)
  | 0, x3 => (.inl ())
  | f + 1, x3 => (if (S 68 2) ≤ x3 then (.inl ()) else (if (F_T_isIn S x1 x3) = 0 then ((F_Ranks_atPlace_L2 S x1 x2 f) (x3 + 1)) else (if (F_Ranks_aheadOf S x3 x1) = x2 then (.inr x3) else ((F_Ranks_atPlace_L2 S x1 x2 f) (x3 + 1)))))
def Sf_Ranks_atPlace_L2 (S : (Nat → Nat → Int32)) (x1 : Int32) (x2 : Int32) : Nat → Int32 → Prop
  | 0, _ => False
  | f + 1, x3 => (if (S 68 2) ≤ x3 then True else (if (F_T_isIn S x1 x3) = 0 then ((Sf_Ranks_atPlace_L2 S x1 x2 f) (x3 + 1)) else (Sf_Ranks_aheadOf S x3 x1 ∧ (if (F_Ranks_aheadOf S x3 x1) = x2 then True else ((Sf_Ranks_atPlace_L2 S x1 x2 f) (x3 + 1))))))
theorem t_Ranks_atPlace_L2 {X : z_X} {Post : Option z_V → z_W → Prop} (M : z_M X zm_Ranks_atPlace rm_Ranks_atPlace Post) {T' : Nat → Nat × Nat} {G' : Nat → Nat → Option Nat} {n : Nat} {Q : ((Unit) ⊕ Int32) → Prop} (S : (Nat → Nat → Int32))  (x1 : Int32) (x2 : Int32) (hQ : ∀ v, Q (.inr v) → Post (some (.inl v)) (zW T' G' S n)) (hE : Q (.inl ()) → z_G X zm_Ranks_atPlace (36, [], [], zW T' G' S n, 0, 0)) (f : Nat) : ∀ (x3 : Int32), Q (F_Ranks_atPlace_L2 S x1 x2 f x3) → Sf_Ranks_atPlace_L2 S x1 x2 f x3 → z_G X zm_Ranks_atPlace (2, [(0, z_r 68), (1, .inl x1), (2, .inl x2), (3, .inl x3)], [], zW T' G' S n, 0, 0) := by
  induction f with
  | zero => intro x3 K hs; exact False.elim hs
  | succ f hC =>
    intro x3 K hs
    rw [F_Ranks_atPlace_L2] at K
    rw [Sf_Ranks_atPlace_L2] at hs
    refine z_go2 M.1 2 [(.iload_n 3, 1), (.aload_n 0, 1), (.getfield 18, 3)] (7, [(0, z_r 68), (1, .inl x1), (2, .inl x2), (3, .inl x3)], [.inl (S 68 2), .inl x3], zW T' G' S n, 0, 0) (by decide +kernel) rfl ⟨trivial, trivial, rfl, trivial⟩ ?_
    refine z_icmp_ge 36 M.1 (off := 29) (by decide +kernel) (by decide) (fun c7 => ?_) (fun c7 => ?_)
    · rw [if_pos c7] at K hs
      exact z_lvs (lv' := []) [] rfl (hE K)
    · rw [if_neg c7] at K hs
      refine z_go2 M.1 10 [(.iload_n 1, 1), (.iload_n 3, 1)] (12, [(0, z_r 68), (1, .inl x1), (2, .inl x2), (3, .inl x3)], [.inl x3, .inl x1], zW T' G' S n, 0, 0) (by decide +kernel) rfl ⟨trivial, trivial, trivial⟩ ?_
      refine z_callS M.1 (av := [.inl x1, .inl x3]) (st := []) (by decide +kernel) (c_T_isIn T' G' S n x1 x3) M.2.1 zl_Ranks_50 zs_T_isIn ⟨by decide, by decide, by decide, by decide⟩ rfl (Nat.le_of_ble_eq_true rfl) (fun v w' hv => ?_)
      obtain ⟨rfl, rfl⟩ := hv
      show z_G X zm_Ranks_atPlace (15, [(0, z_r 68), (1, .inl x1), (2, .inl x2), (3, .inl x3)], [.inl (F_T_isIn S x1 x3)], zW T' G' S n, 0, 0)
      refine z_if_eq 30 M.1 (off := 15) (by decide +kernel) (by decide) (fun c15 => ?_) (fun c15 => ?_)
      · rw [if_pos c15] at K hs
        refine z_go2 M.1 30 [(.iinc 3 1, 3), (.goto (-31), 3)] (2, [(3, .inl (x3 + 1)), (0, z_r 68), (1, .inl x1), (2, .inl x2)], [], zW T' G' S n, 0, 0) (by decide +kernel) rfl ⟨trivial, trivial, trivial⟩ ?_
        exact z_lvs (lv' := [(0, z_r 68), (1, .inl x1), (2, .inl x2), (3, .inl (x3 + 1))]) [1, 2, 3, 0] rfl (hC (x3 + 1) K hs)
      · rw [if_neg c15] at K hs
        refine z_go2 M.1 18 [(.aload_n 0, 1), (.iload_n 3, 1), (.iload_n 1, 1)] (21, [(0, z_r 68), (1, .inl x1), (2, .inl x2), (3, .inl x3)], [.inl x1, .inl x3, z_r 68], zW T' G' S n, 0, 0) (by decide +kernel) rfl ⟨trivial, trivial, trivial, trivial⟩ ?_
        refine z_callV M.1 (av := [.inl x3, .inl x1]) (st := []) (a := 68) (ci := 6) (by decide +kernel) (c_Ranks_aheadOf T' G' S n x3 x1 hs.1) M.2.1 zl_Ranks_47 zv_Ranks_aheadOf rfl rfl rfl ⟨by decide, by decide, by decide, by decide⟩ rfl (Nat.le_of_ble_eq_true rfl) (fun v w' hv => ?_)
        obtain ⟨rfl, rfl⟩ := hv
        replace hs := hs.2
        show z_G X zm_Ranks_atPlace (24, [(0, z_r 68), (1, .inl x1), (2, .inl x2), (3, .inl x3)], [.inl (F_Ranks_aheadOf S x3 x1)], zW T' G' S n, 0, 0)
        refine z_go2 M.1 24 [(.iload_n 2, 1)] (25, [(0, z_r 68), (1, .inl x1), (2, .inl x2), (3, .inl x3)], [.inl x2, .inl (F_Ranks_aheadOf S x3 x1)], zW T' G' S n, 0, 0) (by decide +kernel) rfl ⟨trivial, trivial⟩ ?_
        refine z_icmp_ne 30 M.1 (off := 5) (by decide +kernel) (by decide) (fun c25 => ?_) (fun c25 => ?_)
        · rw [if_neg c25] at K hs
          refine z_go2 M.1 30 [(.iinc 3 1, 3), (.goto (-31), 3)] (2, [(3, .inl (x3 + 1)), (0, z_r 68), (1, .inl x1), (2, .inl x2)], [], zW T' G' S n, 0, 0) (by decide +kernel) rfl ⟨trivial, trivial, trivial⟩ ?_
          exact z_lvs (lv' := [(0, z_r 68), (1, .inl x1), (2, .inl x2), (3, .inl (x3 + 1))]) [1, 2, 3, 0] rfl (hC (x3 + 1) K hs)
        · rw [if_pos c25] at K hs
          refine z_go2 M.1 28 [(.iload_n 3, 1)] (29, [(0, z_r 68), (1, .inl x1), (2, .inl x2), (3, .inl x3)], [.inl x3], zW T' G' S n, 0, 0) (by decide +kernel) rfl ⟨trivial, trivial⟩ ?_
          exact z_iret M (by decide +kernel) .int rfl rfl (by decide) (by decide) (hQ _ K)
def F_Ranks_atPlace (S : (Nat → Nat → Int32)) (p1 : Int32) (p2 : Int32) : Int32 := (match F_Ranks_atPlace_L2 S p1 p2 1300 0 with | .inl () => (-1) | .inr r => r)
def Sf_Ranks_atPlace (S : (Nat → Nat → Int32)) (p1 : Int32) (p2 : Int32) : Prop := (Sf_Ranks_atPlace_L2 S p1 p2 1300 0 ∧ True)
theorem c_Ranks_atPlace (T' : Nat → Nat × Nat) (G' : Nat → Nat → Option Nat) (S : (Nat → Nat → Int32)) (n : Nat) (p1 : Int32) (p2 : Int32) (hs : Sf_Ranks_atPlace S p1 p2) : z_Run rm_Ranks_atPlace zm_Ranks_atPlace [z_r 68, .inl p1, .inl p2] (zW T' G' S n) (zq (some (.inl (F_Ranks_atPlace S p1 p2))) (zW T' G' S n)) := by
  refine z_body (by decide) zf_Ranks_ok (Nat.le_of_ble_eq_true rfl) (fun X M => ?_)
  obtain ⟨Q, hQ, K⟩ : ∃ Q : Int32 → Prop, (∀ v, Q v → zq (some (.inl (F_Ranks_atPlace S p1 p2))) (zW T' G' S n) (some (.inl v)) (zW T' G' S n)) ∧ Q (F_Ranks_atPlace S p1 p2) := ⟨fun o => F_Ranks_atPlace S p1 p2 = o, fun v h => ⟨by rw [h], rfl⟩, rfl⟩
  show z_G X zm_Ranks_atPlace (0, [(0, z_r 68), (1, .inl p1), (2, .inl p2)], [], zW T' G' S n, 0, 0)
  unfold F_Ranks_atPlace at K
  unfold Sf_Ranks_atPlace at hs
  refine z_go2 M.1 0 [(.iconst 0, 1), (.istore_n 3, 1)] (2, [(3, .inl 0), (0, z_r 68), (1, .inl p1), (2, .inl p2)], [], zW T' G' S n, 0, 0) (by decide +kernel) rfl ⟨trivial, trivial, trivial⟩ ?_
  refine z_lvs (lv' := [(0, z_r 68), (1, .inl p1), (2, .inl p2), (3, .inl 0)]) [1, 2, 3, 0] rfl ?_
  refine t_Ranks_atPlace_L2 M (Q := fun o => F_Ranks_atPlace_L2 S p1 p2 1300 0 = o) S p1 p2 (fun v h => by rw [h] at K; exact hQ _ K) (fun hL2 => ?_) 1300 0 rfl hs.1
  replace hs := hs.2
  rw [hL2] at K
  try dsimp only at K
  refine z_go2 M.1 36 [(.iconst (-1), 1)] (37, [], [.inl (-1)], zW T' G' S n, 0, 0) (by decide +kernel) rfl ⟨trivial, trivial⟩ ?_
  exact z_iret M (by decide +kernel) .int rfl rfl (by decide) (by decide) (hQ _ K)

-- TrackHouse$Ranks.bringAhead
abbrev rm_Ranks_bringAhead : Room := zr 3
def F_Ranks_bringAhead_j15 (S : (Nat → Nat → Int32)) (x1 : Int32) (x2 : Int32) : (Nat → Nat → Int32) := (z_let (zPut S 69 30 x1 (F_Ranks_middle S x1 x2)) (fun S26 => S26))
def Sf_Ranks_bringAhead_j15 (S : (Nat → Nat → Int32)) (x1 : Int32) (x2 : Int32) : Prop := (Sf_Ranks_middle S x1 x2 ∧ True)
theorem t_Ranks_bringAhead_j15 {X : z_X} {Post : Option z_V → z_W → Prop} (M : z_M X zm_Ranks_bringAhead rm_Ranks_bringAhead Post) {T' : Nat → Nat × Nat} {G' : Nat → Nat → Option Nat} {n : Nat} {Q : (Nat → Nat → Int32) → Prop} (S : (Nat → Nat → Int32)) (x1 : Int32) (x2 : Int32) (hQ : ∀ S', Q S' → Post none (zW T' G' S' n)) (K : Q (F_Ranks_bringAhead_j15 S x1 x2)) (hs : Sf_Ranks_bringAhead_j15 S x1 x2) : z_G X zm_Ranks_bringAhead (15, [(0, z_r 68), (1, .inl x1), (2, .inl x2)], [], zW T' G' S n, 0, 0) := by
  unfold F_Ranks_bringAhead_j15 at K
  unfold Sf_Ranks_bringAhead_j15 at hs
  refine z_go2 M.1 15 [(.aload_n 0, 1), (.getfield 9, 3), (.iload_n 1, 1), (.aload_n 0, 1), (.iload_n 1, 1), (.iload_n 2, 1)] (23, [(0, z_r 68), (1, .inl x1), (2, .inl x2)], [.inl x2, .inl x1, z_r 68, .inl x1, z_r 69], zW T' G' S n, 0, 0) (by decide +kernel) rfl ⟨trivial, rfl, trivial, trivial, trivial, trivial, trivial⟩ ?_
  refine z_callV M.1 (av := [.inl x1, .inl x2]) (st := [.inl x1, z_r 69]) (a := 68) (ci := 6) (by decide +kernel) (c_Ranks_middle T' G' S n x1 x2 hs.1) M.2.1 zl_Ranks_36 zv_Ranks_middle rfl rfl rfl ⟨by decide, by decide, by decide, by decide⟩ rfl (Nat.le_of_ble_eq_true rfl) (fun v w' hv => ?_)
  obtain ⟨rfl, rfl⟩ := hv
  replace hs := hs.2
  show z_G X zm_Ranks_bringAhead (26, [(0, z_r 68), (1, .inl x1), (2, .inl x2)], [.inl (F_Ranks_middle S x1 x2), .inl x1, z_r 69], zW T' G' S n, 0, 0)
  refine z_callS M.1 (av := [z_r 69, .inl x1, .inl (F_Ranks_middle S x1 x2)]) (st := []) (by decide +kernel) (c_put (zW T' G' S n) 69 30 rfl (by decide) x1 (F_Ranks_middle S x1 x2)) M.2.1 zl_Ranks_32 zs_T_put ⟨by decide, by decide, by decide, by decide⟩ rfl (Nat.le_of_ble_eq_true rfl) (fun v w' hv => ?_)
  obtain ⟨S26, hF26⟩ : ∃ y, zPut S 69 30 x1 (F_Ranks_middle S x1 x2) = y := ⟨_, rfl⟩
  replace hv : v = none ∧ w' = zW T' G' (zPut S 69 30 x1 (F_Ranks_middle S x1 x2)) n := hv
  rw [hF26] at K hv
  try dsimp only [z_let] at K
  obtain ⟨rfl, rfl⟩ := hv
  show z_G X zm_Ranks_bringAhead (29, [(0, z_r 68), (1, .inl x1), (2, .inl x2)], [], zW T' G' S26 n, 0, 0)
  exact z_vret M (by decide +kernel) rfl (by decide) (by decide) (hQ _ K)
def F_Ranks_bringAhead (S : (Nat → Nat → Int32)) (p1 : Int32) (p2 : Int32) : (Nat → Nat → Int32) := (if (F_Ranks_middle S p1 p2) = (-1) then (z_let (F_Ranks_spread S p1) (fun S12 => (z_let (zPut S12 69 30 p1 (F_Ranks_middle S12 p1 p2)) (fun S26 => S26)))) else (F_Ranks_bringAhead_j15 S p1 p2))
def Sf_Ranks_bringAhead (S : (Nat → Nat → Int32)) (p1 : Int32) (p2 : Int32) : Prop := (Sf_Ranks_middle S p1 p2 ∧ (if (F_Ranks_middle S p1 p2) = (-1) then (Sf_Ranks_spread S p1 ∧ (z_let (F_Ranks_spread S p1) (fun S12 => (Sf_Ranks_middle S12 p1 p2 ∧ True)))) else (Sf_Ranks_bringAhead_j15 S p1 p2)))
theorem c_Ranks_bringAhead (T' : Nat → Nat × Nat) (G' : Nat → Nat → Option Nat) (S : (Nat → Nat → Int32)) (n : Nat) (p1 : Int32) (p2 : Int32) (hs : Sf_Ranks_bringAhead S p1 p2) : z_Run rm_Ranks_bringAhead zm_Ranks_bringAhead [z_r 68, .inl p1, .inl p2] (zW T' G' S n) (zq none (zW T' G' (F_Ranks_bringAhead S p1 p2) n)) := by
  refine z_body (by decide) zf_Ranks_ok (Nat.le_of_ble_eq_true rfl) (fun X M => ?_)
  obtain ⟨Q, hQ, K⟩ : ∃ Q : (Nat → Nat → Int32) → Prop, (∀ S', Q S' → zq none (zW T' G' (F_Ranks_bringAhead S p1 p2) n) none (zW T' G' S' n)) ∧ Q (F_Ranks_bringAhead S p1 p2) := ⟨fun o => F_Ranks_bringAhead S p1 p2 = o, fun S' h => ⟨rfl, by rw [h]⟩, rfl⟩
  show z_G X zm_Ranks_bringAhead (0, [(0, z_r 68), (1, .inl p1), (2, .inl p2)], [], zW T' G' S n, 0, 0)
  unfold F_Ranks_bringAhead at K
  unfold Sf_Ranks_bringAhead at hs
  refine z_go2 M.1 0 [(.aload_n 0, 1), (.iload_n 1, 1), (.iload_n 2, 1)] (3, [(0, z_r 68), (1, .inl p1), (2, .inl p2)], [.inl p2, .inl p1, z_r 68], zW T' G' S n, 0, 0) (by decide +kernel) rfl ⟨trivial, trivial, trivial, trivial⟩ ?_
  refine z_callV M.1 (av := [.inl p1, .inl p2]) (st := []) (a := 68) (ci := 6) (by decide +kernel) (c_Ranks_middle T' G' S n p1 p2 hs.1) M.2.1 zl_Ranks_36 zv_Ranks_middle rfl rfl rfl ⟨by decide, by decide, by decide, by decide⟩ rfl (Nat.le_of_ble_eq_true rfl) (fun v w' hv => ?_)
  obtain ⟨rfl, rfl⟩ := hv
  replace hs := hs.2
  show z_G X zm_Ranks_bringAhead (6, [(0, z_r 68), (1, .inl p1), (2, .inl p2)], [.inl (F_Ranks_middle S p1 p2)], zW T' G' S n, 0, 0)
  refine z_go2 M.1 6 [(.iconst (-1), 1)] (7, [(0, z_r 68), (1, .inl p1), (2, .inl p2)], [.inl (-1), .inl (F_Ranks_middle S p1 p2)], zW T' G' S n, 0, 0) (by decide +kernel) rfl ⟨trivial, trivial⟩ ?_
  refine z_icmp_ne 15 M.1 (off := 8) (by decide +kernel) (by decide) (fun c7 => ?_) (fun c7 => ?_)
  · rw [if_neg c7] at K hs
    exact z_lvs (lv' := [(0, z_r 68), (1, .inl p1), (2, .inl p2)]) [0, 1, 2] rfl (t_Ranks_bringAhead_j15 M S p1 p2 hQ K hs)
  · rw [if_pos c7] at K hs
    refine z_go2 M.1 10 [(.aload_n 0, 1), (.iload_n 1, 1)] (12, [(0, z_r 68), (1, .inl p1), (2, .inl p2)], [.inl p1, z_r 68], zW T' G' S n, 0, 0) (by decide +kernel) rfl ⟨trivial, trivial, trivial⟩ ?_
    refine z_callV M.1 (av := [.inl p1]) (st := []) (a := 68) (ci := 6) (by decide +kernel) (c_Ranks_spread T' G' S n p1 hs.1) M.2.1 zl_Ranks_39 zv_Ranks_spread rfl rfl rfl ⟨by decide, by decide, by decide, by decide⟩ rfl (Nat.le_of_ble_eq_true rfl) (fun v w' hv => ?_)
    replace hs := hs.2
    obtain ⟨S12, hF12⟩ : ∃ y, F_Ranks_spread S p1 = y := ⟨_, rfl⟩
    rw [hF12] at K hv hs
    try dsimp only [z_let] at K hs
    obtain ⟨rfl, rfl⟩ := hv
    show z_G X zm_Ranks_bringAhead (15, [(0, z_r 68), (1, .inl p1), (2, .inl p2)], [], zW T' G' S12 n, 0, 0)
    refine z_go2 M.1 15 [(.aload_n 0, 1), (.getfield 9, 3), (.iload_n 1, 1), (.aload_n 0, 1), (.iload_n 1, 1), (.iload_n 2, 1)] (23, [(0, z_r 68), (1, .inl p1), (2, .inl p2)], [.inl p2, .inl p1, z_r 68, .inl p1, z_r 69], zW T' G' S12 n, 0, 0) (by decide +kernel) rfl ⟨trivial, rfl, trivial, trivial, trivial, trivial, trivial⟩ ?_
    refine z_callV M.1 (av := [.inl p1, .inl p2]) (st := [.inl p1, z_r 69]) (a := 68) (ci := 6) (by decide +kernel) (c_Ranks_middle T' G' S12 n p1 p2 hs.1) M.2.1 zl_Ranks_36 zv_Ranks_middle rfl rfl rfl ⟨by decide, by decide, by decide, by decide⟩ rfl (Nat.le_of_ble_eq_true rfl) (fun v w' hv => ?_)
    obtain ⟨rfl, rfl⟩ := hv
    replace hs := hs.2
    show z_G X zm_Ranks_bringAhead (26, [(0, z_r 68), (1, .inl p1), (2, .inl p2)], [.inl (F_Ranks_middle S12 p1 p2), .inl p1, z_r 69], zW T' G' S12 n, 0, 0)
    refine z_callS M.1 (av := [z_r 69, .inl p1, .inl (F_Ranks_middle S12 p1 p2)]) (st := []) (by decide +kernel) (c_put (zW T' G' S12 n) 69 30 rfl (by decide) p1 (F_Ranks_middle S12 p1 p2)) M.2.1 zl_Ranks_32 zs_T_put ⟨by decide, by decide, by decide, by decide⟩ rfl (Nat.le_of_ble_eq_true rfl) (fun v w' hv => ?_)
    obtain ⟨S26, hF26⟩ : ∃ y, zPut S12 69 30 p1 (F_Ranks_middle S12 p1 p2) = y := ⟨_, rfl⟩
    replace hv : v = none ∧ w' = zW T' G' (zPut S12 69 30 p1 (F_Ranks_middle S12 p1 p2)) n := hv
    rw [hF26] at K hv
    try dsimp only [z_let] at K
    obtain ⟨rfl, rfl⟩ := hv
    show z_G X zm_Ranks_bringAhead (29, [(0, z_r 68), (1, .inl p1), (2, .inl p2)], [], zW T' G' S26 n, 0, 0)
    exact z_vret M (by decide +kernel) rfl (by decide) (by decide) (hQ _ K)

-- TrackHouse$Rules.setCause
abbrev rm_Rules_setCause : Room := zr 1
def F_Rules_setCause (S : (Nat → Nat → Int32)) (p1 : Int32) (p2 : Int32) (p3 : Int32) : (Nat → Nat → Int32) := (z_let (zPut S 60 6 p1 p2) (fun S6 => (z_let (zPut S6 61 6 p1 p3) (fun S15 => S15))))
theorem c_Rules_setCause (T' : Nat → Nat × Nat) (G' : Nat → Nat → Option Nat) (S : (Nat → Nat → Int32)) (n : Nat) (p1 : Int32) (p2 : Int32) (p3 : Int32) : z_Run rm_Rules_setCause zm_Rules_setCause [z_r 59, .inl p1, .inl p2, .inl p3] (zW T' G' S n) (zq none (zW T' G' (F_Rules_setCause S p1 p2 p3) n)) := by
  refine z_body (by decide) zf_Rules_ok (Nat.le_of_ble_eq_true rfl) (fun X M => ?_)
  obtain ⟨Q, hQ, K⟩ : ∃ Q : (Nat → Nat → Int32) → Prop, (∀ S', Q S' → zq none (zW T' G' (F_Rules_setCause S p1 p2 p3) n) none (zW T' G' S' n)) ∧ Q (F_Rules_setCause S p1 p2 p3) := ⟨fun o => F_Rules_setCause S p1 p2 p3 = o, fun S' h => ⟨rfl, by rw [h]⟩, rfl⟩
  show z_G X zm_Rules_setCause (0, [(0, z_r 59), (1, .inl p1), (2, .inl p2), (3, .inl p3)], [], zW T' G' S n, 0, 0)
  unfold F_Rules_setCause at K
  refine z_go2 M.1 0 [(.aload_n 0, 1), (.getfield 9, 3), (.iload_n 1, 1), (.iload_n 2, 1)] (6, [(0, z_r 59), (1, .inl p1), (2, .inl p2), (3, .inl p3)], [.inl p2, .inl p1, z_r 60], zW T' G' S n, 0, 0) (by decide +kernel) rfl ⟨trivial, rfl, trivial, trivial, trivial⟩ ?_
  refine z_callS M.1 (av := [z_r 60, .inl p1, .inl p2]) (st := []) (by decide +kernel) (c_put (zW T' G' S n) 60 6 rfl (by decide) p1 p2) M.2.1 zl_Rules_40 zs_T_put ⟨by decide, by decide, by decide, by decide⟩ rfl (Nat.le_of_ble_eq_true rfl) (fun v w' hv => ?_)
  obtain ⟨S6, hF6⟩ : ∃ y, zPut S 60 6 p1 p2 = y := ⟨_, rfl⟩
  replace hv : v = none ∧ w' = zW T' G' (zPut S 60 6 p1 p2) n := hv
  rw [hF6] at K hv
  try dsimp only [z_let] at K
  obtain ⟨rfl, rfl⟩ := hv
  show z_G X zm_Rules_setCause (9, [(0, z_r 59), (1, .inl p1), (2, .inl p2), (3, .inl p3)], [], zW T' G' S6 n, 0, 0)
  refine z_go2 M.1 9 [(.aload_n 0, 1), (.getfield 15, 3), (.iload_n 1, 1), (.iload_n 3, 1)] (15, [(0, z_r 59), (1, .inl p1), (2, .inl p2), (3, .inl p3)], [.inl p3, .inl p1, z_r 61], zW T' G' S6 n, 0, 0) (by decide +kernel) rfl ⟨trivial, rfl, trivial, trivial, trivial⟩ ?_
  refine z_callS M.1 (av := [z_r 61, .inl p1, .inl p3]) (st := []) (by decide +kernel) (c_put (zW T' G' S6 n) 61 6 rfl (by decide) p1 p3) M.2.1 zl_Rules_40 zs_T_put ⟨by decide, by decide, by decide, by decide⟩ rfl (Nat.le_of_ble_eq_true rfl) (fun v w' hv => ?_)
  obtain ⟨S15, hF15⟩ : ∃ y, zPut S6 61 6 p1 p3 = y := ⟨_, rfl⟩
  replace hv : v = none ∧ w' = zW T' G' (zPut S6 61 6 p1 p3) n := hv
  rw [hF15] at K hv
  try dsimp only [z_let] at K
  obtain ⟨rfl, rfl⟩ := hv
  show z_G X zm_Rules_setCause (18, [(0, z_r 59), (1, .inl p1), (2, .inl p2), (3, .inl p3)], [], zW T' G' S15 n, 0, 0)
  exact z_vret M (by decide +kernel) rfl (by decide) (by decide) (hQ _ K)

-- TrackHouse$Rules.setDeed
abbrev rm_Rules_setDeed : Room := zr 1
def F_Rules_setDeed_j54 (S : (Nat → Nat → Int32)) (s0 : Int32) (s1 : Int32) : (Nat → Nat → Int32) := (z_let (zPut S 64 6 s1 s0) (fun S54 => S54))
theorem t_Rules_setDeed_j54 {X : z_X} {Post : Option z_V → z_W → Prop} (M : z_M X zm_Rules_setDeed rm_Rules_setDeed Post) {T' : Nat → Nat × Nat} {G' : Nat → Nat → Option Nat} {n : Nat} {Q : (Nat → Nat → Int32) → Prop} (S : (Nat → Nat → Int32)) (s0 : Int32) (s1 : Int32) (hQ : ∀ S', Q S' → Post none (zW T' G' S' n)) (K : Q (F_Rules_setDeed_j54 S s0 s1)) : z_G X zm_Rules_setDeed (54, [], [.inl s0, .inl s1, z_r 64], zW T' G' S n, 0, 0) := by
  unfold F_Rules_setDeed_j54 at K
  refine z_callS M.1 (av := [z_r 64, .inl s1, .inl s0]) (st := []) (by decide +kernel) (c_put (zW T' G' S n) 64 6 rfl (by decide) s1 s0) M.2.1 zl_Rules_40 zs_T_put ⟨by decide, by decide, by decide, by decide⟩ rfl (Nat.le_of_ble_eq_true rfl) (fun v w' hv => ?_)
  obtain ⟨S54, hF54⟩ : ∃ y, zPut S 64 6 s1 s0 = y := ⟨_, rfl⟩
  replace hv : v = none ∧ w' = zW T' G' (zPut S 64 6 s1 s0) n := hv
  rw [hF54] at K hv
  try dsimp only [z_let] at K
  obtain ⟨rfl, rfl⟩ := hv
  show z_G X zm_Rules_setDeed (57, [], [], zW T' G' S54 n, 0, 0)
  exact z_vret M (by decide +kernel) rfl (by decide) (by decide) (hQ _ K)
def F_Rules_setDeed_j35 (S : (Nat → Nat → Int32)) (x1 : Int32) (x3 : Int32) (x4 : Int32) (x5 : Int32) (s0 : Int32) (s1 : Int32) : (Nat → Nat → Int32) := (z_let (zPut S 63 6 s1 s0) (fun S35 => (if x3 = 0 then (F_Rules_setDeed_j54 S35 x5 x1) else (F_Rules_setDeed_j54 S35 x4 x1))))
theorem t_Rules_setDeed_j35 {X : z_X} {Post : Option z_V → z_W → Prop} (M : z_M X zm_Rules_setDeed rm_Rules_setDeed Post) {T' : Nat → Nat × Nat} {G' : Nat → Nat → Option Nat} {n : Nat} {Q : (Nat → Nat → Int32) → Prop} (S : (Nat → Nat → Int32)) (x1 : Int32) (x3 : Int32) (x4 : Int32) (x5 : Int32) (s0 : Int32) (s1 : Int32) (hQ : ∀ S', Q S' → Post none (zW T' G' S' n)) (K : Q (F_Rules_setDeed_j35 S x1 x3 x4 x5 s0 s1)) : z_G X zm_Rules_setDeed (35, [(0, z_r 59), (1, .inl x1), (3, .inl x3), (4, .inl x4), (5, .inl x5)], [.inl s0, .inl s1, z_r 63], zW T' G' S n, 0, 0) := by
  unfold F_Rules_setDeed_j35 at K
  refine z_callS M.1 (av := [z_r 63, .inl s1, .inl s0]) (st := []) (by decide +kernel) (c_put (zW T' G' S n) 63 6 rfl (by decide) s1 s0) M.2.1 zl_Rules_40 zs_T_put ⟨by decide, by decide, by decide, by decide⟩ rfl (Nat.le_of_ble_eq_true rfl) (fun v w' hv => ?_)
  obtain ⟨S35, hF35⟩ : ∃ y, zPut S 63 6 s1 s0 = y := ⟨_, rfl⟩
  replace hv : v = none ∧ w' = zW T' G' (zPut S 63 6 s1 s0) n := hv
  rw [hF35] at K hv
  try dsimp only [z_let] at K
  obtain ⟨rfl, rfl⟩ := hv
  show z_G X zm_Rules_setDeed (38, [(0, z_r 59), (1, .inl x1), (3, .inl x3), (4, .inl x4), (5, .inl x5)], [], zW T' G' S35 n, 0, 0)
  refine z_go2 M.1 38 [(.aload_n 0, 1), (.getfield 24, 3), (.iload_n 1, 1), (.iload_n 3, 1)] (44, [(0, z_r 59), (1, .inl x1), (3, .inl x3), (4, .inl x4), (5, .inl x5)], [.inl x3, .inl x1, z_r 64], zW T' G' S35 n, 0, 0) (by decide +kernel) rfl ⟨trivial, rfl, trivial, trivial, trivial⟩ ?_
  refine z_if_ne 52 M.1 (off := 8) (by decide +kernel) (by decide) (fun c44 => ?_) (fun c44 => ?_)
  · rw [if_neg c44] at K
    refine z_go2 M.1 52 [(.iload 4, 2)] (54, [(0, z_r 59), (1, .inl x1), (3, .inl x3), (4, .inl x4), (5, .inl x5)], [.inl x4, .inl x1, z_r 64], zW T' G' S35 n, 0, 0) (by decide +kernel) rfl ⟨trivial, trivial⟩ ?_
    exact z_lvs (lv' := []) [] rfl (t_Rules_setDeed_j54 M S35 x4 x1 hQ K)
  · rw [if_pos c44] at K
    refine z_go2 M.1 47 [(.iload 5, 2), (.goto 5, 3)] (54, [(0, z_r 59), (1, .inl x1), (3, .inl x3), (4, .inl x4), (5, .inl x5)], [.inl x5, .inl x1, z_r 64], zW T' G' S35 n, 0, 0) (by decide +kernel) rfl ⟨trivial, trivial, trivial⟩ ?_
    exact z_lvs (lv' := []) [] rfl (t_Rules_setDeed_j54 M S35 x5 x1 hQ K)
def F_Rules_setDeed (S : (Nat → Nat → Int32)) (p1 : Int32) (p2 : Int32) (p3 : Int32) (p4 : Int32) (p5 : Int32) : (Nat → Nat → Int32) := (z_let (zPut S 62 6 p1 p2) (fun S6 => (if p3 = 0 then (F_Rules_setDeed_j35 S6 p1 p3 p4 p5 ((1 : Int32) + p4) p1) else (if p3 = 1 then (F_Rules_setDeed_j35 S6 p1 p3 p4 p5 0 p1) else (F_Rules_setDeed_j35 S6 p1 p3 p4 p5 4 p1)))))
theorem c_Rules_setDeed (T' : Nat → Nat × Nat) (G' : Nat → Nat → Option Nat) (S : (Nat → Nat → Int32)) (n : Nat) (p1 : Int32) (p2 : Int32) (p3 : Int32) (p4 : Int32) (p5 : Int32) : z_Run rm_Rules_setDeed zm_Rules_setDeed [z_r 59, .inl p1, .inl p2, .inl p3, .inl p4, .inl p5] (zW T' G' S n) (zq none (zW T' G' (F_Rules_setDeed S p1 p2 p3 p4 p5) n)) := by
  refine z_body (by decide) zf_Rules_ok (Nat.le_of_ble_eq_true rfl) (fun X M => ?_)
  obtain ⟨Q, hQ, K⟩ : ∃ Q : (Nat → Nat → Int32) → Prop, (∀ S', Q S' → zq none (zW T' G' (F_Rules_setDeed S p1 p2 p3 p4 p5) n) none (zW T' G' S' n)) ∧ Q (F_Rules_setDeed S p1 p2 p3 p4 p5) := ⟨fun o => F_Rules_setDeed S p1 p2 p3 p4 p5 = o, fun S' h => ⟨rfl, by rw [h]⟩, rfl⟩
  show z_G X zm_Rules_setDeed (0, [(0, z_r 59), (1, .inl p1), (2, .inl p2), (3, .inl p3), (4, .inl p4), (5, .inl p5)], [], zW T' G' S n, 0, 0)
  unfold F_Rules_setDeed at K
  refine z_go2 M.1 0 [(.aload_n 0, 1), (.getfield 18, 3), (.iload_n 1, 1), (.iload_n 2, 1)] (6, [(0, z_r 59), (1, .inl p1), (2, .inl p2), (3, .inl p3), (4, .inl p4), (5, .inl p5)], [.inl p2, .inl p1, z_r 62], zW T' G' S n, 0, 0) (by decide +kernel) rfl ⟨trivial, rfl, trivial, trivial, trivial⟩ ?_
  refine z_callS M.1 (av := [z_r 62, .inl p1, .inl p2]) (st := []) (by decide +kernel) (c_put (zW T' G' S n) 62 6 rfl (by decide) p1 p2) M.2.1 zl_Rules_40 zs_T_put ⟨by decide, by decide, by decide, by decide⟩ rfl (Nat.le_of_ble_eq_true rfl) (fun v w' hv => ?_)
  obtain ⟨S6, hF6⟩ : ∃ y, zPut S 62 6 p1 p2 = y := ⟨_, rfl⟩
  replace hv : v = none ∧ w' = zW T' G' (zPut S 62 6 p1 p2) n := hv
  rw [hF6] at K hv
  try dsimp only [z_let] at K
  obtain ⟨rfl, rfl⟩ := hv
  show z_G X zm_Rules_setDeed (9, [(0, z_r 59), (1, .inl p1), (2, .inl p2), (3, .inl p3), (4, .inl p4), (5, .inl p5)], [], zW T' G' S6 n, 0, 0)
  refine z_go2 M.1 9 [(.aload_n 0, 1), (.getfield 21, 3), (.iload_n 1, 1), (.iload_n 3, 1)] (15, [(0, z_r 59), (1, .inl p1), (2, .inl p2), (3, .inl p3), (4, .inl p4), (5, .inl p5)], [.inl p3, .inl p1, z_r 63], zW T' G' S6 n, 0, 0) (by decide +kernel) rfl ⟨trivial, rfl, trivial, trivial, trivial⟩ ?_
  refine z_if_ne 25 M.1 (off := 10) (by decide +kernel) (by decide) (fun c15 => ?_) (fun c15 => ?_)
  · rw [if_neg c15] at K
    refine z_go2 M.1 25 [(.iload_n 3, 1), (.iconst 1, 1)] (27, [(0, z_r 59), (1, .inl p1), (2, .inl p2), (3, .inl p3), (4, .inl p4), (5, .inl p5)], [.inl 1, .inl p3, .inl p1, z_r 63], zW T' G' S6 n, 0, 0) (by decide +kernel) rfl ⟨trivial, trivial, trivial⟩ ?_
    refine z_icmp_ne 34 M.1 (off := 7) (by decide +kernel) (by decide) (fun c27 => ?_) (fun c27 => ?_)
    · rw [if_neg c27] at K
      refine z_go2 M.1 34 [(.iconst 4, 1)] (35, [(0, z_r 59), (1, .inl p1), (2, .inl p2), (3, .inl p3), (4, .inl p4), (5, .inl p5)], [.inl 4, .inl p1, z_r 63], zW T' G' S6 n, 0, 0) (by decide +kernel) rfl ⟨trivial, trivial⟩ ?_
      exact z_lvs (lv' := [(0, z_r 59), (1, .inl p1), (3, .inl p3), (4, .inl p4), (5, .inl p5)]) [0, 1, 3, 4, 5] rfl (t_Rules_setDeed_j35 M S6 p1 p3 p4 p5 4 p1 hQ K)
    · rw [if_pos c27] at K
      refine z_go2 M.1 30 [(.iconst 0, 1), (.goto 4, 3)] (35, [(0, z_r 59), (1, .inl p1), (2, .inl p2), (3, .inl p3), (4, .inl p4), (5, .inl p5)], [.inl 0, .inl p1, z_r 63], zW T' G' S6 n, 0, 0) (by decide +kernel) rfl ⟨trivial, trivial, trivial⟩ ?_
      exact z_lvs (lv' := [(0, z_r 59), (1, .inl p1), (3, .inl p3), (4, .inl p4), (5, .inl p5)]) [0, 1, 3, 4, 5] rfl (t_Rules_setDeed_j35 M S6 p1 p3 p4 p5 0 p1 hQ K)
  · rw [if_pos c15] at K
    refine z_go2 M.1 18 [(.iconst 1, 1), (.iload 4, 2), (.iadd, 1), (.goto 13, 3)] (35, [(0, z_r 59), (1, .inl p1), (2, .inl p2), (3, .inl p3), (4, .inl p4), (5, .inl p5)], [.inl ((1 : Int32) + p4), .inl p1, z_r 63], zW T' G' S6 n, 0, 0) (by decide +kernel) rfl ⟨trivial, trivial, trivial, trivial, trivial⟩ ?_
    exact z_lvs (lv' := [(0, z_r 59), (1, .inl p1), (3, .inl p3), (4, .inl p4), (5, .inl p5)]) [0, 1, 3, 4, 5] rfl (t_Rules_setDeed_j35 M S6 p1 p3 p4 p5 ((1 : Int32) + p4) p1 hQ K)

-- TrackHouse$Rules.setTerms
abbrev rm_Rules_setTerms : Room := zr 1
def F_Rules_setTerms (S : (Nat → Nat → Int32)) (p1 : Int32) (p2 : Int32) (p3 : Int32) (p4 : Int32) : (Nat → Nat → Int32) := (z_let (zPut S 65 6 p1 p2) (fun S6 => (z_let (zPut S6 66 6 p1 p3) (fun S15 => (z_let (zPut S15 67 6 p1 p4) (fun S25 => S25))))))
theorem c_Rules_setTerms (T' : Nat → Nat × Nat) (G' : Nat → Nat → Option Nat) (S : (Nat → Nat → Int32)) (n : Nat) (p1 : Int32) (p2 : Int32) (p3 : Int32) (p4 : Int32) : z_Run rm_Rules_setTerms zm_Rules_setTerms [z_r 59, .inl p1, .inl p2, .inl p3, .inl p4] (zW T' G' S n) (zq none (zW T' G' (F_Rules_setTerms S p1 p2 p3 p4) n)) := by
  refine z_body (by decide) zf_Rules_ok (Nat.le_of_ble_eq_true rfl) (fun X M => ?_)
  obtain ⟨Q, hQ, K⟩ : ∃ Q : (Nat → Nat → Int32) → Prop, (∀ S', Q S' → zq none (zW T' G' (F_Rules_setTerms S p1 p2 p3 p4) n) none (zW T' G' S' n)) ∧ Q (F_Rules_setTerms S p1 p2 p3 p4) := ⟨fun o => F_Rules_setTerms S p1 p2 p3 p4 = o, fun S' h => ⟨rfl, by rw [h]⟩, rfl⟩
  show z_G X zm_Rules_setTerms (0, [(0, z_r 59), (1, .inl p1), (2, .inl p2), (3, .inl p3), (4, .inl p4)], [], zW T' G' S n, 0, 0)
  unfold F_Rules_setTerms at K
  refine z_go2 M.1 0 [(.aload_n 0, 1), (.getfield 27, 3), (.iload_n 1, 1), (.iload_n 2, 1)] (6, [(0, z_r 59), (1, .inl p1), (2, .inl p2), (3, .inl p3), (4, .inl p4)], [.inl p2, .inl p1, z_r 65], zW T' G' S n, 0, 0) (by decide +kernel) rfl ⟨trivial, rfl, trivial, trivial, trivial⟩ ?_
  refine z_callS M.1 (av := [z_r 65, .inl p1, .inl p2]) (st := []) (by decide +kernel) (c_put (zW T' G' S n) 65 6 rfl (by decide) p1 p2) M.2.1 zl_Rules_40 zs_T_put ⟨by decide, by decide, by decide, by decide⟩ rfl (Nat.le_of_ble_eq_true rfl) (fun v w' hv => ?_)
  obtain ⟨S6, hF6⟩ : ∃ y, zPut S 65 6 p1 p2 = y := ⟨_, rfl⟩
  replace hv : v = none ∧ w' = zW T' G' (zPut S 65 6 p1 p2) n := hv
  rw [hF6] at K hv
  try dsimp only [z_let] at K
  obtain ⟨rfl, rfl⟩ := hv
  show z_G X zm_Rules_setTerms (9, [(0, z_r 59), (1, .inl p1), (2, .inl p2), (3, .inl p3), (4, .inl p4)], [], zW T' G' S6 n, 0, 0)
  refine z_go2 M.1 9 [(.aload_n 0, 1), (.getfield 30, 3), (.iload_n 1, 1), (.iload_n 3, 1)] (15, [(0, z_r 59), (1, .inl p1), (2, .inl p2), (3, .inl p3), (4, .inl p4)], [.inl p3, .inl p1, z_r 66], zW T' G' S6 n, 0, 0) (by decide +kernel) rfl ⟨trivial, rfl, trivial, trivial, trivial⟩ ?_
  refine z_callS M.1 (av := [z_r 66, .inl p1, .inl p3]) (st := []) (by decide +kernel) (c_put (zW T' G' S6 n) 66 6 rfl (by decide) p1 p3) M.2.1 zl_Rules_40 zs_T_put ⟨by decide, by decide, by decide, by decide⟩ rfl (Nat.le_of_ble_eq_true rfl) (fun v w' hv => ?_)
  obtain ⟨S15, hF15⟩ : ∃ y, zPut S6 66 6 p1 p3 = y := ⟨_, rfl⟩
  replace hv : v = none ∧ w' = zW T' G' (zPut S6 66 6 p1 p3) n := hv
  rw [hF15] at K hv
  try dsimp only [z_let] at K
  obtain ⟨rfl, rfl⟩ := hv
  show z_G X zm_Rules_setTerms (18, [(0, z_r 59), (1, .inl p1), (2, .inl p2), (3, .inl p3), (4, .inl p4)], [], zW T' G' S15 n, 0, 0)
  refine z_go2 M.1 18 [(.aload_n 0, 1), (.getfield 33, 3), (.iload_n 1, 1), (.iload 4, 2)] (25, [(0, z_r 59), (1, .inl p1), (2, .inl p2), (3, .inl p3), (4, .inl p4)], [.inl p4, .inl p1, z_r 67], zW T' G' S15 n, 0, 0) (by decide +kernel) rfl ⟨trivial, rfl, trivial, trivial, trivial⟩ ?_
  refine z_callS M.1 (av := [z_r 67, .inl p1, .inl p4]) (st := []) (by decide +kernel) (c_put (zW T' G' S15 n) 67 6 rfl (by decide) p1 p4) M.2.1 zl_Rules_40 zs_T_put ⟨by decide, by decide, by decide, by decide⟩ rfl (Nat.le_of_ble_eq_true rfl) (fun v w' hv => ?_)
  obtain ⟨S25, hF25⟩ : ∃ y, zPut S15 67 6 p1 p4 = y := ⟨_, rfl⟩
  replace hv : v = none ∧ w' = zW T' G' (zPut S15 67 6 p1 p4) n := hv
  rw [hF25] at K hv
  try dsimp only [z_let] at K
  obtain ⟨rfl, rfl⟩ := hv
  show z_G X zm_Rules_setTerms (28, [(0, z_r 59), (1, .inl p1), (2, .inl p2), (3, .inl p3), (4, .inl p4)], [], zW T' G' S25 n, 0, 0)
  exact z_vret M (by decide +kernel) rfl (by decide) (by decide) (hQ _ K)

-- TrackHouse$Rules.isCause
abbrev rm_Rules_isCause : Room := zr 1
def F_Rules_isCause_j68 (S : (Nat → Nat → Int32)) : Int32 := 0
theorem t_Rules_isCause_j68 {X : z_X} {Post : Option z_V → z_W → Prop} (M : z_M X zm_Rules_isCause rm_Rules_isCause Post) {T' : Nat → Nat × Nat} {G' : Nat → Nat → Option Nat} {n : Nat} {Q : Int32 → Prop} (S : (Nat → Nat → Int32)) (hQ : ∀ v, Q v → Post (some (.inl v)) (zW T' G' S n)) (K : Q (F_Rules_isCause_j68 S)) : z_G X zm_Rules_isCause (68, [], [], zW T' G' S n, 0, 0) := by
  unfold F_Rules_isCause_j68 at K
  refine z_go2 M.1 68 [(.iconst 0, 1)] (69, [], [.inl 0], zW T' G' S n, 0, 0) (by decide +kernel) rfl ⟨trivial, trivial⟩ ?_
  exact z_iret M (by decide +kernel) .boolean rfl rfl (by decide) (by decide) (hQ _ K)
def F_Rules_isCause (S : (Nat → Nat → Int32)) (p1 : Int32) (p2 : Int32) (p3 : Int32) : Int32 := (if (zAt (S 60) 6 p1) = 0 then (if p2 = 13 then 1 else 0) else (if (zAt (S 60) 6 p1) = 1 then (if p2 = 0 then (if p3 = (zAt (S 61) 6 p1) then 1 else (F_Rules_isCause_j68 S)) else (F_Rules_isCause_j68 S)) else (if p2 = ((1 : Int32) + (zAt (S 61) 6 p1)) then 1 else 0)))
theorem c_Rules_isCause (T' : Nat → Nat × Nat) (G' : Nat → Nat → Option Nat) (S : (Nat → Nat → Int32)) (n : Nat) (p1 : Int32) (p2 : Int32) (p3 : Int32) : z_Run rm_Rules_isCause zm_Rules_isCause [z_r 59, .inl p1, .inl p2, .inl p3] (zW T' G' S n) (zq (some (.inl (F_Rules_isCause S p1 p2 p3))) (zW T' G' S n)) := by
  refine z_body (by decide) zf_Rules_ok (Nat.le_of_ble_eq_true rfl) (fun X M => ?_)
  obtain ⟨Q, hQ, K⟩ : ∃ Q : Int32 → Prop, (∀ v, Q v → zq (some (.inl (F_Rules_isCause S p1 p2 p3))) (zW T' G' S n) (some (.inl v)) (zW T' G' S n)) ∧ Q (F_Rules_isCause S p1 p2 p3) := ⟨fun o => F_Rules_isCause S p1 p2 p3 = o, fun v h => ⟨by rw [h], rfl⟩, rfl⟩
  show z_G X zm_Rules_isCause (0, [(0, z_r 59), (1, .inl p1), (2, .inl p2), (3, .inl p3)], [], zW T' G' S n, 0, 0)
  unfold F_Rules_isCause at K
  refine z_go2 M.1 0 [(.aload_n 0, 1), (.getfield 9, 3), (.iload_n 1, 1)] (5, [(0, z_r 59), (1, .inl p1), (2, .inl p2), (3, .inl p3)], [.inl p1, z_r 60], zW T' G' S n, 0, 0) (by decide +kernel) rfl ⟨trivial, rfl, trivial, trivial⟩ ?_
  refine z_callS M.1 (av := [z_r 60, .inl p1]) (st := []) (by decide +kernel) (c_at (zW T' G' S n) 60 6 rfl (by decide) p1) M.2.1 zl_Rules_44 zs_T_at ⟨by decide, by decide, by decide, by decide⟩ rfl (Nat.le_of_ble_eq_true rfl) (fun v w' hv => ?_)
  obtain ⟨rfl, rfl⟩ := hv
  show z_G X zm_Rules_isCause (8, [(0, z_r 59), (1, .inl p1), (2, .inl p2), (3, .inl p3)], [.inl (zAt (S 60) 6 p1)], zW T' G' S n, 0, 0)
  by_cases c8_0 : (zAt (S 60) 6 p1) = 0
  · rw [if_pos c8_0] at K
    refine z_lookE 36 M.1 (dflt := 62) (ps := #[(0, 28), (1, 40)]) (len := 28) c8_0 (off := 28) (by decide +kernel) (by decide) (by decide) (by decide) ?_
    refine z_go2 M.1 36 [(.iload_n 2, 1), (.bipush 13, 2)] (39, [(0, z_r 59), (1, .inl p1), (2, .inl p2), (3, .inl p3)], [.inl 13, .inl p2], zW T' G' S n, 0, 0) (by decide +kernel) rfl ⟨trivial, trivial, trivial⟩ ?_
    refine z_icmp_ne 46 M.1 (off := 7) (by decide +kernel) (by decide) (fun c39 => ?_) (fun c39 => ?_)
    · rw [if_neg c39] at K
      refine z_go2 M.1 46 [(.iconst 0, 1)] (47, [(0, z_r 59), (1, .inl p1), (2, .inl p2), (3, .inl p3)], [.inl 0], zW T' G' S n, 0, 0) (by decide +kernel) rfl ⟨trivial, trivial⟩ ?_
      exact z_iret M (by decide +kernel) .boolean rfl rfl (by decide) (by decide) (hQ _ K)
    · rw [if_pos c39] at K
      refine z_go2 M.1 42 [(.iconst 1, 1), (.goto 4, 3)] (47, [(0, z_r 59), (1, .inl p1), (2, .inl p2), (3, .inl p3)], [.inl 1], zW T' G' S n, 0, 0) (by decide +kernel) rfl ⟨trivial, trivial, trivial⟩ ?_
      exact z_iret M (by decide +kernel) .boolean rfl rfl (by decide) (by decide) (hQ _ K)
  · rw [if_neg c8_0] at K
    by_cases c8_1 : (zAt (S 60) 6 p1) = 1
    · rw [if_pos c8_1] at K
      refine z_lookE 48 M.1 (dflt := 62) (ps := #[(0, 28), (1, 40)]) (len := 28) c8_1 (off := 40) (by decide +kernel) (by decide) (by decide) (by decide) ?_
      refine z_go2 M.1 48 [(.iload_n 2, 1)] (49, [(0, z_r 59), (1, .inl p1), (2, .inl p2), (3, .inl p3)], [.inl p2], zW T' G' S n, 0, 0) (by decide +kernel) rfl ⟨trivial, trivial⟩ ?_
      refine z_if_ne 68 M.1 (off := 19) (by decide +kernel) (by decide) (fun c49 => ?_) (fun c49 => ?_)
      · rw [if_neg c49] at K
        exact z_lvs (lv' := []) [] rfl (t_Rules_isCause_j68 M S hQ K)
      · rw [if_pos c49] at K
        refine z_go2 M.1 52 [(.iload_n 3, 1), (.aload_n 0, 1), (.getfield 15, 3), (.iload_n 1, 1)] (58, [(0, z_r 59), (1, .inl p1), (2, .inl p2), (3, .inl p3)], [.inl p1, z_r 61, .inl p3], zW T' G' S n, 0, 0) (by decide +kernel) rfl ⟨trivial, trivial, rfl, trivial, trivial⟩ ?_
        refine z_callS M.1 (av := [z_r 61, .inl p1]) (st := [.inl p3]) (by decide +kernel) (c_at (zW T' G' S n) 61 6 rfl (by decide) p1) M.2.1 zl_Rules_44 zs_T_at ⟨by decide, by decide, by decide, by decide⟩ rfl (Nat.le_of_ble_eq_true rfl) (fun v w' hv => ?_)
        obtain ⟨rfl, rfl⟩ := hv
        show z_G X zm_Rules_isCause (61, [(0, z_r 59), (1, .inl p1), (2, .inl p2), (3, .inl p3)], [.inl (zAt (S 61) 6 p1), .inl p3], zW T' G' S n, 0, 0)
        refine z_icmp_ne 68 M.1 (off := 7) (by decide +kernel) (by decide) (fun c61 => ?_) (fun c61 => ?_)
        · rw [if_neg c61] at K
          exact z_lvs (lv' := []) [] rfl (t_Rules_isCause_j68 M S hQ K)
        · rw [if_pos c61] at K
          refine z_go2 M.1 64 [(.iconst 1, 1), (.goto 4, 3)] (69, [(0, z_r 59), (1, .inl p1), (2, .inl p2), (3, .inl p3)], [.inl 1], zW T' G' S n, 0, 0) (by decide +kernel) rfl ⟨trivial, trivial, trivial⟩ ?_
          exact z_iret M (by decide +kernel) .boolean rfl rfl (by decide) (by decide) (hQ _ K)
    · rw [if_neg c8_1] at K
      refine z_lookup 70 M.1 (dflt := 62) (ps := #[(0, 28), (1, 40)]) (len := 28) (off := 62) (by decide +kernel) (by decide) (by show Op.lookupswitch.offset [(0, 28), (1, 40)] 62 _ = _; rw [lv_osw c8_0 (k := 0) (by decide), lv_osw c8_1 (k := 1) (by decide)]; rfl) (by decide) ?_
      refine z_go2 M.1 70 [(.iload_n 2, 1), (.iconst 1, 1), (.aload_n 0, 1), (.getfield 15, 3), (.iload_n 1, 1)] (77, [(0, z_r 59), (1, .inl p1), (2, .inl p2), (3, .inl p3)], [.inl p1, z_r 61, .inl 1, .inl p2], zW T' G' S n, 0, 0) (by decide +kernel) rfl ⟨trivial, trivial, trivial, rfl, trivial, trivial⟩ ?_
      refine z_callS M.1 (av := [z_r 61, .inl p1]) (st := [.inl 1, .inl p2]) (by decide +kernel) (c_at (zW T' G' S n) 61 6 rfl (by decide) p1) M.2.1 zl_Rules_44 zs_T_at ⟨by decide, by decide, by decide, by decide⟩ rfl (Nat.le_of_ble_eq_true rfl) (fun v w' hv => ?_)
      obtain ⟨rfl, rfl⟩ := hv
      show z_G X zm_Rules_isCause (80, [(0, z_r 59), (1, .inl p1), (2, .inl p2), (3, .inl p3)], [.inl (zAt (S 61) 6 p1), .inl 1, .inl p2], zW T' G' S n, 0, 0)
      refine z_go2 M.1 80 [(.iadd, 1)] (81, [(0, z_r 59), (1, .inl p1), (2, .inl p2), (3, .inl p3)], [.inl ((1 : Int32) + (zAt (S 61) 6 p1)), .inl p2], zW T' G' S n, 0, 0) (by decide +kernel) rfl ⟨trivial, trivial⟩ ?_
      refine z_icmp_ne 88 M.1 (off := 7) (by decide +kernel) (by decide) (fun c81 => ?_) (fun c81 => ?_)
      · rw [if_neg c81] at K
        refine z_go2 M.1 88 [(.iconst 0, 1)] (89, [(0, z_r 59), (1, .inl p1), (2, .inl p2), (3, .inl p3)], [.inl 0], zW T' G' S n, 0, 0) (by decide +kernel) rfl ⟨trivial, trivial⟩ ?_
        exact z_iret M (by decide +kernel) .boolean rfl rfl (by decide) (by decide) (hQ _ K)
      · rw [if_pos c81] at K
        refine z_go2 M.1 84 [(.iconst 1, 1), (.goto 4, 3)] (89, [(0, z_r 59), (1, .inl p1), (2, .inl p2), (3, .inl p3)], [.inl 1], zW T' G' S n, 0, 0) (by decide +kernel) rfl ⟨trivial, trivial, trivial⟩ ?_
        exact z_iret M (by decide +kernel) .boolean rfl rfl (by decide) (by decide) (hQ _ K)

