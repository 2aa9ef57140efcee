-- TrackHouse$World.isSame
abbrev rm_World_isSame_10 : Room := zr 1
def F_World_isSame_10_L15 (S : (Nat → Nat → Int32)) : Nat → Int32 → Int32 → (Int32)
  | 0, x2, x3 => x2
  | f + 1, x2, x3 => (if (300 : Int32) ≤ x3 then x2 else (if x2 = 0 then x2 else (if (S 10 (x3).toNatClampNeg) = (zAt (S 14) 300 x3) then ((F_World_isSame_10_L15 S f) 1 (x3 + 1)) else ((F_World_isSame_10_L15 S f) 0 (x3 + 1)))))
def Sf_World_isSame_10_L15 (S : (Nat → Nat → Int32)) : Nat → Int32 → Int32 → Prop
  | 0, _, _ => False
  | f + 1, x2, x3 => (if (300 : Int32) ≤ x3 then True else (if x2 = 0 then True else ((vp_in x3 300) ∧ (if (S 10 (x3).toNatClampNeg) = (zAt (S 14) 300 x3) then ((Sf_World_isSame_10_L15 S f) 1 (x3 + 1)) else ((Sf_World_isSame_10_L15 S f) 0 (x3 + 1))))))
theorem t_World_isSame_10_L15 {X : z_X} {Post : Option z_V → z_W → Prop} (M : z_M X zm_World_isSame rm_World_isSame_10 Post) {T' : Nat → Nat × Nat} {G' : Nat → Nat → Option Nat} {n : Nat} {Q : (Int32) → Prop} (S : (Nat → Nat → Int32))  (hE : ∀ (y2 : Int32), Q y2 → z_G X zm_World_isSame (48, [(2, .inl y2)], [], zW T' G' S n, 0, 0)) (f : Nat) : ∀ (x2 : Int32) (x3 : Int32), Q (F_World_isSame_10_L15 S f x2 x3) → Sf_World_isSame_10_L15 S f x2 x3 → z_G X zm_World_isSame (15, [(0, z_r 10), (1, z_r 14), (2, .inl x2), (3, .inl x3)], [], zW T' G' S n, 0, 0) := by
  induction f with
  | zero => intro x2 x3 K hs; exact False.elim hs
  | succ f hC =>
    intro x2 x3 K hs
    rw [F_World_isSame_10_L15] at K
    rw [Sf_World_isSame_10_L15] at hs
    refine z_go2 M.1 15 [(.iload_n 3, 1), (.aload_n 0, 1), (.arraylength, 1)] (18, [(0, z_r 10), (1, z_r 14), (2, .inl x2), (3, .inl x3)], [.inl 300, .inl x3], zW T' G' S n, 0, 0) (by decide +kernel) rfl ⟨trivial, trivial, rfl, trivial⟩ ?_
    refine z_icmp_ge 48 M.1 (off := 30) (by decide +kernel) (by decide) (fun c18 => ?_) (fun c18 => ?_)
    · rw [if_pos c18] at K hs
      exact z_lvs (lv' := [(2, .inl x2)]) [2] rfl (hE x2 K)
    · rw [if_neg c18] at K hs
      refine z_go2 M.1 21 [(.iload_n 2, 1)] (22, [(0, z_r 10), (1, z_r 14), (2, .inl x2), (3, .inl x3)], [.inl x2], zW T' G' S n, 0, 0) (by decide +kernel) rfl ⟨trivial, trivial⟩ ?_
      refine z_if_eq 48 M.1 (off := 26) (by decide +kernel) (by decide) (fun c22 => ?_) (fun c22 => ?_)
      · rw [if_pos c22] at K hs
        exact z_lvs (lv' := [(2, .inl x2)]) [2] rfl (hE x2 K)
      · rw [if_neg c22] at K hs
        refine z_go2 M.1 25 [(.aload_n 0, 1), (.iload_n 3, 1), (.iaload, 1), (.aload_n 1, 1), (.iload_n 3, 1)] (30, [(0, z_r 10), (1, z_r 14), (2, .inl x2), (3, .inl x3)], [.inl x3, z_r 14, .inl (S 10 (x3).toNatClampNeg)], zW T' G' S n, 0, 0) (by decide +kernel) rfl ⟨trivial, trivial, ⟨rfl, hs.1⟩, trivial, trivial, trivial⟩ ?_
        replace hs := hs.2
        refine z_callS M.1 (av := [z_r 14, .inl x3]) (st := [.inl (S 10 (x3).toNatClampNeg)]) (by decide +kernel) (c_at (zW T' G' S n) 14 300 rfl (by decide) x3) M.2.1 zl_World_37 zs_T_at ⟨by decide, by decide, by decide, by decide⟩ rfl (Nat.le_of_ble_eq_true rfl) (fun v w' hv => ?_)
        obtain ⟨rfl, rfl⟩ := hv
        show z_G X zm_World_isSame (33, [(0, z_r 10), (1, z_r 14), (2, .inl x2), (3, .inl x3)], [.inl (zAt (S 14) 300 x3), .inl (S 10 (x3).toNatClampNeg)], zW T' G' S n, 0, 0)
        refine z_icmp_ne 40 M.1 (off := 7) (by decide +kernel) (by decide) (fun c33 => ?_) (fun c33 => ?_)
        · rw [if_neg c33] at K hs
          refine z_go2 M.1 40 [(.iconst 0, 1), (.istore_n 2, 1), (.iinc 3 1, 3), (.goto (-30), 3)] (15, [(3, .inl (x3 + 1)), (2, .inl 0), (0, z_r 10), (1, z_r 14)], [], zW T' G' S n, 0, 0) (by decide +kernel) rfl ⟨trivial, trivial, trivial, trivial, trivial⟩ ?_
          exact z_lvs (lv' := [(0, z_r 10), (1, z_r 14), (2, .inl 0), (3, .inl (x3 + 1))]) [2, 3, 1, 0] rfl (hC 0 (x3 + 1) K hs)
        · rw [if_pos c33] at K hs
          refine z_go2 M.1 36 [(.iconst 1, 1), (.goto 4, 3), (.istore_n 2, 1), (.iinc 3 1, 3), (.goto (-30), 3)] (15, [(3, .inl (x3 + 1)), (2, .inl 1), (0, z_r 10), (1, z_r 14)], [], zW T' G' S n, 0, 0) (by decide +kernel) rfl ⟨trivial, trivial, trivial, trivial, trivial, trivial⟩ ?_
          exact z_lvs (lv' := [(0, z_r 10), (1, z_r 14), (2, .inl 1), (3, .inl (x3 + 1))]) [2, 3, 1, 0] rfl (hC 1 (x3 + 1) K hs)
def F_World_isSame_10_j12 (S : (Nat → Nat → Int32)) (s0 : Int32) : Int32 := (match F_World_isSame_10_L15 S 1300 s0 0 with | y2_15 => y2_15)
def Sf_World_isSame_10_j12 (S : (Nat → Nat → Int32)) (s0 : Int32) : Prop := (Sf_World_isSame_10_L15 S 1300 s0 0 ∧ (match F_World_isSame_10_L15 S 1300 s0 0 with | y2_15 => (narrow .boolean (.int y2_15) = .int y2_15 ∧ True)))
theorem t_World_isSame_10_j12 {X : z_X} {Post : Option z_V → z_W → Prop} (M : z_M X zm_World_isSame rm_World_isSame_10 Post) {T' : Nat → Nat × Nat} {G' : Nat → Nat → Option Nat} {n : Nat} {Q : Int32 → Prop} (S : (Nat → Nat → Int32)) (s0 : Int32) (hQ : ∀ v, Q v → Post (some (.inl v)) (zW T' G' S n)) (K : Q (F_World_isSame_10_j12 S s0)) (hs : Sf_World_isSame_10_j12 S s0) : z_G X zm_World_isSame (12, [(0, z_r 10), (1, z_r 14)], [.inl s0], zW T' G' S n, 0, 0) := by
  unfold F_World_isSame_10_j12 at K
  unfold Sf_World_isSame_10_j12 at hs
  refine z_go2 M.1 12 [(.istore_n 2, 1), (.iconst 0, 1), (.istore_n 3, 1)] (15, [(3, .inl 0), (2, .inl s0), (0, z_r 10), (1, z_r 14)], [], zW T' G' S n, 0, 0) (by decide +kernel) rfl ⟨trivial, trivial, trivial, trivial⟩ ?_
  refine z_lvs (lv' := [(0, z_r 10), (1, z_r 14), (2, .inl s0), (3, .inl 0)]) [2, 3, 1, 0] rfl ?_
  refine t_World_isSame_10_L15 M (Q := fun o => F_World_isSame_10_L15 S 1300 s0 0 = o) S (fun y2_15 hL15 => ?_) 1300 s0 0 rfl hs.1
  replace hs := hs.2
  rw [hL15] at K
  try rw [hL15] at hs
  try dsimp only at K hs
  refine z_go2 M.1 48 [(.iload_n 2, 1)] (49, [(2, .inl y2_15)], [.inl y2_15], zW T' G' S n, 0, 0) (by decide +kernel) rfl ⟨trivial, trivial⟩ ?_
  exact z_iret M (by decide +kernel) .boolean rfl hs.1 (by decide) (by decide) (hQ _ K)
def F_World_isSame_10 (S : (Nat → Nat → Int32)) : Int32 := (if (300 : Int32) = 300 then (F_World_isSame_10_j12 S 1) else (F_World_isSame_10_j12 S 0))
def Sf_World_isSame_10 (S : (Nat → Nat → Int32)) : Prop := (if (300 : Int32) = 300 then (Sf_World_isSame_10_j12 S 1) else (Sf_World_isSame_10_j12 S 0))
theorem c_World_isSame_10 (T' : Nat → Nat × Nat) (G' : Nat → Nat → Option Nat) (S : (Nat → Nat → Int32)) (n : Nat) (hs : Sf_World_isSame_10 S) : z_Run rm_World_isSame_10 zm_World_isSame [z_r 10, z_r 14] (zW T' G' S n) (zq (some (.inl (F_World_isSame_10 S))) (zW T' G' S n)) := by
  refine z_body (by decide) zf_World_ok (Nat.le_of_ble_eq_true rfl) (fun X M => ?_)
  obtain ⟨Q, hQ, K⟩ : ∃ Q : Int32 → Prop, (∀ v, Q v → zq (some (.inl (F_World_isSame_10 S))) (zW T' G' S n) (some (.inl v)) (zW T' G' S n)) ∧ Q (F_World_isSame_10 S) := ⟨fun o => F_World_isSame_10 S = o, fun v h => ⟨by rw [h], rfl⟩, rfl⟩
  show z_G X zm_World_isSame (0, [(0, z_r 10), (1, z_r 14)], [], zW T' G' S n, 0, 0)
  unfold F_World_isSame_10 at K
  unfold Sf_World_isSame_10 at hs
  refine z_go2 M.1 0 [(.aload_n 0, 1), (.arraylength, 1), (.aload_n 1, 1), (.arraylength, 1)] (4, [(0, z_r 10), (1, z_r 14)], [.inl 300, .inl 300], zW T' G' S n, 0, 0) (by decide +kernel) rfl ⟨trivial, rfl, trivial, rfl, trivial⟩ ?_
  refine z_icmp_ne 11 M.1 (off := 7) (by decide +kernel) (by decide) (fun c4 => ?_) (fun c4 => ?_)
  · rw [if_neg c4] at K hs
    refine z_go2 M.1 11 [(.iconst 0, 1)] (12, [(0, z_r 10), (1, z_r 14)], [.inl 0], zW T' G' S n, 0, 0) (by decide +kernel) rfl ⟨trivial, trivial⟩ ?_
    exact z_lvs (lv' := [(0, z_r 10), (1, z_r 14)]) [0, 1] rfl (t_World_isSame_10_j12 M S 0 hQ K hs)
  · rw [if_pos c4] at K hs
    refine z_go2 M.1 7 [(.iconst 1, 1), (.goto 4, 3)] (12, [(0, z_r 10), (1, z_r 14)], [.inl 1], zW T' G' S n, 0, 0) (by decide +kernel) rfl ⟨trivial, trivial, trivial⟩ ?_
    exact z_lvs (lv' := [(0, z_r 10), (1, z_r 14)]) [0, 1] rfl (t_World_isSame_10_j12 M S 1 hQ K hs)

-- TrackHouse$World.isSame
abbrev rm_World_isSame_11 : Room := zr 1
def F_World_isSame_11_L15 (S : (Nat → Nat → Int32)) : Nat → Int32 → Int32 → (Int32)
  | 0, x2, x3 => x2
  | f + 1, x2, x3 => (if (90 : Int32) ≤ x3 then x2 else (if x2 = 0 then x2 else (if (S 11 (x3).toNatClampNeg) = (zAt (S 15) 90 x3) then ((F_World_isSame_11_L15 S f) 1 (x3 + 1)) else ((F_World_isSame_11_L15 S f) 0 (x3 + 1)))))
def Sf_World_isSame_11_L15 (S : (Nat → Nat → Int32)) : Nat → Int32 → Int32 → Prop
  | 0, _, _ => False
  | f + 1, x2, x3 => (if (90 : Int32) ≤ x3 then True else (if x2 = 0 then True else ((vp_in x3 90) ∧ (if (S 11 (x3).toNatClampNeg) = (zAt (S 15) 90 x3) then ((Sf_World_isSame_11_L15 S f) 1 (x3 + 1)) else ((Sf_World_isSame_11_L15 S f) 0 (x3 + 1))))))
theorem t_World_isSame_11_L15 {X : z_X} {Post : Option z_V → z_W → Prop} (M : z_M X zm_World_isSame rm_World_isSame_11 Post) {T' : Nat → Nat × Nat} {G' : Nat → Nat → Option Nat} {n : Nat} {Q : (Int32) → Prop} (S : (Nat → Nat → Int32))  (hE : ∀ (y2 : Int32), Q y2 → z_G X zm_World_isSame (48, [(2, .inl y2)], [], zW T' G' S n, 0, 0)) (f : Nat) : ∀ (x2 : Int32) (x3 : Int32), Q (F_World_isSame_11_L15 S f x2 x3) → Sf_World_isSame_11_L15 S f x2 x3 → z_G X zm_World_isSame (15, [(0, z_r 11), (1, z_r 15), (2, .inl x2), (3, .inl x3)], [], zW T' G' S n, 0, 0) := by
  induction f with
  | zero => intro x2 x3 K hs; exact False.elim hs
  | succ f hC =>
    intro x2 x3 K hs
    rw [F_World_isSame_11_L15] at K
    rw [Sf_World_isSame_11_L15] at hs
    refine z_go2 M.1 15 [(.iload_n 3, 1), (.aload_n 0, 1), (.arraylength, 1)] (18, [(0, z_r 11), (1, z_r 15), (2, .inl x2), (3, .inl x3)], [.inl 90, .inl x3], zW T' G' S n, 0, 0) (by decide +kernel) rfl ⟨trivial, trivial, rfl, trivial⟩ ?_
    refine z_icmp_ge 48 M.1 (off := 30) (by decide +kernel) (by decide) (fun c18 => ?_) (fun c18 => ?_)
    · rw [if_pos c18] at K hs
      exact z_lvs (lv' := [(2, .inl x2)]) [2] rfl (hE x2 K)
    · rw [if_neg c18] at K hs
      refine z_go2 M.1 21 [(.iload_n 2, 1)] (22, [(0, z_r 11), (1, z_r 15), (2, .inl x2), (3, .inl x3)], [.inl x2], zW T' G' S n, 0, 0) (by decide +kernel) rfl ⟨trivial, trivial⟩ ?_
      refine z_if_eq 48 M.1 (off := 26) (by decide +kernel) (by decide) (fun c22 => ?_) (fun c22 => ?_)
      · rw [if_pos c22] at K hs
        exact z_lvs (lv' := [(2, .inl x2)]) [2] rfl (hE x2 K)
      · rw [if_neg c22] at K hs
        refine z_go2 M.1 25 [(.aload_n 0, 1), (.iload_n 3, 1), (.iaload, 1), (.aload_n 1, 1), (.iload_n 3, 1)] (30, [(0, z_r 11), (1, z_r 15), (2, .inl x2), (3, .inl x3)], [.inl x3, z_r 15, .inl (S 11 (x3).toNatClampNeg)], zW T' G' S n, 0, 0) (by decide +kernel) rfl ⟨trivial, trivial, ⟨rfl, hs.1⟩, trivial, trivial, trivial⟩ ?_
        replace hs := hs.2
        refine z_callS M.1 (av := [z_r 15, .inl x3]) (st := [.inl (S 11 (x3).toNatClampNeg)]) (by decide +kernel) (c_at (zW T' G' S n) 15 90 rfl (by decide) x3) M.2.1 zl_World_37 zs_T_at ⟨by decide, by decide, by decide, by decide⟩ rfl (Nat.le_of_ble_eq_true rfl) (fun v w' hv => ?_)
        obtain ⟨rfl, rfl⟩ := hv
        show z_G X zm_World_isSame (33, [(0, z_r 11), (1, z_r 15), (2, .inl x2), (3, .inl x3)], [.inl (zAt (S 15) 90 x3), .inl (S 11 (x3).toNatClampNeg)], zW T' G' S n, 0, 0)
        refine z_icmp_ne 40 M.1 (off := 7) (by decide +kernel) (by decide) (fun c33 => ?_) (fun c33 => ?_)
        · rw [if_neg c33] at K hs
          refine z_go2 M.1 40 [(.iconst 0, 1), (.istore_n 2, 1), (.iinc 3 1, 3), (.goto (-30), 3)] (15, [(3, .inl (x3 + 1)), (2, .inl 0), (0, z_r 11), (1, z_r 15)], [], zW T' G' S n, 0, 0) (by decide +kernel) rfl ⟨trivial, trivial, trivial, trivial, trivial⟩ ?_
          exact z_lvs (lv' := [(0, z_r 11), (1, z_r 15), (2, .inl 0), (3, .inl (x3 + 1))]) [2, 3, 1, 0] rfl (hC 0 (x3 + 1) K hs)
        · rw [if_pos c33] at K hs
          refine z_go2 M.1 36 [(.iconst 1, 1), (.goto 4, 3), (.istore_n 2, 1), (.iinc 3 1, 3), (.goto (-30), 3)] (15, [(3, .inl (x3 + 1)), (2, .inl 1), (0, z_r 11), (1, z_r 15)], [], zW T' G' S n, 0, 0) (by decide +kernel) rfl ⟨trivial, trivial, trivial, trivial, trivial, trivial⟩ ?_
          exact z_lvs (lv' := [(0, z_r 11), (1, z_r 15), (2, .inl 1), (3, .inl (x3 + 1))]) [2, 3, 1, 0] rfl (hC 1 (x3 + 1) K hs)
def F_World_isSame_11_j12 (S : (Nat → Nat → Int32)) (s0 : Int32) : Int32 := (match F_World_isSame_11_L15 S 1300 s0 0 with | y2_15 => y2_15)
def Sf_World_isSame_11_j12 (S : (Nat → Nat → Int32)) (s0 : Int32) : Prop := (Sf_World_isSame_11_L15 S 1300 s0 0 ∧ (match F_World_isSame_11_L15 S 1300 s0 0 with | y2_15 => (narrow .boolean (.int y2_15) = .int y2_15 ∧ True)))
theorem t_World_isSame_11_j12 {X : z_X} {Post : Option z_V → z_W → Prop} (M : z_M X zm_World_isSame rm_World_isSame_11 Post) {T' : Nat → Nat × Nat} {G' : Nat → Nat → Option Nat} {n : Nat} {Q : Int32 → Prop} (S : (Nat → Nat → Int32)) (s0 : Int32) (hQ : ∀ v, Q v → Post (some (.inl v)) (zW T' G' S n)) (K : Q (F_World_isSame_11_j12 S s0)) (hs : Sf_World_isSame_11_j12 S s0) : z_G X zm_World_isSame (12, [(0, z_r 11), (1, z_r 15)], [.inl s0], zW T' G' S n, 0, 0) := by
  unfold F_World_isSame_11_j12 at K
  unfold Sf_World_isSame_11_j12 at hs
  refine z_go2 M.1 12 [(.istore_n 2, 1), (.iconst 0, 1), (.istore_n 3, 1)] (15, [(3, .inl 0), (2, .inl s0), (0, z_r 11), (1, z_r 15)], [], zW T' G' S n, 0, 0) (by decide +kernel) rfl ⟨trivial, trivial, trivial, trivial⟩ ?_
  refine z_lvs (lv' := [(0, z_r 11), (1, z_r 15), (2, .inl s0), (3, .inl 0)]) [2, 3, 1, 0] rfl ?_
  refine t_World_isSame_11_L15 M (Q := fun o => F_World_isSame_11_L15 S 1300 s0 0 = o) S (fun y2_15 hL15 => ?_) 1300 s0 0 rfl hs.1
  replace hs := hs.2
  rw [hL15] at K
  try rw [hL15] at hs
  try dsimp only at K hs
  refine z_go2 M.1 48 [(.iload_n 2, 1)] (49, [(2, .inl y2_15)], [.inl y2_15], zW T' G' S n, 0, 0) (by decide +kernel) rfl ⟨trivial, trivial⟩ ?_
  exact z_iret M (by decide +kernel) .boolean rfl hs.1 (by decide) (by decide) (hQ _ K)
def F_World_isSame_11 (S : (Nat → Nat → Int32)) : Int32 := (if (90 : Int32) = 90 then (F_World_isSame_11_j12 S 1) else (F_World_isSame_11_j12 S 0))
def Sf_World_isSame_11 (S : (Nat → Nat → Int32)) : Prop := (if (90 : Int32) = 90 then (Sf_World_isSame_11_j12 S 1) else (Sf_World_isSame_11_j12 S 0))
theorem c_World_isSame_11 (T' : Nat → Nat × Nat) (G' : Nat → Nat → Option Nat) (S : (Nat → Nat → Int32)) (n : Nat) (hs : Sf_World_isSame_11 S) : z_Run rm_World_isSame_11 zm_World_isSame [z_r 11, z_r 15] (zW T' G' S n) (zq (some (.inl (F_World_isSame_11 S))) (zW T' G' S n)) := by
  refine z_body (by decide) zf_World_ok (Nat.le_of_ble_eq_true rfl) (fun X M => ?_)
  obtain ⟨Q, hQ, K⟩ : ∃ Q : Int32 → Prop, (∀ v, Q v → zq (some (.inl (F_World_isSame_11 S))) (zW T' G' S n) (some (.inl v)) (zW T' G' S n)) ∧ Q (F_World_isSame_11 S) := ⟨fun o => F_World_isSame_11 S = o, fun v h => ⟨by rw [h], rfl⟩, rfl⟩
  show z_G X zm_World_isSame (0, [(0, z_r 11), (1, z_r 15)], [], zW T' G' S n, 0, 0)
  unfold F_World_isSame_11 at K
  unfold Sf_World_isSame_11 at hs
  refine z_go2 M.1 0 [(.aload_n 0, 1), (.arraylength, 1), (.aload_n 1, 1), (.arraylength, 1)] (4, [(0, z_r 11), (1, z_r 15)], [.inl 90, .inl 90], zW T' G' S n, 0, 0) (by decide +kernel) rfl ⟨trivial, rfl, trivial, rfl, trivial⟩ ?_
  refine z_icmp_ne 11 M.1 (off := 7) (by decide +kernel) (by decide) (fun c4 => ?_) (fun c4 => ?_)
  · rw [if_neg c4] at K hs
    refine z_go2 M.1 11 [(.iconst 0, 1)] (12, [(0, z_r 11), (1, z_r 15)], [.inl 0], zW T' G' S n, 0, 0) (by decide +kernel) rfl ⟨trivial, trivial⟩ ?_
    exact z_lvs (lv' := [(0, z_r 11), (1, z_r 15)]) [0, 1] rfl (t_World_isSame_11_j12 M S 0 hQ K hs)
  · rw [if_pos c4] at K hs
    refine z_go2 M.1 7 [(.iconst 1, 1), (.goto 4, 3)] (12, [(0, z_r 11), (1, z_r 15)], [.inl 1], zW T' G' S n, 0, 0) (by decide +kernel) rfl ⟨trivial, trivial, trivial⟩ ?_
    exact z_lvs (lv' := [(0, z_r 11), (1, z_r 15)]) [0, 1] rfl (t_World_isSame_11_j12 M S 1 hQ K hs)

-- TrackHouse$World.isSame
abbrev rm_World_isSame_12 : Room := zr 1
def F_World_isSame_12_L15 (S : (Nat → Nat → Int32)) : Nat → Int32 → Int32 → (Int32)
  | 0, x2, x3 => x2
  | f + 1, x2, x3 => (if (24 : Int32) ≤ x3 then x2 else (if x2 = 0 then x2 else (if (S 12 (x3).toNatClampNeg) = (zAt (S 16) 24 x3) then ((F_World_isSame_12_L15 S f) 1 (x3 + 1)) else ((F_World_isSame_12_L15 S f) 0 (x3 + 1)))))
def Sf_World_isSame_12_L15 (S : (Nat → Nat → Int32)) : Nat → Int32 → Int32 → Prop
  | 0, _, _ => False
  | f + 1, x2, x3 => (if (24 : Int32) ≤ x3 then True else (if x2 = 0 then True else ((vp_in x3 24) ∧ (if (S 12 (x3).toNatClampNeg) = (zAt (S 16) 24 x3) then ((Sf_World_isSame_12_L15 S f) 1 (x3 + 1)) else ((Sf_World_isSame_12_L15 S f) 0 (x3 + 1))))))
theorem t_World_isSame_12_L15 {X : z_X} {Post : Option z_V → z_W → Prop} (M : z_M X zm_World_isSame rm_World_isSame_12 Post) {T' : Nat → Nat × Nat} {G' : Nat → Nat → Option Nat} {n : Nat} {Q : (Int32) → Prop} (S : (Nat → Nat → Int32))  (hE : ∀ (y2 : Int32), Q y2 → z_G X zm_World_isSame (48, [(2, .inl y2)], [], zW T' G' S n, 0, 0)) (f : Nat) : ∀ (x2 : Int32) (x3 : Int32), Q (F_World_isSame_12_L15 S f x2 x3) → Sf_World_isSame_12_L15 S f x2 x3 → z_G X zm_World_isSame (15, [(0, z_r 12), (1, z_r 16), (2, .inl x2), (3, .inl x3)], [], zW T' G' S n, 0, 0) := by
  induction f with
  | zero => intro x2 x3 K hs; exact False.elim hs
  | succ f hC =>
    intro x2 x3 K hs
    rw [F_World_isSame_12_L15] at K
    rw [Sf_World_isSame_12_L15] at hs
    refine z_go2 M.1 15 [(.iload_n 3, 1), (.aload_n 0, 1), (.arraylength, 1)] (18, [(0, z_r 12), (1, z_r 16), (2, .inl x2), (3, .inl x3)], [.inl 24, .inl x3], zW T' G' S n, 0, 0) (by decide +kernel) rfl ⟨trivial, trivial, rfl, trivial⟩ ?_
    refine z_icmp_ge 48 M.1 (off := 30) (by decide +kernel) (by decide) (fun c18 => ?_) (fun c18 => ?_)
    · rw [if_pos c18] at K hs
      exact z_lvs (lv' := [(2, .inl x2)]) [2] rfl (hE x2 K)
    · rw [if_neg c18] at K hs
      refine z_go2 M.1 21 [(.iload_n 2, 1)] (22, [(0, z_r 12), (1, z_r 16), (2, .inl x2), (3, .inl x3)], [.inl x2], zW T' G' S n, 0, 0) (by decide +kernel) rfl ⟨trivial, trivial⟩ ?_
      refine z_if_eq 48 M.1 (off := 26) (by decide +kernel) (by decide) (fun c22 => ?_) (fun c22 => ?_)
      · rw [if_pos c22] at K hs
        exact z_lvs (lv' := [(2, .inl x2)]) [2] rfl (hE x2 K)
      · rw [if_neg c22] at K hs
        refine z_go2 M.1 25 [(.aload_n 0, 1), (.iload_n 3, 1), (.iaload, 1), (.aload_n 1, 1), (.iload_n 3, 1)] (30, [(0, z_r 12), (1, z_r 16), (2, .inl x2), (3, .inl x3)], [.inl x3, z_r 16, .inl (S 12 (x3).toNatClampNeg)], zW T' G' S n, 0, 0) (by decide +kernel) rfl ⟨trivial, trivial, ⟨rfl, hs.1⟩, trivial, trivial, trivial⟩ ?_
        replace hs := hs.2
        refine z_callS M.1 (av := [z_r 16, .inl x3]) (st := [.inl (S 12 (x3).toNatClampNeg)]) (by decide +kernel) (c_at (zW T' G' S n) 16 24 rfl (by decide) x3) M.2.1 zl_World_37 zs_T_at ⟨by decide, by decide, by decide, by decide⟩ rfl (Nat.le_of_ble_eq_true rfl) (fun v w' hv => ?_)
        obtain ⟨rfl, rfl⟩ := hv
        show z_G X zm_World_isSame (33, [(0, z_r 12), (1, z_r 16), (2, .inl x2), (3, .inl x3)], [.inl (zAt (S 16) 24 x3), .inl (S 12 (x3).toNatClampNeg)], zW T' G' S n, 0, 0)
        refine z_icmp_ne 40 M.1 (off := 7) (by decide +kernel) (by decide) (fun c33 => ?_) (fun c33 => ?_)
        · rw [if_neg c33] at K hs
          refine z_go2 M.1 40 [(.iconst 0, 1), (.istore_n 2, 1), (.iinc 3 1, 3), (.goto (-30), 3)] (15, [(3, .inl (x3 + 1)), (2, .inl 0), (0, z_r 12), (1, z_r 16)], [], zW T' G' S n, 0, 0) (by decide +kernel) rfl ⟨trivial, trivial, trivial, trivial, trivial⟩ ?_
          exact z_lvs (lv' := [(0, z_r 12), (1, z_r 16), (2, .inl 0), (3, .inl (x3 + 1))]) [2, 3, 1, 0] rfl (hC 0 (x3 + 1) K hs)
        · rw [if_pos c33] at K hs
          refine z_go2 M.1 36 [(.iconst 1, 1), (.goto 4, 3), (.istore_n 2, 1), (.iinc 3 1, 3), (.goto (-30), 3)] (15, [(3, .inl (x3 + 1)), (2, .inl 1), (0, z_r 12), (1, z_r 16)], [], zW T' G' S n, 0, 0) (by decide +kernel) rfl ⟨trivial, trivial, trivial, trivial, trivial, trivial⟩ ?_
          exact z_lvs (lv' := [(0, z_r 12), (1, z_r 16), (2, .inl 1), (3, .inl (x3 + 1))]) [2, 3, 1, 0] rfl (hC 1 (x3 + 1) K hs)
def F_World_isSame_12_j12 (S : (Nat → Nat → Int32)) (s0 : Int32) : Int32 := (match F_World_isSame_12_L15 S 1300 s0 0 with | y2_15 => y2_15)
def Sf_World_isSame_12_j12 (S : (Nat → Nat → Int32)) (s0 : Int32) : Prop := (Sf_World_isSame_12_L15 S 1300 s0 0 ∧ (match F_World_isSame_12_L15 S 1300 s0 0 with | y2_15 => (narrow .boolean (.int y2_15) = .int y2_15 ∧ True)))
theorem t_World_isSame_12_j12 {X : z_X} {Post : Option z_V → z_W → Prop} (M : z_M X zm_World_isSame rm_World_isSame_12 Post) {T' : Nat → Nat × Nat} {G' : Nat → Nat → Option Nat} {n : Nat} {Q : Int32 → Prop} (S : (Nat → Nat → Int32)) (s0 : Int32) (hQ : ∀ v, Q v → Post (some (.inl v)) (zW T' G' S n)) (K : Q (F_World_isSame_12_j12 S s0)) (hs : Sf_World_isSame_12_j12 S s0) : z_G X zm_World_isSame (12, [(0, z_r 12), (1, z_r 16)], [.inl s0], zW T' G' S n, 0, 0) := by
  unfold F_World_isSame_12_j12 at K
  unfold Sf_World_isSame_12_j12 at hs
  refine z_go2 M.1 12 [(.istore_n 2, 1), (.iconst 0, 1), (.istore_n 3, 1)] (15, [(3, .inl 0), (2, .inl s0), (0, z_r 12), (1, z_r 16)], [], zW T' G' S n, 0, 0) (by decide +kernel) rfl ⟨trivial, trivial, trivial, trivial⟩ ?_
  refine z_lvs (lv' := [(0, z_r 12), (1, z_r 16), (2, .inl s0), (3, .inl 0)]) [2, 3, 1, 0] rfl ?_
  refine t_World_isSame_12_L15 M (Q := fun o => F_World_isSame_12_L15 S 1300 s0 0 = o) S (fun y2_15 hL15 => ?_) 1300 s0 0 rfl hs.1
  replace hs := hs.2
  rw [hL15] at K
  try rw [hL15] at hs
  try dsimp only at K hs
  refine z_go2 M.1 48 [(.iload_n 2, 1)] (49, [(2, .inl y2_15)], [.inl y2_15], zW T' G' S n, 0, 0) (by decide +kernel) rfl ⟨trivial, trivial⟩ ?_
  exact z_iret M (by decide +kernel) .boolean rfl hs.1 (by decide) (by decide) (hQ _ K)
def F_World_isSame_12 (S : (Nat → Nat → Int32)) : Int32 := (if (24 : Int32) = 24 then (F_World_isSame_12_j12 S 1) else (F_World_isSame_12_j12 S 0))
def Sf_World_isSame_12 (S : (Nat → Nat → Int32)) : Prop := (if (24 : Int32) = 24 then (Sf_World_isSame_12_j12 S 1) else (Sf_World_isSame_12_j12 S 0))
theorem c_World_isSame_12 (T' : Nat → Nat × Nat) (G' : Nat → Nat → Option Nat) (S : (Nat → Nat → Int32)) (n : Nat) (hs : Sf_World_isSame_12 S) : z_Run rm_World_isSame_12 zm_World_isSame [z_r 12, z_r 16] (zW T' G' S n) (zq (some (.inl (F_World_isSame_12 S))) (zW T' G' S n)) := by
  refine z_body (by decide) zf_World_ok (Nat.le_of_ble_eq_true rfl) (fun X M => ?_)
  obtain ⟨Q, hQ, K⟩ : ∃ Q : Int32 → Prop, (∀ v, Q v → zq (some (.inl (F_World_isSame_12 S))) (zW T' G' S n) (some (.inl v)) (zW T' G' S n)) ∧ Q (F_World_isSame_12 S) := ⟨fun o => F_World_isSame_12 S = o, fun v h => ⟨by rw [h], rfl⟩, rfl⟩
  show z_G X zm_World_isSame (0, [(0, z_r 12), (1, z_r 16)], [], zW T' G' S n, 0, 0)
  unfold F_World_isSame_12 at K
  unfold Sf_World_isSame_12 at hs
  refine z_go2 M.1 0 [(.aload_n 0, 1), (.arraylength, 1), (.aload_n 1, 1), (.arraylength, 1)] (4, [(0, z_r 12), (1, z_r 16)], [.inl 24, .inl 24], zW T' G' S n, 0, 0) (by decide +kernel) rfl ⟨trivial, rfl, trivial, rfl, trivial⟩ ?_
  refine z_icmp_ne 11 M.1 (off := 7) (by decide +kernel) (by decide) (fun c4 => ?_) (fun c4 => ?_)
  · rw [if_neg c4] at K hs
    refine z_go2 M.1 11 [(.iconst 0, 1)] (12, [(0, z_r 12), (1, z_r 16)], [.inl 0], zW T' G' S n, 0, 0) (by decide +kernel) rfl ⟨trivial, trivial⟩ ?_
    exact z_lvs (lv' := [(0, z_r 12), (1, z_r 16)]) [0, 1] rfl (t_World_isSame_12_j12 M S 0 hQ K hs)
  · rw [if_pos c4] at K hs
    refine z_go2 M.1 7 [(.iconst 1, 1), (.goto 4, 3)] (12, [(0, z_r 12), (1, z_r 16)], [.inl 1], zW T' G' S n, 0, 0) (by decide +kernel) rfl ⟨trivial, trivial, trivial⟩ ?_
    exact z_lvs (lv' := [(0, z_r 12), (1, z_r 16)]) [0, 1] rfl (t_World_isSame_12_j12 M S 1 hQ K hs)

-- TrackHouse$World.isLike
abbrev rm_World_isLike : Room := zr 2
def F_World_isLike_j57 (S : (Nat → Nat → Int32)) : Int32 := 0
theorem t_World_isLike_j57 {X : z_X} {Post : Option z_V → z_W → Prop} (M : z_M X zm_World_isLike rm_World_isLike Post) {T' : Nat → Nat × Nat} {G' : Nat → Nat → Option Nat} {n : Nat} {Q : Int32 → Prop} (S : (Nat → Nat → Int32)) (hQ : ∀ v, Q v → Post (some (.inl v)) (zW T' G' S n)) (K : Q (F_World_isLike_j57 S)) : z_G X zm_World_isLike (57, [], [], zW T' G' S n, 0, 0) := by
  unfold F_World_isLike_j57 at K
  refine z_go2 M.1 57 [(.iconst 0, 1)] (58, [], [.inl 0], zW T' G' S n, 0, 0) (by decide +kernel) rfl ⟨trivial, trivial⟩ ?_
  exact z_iret M (by decide +kernel) .boolean rfl rfl (by decide) (by decide) (hQ _ K)
def F_World_isLike (S : (Nat → Nat → Int32)) : Int32 := (if (S 9 3) = (S 13 3) then (if (F_World_isSame_10 S) = 0 then (F_World_isLike_j57 S) else (if (F_World_isSame_11 S) = 0 then (F_World_isLike_j57 S) else (if (F_World_isSame_12 S) = 0 then (F_World_isLike_j57 S) else 1))) else (F_World_isLike_j57 S))
def Sf_World_isLike (S : (Nat → Nat → Int32)) : Prop := (if (S 9 3) = (S 13 3) then (Sf_World_isSame_10 S ∧ (if (F_World_isSame_10 S) = 0 then True else (Sf_World_isSame_11 S ∧ (if (F_World_isSame_11 S) = 0 then True else (Sf_World_isSame_12 S ∧ True))))) else True)
theorem c_World_isLike (T' : Nat → Nat × Nat) (G' : Nat → Nat → Option Nat) (S : (Nat → Nat → Int32)) (n : Nat) (hs : Sf_World_isLike S) : z_Run rm_World_isLike zm_World_isLike [z_r 9, z_r 13] (zW T' G' S n) (zq (some (.inl (F_World_isLike S))) (zW T' G' S n)) := by
  refine z_body (by decide) zf_World_ok (Nat.le_of_ble_eq_true rfl) (fun X M => ?_)
  obtain ⟨Q, hQ, K⟩ : ∃ Q : Int32 → Prop, (∀ v, Q v → zq (some (.inl (F_World_isLike S))) (zW T' G' S n) (some (.inl v)) (zW T' G' S n)) ∧ Q (F_World_isLike S) := ⟨fun o => F_World_isLike S = o, fun v h => ⟨by rw [h], rfl⟩, rfl⟩
  show z_G X zm_World_isLike (0, [(0, z_r 9), (1, z_r 13)], [], zW T' G' S n, 0, 0)
  unfold F_World_isLike at K
  unfold Sf_World_isLike at hs
  refine z_go2 M.1 0 [(.aload_n 0, 1), (.getfield 21, 3), (.aload_n 1, 1), (.getfield 21, 3)] (8, [(0, z_r 9), (1, z_r 13)], [.inl (S 13 3), .inl (S 9 3)], zW T' G' S n, 0, 0) (by decide +kernel) rfl ⟨trivial, rfl, trivial, rfl, trivial⟩ ?_
  refine z_icmp_ne 57 M.1 (off := 49) (by decide +kernel) (by decide) (fun c8 => ?_) (fun c8 => ?_)
  · rw [if_neg c8] at K hs
    exact z_lvs (lv' := []) [] rfl (t_World_isLike_j57 M S hQ K)
  · rw [if_pos c8] at K hs
    refine z_go2 M.1 11 [(.aload_n 0, 1), (.getfield 9, 3), (.aload_n 1, 1), (.getfield 9, 3)] (19, [(0, z_r 9), (1, z_r 13)], [z_r 14, z_r 10], zW T' G' S n, 0, 0) (by decide +kernel) rfl ⟨trivial, rfl, trivial, rfl, trivial⟩ ?_
    refine z_callS M.1 (av := [z_r 10, z_r 14]) (st := []) (by decide +kernel) (c_World_isSame_10 T' G' S n hs.1) M.2.1 zl_World_98 zs_World_isSame ⟨by decide, by decide, by decide, by decide⟩ rfl (Nat.le_of_ble_eq_true rfl) (fun v w' hv => ?_)
    obtain ⟨rfl, rfl⟩ := hv
    replace hs := hs.2
    show z_G X zm_World_isLike (22, [(0, z_r 9), (1, z_r 13)], [.inl (F_World_isSame_10 S)], zW T' G' S n, 0, 0)
    refine z_if_eq 57 M.1 (off := 35) (by decide +kernel) (by decide) (fun c22 => ?_) (fun c22 => ?_)
    · rw [if_pos c22] at K hs
      exact z_lvs (lv' := []) [] rfl (t_World_isLike_j57 M S hQ K)
    · rw [if_neg c22] at K hs
      refine z_go2 M.1 25 [(.aload_n 0, 1), (.getfield 15, 3), (.aload_n 1, 1), (.getfield 15, 3)] (33, [(0, z_r 9), (1, z_r 13)], [z_r 15, z_r 11], zW T' G' S n, 0, 0) (by decide +kernel) rfl ⟨trivial, rfl, trivial, rfl, trivial⟩ ?_
      refine z_callS M.1 (av := [z_r 11, z_r 15]) (st := []) (by decide +kernel) (c_World_isSame_11 T' G' S n hs.1) M.2.1 zl_World_98 zs_World_isSame ⟨by decide, by decide, by decide, by decide⟩ rfl (Nat.le_of_ble_eq_true rfl) (fun v w' hv => ?_)
      obtain ⟨rfl, rfl⟩ := hv
      replace hs := hs.2
      show z_G X zm_World_isLike (36, [(0, z_r 9), (1, z_r 13)], [.inl (F_World_isSame_11 S)], zW T' G' S n, 0, 0)
      refine z_if_eq 57 M.1 (off := 21) (by decide +kernel) (by decide) (fun c36 => ?_) (fun c36 => ?_)
      · rw [if_pos c36] at K hs
        exact z_lvs (lv' := []) [] rfl (t_World_isLike_j57 M S hQ K)
      · rw [if_neg c36] at K hs
        refine z_go2 M.1 39 [(.aload_n 0, 1), (.getfield 18, 3), (.aload_n 1, 1), (.getfield 18, 3)] (47, [(0, z_r 9), (1, z_r 13)], [z_r 16, z_r 12], zW T' G' S n, 0, 0) (by decide +kernel) rfl ⟨trivial, rfl, trivial, rfl, trivial⟩ ?_
        refine z_callS M.1 (av := [z_r 12, z_r 16]) (st := []) (by decide +kernel) (c_World_isSame_12 T' G' S n hs.1) M.2.1 zl_World_98 zs_World_isSame ⟨by decide, by decide, by decide, by decide⟩ rfl (Nat.le_of_ble_eq_true rfl) (fun v w' hv => ?_)
        obtain ⟨rfl, rfl⟩ := hv
        replace hs := hs.2
        show z_G X zm_World_isLike (50, [(0, z_r 9), (1, z_r 13)], [.inl (F_World_isSame_12 S)], zW T' G' S n, 0, 0)
        refine z_if_eq 57 M.1 (off := 7) (by decide +kernel) (by decide) (fun c50 => ?_) (fun c50 => ?_)
        · rw [if_pos c50] at K
          exact z_lvs (lv' := []) [] rfl (t_World_isLike_j57 M S hQ K)
        · rw [if_neg c50] at K
          refine z_go2 M.1 53 [(.iconst 1, 1), (.goto 4, 3)] (58, [(0, z_r 9), (1, z_r 13)], [.inl 1], zW T' G' S n, 0, 0) (by decide +kernel) rfl ⟨trivial, trivial, trivial⟩ ?_
          exact z_iret M (by decide +kernel) .boolean rfl rfl (by decide) (by decide) (hQ _ K)

-- TrackHouse$Log.add
abbrev rm_Log_add : Room := zr 0
def F_Log_add (S : (Nat → Nat → Int32)) (p1 : Int32) (p2 : Int32) (p3 : Int32) (p4 : Int32) (p5 : Int32) (p6 : Int32) (p7 : Int32) : (Nat → Nat → Int32) := (if (S 1 7) < 0 then S else (if (900 : Int32) ≤ (S 1 7) then S else (z_uS (z_uS (z_uS (z_uS (z_uS (z_uS (z_uS (z_uS S 2 (S 1 7).toNatClampNeg p1) 3 (S 1 7).toNatClampNeg p2) 4 (S 1 7).toNatClampNeg p3) 5 (S 1 7).toNatClampNeg p4) 6 (S 1 7).toNatClampNeg p5) 7 (S 1 7).toNatClampNeg p6) 8 (S 1 7).toNatClampNeg p7) 1 7 ((S 1 7) + 1))))
def Sf_Log_add (S : (Nat → Nat → Int32)) (p1 : Int32) (p2 : Int32) (p3 : Int32) (p4 : Int32) (p5 : Int32) (p6 : Int32) (p7 : Int32) : Prop := (if (S 1 7) < 0 then True else (if (900 : Int32) ≤ (S 1 7) then True else ((vp_in (S 1 7) 900) ∧ ((vp_in (S 1 7) 900) ∧ ((vp_in (S 1 7) 900) ∧ ((vp_in (S 1 7) 900) ∧ ((vp_in (S 1 7) 900) ∧ ((vp_in (S 1 7) 900) ∧ ((vp_in (S 1 7) 900) ∧ True)))))))))
theorem c_Log_add (T' : Nat → Nat × Nat) (G' : Nat → Nat → Option Nat) (S : (Nat → Nat → Int32)) (n : Nat) (p1 : Int32) (p2 : Int32) (p3 : Int32) (p4 : Int32) (p5 : Int32) (p6 : Int32) (p7 : Int32) (hs : Sf_Log_add S p1 p2 p3 p4 p5 p6 p7) : z_Run rm_Log_add zm_Log_add [z_r 1, .inl p1, .inl p2, .inl p3, .inl p4, .inl p5, .inl p6, .inl p7] (zW T' G' S n) (zq none (zW T' G' (F_Log_add S p1 p2 p3 p4 p5 p6 p7) n)) := by
  refine z_body (by decide) zf_Log_ok (Nat.le_of_ble_eq_true rfl) (fun X M => ?_)
  obtain ⟨Q, hQ, K⟩ : ∃ Q : (Nat → Nat → Int32) → Prop, (∀ S', Q S' → zq none (zW T' G' (F_Log_add S p1 p2 p3 p4 p5 p6 p7) n) none (zW T' G' S' n)) ∧ Q (F_Log_add S p1 p2 p3 p4 p5 p6 p7) := ⟨fun o => F_Log_add S p1 p2 p3 p4 p5 p6 p7 = o, fun S' h => ⟨rfl, by rw [h]⟩, rfl⟩
  show z_G X zm_Log_add (0, [(0, z_r 1), (1, .inl p1), (2, .inl p2), (3, .inl p3), (4, .inl p4), (5, .inl p5), (6, .inl p6), (7, .inl p7)], [], zW T' G' S n, 0, 0)
  unfold F_Log_add at K
  unfold Sf_Log_add at hs
  refine z_go2 M.1 0 [(.aload_n 0, 1), (.getfield 33, 3)] (4, [(0, z_r 1), (1, .inl p1), (2, .inl p2), (3, .inl p3), (4, .inl p4), (5, .inl p5), (6, .inl p6), (7, .inl p7)], [.inl (S 1 7)], zW T' G' S n, 0, 0) (by decide +kernel) rfl ⟨trivial, rfl, trivial⟩ ?_
  refine z_if_lt 101 M.1 (off := 97) (by decide +kernel) (by decide) (fun c4 => ?_) (fun c4 => ?_)
  · rw [if_pos c4] at K hs
    exact z_vret M (by decide +kernel) rfl (by decide) (by decide) (hQ _ K)
  · rw [if_neg c4] at K hs
    refine z_go2 M.1 7 [(.aload_n 0, 1), (.getfield 33, 3), (.sipush 900, 3)] (14, [(0, z_r 1), (1, .inl p1), (2, .inl p2), (3, .inl p3), (4, .inl p4), (5, .inl p5), (6, .inl p6), (7, .inl p7)], [.inl 900, .inl (S 1 7)], zW T' G' S n, 0, 0) (by decide +kernel) rfl ⟨trivial, rfl, trivial, trivial⟩ ?_
    refine z_icmp_ge 101 M.1 (off := 87) (by decide +kernel) (by decide) (fun c14 => ?_) (fun c14 => ?_)
    · rw [if_pos c14] at K hs
      exact z_vret M (by decide +kernel) rfl (by decide) (by decide) (hQ _ K)
    · rw [if_neg c14] at K hs
      refine z_go2 M.1 17 [(.aload_n 0, 1), (.getfield 9, 3), (.aload_n 0, 1), (.getfield 33, 3), (.iload_n 1, 1), (.iastore, 1), (.aload_n 0, 1), (.getfield 15, 3), (.aload_n 0, 1), (.getfield 33, 3), (.iload_n 2, 1), (.iastore, 1), (.aload_n 0, 1), (.getfield 18, 3), (.aload_n 0, 1), (.getfield 33, 3), (.iload_n 3, 1), (.iastore, 1), (.aload_n 0, 1), (.getfield 21, 3), (.aload_n 0, 1), (.getfield 33, 3), (.iload 4, 2), (.iastore, 1), (.aload_n 0, 1), (.getfield 24, 3), (.aload_n 0, 1), (.getfield 33, 3), (.iload 5, 2), (.iastore, 1), (.aload_n 0, 1), (.getfield 27, 3), (.aload_n 0, 1), (.getfield 33, 3), (.iload 6, 2), (.iastore, 1), (.aload_n 0, 1), (.getfield 30, 3), (.aload_n 0, 1), (.getfield 33, 3), (.iload 7, 2), (.iastore, 1), (.aload_n 0, 1), (.dup, 1), (.getfield 33, 3), (.iconst 1, 1), (.iadd, 1), (.putfield 33, 3)] (101, [(0, z_r 1), (1, .inl p1), (2, .inl p2), (3, .inl p3), (4, .inl p4), (5, .inl p5), (6, .inl p6), (7, .inl p7)], [], zW T' G' (z_uS (z_uS (z_uS (z_uS (z_uS (z_uS (z_uS (z_uS S 2 (S 1 7).toNatClampNeg p1) 3 (S 1 7).toNatClampNeg p2) 4 (S 1 7).toNatClampNeg p3) 5 (S 1 7).toNatClampNeg p4) 6 (S 1 7).toNatClampNeg p5) 7 (S 1 7).toNatClampNeg p6) 8 (S 1 7).toNatClampNeg p7) 1 7 ((S 1 7) + 1)) n, 0, 0) (by decide +kernel) rfl ⟨trivial, rfl, trivial, rfl, trivial, ⟨rfl, hs.1⟩, trivial, rfl, trivial, rfl, trivial, ⟨rfl, hs.2.1⟩, trivial, rfl, trivial, rfl, trivial, ⟨rfl, hs.2.2.1⟩, trivial, rfl, trivial, rfl, trivial, ⟨rfl, hs.2.2.2.1⟩, trivial, rfl, trivial, rfl, trivial, ⟨rfl, hs.2.2.2.2.1⟩, trivial, rfl, trivial, rfl, trivial, ⟨rfl, hs.2.2.2.2.2.1⟩, trivial, rfl, trivial, rfl, trivial, ⟨rfl, hs.2.2.2.2.2.2.1⟩, trivial, rfl, rfl, trivial, trivial, ⟨rfl, trivial⟩, trivial⟩ ?_
      replace hs := hs.2.2.2.2.2.2.2
      exact z_vret M (by decide +kernel) rfl (by decide) (by decide) (hQ _ K)

-- TrackHouse$Kinds.has
abbrev rm_Kinds_has : Room := zr 0
def F_Kinds_has_j36 (S : (Nat → Nat → Int32)) : Int32 := 0
theorem t_Kinds_has_j36 {X : z_X} {Post : Option z_V → z_W → Prop} (M : z_M X zm_Kinds_has rm_Kinds_has Post) {T' : Nat → Nat × Nat} {G' : Nat → Nat → Option Nat} {n : Nat} {Q : Int32 → Prop} (S : (Nat → Nat → Int32)) (hQ : ∀ v, Q v → Post (some (.inl v)) (zW T' G' S n)) (K : Q (F_Kinds_has_j36 S)) : z_G X zm_Kinds_has (36, [], [], zW T' G' S n, 0, 0) := by
  unfold F_Kinds_has_j36 at K
  refine z_go2 M.1 36 [(.iconst 0, 1)] (37, [], [.inl 0], zW T' G' S n, 0, 0) (by decide +kernel) rfl ⟨trivial, trivial⟩ ?_
  exact z_iret M (by decide +kernel) .boolean rfl rfl (by decide) (by decide) (hQ _ K)
def F_Kinds_has (S : (Nat → Nat → Int32)) (p1 : Int32) (p2 : Int32) : Int32 := (if p1 < 0 then (F_Kinds_has_j36 S) else (if (3 : Int32) ≤ p1 then (F_Kinds_has_j36 S) else (if p2 < 0 then (F_Kinds_has_j36 S) else (if (3 : Int32) ≤ p2 then (F_Kinds_has_j36 S) else (if (((S 44 (p1).toNatClampNeg) >>> (p2 &&& 31)) &&& 1) = 1 then 1 else (F_Kinds_has_j36 S))))))
def Sf_Kinds_has (S : (Nat → Nat → Int32)) (p1 : Int32) (p2 : Int32) : Prop := (if p1 < 0 then True else (if (3 : Int32) ≤ p1 then True else (if p2 < 0 then True else (if (3 : Int32) ≤ p2 then True else ((vp_in p1 3) ∧ True)))))
theorem c_Kinds_has (T' : Nat → Nat × Nat) (G' : Nat → Nat → Option Nat) (S : (Nat → Nat → Int32)) (n : Nat) (p1 : Int32) (p2 : Int32) (hs : Sf_Kinds_has S p1 p2) : z_Run rm_Kinds_has zm_Kinds_has [z_r 43, .inl p1, .inl p2] (zW T' G' S n) (zq (some (.inl (F_Kinds_has S p1 p2))) (zW T' G' S n)) := by
  refine z_body (by decide) zf_Kinds_ok (Nat.le_of_ble_eq_true rfl) (fun X M => ?_)
  obtain ⟨Q, hQ, K⟩ : ∃ Q : Int32 → Prop, (∀ v, Q v → zq (some (.inl (F_Kinds_has S p1 p2))) (zW T' G' S n) (some (.inl v)) (zW T' G' S n)) ∧ Q (F_Kinds_has S p1 p2) := ⟨fun o => F_Kinds_has S p1 p2 = o, fun v h => ⟨by rw [h], rfl⟩, rfl⟩
  show z_G X zm_Kinds_has (0, [(0, z_r 43), (1, .inl p1), (2, .inl p2)], [], zW T' G' S n, 0, 0)
  unfold F_Kinds_has at K
  unfold Sf_Kinds_has at hs
  refine z_go2 M.1 0 [(.iload_n 1, 1)] (1, [(0, z_r 43), (1, .inl p1), (2, .inl p2)], [.inl p1], zW T' G' S n, 0, 0) (by decide +kernel) rfl ⟨trivial, trivial⟩ ?_
  refine z_if_lt 36 M.1 (off := 35) (by decide +kernel) (by decide) (fun c1 => ?_) (fun c1 => ?_)
  · rw [if_pos c1] at K hs
    exact z_lvs (lv' := []) [] rfl (t_Kinds_has_j36 M S hQ K)
  · rw [if_neg c1] at K hs
    refine z_go2 M.1 4 [(.iload_n 1, 1), (.iconst 3, 1)] (6, [(0, z_r 43), (1, .inl p1), (2, .inl p2)], [.inl 3, .inl p1], zW T' G' S n, 0, 0) (by decide +kernel) rfl ⟨trivial, trivial, trivial⟩ ?_
    refine z_icmp_ge 36 M.1 (off := 30) (by decide +kernel) (by decide) (fun c6 => ?_) (fun c6 => ?_)
    · rw [if_pos c6] at K hs
      exact z_lvs (lv' := []) [] rfl (t_Kinds_has_j36 M S hQ K)
    · rw [if_neg c6] at K hs
      refine z_go2 M.1 9 [(.iload_n 2, 1)] (10, [(0, z_r 43), (1, .inl p1), (2, .inl p2)], [.inl p2], zW T' G' S n, 0, 0) (by decide +kernel) rfl ⟨trivial, trivial⟩ ?_
      refine z_if_lt 36 M.1 (off := 26) (by decide +kernel) (by decide) (fun c10 => ?_) (fun c10 => ?_)
      · rw [if_pos c10] at K hs
        exact z_lvs (lv' := []) [] rfl (t_Kinds_has_j36 M S hQ K)
      · rw [if_neg c10] at K hs
        refine z_go2 M.1 13 [(.iload_n 2, 1), (.iconst 3, 1)] (15, [(0, z_r 43), (1, .inl p1), (2, .inl p2)], [.inl 3, .inl p2], zW T' G' S n, 0, 0) (by decide +kernel) rfl ⟨trivial, trivial, trivial⟩ ?_
        refine z_icmp_ge 36 M.1 (off := 21) (by decide +kernel) (by decide) (fun c15 => ?_) (fun c15 => ?_)
        · rw [if_pos c15] at K hs
          exact z_lvs (lv' := []) [] rfl (t_Kinds_has_j36 M S hQ K)
        · rw [if_neg c15] at K hs
          refine z_go2 M.1 18 [(.aload_n 0, 1), (.getfield 9, 3), (.iload_n 1, 1), (.iaload, 1), (.iload_n 2, 1), (.ishr, 1), (.iconst 1, 1), (.iand, 1), (.iconst 1, 1)] (29, [(0, z_r 43), (1, .inl p1), (2, .inl p2)], [.inl 1, .inl (((S 44 (p1).toNatClampNeg) >>> (p2 &&& 31)) &&& 1)], zW T' G' S n, 0, 0) (by decide +kernel) rfl ⟨trivial, rfl, trivial, ⟨rfl, hs.1⟩, trivial, trivial, trivial, trivial, trivial, trivial⟩ ?_
          replace hs := hs.2
          refine z_icmp_ne 36 M.1 (off := 7) (by decide +kernel) (by decide) (fun c29 => ?_) (fun c29 => ?_)
          · rw [if_neg c29] at K
            exact z_lvs (lv' := []) [] rfl (t_Kinds_has_j36 M S hQ K)
          · rw [if_pos c29] at K
            refine z_go2 M.1 32 [(.iconst 1, 1), (.goto 4, 3)] (37, [(0, z_r 43), (1, .inl p1), (2, .inl p2)], [.inl 1], zW T' G' S n, 0, 0) (by decide +kernel) rfl ⟨trivial, trivial, trivial⟩ ?_
            exact z_iret M (by decide +kernel) .boolean rfl rfl (by decide) (by decide) (hQ _ K)

-- TrackHouse$Flows.has
abbrev rm_Flows_has : Room := zr 1
def F_Flows_has (S : (Nat → Nat → Int32)) (p1 : Int32) (p2 : Int32) : Int32 := (F_T_isIn S (zAt (S 55) 4 p1) p2)
def Sf_Flows_has (S : (Nat → Nat → Int32)) (p1 : Int32) (p2 : Int32) : Prop := (narrow .boolean (.int (F_T_isIn S (zAt (S 55) 4 p1) p2)) = .int (F_T_isIn S (zAt (S 55) 4 p1) p2) ∧ True)
theorem c_Flows_has (T' : Nat → Nat × Nat) (G' : Nat → Nat → Option Nat) (S : (Nat → Nat → Int32)) (n : Nat) (p1 : Int32) (p2 : Int32) (hs : Sf_Flows_has S p1 p2) : z_Run rm_Flows_has zm_Flows_has [z_r 54, .inl p1, .inl p2] (zW T' G' S n) (zq (some (.inl (F_Flows_has S p1 p2))) (zW T' G' S n)) := by
  refine z_body (by decide) zf_Flows_ok (Nat.le_of_ble_eq_true rfl) (fun X M => ?_)
  obtain ⟨Q, hQ, K⟩ : ∃ Q : Int32 → Prop, (∀ v, Q v → zq (some (.inl (F_Flows_has S p1 p2))) (zW T' G' S n) (some (.inl v)) (zW T' G' S n)) ∧ Q (F_Flows_has S p1 p2) := ⟨fun o => F_Flows_has S p1 p2 = o, fun v h => ⟨by rw [h], rfl⟩, rfl⟩
  show z_G X zm_Flows_has (0, [(0, z_r 54), (1, .inl p1), (2, .inl p2)], [], zW T' G' S n, 0, 0)
  unfold F_Flows_has at K
  unfold Sf_Flows_has at hs
  refine z_go2 M.1 0 [(.aload_n 0, 1), (.getfield 9, 3), (.iload_n 1, 1)] (5, [(0, z_r 54), (1, .inl p1), (2, .inl p2)], [.inl p1, z_r 55], zW T' G' S n, 0, 0) (by decide +kernel) rfl ⟨trivial, rfl, trivial, trivial⟩ ?_
  refine z_callS M.1 (av := [z_r 55, .inl p1]) (st := []) (by decide +kernel) (c_at (zW T' G' S n) 55 4 rfl (by decide) p1) M.2.1 zl_Flows_34 zs_T_at ⟨by decide, by decide, by decide, by decide⟩ rfl (Nat.le_of_ble_eq_true rfl) (fun v w' hv => ?_)
  obtain ⟨rfl, rfl⟩ := hv
  show z_G X zm_Flows_has (8, [(0, z_r 54), (1, .inl p1), (2, .inl p2)], [.inl (zAt (S 55) 4 p1)], zW T' G' S n, 0, 0)
  refine z_go2 M.1 8 [(.iload_n 2, 1)] (9, [(0, z_r 54), (1, .inl p1), (2, .inl p2)], [.inl p2, .inl (zAt (S 55) 4 p1)], zW T' G' S n, 0, 0) (by decide +kernel) rfl ⟨trivial, trivial⟩ ?_
  refine z_callS M.1 (av := [.inl (zAt (S 55) 4 p1), .inl p2]) (st := []) (by decide +kernel) (c_T_isIn T' G' S n (zAt (S 55) 4 p1) p2) M.2.1 zl_Flows_38 zs_T_isIn ⟨by decide, by decide, by decide, by decide⟩ rfl (Nat.le_of_ble_eq_true rfl) (fun v w' hv => ?_)
  obtain ⟨rfl, rfl⟩ := hv
  show z_G X zm_Flows_has (12, [(0, z_r 54), (1, .inl p1), (2, .inl p2)], [.inl (F_T_isIn S (zAt (S 55) 4 p1) p2)], zW T' G' S n, 0, 0)
  exact z_iret M (by decide +kernel) .boolean rfl hs.1 (by decide) (by decide) (hQ _ K)


-- TrackHouse$Flows.setPart
abbrev rm_Flows_setPart : Room := zr 1
def F_Flows_setPart (S : (Nat → Nat → Int32)) (p1 : Int32) (p2 : Int32) (p3 : Int32) : (Nat → Nat → Int32) := (z_let (zPut S 57 192 ((((24 : Int32) + p1) * 6) + p2) p3) (fun S14 => S14))
theorem c_Flows_setPart (T' : Nat → Nat × Nat) (G' : Nat → Nat → Option Nat) (S : (Nat → Nat → Int32)) (n : Nat) (p1 : Int32) (p2 : Int32) (p3 : Int32) : z_Run rm_Flows_setPart zm_Flows_setPart [z_r 54, .inl p1, .inl p2, .inl p3] (zW T' G' S n) (zq none (zW T' G' (F_Flows_setPart S p1 p2 p3) n)) := by
  refine z_body (by decide) zf_Flows_ok (Nat.le_of_ble_eq_true rfl) (fun X M => ?_)
  obtain ⟨Q, hQ, K⟩ : ∃ Q : (Nat → Nat → Int32) → Prop, (∀ S', Q S' → zq none (zW T' G' (F_Flows_setPart S p1 p2 p3) n) none (zW T' G' S' n)) ∧ Q (F_Flows_setPart S p1 p2 p3) := ⟨fun o => F_Flows_setPart S p1 p2 p3 = o, fun S' h => ⟨rfl, by rw [h]⟩, rfl⟩
  show z_G X zm_Flows_setPart (0, [(0, z_r 54), (1, .inl p1), (2, .inl p2), (3, .inl p3)], [], zW T' G' S n, 0, 0)
  unfold F_Flows_setPart at K
  refine z_go2 M.1 0 [(.aload_n 0, 1), (.getfield 18, 3), (.bipush 24, 2), (.iload_n 1, 1), (.iadd, 1), (.bipush 6, 2), (.imul, 1), (.iload_n 2, 1), (.iadd, 1), (.iload_n 3, 1)] (14, [(0, z_r 54), (1, .inl p1), (2, .inl p2), (3, .inl p3)], [.inl p3, .inl ((((24 : Int32) + p1) * 6) + p2), z_r 57], zW T' G' S n, 0, 0) (by decide +kernel) rfl ⟨trivial, rfl, trivial, trivial, trivial, trivial, trivial, trivial, trivial, trivial, trivial⟩ ?_
  refine z_callS M.1 (av := [z_r 57, .inl ((((24 : Int32) + p1) * 6) + p2), .inl p3]) (st := []) (by decide +kernel) (c_put (zW T' G' S n) 57 192 rfl (by decide) ((((24 : Int32) + p1) * 6) + p2) p3) M.2.1 zl_Flows_42 zs_T_put ⟨by decide, by decide, by decide, by decide⟩ rfl (Nat.le_of_ble_eq_true rfl) (fun v w' hv => ?_)
  obtain ⟨S14, hF14⟩ : ∃ y, zPut S 57 192 ((((24 : Int32) + p1) * 6) + p2) p3 = y := ⟨_, rfl⟩
  replace hv : v = none ∧ w' = zW T' G' (zPut S 57 192 ((((24 : Int32) + p1) * 6) + p2) p3) n := hv
  rw [hF14] at K hv
  try dsimp only [z_let] at K
  obtain ⟨rfl, rfl⟩ := hv
  show z_G X zm_Flows_setPart (17, [(0, z_r 54), (1, .inl p1), (2, .inl p2), (3, .inl p3)], [], zW T' G' S14 n, 0, 0)
  exact z_vret M (by decide +kernel) rfl (by decide) (by decide) (hQ _ K)

-- TrackHouse$Flows.begin
abbrev rm_Flows_begin : Room := zr 1
def F_Flows_begin_L34 (x1 : Int32) : Nat → (Nat → Nat → Int32) → Int32 → ((Nat → Nat → Int32))
  | 0, S, x2 => S
  | f + 1, S, x2 => (if (48 : Int32) ≤ x2 then S else (z_let (zPut S 57 192 ((144 : Int32) + x2) (zAt (S 57) 192 (((x1 * 8) * 6) + x2))) (fun S65 => ((F_Flows_begin_L34 x1 f) S65 (x2 + 1)))))
def Sf_Flows_begin_L34 (x1 : Int32) : Nat → (Nat → Nat → Int32) → Int32 → Prop
  | 0, _, _ => False
  | f + 1, S, x2 => (if (48 : Int32) ≤ x2 then True else (z_let (zPut S 57 192 ((144 : Int32) + x2) (zAt (S 57) 192 (((x1 * 8) * 6) + x2))) (fun S65 => ((Sf_Flows_begin_L34 x1 f) S65 (x2 + 1)))))
theorem t_Flows_begin_L34 {X : z_X} {Post : Option z_V → z_W → Prop} (M : z_M X zm_Flows_begin rm_Flows_begin Post) {T' : Nat → Nat × Nat} {G' : Nat → Nat → Option Nat} {n : Nat} {Q : ((Nat → Nat → Int32)) → Prop}  (x1 : Int32) (hE : ∀ (S' : (Nat → Nat → Int32)), Q S' → z_G X zm_Flows_begin (74, [(0, z_r 54), (1, .inl x1)], [], zW T' G' S' n, 0, 0)) (f : Nat) : ∀ (S : (Nat → Nat → Int32)) (x2 : Int32), Q (F_Flows_begin_L34 x1 f S x2) → Sf_Flows_begin_L34 x1 f S x2 → z_G X zm_Flows_begin (34, [(0, z_r 54), (1, .inl x1), (2, .inl x2)], [], zW T' G' S n, 0, 0) := by
  induction f with
  | zero => intro S x2 K hs; exact False.elim hs
  | succ f hC =>
    intro S x2 K hs
    rw [F_Flows_begin_L34] at K
    rw [Sf_Flows_begin_L34] at hs
    refine z_go2 M.1 34 [(.iload_n 2, 1), (.bipush 48, 2)] (37, [(0, z_r 54), (1, .inl x1), (2, .inl x2)], [.inl 48, .inl x2], zW T' G' S n, 0, 0) (by decide +kernel) rfl ⟨trivial, trivial, trivial⟩ ?_
    refine z_icmp_ge 74 M.1 (off := 37) (by decide +kernel) (by decide) (fun c37 => ?_) (fun c37 => ?_)
    · rw [if_pos c37] at K hs
      exact z_lvs (lv' := [(0, z_r 54), (1, .inl x1)]) [0, 1] rfl (hE S K)
    · rw [if_neg c37] at K hs
      refine z_go2 M.1 40 [(.aload_n 0, 1), (.getfield 18, 3), (.sipush 144, 3), (.iload_n 2, 1), (.iadd, 1), (.aload_n 0, 1), (.getfield 18, 3), (.iload_n 1, 1), (.bipush 8, 2), (.imul, 1), (.bipush 6, 2), (.imul, 1), (.iload_n 2, 1), (.iadd, 1)] (62, [(0, z_r 54), (1, .inl x1), (2, .inl x2)], [.inl (((x1 * 8) * 6) + x2), z_r 57, .inl ((144 : Int32) + x2), z_r 57], zW T' G' S n, 0, 0) (by decide +kernel) rfl ⟨trivial, rfl, trivial, trivial, trivial, trivial, rfl, trivial, trivial, trivial, trivial, trivial, trivial, trivial, trivial⟩ ?_
      refine z_callS M.1 (av := [z_r 57, .inl (((x1 * 8) * 6) + x2)]) (st := [.inl ((144 : Int32) + x2), z_r 57]) (by decide +kernel) (c_at (zW T' G' S n) 57 192 rfl (by decide) (((x1 * 8) * 6) + x2)) M.2.1 zl_Flows_34 zs_T_at ⟨by decide, by decide, by decide, by decide⟩ rfl (Nat.le_of_ble_eq_true rfl) (fun v w' hv => ?_)
      obtain ⟨rfl, rfl⟩ := hv
      show z_G X zm_Flows_begin (65, [(0, z_r 54), (1, .inl x1), (2, .inl x2)], [.inl (zAt (S 57) 192 (((x1 * 8) * 6) + x2)), .inl ((144 : Int32) + x2), z_r 57], zW T' G' S n, 0, 0)
      refine z_callS M.1 (av := [z_r 57, .inl ((144 : Int32) + x2), .inl (zAt (S 57) 192 (((x1 * 8) * 6) + x2))]) (st := []) (by decide +kernel) (c_put (zW T' G' S n) 57 192 rfl (by decide) ((144 : Int32) + x2) (zAt (S 57) 192 (((x1 * 8) * 6) + x2))) M.2.1 zl_Flows_42 zs_T_put ⟨by decide, by decide, by decide, by decide⟩ rfl (Nat.le_of_ble_eq_true rfl) (fun v w' hv => ?_)
      obtain ⟨S65, hF65⟩ : ∃ y, zPut S 57 192 ((144 : Int32) + x2) (zAt (S 57) 192 (((x1 * 8) * 6) + x2)) = y := ⟨_, rfl⟩
      replace hv : v = none ∧ w' = zW T' G' (zPut S 57 192 ((144 : Int32) + x2) (zAt (S 57) 192 (((x1 * 8) * 6) + x2))) n := hv
      rw [hF65] at K hv
      try rw [hF65] at hs
      try dsimp only [z_let] at K hs
      obtain ⟨rfl, rfl⟩ := hv
      show z_G X zm_Flows_begin (68, [(0, z_r 54), (1, .inl x1), (2, .inl x2)], [], zW T' G' S65 n, 0, 0)
      refine z_go2 M.1 68 [(.iinc 2 1, 3), (.goto (-37), 3)] (34, [(2, .inl (x2 + 1)), (0, z_r 54), (1, .inl x1)], [], zW T' G' S65 n, 0, 0) (by decide +kernel) rfl ⟨trivial, trivial, trivial⟩ ?_
      exact z_lvs (lv' := [(0, z_r 54), (1, .inl x1), (2, .inl (x2 + 1))]) [1, 2, 0] rfl (hC S65 (x2 + 1) K hs)
def F_Flows_begin (S : (Nat → Nat → Int32)) (p1 : Int32) : (Nat → Nat → Int32) := (z_let (zPut S 55 4 3 (zAt (S 55) 4 p1)) (fun S13 => (z_let (zPut S13 56 4 3 (zAt (S13 56) 4 p1)) (fun S29 => (match F_Flows_begin_L34 p1 1300 S29 0 with | S34 => (z_let (zFill S34 58 6 (-1)) (fun S79 => (z_uS S79 54 4 p1))))))))
def Sf_Flows_begin (S : (Nat → Nat → Int32)) (p1 : Int32) : Prop := (z_let (zPut S 55 4 3 (zAt (S 55) 4 p1)) (fun S13 => (z_let (zPut S13 56 4 3 (zAt (S13 56) 4 p1)) (fun S29 => (Sf_Flows_begin_L34 p1 1300 S29 0 ∧ True)))))
theorem c_Flows_begin (T' : Nat → Nat × Nat) (G' : Nat → Nat → Option Nat) (S : (Nat → Nat → Int32)) (n : Nat) (p1 : Int32) (hs : Sf_Flows_begin S p1) : z_Run rm_Flows_begin zm_Flows_begin [z_r 54, .inl p1] (zW T' G' S n) (zq none (zW T' G' (F_Flows_begin S p1) n)) := by
  refine z_body (by decide) zf_Flows_ok (Nat.le_of_ble_eq_true rfl) (fun X M => ?_)
  obtain ⟨Q, hQ, K⟩ : ∃ Q : (Nat → Nat → Int32) → Prop, (∀ S', Q S' → zq none (zW T' G' (F_Flows_begin S p1) n) none (zW T' G' S' n)) ∧ Q (F_Flows_begin S p1) := ⟨fun o => F_Flows_begin S p1 = o, fun S' h => ⟨rfl, by rw [h]⟩, rfl⟩
  show z_G X zm_Flows_begin (0, [(0, z_r 54), (1, .inl p1)], [], zW T' G' S n, 0, 0)
  unfold F_Flows_begin at K
  unfold Sf_Flows_begin at hs
  refine z_go2 M.1 0 [(.aload_n 0, 1), (.getfield 9, 3), (.iconst 3, 1), (.aload_n 0, 1), (.getfield 9, 3), (.iload_n 1, 1)] (10, [(0, z_r 54), (1, .inl p1)], [.inl p1, z_r 55, .inl 3, z_r 55], zW T' G' S n, 0, 0) (by decide +kernel) rfl ⟨trivial, rfl, trivial, trivial, rfl, trivial, trivial⟩ ?_
  refine z_callS M.1 (av := [z_r 55, .inl p1]) (st := [.inl 3, z_r 55]) (by decide +kernel) (c_at (zW T' G' S n) 55 4 rfl (by decide) p1) M.2.1 zl_Flows_34 zs_T_at ⟨by decide, by decide, by decide, by decide⟩ rfl (Nat.le_of_ble_eq_true rfl) (fun v w' hv => ?_)
  obtain ⟨rfl, rfl⟩ := hv
  show z_G X zm_Flows_begin (13, [(0, z_r 54), (1, .inl p1)], [.inl (zAt (S 55) 4 p1), .inl 3, z_r 55], zW T' G' S n, 0, 0)
  refine z_callS M.1 (av := [z_r 55, .inl 3, .inl (zAt (S 55) 4 p1)]) (st := []) (by decide +kernel) (c_put (zW T' G' S n) 55 4 rfl (by decide) 3 (zAt (S 55) 4 p1)) M.2.1 zl_Flows_42 zs_T_put ⟨by decide, by decide, by decide, by decide⟩ rfl (Nat.le_of_ble_eq_true rfl) (fun v w' hv => ?_)
  obtain ⟨S13, hF13⟩ : ∃ y, zPut S 55 4 3 (zAt (S 55) 4 p1) = y := ⟨_, rfl⟩
  replace hv : v = none ∧ w' = zW T' G' (zPut S 55 4 3 (zAt (S 55) 4 p1)) n := hv
  rw [hF13] at K hv
  try rw [hF13] at hs
  try dsimp only [z_let] at K hs
  obtain ⟨rfl, rfl⟩ := hv
  show z_G X zm_Flows_begin (16, [(0, z_r 54), (1, .inl p1)], [], zW T' G' S13 n, 0, 0)
  refine z_go2 M.1 16 [(.aload_n 0, 1), (.getfield 15, 3), (.iconst 3, 1), (.aload_n 0, 1), (.getfield 15, 3), (.iload_n 1, 1)] (26, [(0, z_r 54), (1, .inl p1)], [.inl p1, z_r 56, .inl 3, z_r 56], zW T' G' S13 n, 0, 0) (by decide +kernel) rfl ⟨trivial, rfl, trivial, trivial, rfl, trivial, trivial⟩ ?_
  refine z_callS M.1 (av := [z_r 56, .inl p1]) (st := [.inl 3, z_r 56]) (by decide +kernel) (c_at (zW T' G' S13 n) 56 4 rfl (by decide) p1) M.2.1 zl_Flows_34 zs_T_at ⟨by decide, by decide, by decide, by decide⟩ rfl (Nat.le_of_ble_eq_true rfl) (fun v w' hv => ?_)
  obtain ⟨rfl, rfl⟩ := hv
  show z_G X zm_Flows_begin (29, [(0, z_r 54), (1, .inl p1)], [.inl (zAt (S13 56) 4 p1), .inl 3, z_r 56], zW T' G' S13 n, 0, 0)
  refine z_callS M.1 (av := [z_r 56, .inl 3, .inl (zAt (S13 56) 4 p1)]) (st := []) (by decide +kernel) (c_put (zW T' G' S13 n) 56 4 rfl (by decide) 3 (zAt (S13 56) 4 p1)) M.2.1 zl_Flows_42 zs_T_put ⟨by decide, by decide, by decide, by decide⟩ rfl (Nat.le_of_ble_eq_true rfl) (fun v w' hv => ?_)
  obtain ⟨S29, hF29⟩ : ∃ y, zPut S13 56 4 3 (zAt (S13 56) 4 p1) = y := ⟨_, rfl⟩
  replace hv : v = none ∧ w' = zW T' G' (zPut S13 56 4 3 (zAt (S13 56) 4 p1)) n := hv
  rw [hF29] at K hv
  try rw [hF29] at hs
  try dsimp only [z_let] at K hs
  obtain ⟨rfl, rfl⟩ := hv
  show z_G X zm_Flows_begin (32, [(0, z_r 54), (1, .inl p1)], [], zW T' G' S29 n, 0, 0)
  refine z_go2 M.1 32 [(.iconst 0, 1), (.istore_n 2, 1)] (34, [(2, .inl 0), (0, z_r 54), (1, .inl p1)], [], zW T' G' S29 n, 0, 0) (by decide +kernel) rfl ⟨trivial, trivial, trivial⟩ ?_
  refine z_lvs (lv' := [(0, z_r 54), (1, .inl p1), (2, .inl 0)]) [1, 2, 0] rfl ?_
  refine t_Flows_begin_L34 M (Q := fun o => F_Flows_begin_L34 p1 1300 S29 0 = o) p1 (fun S34 hL34 => ?_) 1300 S29 0 rfl hs.1
  replace hs := hs.2
  rw [hL34] at K
  try dsimp only at K
  refine z_go2 M.1 74 [(.aload_n 0, 1), (.getfield 21, 3), (.iconst (-1), 1)] (79, [(0, z_r 54), (1, .inl p1)], [.inl (-1), z_r 58], zW T' G' S34 n, 0, 0) (by decide +kernel) rfl ⟨trivial, rfl, trivial, trivial⟩ ?_
  refine z_callS M.1 (av := [z_r 58, .inl (-1)]) (st := []) (by decide +kernel) (c_fill (zT T') (zG G') S34 n 58 6 rfl (by decide) (-1)) M.2.1 zl_Flows_28 zs_Arrays_fill ⟨by decide, by decide, by decide, by decide⟩ rfl (Nat.le_of_ble_eq_true rfl) (fun v w' hv => ?_)
  obtain ⟨S79, hF79⟩ : ∃ y, zFill S34 58 6 (-1) = y := ⟨_, rfl⟩
  replace hv : v = none ∧ w' = zW T' G' (zFill S34 58 6 (-1)) n := hv
  rw [hF79] at K hv
  try dsimp only [z_let] at K
  obtain ⟨rfl, rfl⟩ := hv
  show z_G X zm_Flows_begin (82, [(0, z_r 54), (1, .inl p1)], [], zW T' G' S79 n, 0, 0)
  refine z_go2 M.1 82 [(.aload_n 0, 1), (.iload_n 1, 1), (.putfield 24, 3)] (87, [(0, z_r 54), (1, .inl p1)], [], zW T' G' (z_uS S79 54 4 p1) n, 0, 0) (by decide +kernel) rfl ⟨trivial, trivial, ⟨rfl, trivial⟩, trivial⟩ ?_
  exact z_vret M (by decide +kernel) rfl (by decide) (by decide) (hQ _ K)

-- TrackHouse$Flows.add
abbrev rm_Flows_add : Room := zr 1
def F_Flows_add (S : (Nat → Nat → Int32)) (p1 : Int32) : (Nat → Nat → Int32) := (z_let (zPut S 55 4 3 ((zAt (S 55) 4 3) ||| (F_T_bit S p1))) (fun S18 => (z_let (zPut S18 58 6 p1 (-1)) (fun S27 => S27))))
theorem c_Flows_add (T' : Nat → Nat × Nat) (G' : Nat → Nat → Option Nat) (S : (Nat → Nat → Int32)) (n : Nat) (p1 : Int32) : z_Run rm_Flows_add zm_Flows_add [z_r 54, .inl p1] (zW T' G' S n) (zq none (zW T' G' (F_Flows_add S p1) n)) := by
  refine z_body (by decide) zf_Flows_ok (Nat.le_of_ble_eq_true rfl) (fun X M => ?_)
  obtain ⟨Q, hQ, K⟩ : ∃ Q : (Nat → Nat → Int32) → Prop, (∀ S', Q S' → zq none (zW T' G' (F_Flows_add S p1) n) none (zW T' G' S' n)) ∧ Q (F_Flows_add S p1) := ⟨fun o => F_Flows_add S p1 = o, fun S' h => ⟨rfl, by rw [h]⟩, rfl⟩
  show z_G X zm_Flows_add (0, [(0, z_r 54), (1, .inl p1)], [], zW T' G' S n, 0, 0)
  unfold F_Flows_add at K
  refine z_go2 M.1 0 [(.aload_n 0, 1), (.getfield 9, 3), (.iconst 3, 1), (.aload_n 0, 1), (.getfield 9, 3), (.iconst 3, 1)] (10, [(0, z_r 54), (1, .inl p1)], [.inl 3, z_r 55, .inl 3, z_r 55], zW T' G' S n, 0, 0) (by decide +kernel) rfl ⟨trivial, rfl, trivial, trivial, rfl, trivial, trivial⟩ ?_
  refine z_callS M.1 (av := [z_r 55, .inl 3]) (st := [.inl 3, z_r 55]) (by decide +kernel) (c_at (zW T' G' S n) 55 4 rfl (by decide) 3) M.2.1 zl_Flows_34 zs_T_at ⟨by decide, by decide, by decide, by decide⟩ rfl (Nat.le_of_ble_eq_true rfl) (fun v w' hv => ?_)
  obtain ⟨rfl, rfl⟩ := hv
  show z_G X zm_Flows_add (13, [(0, z_r 54), (1, .inl p1)], [.inl (zAt (S 55) 4 3), .inl 3, z_r 55], zW T' G' S n, 0, 0)
  refine z_go2 M.1 13 [(.iload_n 1, 1)] (14, [(0, z_r 54), (1, .inl p1)], [.inl p1, .inl (zAt (S 55) 4 3), .inl 3, z_r 55], zW T' G' S n, 0, 0) (by decide +kernel) rfl ⟨trivial, trivial⟩ ?_
  refine z_callS M.1 (av := [.inl p1]) (st := [.inl (zAt (S 55) 4 3), .inl 3, z_r 55]) (by decide +kernel) (c_T_bit T' G' S n p1) M.2.1 zl_Flows_50 zs_T_bit ⟨by decide, by decide, by decide, by decide⟩ rfl (Nat.le_of_ble_eq_true rfl) (fun v w' hv => ?_)
  obtain ⟨rfl, rfl⟩ := hv
  show z_G X zm_Flows_add (17, [(0, z_r 54), (1, .inl p1)], [.inl (F_T_bit S p1), .inl (zAt (S 55) 4 3), .inl 3, z_r 55], zW T' G' S n, 0, 0)
  refine z_go2 M.1 17 [(.ior, 1)] (18, [(0, z_r 54), (1, .inl p1)], [.inl ((zAt (S 55) 4 3) ||| (F_T_bit S p1)), .inl 3, z_r 55], zW T' G' S n, 0, 0) (by decide +kernel) rfl ⟨trivial, trivial⟩ ?_
  refine z_callS M.1 (av := [z_r 55, .inl 3, .inl ((zAt (S 55) 4 3) ||| (F_T_bit S p1))]) (st := []) (by decide +kernel) (c_put (zW T' G' S n) 55 4 rfl (by decide) 3 ((zAt (S 55) 4 3) ||| (F_T_bit S p1))) M.2.1 zl_Flows_42 zs_T_put ⟨by decide, by decide, by decide, by decide⟩ rfl (Nat.le_of_ble_eq_true rfl) (fun v w' hv => ?_)
  obtain ⟨S18, hF18⟩ : ∃ y, zPut S 55 4 3 ((zAt (S 55) 4 3) ||| (F_T_bit S p1)) = y := ⟨_, rfl⟩
  replace hv : v = none ∧ w' = zW T' G' (zPut S 55 4 3 ((zAt (S 55) 4 3) ||| (F_T_bit S p1))) n := hv
  rw [hF18] at K hv
  try dsimp only [z_let] at K
  obtain ⟨rfl, rfl⟩ := hv
  show z_G X zm_Flows_add (21, [(0, z_r 54), (1, .inl p1)], [], zW T' G' S18 n, 0, 0)
  refine z_go2 M.1 21 [(.aload_n 0, 1), (.getfield 21, 3), (.iload_n 1, 1), (.iconst (-1), 1)] (27, [(0, z_r 54), (1, .inl p1)], [.inl (-1), .inl p1, z_r 58], zW T' G' S18 n, 0, 0) (by decide +kernel) rfl ⟨trivial, rfl, trivial, trivial, trivial⟩ ?_
  refine z_callS M.1 (av := [z_r 58, .inl p1, .inl (-1)]) (st := []) (by decide +kernel) (c_put (zW T' G' S18 n) 58 6 rfl (by decide) p1 (-1)) M.2.1 zl_Flows_42 zs_T_put ⟨by decide, by decide, by decide, by decide⟩ rfl (Nat.le_of_ble_eq_true rfl) (fun v w' hv => ?_)
  obtain ⟨S27, hF27⟩ : ∃ y, zPut S18 58 6 p1 (-1) = y := ⟨_, rfl⟩
  replace hv : v = none ∧ w' = zW T' G' (zPut S18 58 6 p1 (-1)) n := hv
  rw [hF27] at K hv
  try dsimp only [z_let] at K
  obtain ⟨rfl, rfl⟩ := hv
  show z_G X zm_Flows_add (30, [(0, z_r 54), (1, .inl p1)], [], zW T' G' S27 n, 0, 0)
  exact z_vret M (by decide +kernel) rfl (by decide) (by decide) (hQ _ K)

-- TrackHouse$Flows.swap
abbrev rm_Flows_swap_55 : Room := zr 1
def F_Flows_swap_55 (S : (Nat → Nat → Int32)) (p1 : Int32) (p2 : Int32) : (Nat → Nat → Int32) := (z_let (zPut S 55 4 p1 (zAt (S 55) 4 p2)) (fun S13 => (z_let (zPut S13 55 4 p2 (zAt (S 55) 4 p1)) (fun S19 => S19))))
theorem c_Flows_swap_55 (T' : Nat → Nat × Nat) (G' : Nat → Nat → Option Nat) (S : (Nat → Nat → Int32)) (n : Nat) (p1 : Int32) (p2 : Int32) : z_Run rm_Flows_swap_55 zm_Flows_swap [z_r 55, .inl p1, .inl p2] (zW T' G' S n) (zq none (zW T' G' (F_Flows_swap_55 S p1 p2) n)) := by
  refine z_body (by decide) zf_Flows_ok (Nat.le_of_ble_eq_true rfl) (fun X M => ?_)
  obtain ⟨Q, hQ, K⟩ : ∃ Q : (Nat → Nat → Int32) → Prop, (∀ S', Q S' → zq none (zW T' G' (F_Flows_swap_55 S p1 p2) n) none (zW T' G' S' n)) ∧ Q (F_Flows_swap_55 S p1 p2) := ⟨fun o => F_Flows_swap_55 S p1 p2 = o, fun S' h => ⟨rfl, by rw [h]⟩, rfl⟩
  show z_G X zm_Flows_swap (0, [(0, z_r 55), (1, .inl p1), (2, .inl p2)], [], zW T' G' S n, 0, 0)
  unfold F_Flows_swap_55 at K
  refine z_go2 M.1 0 [(.aload_n 0, 1), (.iload_n 1, 1)] (2, [(0, z_r 55), (1, .inl p1), (2, .inl p2)], [.inl p1, z_r 55], zW T' G' S n, 0, 0) (by decide +kernel) rfl ⟨trivial, trivial, trivial⟩ ?_
  refine z_callS M.1 (av := [z_r 55, .inl p1]) (st := []) (by decide +kernel) (c_at (zW T' G' S n) 55 4 rfl (by decide) p1) M.2.1 zl_Flows_34 zs_T_at ⟨by decide, by decide, by decide, by decide⟩ rfl (Nat.le_of_ble_eq_true rfl) (fun v w' hv => ?_)
  obtain ⟨rfl, rfl⟩ := hv
  show z_G X zm_Flows_swap (5, [(0, z_r 55), (1, .inl p1), (2, .inl p2)], [.inl (zAt (S 55) 4 p1)], zW T' G' S n, 0, 0)
  refine z_go2 M.1 5 [(.istore_n 3, 1), (.aload_n 0, 1), (.iload_n 1, 1), (.aload_n 0, 1), (.iload_n 2, 1)] (10, [(3, .inl (zAt (S 55) 4 p1)), (0, z_r 55), (1, .inl p1), (2, .inl p2)], [.inl p2, z_r 55, .inl p1, z_r 55], zW T' G' S n, 0, 0) (by decide +kernel) rfl ⟨trivial, trivial, trivial, trivial, trivial, trivial⟩ ?_
  refine z_callS M.1 (av := [z_r 55, .inl p2]) (st := [.inl p1, z_r 55]) (by decide +kernel) (c_at (zW T' G' S n) 55 4 rfl (by decide) p2) M.2.1 zl_Flows_34 zs_T_at ⟨by decide, by decide, by decide, by decide⟩ rfl (Nat.le_of_ble_eq_true rfl) (fun v w' hv => ?_)
  obtain ⟨rfl, rfl⟩ := hv
  show z_G X zm_Flows_swap (13, [(3, .inl (zAt (S 55) 4 p1)), (0, z_r 55), (1, .inl p1), (2, .inl p2)], [.inl (zAt (S 55) 4 p2), .inl p1, z_r 55], zW T' G' S n, 0, 0)
  refine z_callS M.1 (av := [z_r 55, .inl p1, .inl (zAt (S 55) 4 p2)]) (st := []) (by decide +kernel) (c_put (zW T' G' S n) 55 4 rfl (by decide) p1 (zAt (S 55) 4 p2)) M.2.1 zl_Flows_42 zs_T_put ⟨by decide, by decide, by decide, by decide⟩ rfl (Nat.le_of_ble_eq_true rfl) (fun v w' hv => ?_)
  obtain ⟨S13, hF13⟩ : ∃ y, zPut S 55 4 p1 (zAt (S 55) 4 p2) = y := ⟨_, rfl⟩
  replace hv : v = none ∧ w' = zW T' G' (zPut S 55 4 p1 (zAt (S 55) 4 p2)) n := hv
  rw [hF13] at K hv
  try dsimp only [z_let] at K
  obtain ⟨rfl, rfl⟩ := hv
  show z_G X zm_Flows_swap (16, [(3, .inl (zAt (S 55) 4 p1)), (0, z_r 55), (1, .inl p1), (2, .inl p2)], [], zW T' G' S13 n, 0, 0)
  refine z_go2 M.1 16 [(.aload_n 0, 1), (.iload_n 2, 1), (.iload_n 3, 1)] (19, [(3, .inl (zAt (S 55) 4 p1)), (0, z_r 55), (1, .inl p1), (2, .inl p2)], [.inl (zAt (S 55) 4 p1), .inl p2, z_r 55], zW T' G' S13 n, 0, 0) (by decide +kernel) rfl ⟨trivial, trivial, trivial, trivial⟩ ?_
  refine z_callS M.1 (av := [z_r 55, .inl p2, .inl (zAt (S 55) 4 p1)]) (st := []) (by decide +kernel) (c_put (zW T' G' S13 n) 55 4 rfl (by decide) p2 (zAt (S 55) 4 p1)) M.2.1 zl_Flows_42 zs_T_put ⟨by decide, by decide, by decide, by decide⟩ rfl (Nat.le_of_ble_eq_true rfl) (fun v w' hv => ?_)
  obtain ⟨S19, hF19⟩ : ∃ y, zPut S13 55 4 p2 (zAt (S 55) 4 p1) = y := ⟨_, rfl⟩
  replace hv : v = none ∧ w' = zW T' G' (zPut S13 55 4 p2 (zAt (S 55) 4 p1)) n := hv
  rw [hF19] at K hv
  try dsimp only [z_let] at K
  obtain ⟨rfl, rfl⟩ := hv
  show z_G X zm_Flows_swap (22, [(3, .inl (zAt (S 55) 4 p1)), (0, z_r 55), (1, .inl p1), (2, .inl p2)], [], zW T' G' S19 n, 0, 0)
  exact z_vret M (by decide +kernel) rfl (by decide) (by decide) (hQ _ K)

-- TrackHouse$Flows.swap
abbrev rm_Flows_swap_56 : Room := zr 1
def F_Flows_swap_56 (S : (Nat → Nat → Int32)) (p1 : Int32) (p2 : Int32) : (Nat → Nat → Int32) := (z_let (zPut S 56 4 p1 (zAt (S 56) 4 p2)) (fun S13 => (z_let (zPut S13 56 4 p2 (zAt (S 56) 4 p1)) (fun S19 => S19))))
theorem c_Flows_swap_56 (T' : Nat → Nat × Nat) (G' : Nat → Nat → Option Nat) (S : (Nat → Nat → Int32)) (n : Nat) (p1 : Int32) (p2 : Int32) : z_Run rm_Flows_swap_56 zm_Flows_swap [z_r 56, .inl p1, .inl p2] (zW T' G' S n) (zq none (zW T' G' (F_Flows_swap_56 S p1 p2) n)) := by
  refine z_body (by decide) zf_Flows_ok (Nat.le_of_ble_eq_true rfl) (fun X M => ?_)
  obtain ⟨Q, hQ, K⟩ : ∃ Q : (Nat → Nat → Int32) → Prop, (∀ S', Q S' → zq none (zW T' G' (F_Flows_swap_56 S p1 p2) n) none (zW T' G' S' n)) ∧ Q (F_Flows_swap_56 S p1 p2) := ⟨fun o => F_Flows_swap_56 S p1 p2 = o, fun S' h => ⟨rfl, by rw [h]⟩, rfl⟩
  show z_G X zm_Flows_swap (0, [(0, z_r 56), (1, .inl p1), (2, .inl p2)], [], zW T' G' S n, 0, 0)
  unfold F_Flows_swap_56 at K
  refine z_go2 M.1 0 [(.aload_n 0, 1), (.iload_n 1, 1)] (2, [(0, z_r 56), (1, .inl p1), (2, .inl p2)], [.inl p1, z_r 56], zW T' G' S n, 0, 0) (by decide +kernel) rfl ⟨trivial, trivial, trivial⟩ ?_
  refine z_callS M.1 (av := [z_r 56, .inl p1]) (st := []) (by decide +kernel) (c_at (zW T' G' S n) 56 4 rfl (by decide) p1) M.2.1 zl_Flows_34 zs_T_at ⟨by decide, by decide, by decide, by decide⟩ rfl (Nat.le_of_ble_eq_true rfl) (fun v w' hv => ?_)
  obtain ⟨rfl, rfl⟩ := hv
  show z_G X zm_Flows_swap (5, [(0, z_r 56), (1, .inl p1), (2, .inl p2)], [.inl (zAt (S 56) 4 p1)], zW T' G' S n, 0, 0)
  refine z_go2 M.1 5 [(.istore_n 3, 1), (.aload_n 0, 1), (.iload_n 1, 1), (.aload_n 0, 1), (.iload_n 2, 1)] (10, [(3, .inl (zAt (S 56) 4 p1)), (0, z_r 56), (1, .inl p1), (2, .inl p2)], [.inl p2, z_r 56, .inl p1, z_r 56], zW T' G' S n, 0, 0) (by decide +kernel) rfl ⟨trivial, trivial, trivial, trivial, trivial, trivial⟩ ?_
  refine z_callS M.1 (av := [z_r 56, .inl p2]) (st := [.inl p1, z_r 56]) (by decide +kernel) (c_at (zW T' G' S n) 56 4 rfl (by decide) p2) M.2.1 zl_Flows_34 zs_T_at ⟨by decide, by decide, by decide, by decide⟩ rfl (Nat.le_of_ble_eq_true rfl) (fun v w' hv => ?_)
  obtain ⟨rfl, rfl⟩ := hv
  show z_G X zm_Flows_swap (13, [(3, .inl (zAt (S 56) 4 p1)), (0, z_r 56), (1, .inl p1), (2, .inl p2)], [.inl (zAt (S 56) 4 p2), .inl p1, z_r 56], zW T' G' S n, 0, 0)
  refine z_callS M.1 (av := [z_r 56, .inl p1, .inl (zAt (S 56) 4 p2)]) (st := []) (by decide +kernel) (c_put (zW T' G' S n) 56 4 rfl (by decide) p1 (zAt (S 56) 4 p2)) M.2.1 zl_Flows_42 zs_T_put ⟨by decide, by decide, by decide, by decide⟩ rfl (Nat.le_of_ble_eq_true rfl) (fun v w' hv => ?_)
  obtain ⟨S13, hF13⟩ : ∃ y, zPut S 56 4 p1 (zAt (S 56) 4 p2) = y := ⟨_, rfl⟩
  replace hv : v = none ∧ w' = zW T' G' (zPut S 56 4 p1 (zAt (S 56) 4 p2)) n := hv
  rw [hF13] at K hv
  try dsimp only [z_let] at K
  obtain ⟨rfl, rfl⟩ := hv
  show z_G X zm_Flows_swap (16, [(3, .inl (zAt (S 56) 4 p1)), (0, z_r 56), (1, .inl p1), (2, .inl p2)], [], zW T' G' S13 n, 0, 0)
  refine z_go2 M.1 16 [(.aload_n 0, 1), (.iload_n 2, 1), (.iload_n 3, 1)] (19, [(3, .inl (zAt (S 56) 4 p1)), (0, z_r 56), (1, .inl p1), (2, .inl p2)], [.inl (zAt (S 56) 4 p1), .inl p2, z_r 56], zW T' G' S13 n, 0, 0) (by decide +kernel) rfl ⟨trivial, trivial, trivial, trivial⟩ ?_
  refine z_callS M.1 (av := [z_r 56, .inl p2, .inl (zAt (S 56) 4 p1)]) (st := []) (by decide +kernel) (c_put (zW T' G' S13 n) 56 4 rfl (by decide) p2 (zAt (S 56) 4 p1)) M.2.1 zl_Flows_42 zs_T_put ⟨by decide, by decide, by decide, by decide⟩ rfl (Nat.le_of_ble_eq_true rfl) (fun v w' hv => ?_)
  obtain ⟨S19, hF19⟩ : ∃ y, zPut S13 56 4 p2 (zAt (S 56) 4 p1) = y := ⟨_, rfl⟩
  replace hv : v = none ∧ w' = zW T' G' (zPut S13 56 4 p2 (zAt (S 56) 4 p1)) n := hv
  rw [hF19] at K hv
  try dsimp only [z_let] at K
  obtain ⟨rfl, rfl⟩ := hv
  show z_G X zm_Flows_swap (22, [(3, .inl (zAt (S 56) 4 p1)), (0, z_r 56), (1, .inl p1), (2, .inl p2)], [], zW T' G' S19 n, 0, 0)
  exact z_vret M (by decide +kernel) rfl (by decide) (by decide) (hQ _ K)

-- TrackHouse$Flows.swap
abbrev rm_Flows_swap_57 : Room := zr 1
def F_Flows_swap_57 (S : (Nat → Nat → Int32)) (p1 : Int32) (p2 : Int32) : (Nat → Nat → Int32) := (z_let (zPut S 57 192 p1 (zAt (S 57) 192 p2)) (fun S13 => (z_let (zPut S13 57 192 p2 (zAt (S 57) 192 p1)) (fun S19 => S19))))
theorem c_Flows_swap_57 (T' : Nat → Nat × Nat) (G' : Nat → Nat → Option Nat) (S : (Nat → Nat → Int32)) (n : Nat) (p1 : Int32) (p2 : Int32) : z_Run rm_Flows_swap_57 zm_Flows_swap [z_r 57, .inl p1, .inl p2] (zW T' G' S n) (zq none (zW T' G' (F_Flows_swap_57 S p1 p2) n)) := by
  refine z_body (by decide) zf_Flows_ok (Nat.le_of_ble_eq_true rfl) (fun X M => ?_)
  obtain ⟨Q, hQ, K⟩ : ∃ Q : (Nat → Nat → Int32) → Prop, (∀ S', Q S' → zq none (zW T' G' (F_Flows_swap_57 S p1 p2) n) none (zW T' G' S' n)) ∧ Q (F_Flows_swap_57 S p1 p2) := ⟨fun o => F_Flows_swap_57 S p1 p2 = o, fun S' h => ⟨rfl, by rw [h]⟩, rfl⟩
  show z_G X zm_Flows_swap (0, [(0, z_r 57), (1, .inl p1), (2, .inl p2)], [], zW T' G' S n, 0, 0)
  unfold F_Flows_swap_57 at K
  refine z_go2 M.1 0 [(.aload_n 0, 1), (.iload_n 1, 1)] (2, [(0, z_r 57), (1, .inl p1), (2, .inl p2)], [.inl p1, z_r 57], zW T' G' S n, 0, 0) (by decide +kernel) rfl ⟨trivial, trivial, trivial⟩ ?_
  refine z_callS M.1 (av := [z_r 57, .inl p1]) (st := []) (by decide +kernel) (c_at (zW T' G' S n) 57 192 rfl (by decide) p1) M.2.1 zl_Flows_34 zs_T_at ⟨by decide, by decide, by decide, by decide⟩ rfl (Nat.le_of_ble_eq_true rfl) (fun v w' hv => ?_)
  obtain ⟨rfl, rfl⟩ := hv
  show z_G X zm_Flows_swap (5, [(0, z_r 57), (1, .inl p1), (2, .inl p2)], [.inl (zAt (S 57) 192 p1)], zW T' G' S n, 0, 0)
  refine z_go2 M.1 5 [(.istore_n 3, 1), (.aload_n 0, 1), (.iload_n 1, 1), (.aload_n 0, 1), (.iload_n 2, 1)] (10, [(3, .inl (zAt (S 57) 192 p1)), (0, z_r 57), (1, .inl p1), (2, .inl p2)], [.inl p2, z_r 57, .inl p1, z_r 57], zW T' G' S n, 0, 0) (by decide +kernel) rfl ⟨trivial, trivial, trivial, trivial, trivial, trivial⟩ ?_
  refine z_callS M.1 (av := [z_r 57, .inl p2]) (st := [.inl p1, z_r 57]) (by decide +kernel) (c_at (zW T' G' S n) 57 192 rfl (by decide) p2) M.2.1 zl_Flows_34 zs_T_at ⟨by decide, by decide, by decide, by decide⟩ rfl (Nat.le_of_ble_eq_true rfl) (fun v w' hv => ?_)
  obtain ⟨rfl, rfl⟩ := hv
  show z_G X zm_Flows_swap (13, [(3, .inl (zAt (S 57) 192 p1)), (0, z_r 57), (1, .inl p1), (2, .inl p2)], [.inl (zAt (S 57) 192 p2), .inl p1, z_r 57], zW T' G' S n, 0, 0)
  refine z_callS M.1 (av := [z_r 57, .inl p1, .inl (zAt (S 57) 192 p2)]) (st := []) (by decide +kernel) (c_put (zW T' G' S n) 57 192 rfl (by decide) p1 (zAt (S 57) 192 p2)) M.2.1 zl_Flows_42 zs_T_put ⟨by decide, by decide, by decide, by decide⟩ rfl (Nat.le_of_ble_eq_true rfl) (fun v w' hv => ?_)
  obtain ⟨S13, hF13⟩ : ∃ y, zPut S 57 192 p1 (zAt (S 57) 192 p2) = y := ⟨_, rfl⟩
  replace hv : v = none ∧ w' = zW T' G' (zPut S 57 192 p1 (zAt (S 57) 192 p2)) n := hv
  rw [hF13] at K hv
  try dsimp only [z_let] at K
  obtain ⟨rfl, rfl⟩ := hv
  show z_G X zm_Flows_swap (16, [(3, .inl (zAt (S 57) 192 p1)), (0, z_r 57), (1, .inl p1), (2, .inl p2)], [], zW T' G' S13 n, 0, 0)
  refine z_go2 M.1 16 [(.aload_n 0, 1), (.iload_n 2, 1), (.iload_n 3, 1)] (19, [(3, .inl (zAt (S 57) 192 p1)), (0, z_r 57), (1, .inl p1), (2, .inl p2)], [.inl (zAt (S 57) 192 p1), .inl p2, z_r 57], zW T' G' S13 n, 0, 0) (by decide +kernel) rfl ⟨trivial, trivial, trivial, trivial⟩ ?_
  refine z_callS M.1 (av := [z_r 57, .inl p2, .inl (zAt (S 57) 192 p1)]) (st := []) (by decide +kernel) (c_put (zW T' G' S13 n) 57 192 rfl (by decide) p2 (zAt (S 57) 192 p1)) M.2.1 zl_Flows_42 zs_T_put ⟨by decide, by decide, by decide, by decide⟩ rfl (Nat.le_of_ble_eq_true rfl) (fun v w' hv => ?_)
  obtain ⟨S19, hF19⟩ : ∃ y, zPut S13 57 192 p2 (zAt (S 57) 192 p1) = y := ⟨_, rfl⟩
  replace hv : v = none ∧ w' = zW T' G' (zPut S13 57 192 p2 (zAt (S 57) 192 p1)) n := hv
  rw [hF19] at K hv
  try dsimp only [z_let] at K
  obtain ⟨rfl, rfl⟩ := hv
  show z_G X zm_Flows_swap (22, [(3, .inl (zAt (S 57) 192 p1)), (0, z_r 57), (1, .inl p1), (2, .inl p2)], [], zW T' G' S19 n, 0, 0)
  exact z_vret M (by decide +kernel) rfl (by decide) (by decide) (hQ _ K)

-- TrackHouse$Flows.setEnds
abbrev rm_Flows_setEnds : Room := zr 2
def F_Flows_setEnds (S : (Nat → Nat → Int32)) (p1 : Int32) (p2 : Int32) (p3 : Int32) : (Nat → Nat → Int32) := (z_let (F_Flows_setPart S p1 0 p2) (fun S4 => (z_let (F_Flows_setPart S4 p1 1 p3) (fun S11 => S11))))
theorem c_Flows_setEnds (T' : Nat → Nat × Nat) (G' : Nat → Nat → Option Nat) (S : (Nat → Nat → Int32)) (n : Nat) (p1 : Int32) (p2 : Int32) (p3 : Int32) : z_Run rm_Flows_setEnds zm_Flows_setEnds [z_r 54, .inl p1, .inl p2, .inl p3] (zW T' G' S n) (zq none (zW T' G' (F_Flows_setEnds S p1 p2 p3) n)) := by
  refine z_body (by decide) zf_Flows_ok (Nat.le_of_ble_eq_true rfl) (fun X M => ?_)
  obtain ⟨Q, hQ, K⟩ : ∃ Q : (Nat → Nat → Int32) → Prop, (∀ S', Q S' → zq none (zW T' G' (F_Flows_setEnds S p1 p2 p3) n) none (zW T' G' S' n)) ∧ Q (F_Flows_setEnds S p1 p2 p3) := ⟨fun o => F_Flows_setEnds S p1 p2 p3 = o, fun S' h => ⟨rfl, by rw [h]⟩, rfl⟩
  show z_G X zm_Flows_setEnds (0, [(0, z_r 54), (1, .inl p1), (2, .inl p2), (3, .inl p3)], [], zW T' G' S n, 0, 0)
  unfold F_Flows_setEnds at K
  refine z_go2 M.1 0 [(.aload_n 0, 1), (.iload_n 1, 1), (.iconst 0, 1), (.iload_n 2, 1)] (4, [(0, z_r 54), (1, .inl p1), (2, .inl p2), (3, .inl p3)], [.inl p2, .inl 0, .inl p1, z_r 54], zW T' G' S n, 0, 0) (by decide +kernel) rfl ⟨trivial, trivial, trivial, trivial, trivial⟩ ?_
  refine z_callV M.1 (av := [.inl p1, .inl 0, .inl p2]) (st := []) (a := 54) (ci := 2) (by decide +kernel) (c_Flows_setPart T' G' S n p1 0 p2) M.2.1 zl_Flows_46 zv_Flows_setPart rfl rfl rfl ⟨by decide, by decide, by decide, by decide⟩ rfl (Nat.le_of_ble_eq_true rfl) (fun v w' hv => ?_)
  obtain ⟨S4, hF4⟩ : ∃ y, F_Flows_setPart S p1 0 p2 = y := ⟨_, rfl⟩
  rw [hF4] at K hv
  try dsimp only [z_let] at K
  obtain ⟨rfl, rfl⟩ := hv
  show z_G X zm_Flows_setEnds (7, [(0, z_r 54), (1, .inl p1), (2, .inl p2), (3, .inl p3)], [], zW T' G' S4 n, 0, 0)
  refine z_go2 M.1 7 [(.aload_n 0, 1), (.iload_n 1, 1), (.iconst 1, 1), (.iload_n 3, 1)] (11, [(0, z_r 54), (1, .inl p1), (2, .inl p2), (3, .inl p3)], [.inl p3, .inl 1, .inl p1, z_r 54], zW T' G' S4 n, 0, 0) (by decide +kernel) rfl ⟨trivial, trivial, trivial, trivial, trivial⟩ ?_
  refine z_callV M.1 (av := [.inl p1, .inl 1, .inl p3]) (st := []) (a := 54) (ci := 2) (by decide +kernel) (c_Flows_setPart T' G' S4 n p1 1 p3) M.2.1 zl_Flows_46 zv_Flows_setPart rfl rfl rfl ⟨by decide, by decide, by decide, by decide⟩ rfl (Nat.le_of_ble_eq_true rfl) (fun v w' hv => ?_)
  obtain ⟨S11, hF11⟩ : ∃ y, F_Flows_setPart S4 p1 1 p3 = y := ⟨_, rfl⟩
  rw [hF11] at K hv
  try dsimp only [z_let] at K
  obtain ⟨rfl, rfl⟩ := hv
  show z_G X zm_Flows_setEnds (14, [(0, z_r 54), (1, .inl p1), (2, .inl p2), (3, .inl p3)], [], zW T' G' S11 n, 0, 0)
  exact z_vret M (by decide +kernel) rfl (by decide) (by decide) (hQ _ K)

-- TrackHouse$Flows.setTerms
abbrev rm_Flows_setTerms : Room := zr 2
def F_Flows_setTerms (S : (Nat → Nat → Int32)) (p1 : Int32) (p2 : Int32) (p3 : Int32) (p4 : Int32) (p5 : Int32) : (Nat → Nat → Int32) := (z_let (F_Flows_setPart S p1 2 p2) (fun S4 => (z_let (F_Flows_setPart S4 p1 3 p3) (fun S11 => (z_let (F_Flows_setPart S11 p1 4 p4) (fun S19 => (z_let (F_Flows_setPart S19 p1 5 p5) (fun S27 => S27))))))))
theorem c_Flows_setTerms (T' : Nat → Nat × Nat) (G' : Nat → Nat → Option Nat) (S : (Nat → Nat → Int32)) (n : Nat) (p1 : Int32) (p2 : Int32) (p3 : Int32) (p4 : Int32) (p5 : Int32) : z_Run rm_Flows_setTerms zm_Flows_setTerms [z_r 54, .inl p1, .inl p2, .inl p3, .inl p4, .inl p5] (zW T' G' S n) (zq none (zW T' G' (F_Flows_setTerms S p1 p2 p3 p4 p5) n)) := by
  refine z_body (by decide) zf_Flows_ok (Nat.le_of_ble_eq_true rfl) (fun X M => ?_)
  obtain ⟨Q, hQ, K⟩ : ∃ Q : (Nat → Nat → Int32) → Prop, (∀ S', Q S' → zq none (zW T' G' (F_Flows_setTerms S p1 p2 p3 p4 p5) n) none (zW T' G' S' n)) ∧ Q (F_Flows_setTerms S p1 p2 p3 p4 p5) := ⟨fun o => F_Flows_setTerms S p1 p2 p3 p4 p5 = o, fun S' h => ⟨rfl, by rw [h]⟩, rfl⟩
  show z_G X zm_Flows_setTerms (0, [(0, z_r 54), (1, .inl p1), (2, .inl p2), (3, .inl p3), (4, .inl p4), (5, .inl p5)], [], zW T' G' S n, 0, 0)
  unfold F_Flows_setTerms at K
  refine z_go2 M.1 0 [(.aload_n 0, 1), (.iload_n 1, 1), (.iconst 2, 1), (.iload_n 2, 1)] (4, [(0, z_r 54), (1, .inl p1), (2, .inl p2), (3, .inl p3), (4, .inl p4), (5, .inl p5)], [.inl p2, .inl 2, .inl p1, z_r 54], zW T' G' S n, 0, 0) (by decide +kernel) rfl ⟨trivial, trivial, trivial, trivial, trivial⟩ ?_
  refine z_callV M.1 (av := [.inl p1, .inl 2, .inl p2]) (st := []) (a := 54) (ci := 2) (by decide +kernel) (c_Flows_setPart T' G' S n p1 2 p2) M.2.1 zl_Flows_46 zv_Flows_setPart rfl rfl rfl ⟨by decide, by decide, by decide, by decide⟩ rfl (Nat.le_of_ble_eq_true rfl) (fun v w' hv => ?_)
  obtain ⟨S4, hF4⟩ : ∃ y, F_Flows_setPart S p1 2 p2 = y := ⟨_, rfl⟩
  rw [hF4] at K hv
  try dsimp only [z_let] at K
  obtain ⟨rfl, rfl⟩ := hv
  show z_G X zm_Flows_setTerms (7, [(0, z_r 54), (1, .inl p1), (2, .inl p2), (3, .inl p3), (4, .inl p4), (5, .inl p5)], [], zW T' G' S4 n, 0, 0)
  refine z_go2 M.1 7 [(.aload_n 0, 1), (.iload_n 1, 1), (.iconst 3, 1), (.iload_n 3, 1)] (11, [(0, z_r 54), (1, .inl p1), (2, .inl p2), (3, .inl p3), (4, .inl p4), (5, .inl p5)], [.inl p3, .inl 3, .inl p1, z_r 54], zW T' G' S4 n, 0, 0) (by decide +kernel) rfl ⟨trivial, trivial, trivial, trivial, trivial⟩ ?_
  refine z_callV M.1 (av := [.inl p1, .inl 3, .inl p3]) (st := []) (a := 54) (ci := 2) (by decide +kernel) (c_Flows_setPart T' G' S4 n p1 3 p3) M.2.1 zl_Flows_46 zv_Flows_setPart rfl rfl rfl ⟨by decide, by decide, by decide, by decide⟩ rfl (Nat.le_of_ble_eq_true rfl) (fun v w' hv => ?_)
  obtain ⟨S11, hF11⟩ : ∃ y, F_Flows_setPart S4 p1 3 p3 = y := ⟨_, rfl⟩
  rw [hF11] at K hv
  try dsimp only [z_let] at K
  obtain ⟨rfl, rfl⟩ := hv
  show z_G X zm_Flows_setTerms (14, [(0, z_r 54), (1, .inl p1), (2, .inl p2), (3, .inl p3), (4, .inl p4), (5, .inl p5)], [], zW T' G' S11 n, 0, 0)
  refine z_go2 M.1 14 [(.aload_n 0, 1), (.iload_n 1, 1), (.iconst 4, 1), (.iload 4, 2)] (19, [(0, z_r 54), (1, .inl p1), (2, .inl p2), (3, .inl p3), (4, .inl p4), (5, .inl p5)], [.inl p4, .inl 4, .inl p1, z_r 54], zW T' G' S11 n, 0, 0) (by decide +kernel) rfl ⟨trivial, trivial, trivial, trivial, trivial⟩ ?_
  refine z_callV M.1 (av := [.inl p1, .inl 4, .inl p4]) (st := []) (a := 54) (ci := 2) (by decide +kernel) (c_Flows_setPart T' G' S11 n p1 4 p4) M.2.1 zl_Flows_46 zv_Flows_setPart rfl rfl rfl ⟨by decide, by decide, by decide, by decide⟩ rfl (Nat.le_of_ble_eq_true rfl) (fun v w' hv => ?_)
  obtain ⟨S19, hF19⟩ : ∃ y, F_Flows_setPart S11 p1 4 p4 = y := ⟨_, rfl⟩
  rw [hF19] at K hv
  try dsimp only [z_let] at K
  obtain ⟨rfl, rfl⟩ := hv
  show z_G X zm_Flows_setTerms (22, [(0, z_r 54), (1, .inl p1), (2, .inl p2), (3, .inl p3), (4, .inl p4), (5, .inl p5)], [], zW T' G' S19 n, 0, 0)
  refine z_go2 M.1 22 [(.aload_n 0, 1), (.iload_n 1, 1), (.iconst 5, 1), (.iload 5, 2)] (27, [(0, z_r 54), (1, .inl p1), (2, .inl p2), (3, .inl p3), (4, .inl p4), (5, .inl p5)], [.inl p5, .inl 5, .inl p1, z_r 54], zW T' G' S19 n, 0, 0) (by decide +kernel) rfl ⟨trivial, trivial, trivial, trivial, trivial⟩ ?_
  refine z_callV M.1 (av := [.inl p1, .inl 5, .inl p5]) (st := []) (a := 54) (ci := 2) (by decide +kernel) (c_Flows_setPart T' G' S19 n p1 5 p5) M.2.1 zl_Flows_46 zv_Flows_setPart rfl rfl rfl ⟨by decide, by decide, by decide, by decide⟩ rfl (Nat.le_of_ble_eq_true rfl) (fun v w' hv => ?_)
  obtain ⟨S27, hF27⟩ : ∃ y, F_Flows_setPart S19 p1 5 p5 = y := ⟨_, rfl⟩
  rw [hF27] at K hv
  try dsimp only [z_let] at K
  obtain ⟨rfl, rfl⟩ := hv
  show z_G X zm_Flows_setTerms (30, [(0, z_r 54), (1, .inl p1), (2, .inl p2), (3, .inl p3), (4, .inl p4), (5, .inl p5)], [], zW T' G' S27 n, 0, 0)
  exact z_vret M (by decide +kernel) rfl (by decide) (by decide) (hQ _ K)

-- TrackHouse$Flows.mappedFrom
abbrev rm_Flows_mappedFrom : Room := zr 2
def F_Flows_mappedFrom_L4 (S : (Nat → Nat → Int32)) : Nat → Int32 → Int32 → (Int32)
  | 0, x2, x3 => x2
  | f + 1, x2, x3 => (if (6 : Int32) ≤ x3 then x2 else (if (F_Flows_has S 3 x2) = 0 then ((F_Flows_mappedFrom_L4 S f) (zAt (S 58) 6 x2) (x3 + 1)) else x2))
def Sf_Flows_mappedFrom_L4 (S : (Nat → Nat → Int32)) : Nat → Int32 → Int32 → Prop
  | 0, _, _ => False
  | f + 1, x2, x3 => (if (6 : Int32) ≤ x3 then True else (Sf_Flows_has S 3 x2 ∧ (if (F_Flows_has S 3 x2) = 0 then ((Sf_Flows_mappedFrom_L4 S f) (zAt (S 58) 6 x2) (x3 + 1)) else True)))
theorem t_Flows_mappedFrom_L4 {X : z_X} {Post : Option z_V → z_W → Prop} (M : z_M X zm_Flows_mappedFrom rm_Flows_mappedFrom Post) {T' : Nat → Nat × Nat} {G' : Nat → Nat → Option Nat} {n : Nat} {Q : (Int32) → Prop} (S : (Nat → Nat → Int32))  (hE : ∀ (y2 : Int32), Q y2 → z_G X zm_Flows_mappedFrom (34, [(2, .inl y2)], [], zW T' G' S n, 0, 0)) (f : Nat) : ∀ (x2 : Int32) (x3 : Int32), Q (F_Flows_mappedFrom_L4 S f x2 x3) → Sf_Flows_mappedFrom_L4 S f x2 x3 → z_G X zm_Flows_mappedFrom (4, [(0, z_r 54), (2, .inl x2), (3, .inl x3)], [], zW T' G' S n, 0, 0) := by
  induction f with
  | zero => intro x2 x3 K hs; exact False.elim hs
  | succ f hC =>
    intro x2 x3 K hs
    rw [F_Flows_mappedFrom_L4] at K
    rw [Sf_Flows_mappedFrom_L4] at hs
    refine z_go2 M.1 4 [(.iload_n 3, 1), (.bipush 6, 2)] (7, [(0, z_r 54), (2, .inl x2), (3, .inl x3)], [.inl 6, .inl x3], zW T' G' S n, 0, 0) (by decide +kernel) rfl ⟨trivial, trivial, trivial⟩ ?_
    refine z_icmp_ge 34 M.1 (off := 27) (by decide +kernel) (by decide) (fun c7 => ?_) (fun c7 => ?_)
    · rw [if_pos c7] at K hs
      exact z_lvs (lv' := [(2, .inl x2)]) [1] rfl (hE x2 K)
    · rw [if_neg c7] at K hs
      refine z_go2 M.1 10 [(.aload_n 0, 1), (.iconst 3, 1), (.iload_n 2, 1)] (13, [(0, z_r 54), (2, .inl x2), (3, .inl x3)], [.inl x2, .inl 3, z_r 54], zW T' G' S n, 0, 0) (by decide +kernel) rfl ⟨trivial, trivial, trivial, trivial⟩ ?_
      refine z_callV M.1 (av := [.inl 3, .inl x2]) (st := []) (a := 54) (ci := 2) (by decide +kernel) (c_Flows_has T' G' S n 3 x2 hs.1) M.2.1 zl_Flows_58 zv_Flows_has rfl rfl rfl ⟨by decide, by decide, by decide, by decide⟩ rfl (Nat.le_of_ble_eq_true rfl) (fun v w' hv => ?_)
      obtain ⟨rfl, rfl⟩ := hv
      replace hs := hs.2
      show z_G X zm_Flows_mappedFrom (16, [(0, z_r 54), (2, .inl x2), (3, .inl x3)], [.inl (F_Flows_has S 3 x2)], zW T' G' S n, 0, 0)
      refine z_if_ne 34 M.1 (off := 18) (by decide +kernel) (by decide) (fun c16 => ?_) (fun c16 => ?_)
      · rw [if_neg c16] at K hs
        exact z_lvs (lv' := [(2, .inl x2)]) [1] rfl (hE x2 K)
      · rw [if_pos c16] at K hs
        refine z_go2 M.1 19 [(.aload_n 0, 1), (.getfield 21, 3), (.iload_n 2, 1)] (24, [(0, z_r 54), (2, .inl x2), (3, .inl x3)], [.inl x2, z_r 58], zW T' G' S n, 0, 0) (by decide +kernel) rfl ⟨trivial, rfl, trivial, trivial⟩ ?_
        refine z_callS M.1 (av := [z_r 58, .inl x2]) (st := []) (by decide +kernel) (c_at (zW T' G' S n) 58 6 rfl (by decide) x2) M.2.1 zl_Flows_34 zs_T_at ⟨by decide, by decide, by decide, by decide⟩ rfl (Nat.le_of_ble_eq_true rfl) (fun v w' hv => ?_)
        obtain ⟨rfl, rfl⟩ := hv
        show z_G X zm_Flows_mappedFrom (27, [(0, z_r 54), (2, .inl x2), (3, .inl x3)], [.inl (zAt (S 58) 6 x2)], zW T' G' S n, 0, 0)
        refine z_go2 M.1 27 [(.istore_n 2, 1), (.iinc 3 1, 3), (.goto (-27), 3)] (4, [(3, .inl (x3 + 1)), (2, .inl (zAt (S 58) 6 x2)), (0, z_r 54)], [], zW T' G' S n, 0, 0) (by decide +kernel) rfl ⟨trivial, trivial, trivial, trivial⟩ ?_
        exact z_lvs (lv' := [(0, z_r 54), (2, .inl (zAt (S 58) 6 x2)), (3, .inl (x3 + 1))]) [2, 1, 0] rfl (hC (zAt (S 58) 6 x2) (x3 + 1) K hs)
def F_Flows_mappedFrom (S : (Nat → Nat → Int32)) (p1 : Int32) : Int32 := (match F_Flows_mappedFrom_L4 S 1300 p1 0 with | y2_4 => y2_4)
def Sf_Flows_mappedFrom (S : (Nat → Nat → Int32)) (p1 : Int32) : Prop := (Sf_Flows_mappedFrom_L4 S 1300 p1 0 ∧ True)
theorem c_Flows_mappedFrom (T' : Nat → Nat × Nat) (G' : Nat → Nat → Option Nat) (S : (Nat → Nat → Int32)) (n : Nat) (p1 : Int32) (hs : Sf_Flows_mappedFrom S p1) : z_Run rm_Flows_mappedFrom zm_Flows_mappedFrom [z_r 54, .inl p1] (zW T' G' S n) (zq (some (.inl (F_Flows_mappedFrom S p1))) (zW T' G' S n)) := by
  refine z_body (by decide) zf_Flows_ok (Nat.le_of_ble_eq_true rfl) (fun X M => ?_)
  obtain ⟨Q, hQ, K⟩ : ∃ Q : Int32 → Prop, (∀ v, Q v → zq (some (.inl (F_Flows_mappedFrom S p1))) (zW T' G' S n) (some (.inl v)) (zW T' G' S n)) ∧ Q (F_Flows_mappedFrom S p1) := ⟨fun o => F_Flows_mappedFrom S p1 = o, fun v h => ⟨by rw [h], rfl⟩, rfl⟩
  show z_G X zm_Flows_mappedFrom (0, [(0, z_r 54), (1, .inl p1)], [], zW T' G' S n, 0, 0)
  unfold F_Flows_mappedFrom at K
  unfold Sf_Flows_mappedFrom at hs
  refine z_go2 M.1 0 [(.iload_n 1, 1), (.istore_n 2, 1), (.iconst 0, 1), (.istore_n 3, 1)] (4, [(3, .inl 0), (2, .inl p1), (0, z_r 54), (1, .inl p1)], [], zW T' G' S n, 0, 0) (by decide +kernel) rfl ⟨trivial, trivial, trivial, trivial, trivial⟩ ?_
  refine z_lvs (lv' := [(0, z_r 54), (2, .inl p1), (3, .inl 0)]) [2, 1, 0] rfl ?_
  refine t_Flows_mappedFrom_L4 M (Q := fun o => F_Flows_mappedFrom_L4 S 1300 p1 0 = o) S (fun y2_4 hL4 => ?_) 1300 p1 0 rfl hs.1
  replace hs := hs.2
  rw [hL4] at K
  try dsimp only at K
  refine z_go2 M.1 34 [(.iload_n 2, 1)] (35, [(2, .inl y2_4)], [.inl y2_4], zW T' G' S n, 0, 0) (by decide +kernel) rfl ⟨trivial, trivial⟩ ?_
  exact z_iret M (by decide +kernel) .int rfl rfl (by decide) (by decide) (hQ _ K)

-- TrackHouse$Flows.exchange
abbrev rm_Flows_exchange : Room := zr 2
def F_Flows_exchange_L20 (x1 : Int32) : Nat → (Nat → Nat → Int32) → Int32 → ((Nat → Nat → Int32))
  | 0, S, x2 => S
  | f + 1, S, x2 => (if (48 : Int32) ≤ x2 then S else (z_let (F_Flows_swap_57 S ((144 : Int32) + x2) (((x1 * 8) * 6) + x2)) (fun S44 => ((F_Flows_exchange_L20 x1 f) S44 (x2 + 1)))))
def Sf_Flows_exchange_L20 (x1 : Int32) : Nat → (Nat → Nat → Int32) → Int32 → Prop
  | 0, _, _ => False
  | f + 1, S, x2 => (if (48 : Int32) ≤ x2 then True else (z_let (F_Flows_swap_57 S ((144 : Int32) + x2) (((x1 * 8) * 6) + x2)) (fun S44 => ((Sf_Flows_exchange_L20 x1 f) S44 (x2 + 1)))))
theorem t_Flows_exchange_L20 {X : z_X} {Post : Option z_V → z_W → Prop} (M : z_M X zm_Flows_exchange rm_Flows_exchange Post) {T' : Nat → Nat × Nat} {G' : Nat → Nat → Option Nat} {n : Nat} {Q : ((Nat → Nat → Int32)) → Prop}  (x1 : Int32) (hE : ∀ (S' : (Nat → Nat → Int32)), Q S' → z_G X zm_Flows_exchange (53, [], [], zW T' G' S' n, 0, 0)) (f : Nat) : ∀ (S : (Nat → Nat → Int32)) (x2 : Int32), Q (F_Flows_exchange_L20 x1 f S x2) → Sf_Flows_exchange_L20 x1 f S x2 → z_G X zm_Flows_exchange (20, [(0, z_r 54), (1, .inl x1), (2, .inl x2)], [], zW T' G' S n, 0, 0) := by
  induction f with
  | zero => intro S x2 K hs; exact False.elim hs
  | succ f hC =>
    intro S x2 K hs
    rw [F_Flows_exchange_L20] at K
    rw [Sf_Flows_exchange_L20] at hs
    refine z_go2 M.1 20 [(.iload_n 2, 1), (.bipush 48, 2)] (23, [(0, z_r 54), (1, .inl x1), (2, .inl x2)], [.inl 48, .inl x2], zW T' G' S n, 0, 0) (by decide +kernel) rfl ⟨trivial, trivial, trivial⟩ ?_
    refine z_icmp_ge 53 M.1 (off := 30) (by decide +kernel) (by decide) (fun c23 => ?_) (fun c23 => ?_)
    · rw [if_pos c23] at K hs
      exact z_lvs (lv' := []) [] rfl (hE S K)
    · rw [if_neg c23] at K hs
      refine z_go2 M.1 26 [(.aload_n 0, 1), (.getfield 18, 3), (.sipush 144, 3), (.iload_n 2, 1), (.iadd, 1), (.iload_n 1, 1), (.bipush 8, 2), (.imul, 1), (.bipush 6, 2), (.imul, 1), (.iload_n 2, 1), (.iadd, 1)] (44, [(0, z_r 54), (1, .inl x1), (2, .inl x2)], [.inl (((x1 * 8) * 6) + x2), .inl ((144 : Int32) + x2), z_r 57], zW T' G' S n, 0, 0) (by decide +kernel) rfl ⟨trivial, rfl, trivial, trivial, trivial, trivial, trivial, trivial, trivial, trivial, trivial, trivial, trivial⟩ ?_
      refine z_callS M.1 (av := [z_r 57, .inl ((144 : Int32) + x2), .inl (((x1 * 8) * 6) + x2)]) (st := []) (by decide +kernel) (c_Flows_swap_57 T' G' S n ((144 : Int32) + x2) (((x1 * 8) * 6) + x2)) M.2.1 zl_Flows_61 zs_Flows_swap ⟨by decide, by decide, by decide, by decide⟩ rfl (Nat.le_of_ble_eq_true rfl) (fun v w' hv => ?_)
      obtain ⟨S44, hF44⟩ : ∃ y, F_Flows_swap_57 S ((144 : Int32) + x2) (((x1 * 8) * 6) + x2) = y := ⟨_, rfl⟩
      rw [hF44] at K hv
      try rw [hF44] at hs
      try dsimp only [z_let] at K hs
      obtain ⟨rfl, rfl⟩ := hv
      show z_G X zm_Flows_exchange (47, [(0, z_r 54), (1, .inl x1), (2, .inl x2)], [], zW T' G' S44 n, 0, 0)
      refine z_go2 M.1 47 [(.iinc 2 1, 3), (.goto (-30), 3)] (20, [(2, .inl (x2 + 1)), (0, z_r 54), (1, .inl x1)], [], zW T' G' S44 n, 0, 0) (by decide +kernel) rfl ⟨trivial, trivial, trivial⟩ ?_
      exact z_lvs (lv' := [(0, z_r 54), (1, .inl x1), (2, .inl (x2 + 1))]) [1, 2, 0] rfl (hC S44 (x2 + 1) K hs)
def F_Flows_exchange (S : (Nat → Nat → Int32)) (p1 : Int32) : (Nat → Nat → Int32) := (z_let (F_Flows_swap_55 S 3 p1) (fun S6 => (z_let (F_Flows_swap_56 S6 3 p1) (fun S15 => (match F_Flows_exchange_L20 p1 1300 S15 0 with | S20 => S20)))))
def Sf_Flows_exchange (S : (Nat → Nat → Int32)) (p1 : Int32) : Prop := (z_let (F_Flows_swap_55 S 3 p1) (fun S6 => (z_let (F_Flows_swap_56 S6 3 p1) (fun S15 => (Sf_Flows_exchange_L20 p1 1300 S15 0 ∧ True)))))
theorem c_Flows_exchange (T' : Nat → Nat × Nat) (G' : Nat → Nat → Option Nat) (S : (Nat → Nat → Int32)) (n : Nat) (p1 : Int32) (hs : Sf_Flows_exchange S p1) : z_Run rm_Flows_exchange zm_Flows_exchange [z_r 54, .inl p1] (zW T' G' S n) (zq none (zW T' G' (F_Flows_exchange S p1) n)) := by
  refine z_body (by decide) zf_Flows_ok (Nat.le_of_ble_eq_true rfl) (fun X M => ?_)
  obtain ⟨Q, hQ, K⟩ : ∃ Q : (Nat → Nat → Int32) → Prop, (∀ S', Q S' → zq none (zW T' G' (F_Flows_exchange S p1) n) none (zW T' G' S' n)) ∧ Q (F_Flows_exchange S p1) := ⟨fun o => F_Flows_exchange S p1 = o, fun S' h => ⟨rfl, by rw [h]⟩, rfl⟩
  show z_G X zm_Flows_exchange (0, [(0, z_r 54), (1, .inl p1)], [], zW T' G' S n, 0, 0)
  unfold F_Flows_exchange at K
  unfold Sf_Flows_exchange at hs
  refine z_go2 M.1 0 [(.aload_n 0, 1), (.getfield 9, 3), (.iconst 3, 1), (.iload_n 1, 1)] (6, [(0, z_r 54), (1, .inl p1)], [.inl p1, .inl 3, z_r 55], zW T' G' S n, 0, 0) (by decide +kernel) rfl ⟨trivial, rfl, trivial, trivial, trivial⟩ ?_
  refine z_callS M.1 (av := [z_r 55, .inl 3, .inl p1]) (st := []) (by decide +kernel) (c_Flows_swap_55 T' G' S n 3 p1) M.2.1 zl_Flows_61 zs_Flows_swap ⟨by decide, by decide, by decide, by decide⟩ rfl (Nat.le_of_ble_eq_true rfl) (fun v w' hv => ?_)
  obtain ⟨S6, hF6⟩ : ∃ y, F_Flows_swap_55 S 3 p1 = y := ⟨_, rfl⟩
  rw [hF6] at K hv
  try rw [hF6] at hs
  try dsimp only [z_let] at K hs
  obtain ⟨rfl, rfl⟩ := hv
  show z_G X zm_Flows_exchange (9, [(0, z_r 54), (1, .inl p1)], [], zW T' G' S6 n, 0, 0)
  refine z_go2 M.1 9 [(.aload_n 0, 1), (.getfield 15, 3), (.iconst 3, 1), (.iload_n 1, 1)] (15, [(0, z_r 54), (1, .inl p1)], [.inl p1, .inl 3, z_r 56], zW T' G' S6 n, 0, 0) (by decide +kernel) rfl ⟨trivial, rfl, trivial, trivial, trivial⟩ ?_
  refine z_callS M.1 (av := [z_r 56, .inl 3, .inl p1]) (st := []) (by decide +kernel) (c_Flows_swap_56 T' G' S6 n 3 p1) M.2.1 zl_Flows_61 zs_Flows_swap ⟨by decide, by decide, by decide, by decide⟩ rfl (Nat.le_of_ble_eq_true rfl) (fun v w' hv => ?_)
  obtain ⟨S15, hF15⟩ : ∃ y, F_Flows_swap_56 S6 3 p1 = y := ⟨_, rfl⟩
  rw [hF15] at K hv
  try rw [hF15] at hs
  try dsimp only [z_let] at K hs
  obtain ⟨rfl, rfl⟩ := hv
  show z_G X zm_Flows_exchange (18, [(0, z_r 54), (1, .inl p1)], [], zW T' G' S15 n, 0, 0)
  refine z_go2 M.1 18 [(.iconst 0, 1), (.istore_n 2, 1)] (20, [(2, .inl 0), (0, z_r 54), (1, .inl p1)], [], zW T' G' S15 n, 0, 0) (by decide +kernel) rfl ⟨trivial, trivial, trivial⟩ ?_
  refine z_lvs (lv' := [(0, z_r 54), (1, .inl p1), (2, .inl 0)]) [1, 2, 0] rfl ?_
  refine t_Flows_exchange_L20 M (Q := fun o => F_Flows_exchange_L20 p1 1300 S15 0 = o) p1 (fun S20 hL20 => ?_) 1300 S15 0 rfl hs.1
  replace hs := hs.2
  rw [hL20] at K
  try dsimp only at K
  exact z_vret M (by decide +kernel) rfl (by decide) (by decide) (hQ _ K)

-- TrackHouse$Ranks.append
abbrev rm_Ranks_append : Room := zr 1
def F_Ranks_append_L4 (x1 : Int32) : Nat → (Nat → Nat → Int32) → Int32 → Int32 → (Int32 × (Nat → Nat → Int32))
  | 0, S, x2, x3 => (x2, S)
  | f + 1, S, x2, x3 => (if (S 68 2) ≤ x3 then (x2, S) else ((F_Ranks_append_L4 x1 f) S (F_Math_max S x2 (zAt (S 69) 30 x3)) (x3 + 1)))
def Sf_Ranks_append_L4 (x1 : Int32) : Nat → (Nat → Nat → Int32) → Int32 → Int32 → Prop
  | 0, _, _, _ => False
  | f + 1, S, x2, x3 => (if (S 68 2) ≤ x3 then True else ((Sf_Ranks_append_L4 x1 f) S (F_Math_max S x2 (zAt (S 69) 30 x3)) (x3 + 1)))
theorem t_Ranks_append_L4 {X : z_X} {Post : Option z_V → z_W → Prop} (M : z_M X zm_Ranks_append rm_Ranks_append Post) {T' : Nat → Nat × Nat} {G' : Nat → Nat → Option Nat} {n : Nat} {Q : (Int32 × (Nat → Nat → Int32)) → Prop}  (x1 : Int32) (hE : ∀ (y2 : Int32) (S' : (Nat → Nat → Int32)), Q (y2, S') → z_G X zm_Ranks_append (31, [(0, z_r 68), (1, .inl x1), (2, .inl y2)], [], zW T' G' S' n, 0, 0)) (f : Nat) : ∀ (S : (Nat → Nat → Int32)) (x2 : Int32) (x3 : Int32), Q (F_Ranks_append_L4 x1 f S x2 x3) → Sf_Ranks_append_L4 x1 f S x2 x3 → z_G X zm_Ranks_append (4, [(0, z_r 68), (1, .inl x1), (2, .inl x2), (3, .inl x3)], [], zW T' G' S n, 0, 0) := by
  induction f with
  | zero => intro S x2 x3 K hs; exact False.elim hs
  | succ f hC =>
    intro S x2 x3 K hs
    rw [F_Ranks_append_L4] at K
    rw [Sf_Ranks_append_L4] at hs
    refine z_go2 M.1 4 [(.iload_n 3, 1), (.aload_n 0, 1), (.getfield 18, 3)] (9, [(0, z_r 68), (1, .inl x1), (2, .inl x2), (3, .inl x3)], [.inl (S 68 2), .inl x3], zW T' G' S n, 0, 0) (by decide +kernel) rfl ⟨trivial, trivial, rfl, trivial⟩ ?_
    refine z_icmp_ge 31 M.1 (off := 22) (by decide +kernel) (by decide) (fun c9 => ?_) (fun c9 => ?_)
    · rw [if_pos c9] at K hs
      exact z_lvs (lv' := [(0, z_r 68), (1, .inl x1), (2, .inl x2)]) [0, 1, 2] rfl (hE x2 S K)
    · rw [if_neg c9] at K hs
      refine z_go2 M.1 12 [(.iload_n 2, 1), (.aload_n 0, 1), (.getfield 9, 3), (.iload_n 3, 1)] (18, [(0, z_r 68), (1, .inl x1), (2, .inl x2), (3, .inl x3)], [.inl x3, z_r 69, .inl x2], zW T' G' S n, 0, 0) (by decide +kernel) rfl ⟨trivial, trivial, rfl, trivial, trivial⟩ ?_
      refine z_callS M.1 (av := [z_r 69, .inl x3]) (st := [.inl x2]) (by decide +kernel) (c_at (zW T' G' S n) 69 30 rfl (by decide) x3) M.2.1 zl_Ranks_22 zs_T_at ⟨by decide, by decide, by decide, by decide⟩ rfl (Nat.le_of_ble_eq_true rfl) (fun v w' hv => ?_)
      obtain ⟨rfl, rfl⟩ := hv
      show z_G X zm_Ranks_append (21, [(0, z_r 68), (1, .inl x1), (2, .inl x2), (3, .inl x3)], [.inl (zAt (S 69) 30 x3), .inl x2], zW T' G' S n, 0, 0)
      refine z_callS M.1 (av := [.inl x2, .inl (zAt (S 69) 30 x3)]) (st := []) (by decide +kernel) (c_Math_max T' G' S n x2 (zAt (S 69) 30 x3)) M.2.1 zl_Ranks_26 zs_Math_max ⟨by decide, by decide, by decide, by decide⟩ rfl (Nat.le_of_ble_eq_true rfl) (fun v w' hv => ?_)
      obtain ⟨rfl, rfl⟩ := hv
      show z_G X zm_Ranks_append (24, [(0, z_r 68), (1, .inl x1), (2, .inl x2), (3, .inl x3)], [.inl (F_Math_max S x2 (zAt (S 69) 30 x3))], zW T' G' S n, 0, 0)
      refine z_go2 M.1 24 [(.istore_n 2, 1), (.iinc 3 1, 3), (.goto (-24), 3)] (4, [(3, .inl (x3 + 1)), (2, .inl (F_Math_max S x2 (zAt (S 69) 30 x3))), (0, z_r 68), (1, .inl x1)], [], zW T' G' S n, 0, 0) (by decide +kernel) rfl ⟨trivial, trivial, trivial, trivial⟩ ?_
      exact z_lvs (lv' := [(0, z_r 68), (1, .inl x1), (2, .inl (F_Math_max S x2 (zAt (S 69) 30 x3))), (3, .inl (x3 + 1))]) [2, 3, 1, 0] rfl (hC S (F_Math_max S x2 (zAt (S 69) 30 x3)) (x3 + 1) K hs)
def F_Ranks_append (S : (Nat → Nat → Int32)) (p1 : Int32) : (Nat → Nat → Int32) := (match F_Ranks_append_L4 p1 1300 S 0 0 with | (y2_4, S4) => (z_let (zPut S4 69 30 p1 (y2_4 + 1024)) (fun S41 => (z_uS S41 68 2 (p1 + 1)))))
def Sf_Ranks_append (S : (Nat → Nat → Int32)) (p1 : Int32) : Prop := (Sf_Ranks_append_L4 p1 1300 S 0 0 ∧ True)
theorem c_Ranks_append (T' : Nat → Nat × Nat) (G' : Nat → Nat → Option Nat) (S : (Nat → Nat → Int32)) (n : Nat) (p1 : Int32) (hs : Sf_Ranks_append S p1) : z_Run rm_Ranks_append zm_Ranks_append [z_r 68, .inl p1] (zW T' G' S n) (zq none (zW T' G' (F_Ranks_append S p1) n)) := by
  refine z_body (by decide) zf_Ranks_ok (Nat.le_of_ble_eq_true rfl) (fun X M => ?_)
  obtain ⟨Q, hQ, K⟩ : ∃ Q : (Nat → Nat → Int32) → Prop, (∀ S', Q S' → zq none (zW T' G' (F_Ranks_append S p1) n) none (zW T' G' S' n)) ∧ Q (F_Ranks_append S p1) := ⟨fun o => F_Ranks_append S p1 = o, fun S' h => ⟨rfl, by rw [h]⟩, rfl⟩
  show z_G X zm_Ranks_append (0, [(0, z_r 68), (1, .inl p1)], [], zW T' G' S n, 0, 0)
  unfold F_Ranks_append at K
  unfold Sf_Ranks_append at hs
  refine z_go2 M.1 0 [(.iconst 0, 1), (.istore_n 2, 1), (.iconst 0, 1), (.istore_n 3, 1)] (4, [(3, .inl 0), (2, .inl 0), (0, z_r 68), (1, .inl p1)], [], zW T' G' S n, 0, 0) (by decide +kernel) rfl ⟨trivial, trivial, trivial, trivial, trivial⟩ ?_
  refine z_lvs (lv' := [(0, z_r 68), (1, .inl p1), (2, .inl 0), (3, .inl 0)]) [2, 3, 1, 0] rfl ?_
  refine t_Ranks_append_L4 M (Q := fun o => F_Ranks_append_L4 p1 1300 S 0 0 = o) p1 (fun y2_4 S4 hL4 => ?_) 1300 S 0 0 rfl hs.1
  replace hs := hs.2
  rw [hL4] at K
  try dsimp only at K
  refine z_go2 M.1 31 [(.aload_n 0, 1), (.getfield 9, 3), (.iload_n 1, 1), (.iload_n 2, 1), (.sipush 1024, 3), (.iadd, 1)] (41, [(0, z_r 68), (1, .inl p1), (2, .inl y2_4)], [.inl (y2_4 + 1024), .inl p1, z_r 69], zW T' G' S4 n, 0, 0) (by decide +kernel) rfl ⟨trivial, rfl, trivial, trivial, trivial, trivial, trivial⟩ ?_
  refine z_callS M.1 (av := [z_r 69, .inl p1, .inl (y2_4 + 1024)]) (st := []) (by decide +kernel) (c_put (zW T' G' S4 n) 69 30 rfl (by decide) p1 (y2_4 + 1024)) M.2.1 zl_Ranks_32 zs_T_put ⟨by decide, by decide, by decide, by decide⟩ rfl (Nat.le_of_ble_eq_true rfl) (fun v w' hv => ?_)
  obtain ⟨S41, hF41⟩ : ∃ y, zPut S4 69 30 p1 (y2_4 + 1024) = y := ⟨_, rfl⟩
  replace hv : v = none ∧ w' = zW T' G' (zPut S4 69 30 p1 (y2_4 + 1024)) n := hv
  rw [hF41] at K hv
  try dsimp only [z_let] at K
  obtain ⟨rfl, rfl⟩ := hv
  show z_G X zm_Ranks_append (44, [(0, z_r 68), (1, .inl p1), (2, .inl y2_4)], [], zW T' G' S41 n, 0, 0)
  refine z_go2 M.1 44 [(.aload_n 0, 1), (.iload_n 1, 1), (.iconst 1, 1), (.iadd, 1), (.putfield 18, 3)] (51, [(0, z_r 68), (1, .inl p1), (2, .inl y2_4)], [], zW T' G' (z_uS S41 68 2 (p1 + 1)) n, 0, 0) (by decide +kernel) rfl ⟨trivial, trivial, trivial, trivial, ⟨rfl, trivial⟩, trivial⟩ ?_
  exact z_vret M (by decide +kernel) rfl (by decide) (by decide) (hQ _ K)

-- TrackHouse$Rules.isCause
abbrev rm_Rules_isCause : Room := zr 1
def F_Rules_isCause_j68 (S : (Nat → Nat → Int32)) : Int32 := 0
theorem t_Rules_isCause_j68 {X : z_X} {Post : Option z_V → z_W → Prop} (M : z_M X zm_Rules_isCause rm_Rules_isCause Post) {T' : Nat → Nat × Nat} {G' : Nat → Nat → Option Nat} {n : Nat} {Q : Int32 → Prop} (S : (Nat → Nat → Int32)) (hQ : ∀ v, Q v → Post (some (.inl v)) (zW T' G' S n)) (K : Q (F_Rules_isCause_j68 S)) : z_G X zm_Rules_isCause (68, [], [], zW T' G' S n, 0, 0) := by
  unfold F_Rules_isCause_j68 at K
  refine z_go2 M.1 68 [(.iconst 0, 1)] (69, [], [.inl 0], zW T' G' S n, 0, 0) (by decide +kernel) rfl ⟨trivial, trivial⟩ ?_
  exact z_iret M (by decide +kernel) .boolean rfl rfl (by decide) (by decide) (hQ _ K)
def F_Rules_isCause (S : (Nat → Nat → Int32)) (p1 : Int32) (p2 : Int32) (p3 : Int32) : Int32 := (if (zAt (S 60) 6 p1) = 0 then (if p2 = 13 then 1 else 0) else (if (zAt (S 60) 6 p1) = 1 then (if p2 = 0 then (if p3 = (zAt (S 61) 6 p1) then 1 else (F_Rules_isCause_j68 S)) else (F_Rules_isCause_j68 S)) else (if p2 = ((1 : Int32) + (zAt (S 61) 6 p1)) then 1 else 0)))
theorem c_Rules_isCause (T' : Nat → Nat × Nat) (G' : Nat → Nat → Option Nat) (S : (Nat → Nat → Int32)) (n : Nat) (p1 : Int32) (p2 : Int32) (p3 : Int32) : z_Run rm_Rules_isCause zm_Rules_isCause [z_r 59, .inl p1, .inl p2, .inl p3] (zW T' G' S n) (zq (some (.inl (F_Rules_isCause S p1 p2 p3))) (zW T' G' S n)) := by
  refine z_body (by decide) zf_Rules_ok (Nat.le_of_ble_eq_true rfl) (fun X M => ?_)
  obtain ⟨Q, hQ, K⟩ : ∃ Q : Int32 → Prop, (∀ v, Q v → zq (some (.inl (F_Rules_isCause S p1 p2 p3))) (zW T' G' S n) (some (.inl v)) (zW T' G' S n)) ∧ Q (F_Rules_isCause S p1 p2 p3) := ⟨fun o => F_Rules_isCause S p1 p2 p3 = o, fun v h => ⟨by rw [h], rfl⟩, rfl⟩
  show z_G X zm_Rules_isCause (0, [(0, z_r 59), (1, .inl p1), (2, .inl p2), (3, .inl p3)], [], zW T' G' S n, 0, 0)
  unfold F_Rules_isCause at K
  refine z_go2 M.1 0 [(.aload_n 0, 1), (.getfield 9, 3), (.iload_n 1, 1)] (5, [(0, z_r 59), (1, .inl p1), (2, .inl p2), (3, .inl p3)], [.inl p1, z_r 60], zW T' G' S n, 0, 0) (by decide +kernel) rfl ⟨trivial, rfl, trivial, trivial⟩ ?_
  refine z_callS M.1 (av := [z_r 60, .inl p1]) (st := []) (by decide +kernel) (c_at (zW T' G' S n) 60 6 rfl (by decide) p1) M.2.1 zl_Rules_44 zs_T_at ⟨by decide, by decide, by decide, by decide⟩ rfl (Nat.le_of_ble_eq_true rfl) (fun v w' hv => ?_)
  obtain ⟨rfl, rfl⟩ := hv
  show z_G X zm_Rules_isCause (8, [(0, z_r 59), (1, .inl p1), (2, .inl p2), (3, .inl p3)], [.inl (zAt (S 60) 6 p1)], zW T' G' S n, 0, 0)
  by_cases c8_0 : (zAt (S 60) 6 p1) = 0
  · rw [if_pos c8_0] at K
    refine z_lookE 36 M.1 (dflt := 62) (ps := #[(0, 28), (1, 40)]) (len := 28) c8_0 (off := 28) (by decide +kernel) (by decide) (by decide) (by decide) ?_
    refine z_go2 M.1 36 [(.iload_n 2, 1), (.bipush 13, 2)] (39, [(0, z_r 59), (1, .inl p1), (2, .inl p2), (3, .inl p3)], [.inl 13, .inl p2], zW T' G' S n, 0, 0) (by decide +kernel) rfl ⟨trivial, trivial, trivial⟩ ?_
    refine z_icmp_ne 46 M.1 (off := 7) (by decide +kernel) (by decide) (fun c39 => ?_) (fun c39 => ?_)
    · rw [if_neg c39] at K
      refine z_go2 M.1 46 [(.iconst 0, 1)] (47, [(0, z_r 59), (1, .inl p1), (2, .inl p2), (3, .inl p3)], [.inl 0], zW T' G' S n, 0, 0) (by decide +kernel) rfl ⟨trivial, trivial⟩ ?_
      exact z_iret M (by decide +kernel) .boolean rfl rfl (by decide) (by decide) (hQ _ K)
    · rw [if_pos c39] at K
      refine z_go2 M.1 42 [(.iconst 1, 1), (.goto 4, 3)] (47, [(0, z_r 59), (1, .inl p1), (2, .inl p2), (3, .inl p3)], [.inl 1], zW T' G' S n, 0, 0) (by decide +kernel) rfl ⟨trivial, trivial, trivial⟩ ?_
      exact z_iret M (by decide +kernel) .boolean rfl rfl (by decide) (by decide) (hQ _ K)
  · rw [if_neg c8_0] at K
    by_cases c8_1 : (zAt (S 60) 6 p1) = 1
    · rw [if_pos c8_1] at K
      refine z_lookE 48 M.1 (dflt := 62) (ps := #[(0, 28), (1, 40)]) (len := 28) c8_1 (off := 40) (by decide +kernel) (by decide) (by decide) (by decide) ?_
      refine z_go2 M.1 48 [(.iload_n 2, 1)] (49, [(0, z_r 59), (1, .inl p1), (2, .inl p2), (3, .inl p3)], [.inl p2], zW T' G' S n, 0, 0) (by decide +kernel) rfl ⟨trivial, trivial⟩ ?_
      refine z_if_ne 68 M.1 (off := 19) (by decide +kernel) (by decide) (fun c49 => ?_) (fun c49 => ?_)
      · rw [if_neg c49] at K
        exact z_lvs (lv' := []) [] rfl (t_Rules_isCause_j68 M S hQ K)
      · rw [if_pos c49] at K
        refine z_go2 M.1 52 [(.iload_n 3, 1), (.aload_n 0, 1), (.getfield 15, 3), (.iload_n 1, 1)] (58, [(0, z_r 59), (1, .inl p1), (2, .inl p2), (3, .inl p3)], [.inl p1, z_r 61, .inl p3], zW T' G' S n, 0, 0) (by decide +kernel) rfl ⟨trivial, trivial, rfl, trivial, trivial⟩ ?_
        refine z_callS M.1 (av := [z_r 61, .inl p1]) (st := [.inl p3]) (by decide +kernel) (c_at (zW T' G' S n) 61 6 rfl (by decide) p1) M.2.1 zl_Rules_44 zs_T_at ⟨by decide, by decide, by decide, by decide⟩ rfl (Nat.le_of_ble_eq_true rfl) (fun v w' hv => ?_)
        obtain ⟨rfl, rfl⟩ := hv
        show z_G X zm_Rules_isCause (61, [(0, z_r 59), (1, .inl p1), (2, .inl p2), (3, .inl p3)], [.inl (zAt (S 61) 6 p1), .inl p3], zW T' G' S n, 0, 0)
        refine z_icmp_ne 68 M.1 (off := 7) (by decide +kernel) (by decide) (fun c61 => ?_) (fun c61 => ?_)
        · rw [if_neg c61] at K
          exact z_lvs (lv' := []) [] rfl (t_Rules_isCause_j68 M S hQ K)
        · rw [if_pos c61] at K
          refine z_go2 M.1 64 [(.iconst 1, 1), (.goto 4, 3)] (69, [(0, z_r 59), (1, .inl p1), (2, .inl p2), (3, .inl p3)], [.inl 1], zW T' G' S n, 0, 0) (by decide +kernel) rfl ⟨trivial, trivial, trivial⟩ ?_
          exact z_iret M (by decide +kernel) .boolean rfl rfl (by decide) (by decide) (hQ _ K)
    · rw [if_neg c8_1] at K
      refine z_lookup 70 M.1 (dflt := 62) (ps := #[(0, 28), (1, 40)]) (len := 28) (off := 62) (by decide +kernel) (by decide) (by show Op.lookupswitch.offset [(0, 28), (1, 40)] 62 _ = _; rw [lv_osw c8_0 (k := 0) (by decide), lv_osw c8_1 (k := 1) (by decide)]; rfl) (by decide) ?_
      refine z_go2 M.1 70 [(.iload_n 2, 1), (.iconst 1, 1), (.aload_n 0, 1), (.getfield 15, 3), (.iload_n 1, 1)] (77, [(0, z_r 59), (1, .inl p1), (2, .inl p2), (3, .inl p3)], [.inl p1, z_r 61, .inl 1, .inl p2], zW T' G' S n, 0, 0) (by decide +kernel) rfl ⟨trivial, trivial, trivial, rfl, trivial, trivial⟩ ?_
      refine z_callS M.1 (av := [z_r 61, .inl p1]) (st := [.inl 1, .inl p2]) (by decide +kernel) (c_at (zW T' G' S n) 61 6 rfl (by decide) p1) M.2.1 zl_Rules_44 zs_T_at ⟨by decide, by decide, by decide, by decide⟩ rfl (Nat.le_of_ble_eq_true rfl) (fun v w' hv => ?_)
      obtain ⟨rfl, rfl⟩ := hv
      show z_G X zm_Rules_isCause (80, [(0, z_r 59), (1, .inl p1), (2, .inl p2), (3, .inl p3)], [.inl (zAt (S 61) 6 p1), .inl 1, .inl p2], zW T' G' S n, 0, 0)
      refine z_go2 M.1 80 [(.iadd, 1)] (81, [(0, z_r 59), (1, .inl p1), (2, .inl p2), (3, .inl p3)], [.inl ((1 : Int32) + (zAt (S 61) 6 p1)), .inl p2], zW T' G' S n, 0, 0) (by decide +kernel) rfl ⟨trivial, trivial⟩ ?_
      refine z_icmp_ne 88 M.1 (off := 7) (by decide +kernel) (by decide) (fun c81 => ?_) (fun c81 => ?_)
      · rw [if_neg c81] at K
        refine z_go2 M.1 88 [(.iconst 0, 1)] (89, [(0, z_r 59), (1, .inl p1), (2, .inl p2), (3, .inl p3)], [.inl 0], zW T' G' S n, 0, 0) (by decide +kernel) rfl ⟨trivial, trivial⟩ ?_
        exact z_iret M (by decide +kernel) .boolean rfl rfl (by decide) (by decide) (hQ _ K)
      · rw [if_pos c81] at K
        refine z_go2 M.1 84 [(.iconst 1, 1), (.goto 4, 3)] (89, [(0, z_r 59), (1, .inl p1), (2, .inl p2), (3, .inl p3)], [.inl 1], zW T' G' S n, 0, 0) (by decide +kernel) rfl ⟨trivial, trivial, trivial⟩ ?_
        exact z_iret M (by decide +kernel) .boolean rfl rfl (by decide) (by decide) (hQ _ K)

