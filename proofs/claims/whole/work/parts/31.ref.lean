-- TrackHouseModel.type
abbrev rm_M_type : Room := zr 1
def F_M_type_j30 (S : (Nat → Nat → Int32)) (x1 : Int32) (s0 : Int32) : (Int32 × (Nat → Nat → Int32)) := (if s0 ≤ 0 then (((S 78 51) + 1), (z_uS (z_uS (z_uS S 78 0 s0) 185 (S 78 51).toNatClampNeg (vp_nar .char x1)) 78 51 ((S 78 51) + 1))) else (0, (z_uS S 78 0 s0)))
def Sf_M_type_j30 (S : (Nat → Nat → Int32)) (x1 : Int32) (s0 : Int32) : Prop := (if s0 ≤ 0 then ((vp_in (S 78 51) 30) ∧ True) else True)
theorem t_M_type_j30 {X : z_X} {Post : Option z_V → z_W → Prop} (M : z_M X zm_M_type rm_M_type Post) {T' : Nat → Nat × Nat} {G' : Nat → Nat → Option Nat} {n : Nat} {Q : (Int32 × (Nat → Nat → Int32)) → Prop} (S : (Nat → Nat → Int32)) (x1 : Int32) (s0 : Int32) (hQ : ∀ v S', Q (v, S') → Post (some (.inl v)) (zW T' G' S' n)) (K : Q (F_M_type_j30 S x1 s0)) (hs : Sf_M_type_j30 S x1 s0) : z_G X zm_M_type (30, [(0, z_r 78), (1, .inl x1)], [.inl s0, z_r 78], zW T' G' S n, 0, 0) := by
  unfold F_M_type_j30 at K
  unfold Sf_M_type_j30 at hs
  refine z_go2 M.1 30 [(.putfield 175, 3), (.aload_n 0, 1), (.getfield 175, 3)] (37, [(0, z_r 78), (1, .inl x1)], [.inl s0], zW T' G' (z_uS S 78 0 s0) n, 0, 0) (by decide +kernel) rfl ⟨⟨rfl, trivial⟩, trivial, rfl, trivial⟩ ?_
  refine z_if_le 42 M.1 (off := 5) (by decide +kernel) (by decide) (fun c37 => ?_) (fun c37 => ?_)
  · rw [if_pos c37] at K hs
    refine z_go2 M.1 42 [(.aload_n 0, 1), (.getfield 150, 3), (.aload_n 0, 1), (.getfield 374, 3), (.iload_n 1, 1), (.castore, 1), (.aload_n 0, 1), (.dup, 1), (.getfield 374, 3), (.iconst 1, 1), (.iadd, 1), (.putfield 374, 3), (.aload_n 0, 1), (.getfield 374, 3)] (66, [(0, z_r 78), (1, .inl x1)], [.inl ((S 78 51) + 1)], zW T' G' (z_uS (z_uS (z_uS S 78 0 s0) 185 (S 78 51).toNatClampNeg (vp_nar .char x1)) 78 51 ((S 78 51) + 1)) n, 0, 0) (by decide +kernel) rfl ⟨trivial, rfl, trivial, rfl, trivial, ⟨rfl, hs.1⟩, trivial, rfl, rfl, trivial, trivial, ⟨rfl, trivial⟩, trivial, rfl, trivial⟩ ?_
    replace hs := hs.2
    exact z_iret M (by decide +kernel) .int rfl rfl (by decide) (by decide) (hQ _ _ K)
  · rw [if_neg c37] at K hs
    refine z_go2 M.1 40 [(.iconst 0, 1)] (41, [(0, z_r 78), (1, .inl x1)], [.inl 0], zW T' G' (z_uS S 78 0 s0) n, 0, 0) (by decide +kernel) rfl ⟨trivial, trivial⟩ ?_
    exact z_iret M (by decide +kernel) .int rfl rfl (by decide) (by decide) (hQ _ _ K)
def F_M_type (S : (Nat → Nat → Int32)) (p1 : Int32) : (Int32 × (Nat → Nat → Int32)) := (if (F_M_isIn S p1 32 126) = 0 then (F_M_type_j30 S p1 1) else (if (S 78 51) = 30 then (F_M_type_j30 S p1 2) else (F_M_type_j30 S p1 0)))
def Sf_M_type (S : (Nat → Nat → Int32)) (p1 : Int32) : Prop := (if (F_M_isIn S p1 32 126) = 0 then (Sf_M_type_j30 S p1 1) else (if (S 78 51) = 30 then (Sf_M_type_j30 S p1 2) else (Sf_M_type_j30 S p1 0)))
theorem c_M_type (T' : Nat → Nat × Nat) (G' : Nat → Nat → Option Nat) (S : (Nat → Nat → Int32)) (n : Nat) (p1 : Int32) (hs : Sf_M_type S p1) : z_Run rm_M_type zm_M_type [z_r 78, .inl p1] (zW T' G' S n) (zq (some (.inl (F_M_type S p1).1)) (zW T' G' (F_M_type S p1).2 n)) := by
  refine z_body (by decide) zf_M_ok (Nat.le_of_ble_eq_true rfl) (fun X M => ?_)
  obtain ⟨Q, hQ, K⟩ : ∃ Q : (Int32 × (Nat → Nat → Int32)) → Prop, (∀ v S', Q (v, S') → zq (some (.inl (F_M_type S p1).1)) (zW T' G' (F_M_type S p1).2 n) (some (.inl v)) (zW T' G' S' n)) ∧ Q (F_M_type S p1) := ⟨fun o => F_M_type S p1 = o, fun v S' h => ⟨by rw [h], by rw [h]⟩, rfl⟩
  show z_G X zm_M_type (0, [(0, z_r 78), (1, .inl p1)], [], zW T' G' S n, 0, 0)
  unfold F_M_type at K
  unfold Sf_M_type at hs
  refine z_go2 M.1 0 [(.aload_n 0, 1), (.iload_n 1, 1), (.bipush 32, 2), (.bipush 126, 2)] (6, [(0, z_r 78), (1, .inl p1)], [.inl 126, .inl 32, .inl p1, z_r 78], zW T' G' S n, 0, 0) (by decide +kernel) rfl ⟨trivial, trivial, trivial, trivial, trivial⟩ ?_
  refine z_callS M.1 (av := [.inl p1, .inl 32, .inl 126]) (st := [z_r 78]) (by decide +kernel) (c_M_isIn T' G' S n p1 32 126) M.2.1 zl_M_178 zs_M_isIn ⟨by decide, by decide, by decide, by decide⟩ rfl (Nat.le_of_ble_eq_true rfl) (fun v w' hv => ?_)
  obtain ⟨rfl, rfl⟩ := hv
  show z_G X zm_M_type (9, [(0, z_r 78), (1, .inl p1)], [.inl (F_M_isIn S p1 32 126), z_r 78], zW T' G' S n, 0, 0)
  refine z_if_ne 16 M.1 (off := 7) (by decide +kernel) (by decide) (fun c9 => ?_) (fun c9 => ?_)
  · rw [if_neg c9] at K hs
    refine z_go2 M.1 16 [(.aload_n 0, 1), (.getfield 374, 3), (.bipush 30, 2)] (22, [(0, z_r 78), (1, .inl p1)], [.inl 30, .inl (S 78 51), z_r 78], zW T' G' S n, 0, 0) (by decide +kernel) rfl ⟨trivial, rfl, trivial, trivial⟩ ?_
    refine z_icmp_ne 29 M.1 (off := 7) (by decide +kernel) (by decide) (fun c22 => ?_) (fun c22 => ?_)
    · rw [if_neg c22] at K hs
      refine z_go2 M.1 29 [(.iconst 0, 1)] (30, [(0, z_r 78), (1, .inl p1)], [.inl 0, z_r 78], zW T' G' S n, 0, 0) (by decide +kernel) rfl ⟨trivial, trivial⟩ ?_
      exact z_lvs (lv' := [(0, z_r 78), (1, .inl p1)]) [0, 1] rfl (t_M_type_j30 M S p1 0 hQ K hs)
    · rw [if_pos c22] at K hs
      refine z_go2 M.1 25 [(.iconst 2, 1), (.goto 4, 3)] (30, [(0, z_r 78), (1, .inl p1)], [.inl 2, z_r 78], zW T' G' S n, 0, 0) (by decide +kernel) rfl ⟨trivial, trivial, trivial⟩ ?_
      exact z_lvs (lv' := [(0, z_r 78), (1, .inl p1)]) [0, 1] rfl (t_M_type_j30 M S p1 2 hQ K hs)
  · rw [if_pos c9] at K hs
    refine z_go2 M.1 12 [(.iconst 1, 1), (.goto 17, 3)] (30, [(0, z_r 78), (1, .inl p1)], [.inl 1, z_r 78], zW T' G' S n, 0, 0) (by decide +kernel) rfl ⟨trivial, trivial, trivial⟩ ?_
    exact z_lvs (lv' := [(0, z_r 78), (1, .inl p1)]) [0, 1] rfl (t_M_type_j30 M S p1 1 hQ K hs)

-- TrackHouseModel.wipe
abbrev rm_M_wipe : Room := zr 0
def F_M_wipe (S : (Nat → Nat → Int32)) : (Int32 × (Nat → Nat → Int32)) := ((S 78 51), (z_uS (z_uS S 78 0 0) 78 51 0))
theorem c_M_wipe (T' : Nat → Nat × Nat) (G' : Nat → Nat → Option Nat) (S : (Nat → Nat → Int32)) (n : Nat) : z_Run rm_M_wipe zm_M_wipe [z_r 78] (zW T' G' S n) (zq (some (.inl (F_M_wipe S).1)) (zW T' G' (F_M_wipe S).2 n)) := by
  refine z_body (by decide) zf_M_ok (Nat.le_of_ble_eq_true rfl) (fun X M => ?_)
  obtain ⟨Q, hQ, K⟩ : ∃ Q : (Int32 × (Nat → Nat → Int32)) → Prop, (∀ v S', Q (v, S') → zq (some (.inl (F_M_wipe S).1)) (zW T' G' (F_M_wipe S).2 n) (some (.inl v)) (zW T' G' S' n)) ∧ Q (F_M_wipe S) := ⟨fun o => F_M_wipe S = o, fun v S' h => ⟨by rw [h], by rw [h]⟩, rfl⟩
  show z_G X zm_M_wipe (0, [(0, z_r 78)], [], zW T' G' S n, 0, 0)
  unfold F_M_wipe at K
  refine z_go2 M.1 0 [(.aload_n 0, 1), (.iconst 0, 1), (.putfield 175, 3), (.aload_n 0, 1), (.getfield 374, 3), (.istore_n 1, 1), (.aload_n 0, 1), (.iconst 0, 1), (.putfield 374, 3), (.iload_n 1, 1)] (16, [(1, .inl (S 78 51)), (0, z_r 78)], [.inl (S 78 51)], zW T' G' (z_uS (z_uS S 78 0 0) 78 51 0) n, 0, 0) (by decide +kernel) rfl ⟨trivial, trivial, ⟨rfl, trivial⟩, trivial, rfl, trivial, trivial, trivial, ⟨rfl, trivial⟩, trivial, trivial⟩ ?_
  exact z_iret M (by decide +kernel) .int rfl rfl (by decide) (by decide) (hQ _ _ K)

-- TrackHouseModel.fails
abbrev rm_M_fails : Room := zr 0
def F_M_fails (S : (Nat → Nat → Int32)) : (Nat → Nat → Int32) := (if (S 78 53) = (-1) then (z_uS S 78 53 (S 78 52)) else (z_uS S 78 53 (S 78 53)))
theorem c_M_fails (T' : Nat → Nat × Nat) (G' : Nat → Nat → Option Nat) (S : (Nat → Nat → Int32)) (n : Nat) : z_Run rm_M_fails zm_M_fails [z_r 78] (zW T' G' S n) (zq none (zW T' G' (F_M_fails S) n)) := by
  refine z_body (by decide) zf_M_ok (Nat.le_of_ble_eq_true rfl) (fun X M => ?_)
  obtain ⟨Q, hQ, K⟩ : ∃ Q : (Nat → Nat → Int32) → Prop, (∀ S', Q S' → zq none (zW T' G' (F_M_fails S) n) none (zW T' G' S' n)) ∧ Q (F_M_fails S) := ⟨fun o => F_M_fails S = o, fun S' h => ⟨rfl, by rw [h]⟩, rfl⟩
  show z_G X zm_M_fails (0, [(0, z_r 78)], [], zW T' G' S n, 0, 0)
  unfold F_M_fails at K
  refine z_go2 M.1 0 [(.aload_n 0, 1), (.aload_n 0, 1), (.getfield 377, 3), (.iconst (-1), 1)] (6, [(0, z_r 78)], [.inl (-1), .inl (S 78 53), z_r 78], zW T' G' S n, 0, 0) (by decide +kernel) rfl ⟨trivial, trivial, rfl, trivial, trivial⟩ ?_
  refine z_icmp_ne 16 M.1 (off := 10) (by decide +kernel) (by decide) (fun c6 => ?_) (fun c6 => ?_)
  · rw [if_neg c6] at K
    refine z_go2 M.1 16 [(.aload_n 0, 1), (.getfield 377, 3), (.putfield 377, 3)] (23, [(0, z_r 78)], [], zW T' G' (z_uS S 78 53 (S 78 53)) n, 0, 0) (by decide +kernel) rfl ⟨trivial, rfl, ⟨rfl, trivial⟩, trivial⟩ ?_
    exact z_vret M (by decide +kernel) rfl (by decide) (by decide) (hQ _ K)
  · rw [if_pos c6] at K
    refine z_go2 M.1 9 [(.aload_n 0, 1), (.getfield 380, 3), (.goto 7, 3), (.putfield 377, 3)] (23, [(0, z_r 78)], [], zW T' G' (z_uS S 78 53 (S 78 52)) n, 0, 0) (by decide +kernel) rfl ⟨trivial, rfl, trivial, ⟨rfl, trivial⟩, trivial⟩ ?_
    exact z_vret M (by decide +kernel) rfl (by decide) (by decide) (hQ _ K)

-- TrackHouseModel.sign
abbrev rm_M_sign : Room := zr 0
def F_M_sign (S : (Nat → Nat → Int32)) : Int32 := (if (S 78 51) ≤ (S 78 52) then 0 else (S 185 (S 78 52).toNatClampNeg))
def Sf_M_sign (S : (Nat → Nat → Int32)) : Prop := (if (S 78 51) ≤ (S 78 52) then (narrow .char (.int 0) = .int 0 ∧ True) else ((vp_in (S 78 52) 30) ∧ (narrow .char (.int (S 185 (S 78 52).toNatClampNeg)) = .int (S 185 (S 78 52).toNatClampNeg) ∧ True)))
theorem c_M_sign (T' : Nat → Nat × Nat) (G' : Nat → Nat → Option Nat) (S : (Nat → Nat → Int32)) (n : Nat) (hs : Sf_M_sign S) : z_Run rm_M_sign zm_M_sign [z_r 78] (zW T' G' S n) (zq (some (.inl (F_M_sign S))) (zW T' G' S n)) := by
  refine z_body (by decide) zf_M_ok (Nat.le_of_ble_eq_true rfl) (fun X M => ?_)
  obtain ⟨Q, hQ, K⟩ : ∃ Q : Int32 → Prop, (∀ v, Q v → zq (some (.inl (F_M_sign S))) (zW T' G' S n) (some (.inl v)) (zW T' G' S n)) ∧ Q (F_M_sign S) := ⟨fun o => F_M_sign S = o, fun v h => ⟨by rw [h], rfl⟩, rfl⟩
  show z_G X zm_M_sign (0, [(0, z_r 78)], [], zW T' G' S n, 0, 0)
  unfold F_M_sign at K
  unfold Sf_M_sign at hs
  refine z_go2 M.1 0 [(.aload_n 0, 1), (.getfield 380, 3), (.aload_n 0, 1), (.getfield 374, 3)] (8, [(0, z_r 78)], [.inl (S 78 51), .inl (S 78 52)], zW T' G' S n, 0, 0) (by decide +kernel) rfl ⟨trivial, rfl, trivial, rfl, trivial⟩ ?_
  refine z_icmp_ge 23 M.1 (off := 15) (by decide +kernel) (by decide) (fun c8 => ?_) (fun c8 => ?_)
  · rw [if_pos c8] at K hs
    refine z_go2 M.1 23 [(.iconst 0, 1)] (24, [(0, z_r 78)], [.inl 0], zW T' G' S n, 0, 0) (by decide +kernel) rfl ⟨trivial, trivial⟩ ?_
    exact z_iret M (by decide +kernel) .char rfl hs.1 (by decide) (by decide) (hQ _ K)
  · rw [if_neg c8] at K hs
    refine z_go2 M.1 11 [(.aload_n 0, 1), (.getfield 150, 3), (.aload_n 0, 1), (.getfield 380, 3), (.caload, 1), (.goto 4, 3)] (24, [(0, z_r 78)], [.inl (S 185 (S 78 52).toNatClampNeg)], zW T' G' S n, 0, 0) (by decide +kernel) rfl ⟨trivial, rfl, trivial, rfl, ⟨rfl, hs.1⟩, trivial, trivial⟩ ?_
    replace hs := hs.2
    exact z_iret M (by decide +kernel) .char rfl hs.1 (by decide) (by decide) (hQ _ K)

-- TrackHouseModel.takes
abbrev rm_M_takes : Room := zr 1
def F_M_takes_j21 (S : (Nat → Nat → Int32)) (s0 : Int32) : (Int32 × (Nat → Nat → Int32)) := (if s0 = 0 then (z_let (F_M_fails S) (fun S40 => (s0, S40))) else (s0, (z_uS S 78 52 ((S 78 52) + 1))))
def Sf_M_takes_j21 (S : (Nat → Nat → Int32)) (s0 : Int32) : Prop := (if s0 = 0 then (z_let (F_M_fails S) (fun S40 => (narrow .boolean (.int s0) = .int s0 ∧ True))) else (narrow .boolean (.int s0) = .int s0 ∧ True))
theorem t_M_takes_j21 {X : z_X} {Post : Option z_V → z_W → Prop} (M : z_M X zm_M_takes rm_M_takes Post) {T' : Nat → Nat × Nat} {G' : Nat → Nat → Option Nat} {n : Nat} {Q : (Int32 × (Nat → Nat → Int32)) → Prop} (S : (Nat → Nat → Int32)) (s0 : Int32) (hQ : ∀ v S', Q (v, S') → Post (some (.inl v)) (zW T' G' S' n)) (K : Q (F_M_takes_j21 S s0)) (hs : Sf_M_takes_j21 S s0) : z_G X zm_M_takes (21, [(0, z_r 78)], [.inl s0], zW T' G' S n, 0, 0) := by
  unfold F_M_takes_j21 at K
  unfold Sf_M_takes_j21 at hs
  refine z_go2 M.1 21 [(.istore_n 2, 1), (.iload_n 2, 1)] (23, [(2, .inl s0), (0, z_r 78)], [.inl s0], zW T' G' S n, 0, 0) (by decide +kernel) rfl ⟨trivial, trivial, trivial⟩ ?_
  refine z_if_eq 39 M.1 (off := 16) (by decide +kernel) (by decide) (fun c23 => ?_) (fun c23 => ?_)
  · rw [if_pos c23] at K hs
    refine z_go2 M.1 39 [(.aload_n 0, 1)] (40, [(2, .inl s0), (0, z_r 78)], [z_r 78], zW T' G' S n, 0, 0) (by decide +kernel) rfl ⟨trivial, trivial⟩ ?_
    refine z_callV M.1 (av := []) (st := []) (a := 78) (ci := 14) (by decide +kernel) (c_M_fails T' G' S n) M.2.1 zl_M_387 zv_M_fails rfl rfl rfl ⟨by decide, by decide, by decide, by decide⟩ rfl (Nat.le_of_ble_eq_true rfl) (fun v w' hv => ?_)
    obtain ⟨S40, hF40⟩ : ∃ y, F_M_fails S = y := ⟨_, rfl⟩
    rw [hF40] at K hv
    try rw [hF40] at hs
    try dsimp only [z_let] at K hs
    obtain ⟨rfl, rfl⟩ := hv
    show z_G X zm_M_takes (43, [(2, .inl s0), (0, z_r 78)], [], zW T' G' S40 n, 0, 0)
    refine z_go2 M.1 43 [(.iload_n 2, 1)] (44, [(2, .inl s0), (0, z_r 78)], [.inl s0], zW T' G' S40 n, 0, 0) (by decide +kernel) rfl ⟨trivial, trivial⟩ ?_
    exact z_iret M (by decide +kernel) .boolean rfl hs.1 (by decide) (by decide) (hQ _ _ K)
  · rw [if_neg c23] at K hs
    refine z_go2 M.1 26 [(.aload_n 0, 1), (.dup, 1), (.getfield 380, 3), (.iconst 1, 1), (.iadd, 1), (.putfield 380, 3), (.goto 7, 3), (.iload_n 2, 1)] (44, [(2, .inl s0), (0, z_r 78)], [.inl s0], zW T' G' (z_uS S 78 52 ((S 78 52) + 1)) n, 0, 0) (by decide +kernel) rfl ⟨trivial, rfl, rfl, trivial, trivial, ⟨rfl, trivial⟩, trivial, trivial, trivial⟩ ?_
    exact z_iret M (by decide +kernel) .boolean rfl hs.1 (by decide) (by decide) (hQ _ _ K)
def F_M_takes_j20 (S : (Nat → Nat → Int32)) : (Int32 × (Nat → Nat → Int32)) := (F_M_takes_j21 S 0)
def Sf_M_takes_j20 (S : (Nat → Nat → Int32)) : Prop := (Sf_M_takes_j21 S 0)
theorem t_M_takes_j20 {X : z_X} {Post : Option z_V → z_W → Prop} (M : z_M X zm_M_takes rm_M_takes Post) {T' : Nat → Nat × Nat} {G' : Nat → Nat → Option Nat} {n : Nat} {Q : (Int32 × (Nat → Nat → Int32)) → Prop} (S : (Nat → Nat → Int32)) (hQ : ∀ v S', Q (v, S') → Post (some (.inl v)) (zW T' G' S' n)) (K : Q (F_M_takes_j20 S)) (hs : Sf_M_takes_j20 S) : z_G X zm_M_takes (20, [(0, z_r 78)], [], zW T' G' S n, 0, 0) := by
  unfold F_M_takes_j20 at K
  unfold Sf_M_takes_j20 at hs
  refine z_go2 M.1 20 [(.iconst 0, 1)] (21, [(0, z_r 78)], [.inl 0], zW T' G' S n, 0, 0) (by decide +kernel) rfl ⟨trivial, trivial⟩ ?_
  exact z_lvs (lv' := [(0, z_r 78)]) [0] rfl (t_M_takes_j21 M S 0 hQ K hs)
def F_M_takes (S : (Nat → Nat → Int32)) (p1 : Int32) : (Int32 × (Nat → Nat → Int32)) := (if (S 78 53) = (-1) then (if (F_M_sign S) = p1 then (F_M_takes_j21 S 1) else (F_M_takes_j20 S)) else (F_M_takes_j20 S))
def Sf_M_takes (S : (Nat → Nat → Int32)) (p1 : Int32) : Prop := (if (S 78 53) = (-1) then (Sf_M_sign S ∧ (if (F_M_sign S) = p1 then (Sf_M_takes_j21 S 1) else (Sf_M_takes_j20 S))) else (Sf_M_takes_j20 S))
theorem c_M_takes (T' : Nat → Nat × Nat) (G' : Nat → Nat → Option Nat) (S : (Nat → Nat → Int32)) (n : Nat) (p1 : Int32) (hs : Sf_M_takes S p1) : z_Run rm_M_takes zm_M_takes [z_r 78, .inl p1] (zW T' G' S n) (zq (some (.inl (F_M_takes S p1).1)) (zW T' G' (F_M_takes S p1).2 n)) := by
  refine z_body (by decide) zf_M_ok (Nat.le_of_ble_eq_true rfl) (fun X M => ?_)
  obtain ⟨Q, hQ, K⟩ : ∃ Q : (Int32 × (Nat → Nat → Int32)) → Prop, (∀ v S', Q (v, S') → zq (some (.inl (F_M_takes S p1).1)) (zW T' G' (F_M_takes S p1).2 n) (some (.inl v)) (zW T' G' S' n)) ∧ Q (F_M_takes S p1) := ⟨fun o => F_M_takes S p1 = o, fun v S' h => ⟨by rw [h], by rw [h]⟩, rfl⟩
  show z_G X zm_M_takes (0, [(0, z_r 78), (1, .inl p1)], [], zW T' G' S n, 0, 0)
  unfold F_M_takes at K
  unfold Sf_M_takes at hs
  refine z_go2 M.1 0 [(.aload_n 0, 1), (.getfield 377, 3), (.iconst (-1), 1)] (5, [(0, z_r 78), (1, .inl p1)], [.inl (-1), .inl (S 78 53)], zW T' G' S n, 0, 0) (by decide +kernel) rfl ⟨trivial, rfl, trivial, trivial⟩ ?_
  refine z_icmp_ne 20 M.1 (off := 15) (by decide +kernel) (by decide) (fun c5 => ?_) (fun c5 => ?_)
  · rw [if_neg c5] at K hs
    exact z_lvs (lv' := [(0, z_r 78)]) [0] rfl (t_M_takes_j20 M S hQ K hs)
  · rw [if_pos c5] at K hs
    refine z_go2 M.1 8 [(.aload_n 0, 1)] (9, [(0, z_r 78), (1, .inl p1)], [z_r 78], zW T' G' S n, 0, 0) (by decide +kernel) rfl ⟨trivial, trivial⟩ ?_
    refine z_callV M.1 (av := []) (st := []) (a := 78) (ci := 14) (by decide +kernel) (c_M_sign T' G' S n hs.1) M.2.1 zl_M_383 zv_M_sign rfl rfl rfl ⟨by decide, by decide, by decide, by decide⟩ rfl (Nat.le_of_ble_eq_true rfl) (fun v w' hv => ?_)
    obtain ⟨rfl, rfl⟩ := hv
    replace hs := hs.2
    show z_G X zm_M_takes (12, [(0, z_r 78), (1, .inl p1)], [.inl (F_M_sign S)], zW T' G' S n, 0, 0)
    refine z_go2 M.1 12 [(.iload_n 1, 1)] (13, [(0, z_r 78), (1, .inl p1)], [.inl p1, .inl (F_M_sign S)], zW T' G' S n, 0, 0) (by decide +kernel) rfl ⟨trivial, trivial⟩ ?_
    refine z_icmp_ne 20 M.1 (off := 7) (by decide +kernel) (by decide) (fun c13 => ?_) (fun c13 => ?_)
    · rw [if_neg c13] at K hs
      exact z_lvs (lv' := [(0, z_r 78)]) [0] rfl (t_M_takes_j20 M S hQ K hs)
    · rw [if_pos c13] at K hs
      refine z_go2 M.1 16 [(.iconst 1, 1), (.goto 4, 3)] (21, [(0, z_r 78), (1, .inl p1)], [.inl 1], zW T' G' S n, 0, 0) (by decide +kernel) rfl ⟨trivial, trivial, trivial⟩ ?_
      exact z_lvs (lv' := [(0, z_r 78)]) [0] rfl (t_M_takes_j21 M S 1 hQ K hs)

-- TrackHouseModel.digit
abbrev rm_M_digit : Room := zr 1
def F_M_digit_j25 (S : (Nat → Nat → Int32)) : (Int32 × (Nat → Nat → Int32)) := (z_let (F_M_fails S) (fun S26 => (0, S26)))
theorem t_M_digit_j25 {X : z_X} {Post : Option z_V → z_W → Prop} (M : z_M X zm_M_digit rm_M_digit Post) {T' : Nat → Nat × Nat} {G' : Nat → Nat → Option Nat} {n : Nat} {Q : (Int32 × (Nat → Nat → Int32)) → Prop} (S : (Nat → Nat → Int32)) (hQ : ∀ v S', Q (v, S') → Post (some (.inl v)) (zW T' G' S' n)) (K : Q (F_M_digit_j25 S)) : z_G X zm_M_digit (25, [(0, z_r 78)], [], zW T' G' S n, 0, 0) := by
  unfold F_M_digit_j25 at K
  refine z_go2 M.1 25 [(.aload_n 0, 1)] (26, [(0, z_r 78)], [z_r 78], zW T' G' S n, 0, 0) (by decide +kernel) rfl ⟨trivial, trivial⟩ ?_
  refine z_callV M.1 (av := []) (st := []) (a := 78) (ci := 14) (by decide +kernel) (c_M_fails T' G' S n) M.2.1 zl_M_387 zv_M_fails rfl rfl rfl ⟨by decide, by decide, by decide, by decide⟩ rfl (Nat.le_of_ble_eq_true rfl) (fun v w' hv => ?_)
  obtain ⟨S26, hF26⟩ : ∃ y, F_M_fails S = y := ⟨_, rfl⟩
  rw [hF26] at K hv
  try dsimp only [z_let] at K
  obtain ⟨rfl, rfl⟩ := hv
  show z_G X zm_M_digit (29, [(0, z_r 78)], [], zW T' G' S26 n, 0, 0)
  refine z_go2 M.1 29 [(.iconst 0, 1)] (30, [(0, z_r 78)], [.inl 0], zW T' G' S26 n, 0, 0) (by decide +kernel) rfl ⟨trivial, trivial⟩ ?_
  exact z_iret M (by decide +kernel) .int rfl rfl (by decide) (by decide) (hQ _ _ K)
def F_M_digit (S : (Nat → Nat → Int32)) (p1 : Int32) : (Int32 × (Nat → Nat → Int32)) := (if (S 78 53) = (-1) then (if (F_M_isIn S ((F_M_sign S) - 48) 0 p1) = 0 then (F_M_digit_j25 S) else (((F_M_sign S) - 48), (z_uS S 78 52 ((S 78 52) + 1)))) else (F_M_digit_j25 S))
def Sf_M_digit (S : (Nat → Nat → Int32)) (p1 : Int32) : Prop := (Sf_M_sign S ∧ True)
theorem c_M_digit (T' : Nat → Nat × Nat) (G' : Nat → Nat → Option Nat) (S : (Nat → Nat → Int32)) (n : Nat) (p1 : Int32) (hs : Sf_M_digit S p1) : z_Run rm_M_digit zm_M_digit [z_r 78, .inl p1] (zW T' G' S n) (zq (some (.inl (F_M_digit S p1).1)) (zW T' G' (F_M_digit S p1).2 n)) := by
  refine z_body (by decide) zf_M_ok (Nat.le_of_ble_eq_true rfl) (fun X M => ?_)
  obtain ⟨Q, hQ, K⟩ : ∃ Q : (Int32 × (Nat → Nat → Int32)) → Prop, (∀ v S', Q (v, S') → zq (some (.inl (F_M_digit S p1).1)) (zW T' G' (F_M_digit S p1).2 n) (some (.inl v)) (zW T' G' S' n)) ∧ Q (F_M_digit S p1) := ⟨fun o => F_M_digit S p1 = o, fun v S' h => ⟨by rw [h], by rw [h]⟩, rfl⟩
  show z_G X zm_M_digit (0, [(0, z_r 78), (1, .inl p1)], [], zW T' G' S n, 0, 0)
  unfold F_M_digit at K
  unfold Sf_M_digit at hs
  refine z_go2 M.1 0 [(.aload_n 0, 1)] (1, [(0, z_r 78), (1, .inl p1)], [z_r 78], zW T' G' S n, 0, 0) (by decide +kernel) rfl ⟨trivial, trivial⟩ ?_
  refine z_callV M.1 (av := []) (st := []) (a := 78) (ci := 14) (by decide +kernel) (c_M_sign T' G' S n hs.1) M.2.1 zl_M_383 zv_M_sign rfl rfl rfl ⟨by decide, by decide, by decide, by decide⟩ rfl (Nat.le_of_ble_eq_true rfl) (fun v w' hv => ?_)
  obtain ⟨rfl, rfl⟩ := hv
  replace hs := hs.2
  show z_G X zm_M_digit (4, [(0, z_r 78), (1, .inl p1)], [.inl (F_M_sign S)], zW T' G' S n, 0, 0)
  refine z_go2 M.1 4 [(.bipush 48, 2), (.isub, 1), (.istore_n 2, 1), (.aload_n 0, 1), (.getfield 377, 3), (.iconst (-1), 1)] (13, [(2, .inl ((F_M_sign S) - 48)), (0, z_r 78), (1, .inl p1)], [.inl (-1), .inl (S 78 53)], zW T' G' S n, 0, 0) (by decide +kernel) rfl ⟨trivial, trivial, trivial, trivial, rfl, trivial, trivial⟩ ?_
  refine z_icmp_ne 25 M.1 (off := 12) (by decide +kernel) (by decide) (fun c13 => ?_) (fun c13 => ?_)
  · rw [if_neg c13] at K
    exact z_lvs (lv' := [(0, z_r 78)]) [1] rfl (t_M_digit_j25 M S hQ K)
  · rw [if_pos c13] at K
    refine z_go2 M.1 16 [(.iload_n 2, 1), (.iconst 0, 1), (.iload_n 1, 1)] (19, [(2, .inl ((F_M_sign S) - 48)), (0, z_r 78), (1, .inl p1)], [.inl p1, .inl 0, .inl ((F_M_sign S) - 48)], zW T' G' S n, 0, 0) (by decide +kernel) rfl ⟨trivial, trivial, trivial, trivial⟩ ?_
    refine z_callS M.1 (av := [.inl ((F_M_sign S) - 48), .inl 0, .inl p1]) (st := []) (by decide +kernel) (c_M_isIn T' G' S n ((F_M_sign S) - 48) 0 p1) M.2.1 zl_M_178 zs_M_isIn ⟨by decide, by decide, by decide, by decide⟩ rfl (Nat.le_of_ble_eq_true rfl) (fun v w' hv => ?_)
    obtain ⟨rfl, rfl⟩ := hv
    show z_G X zm_M_digit (22, [(2, .inl ((F_M_sign S) - 48)), (0, z_r 78), (1, .inl p1)], [.inl (F_M_isIn S ((F_M_sign S) - 48) 0 p1)], zW T' G' S n, 0, 0)
    refine z_if_ne 31 M.1 (off := 9) (by decide +kernel) (by decide) (fun c22 => ?_) (fun c22 => ?_)
    · rw [if_neg c22] at K
      refine z_go2 M.1 31 [(.aload_n 0, 1), (.dup, 1), (.getfield 380, 3), (.iconst 1, 1), (.iadd, 1), (.putfield 380, 3), (.iload_n 2, 1)] (42, [(2, .inl ((F_M_sign S) - 48)), (0, z_r 78), (1, .inl p1)], [.inl ((F_M_sign S) - 48)], zW T' G' (z_uS S 78 52 ((S 78 52) + 1)) n, 0, 0) (by decide +kernel) rfl ⟨trivial, rfl, rfl, trivial, trivial, ⟨rfl, trivial⟩, trivial, trivial⟩ ?_
      exact z_iret M (by decide +kernel) .int rfl rfl (by decide) (by decide) (hQ _ _ K)
    · rw [if_pos c22] at K
      exact z_lvs (lv' := [(0, z_r 78)]) [1] rfl (t_M_digit_j25 M S hQ K)

-- TrackHouseModel.isSimple
abbrev rm_M_isSimple : Room := zr 0
def F_M_isSimple (S : (Nat → Nat → Int32)) (p0 : Int32) : Int32 := (if p0 = 115 then 1 else (if p0 = 107 then 1 else (if p0 = 112 then 1 else (if p0 = 118 then 1 else (if p0 = 87 then 1 else (if p0 = 66 then 1 else 0))))))
theorem c_M_isSimple (T' : Nat → Nat × Nat) (G' : Nat → Nat → Option Nat) (S : (Nat → Nat → Int32)) (n : Nat) (p0 : Int32) : z_Run rm_M_isSimple zm_M_isSimple [.inl p0] (zW T' G' S n) (zq (some (.inl (F_M_isSimple S p0))) (zW T' G' S n)) := by
  refine z_body (by decide) zf_M_ok (Nat.le_of_ble_eq_true rfl) (fun X M => ?_)
  obtain ⟨Q, hQ, K⟩ : ∃ Q : Int32 → Prop, (∀ v, Q v → zq (some (.inl (F_M_isSimple S p0))) (zW T' G' S n) (some (.inl v)) (zW T' G' S n)) ∧ Q (F_M_isSimple S p0) := ⟨fun o => F_M_isSimple S p0 = o, fun v h => ⟨by rw [h], rfl⟩, rfl⟩
  show z_G X zm_M_isSimple (0, [(0, .inl p0)], [], zW T' G' S n, 0, 0)
  unfold F_M_isSimple at K
  refine z_go2 M.1 0 [(.iload_n 0, 1), (.bipush 115, 2)] (3, [(0, .inl p0)], [.inl 115, .inl p0], zW T' G' S n, 0, 0) (by decide +kernel) rfl ⟨trivial, trivial, trivial⟩ ?_
  refine z_icmp_eq 36 M.1 (off := 33) (by decide +kernel) (by decide) (fun c3 => ?_) (fun c3 => ?_)
  · rw [if_pos c3] at K
    refine z_go2 M.1 36 [(.iconst 1, 1), (.goto 4, 3)] (41, [(0, .inl p0)], [.inl 1], zW T' G' S n, 0, 0) (by decide +kernel) rfl ⟨trivial, trivial, trivial⟩ ?_
    exact z_iret M (by decide +kernel) .boolean rfl rfl (by decide) (by decide) (hQ _ K)
  · rw [if_neg c3] at K
    refine z_go2 M.1 6 [(.iload_n 0, 1), (.bipush 107, 2)] (9, [(0, .inl p0)], [.inl 107, .inl p0], zW T' G' S n, 0, 0) (by decide +kernel) rfl ⟨trivial, trivial, trivial⟩ ?_
    refine z_icmp_eq 36 M.1 (off := 27) (by decide +kernel) (by decide) (fun c9 => ?_) (fun c9 => ?_)
    · rw [if_pos c9] at K
      refine z_go2 M.1 36 [(.iconst 1, 1), (.goto 4, 3)] (41, [(0, .inl p0)], [.inl 1], zW T' G' S n, 0, 0) (by decide +kernel) rfl ⟨trivial, trivial, trivial⟩ ?_
      exact z_iret M (by decide +kernel) .boolean rfl rfl (by decide) (by decide) (hQ _ K)
    · rw [if_neg c9] at K
      refine z_go2 M.1 12 [(.iload_n 0, 1), (.bipush 112, 2)] (15, [(0, .inl p0)], [.inl 112, .inl p0], zW T' G' S n, 0, 0) (by decide +kernel) rfl ⟨trivial, trivial, trivial⟩ ?_
      refine z_icmp_eq 36 M.1 (off := 21) (by decide +kernel) (by decide) (fun c15 => ?_) (fun c15 => ?_)
      · rw [if_pos c15] at K
        refine z_go2 M.1 36 [(.iconst 1, 1), (.goto 4, 3)] (41, [(0, .inl p0)], [.inl 1], zW T' G' S n, 0, 0) (by decide +kernel) rfl ⟨trivial, trivial, trivial⟩ ?_
        exact z_iret M (by decide +kernel) .boolean rfl rfl (by decide) (by decide) (hQ _ K)
      · rw [if_neg c15] at K
        refine z_go2 M.1 18 [(.iload_n 0, 1), (.bipush 118, 2)] (21, [(0, .inl p0)], [.inl 118, .inl p0], zW T' G' S n, 0, 0) (by decide +kernel) rfl ⟨trivial, trivial, trivial⟩ ?_
        refine z_icmp_eq 36 M.1 (off := 15) (by decide +kernel) (by decide) (fun c21 => ?_) (fun c21 => ?_)
        · rw [if_pos c21] at K
          refine z_go2 M.1 36 [(.iconst 1, 1), (.goto 4, 3)] (41, [(0, .inl p0)], [.inl 1], zW T' G' S n, 0, 0) (by decide +kernel) rfl ⟨trivial, trivial, trivial⟩ ?_
          exact z_iret M (by decide +kernel) .boolean rfl rfl (by decide) (by decide) (hQ _ K)
        · rw [if_neg c21] at K
          refine z_go2 M.1 24 [(.iload_n 0, 1), (.bipush 87, 2)] (27, [(0, .inl p0)], [.inl 87, .inl p0], zW T' G' S n, 0, 0) (by decide +kernel) rfl ⟨trivial, trivial, trivial⟩ ?_
          refine z_icmp_eq 36 M.1 (off := 9) (by decide +kernel) (by decide) (fun c27 => ?_) (fun c27 => ?_)
          · rw [if_pos c27] at K
            refine z_go2 M.1 36 [(.iconst 1, 1), (.goto 4, 3)] (41, [(0, .inl p0)], [.inl 1], zW T' G' S n, 0, 0) (by decide +kernel) rfl ⟨trivial, trivial, trivial⟩ ?_
            exact z_iret M (by decide +kernel) .boolean rfl rfl (by decide) (by decide) (hQ _ K)
          · rw [if_neg c27] at K
            refine z_go2 M.1 30 [(.iload_n 0, 1), (.bipush 66, 2)] (33, [(0, .inl p0)], [.inl 66, .inl p0], zW T' G' S n, 0, 0) (by decide +kernel) rfl ⟨trivial, trivial, trivial⟩ ?_
            refine z_icmp_ne 40 M.1 (off := 7) (by decide +kernel) (by decide) (fun c33 => ?_) (fun c33 => ?_)
            · rw [if_neg c33] at K
              refine z_go2 M.1 40 [(.iconst 0, 1)] (41, [(0, .inl p0)], [.inl 0], zW T' G' S n, 0, 0) (by decide +kernel) rfl ⟨trivial, trivial⟩ ?_
              exact z_iret M (by decide +kernel) .boolean rfl rfl (by decide) (by decide) (hQ _ K)
            · rw [if_pos c33] at K
              refine z_go2 M.1 36 [(.iconst 1, 1), (.goto 4, 3)] (41, [(0, .inl p0)], [.inl 1], zW T' G' S n, 0, 0) (by decide +kernel) rfl ⟨trivial, trivial, trivial⟩ ?_
              exact z_iret M (by decide +kernel) .boolean rfl rfl (by decide) (by decide) (hQ _ K)

-- TrackHouseModel.compares
abbrev rm_M_compares : Room := zr 2
def F_M_compares_j77 (S : (Nat → Nat → Int32)) (x1 : Int32) (x2 : Int32) (s0 : Int32) (s1 : Int32) : (Nat → Nat → Int32) := (if x2 = 120 then (z_uS (z_uS S 188 (s1).toNatClampNeg s0) 188 (x1).toNatClampNeg (((z_uS S 188 (s1).toNatClampNeg s0) 188 (x1).toNatClampNeg) + 0)) else (match F_M_digit (z_uS S 188 (s1).toNatClampNeg s0) 9 with | (r98, S98) => (z_uS S98 188 (x1).toNatClampNeg (((z_uS S 188 (s1).toNatClampNeg s0) 188 (x1).toNatClampNeg) + r98))))
def Sf_M_compares_j77 (S : (Nat → Nat → Int32)) (x1 : Int32) (x2 : Int32) (s0 : Int32) (s1 : Int32) : Prop := ((vp_in s1 31) ∧ ((vp_in x1 31) ∧ (if x2 = 120 then ((vp_in x1 31) ∧ True) else (Sf_M_digit (z_uS S 188 (s1).toNatClampNeg s0) 9 ∧ (match F_M_digit (z_uS S 188 (s1).toNatClampNeg s0) 9 with | (r98, S98) => ((vp_in x1 31) ∧ True))))))
theorem t_M_compares_j77 {X : z_X} {Post : Option z_V → z_W → Prop} (M : z_M X zm_M_compares rm_M_compares Post) {T' : Nat → Nat × Nat} {G' : Nat → Nat → Option Nat} {n : Nat} {Q : (Nat → Nat → Int32) → Prop} (S : (Nat → Nat → Int32)) (x1 : Int32) (x2 : Int32) (s0 : Int32) (s1 : Int32) (hQ : ∀ S', Q S' → Post none (zW T' G' S' n)) (K : Q (F_M_compares_j77 S x1 x2 s0 s1)) (hs : Sf_M_compares_j77 S x1 x2 s0 s1) : z_G X zm_M_compares (77, [(0, z_r 78), (1, .inl x1), (2, .inl x2)], [.inl s0, .inl s1, z_r 188], zW T' G' S n, 0, 0) := by
  unfold F_M_compares_j77 at K
  unfold Sf_M_compares_j77 at hs
  refine z_go2 M.1 77 [(.iastore, 1), (.aload_n 0, 1), (.getfield 160, 3), (.iload_n 1, 1), (.dup2, 1), (.iaload, 1), (.iload_n 2, 1), (.bipush 120, 2)] (88, [(0, z_r 78), (1, .inl x1), (2, .inl x2)], [.inl 120, .inl x2, .inl ((z_uS S 188 (s1).toNatClampNeg s0) 188 (x1).toNatClampNeg), .inl x1, z_r 188], zW T' G' (z_uS S 188 (s1).toNatClampNeg s0) n, 0, 0) (by decide +kernel) rfl ⟨⟨rfl, hs.1⟩, trivial, rfl, trivial, ⟨rfl, rfl⟩, ⟨rfl, hs.2.1⟩, trivial, trivial, trivial⟩ ?_
  replace hs := hs.2.2
  refine z_icmp_ne 95 M.1 (off := 7) (by decide +kernel) (by decide) (fun c88 => ?_) (fun c88 => ?_)
  · rw [if_neg c88] at K hs
    refine z_go2 M.1 95 [(.aload_n 0, 1), (.bipush 9, 2)] (98, [(0, z_r 78), (1, .inl x1), (2, .inl x2)], [.inl 9, z_r 78, .inl ((z_uS S 188 (s1).toNatClampNeg s0) 188 (x1).toNatClampNeg), .inl x1, z_r 188], zW T' G' (z_uS S 188 (s1).toNatClampNeg s0) n, 0, 0) (by decide +kernel) rfl ⟨trivial, trivial, trivial⟩ ?_
    refine z_callV M.1 (av := [.inl 9]) (st := [.inl ((z_uS S 188 (s1).toNatClampNeg s0) 188 (x1).toNatClampNeg), .inl x1, z_r 188]) (a := 78) (ci := 14) (by decide +kernel) (c_M_digit T' G' (z_uS S 188 (s1).toNatClampNeg s0) n 9 hs.1) M.2.1 zl_M_398 zv_M_digit rfl rfl rfl ⟨by decide, by decide, by decide, by decide⟩ rfl (Nat.le_of_ble_eq_true rfl) (fun v w' hv => ?_)
    replace hs := hs.2
    rcases hF98 : F_M_digit (z_uS S 188 (s1).toNatClampNeg s0) 9 with ⟨r98, S98⟩
    rw [hF98] at K hv
    try rw [hF98] at hs
    try dsimp only at K hs
    obtain ⟨rfl, rfl⟩ := hv
    show z_G X zm_M_compares (101, [(0, z_r 78), (1, .inl x1), (2, .inl x2)], [.inl r98, .inl ((z_uS S 188 (s1).toNatClampNeg s0) 188 (x1).toNatClampNeg), .inl x1, z_r 188], zW T' G' S98 n, 0, 0)
    refine z_go2 M.1 101 [(.iadd, 1), (.iastore, 1)] (103, [(0, z_r 78), (1, .inl x1), (2, .inl x2)], [], zW T' G' (z_uS S98 188 (x1).toNatClampNeg (((z_uS S 188 (s1).toNatClampNeg s0) 188 (x1).toNatClampNeg) + r98)) n, 0, 0) (by decide +kernel) rfl ⟨trivial, ⟨rfl, hs.1⟩, trivial⟩ ?_
    replace hs := hs.2
    exact z_vret M (by decide +kernel) rfl (by decide) (by decide) (hQ _ K)
  · rw [if_pos c88] at K hs
    refine z_go2 M.1 91 [(.iconst 0, 1), (.goto 9, 3), (.iadd, 1), (.iastore, 1)] (103, [(0, z_r 78), (1, .inl x1), (2, .inl x2)], [], zW T' G' (z_uS (z_uS S 188 (s1).toNatClampNeg s0) 188 (x1).toNatClampNeg (((z_uS S 188 (s1).toNatClampNeg s0) 188 (x1).toNatClampNeg) + 0)) n, 0, 0) (by decide +kernel) rfl ⟨trivial, trivial, trivial, ⟨rfl, hs.1⟩, trivial⟩ ?_
    replace hs := hs.2
    exact z_vret M (by decide +kernel) rfl (by decide) (by decide) (hQ _ K)
def F_M_compares_j46 (S : (Nat → Nat → Int32)) (x1 : Int32) (x2 : Int32) : (Nat → Nat → Int32) := (if x2 = 120 then (F_M_compares_j77 (z_uS S 189 (x1).toNatClampNeg x2) x1 x2 0 x1) else (match F_M_digit (z_uS S 189 (x1).toNatClampNeg x2) 9 with | (r73, S73) => (F_M_compares_j77 S73 x1 x2 ((10 : Int32) * r73) x1)))
def Sf_M_compares_j46 (S : (Nat → Nat → Int32)) (x1 : Int32) (x2 : Int32) : Prop := ((vp_in x1 31) ∧ (if x2 = 120 then (Sf_M_compares_j77 (z_uS S 189 (x1).toNatClampNeg x2) x1 x2 0 x1) else (Sf_M_digit (z_uS S 189 (x1).toNatClampNeg x2) 9 ∧ (match F_M_digit (z_uS S 189 (x1).toNatClampNeg x2) 9 with | (r73, S73) => (Sf_M_compares_j77 S73 x1 x2 ((10 : Int32) * r73) x1)))))
theorem t_M_compares_j46 {X : z_X} {Post : Option z_V → z_W → Prop} (M : z_M X zm_M_compares rm_M_compares Post) {T' : Nat → Nat × Nat} {G' : Nat → Nat → Option Nat} {n : Nat} {Q : (Nat → Nat → Int32) → Prop} (S : (Nat → Nat → Int32)) (x1 : Int32) (x2 : Int32) (hQ : ∀ S', Q S' → Post none (zW T' G' S' n)) (K : Q (F_M_compares_j46 S x1 x2)) (hs : Sf_M_compares_j46 S x1 x2) : z_G X zm_M_compares (46, [(0, z_r 78), (1, .inl x1), (2, .inl x2)], [], zW T' G' S n, 0, 0) := by
  unfold F_M_compares_j46 at K
  unfold Sf_M_compares_j46 at hs
  refine z_go2 M.1 46 [(.aload_n 0, 1), (.getfield 163, 3), (.iload_n 1, 1), (.iload_n 2, 1), (.iastore, 1), (.aload_n 0, 1), (.getfield 160, 3), (.iload_n 1, 1), (.iload_n 2, 1), (.bipush 120, 2)] (61, [(0, z_r 78), (1, .inl x1), (2, .inl x2)], [.inl 120, .inl x2, .inl x1, z_r 188], zW T' G' (z_uS S 189 (x1).toNatClampNeg x2) n, 0, 0) (by decide +kernel) rfl ⟨trivial, rfl, trivial, trivial, ⟨rfl, hs.1⟩, trivial, rfl, trivial, trivial, trivial, trivial⟩ ?_
  replace hs := hs.2
  refine z_icmp_ne 68 M.1 (off := 7) (by decide +kernel) (by decide) (fun c61 => ?_) (fun c61 => ?_)
  · rw [if_neg c61] at K hs
    refine z_go2 M.1 68 [(.bipush 10, 2), (.aload_n 0, 1), (.bipush 9, 2)] (73, [(0, z_r 78), (1, .inl x1), (2, .inl x2)], [.inl 9, z_r 78, .inl 10, .inl x1, z_r 188], zW T' G' (z_uS S 189 (x1).toNatClampNeg x2) n, 0, 0) (by decide +kernel) rfl ⟨trivial, trivial, trivial, trivial⟩ ?_
    refine z_callV M.1 (av := [.inl 9]) (st := [.inl 10, .inl x1, z_r 188]) (a := 78) (ci := 14) (by decide +kernel) (c_M_digit T' G' (z_uS S 189 (x1).toNatClampNeg x2) n 9 hs.1) M.2.1 zl_M_398 zv_M_digit rfl rfl rfl ⟨by decide, by decide, by decide, by decide⟩ rfl (Nat.le_of_ble_eq_true rfl) (fun v w' hv => ?_)
    replace hs := hs.2
    rcases hF73 : F_M_digit (z_uS S 189 (x1).toNatClampNeg x2) 9 with ⟨r73, S73⟩
    rw [hF73] at K hv
    try rw [hF73] at hs
    try dsimp only at K hs
    obtain ⟨rfl, rfl⟩ := hv
    show z_G X zm_M_compares (76, [(0, z_r 78), (1, .inl x1), (2, .inl x2)], [.inl r73, .inl 10, .inl x1, z_r 188], zW T' G' S73 n, 0, 0)
    refine z_go2 M.1 76 [(.imul, 1)] (77, [(0, z_r 78), (1, .inl x1), (2, .inl x2)], [.inl ((10 : Int32) * r73), .inl x1, z_r 188], zW T' G' S73 n, 0, 0) (by decide +kernel) rfl ⟨trivial, trivial⟩ ?_
    exact z_lvs (lv' := [(0, z_r 78), (1, .inl x1), (2, .inl x2)]) [0, 1, 2] rfl (t_M_compares_j77 M S73 x1 x2 ((10 : Int32) * r73) x1 hQ K hs)
  · rw [if_pos c61] at K hs
    refine z_go2 M.1 64 [(.iconst 0, 1), (.goto 12, 3)] (77, [(0, z_r 78), (1, .inl x1), (2, .inl x2)], [.inl 0, .inl x1, z_r 188], zW T' G' (z_uS S 189 (x1).toNatClampNeg x2) n, 0, 0) (by decide +kernel) rfl ⟨trivial, trivial, trivial⟩ ?_
    exact z_lvs (lv' := [(0, z_r 78), (1, .inl x1), (2, .inl x2)]) [0, 1, 2] rfl (t_M_compares_j77 M (z_uS S 189 (x1).toNatClampNeg x2) x1 x2 0 x1 hQ K hs)
def F_M_compares_j29 (S : (Nat → Nat → Int32)) (x1 : Int32) (x2 : Int32) : (Nat → Nat → Int32) := (F_M_compares_j46 (z_uS S 78 52 ((S 78 52) + 1)) x1 x2)
def Sf_M_compares_j29 (S : (Nat → Nat → Int32)) (x1 : Int32) (x2 : Int32) : Prop := (Sf_M_compares_j46 (z_uS S 78 52 ((S 78 52) + 1)) x1 x2)
theorem t_M_compares_j29 {X : z_X} {Post : Option z_V → z_W → Prop} (M : z_M X zm_M_compares rm_M_compares Post) {T' : Nat → Nat × Nat} {G' : Nat → Nat → Option Nat} {n : Nat} {Q : (Nat → Nat → Int32) → Prop} (S : (Nat → Nat → Int32)) (x1 : Int32) (x2 : Int32) (hQ : ∀ S', Q S' → Post none (zW T' G' S' n)) (K : Q (F_M_compares_j29 S x1 x2)) (hs : Sf_M_compares_j29 S x1 x2) : z_G X zm_M_compares (29, [(0, z_r 78), (1, .inl x1), (2, .inl x2)], [], zW T' G' S n, 0, 0) := by
  unfold F_M_compares_j29 at K
  unfold Sf_M_compares_j29 at hs
  refine z_go2 M.1 29 [(.aload_n 0, 1), (.dup, 1), (.getfield 380, 3), (.iconst 1, 1), (.iadd, 1), (.putfield 380, 3), (.goto 7, 3)] (46, [(0, z_r 78), (1, .inl x1), (2, .inl x2)], [], zW T' G' (z_uS S 78 52 ((S 78 52) + 1)) n, 0, 0) (by decide +kernel) rfl ⟨trivial, rfl, rfl, trivial, trivial, ⟨rfl, trivial⟩, trivial, trivial⟩ ?_
  exact z_lvs (lv' := [(0, z_r 78), (1, .inl x1), (2, .inl x2)]) [0, 1, 2] rfl (t_M_compares_j46 M (z_uS S 78 52 ((S 78 52) + 1)) x1 x2 hQ K hs)
def F_M_compares (S : (Nat → Nat → Int32)) (p1 : Int32) : (Nat → Nat → Int32) := (if (F_M_sign S) = 120 then (F_M_compares_j29 S p1 (F_M_sign S)) else (if (F_M_sign S) = 62 then (F_M_compares_j29 S p1 (F_M_sign S)) else (if (F_M_sign S) = 60 then (F_M_compares_j29 S p1 (F_M_sign S)) else (if (F_M_sign S) = 61 then (F_M_compares_j29 S p1 (F_M_sign S)) else (z_let (F_M_fails S) (fun S43 => (if (F_M_sign S) = 120 then (F_M_compares_j77 (z_uS S43 189 (p1).toNatClampNeg (F_M_sign S)) p1 (F_M_sign S) 0 p1) else (match F_M_digit (z_uS S43 189 (p1).toNatClampNeg (F_M_sign S)) 9 with | (r73, S73) => (F_M_compares_j77 S73 p1 (F_M_sign S) ((10 : Int32) * r73) p1)))))))))
def Sf_M_compares (S : (Nat → Nat → Int32)) (p1 : Int32) : Prop := (Sf_M_sign S ∧ (if (F_M_sign S) = 120 then (Sf_M_compares_j29 S p1 (F_M_sign S)) else (if (F_M_sign S) = 62 then (Sf_M_compares_j29 S p1 (F_M_sign S)) else (if (F_M_sign S) = 60 then (Sf_M_compares_j29 S p1 (F_M_sign S)) else (if (F_M_sign S) = 61 then (Sf_M_compares_j29 S p1 (F_M_sign S)) else (z_let (F_M_fails S) (fun S43 => ((vp_in p1 31) ∧ (if (F_M_sign S) = 120 then (Sf_M_compares_j77 (z_uS S43 189 (p1).toNatClampNeg (F_M_sign S)) p1 (F_M_sign S) 0 p1) else (Sf_M_digit (z_uS S43 189 (p1).toNatClampNeg (F_M_sign S)) 9 ∧ (match F_M_digit (z_uS S43 189 (p1).toNatClampNeg (F_M_sign S)) 9 with | (r73, S73) => (Sf_M_compares_j77 S73 p1 (F_M_sign S) ((10 : Int32) * r73) p1))))))))))))
theorem c_M_compares (T' : Nat → Nat × Nat) (G' : Nat → Nat → Option Nat) (S : (Nat → Nat → Int32)) (n : Nat) (p1 : Int32) (hs : Sf_M_compares S p1) : z_Run rm_M_compares zm_M_compares [z_r 78, .inl p1] (zW T' G' S n) (zq none (zW T' G' (F_M_compares S p1) n)) := by
  refine z_body (by decide) zf_M_ok (Nat.le_of_ble_eq_true rfl) (fun X M => ?_)
  obtain ⟨Q, hQ, K⟩ : ∃ Q : (Nat → Nat → Int32) → Prop, (∀ S', Q S' → zq none (zW T' G' (F_M_compares S p1) n) none (zW T' G' S' n)) ∧ Q (F_M_compares S p1) := ⟨fun o => F_M_compares S p1 = o, fun S' h => ⟨rfl, by rw [h]⟩, rfl⟩
  show z_G X zm_M_compares (0, [(0, z_r 78), (1, .inl p1)], [], zW T' G' S n, 0, 0)
  unfold F_M_compares at K
  unfold Sf_M_compares at hs
  refine z_go2 M.1 0 [(.aload_n 0, 1)] (1, [(0, z_r 78), (1, .inl p1)], [z_r 78], zW T' G' S n, 0, 0) (by decide +kernel) rfl ⟨trivial, trivial⟩ ?_
  refine z_callV M.1 (av := []) (st := []) (a := 78) (ci := 14) (by decide +kernel) (c_M_sign T' G' S n hs.1) M.2.1 zl_M_383 zv_M_sign rfl rfl rfl ⟨by decide, by decide, by decide, by decide⟩ rfl (Nat.le_of_ble_eq_true rfl) (fun v w' hv => ?_)
  obtain ⟨rfl, rfl⟩ := hv
  replace hs := hs.2
  show z_G X zm_M_compares (4, [(0, z_r 78), (1, .inl p1)], [.inl (F_M_sign S)], zW T' G' S n, 0, 0)
  refine z_go2 M.1 4 [(.istore_n 2, 1), (.iload_n 2, 1), (.bipush 120, 2)] (8, [(2, .inl (F_M_sign S)), (0, z_r 78), (1, .inl p1)], [.inl 120, .inl (F_M_sign S)], zW T' G' S n, 0, 0) (by decide +kernel) rfl ⟨trivial, trivial, trivial, trivial⟩ ?_
  refine z_icmp_eq 29 M.1 (off := 21) (by decide +kernel) (by decide) (fun c8 => ?_) (fun c8 => ?_)
  · rw [if_pos c8] at K hs
    exact z_lvs (lv' := [(0, z_r 78), (1, .inl p1), (2, .inl (F_M_sign S))]) [1, 2, 0] rfl (t_M_compares_j29 M S p1 (F_M_sign S) hQ K hs)
  · rw [if_neg c8] at K hs
    refine z_go2 M.1 11 [(.iload_n 2, 1), (.bipush 62, 2)] (14, [(2, .inl (F_M_sign S)), (0, z_r 78), (1, .inl p1)], [.inl 62, .inl (F_M_sign S)], zW T' G' S n, 0, 0) (by decide +kernel) rfl ⟨trivial, trivial, trivial⟩ ?_
    refine z_icmp_eq 29 M.1 (off := 15) (by decide +kernel) (by decide) (fun c14 => ?_) (fun c14 => ?_)
    · rw [if_pos c14] at K hs
      exact z_lvs (lv' := [(0, z_r 78), (1, .inl p1), (2, .inl (F_M_sign S))]) [1, 2, 0] rfl (t_M_compares_j29 M S p1 (F_M_sign S) hQ K hs)
    · rw [if_neg c14] at K hs
      refine z_go2 M.1 17 [(.iload_n 2, 1), (.bipush 60, 2)] (20, [(2, .inl (F_M_sign S)), (0, z_r 78), (1, .inl p1)], [.inl 60, .inl (F_M_sign S)], zW T' G' S n, 0, 0) (by decide +kernel) rfl ⟨trivial, trivial, trivial⟩ ?_
      refine z_icmp_eq 29 M.1 (off := 9) (by decide +kernel) (by decide) (fun c20 => ?_) (fun c20 => ?_)
      · rw [if_pos c20] at K hs
        exact z_lvs (lv' := [(0, z_r 78), (1, .inl p1), (2, .inl (F_M_sign S))]) [1, 2, 0] rfl (t_M_compares_j29 M S p1 (F_M_sign S) hQ K hs)
      · rw [if_neg c20] at K hs
        refine z_go2 M.1 23 [(.iload_n 2, 1), (.bipush 61, 2)] (26, [(2, .inl (F_M_sign S)), (0, z_r 78), (1, .inl p1)], [.inl 61, .inl (F_M_sign S)], zW T' G' S n, 0, 0) (by decide +kernel) rfl ⟨trivial, trivial, trivial⟩ ?_
        refine z_icmp_ne 42 M.1 (off := 16) (by decide +kernel) (by decide) (fun c26 => ?_) (fun c26 => ?_)
        · rw [if_neg c26] at K hs
          refine z_go2 M.1 42 [(.aload_n 0, 1)] (43, [(2, .inl (F_M_sign S)), (0, z_r 78), (1, .inl p1)], [z_r 78], zW T' G' S n, 0, 0) (by decide +kernel) rfl ⟨trivial, trivial⟩ ?_
          refine z_callV M.1 (av := []) (st := []) (a := 78) (ci := 14) (by decide +kernel) (c_M_fails T' G' S n) M.2.1 zl_M_387 zv_M_fails rfl rfl rfl ⟨by decide, by decide, by decide, by decide⟩ rfl (Nat.le_of_ble_eq_true rfl) (fun v w' hv => ?_)
          obtain ⟨S43, hF43⟩ : ∃ y, F_M_fails S = y := ⟨_, rfl⟩
          rw [hF43] at K hv
          try rw [hF43] at hs
          try dsimp only [z_let] at K hs
          obtain ⟨rfl, rfl⟩ := hv
          show z_G X zm_M_compares (46, [(2, .inl (F_M_sign S)), (0, z_r 78), (1, .inl p1)], [], zW T' G' S43 n, 0, 0)
          refine z_go2 M.1 46 [(.aload_n 0, 1), (.getfield 163, 3), (.iload_n 1, 1), (.iload_n 2, 1), (.iastore, 1), (.aload_n 0, 1), (.getfield 160, 3), (.iload_n 1, 1), (.iload_n 2, 1), (.bipush 120, 2)] (61, [(2, .inl (F_M_sign S)), (0, z_r 78), (1, .inl p1)], [.inl 120, .inl (F_M_sign S), .inl p1, z_r 188], zW T' G' (z_uS S43 189 (p1).toNatClampNeg (F_M_sign S)) n, 0, 0) (by decide +kernel) rfl ⟨trivial, rfl, trivial, trivial, ⟨rfl, hs.1⟩, trivial, rfl, trivial, trivial, trivial, trivial⟩ ?_
          replace hs := hs.2
          refine z_icmp_ne 68 M.1 (off := 7) (by decide +kernel) (by decide) (fun c61 => ?_) (fun c61 => ?_)
          · rw [if_neg c61] at K hs
            refine z_go2 M.1 68 [(.bipush 10, 2), (.aload_n 0, 1), (.bipush 9, 2)] (73, [(2, .inl (F_M_sign S)), (0, z_r 78), (1, .inl p1)], [.inl 9, z_r 78, .inl 10, .inl p1, z_r 188], zW T' G' (z_uS S43 189 (p1).toNatClampNeg (F_M_sign S)) n, 0, 0) (by decide +kernel) rfl ⟨trivial, trivial, trivial, trivial⟩ ?_
            refine z_callV M.1 (av := [.inl 9]) (st := [.inl 10, .inl p1, z_r 188]) (a := 78) (ci := 14) (by decide +kernel) (c_M_digit T' G' (z_uS S43 189 (p1).toNatClampNeg (F_M_sign S)) n 9 hs.1) M.2.1 zl_M_398 zv_M_digit rfl rfl rfl ⟨by decide, by decide, by decide, by decide⟩ rfl (Nat.le_of_ble_eq_true rfl) (fun v w' hv => ?_)
            replace hs := hs.2
            rcases hF73 : F_M_digit (z_uS S43 189 (p1).toNatClampNeg (F_M_sign S)) 9 with ⟨r73, S73⟩
            rw [hF73] at K hv
            try rw [hF73] at hs
            try dsimp only at K hs
            obtain ⟨rfl, rfl⟩ := hv
            show z_G X zm_M_compares (76, [(2, .inl (F_M_sign S)), (0, z_r 78), (1, .inl p1)], [.inl r73, .inl 10, .inl p1, z_r 188], zW T' G' S73 n, 0, 0)
            refine z_go2 M.1 76 [(.imul, 1)] (77, [(2, .inl (F_M_sign S)), (0, z_r 78), (1, .inl p1)], [.inl ((10 : Int32) * r73), .inl p1, z_r 188], zW T' G' S73 n, 0, 0) (by decide +kernel) rfl ⟨trivial, trivial⟩ ?_
            exact z_lvs (lv' := [(0, z_r 78), (1, .inl p1), (2, .inl (F_M_sign S))]) [1, 2, 0] rfl (t_M_compares_j77 M S73 p1 (F_M_sign S) ((10 : Int32) * r73) p1 hQ K hs)
          · rw [if_pos c61] at K hs
            refine z_go2 M.1 64 [(.iconst 0, 1), (.goto 12, 3)] (77, [(2, .inl (F_M_sign S)), (0, z_r 78), (1, .inl p1)], [.inl 0, .inl p1, z_r 188], zW T' G' (z_uS S43 189 (p1).toNatClampNeg (F_M_sign S)) n, 0, 0) (by decide +kernel) rfl ⟨trivial, trivial, trivial⟩ ?_
            exact z_lvs (lv' := [(0, z_r 78), (1, .inl p1), (2, .inl (F_M_sign S))]) [1, 2, 0] rfl (t_M_compares_j77 M (z_uS S43 189 (p1).toNatClampNeg (F_M_sign S)) p1 (F_M_sign S) 0 p1 hQ K hs)
        · rw [if_pos c26] at K hs
          exact z_lvs (lv' := [(0, z_r 78), (1, .inl p1), (2, .inl (F_M_sign S))]) [1, 2, 0] rfl (t_M_compares_j29 M S p1 (F_M_sign S) hQ K hs)


-- TrackHouseModel.within
abbrev rm_M_within (dq : Nat) : Room := zr (dq + 2)
def F_M_within_j23 (rq : (Nat → Nat → Int32) → Int32 × (Nat → Nat → Int32)) (S : (Nat → Nat → Int32)) (s0 : Int32) : (Int32 × (Nat → Nat → Int32)) := (match F_M_takes S 93 with | (r27, S27) => (s0, S27))
def Sf_M_within_j23 (rq : (Nat → Nat → Int32) → Int32 × (Nat → Nat → Int32)) (sq : (Nat → Nat → Int32) → Prop) (S : (Nat → Nat → Int32)) (s0 : Int32) : Prop := (Sf_M_takes S 93 ∧ True)
theorem t_M_within_j23 {X : z_X} {Post : Option z_V → z_W → Prop} {dq : Nat} (M : z_M X zm_M_within (rm_M_within dq) Post) {T' : Nat → Nat × Nat} {G' : Nat → Nat → Option Nat} {n : Nat} (rq : (Nat → Nat → Int32) → Int32 × (Nat → Nat → Int32)) (sq : (Nat → Nat → Int32) → Prop) (hRq : zRq dq rq sq) {Q : (Int32 × (Nat → Nat → Int32)) → Prop} (S : (Nat → Nat → Int32)) (s0 : Int32) (hQ : ∀ v S', Q (v, S') → Post (some (.inl v)) (zW T' G' S' n)) (K : Q (F_M_within_j23 rq S s0)) (hs : Sf_M_within_j23 rq sq S s0) : z_G X zm_M_within (23, [(0, z_r 78)], [.inl s0], zW T' G' S n, 0, 0) := by
  unfold F_M_within_j23 at K
  unfold Sf_M_within_j23 at hs
  refine z_go2 M.1 23 [(.istore_n 1, 1), (.aload_n 0, 1), (.bipush 93, 2)] (27, [(1, .inl s0), (0, z_r 78)], [.inl 93, z_r 78], zW T' G' S n, 0, 0) (by decide +kernel) rfl ⟨trivial, trivial, trivial, trivial⟩ ?_
  refine z_callV M.1 (av := [.inl 93]) (st := []) (a := 78) (ci := 14) (by decide +kernel) (c_M_takes T' G' S n 93 hs.1) M.2.1 zl_M_390 zv_M_takes rfl rfl rfl ⟨(show 1 + 1 ≤ dq + 2 by omega), (show 8 + (3 + 11) + 40 * 1 ≤ 40 * (dq + 2) by omega), Nat.le_of_ble_eq_true rfl, Nat.le_of_ble_eq_true rfl⟩ rfl (Nat.le_of_ble_eq_true rfl) (fun v w' hv => ?_)
  replace hs := hs.2
  rcases hF27 : F_M_takes S 93 with ⟨r27, S27⟩
  rw [hF27] at K hv
  try dsimp only at K
  obtain ⟨rfl, rfl⟩ := hv
  show z_G X zm_M_within (30, [(1, .inl s0), (0, z_r 78)], [.inl r27], zW T' G' S27 n, 0, 0)
  refine z_go2 M.1 30 [(.pop, 1), (.iload_n 1, 1)] (32, [(1, .inl s0), (0, z_r 78)], [.inl s0], zW T' G' S27 n, 0, 0) (by decide +kernel) rfl ⟨rfl, trivial, trivial⟩ ?_
  exact z_iret M (by decide +kernel) .int rfl rfl (Nat.le_of_ble_eq_true rfl) (Nat.le_of_ble_eq_true rfl) (hQ _ _ K)
def F_M_within (rq : (Nat → Nat → Int32) → Int32 × (Nat → Nat → Int32)) (S : (Nat → Nat → Int32)) : (Int32 × (Nat → Nat → Int32)) := (match F_M_takes S 91 with | (r3, S3) => (if (S3 78 53) = (-1) then (match rq S3 with | (r16, S16) => (F_M_within_j23 rq S16 r16)) else (F_M_within_j23 rq S3 0)))
def Sf_M_within (rq : (Nat → Nat → Int32) → Int32 × (Nat → Nat → Int32)) (sq : (Nat → Nat → Int32) → Prop) (S : (Nat → Nat → Int32)) : Prop := (Sf_M_takes S 91 ∧ (match F_M_takes S 91 with | (r3, S3) => (if (S3 78 53) = (-1) then (sq S3 ∧ (match rq S3 with | (r16, S16) => (Sf_M_within_j23 rq sq S16 r16))) else (Sf_M_within_j23 rq sq S3 0))))
theorem c_M_within (T' : Nat → Nat × Nat) (G' : Nat → Nat → Option Nat) (n : Nat) {dq : Nat} (rq : (Nat → Nat → Int32) → Int32 × (Nat → Nat → Int32)) (sq : (Nat → Nat → Int32) → Prop) (hRq : zRq dq rq sq) (S : (Nat → Nat → Int32)) (hs : Sf_M_within rq sq S) : z_Run (rm_M_within dq) zm_M_within [z_r 78] (zW T' G' S n) (zq (some (.inl (F_M_within rq S).1)) (zW T' G' (F_M_within rq S).2 n)) := by
  refine z_body (by decide) zf_M_ok (Nat.le_of_ble_eq_true rfl) (fun X M => ?_)
  obtain ⟨Q, hQ, K⟩ : ∃ Q : (Int32 × (Nat → Nat → Int32)) → Prop, (∀ v S', Q (v, S') → zq (some (.inl (F_M_within rq S).1)) (zW T' G' (F_M_within rq S).2 n) (some (.inl v)) (zW T' G' S' n)) ∧ Q (F_M_within rq S) := ⟨fun o => F_M_within rq S = o, fun v S' h => ⟨by rw [h], by rw [h]⟩, rfl⟩
  show z_G X zm_M_within (0, [(0, z_r 78)], [], zW T' G' S n, 0, 0)
  unfold F_M_within at K
  unfold Sf_M_within at hs
  refine z_go2 M.1 0 [(.aload_n 0, 1), (.bipush 91, 2)] (3, [(0, z_r 78)], [.inl 91, z_r 78], zW T' G' S n, 0, 0) (by decide +kernel) rfl ⟨trivial, trivial, trivial⟩ ?_
  refine z_callV M.1 (av := [.inl 91]) (st := []) (a := 78) (ci := 14) (by decide +kernel) (c_M_takes T' G' S n 91 hs.1) M.2.1 zl_M_390 zv_M_takes rfl rfl rfl ⟨(show 1 + 1 ≤ dq + 2 by omega), (show 8 + (3 + 11) + 40 * 1 ≤ 40 * (dq + 2) by omega), Nat.le_of_ble_eq_true rfl, Nat.le_of_ble_eq_true rfl⟩ rfl (Nat.le_of_ble_eq_true rfl) (fun v w' hv => ?_)
  replace hs := hs.2
  rcases hF3 : F_M_takes S 91 with ⟨r3, S3⟩
  rw [hF3] at K hv
  try rw [hF3] at hs
  try dsimp only at K hs
  obtain ⟨rfl, rfl⟩ := hv
  show z_G X zm_M_within (6, [(0, z_r 78)], [.inl r3], zW T' G' S3 n, 0, 0)
  refine z_go2 M.1 6 [(.pop, 1), (.aload_n 0, 1), (.getfield 377, 3), (.iconst (-1), 1)] (12, [(0, z_r 78)], [.inl (-1), .inl (S3 78 53)], zW T' G' S3 n, 0, 0) (by decide +kernel) rfl ⟨rfl, trivial, rfl, trivial, trivial⟩ ?_
  refine z_icmp_ne 22 M.1 (off := 10) (by decide +kernel) (by decide) (fun c12 => ?_) (fun c12 => ?_)
  · rw [if_neg c12] at K hs
    refine z_go2 M.1 22 [(.iconst 0, 1)] (23, [(0, z_r 78)], [.inl 0], zW T' G' S3 n, 0, 0) (by decide +kernel) rfl ⟨trivial, trivial⟩ ?_
    exact z_lvs (lv' := [(0, z_r 78)]) [0] rfl (t_M_within_j23 M rq sq hRq S3 0 hQ K hs)
  · rw [if_pos c12] at K hs
    refine z_go2 M.1 15 [(.aload_n 0, 1)] (16, [(0, z_r 78)], [z_r 78], zW T' G' S3 n, 0, 0) (by decide +kernel) rfl ⟨trivial, trivial⟩ ?_
    refine z_callV M.1 (av := []) (st := []) (a := 78) (ci := 14) (by decide +kernel) (hRq T' G' n S3 hs.1) M.2.1 zl_M_394 zv_M_query rfl rfl rfl ⟨(show dq + 1 ≤ dq + 2 by omega), (show 8 + (4 + 11) + 40 * dq ≤ 40 * (dq + 2) by omega), Nat.le_of_ble_eq_true rfl, Nat.le_of_ble_eq_true rfl⟩ rfl (Nat.le_of_ble_eq_true rfl) (fun v w' hv => ?_)
    replace hs := hs.2
    rcases hF16 : rq S3 with ⟨r16, S16⟩
    rw [hF16] at K hv
    try rw [hF16] at hs
    try dsimp only at K hs
    obtain ⟨rfl, rfl⟩ := hv
    show z_G X zm_M_within (19, [(0, z_r 78)], [.inl r16], zW T' G' S16 n, 0, 0)
    refine z_go2 M.1 19 [(.goto 4, 3)] (23, [(0, z_r 78)], [.inl r16], zW T' G' S16 n, 0, 0) (by decide +kernel) rfl ⟨trivial, trivial⟩ ?_
    exact z_lvs (lv' := [(0, z_r 78)]) [0] rfl (t_M_within_j23 M rq sq hRq S16 r16 hQ K hs)

-- TrackHouseModel.pair
abbrev rm_M_pair (dq : Nat) : Room := zr (dq + 2)
def F_M_pair_j80 (rq : (Nat → Nat → Int32) → Int32 × (Nat → Nat → Int32)) (S : (Nat → Nat → Int32)) (s0 : Int32) (s1 : Int32) : (Nat → Nat → Int32) := (match F_M_takes (z_uS S 190 (s1).toNatClampNeg s0) 41 with | (r84, S84) => S84)
def Sf_M_pair_j80 (rq : (Nat → Nat → Int32) → Int32 × (Nat → Nat → Int32)) (sq : (Nat → Nat → Int32) → Prop) (S : (Nat → Nat → Int32)) (s0 : Int32) (s1 : Int32) : Prop := ((vp_in s1 31) ∧ (Sf_M_takes (z_uS S 190 (s1).toNatClampNeg s0) 41 ∧ True))
theorem t_M_pair_j80 {X : z_X} {Post : Option z_V → z_W → Prop} {dq : Nat} (M : z_M X zm_M_pair (rm_M_pair dq) Post) {T' : Nat → Nat × Nat} {G' : Nat → Nat → Option Nat} {n : Nat} (rq : (Nat → Nat → Int32) → Int32 × (Nat → Nat → Int32)) (sq : (Nat → Nat → Int32) → Prop) (hRq : zRq dq rq sq) {Q : (Nat → Nat → Int32) → Prop} (S : (Nat → Nat → Int32)) (s0 : Int32) (s1 : Int32) (hQ : ∀ S', Q S' → Post none (zW T' G' S' n)) (K : Q (F_M_pair_j80 rq S s0 s1)) (hs : Sf_M_pair_j80 rq sq S s0 s1) : z_G X zm_M_pair (80, [(0, z_r 78)], [.inl s0, .inl s1, z_r 190], zW T' G' S n, 0, 0) := by
  unfold F_M_pair_j80 at K
  unfold Sf_M_pair_j80 at hs
  refine z_go2 M.1 80 [(.iastore, 1), (.aload_n 0, 1), (.bipush 41, 2)] (84, [(0, z_r 78)], [.inl 41, z_r 78], zW T' G' (z_uS S 190 (s1).toNatClampNeg s0) n, 0, 0) (by decide +kernel) rfl ⟨⟨rfl, hs.1⟩, trivial, trivial, trivial⟩ ?_
  replace hs := hs.2
  refine z_callV M.1 (av := [.inl 41]) (st := []) (a := 78) (ci := 14) (by decide +kernel) (c_M_takes T' G' (z_uS S 190 (s1).toNatClampNeg s0) n 41 hs.1) M.2.1 zl_M_390 zv_M_takes rfl rfl rfl ⟨(show 1 + 1 ≤ dq + 2 by omega), (show 8 + (3 + 11) + 40 * 1 ≤ 40 * (dq + 2) by omega), Nat.le_of_ble_eq_true rfl, Nat.le_of_ble_eq_true rfl⟩ rfl (Nat.le_of_ble_eq_true rfl) (fun v w' hv => ?_)
  replace hs := hs.2
  rcases hF84 : F_M_takes (z_uS S 190 (s1).toNatClampNeg s0) 41 with ⟨r84, S84⟩
  rw [hF84] at K hv
  try dsimp only at K
  obtain ⟨rfl, rfl⟩ := hv
  show z_G X zm_M_pair (87, [(0, z_r 78)], [.inl r84], zW T' G' S84 n, 0, 0)
  refine z_go2 M.1 87 [(.pop, 1)] (88, [(0, z_r 78)], [], zW T' G' S84 n, 0, 0) (by decide +kernel) rfl ⟨rfl, trivial⟩ ?_
  exact z_vret M (by decide +kernel) rfl (Nat.le_of_ble_eq_true rfl) (Nat.le_of_ble_eq_true rfl) (hQ _ K)
def F_M_pair_j55 (rq : (Nat → Nat → Int32) → Int32 × (Nat → Nat → Int32)) (S : (Nat → Nat → Int32)) (x1 : Int32) : (Nat → Nat → Int32) := (z_let (F_M_fails S) (fun S56 => (if (S56 78 53) = (-1) then (match rq S56 with | (r73, S73) => (F_M_pair_j80 rq S73 r73 x1)) else (F_M_pair_j80 rq S56 0 x1))))
def Sf_M_pair_j55 (rq : (Nat → Nat → Int32) → Int32 × (Nat → Nat → Int32)) (sq : (Nat → Nat → Int32) → Prop) (S : (Nat → Nat → Int32)) (x1 : Int32) : Prop := (z_let (F_M_fails S) (fun S56 => (if (S56 78 53) = (-1) then (sq S56 ∧ (match rq S56 with | (r73, S73) => (Sf_M_pair_j80 rq sq S73 r73 x1))) else (Sf_M_pair_j80 rq sq S56 0 x1))))
theorem t_M_pair_j55 {X : z_X} {Post : Option z_V → z_W → Prop} {dq : Nat} (M : z_M X zm_M_pair (rm_M_pair dq) Post) {T' : Nat → Nat × Nat} {G' : Nat → Nat → Option Nat} {n : Nat} (rq : (Nat → Nat → Int32) → Int32 × (Nat → Nat → Int32)) (sq : (Nat → Nat → Int32) → Prop) (hRq : zRq dq rq sq) {Q : (Nat → Nat → Int32) → Prop} (S : (Nat → Nat → Int32)) (x1 : Int32) (hQ : ∀ S', Q S' → Post none (zW T' G' S' n)) (K : Q (F_M_pair_j55 rq S x1)) (hs : Sf_M_pair_j55 rq sq S x1) : z_G X zm_M_pair (55, [(0, z_r 78), (1, .inl x1)], [], zW T' G' S n, 0, 0) := by
  unfold F_M_pair_j55 at K
  unfold Sf_M_pair_j55 at hs
  refine z_go2 M.1 55 [(.aload_n 0, 1)] (56, [(0, z_r 78), (1, .inl x1)], [z_r 78], zW T' G' S n, 0, 0) (by decide +kernel) rfl ⟨trivial, trivial⟩ ?_
  refine z_callV M.1 (av := []) (st := []) (a := 78) (ci := 14) (by decide +kernel) (c_M_fails T' G' S n) M.2.1 zl_M_387 zv_M_fails rfl rfl rfl ⟨(show 0 + 1 ≤ dq + 2 by omega), (show 8 + (1 + 11) + 40 * 0 ≤ 40 * (dq + 2) by omega), Nat.le_of_ble_eq_true rfl, Nat.le_of_ble_eq_true rfl⟩ rfl (Nat.le_of_ble_eq_true rfl) (fun v w' hv => ?_)
  obtain ⟨S56, hF56⟩ : ∃ y, F_M_fails S = y := ⟨_, rfl⟩
  rw [hF56] at K hv
  try rw [hF56] at hs
  try dsimp only [z_let] at K hs
  obtain ⟨rfl, rfl⟩ := hv
  show z_G X zm_M_pair (59, [(0, z_r 78), (1, .inl x1)], [], zW T' G' S56 n, 0, 0)
  refine z_go2 M.1 59 [(.aload_n 0, 1), (.getfield 166, 3), (.iload_n 1, 1), (.aload_n 0, 1), (.getfield 377, 3), (.iconst (-1), 1)] (69, [(0, z_r 78), (1, .inl x1)], [.inl (-1), .inl (S56 78 53), .inl x1, z_r 190], zW T' G' S56 n, 0, 0) (by decide +kernel) rfl ⟨trivial, rfl, trivial, trivial, rfl, trivial, trivial⟩ ?_
  refine z_icmp_ne 79 M.1 (off := 10) (by decide +kernel) (by decide) (fun c69 => ?_) (fun c69 => ?_)
  · rw [if_neg c69] at K hs
    refine z_go2 M.1 79 [(.iconst 0, 1)] (80, [(0, z_r 78), (1, .inl x1)], [.inl 0, .inl x1, z_r 190], zW T' G' S56 n, 0, 0) (by decide +kernel) rfl ⟨trivial, trivial⟩ ?_
    exact z_lvs (lv' := [(0, z_r 78)]) [0] rfl (t_M_pair_j80 M rq sq hRq S56 0 x1 hQ K hs)
  · rw [if_pos c69] at K hs
    refine z_go2 M.1 72 [(.aload_n 0, 1)] (73, [(0, z_r 78), (1, .inl x1)], [z_r 78, .inl x1, z_r 190], zW T' G' S56 n, 0, 0) (by decide +kernel) rfl ⟨trivial, trivial⟩ ?_
    refine z_callV M.1 (av := []) (st := [.inl x1, z_r 190]) (a := 78) (ci := 14) (by decide +kernel) (hRq T' G' n S56 hs.1) M.2.1 zl_M_394 zv_M_query rfl rfl rfl ⟨(show dq + 1 ≤ dq + 2 by omega), (show 8 + (4 + 11) + 40 * dq ≤ 40 * (dq + 2) by omega), Nat.le_of_ble_eq_true rfl, Nat.le_of_ble_eq_true rfl⟩ rfl (Nat.le_of_ble_eq_true rfl) (fun v w' hv => ?_)
    replace hs := hs.2
    rcases hF73 : rq S56 with ⟨r73, S73⟩
    rw [hF73] at K hv
    try rw [hF73] at hs
    try dsimp only at K hs
    obtain ⟨rfl, rfl⟩ := hv
    show z_G X zm_M_pair (76, [(0, z_r 78), (1, .inl x1)], [.inl r73, .inl x1, z_r 190], zW T' G' S73 n, 0, 0)
    refine z_go2 M.1 76 [(.goto 4, 3)] (80, [(0, z_r 78), (1, .inl x1)], [.inl r73, .inl x1, z_r 190], zW T' G' S73 n, 0, 0) (by decide +kernel) rfl ⟨trivial, trivial⟩ ?_
    exact z_lvs (lv' := [(0, z_r 78)]) [0] rfl (t_M_pair_j80 M rq sq hRq S73 r73 x1 hQ K hs)
def F_M_pair_j59 (rq : (Nat → Nat → Int32) → Int32 × (Nat → Nat → Int32)) (S : (Nat → Nat → Int32)) (x1 : Int32) : (Nat → Nat → Int32) := (if (S 78 53) = (-1) then (match rq S with | (r73, S73) => (F_M_pair_j80 rq S73 r73 x1)) else (F_M_pair_j80 rq S 0 x1))
def Sf_M_pair_j59 (rq : (Nat → Nat → Int32) → Int32 × (Nat → Nat → Int32)) (sq : (Nat → Nat → Int32) → Prop) (S : (Nat → Nat → Int32)) (x1 : Int32) : Prop := (if (S 78 53) = (-1) then (sq S ∧ (match rq S with | (r73, S73) => (Sf_M_pair_j80 rq sq S73 r73 x1))) else (Sf_M_pair_j80 rq sq S 0 x1))
theorem t_M_pair_j59 {X : z_X} {Post : Option z_V → z_W → Prop} {dq : Nat} (M : z_M X zm_M_pair (rm_M_pair dq) Post) {T' : Nat → Nat × Nat} {G' : Nat → Nat → Option Nat} {n : Nat} (rq : (Nat → Nat → Int32) → Int32 × (Nat → Nat → Int32)) (sq : (Nat → Nat → Int32) → Prop) (hRq : zRq dq rq sq) {Q : (Nat → Nat → Int32) → Prop} (S : (Nat → Nat → Int32)) (x1 : Int32) (hQ : ∀ S', Q S' → Post none (zW T' G' S' n)) (K : Q (F_M_pair_j59 rq S x1)) (hs : Sf_M_pair_j59 rq sq S x1) : z_G X zm_M_pair (59, [(0, z_r 78), (1, .inl x1)], [], zW T' G' S n, 0, 0) := by
  unfold F_M_pair_j59 at K
  unfold Sf_M_pair_j59 at hs
  refine z_go2 M.1 59 [(.aload_n 0, 1), (.getfield 166, 3), (.iload_n 1, 1), (.aload_n 0, 1), (.getfield 377, 3), (.iconst (-1), 1)] (69, [(0, z_r 78), (1, .inl x1)], [.inl (-1), .inl (S 78 53), .inl x1, z_r 190], zW T' G' S n, 0, 0) (by decide +kernel) rfl ⟨trivial, rfl, trivial, trivial, rfl, trivial, trivial⟩ ?_
  refine z_icmp_ne 79 M.1 (off := 10) (by decide +kernel) (by decide) (fun c69 => ?_) (fun c69 => ?_)
  · rw [if_neg c69] at K hs
    refine z_go2 M.1 79 [(.iconst 0, 1)] (80, [(0, z_r 78), (1, .inl x1)], [.inl 0, .inl x1, z_r 190], zW T' G' S n, 0, 0) (by decide +kernel) rfl ⟨trivial, trivial⟩ ?_
    exact z_lvs (lv' := [(0, z_r 78)]) [0] rfl (t_M_pair_j80 M rq sq hRq S 0 x1 hQ K hs)
  · rw [if_pos c69] at K hs
    refine z_go2 M.1 72 [(.aload_n 0, 1)] (73, [(0, z_r 78), (1, .inl x1)], [z_r 78, .inl x1, z_r 190], zW T' G' S n, 0, 0) (by decide +kernel) rfl ⟨trivial, trivial⟩ ?_
    refine z_callV M.1 (av := []) (st := [.inl x1, z_r 190]) (a := 78) (ci := 14) (by decide +kernel) (hRq T' G' n S hs.1) M.2.1 zl_M_394 zv_M_query rfl rfl rfl ⟨(show dq + 1 ≤ dq + 2 by omega), (show 8 + (4 + 11) + 40 * dq ≤ 40 * (dq + 2) by omega), Nat.le_of_ble_eq_true rfl, Nat.le_of_ble_eq_true rfl⟩ rfl (Nat.le_of_ble_eq_true rfl) (fun v w' hv => ?_)
    replace hs := hs.2
    rcases hF73 : rq S with ⟨r73, S73⟩
    rw [hF73] at K hv
    try rw [hF73] at hs
    try dsimp only at K hs
    obtain ⟨rfl, rfl⟩ := hv
    show z_G X zm_M_pair (76, [(0, z_r 78), (1, .inl x1)], [.inl r73, .inl x1, z_r 190], zW T' G' S73 n, 0, 0)
    refine z_go2 M.1 76 [(.goto 4, 3)] (80, [(0, z_r 78), (1, .inl x1)], [.inl r73, .inl x1, z_r 190], zW T' G' S73 n, 0, 0) (by decide +kernel) rfl ⟨trivial, trivial⟩ ?_
    exact z_lvs (lv' := [(0, z_r 78)]) [0] rfl (t_M_pair_j80 M rq sq hRq S73 r73 x1 hQ K hs)
def F_M_pair_j35 (rq : (Nat → Nat → Int32) → Int32 × (Nat → Nat → Int32)) (S : (Nat → Nat → Int32)) (x1 : Int32) (x2 : Int32) : (Nat → Nat → Int32) := (F_M_pair_j59 rq (z_uS (z_uS S 187 (x1).toNatClampNeg x2) 78 52 ((S 78 52) + 1)) x1)
def Sf_M_pair_j35 (rq : (Nat → Nat → Int32) → Int32 × (Nat → Nat → Int32)) (sq : (Nat → Nat → Int32) → Prop) (S : (Nat → Nat → Int32)) (x1 : Int32) (x2 : Int32) : Prop := ((vp_in x1 31) ∧ (Sf_M_pair_j59 rq sq (z_uS (z_uS S 187 (x1).toNatClampNeg x2) 78 52 ((S 78 52) + 1)) x1))
theorem t_M_pair_j35 {X : z_X} {Post : Option z_V → z_W → Prop} {dq : Nat} (M : z_M X zm_M_pair (rm_M_pair dq) Post) {T' : Nat → Nat × Nat} {G' : Nat → Nat → Option Nat} {n : Nat} (rq : (Nat → Nat → Int32) → Int32 × (Nat → Nat → Int32)) (sq : (Nat → Nat → Int32) → Prop) (hRq : zRq dq rq sq) {Q : (Nat → Nat → Int32) → Prop} (S : (Nat → Nat → Int32)) (x1 : Int32) (x2 : Int32) (hQ : ∀ S', Q S' → Post none (zW T' G' S' n)) (K : Q (F_M_pair_j35 rq S x1 x2)) (hs : Sf_M_pair_j35 rq sq S x1 x2) : z_G X zm_M_pair (35, [(0, z_r 78), (1, .inl x1), (2, .inl x2)], [], zW T' G' S n, 0, 0) := by
  unfold F_M_pair_j35 at K
  unfold Sf_M_pair_j35 at hs
  refine z_go2 M.1 35 [(.aload_n 0, 1), (.getfield 157, 3), (.iload_n 1, 1), (.iload_n 2, 1), (.iastore, 1), (.aload_n 0, 1), (.dup, 1), (.getfield 380, 3), (.iconst 1, 1), (.iadd, 1), (.putfield 380, 3), (.goto 7, 3)] (59, [(0, z_r 78), (1, .inl x1), (2, .inl x2)], [], zW T' G' (z_uS (z_uS S 187 (x1).toNatClampNeg x2) 78 52 ((S 78 52) + 1)) n, 0, 0) (by decide +kernel) rfl ⟨trivial, rfl, trivial, trivial, ⟨rfl, hs.1⟩, trivial, rfl, rfl, trivial, trivial, ⟨rfl, trivial⟩, trivial, trivial⟩ ?_
  replace hs := hs.2
  exact z_lvs (lv' := [(0, z_r 78), (1, .inl x1)]) [0, 1] rfl (t_M_pair_j59 M rq sq hRq (z_uS (z_uS S 187 (x1).toNatClampNeg x2) 78 52 ((S 78 52) + 1)) x1 hQ K hs)
def F_M_pair (rq : (Nat → Nat → Int32) → Int32 × (Nat → Nat → Int32)) (S : (Nat → Nat → Int32)) (p1 : Int32) : (Nat → Nat → Int32) := (match rq S with | (r6, S6) => (if (S6 78 53) = (-1) then (if (F_M_sign (z_uS S6 189 (p1).toNatClampNeg r6)) = 38 then (F_M_pair_j35 rq (z_uS S6 189 (p1).toNatClampNeg r6) p1 (F_M_sign (z_uS S6 189 (p1).toNatClampNeg r6))) else (if (F_M_sign (z_uS S6 189 (p1).toNatClampNeg r6)) = 124 then (F_M_pair_j35 rq (z_uS S6 189 (p1).toNatClampNeg r6) p1 (F_M_sign (z_uS S6 189 (p1).toNatClampNeg r6))) else (F_M_pair_j55 rq (z_uS S6 189 (p1).toNatClampNeg r6) p1))) else (F_M_pair_j55 rq (z_uS S6 189 (p1).toNatClampNeg r6) p1)))
def Sf_M_pair (rq : (Nat → Nat → Int32) → Int32 × (Nat → Nat → Int32)) (sq : (Nat → Nat → Int32) → Prop) (S : (Nat → Nat → Int32)) (p1 : Int32) : Prop := (sq S ∧ (match rq S with | (r6, S6) => ((vp_in p1 31) ∧ (Sf_M_sign (z_uS S6 189 (p1).toNatClampNeg r6) ∧ (if (S6 78 53) = (-1) then (if (F_M_sign (z_uS S6 189 (p1).toNatClampNeg r6)) = 38 then (Sf_M_pair_j35 rq sq (z_uS S6 189 (p1).toNatClampNeg r6) p1 (F_M_sign (z_uS S6 189 (p1).toNatClampNeg r6))) else (if (F_M_sign (z_uS S6 189 (p1).toNatClampNeg r6)) = 124 then (Sf_M_pair_j35 rq sq (z_uS S6 189 (p1).toNatClampNeg r6) p1 (F_M_sign (z_uS S6 189 (p1).toNatClampNeg r6))) else (Sf_M_pair_j55 rq sq (z_uS S6 189 (p1).toNatClampNeg r6) p1))) else (Sf_M_pair_j55 rq sq (z_uS S6 189 (p1).toNatClampNeg r6) p1))))))
theorem c_M_pair (T' : Nat → Nat × Nat) (G' : Nat → Nat → Option Nat) (n : Nat) {dq : Nat} (rq : (Nat → Nat → Int32) → Int32 × (Nat → Nat → Int32)) (sq : (Nat → Nat → Int32) → Prop) (hRq : zRq dq rq sq) (S : (Nat → Nat → Int32)) (p1 : Int32) (hs : Sf_M_pair rq sq S p1) : z_Run (rm_M_pair dq) zm_M_pair [z_r 78, .inl p1] (zW T' G' S n) (zq none (zW T' G' (F_M_pair rq S p1) n)) := by
  refine z_body (by decide) zf_M_ok (Nat.le_of_ble_eq_true rfl) (fun X M => ?_)
  obtain ⟨Q, hQ, K⟩ : ∃ Q : (Nat → Nat → Int32) → Prop, (∀ S', Q S' → zq none (zW T' G' (F_M_pair rq S p1) n) none (zW T' G' S' n)) ∧ Q (F_M_pair rq S p1) := ⟨fun o => F_M_pair rq S p1 = o, fun S' h => ⟨rfl, by rw [h]⟩, rfl⟩
  show z_G X zm_M_pair (0, [(0, z_r 78), (1, .inl p1)], [], zW T' G' S n, 0, 0)
  unfold F_M_pair at K
  unfold Sf_M_pair at hs
  refine z_go2 M.1 0 [(.aload_n 0, 1), (.getfield 163, 3), (.iload_n 1, 1), (.aload_n 0, 1)] (6, [(0, z_r 78), (1, .inl p1)], [z_r 78, .inl p1, z_r 189], zW T' G' S n, 0, 0) (by decide +kernel) rfl ⟨trivial, rfl, trivial, trivial, trivial⟩ ?_
  refine z_callV M.1 (av := []) (st := [.inl p1, z_r 189]) (a := 78) (ci := 14) (by decide +kernel) (hRq T' G' n S hs.1) M.2.1 zl_M_394 zv_M_query rfl rfl rfl ⟨(show dq + 1 ≤ dq + 2 by omega), (show 8 + (4 + 11) + 40 * dq ≤ 40 * (dq + 2) by omega), Nat.le_of_ble_eq_true rfl, Nat.le_of_ble_eq_true rfl⟩ rfl (Nat.le_of_ble_eq_true rfl) (fun v w' hv => ?_)
  replace hs := hs.2
  rcases hF6 : rq S with ⟨r6, S6⟩
  rw [hF6] at K hv
  try rw [hF6] at hs
  try dsimp only at K hs
  obtain ⟨rfl, rfl⟩ := hv
  show z_G X zm_M_pair (9, [(0, z_r 78), (1, .inl p1)], [.inl r6, .inl p1, z_r 189], zW T' G' S6 n, 0, 0)
  refine z_go2 M.1 9 [(.iastore, 1), (.aload_n 0, 1)] (11, [(0, z_r 78), (1, .inl p1)], [z_r 78], zW T' G' (z_uS S6 189 (p1).toNatClampNeg r6) n, 0, 0) (by decide +kernel) rfl ⟨⟨rfl, hs.1⟩, trivial, trivial⟩ ?_
  replace hs := hs.2
  refine z_callV M.1 (av := []) (st := []) (a := 78) (ci := 14) (by decide +kernel) (c_M_sign T' G' (z_uS S6 189 (p1).toNatClampNeg r6) n hs.1) M.2.1 zl_M_383 zv_M_sign rfl rfl rfl ⟨(show 0 + 1 ≤ dq + 2 by omega), (show 8 + (1 + 11) + 40 * 0 ≤ 40 * (dq + 2) by omega), Nat.le_of_ble_eq_true rfl, Nat.le_of_ble_eq_true rfl⟩ rfl (Nat.le_of_ble_eq_true rfl) (fun v w' hv => ?_)
  obtain ⟨rfl, rfl⟩ := hv
  replace hs := hs.2
  show z_G X zm_M_pair (14, [(0, z_r 78), (1, .inl p1)], [.inl (F_M_sign (z_uS S6 189 (p1).toNatClampNeg r6))], zW T' G' (z_uS S6 189 (p1).toNatClampNeg r6) n, 0, 0)
  refine z_go2 M.1 14 [(.istore_n 2, 1), (.aload_n 0, 1), (.getfield 377, 3), (.iconst (-1), 1)] (20, [(2, .inl (F_M_sign (z_uS S6 189 (p1).toNatClampNeg r6))), (0, z_r 78), (1, .inl p1)], [.inl (-1), .inl (S6 78 53)], zW T' G' (z_uS S6 189 (p1).toNatClampNeg r6) n, 0, 0) (by decide +kernel) rfl ⟨trivial, trivial, rfl, trivial, trivial⟩ ?_
  refine z_icmp_ne 55 M.1 (off := 35) (by decide +kernel) (by decide) (fun c20 => ?_) (fun c20 => ?_)
  · rw [if_neg c20] at K hs
    exact z_lvs (lv' := [(0, z_r 78), (1, .inl p1)]) [1, 2] rfl (t_M_pair_j55 M rq sq hRq (z_uS S6 189 (p1).toNatClampNeg r6) p1 hQ K hs)
  · rw [if_pos c20] at K hs
    refine z_go2 M.1 23 [(.iload_n 2, 1), (.bipush 38, 2)] (26, [(2, .inl (F_M_sign (z_uS S6 189 (p1).toNatClampNeg r6))), (0, z_r 78), (1, .inl p1)], [.inl 38, .inl (F_M_sign (z_uS S6 189 (p1).toNatClampNeg r6))], zW T' G' (z_uS S6 189 (p1).toNatClampNeg r6) n, 0, 0) (by decide +kernel) rfl ⟨trivial, trivial, trivial⟩ ?_
    refine z_icmp_eq 35 M.1 (off := 9) (by decide +kernel) (by decide) (fun c26 => ?_) (fun c26 => ?_)
    · rw [if_pos c26] at K hs
      exact z_lvs (lv' := [(0, z_r 78), (1, .inl p1), (2, .inl (F_M_sign (z_uS S6 189 (p1).toNatClampNeg r6)))]) [1, 2, 0] rfl (t_M_pair_j35 M rq sq hRq (z_uS S6 189 (p1).toNatClampNeg r6) p1 (F_M_sign (z_uS S6 189 (p1).toNatClampNeg r6)) hQ K hs)
    · rw [if_neg c26] at K hs
      refine z_go2 M.1 29 [(.iload_n 2, 1), (.bipush 124, 2)] (32, [(2, .inl (F_M_sign (z_uS S6 189 (p1).toNatClampNeg r6))), (0, z_r 78), (1, .inl p1)], [.inl 124, .inl (F_M_sign (z_uS S6 189 (p1).toNatClampNeg r6))], zW T' G' (z_uS S6 189 (p1).toNatClampNeg r6) n, 0, 0) (by decide +kernel) rfl ⟨trivial, trivial, trivial⟩ ?_
      refine z_icmp_ne 55 M.1 (off := 23) (by decide +kernel) (by decide) (fun c32 => ?_) (fun c32 => ?_)
      · rw [if_neg c32] at K hs
        exact z_lvs (lv' := [(0, z_r 78), (1, .inl p1)]) [1, 2] rfl (t_M_pair_j55 M rq sq hRq (z_uS S6 189 (p1).toNatClampNeg r6) p1 hQ K hs)
      · rw [if_pos c32] at K hs
        exact z_lvs (lv' := [(0, z_r 78), (1, .inl p1), (2, .inl (F_M_sign (z_uS S6 189 (p1).toNatClampNeg r6)))]) [1, 2, 0] rfl (t_M_pair_j35 M rq sq hRq (z_uS S6 189 (p1).toNatClampNeg r6) p1 (F_M_sign (z_uS S6 189 (p1).toNatClampNeg r6)) hQ K hs)

-- TrackHouseModel.query
abbrev rm_M_query (dq : Nat) : Room := zr (dq + 3)
def F_M_query_j255 (rq : (Nat → Nat → Int32) → Int32 × (Nat → Nat → Int32)) (S : (Nat → Nat → Int32)) (x2 : Int32) : (Int32 × (Nat → Nat → Int32)) := (match F_M_within rq S with | (r261, S261) => (x2, (z_uS S261 189 (x2).toNatClampNeg r261)))
def Sf_M_query_j255 (rq : (Nat → Nat → Int32) → Int32 × (Nat → Nat → Int32)) (sq : (Nat → Nat → Int32) → Prop) (S : (Nat → Nat → Int32)) (x2 : Int32) : Prop := (Sf_M_within rq sq S ∧ (match F_M_within rq S with | (r261, S261) => ((vp_in x2 31) ∧ True)))
theorem t_M_query_j255 {X : z_X} {Post : Option z_V → z_W → Prop} {dq : Nat} (M : z_M X zm_M_query (rm_M_query dq) Post) {T' : Nat → Nat × Nat} {G' : Nat → Nat → Option Nat} {n : Nat} (rq : (Nat → Nat → Int32) → Int32 × (Nat → Nat → Int32)) (sq : (Nat → Nat → Int32) → Prop) (hRq : zRq dq rq sq) {Q : (Int32 × (Nat → Nat → Int32)) → Prop} (S : (Nat → Nat → Int32)) (x2 : Int32) (hQ : ∀ v S', Q (v, S') → Post (some (.inl v)) (zW T' G' S' n)) (K : Q (F_M_query_j255 rq S x2)) (hs : Sf_M_query_j255 rq sq S x2) : z_G X zm_M_query (255, [(0, z_r 78), (2, .inl x2)], [], zW T' G' S n, 0, 0) := by
  unfold F_M_query_j255 at K
  unfold Sf_M_query_j255 at hs
  refine z_go2 M.1 255 [(.aload_n 0, 1), (.getfield 163, 3), (.iload_n 2, 1), (.aload_n 0, 1)] (261, [(0, z_r 78), (2, .inl x2)], [z_r 78, .inl x2, z_r 189], zW T' G' S n, 0, 0) (by decide +kernel) rfl ⟨trivial, rfl, trivial, trivial, trivial⟩ ?_
  refine z_callV M.1 (av := []) (st := [.inl x2, z_r 189]) (a := 78) (ci := 14) (by decide +kernel) (c_M_within T' G' n (dq := dq) rq sq hRq S hs.1) M.2.1 zl_M_410 zv_M_within rfl rfl rfl ⟨(show (dq + 2) + 1 ≤ dq + 3 by omega), (show 8 + (2 + 11) + 40 * (dq + 2) ≤ 40 * (dq + 3) by omega), Nat.le_of_ble_eq_true rfl, Nat.le_of_ble_eq_true rfl⟩ rfl (Nat.le_of_ble_eq_true rfl) (fun v w' hv => ?_)
  replace hs := hs.2
  rcases hF261 : F_M_within rq S with ⟨r261, S261⟩
  rw [hF261] at K hv
  try rw [hF261] at hs
  try dsimp only at K hs
  obtain ⟨rfl, rfl⟩ := hv
  show z_G X zm_M_query (264, [(0, z_r 78), (2, .inl x2)], [.inl r261, .inl x2, z_r 189], zW T' G' S261 n, 0, 0)
  refine z_go2 M.1 264 [(.iastore, 1), (.goto 98, 3), (.iload_n 2, 1)] (364, [(0, z_r 78), (2, .inl x2)], [.inl x2], zW T' G' (z_uS S261 189 (x2).toNatClampNeg r261) n, 0, 0) (by decide +kernel) rfl ⟨⟨rfl, hs.1⟩, trivial, trivial, trivial⟩ ?_
  replace hs := hs.2
  exact z_iret M (by decide +kernel) .int rfl rfl (Nat.le_of_ble_eq_true rfl) (Nat.le_of_ble_eq_true rfl) (hQ _ _ K)
def F_M_query_j312 (rq : (Nat → Nat → Int32) → Int32 × (Nat → Nat → Int32)) (S : (Nat → Nat → Int32)) (x2 : Int32) (s0 : Int32) (s1 : Int32) : (Int32 × (Nat → Nat → Int32)) := (x2, (z_uS S 189 (s1).toNatClampNeg s0))
def Sf_M_query_j312 (rq : (Nat → Nat → Int32) → Int32 × (Nat → Nat → Int32)) (sq : (Nat → Nat → Int32) → Prop) (S : (Nat → Nat → Int32)) (x2 : Int32) (s0 : Int32) (s1 : Int32) : Prop := ((vp_in s1 31) ∧ True)
theorem t_M_query_j312 {X : z_X} {Post : Option z_V → z_W → Prop} {dq : Nat} (M : z_M X zm_M_query (rm_M_query dq) Post) {T' : Nat → Nat × Nat} {G' : Nat → Nat → Option Nat} {n : Nat} (rq : (Nat → Nat → Int32) → Int32 × (Nat → Nat → Int32)) (sq : (Nat → Nat → Int32) → Prop) (hRq : zRq dq rq sq) {Q : (Int32 × (Nat → Nat → Int32)) → Prop} (S : (Nat → Nat → Int32)) (x2 : Int32) (s0 : Int32) (s1 : Int32) (hQ : ∀ v S', Q (v, S') → Post (some (.inl v)) (zW T' G' S' n)) (K : Q (F_M_query_j312 rq S x2 s0 s1)) (hs : Sf_M_query_j312 rq sq S x2 s0 s1) : z_G X zm_M_query (312, [(2, .inl x2)], [.inl s0, .inl s1, z_r 189], zW T' G' S n, 0, 0) := by
  unfold F_M_query_j312 at K
  unfold Sf_M_query_j312 at hs
  refine z_go2 M.1 312 [(.iastore, 1), (.goto 50, 3), (.iload_n 2, 1)] (364, [(2, .inl x2)], [.inl x2], zW T' G' (z_uS S 189 (s1).toNatClampNeg s0) n, 0, 0) (by decide +kernel) rfl ⟨⟨rfl, hs.1⟩, trivial, trivial, trivial⟩ ?_
  replace hs := hs.2
  exact z_iret M (by decide +kernel) .int rfl rfl (Nat.le_of_ble_eq_true rfl) (Nat.le_of_ble_eq_true rfl) (hQ _ _ K)
def F_M_query_j280 (rq : (Nat → Nat → Int32) → Int32 × (Nat → Nat → Int32)) (S : (Nat → Nat → Int32)) (x2 : Int32) : (Int32 × (Nat → Nat → Int32)) := (match F_M_digit S 2 with | (r287, S287) => (if (S287 78 53) = (-1) then (match F_M_within rq (z_uS S287 187 (x2).toNatClampNeg r287) with | (r305, S305) => (F_M_query_j312 rq S305 x2 r305 x2)) else (F_M_query_j312 rq (z_uS S287 187 (x2).toNatClampNeg r287) x2 0 x2)))
def Sf_M_query_j280 (rq : (Nat → Nat → Int32) → Int32 × (Nat → Nat → Int32)) (sq : (Nat → Nat → Int32) → Prop) (S : (Nat → Nat → Int32)) (x2 : Int32) : Prop := (Sf_M_digit S 2 ∧ (match F_M_digit S 2 with | (r287, S287) => ((vp_in x2 31) ∧ (if (S287 78 53) = (-1) then (Sf_M_within rq sq (z_uS S287 187 (x2).toNatClampNeg r287) ∧ (match F_M_within rq (z_uS S287 187 (x2).toNatClampNeg r287) with | (r305, S305) => (Sf_M_query_j312 rq sq S305 x2 r305 x2))) else (Sf_M_query_j312 rq sq (z_uS S287 187 (x2).toNatClampNeg r287) x2 0 x2)))))
theorem t_M_query_j280 {X : z_X} {Post : Option z_V → z_W → Prop} {dq : Nat} (M : z_M X zm_M_query (rm_M_query dq) Post) {T' : Nat → Nat × Nat} {G' : Nat → Nat → Option Nat} {n : Nat} (rq : (Nat → Nat → Int32) → Int32 × (Nat → Nat → Int32)) (sq : (Nat → Nat → Int32) → Prop) (hRq : zRq dq rq sq) {Q : (Int32 × (Nat → Nat → Int32)) → Prop} (S : (Nat → Nat → Int32)) (x2 : Int32) (hQ : ∀ v S', Q (v, S') → Post (some (.inl v)) (zW T' G' S' n)) (K : Q (F_M_query_j280 rq S x2)) (hs : Sf_M_query_j280 rq sq S x2) : z_G X zm_M_query (280, [(0, z_r 78), (2, .inl x2)], [], zW T' G' S n, 0, 0) := by
  unfold F_M_query_j280 at K
  unfold Sf_M_query_j280 at hs
  refine z_go2 M.1 280 [(.aload_n 0, 1), (.getfield 157, 3), (.iload_n 2, 1), (.aload_n 0, 1), (.iconst 2, 1)] (287, [(0, z_r 78), (2, .inl x2)], [.inl 2, z_r 78, .inl x2, z_r 187], zW T' G' S n, 0, 0) (by decide +kernel) rfl ⟨trivial, rfl, trivial, trivial, trivial, trivial⟩ ?_
  refine z_callV M.1 (av := [.inl 2]) (st := [.inl x2, z_r 187]) (a := 78) (ci := 14) (by decide +kernel) (c_M_digit T' G' S n 2 hs.1) M.2.1 zl_M_398 zv_M_digit rfl rfl rfl ⟨(show 1 + 1 ≤ dq + 3 by omega), (show 8 + (3 + 11) + 40 * 1 ≤ 40 * (dq + 3) by omega), Nat.le_of_ble_eq_true rfl, Nat.le_of_ble_eq_true rfl⟩ rfl (Nat.le_of_ble_eq_true rfl) (fun v w' hv => ?_)
  replace hs := hs.2
  rcases hF287 : F_M_digit S 2 with ⟨r287, S287⟩
  rw [hF287] at K hv
  try rw [hF287] at hs
  try dsimp only at K hs
  obtain ⟨rfl, rfl⟩ := hv
  show z_G X zm_M_query (290, [(0, z_r 78), (2, .inl x2)], [.inl r287, .inl x2, z_r 187], zW T' G' S287 n, 0, 0)
  refine z_go2 M.1 290 [(.iastore, 1), (.aload_n 0, 1), (.getfield 163, 3), (.iload_n 2, 1), (.aload_n 0, 1), (.getfield 377, 3), (.iconst (-1), 1)] (301, [(0, z_r 78), (2, .inl x2)], [.inl (-1), .inl (S287 78 53), .inl x2, z_r 189], zW T' G' (z_uS S287 187 (x2).toNatClampNeg r287) n, 0, 0) (by decide +kernel) rfl ⟨⟨rfl, hs.1⟩, trivial, rfl, trivial, trivial, rfl, trivial, trivial⟩ ?_
  replace hs := hs.2
  refine z_icmp_ne 311 M.1 (off := 10) (by decide +kernel) (by decide) (fun c301 => ?_) (fun c301 => ?_)
  · rw [if_neg c301] at K hs
    refine z_go2 M.1 311 [(.iconst 0, 1)] (312, [(0, z_r 78), (2, .inl x2)], [.inl 0, .inl x2, z_r 189], zW T' G' (z_uS S287 187 (x2).toNatClampNeg r287) n, 0, 0) (by decide +kernel) rfl ⟨trivial, trivial⟩ ?_
    exact z_lvs (lv' := [(2, .inl x2)]) [1] rfl (t_M_query_j312 M rq sq hRq (z_uS S287 187 (x2).toNatClampNeg r287) x2 0 x2 hQ K hs)
  · rw [if_pos c301] at K hs
    refine z_go2 M.1 304 [(.aload_n 0, 1)] (305, [(0, z_r 78), (2, .inl x2)], [z_r 78, .inl x2, z_r 189], zW T' G' (z_uS S287 187 (x2).toNatClampNeg r287) n, 0, 0) (by decide +kernel) rfl ⟨trivial, trivial⟩ ?_
    refine z_callV M.1 (av := []) (st := [.inl x2, z_r 189]) (a := 78) (ci := 14) (by decide +kernel) (c_M_within T' G' n (dq := dq) rq sq hRq (z_uS S287 187 (x2).toNatClampNeg r287) hs.1) M.2.1 zl_M_410 zv_M_within rfl rfl rfl ⟨(show (dq + 2) + 1 ≤ dq + 3 by omega), (show 8 + (2 + 11) + 40 * (dq + 2) ≤ 40 * (dq + 3) by omega), Nat.le_of_ble_eq_true rfl, Nat.le_of_ble_eq_true rfl⟩ rfl (Nat.le_of_ble_eq_true rfl) (fun v w' hv => ?_)
    replace hs := hs.2
    rcases hF305 : F_M_within rq (z_uS S287 187 (x2).toNatClampNeg r287) with ⟨r305, S305⟩
    rw [hF305] at K hv
    try rw [hF305] at hs
    try dsimp only at K hs
    obtain ⟨rfl, rfl⟩ := hv
    show z_G X zm_M_query (308, [(0, z_r 78), (2, .inl x2)], [.inl r305, .inl x2, z_r 189], zW T' G' S305 n, 0, 0)
    refine z_go2 M.1 308 [(.goto 4, 3)] (312, [(0, z_r 78), (2, .inl x2)], [.inl r305, .inl x2, z_r 189], zW T' G' S305 n, 0, 0) (by decide +kernel) rfl ⟨trivial, trivial⟩ ?_
    exact z_lvs (lv' := [(2, .inl x2)]) [1] rfl (t_M_query_j312 M rq sq hRq S305 x2 r305 x2 hQ K hs)
def F_M_query_j134 (rq : (Nat → Nat → Int32) → Int32 × (Nat → Nat → Int32)) (S : (Nat → Nat → Int32)) (x2 : Int32) (s0 : Int32) (s1 : Int32) : (Int32 × (Nat → Nat → Int32)) := (x2, (z_uS S 187 (s1).toNatClampNeg s0))
def Sf_M_query_j134 (rq : (Nat → Nat → Int32) → Int32 × (Nat → Nat → Int32)) (sq : (Nat → Nat → Int32) → Prop) (S : (Nat → Nat → Int32)) (x2 : Int32) (s0 : Int32) (s1 : Int32) : Prop := ((vp_in s1 31) ∧ True)
theorem t_M_query_j134 {X : z_X} {Post : Option z_V → z_W → Prop} {dq : Nat} (M : z_M X zm_M_query (rm_M_query dq) Post) {T' : Nat → Nat × Nat} {G' : Nat → Nat → Option Nat} {n : Nat} (rq : (Nat → Nat → Int32) → Int32 × (Nat → Nat → Int32)) (sq : (Nat → Nat → Int32) → Prop) (hRq : zRq dq rq sq) {Q : (Int32 × (Nat → Nat → Int32)) → Prop} (S : (Nat → Nat → Int32)) (x2 : Int32) (s0 : Int32) (s1 : Int32) (hQ : ∀ v S', Q (v, S') → Post (some (.inl v)) (zW T' G' S' n)) (K : Q (F_M_query_j134 rq S x2 s0 s1)) (hs : Sf_M_query_j134 rq sq S x2 s0 s1) : z_G X zm_M_query (134, [(2, .inl x2)], [.inl s0, .inl s1, z_r 187], zW T' G' S n, 0, 0) := by
  unfold F_M_query_j134 at K
  unfold Sf_M_query_j134 at hs
  refine z_go2 M.1 134 [(.iastore, 1), (.goto 228, 3), (.iload_n 2, 1)] (364, [(2, .inl x2)], [.inl x2], zW T' G' (z_uS S 187 (s1).toNatClampNeg s0) n, 0, 0) (by decide +kernel) rfl ⟨⟨rfl, hs.1⟩, trivial, trivial, trivial⟩ ?_
  replace hs := hs.2
  exact z_iret M (by decide +kernel) .int rfl rfl (Nat.le_of_ble_eq_true rfl) (Nat.le_of_ble_eq_true rfl) (hQ _ _ K)
def F_M_query_j111 (rq : (Nat → Nat → Int32) → Int32 × (Nat → Nat → Int32)) (S : (Nat → Nat → Int32)) (x2 : Int32) (x3 : Int32) (s0 : Int32) (s1 : Int32) : (Int32 × (Nat → Nat → Int32)) := (if x3 = 0 then (match F_M_digit (z_uS S 78 52 (s1 + s0)) 9 with | (r131, S131) => (x2, (z_uS S131 187 (x2).toNatClampNeg r131))) else (F_M_query_j134 rq (z_uS S 78 52 (s1 + s0)) x2 (-1) x2))
def Sf_M_query_j111 (rq : (Nat → Nat → Int32) → Int32 × (Nat → Nat → Int32)) (sq : (Nat → Nat → Int32) → Prop) (S : (Nat → Nat → Int32)) (x2 : Int32) (x3 : Int32) (s0 : Int32) (s1 : Int32) : Prop := (if x3 = 0 then (Sf_M_digit (z_uS S 78 52 (s1 + s0)) 9 ∧ (match F_M_digit (z_uS S 78 52 (s1 + s0)) 9 with | (r131, S131) => ((vp_in x2 31) ∧ True))) else (Sf_M_query_j134 rq sq (z_uS S 78 52 (s1 + s0)) x2 (-1) x2))
theorem t_M_query_j111 {X : z_X} {Post : Option z_V → z_W → Prop} {dq : Nat} (M : z_M X zm_M_query (rm_M_query dq) Post) {T' : Nat → Nat × Nat} {G' : Nat → Nat → Option Nat} {n : Nat} (rq : (Nat → Nat → Int32) → Int32 × (Nat → Nat → Int32)) (sq : (Nat → Nat → Int32) → Prop) (hRq : zRq dq rq sq) {Q : (Int32 × (Nat → Nat → Int32)) → Prop} (S : (Nat → Nat → Int32)) (x2 : Int32) (x3 : Int32) (s0 : Int32) (s1 : Int32) (hQ : ∀ v S', Q (v, S') → Post (some (.inl v)) (zW T' G' S' n)) (K : Q (F_M_query_j111 rq S x2 x3 s0 s1)) (hs : Sf_M_query_j111 rq sq S x2 x3 s0 s1) : z_G X zm_M_query (111, [(0, z_r 78), (2, .inl x2), (3, .inl x3)], [.inl s0, .inl s1, z_r 78], zW T' G' S n, 0, 0) := by
  unfold F_M_query_j111 at K
  unfold Sf_M_query_j111 at hs
  refine z_go2 M.1 111 [(.iadd, 1), (.putfield 380, 3), (.aload_n 0, 1), (.getfield 157, 3), (.iload_n 2, 1), (.iload_n 3, 1)] (121, [(0, z_r 78), (2, .inl x2), (3, .inl x3)], [.inl x3, .inl x2, z_r 187], zW T' G' (z_uS S 78 52 (s1 + s0)) n, 0, 0) (by decide +kernel) rfl ⟨trivial, ⟨rfl, trivial⟩, trivial, rfl, trivial, trivial, trivial⟩ ?_
  refine z_if_eq 128 M.1 (off := 7) (by decide +kernel) (by decide) (fun c121 => ?_) (fun c121 => ?_)
  · rw [if_pos c121] at K hs
    refine z_go2 M.1 128 [(.aload_n 0, 1), (.bipush 9, 2)] (131, [(0, z_r 78), (2, .inl x2), (3, .inl x3)], [.inl 9, z_r 78, .inl x2, z_r 187], zW T' G' (z_uS S 78 52 (s1 + s0)) n, 0, 0) (by decide +kernel) rfl ⟨trivial, trivial, trivial⟩ ?_
    refine z_callV M.1 (av := [.inl 9]) (st := [.inl x2, z_r 187]) (a := 78) (ci := 14) (by decide +kernel) (c_M_digit T' G' (z_uS S 78 52 (s1 + s0)) n 9 hs.1) M.2.1 zl_M_398 zv_M_digit rfl rfl rfl ⟨(show 1 + 1 ≤ dq + 3 by omega), (show 8 + (3 + 11) + 40 * 1 ≤ 40 * (dq + 3) by omega), Nat.le_of_ble_eq_true rfl, Nat.le_of_ble_eq_true rfl⟩ rfl (Nat.le_of_ble_eq_true rfl) (fun v w' hv => ?_)
    replace hs := hs.2
    rcases hF131 : F_M_digit (z_uS S 78 52 (s1 + s0)) 9 with ⟨r131, S131⟩
    rw [hF131] at K hv
    try rw [hF131] at hs
    try dsimp only at K hs
    obtain ⟨rfl, rfl⟩ := hv
    show z_G X zm_M_query (134, [(0, z_r 78), (2, .inl x2), (3, .inl x3)], [.inl r131, .inl x2, z_r 187], zW T' G' S131 n, 0, 0)
    refine z_go2 M.1 134 [(.iastore, 1), (.goto 228, 3), (.iload_n 2, 1)] (364, [(0, z_r 78), (2, .inl x2), (3, .inl x3)], [.inl x2], zW T' G' (z_uS S131 187 (x2).toNatClampNeg r131) n, 0, 0) (by decide +kernel) rfl ⟨⟨rfl, hs.1⟩, trivial, trivial, trivial⟩ ?_
    replace hs := hs.2
    exact z_iret M (by decide +kernel) .int rfl rfl (Nat.le_of_ble_eq_true rfl) (Nat.le_of_ble_eq_true rfl) (hQ _ _ K)
  · rw [if_neg c121] at K hs
    refine z_go2 M.1 124 [(.iconst (-1), 1), (.goto 9, 3)] (134, [(0, z_r 78), (2, .inl x2), (3, .inl x3)], [.inl (-1), .inl x2, z_r 187], zW T' G' (z_uS S 78 52 (s1 + s0)) n, 0, 0) (by decide +kernel) rfl ⟨trivial, trivial, trivial⟩ ?_
    exact z_lvs (lv' := [(2, .inl x2)]) [1] rfl (t_M_query_j134 M rq sq hRq (z_uS S 78 52 (s1 + s0)) x2 (-1) x2 hQ K hs)
def F_M_query_j96 (rq : (Nat → Nat → Int32) → Int32 × (Nat → Nat → Int32)) (S : (Nat → Nat → Int32)) (x2 : Int32) (s0 : Int32) : (Int32 × (Nat → Nat → Int32)) := (if s0 = 0 then (F_M_query_j111 rq S x2 s0 0 (S 78 52)) else (F_M_query_j111 rq S x2 s0 1 (S 78 52)))
def Sf_M_query_j96 (rq : (Nat → Nat → Int32) → Int32 × (Nat → Nat → Int32)) (sq : (Nat → Nat → Int32) → Prop) (S : (Nat → Nat → Int32)) (x2 : Int32) (s0 : Int32) : Prop := (if s0 = 0 then (Sf_M_query_j111 rq sq S x2 s0 0 (S 78 52)) else (Sf_M_query_j111 rq sq S x2 s0 1 (S 78 52)))
theorem t_M_query_j96 {X : z_X} {Post : Option z_V → z_W → Prop} {dq : Nat} (M : z_M X zm_M_query (rm_M_query dq) Post) {T' : Nat → Nat × Nat} {G' : Nat → Nat → Option Nat} {n : Nat} (rq : (Nat → Nat → Int32) → Int32 × (Nat → Nat → Int32)) (sq : (Nat → Nat → Int32) → Prop) (hRq : zRq dq rq sq) {Q : (Int32 × (Nat → Nat → Int32)) → Prop} (S : (Nat → Nat → Int32)) (x2 : Int32) (s0 : Int32) (hQ : ∀ v S', Q (v, S') → Post (some (.inl v)) (zW T' G' S' n)) (K : Q (F_M_query_j96 rq S x2 s0)) (hs : Sf_M_query_j96 rq sq S x2 s0) : z_G X zm_M_query (96, [(0, z_r 78), (2, .inl x2)], [.inl s0], zW T' G' S n, 0, 0) := by
  unfold F_M_query_j96 at K
  unfold Sf_M_query_j96 at hs
  refine z_go2 M.1 96 [(.istore_n 3, 1), (.aload_n 0, 1), (.dup, 1), (.getfield 380, 3), (.iload_n 3, 1)] (103, [(3, .inl s0), (0, z_r 78), (2, .inl x2)], [.inl s0, .inl (S 78 52), z_r 78], zW T' G' S n, 0, 0) (by decide +kernel) rfl ⟨trivial, trivial, rfl, rfl, trivial, trivial⟩ ?_
  refine z_if_eq 110 M.1 (off := 7) (by decide +kernel) (by decide) (fun c103 => ?_) (fun c103 => ?_)
  · rw [if_pos c103] at K hs
    refine z_go2 M.1 110 [(.iconst 0, 1)] (111, [(3, .inl s0), (0, z_r 78), (2, .inl x2)], [.inl 0, .inl (S 78 52), z_r 78], zW T' G' S n, 0, 0) (by decide +kernel) rfl ⟨trivial, trivial⟩ ?_
    exact z_lvs (lv' := [(0, z_r 78), (2, .inl x2), (3, .inl s0)]) [1, 2, 0] rfl (t_M_query_j111 M rq sq hRq S x2 s0 0 (S 78 52) hQ K hs)
  · rw [if_neg c103] at K hs
    refine z_go2 M.1 106 [(.iconst 1, 1), (.goto 4, 3)] (111, [(3, .inl s0), (0, z_r 78), (2, .inl x2)], [.inl 1, .inl (S 78 52), z_r 78], zW T' G' S n, 0, 0) (by decide +kernel) rfl ⟨trivial, trivial, trivial⟩ ?_
    exact z_lvs (lv' := [(0, z_r 78), (2, .inl x2), (3, .inl s0)]) [1, 2, 0] rfl (t_M_query_j111 M rq sq hRq S x2 s0 1 (S 78 52) hQ K hs)
def F_M_query (rq : (Nat → Nat → Int32) → Int32 × (Nat → Nat → Int32)) (S : (Nat → Nat → Int32)) : (Int32 × (Nat → Nat → Int32)) := (if (S 78 52) < (S 78 51) then (if (F_M_isSimple (z_uS (z_uS (z_uS S 78 54 ((S 78 54) + 1)) 186 (S 78 54).toNatClampNeg (vp_nar .char (F_M_sign S))) 78 52 ((S 78 52) + 1)) (F_M_sign S)) = 0 then (if (F_M_sign S) = 97 then (if (F_M_sign (z_uS (z_uS (z_uS S 78 54 ((S 78 54) + 1)) 186 (S 78 54).toNatClampNeg (vp_nar .char (F_M_sign S))) 78 52 ((S 78 52) + 1))) = 120 then (F_M_query_j96 rq (z_uS (z_uS (z_uS S 78 54 ((S 78 54) + 1)) 186 (S 78 54).toNatClampNeg (vp_nar .char (F_M_sign S))) 78 52 ((S 78 52) + 1)) (S 78 54) 1) else (F_M_query_j96 rq (z_uS (z_uS (z_uS S 78 54 ((S 78 54) + 1)) 186 (S 78 54).toNatClampNeg (vp_nar .char (F_M_sign S))) 78 52 ((S 78 52) + 1)) (S 78 54) 0)) else (if (F_M_sign S) = 102 then (match F_M_digit (z_uS (z_uS (z_uS S 78 54 ((S 78 54) + 1)) 186 (S 78 54).toNatClampNeg (vp_nar .char (F_M_sign S))) 78 52 ((S 78 52) + 1)) 3 with | (r151, S151) => (if (S151 78 53) = (-1) then (z_let (F_M_compares (z_uS S151 187 (S 78 54).toNatClampNeg r151) (S 78 54)) (fun S165 => ((S 78 54), S165))) else ((S 78 54), (z_uS S151 187 (S 78 54).toNatClampNeg r151)))) else (if (F_M_sign S) = 88 then (match F_M_digit (z_uS (z_uS (z_uS S 78 54 ((S 78 54) + 1)) 186 (S 78 54).toNatClampNeg (vp_nar .char (F_M_sign S))) 78 52 ((S 78 52) + 1)) 9 with | (r185, S185) => (match F_M_digit (z_uS S185 187 (S 78 54).toNatClampNeg r185) 9 with | (r197, S197) => ((S 78 54), (z_uS S197 188 (S 78 54).toNatClampNeg r197)))) else (if (F_M_sign S) = 68 then (match F_M_digit (z_uS (z_uS (z_uS S 78 54 ((S 78 54) + 1)) 186 (S 78 54).toNatClampNeg (vp_nar .char (F_M_sign S))) 78 52 ((S 78 52) + 1)) 9 with | (r220, S220) => (match F_M_digit (z_uS S220 187 (S 78 54).toNatClampNeg ((10 : Int32) * r220)) 9 with | (r235, S235) => ((S 78 54), (z_uS S235 187 (S 78 54).toNatClampNeg (((z_uS S220 187 (S 78 54).toNatClampNeg ((10 : Int32) * r220)) 187 (S 78 54).toNatClampNeg) + r235))))) else (if (F_M_sign S) = 67 then (F_M_query_j255 rq (z_uS (z_uS (z_uS S 78 54 ((S 78 54) + 1)) 186 (S 78 54).toNatClampNeg (vp_nar .char (F_M_sign S))) 78 52 ((S 78 52) + 1)) (S 78 54)) else (if (F_M_sign S) = 85 then (F_M_query_j255 rq (z_uS (z_uS (z_uS S 78 54 ((S 78 54) + 1)) 186 (S 78 54).toNatClampNeg (vp_nar .char (F_M_sign S))) 78 52 ((S 78 52) + 1)) (S 78 54)) else (if (F_M_sign S) = 76 then (F_M_query_j280 rq (z_uS (z_uS (z_uS S 78 54 ((S 78 54) + 1)) 186 (S 78 54).toNatClampNeg (vp_nar .char (F_M_sign S))) 78 52 ((S 78 52) + 1)) (S 78 54)) else (if (F_M_sign S) = 73 then (F_M_query_j280 rq (z_uS (z_uS (z_uS S 78 54 ((S 78 54) + 1)) 186 (S 78 54).toNatClampNeg (vp_nar .char (F_M_sign S))) 78 52 ((S 78 52) + 1)) (S 78 54)) else (if (F_M_sign S) = 33 then (match rq (z_uS (z_uS (z_uS S 78 54 ((S 78 54) + 1)) 186 (S 78 54).toNatClampNeg (vp_nar .char (F_M_sign S))) 78 52 ((S 78 52) + 1)) with | (r328, S328) => ((S 78 54), (z_uS S328 189 (S 78 54).toNatClampNeg r328))) else (if (F_M_sign S) = 40 then (z_let (F_M_pair rq (z_uS (z_uS (z_uS S 78 54 ((S 78 54) + 1)) 186 (S 78 54).toNatClampNeg (vp_nar .char (F_M_sign S))) 78 52 ((S 78 52) + 1)) (S 78 54)) (fun S343 => ((S 78 54), S343))) else (z_let (F_M_fails (z_uS (z_uS (z_uS (z_uS S 78 54 ((S 78 54) + 1)) 186 (S 78 54).toNatClampNeg (vp_nar .char (F_M_sign S))) 78 52 ((S 78 52) + 1)) 78 52 (((S 78 52) + 1) - 1))) (fun S360 => ((S 78 54), S360))))))))))))) else (match F_M_digit (z_uS (z_uS (z_uS S 78 54 ((S 78 54) + 1)) 186 (S 78 54).toNatClampNeg (vp_nar .char (F_M_sign S))) 78 52 ((S 78 52) + 1)) 9 with | (r69, S69) => ((S 78 54), (z_uS S69 187 (S 78 54).toNatClampNeg r69)))) else (z_let (F_M_fails S) (fun S17 => (0, S17))))
def Sf_M_query (rq : (Nat → Nat → Int32) → Int32 × (Nat → Nat → Int32)) (sq : (Nat → Nat → Int32) → Prop) (S : (Nat → Nat → Int32)) : Prop := (Sf_M_sign S ∧ (if (S 78 52) < (S 78 51) then ((vp_in (S 78 54) 31) ∧ (if (F_M_isSimple (z_uS (z_uS (z_uS S 78 54 ((S 78 54) + 1)) 186 (S 78 54).toNatClampNeg (vp_nar .char (F_M_sign S))) 78 52 ((S 78 52) + 1)) (F_M_sign S)) = 0 then (if (F_M_sign S) = 97 then (Sf_M_sign (z_uS (z_uS (z_uS S 78 54 ((S 78 54) + 1)) 186 (S 78 54).toNatClampNeg (vp_nar .char (F_M_sign S))) 78 52 ((S 78 52) + 1)) ∧ (if (F_M_sign (z_uS (z_uS (z_uS S 78 54 ((S 78 54) + 1)) 186 (S 78 54).toNatClampNeg (vp_nar .char (F_M_sign S))) 78 52 ((S 78 52) + 1))) = 120 then (Sf_M_query_j96 rq sq (z_uS (z_uS (z_uS S 78 54 ((S 78 54) + 1)) 186 (S 78 54).toNatClampNeg (vp_nar .char (F_M_sign S))) 78 52 ((S 78 52) + 1)) (S 78 54) 1) else (Sf_M_query_j96 rq sq (z_uS (z_uS (z_uS S 78 54 ((S 78 54) + 1)) 186 (S 78 54).toNatClampNeg (vp_nar .char (F_M_sign S))) 78 52 ((S 78 52) + 1)) (S 78 54) 0))) else (if (F_M_sign S) = 102 then (Sf_M_digit (z_uS (z_uS (z_uS S 78 54 ((S 78 54) + 1)) 186 (S 78 54).toNatClampNeg (vp_nar .char (F_M_sign S))) 78 52 ((S 78 52) + 1)) 3 ∧ (match F_M_digit (z_uS (z_uS (z_uS S 78 54 ((S 78 54) + 1)) 186 (S 78 54).toNatClampNeg (vp_nar .char (F_M_sign S))) 78 52 ((S 78 52) + 1)) 3 with | (r151, S151) => ((vp_in (S 78 54) 31) ∧ (if (S151 78 53) = (-1) then (Sf_M_compares (z_uS S151 187 (S 78 54).toNatClampNeg r151) (S 78 54) ∧ True) else True)))) else (if (F_M_sign S) = 88 then (Sf_M_digit (z_uS (z_uS (z_uS S 78 54 ((S 78 54) + 1)) 186 (S 78 54).toNatClampNeg (vp_nar .char (F_M_sign S))) 78 52 ((S 78 52) + 1)) 9 ∧ (match F_M_digit (z_uS (z_uS (z_uS S 78 54 ((S 78 54) + 1)) 186 (S 78 54).toNatClampNeg (vp_nar .char (F_M_sign S))) 78 52 ((S 78 52) + 1)) 9 with | (r185, S185) => ((vp_in (S 78 54) 31) ∧ (Sf_M_digit (z_uS S185 187 (S 78 54).toNatClampNeg r185) 9 ∧ (match F_M_digit (z_uS S185 187 (S 78 54).toNatClampNeg r185) 9 with | (r197, S197) => ((vp_in (S 78 54) 31) ∧ True)))))) else (if (F_M_sign S) = 68 then (Sf_M_digit (z_uS (z_uS (z_uS S 78 54 ((S 78 54) + 1)) 186 (S 78 54).toNatClampNeg (vp_nar .char (F_M_sign S))) 78 52 ((S 78 52) + 1)) 9 ∧ (match F_M_digit (z_uS (z_uS (z_uS S 78 54 ((S 78 54) + 1)) 186 (S 78 54).toNatClampNeg (vp_nar .char (F_M_sign S))) 78 52 ((S 78 52) + 1)) 9 with | (r220, S220) => ((vp_in (S 78 54) 31) ∧ ((vp_in (S 78 54) 31) ∧ (Sf_M_digit (z_uS S220 187 (S 78 54).toNatClampNeg ((10 : Int32) * r220)) 9 ∧ (match F_M_digit (z_uS S220 187 (S 78 54).toNatClampNeg ((10 : Int32) * r220)) 9 with | (r235, S235) => ((vp_in (S 78 54) 31) ∧ True))))))) else (if (F_M_sign S) = 67 then (Sf_M_query_j255 rq sq (z_uS (z_uS (z_uS S 78 54 ((S 78 54) + 1)) 186 (S 78 54).toNatClampNeg (vp_nar .char (F_M_sign S))) 78 52 ((S 78 52) + 1)) (S 78 54)) else (if (F_M_sign S) = 85 then (Sf_M_query_j255 rq sq (z_uS (z_uS (z_uS S 78 54 ((S 78 54) + 1)) 186 (S 78 54).toNatClampNeg (vp_nar .char (F_M_sign S))) 78 52 ((S 78 52) + 1)) (S 78 54)) else (if (F_M_sign S) = 76 then (Sf_M_query_j280 rq sq (z_uS (z_uS (z_uS S 78 54 ((S 78 54) + 1)) 186 (S 78 54).toNatClampNeg (vp_nar .char (F_M_sign S))) 78 52 ((S 78 52) + 1)) (S 78 54)) else (if (F_M_sign S) = 73 then (Sf_M_query_j280 rq sq (z_uS (z_uS (z_uS S 78 54 ((S 78 54) + 1)) 186 (S 78 54).toNatClampNeg (vp_nar .char (F_M_sign S))) 78 52 ((S 78 52) + 1)) (S 78 54)) else (if (F_M_sign S) = 33 then (sq (z_uS (z_uS (z_uS S 78 54 ((S 78 54) + 1)) 186 (S 78 54).toNatClampNeg (vp_nar .char (F_M_sign S))) 78 52 ((S 78 52) + 1)) ∧ (match rq (z_uS (z_uS (z_uS S 78 54 ((S 78 54) + 1)) 186 (S 78 54).toNatClampNeg (vp_nar .char (F_M_sign S))) 78 52 ((S 78 52) + 1)) with | (r328, S328) => ((vp_in (S 78 54) 31) ∧ True))) else (if (F_M_sign S) = 40 then (Sf_M_pair rq sq (z_uS (z_uS (z_uS S 78 54 ((S 78 54) + 1)) 186 (S 78 54).toNatClampNeg (vp_nar .char (F_M_sign S))) 78 52 ((S 78 52) + 1)) (S 78 54) ∧ True) else True)))))))))) else (Sf_M_digit (z_uS (z_uS (z_uS S 78 54 ((S 78 54) + 1)) 186 (S 78 54).toNatClampNeg (vp_nar .char (F_M_sign S))) 78 52 ((S 78 52) + 1)) 9 ∧ (match F_M_digit (z_uS (z_uS (z_uS S 78 54 ((S 78 54) + 1)) 186 (S 78 54).toNatClampNeg (vp_nar .char (F_M_sign S))) 78 52 ((S 78 52) + 1)) 9 with | (r69, S69) => ((vp_in (S 78 54) 31) ∧ True))))) else True))
theorem c_M_query (T' : Nat → Nat × Nat) (G' : Nat → Nat → Option Nat) (n : Nat) {dq : Nat} (rq : (Nat → Nat → Int32) → Int32 × (Nat → Nat → Int32)) (sq : (Nat → Nat → Int32) → Prop) (hRq : zRq dq rq sq) (S : (Nat → Nat → Int32)) (hs : Sf_M_query rq sq S) : z_Run (rm_M_query dq) zm_M_query [z_r 78] (zW T' G' S n) (zq (some (.inl (F_M_query rq S).1)) (zW T' G' (F_M_query rq S).2 n)) := by
  refine z_body (by decide) zf_M_ok (Nat.le_of_ble_eq_true rfl) (fun X M => ?_)
  obtain ⟨Q, hQ, K⟩ : ∃ Q : (Int32 × (Nat → Nat → Int32)) → Prop, (∀ v S', Q (v, S') → zq (some (.inl (F_M_query rq S).1)) (zW T' G' (F_M_query rq S).2 n) (some (.inl v)) (zW T' G' S' n)) ∧ Q (F_M_query rq S) := ⟨fun o => F_M_query rq S = o, fun v S' h => ⟨by rw [h], by rw [h]⟩, rfl⟩
  show z_G X zm_M_query (0, [(0, z_r 78)], [], zW T' G' S n, 0, 0)
  unfold F_M_query at K
  unfold Sf_M_query at hs
  refine z_go2 M.1 0 [(.aload_n 0, 1)] (1, [(0, z_r 78)], [z_r 78], zW T' G' S n, 0, 0) (by decide +kernel) rfl ⟨trivial, trivial⟩ ?_
  refine z_callV M.1 (av := []) (st := []) (a := 78) (ci := 14) (by decide +kernel) (c_M_sign T' G' S n hs.1) M.2.1 zl_M_383 zv_M_sign rfl rfl rfl ⟨(show 0 + 1 ≤ dq + 3 by omega), (show 8 + (1 + 11) + 40 * 0 ≤ 40 * (dq + 3) by omega), Nat.le_of_ble_eq_true rfl, Nat.le_of_ble_eq_true rfl⟩ rfl (Nat.le_of_ble_eq_true rfl) (fun v w' hv => ?_)
  obtain ⟨rfl, rfl⟩ := hv
  replace hs := hs.2
  show z_G X zm_M_query (4, [(0, z_r 78)], [.inl (F_M_sign S)], zW T' G' S n, 0, 0)
  refine z_go2 M.1 4 [(.istore_n 1, 1), (.aload_n 0, 1), (.getfield 380, 3), (.aload_n 0, 1), (.getfield 374, 3)] (13, [(1, .inl (F_M_sign S)), (0, z_r 78)], [.inl (S 78 51), .inl (S 78 52)], zW T' G' S n, 0, 0) (by decide +kernel) rfl ⟨trivial, trivial, rfl, trivial, rfl, trivial⟩ ?_
  refine z_icmp_lt 22 M.1 (off := 9) (by decide +kernel) (by decide) (fun c13 => ?_) (fun c13 => ?_)
  · rw [if_pos c13] at K hs
    refine z_go2 M.1 22 [(.aload_n 0, 1), (.getfield 401, 3), (.istore_n 2, 1), (.aload_n 0, 1), (.dup, 1), (.getfield 401, 3), (.iconst 1, 1), (.iadd, 1), (.putfield 401, 3), (.aload_n 0, 1), (.getfield 154, 3), (.iload_n 2, 1), (.iload_n 1, 1), (.castore, 1), (.aload_n 0, 1), (.dup, 1), (.getfield 380, 3), (.iconst 1, 1), (.iadd, 1), (.putfield 380, 3), (.iload_n 1, 1)] (55, [(2, .inl (S 78 54)), (1, .inl (F_M_sign S)), (0, z_r 78)], [.inl (F_M_sign S)], zW T' G' (z_uS (z_uS (z_uS S 78 54 ((S 78 54) + 1)) 186 (S 78 54).toNatClampNeg (vp_nar .char (F_M_sign S))) 78 52 ((S 78 52) + 1)) n, 0, 0) (by decide +kernel) rfl ⟨trivial, rfl, trivial, trivial, rfl, rfl, trivial, trivial, ⟨rfl, trivial⟩, trivial, rfl, trivial, trivial, ⟨rfl, hs.1⟩, trivial, rfl, rfl, trivial, trivial, ⟨rfl, trivial⟩, trivial, trivial⟩ ?_
    replace hs := hs.2
    refine z_callS M.1 (av := [.inl (F_M_sign S)]) (st := []) (by decide +kernel) (c_M_isSimple T' G' (z_uS (z_uS (z_uS S 78 54 ((S 78 54) + 1)) 186 (S 78 54).toNatClampNeg (vp_nar .char (F_M_sign S))) 78 52 ((S 78 52) + 1)) n (F_M_sign S)) M.2.1 zl_M_404 zs_M_isSimple ⟨(show 0 + 1 ≤ dq + 3 by omega), (show 8 + (1 + 11) + 40 * 0 ≤ 40 * (dq + 3) by omega), Nat.le_of_ble_eq_true rfl, Nat.le_of_ble_eq_true rfl⟩ rfl (Nat.le_of_ble_eq_true rfl) (fun v w' hv => ?_)
    obtain ⟨rfl, rfl⟩ := hv
    show z_G X zm_M_query (58, [(2, .inl (S 78 54)), (1, .inl (F_M_sign S)), (0, z_r 78)], [.inl (F_M_isSimple (z_uS (z_uS (z_uS S 78 54 ((S 78 54) + 1)) 186 (S 78 54).toNatClampNeg (vp_nar .char (F_M_sign S))) 78 52 ((S 78 52) + 1)) (F_M_sign S))], zW T' G' (z_uS (z_uS (z_uS S 78 54 ((S 78 54) + 1)) 186 (S 78 54).toNatClampNeg (vp_nar .char (F_M_sign S))) 78 52 ((S 78 52) + 1)) n, 0, 0)
    refine z_if_eq 76 M.1 (off := 18) (by decide +kernel) (by decide) (fun c58 => ?_) (fun c58 => ?_)
    · rw [if_pos c58] at K hs
      refine z_go2 M.1 76 [(.iload_n 1, 1), (.bipush 97, 2)] (79, [(2, .inl (S 78 54)), (1, .inl (F_M_sign S)), (0, z_r 78)], [.inl 97, .inl (F_M_sign S)], zW T' G' (z_uS (z_uS (z_uS S 78 54 ((S 78 54) + 1)) 186 (S 78 54).toNatClampNeg (vp_nar .char (F_M_sign S))) 78 52 ((S 78 52) + 1)) n, 0, 0) (by decide +kernel) rfl ⟨trivial, trivial, trivial⟩ ?_
      refine z_icmp_ne 138 M.1 (off := 59) (by decide +kernel) (by decide) (fun c79 => ?_) (fun c79 => ?_)
      · rw [if_neg c79] at K hs
        refine z_go2 M.1 138 [(.iload_n 1, 1), (.bipush 102, 2)] (141, [(2, .inl (S 78 54)), (1, .inl (F_M_sign S)), (0, z_r 78)], [.inl 102, .inl (F_M_sign S)], zW T' G' (z_uS (z_uS (z_uS S 78 54 ((S 78 54) + 1)) 186 (S 78 54).toNatClampNeg (vp_nar .char (F_M_sign S))) 78 52 ((S 78 52) + 1)) n, 0, 0) (by decide +kernel) rfl ⟨trivial, trivial, trivial⟩ ?_
        refine z_icmp_ne 171 M.1 (off := 30) (by decide +kernel) (by decide) (fun c141 => ?_) (fun c141 => ?_)
        · rw [if_neg c141] at K hs
          refine z_go2 M.1 171 [(.iload_n 1, 1), (.bipush 88, 2)] (174, [(2, .inl (S 78 54)), (1, .inl (F_M_sign S)), (0, z_r 78)], [.inl 88, .inl (F_M_sign S)], zW T' G' (z_uS (z_uS (z_uS S 78 54 ((S 78 54) + 1)) 186 (S 78 54).toNatClampNeg (vp_nar .char (F_M_sign S))) 78 52 ((S 78 52) + 1)) n, 0, 0) (by decide +kernel) rfl ⟨trivial, trivial, trivial⟩ ?_
          refine z_icmp_ne 204 M.1 (off := 30) (by decide +kernel) (by decide) (fun c174 => ?_) (fun c174 => ?_)
          · rw [if_neg c174] at K hs
            refine z_go2 M.1 204 [(.iload_n 1, 1), (.bipush 68, 2)] (207, [(2, .inl (S 78 54)), (1, .inl (F_M_sign S)), (0, z_r 78)], [.inl 68, .inl (F_M_sign S)], zW T' G' (z_uS (z_uS (z_uS S 78 54 ((S 78 54) + 1)) 186 (S 78 54).toNatClampNeg (vp_nar .char (F_M_sign S))) 78 52 ((S 78 52) + 1)) n, 0, 0) (by decide +kernel) rfl ⟨trivial, trivial, trivial⟩ ?_
            refine z_icmp_ne 243 M.1 (off := 36) (by decide +kernel) (by decide) (fun c207 => ?_) (fun c207 => ?_)
            · rw [if_neg c207] at K hs
              refine z_go2 M.1 243 [(.iload_n 1, 1), (.bipush 67, 2)] (246, [(2, .inl (S 78 54)), (1, .inl (F_M_sign S)), (0, z_r 78)], [.inl 67, .inl (F_M_sign S)], zW T' G' (z_uS (z_uS (z_uS S 78 54 ((S 78 54) + 1)) 186 (S 78 54).toNatClampNeg (vp_nar .char (F_M_sign S))) 78 52 ((S 78 52) + 1)) n, 0, 0) (by decide +kernel) rfl ⟨trivial, trivial, trivial⟩ ?_
              refine z_icmp_eq 255 M.1 (off := 9) (by decide +kernel) (by decide) (fun c246 => ?_) (fun c246 => ?_)
              · rw [if_pos c246] at K hs
                exact z_lvs (lv' := [(0, z_r 78), (2, .inl (S 78 54))]) [2, 0] rfl (t_M_query_j255 M rq sq hRq (z_uS (z_uS (z_uS S 78 54 ((S 78 54) + 1)) 186 (S 78 54).toNatClampNeg (vp_nar .char (F_M_sign S))) 78 52 ((S 78 52) + 1)) (S 78 54) hQ K hs)
              · rw [if_neg c246] at K hs
                refine z_go2 M.1 249 [(.iload_n 1, 1), (.bipush 85, 2)] (252, [(2, .inl (S 78 54)), (1, .inl (F_M_sign S)), (0, z_r 78)], [.inl 85, .inl (F_M_sign S)], zW T' G' (z_uS (z_uS (z_uS S 78 54 ((S 78 54) + 1)) 186 (S 78 54).toNatClampNeg (vp_nar .char (F_M_sign S))) 78 52 ((S 78 52) + 1)) n, 0, 0) (by decide +kernel) rfl ⟨trivial, trivial, trivial⟩ ?_
                refine z_icmp_ne 268 M.1 (off := 16) (by decide +kernel) (by decide) (fun c252 => ?_) (fun c252 => ?_)
                · rw [if_neg c252] at K hs
                  refine z_go2 M.1 268 [(.iload_n 1, 1), (.bipush 76, 2)] (271, [(2, .inl (S 78 54)), (1, .inl (F_M_sign S)), (0, z_r 78)], [.inl 76, .inl (F_M_sign S)], zW T' G' (z_uS (z_uS (z_uS S 78 54 ((S 78 54) + 1)) 186 (S 78 54).toNatClampNeg (vp_nar .char (F_M_sign S))) 78 52 ((S 78 52) + 1)) n, 0, 0) (by decide +kernel) rfl ⟨trivial, trivial, trivial⟩ ?_
                  refine z_icmp_eq 280 M.1 (off := 9) (by decide +kernel) (by decide) (fun c271 => ?_) (fun c271 => ?_)
                  · rw [if_pos c271] at K hs
                    exact z_lvs (lv' := [(0, z_r 78), (2, .inl (S 78 54))]) [2, 0] rfl (t_M_query_j280 M rq sq hRq (z_uS (z_uS (z_uS S 78 54 ((S 78 54) + 1)) 186 (S 78 54).toNatClampNeg (vp_nar .char (F_M_sign S))) 78 52 ((S 78 52) + 1)) (S 78 54) hQ K hs)
                  · rw [if_neg c271] at K hs
                    refine z_go2 M.1 274 [(.iload_n 1, 1), (.bipush 73, 2)] (277, [(2, .inl (S 78 54)), (1, .inl (F_M_sign S)), (0, z_r 78)], [.inl 73, .inl (F_M_sign S)], zW T' G' (z_uS (z_uS (z_uS S 78 54 ((S 78 54) + 1)) 186 (S 78 54).toNatClampNeg (vp_nar .char (F_M_sign S))) 78 52 ((S 78 52) + 1)) n, 0, 0) (by decide +kernel) rfl ⟨trivial, trivial, trivial⟩ ?_
                    refine z_icmp_ne 316 M.1 (off := 39) (by decide +kernel) (by decide) (fun c277 => ?_) (fun c277 => ?_)
                    · rw [if_neg c277] at K hs
                      refine z_go2 M.1 316 [(.iload_n 1, 1), (.bipush 33, 2)] (319, [(2, .inl (S 78 54)), (1, .inl (F_M_sign S)), (0, z_r 78)], [.inl 33, .inl (F_M_sign S)], zW T' G' (z_uS (z_uS (z_uS S 78 54 ((S 78 54) + 1)) 186 (S 78 54).toNatClampNeg (vp_nar .char (F_M_sign S))) 78 52 ((S 78 52) + 1)) n, 0, 0) (by decide +kernel) rfl ⟨trivial, trivial, trivial⟩ ?_
                      refine z_icmp_ne 335 M.1 (off := 16) (by decide +kernel) (by decide) (fun c319 => ?_) (fun c319 => ?_)
                      · rw [if_neg c319] at K hs
                        refine z_go2 M.1 335 [(.iload_n 1, 1), (.bipush 40, 2)] (338, [(2, .inl (S 78 54)), (1, .inl (F_M_sign S)), (0, z_r 78)], [.inl 40, .inl (F_M_sign S)], zW T' G' (z_uS (z_uS (z_uS S 78 54 ((S 78 54) + 1)) 186 (S 78 54).toNatClampNeg (vp_nar .char (F_M_sign S))) 78 52 ((S 78 52) + 1)) n, 0, 0) (by decide +kernel) rfl ⟨trivial, trivial, trivial⟩ ?_
                        refine z_icmp_ne 349 M.1 (off := 11) (by decide +kernel) (by decide) (fun c338 => ?_) (fun c338 => ?_)
                        · rw [if_neg c338] at K hs
                          refine z_go2 M.1 349 [(.aload_n 0, 1), (.dup, 1), (.getfield 380, 3), (.iconst 1, 1), (.isub, 1), (.putfield 380, 3), (.aload_n 0, 1)] (360, [(2, .inl (S 78 54)), (1, .inl (F_M_sign S)), (0, z_r 78)], [z_r 78], zW T' G' (z_uS (z_uS (z_uS (z_uS S 78 54 ((S 78 54) + 1)) 186 (S 78 54).toNatClampNeg (vp_nar .char (F_M_sign S))) 78 52 ((S 78 52) + 1)) 78 52 (((S 78 52) + 1) - 1)) n, 0, 0) (by decide +kernel) rfl ⟨trivial, rfl, rfl, trivial, trivial, ⟨rfl, trivial⟩, trivial, trivial⟩ ?_
                          refine z_callV M.1 (av := []) (st := []) (a := 78) (ci := 14) (by decide +kernel) (c_M_fails T' G' (z_uS (z_uS (z_uS (z_uS S 78 54 ((S 78 54) + 1)) 186 (S 78 54).toNatClampNeg (vp_nar .char (F_M_sign S))) 78 52 ((S 78 52) + 1)) 78 52 (((S 78 52) + 1) - 1)) n) M.2.1 zl_M_387 zv_M_fails rfl rfl rfl ⟨(show 0 + 1 ≤ dq + 3 by omega), (show 8 + (1 + 11) + 40 * 0 ≤ 40 * (dq + 3) by omega), Nat.le_of_ble_eq_true rfl, Nat.le_of_ble_eq_true rfl⟩ rfl (Nat.le_of_ble_eq_true rfl) (fun v w' hv => ?_)
                          obtain ⟨S360, hF360⟩ : ∃ y, F_M_fails (z_uS (z_uS (z_uS (z_uS S 78 54 ((S 78 54) + 1)) 186 (S 78 54).toNatClampNeg (vp_nar .char (F_M_sign S))) 78 52 ((S 78 52) + 1)) 78 52 (((S 78 52) + 1) - 1)) = y := ⟨_, rfl⟩
                          rw [hF360] at K hv
                          try dsimp only [z_let] at K
                          obtain ⟨rfl, rfl⟩ := hv
                          show z_G X zm_M_query (363, [(2, .inl (S 78 54)), (1, .inl (F_M_sign S)), (0, z_r 78)], [], zW T' G' S360 n, 0, 0)
                          refine z_go2 M.1 363 [(.iload_n 2, 1)] (364, [(2, .inl (S 78 54)), (1, .inl (F_M_sign S)), (0, z_r 78)], [.inl (S 78 54)], zW T' G' S360 n, 0, 0) (by decide +kernel) rfl ⟨trivial, trivial⟩ ?_
                          exact z_iret M (by decide +kernel) .int rfl rfl (Nat.le_of_ble_eq_true rfl) (Nat.le_of_ble_eq_true rfl) (hQ _ _ K)
                        · rw [if_pos c338] at K hs
                          refine z_go2 M.1 341 [(.aload_n 0, 1), (.iload_n 2, 1)] (343, [(2, .inl (S 78 54)), (1, .inl (F_M_sign S)), (0, z_r 78)], [.inl (S 78 54), z_r 78], zW T' G' (z_uS (z_uS (z_uS S 78 54 ((S 78 54) + 1)) 186 (S 78 54).toNatClampNeg (vp_nar .char (F_M_sign S))) 78 52 ((S 78 52) + 1)) n, 0, 0) (by decide +kernel) rfl ⟨trivial, trivial, trivial⟩ ?_
                          refine z_callV M.1 (av := [.inl (S 78 54)]) (st := []) (a := 78) (ci := 14) (by decide +kernel) (c_M_pair T' G' n (dq := dq) rq sq hRq (z_uS (z_uS (z_uS S 78 54 ((S 78 54) + 1)) 186 (S 78 54).toNatClampNeg (vp_nar .char (F_M_sign S))) 78 52 ((S 78 52) + 1)) (S 78 54) hs.1) M.2.1 zl_M_413 zv_M_pair rfl rfl rfl ⟨(show (dq + 2) + 1 ≤ dq + 3 by omega), (show 8 + (3 + 11) + 40 * (dq + 2) ≤ 40 * (dq + 3) by omega), Nat.le_of_ble_eq_true rfl, Nat.le_of_ble_eq_true rfl⟩ rfl (Nat.le_of_ble_eq_true rfl) (fun v w' hv => ?_)
                          replace hs := hs.2
                          obtain ⟨S343, hF343⟩ : ∃ y, F_M_pair rq (z_uS (z_uS (z_uS S 78 54 ((S 78 54) + 1)) 186 (S 78 54).toNatClampNeg (vp_nar .char (F_M_sign S))) 78 52 ((S 78 52) + 1)) (S 78 54) = y := ⟨_, rfl⟩
                          rw [hF343] at K hv
                          try dsimp only [z_let] at K
                          obtain ⟨rfl, rfl⟩ := hv
                          show z_G X zm_M_query (346, [(2, .inl (S 78 54)), (1, .inl (F_M_sign S)), (0, z_r 78)], [], zW T' G' S343 n, 0, 0)
                          refine z_go2 M.1 346 [(.goto 17, 3), (.iload_n 2, 1)] (364, [(2, .inl (S 78 54)), (1, .inl (F_M_sign S)), (0, z_r 78)], [.inl (S 78 54)], zW T' G' S343 n, 0, 0) (by decide +kernel) rfl ⟨trivial, trivial, trivial⟩ ?_
                          exact z_iret M (by decide +kernel) .int rfl rfl (Nat.le_of_ble_eq_true rfl) (Nat.le_of_ble_eq_true rfl) (hQ _ _ K)
                      · rw [if_pos c319] at K hs
                        refine z_go2 M.1 322 [(.aload_n 0, 1), (.getfield 163, 3), (.iload_n 2, 1), (.aload_n 0, 1)] (328, [(2, .inl (S 78 54)), (1, .inl (F_M_sign S)), (0, z_r 78)], [z_r 78, .inl (S 78 54), z_r 189], zW T' G' (z_uS (z_uS (z_uS S 78 54 ((S 78 54) + 1)) 186 (S 78 54).toNatClampNeg (vp_nar .char (F_M_sign S))) 78 52 ((S 78 52) + 1)) n, 0, 0) (by decide +kernel) rfl ⟨trivial, rfl, trivial, trivial, trivial⟩ ?_
                        refine z_callV M.1 (av := []) (st := [.inl (S 78 54), z_r 189]) (a := 78) (ci := 14) (by decide +kernel) (hRq T' G' n (z_uS (z_uS (z_uS S 78 54 ((S 78 54) + 1)) 186 (S 78 54).toNatClampNeg (vp_nar .char (F_M_sign S))) 78 52 ((S 78 52) + 1)) hs.1) M.2.1 zl_M_394 zv_M_query rfl rfl rfl ⟨(show dq + 1 ≤ dq + 3 by omega), (show 8 + (4 + 11) + 40 * dq ≤ 40 * (dq + 3) by omega), Nat.le_of_ble_eq_true rfl, Nat.le_of_ble_eq_true rfl⟩ rfl (Nat.le_of_ble_eq_true rfl) (fun v w' hv => ?_)
                        replace hs := hs.2
                        rcases hF328 : rq (z_uS (z_uS (z_uS S 78 54 ((S 78 54) + 1)) 186 (S 78 54).toNatClampNeg (vp_nar .char (F_M_sign S))) 78 52 ((S 78 52) + 1)) with ⟨r328, S328⟩
                        rw [hF328] at K hv
                        try rw [hF328] at hs
                        try dsimp only at K hs
                        obtain ⟨rfl, rfl⟩ := hv
                        show z_G X zm_M_query (331, [(2, .inl (S 78 54)), (1, .inl (F_M_sign S)), (0, z_r 78)], [.inl r328, .inl (S 78 54), z_r 189], zW T' G' S328 n, 0, 0)
                        refine z_go2 M.1 331 [(.iastore, 1), (.goto 31, 3), (.iload_n 2, 1)] (364, [(2, .inl (S 78 54)), (1, .inl (F_M_sign S)), (0, z_r 78)], [.inl (S 78 54)], zW T' G' (z_uS S328 189 (S 78 54).toNatClampNeg r328) n, 0, 0) (by decide +kernel) rfl ⟨⟨rfl, hs.1⟩, trivial, trivial, trivial⟩ ?_
                        replace hs := hs.2
                        exact z_iret M (by decide +kernel) .int rfl rfl (Nat.le_of_ble_eq_true rfl) (Nat.le_of_ble_eq_true rfl) (hQ _ _ K)
                    · rw [if_pos c277] at K hs
                      exact z_lvs (lv' := [(0, z_r 78), (2, .inl (S 78 54))]) [2, 0] rfl (t_M_query_j280 M rq sq hRq (z_uS (z_uS (z_uS S 78 54 ((S 78 54) + 1)) 186 (S 78 54).toNatClampNeg (vp_nar .char (F_M_sign S))) 78 52 ((S 78 52) + 1)) (S 78 54) hQ K hs)
                · rw [if_pos c252] at K hs
                  exact z_lvs (lv' := [(0, z_r 78), (2, .inl (S 78 54))]) [2, 0] rfl (t_M_query_j255 M rq sq hRq (z_uS (z_uS (z_uS S 78 54 ((S 78 54) + 1)) 186 (S 78 54).toNatClampNeg (vp_nar .char (F_M_sign S))) 78 52 ((S 78 52) + 1)) (S 78 54) hQ K hs)
            · rw [if_pos c207] at K hs
              refine z_go2 M.1 210 [(.aload_n 0, 1), (.getfield 157, 3), (.iload_n 2, 1), (.bipush 10, 2), (.aload_n 0, 1), (.bipush 9, 2)] (220, [(2, .inl (S 78 54)), (1, .inl (F_M_sign S)), (0, z_r 78)], [.inl 9, z_r 78, .inl 10, .inl (S 78 54), z_r 187], zW T' G' (z_uS (z_uS (z_uS S 78 54 ((S 78 54) + 1)) 186 (S 78 54).toNatClampNeg (vp_nar .char (F_M_sign S))) 78 52 ((S 78 52) + 1)) n, 0, 0) (by decide +kernel) rfl ⟨trivial, rfl, trivial, trivial, trivial, trivial, trivial⟩ ?_
              refine z_callV M.1 (av := [.inl 9]) (st := [.inl 10, .inl (S 78 54), z_r 187]) (a := 78) (ci := 14) (by decide +kernel) (c_M_digit T' G' (z_uS (z_uS (z_uS S 78 54 ((S 78 54) + 1)) 186 (S 78 54).toNatClampNeg (vp_nar .char (F_M_sign S))) 78 52 ((S 78 52) + 1)) n 9 hs.1) M.2.1 zl_M_398 zv_M_digit rfl rfl rfl ⟨(show 1 + 1 ≤ dq + 3 by omega), (show 8 + (3 + 11) + 40 * 1 ≤ 40 * (dq + 3) by omega), Nat.le_of_ble_eq_true rfl, Nat.le_of_ble_eq_true rfl⟩ rfl (Nat.le_of_ble_eq_true rfl) (fun v w' hv => ?_)
              replace hs := hs.2
              rcases hF220 : F_M_digit (z_uS (z_uS (z_uS S 78 54 ((S 78 54) + 1)) 186 (S 78 54).toNatClampNeg (vp_nar .char (F_M_sign S))) 78 52 ((S 78 52) + 1)) 9 with ⟨r220, S220⟩
              rw [hF220] at K hv
              try rw [hF220] at hs
              try dsimp only at K hs
              obtain ⟨rfl, rfl⟩ := hv
              show z_G X zm_M_query (223, [(2, .inl (S 78 54)), (1, .inl (F_M_sign S)), (0, z_r 78)], [.inl r220, .inl 10, .inl (S 78 54), z_r 187], zW T' G' S220 n, 0, 0)
              refine z_go2 M.1 223 [(.imul, 1), (.iastore, 1), (.aload_n 0, 1), (.getfield 157, 3), (.iload_n 2, 1), (.dup2, 1), (.iaload, 1), (.aload_n 0, 1), (.bipush 9, 2)] (235, [(2, .inl (S 78 54)), (1, .inl (F_M_sign S)), (0, z_r 78)], [.inl 9, z_r 78, .inl ((z_uS S220 187 (S 78 54).toNatClampNeg ((10 : Int32) * r220)) 187 (S 78 54).toNatClampNeg), .inl (S 78 54), z_r 187], zW T' G' (z_uS S220 187 (S 78 54).toNatClampNeg ((10 : Int32) * r220)) n, 0, 0) (by decide +kernel) rfl ⟨trivial, ⟨rfl, hs.1⟩, trivial, rfl, trivial, ⟨rfl, rfl⟩, ⟨rfl, hs.2.1⟩, trivial, trivial, trivial⟩ ?_
              replace hs := hs.2.2
              refine z_callV M.1 (av := [.inl 9]) (st := [.inl ((z_uS S220 187 (S 78 54).toNatClampNeg ((10 : Int32) * r220)) 187 (S 78 54).toNatClampNeg), .inl (S 78 54), z_r 187]) (a := 78) (ci := 14) (by decide +kernel) (c_M_digit T' G' (z_uS S220 187 (S 78 54).toNatClampNeg ((10 : Int32) * r220)) n 9 hs.1) M.2.1 zl_M_398 zv_M_digit rfl rfl rfl ⟨(show 1 + 1 ≤ dq + 3 by omega), (show 8 + (3 + 11) + 40 * 1 ≤ 40 * (dq + 3) by omega), Nat.le_of_ble_eq_true rfl, Nat.le_of_ble_eq_true rfl⟩ rfl (Nat.le_of_ble_eq_true rfl) (fun v w' hv => ?_)
              replace hs := hs.2
              rcases hF235 : F_M_digit (z_uS S220 187 (S 78 54).toNatClampNeg ((10 : Int32) * r220)) 9 with ⟨r235, S235⟩
              rw [hF235] at K hv
              try rw [hF235] at hs
              try dsimp only at K hs
              obtain ⟨rfl, rfl⟩ := hv
              show z_G X zm_M_query (238, [(2, .inl (S 78 54)), (1, .inl (F_M_sign S)), (0, z_r 78)], [.inl r235, .inl ((z_uS S220 187 (S 78 54).toNatClampNeg ((10 : Int32) * r220)) 187 (S 78 54).toNatClampNeg), .inl (S 78 54), z_r 187], zW T' G' S235 n, 0, 0)
              refine z_go2 M.1 238 [(.iadd, 1), (.iastore, 1), (.goto 123, 3), (.iload_n 2, 1)] (364, [(2, .inl (S 78 54)), (1, .inl (F_M_sign S)), (0, z_r 78)], [.inl (S 78 54)], zW T' G' (z_uS S235 187 (S 78 54).toNatClampNeg (((z_uS S220 187 (S 78 54).toNatClampNeg ((10 : Int32) * r220)) 187 (S 78 54).toNatClampNeg) + r235)) n, 0, 0) (by decide +kernel) rfl ⟨trivial, ⟨rfl, hs.1⟩, trivial, trivial, trivial⟩ ?_
              replace hs := hs.2
              exact z_iret M (by decide +kernel) .int rfl rfl (Nat.le_of_ble_eq_true rfl) (Nat.le_of_ble_eq_true rfl) (hQ _ _ K)
          · rw [if_pos c174] at K hs
            refine z_go2 M.1 177 [(.aload_n 0, 1), (.getfield 157, 3), (.iload_n 2, 1), (.aload_n 0, 1), (.bipush 9, 2)] (185, [(2, .inl (S 78 54)), (1, .inl (F_M_sign S)), (0, z_r 78)], [.inl 9, z_r 78, .inl (S 78 54), z_r 187], zW T' G' (z_uS (z_uS (z_uS S 78 54 ((S 78 54) + 1)) 186 (S 78 54).toNatClampNeg (vp_nar .char (F_M_sign S))) 78 52 ((S 78 52) + 1)) n, 0, 0) (by decide +kernel) rfl ⟨trivial, rfl, trivial, trivial, trivial, trivial⟩ ?_
            refine z_callV M.1 (av := [.inl 9]) (st := [.inl (S 78 54), z_r 187]) (a := 78) (ci := 14) (by decide +kernel) (c_M_digit T' G' (z_uS (z_uS (z_uS S 78 54 ((S 78 54) + 1)) 186 (S 78 54).toNatClampNeg (vp_nar .char (F_M_sign S))) 78 52 ((S 78 52) + 1)) n 9 hs.1) M.2.1 zl_M_398 zv_M_digit rfl rfl rfl ⟨(show 1 + 1 ≤ dq + 3 by omega), (show 8 + (3 + 11) + 40 * 1 ≤ 40 * (dq + 3) by omega), Nat.le_of_ble_eq_true rfl, Nat.le_of_ble_eq_true rfl⟩ rfl (Nat.le_of_ble_eq_true rfl) (fun v w' hv => ?_)
            replace hs := hs.2
            rcases hF185 : F_M_digit (z_uS (z_uS (z_uS S 78 54 ((S 78 54) + 1)) 186 (S 78 54).toNatClampNeg (vp_nar .char (F_M_sign S))) 78 52 ((S 78 52) + 1)) 9 with ⟨r185, S185⟩
            rw [hF185] at K hv
            try rw [hF185] at hs
            try dsimp only at K hs
            obtain ⟨rfl, rfl⟩ := hv
            show z_G X zm_M_query (188, [(2, .inl (S 78 54)), (1, .inl (F_M_sign S)), (0, z_r 78)], [.inl r185, .inl (S 78 54), z_r 187], zW T' G' S185 n, 0, 0)
            refine z_go2 M.1 188 [(.iastore, 1), (.aload_n 0, 1), (.getfield 160, 3), (.iload_n 2, 1), (.aload_n 0, 1), (.bipush 9, 2)] (197, [(2, .inl (S 78 54)), (1, .inl (F_M_sign S)), (0, z_r 78)], [.inl 9, z_r 78, .inl (S 78 54), z_r 188], zW T' G' (z_uS S185 187 (S 78 54).toNatClampNeg r185) n, 0, 0) (by decide +kernel) rfl ⟨⟨rfl, hs.1⟩, trivial, rfl, trivial, trivial, trivial, trivial⟩ ?_
            replace hs := hs.2
            refine z_callV M.1 (av := [.inl 9]) (st := [.inl (S 78 54), z_r 188]) (a := 78) (ci := 14) (by decide +kernel) (c_M_digit T' G' (z_uS S185 187 (S 78 54).toNatClampNeg r185) n 9 hs.1) M.2.1 zl_M_398 zv_M_digit rfl rfl rfl ⟨(show 1 + 1 ≤ dq + 3 by omega), (show 8 + (3 + 11) + 40 * 1 ≤ 40 * (dq + 3) by omega), Nat.le_of_ble_eq_true rfl, Nat.le_of_ble_eq_true rfl⟩ rfl (Nat.le_of_ble_eq_true rfl) (fun v w' hv => ?_)
            replace hs := hs.2
            rcases hF197 : F_M_digit (z_uS S185 187 (S 78 54).toNatClampNeg r185) 9 with ⟨r197, S197⟩
            rw [hF197] at K hv
            try rw [hF197] at hs
            try dsimp only at K hs
            obtain ⟨rfl, rfl⟩ := hv
            show z_G X zm_M_query (200, [(2, .inl (S 78 54)), (1, .inl (F_M_sign S)), (0, z_r 78)], [.inl r197, .inl (S 78 54), z_r 188], zW T' G' S197 n, 0, 0)
            refine z_go2 M.1 200 [(.iastore, 1), (.goto 162, 3), (.iload_n 2, 1)] (364, [(2, .inl (S 78 54)), (1, .inl (F_M_sign S)), (0, z_r 78)], [.inl (S 78 54)], zW T' G' (z_uS S197 188 (S 78 54).toNatClampNeg r197) n, 0, 0) (by decide +kernel) rfl ⟨⟨rfl, hs.1⟩, trivial, trivial, trivial⟩ ?_
            replace hs := hs.2
            exact z_iret M (by decide +kernel) .int rfl rfl (Nat.le_of_ble_eq_true rfl) (Nat.le_of_ble_eq_true rfl) (hQ _ _ K)
        · rw [if_pos c141] at K hs
          refine z_go2 M.1 144 [(.aload_n 0, 1), (.getfield 157, 3), (.iload_n 2, 1), (.aload_n 0, 1), (.iconst 3, 1)] (151, [(2, .inl (S 78 54)), (1, .inl (F_M_sign S)), (0, z_r 78)], [.inl 3, z_r 78, .inl (S 78 54), z_r 187], zW T' G' (z_uS (z_uS (z_uS S 78 54 ((S 78 54) + 1)) 186 (S 78 54).toNatClampNeg (vp_nar .char (F_M_sign S))) 78 52 ((S 78 52) + 1)) n, 0, 0) (by decide +kernel) rfl ⟨trivial, rfl, trivial, trivial, trivial, trivial⟩ ?_
          refine z_callV M.1 (av := [.inl 3]) (st := [.inl (S 78 54), z_r 187]) (a := 78) (ci := 14) (by decide +kernel) (c_M_digit T' G' (z_uS (z_uS (z_uS S 78 54 ((S 78 54) + 1)) 186 (S 78 54).toNatClampNeg (vp_nar .char (F_M_sign S))) 78 52 ((S 78 52) + 1)) n 3 hs.1) M.2.1 zl_M_398 zv_M_digit rfl rfl rfl ⟨(show 1 + 1 ≤ dq + 3 by omega), (show 8 + (3 + 11) + 40 * 1 ≤ 40 * (dq + 3) by omega), Nat.le_of_ble_eq_true rfl, Nat.le_of_ble_eq_true rfl⟩ rfl (Nat.le_of_ble_eq_true rfl) (fun v w' hv => ?_)
          replace hs := hs.2
          rcases hF151 : F_M_digit (z_uS (z_uS (z_uS S 78 54 ((S 78 54) + 1)) 186 (S 78 54).toNatClampNeg (vp_nar .char (F_M_sign S))) 78 52 ((S 78 52) + 1)) 3 with ⟨r151, S151⟩
          rw [hF151] at K hv
          try rw [hF151] at hs
          try dsimp only at K hs
          obtain ⟨rfl, rfl⟩ := hv
          show z_G X zm_M_query (154, [(2, .inl (S 78 54)), (1, .inl (F_M_sign S)), (0, z_r 78)], [.inl r151, .inl (S 78 54), z_r 187], zW T' G' S151 n, 0, 0)
          refine z_go2 M.1 154 [(.iastore, 1), (.aload_n 0, 1), (.getfield 377, 3), (.iconst (-1), 1)] (160, [(2, .inl (S 78 54)), (1, .inl (F_M_sign S)), (0, z_r 78)], [.inl (-1), .inl (S151 78 53)], zW T' G' (z_uS S151 187 (S 78 54).toNatClampNeg r151) n, 0, 0) (by decide +kernel) rfl ⟨⟨rfl, hs.1⟩, trivial, rfl, trivial, trivial⟩ ?_
          replace hs := hs.2
          refine z_icmp_ne 363 M.1 (off := 203) (by decide +kernel) (by decide) (fun c160 => ?_) (fun c160 => ?_)
          · rw [if_neg c160] at K hs
            refine z_go2 M.1 363 [(.iload_n 2, 1)] (364, [(2, .inl (S 78 54)), (1, .inl (F_M_sign S)), (0, z_r 78)], [.inl (S 78 54)], zW T' G' (z_uS S151 187 (S 78 54).toNatClampNeg r151) n, 0, 0) (by decide +kernel) rfl ⟨trivial, trivial⟩ ?_
            exact z_iret M (by decide +kernel) .int rfl rfl (Nat.le_of_ble_eq_true rfl) (Nat.le_of_ble_eq_true rfl) (hQ _ _ K)
          · rw [if_pos c160] at K hs
            refine z_go2 M.1 163 [(.aload_n 0, 1), (.iload_n 2, 1)] (165, [(2, .inl (S 78 54)), (1, .inl (F_M_sign S)), (0, z_r 78)], [.inl (S 78 54), z_r 78], zW T' G' (z_uS S151 187 (S 78 54).toNatClampNeg r151) n, 0, 0) (by decide +kernel) rfl ⟨trivial, trivial, trivial⟩ ?_
            refine z_callV M.1 (av := [.inl (S 78 54)]) (st := []) (a := 78) (ci := 14) (by decide +kernel) (c_M_compares T' G' (z_uS S151 187 (S 78 54).toNatClampNeg r151) n (S 78 54) hs.1) M.2.1 zl_M_407 zv_M_compares rfl rfl rfl ⟨(show 2 + 1 ≤ dq + 3 by omega), (show 8 + (3 + 11) + 40 * 2 ≤ 40 * (dq + 3) by omega), Nat.le_of_ble_eq_true rfl, Nat.le_of_ble_eq_true rfl⟩ rfl (Nat.le_of_ble_eq_true rfl) (fun v w' hv => ?_)
            replace hs := hs.2
            obtain ⟨S165, hF165⟩ : ∃ y, F_M_compares (z_uS S151 187 (S 78 54).toNatClampNeg r151) (S 78 54) = y := ⟨_, rfl⟩
            rw [hF165] at K hv
            try dsimp only [z_let] at K
            obtain ⟨rfl, rfl⟩ := hv
            show z_G X zm_M_query (168, [(2, .inl (S 78 54)), (1, .inl (F_M_sign S)), (0, z_r 78)], [], zW T' G' S165 n, 0, 0)
            refine z_go2 M.1 168 [(.goto 195, 3), (.iload_n 2, 1)] (364, [(2, .inl (S 78 54)), (1, .inl (F_M_sign S)), (0, z_r 78)], [.inl (S 78 54)], zW T' G' S165 n, 0, 0) (by decide +kernel) rfl ⟨trivial, trivial, trivial⟩ ?_
            exact z_iret M (by decide +kernel) .int rfl rfl (Nat.le_of_ble_eq_true rfl) (Nat.le_of_ble_eq_true rfl) (hQ _ _ K)
      · rw [if_pos c79] at K hs
        refine z_go2 M.1 82 [(.aload_n 0, 1)] (83, [(2, .inl (S 78 54)), (1, .inl (F_M_sign S)), (0, z_r 78)], [z_r 78], zW T' G' (z_uS (z_uS (z_uS S 78 54 ((S 78 54) + 1)) 186 (S 78 54).toNatClampNeg (vp_nar .char (F_M_sign S))) 78 52 ((S 78 52) + 1)) n, 0, 0) (by decide +kernel) rfl ⟨trivial, trivial⟩ ?_
        refine z_callV M.1 (av := []) (st := []) (a := 78) (ci := 14) (by decide +kernel) (c_M_sign T' G' (z_uS (z_uS (z_uS S 78 54 ((S 78 54) + 1)) 186 (S 78 54).toNatClampNeg (vp_nar .char (F_M_sign S))) 78 52 ((S 78 52) + 1)) n hs.1) M.2.1 zl_M_383 zv_M_sign rfl rfl rfl ⟨(show 0 + 1 ≤ dq + 3 by omega), (show 8 + (1 + 11) + 40 * 0 ≤ 40 * (dq + 3) by omega), Nat.le_of_ble_eq_true rfl, Nat.le_of_ble_eq_true rfl⟩ rfl (Nat.le_of_ble_eq_true rfl) (fun v w' hv => ?_)
        obtain ⟨rfl, rfl⟩ := hv
        replace hs := hs.2
        show z_G X zm_M_query (86, [(2, .inl (S 78 54)), (1, .inl (F_M_sign S)), (0, z_r 78)], [.inl (F_M_sign (z_uS (z_uS (z_uS S 78 54 ((S 78 54) + 1)) 186 (S 78 54).toNatClampNeg (vp_nar .char (F_M_sign S))) 78 52 ((S 78 52) + 1)))], zW T' G' (z_uS (z_uS (z_uS S 78 54 ((S 78 54) + 1)) 186 (S 78 54).toNatClampNeg (vp_nar .char (F_M_sign S))) 78 52 ((S 78 52) + 1)) n, 0, 0)
        refine z_go2 M.1 86 [(.bipush 120, 2)] (88, [(2, .inl (S 78 54)), (1, .inl (F_M_sign S)), (0, z_r 78)], [.inl 120, .inl (F_M_sign (z_uS (z_uS (z_uS S 78 54 ((S 78 54) + 1)) 186 (S 78 54).toNatClampNeg (vp_nar .char (F_M_sign S))) 78 52 ((S 78 52) + 1)))], zW T' G' (z_uS (z_uS (z_uS S 78 54 ((S 78 54) + 1)) 186 (S 78 54).toNatClampNeg (vp_nar .char (F_M_sign S))) 78 52 ((S 78 52) + 1)) n, 0, 0) (by decide +kernel) rfl ⟨trivial, trivial⟩ ?_
        refine z_icmp_ne 95 M.1 (off := 7) (by decide +kernel) (by decide) (fun c88 => ?_) (fun c88 => ?_)
        · rw [if_neg c88] at K hs
          refine z_go2 M.1 95 [(.iconst 0, 1)] (96, [(2, .inl (S 78 54)), (1, .inl (F_M_sign S)), (0, z_r 78)], [.inl 0], zW T' G' (z_uS (z_uS (z_uS S 78 54 ((S 78 54) + 1)) 186 (S 78 54).toNatClampNeg (vp_nar .char (F_M_sign S))) 78 52 ((S 78 52) + 1)) n, 0, 0) (by decide +kernel) rfl ⟨trivial, trivial⟩ ?_
          exact z_lvs (lv' := [(0, z_r 78), (2, .inl (S 78 54))]) [2, 0] rfl (t_M_query_j96 M rq sq hRq (z_uS (z_uS (z_uS S 78 54 ((S 78 54) + 1)) 186 (S 78 54).toNatClampNeg (vp_nar .char (F_M_sign S))) 78 52 ((S 78 52) + 1)) (S 78 54) 0 hQ K hs)
        · rw [if_pos c88] at K hs
          refine z_go2 M.1 91 [(.iconst 1, 1), (.goto 4, 3)] (96, [(2, .inl (S 78 54)), (1, .inl (F_M_sign S)), (0, z_r 78)], [.inl 1], zW T' G' (z_uS (z_uS (z_uS S 78 54 ((S 78 54) + 1)) 186 (S 78 54).toNatClampNeg (vp_nar .char (F_M_sign S))) 78 52 ((S 78 52) + 1)) n, 0, 0) (by decide +kernel) rfl ⟨trivial, trivial, trivial⟩ ?_
          exact z_lvs (lv' := [(0, z_r 78), (2, .inl (S 78 54))]) [2, 0] rfl (t_M_query_j96 M rq sq hRq (z_uS (z_uS (z_uS S 78 54 ((S 78 54) + 1)) 186 (S 78 54).toNatClampNeg (vp_nar .char (F_M_sign S))) 78 52 ((S 78 52) + 1)) (S 78 54) 1 hQ K hs)
    · rw [if_neg c58] at K hs
      refine z_go2 M.1 61 [(.aload_n 0, 1), (.getfield 157, 3), (.iload_n 2, 1), (.aload_n 0, 1), (.bipush 9, 2)] (69, [(2, .inl (S 78 54)), (1, .inl (F_M_sign S)), (0, z_r 78)], [.inl 9, z_r 78, .inl (S 78 54), z_r 187], zW T' G' (z_uS (z_uS (z_uS S 78 54 ((S 78 54) + 1)) 186 (S 78 54).toNatClampNeg (vp_nar .char (F_M_sign S))) 78 52 ((S 78 52) + 1)) n, 0, 0) (by decide +kernel) rfl ⟨trivial, rfl, trivial, trivial, trivial, trivial⟩ ?_
      refine z_callV M.1 (av := [.inl 9]) (st := [.inl (S 78 54), z_r 187]) (a := 78) (ci := 14) (by decide +kernel) (c_M_digit T' G' (z_uS (z_uS (z_uS S 78 54 ((S 78 54) + 1)) 186 (S 78 54).toNatClampNeg (vp_nar .char (F_M_sign S))) 78 52 ((S 78 52) + 1)) n 9 hs.1) M.2.1 zl_M_398 zv_M_digit rfl rfl rfl ⟨(show 1 + 1 ≤ dq + 3 by omega), (show 8 + (3 + 11) + 40 * 1 ≤ 40 * (dq + 3) by omega), Nat.le_of_ble_eq_true rfl, Nat.le_of_ble_eq_true rfl⟩ rfl (Nat.le_of_ble_eq_true rfl) (fun v w' hv => ?_)
      replace hs := hs.2
      rcases hF69 : F_M_digit (z_uS (z_uS (z_uS S 78 54 ((S 78 54) + 1)) 186 (S 78 54).toNatClampNeg (vp_nar .char (F_M_sign S))) 78 52 ((S 78 52) + 1)) 9 with ⟨r69, S69⟩
      rw [hF69] at K hv
      try rw [hF69] at hs
      try dsimp only at K hs
      obtain ⟨rfl, rfl⟩ := hv
      show z_G X zm_M_query (72, [(2, .inl (S 78 54)), (1, .inl (F_M_sign S)), (0, z_r 78)], [.inl r69, .inl (S 78 54), z_r 187], zW T' G' S69 n, 0, 0)
      refine z_go2 M.1 72 [(.iastore, 1), (.goto 290, 3), (.iload_n 2, 1)] (364, [(2, .inl (S 78 54)), (1, .inl (F_M_sign S)), (0, z_r 78)], [.inl (S 78 54)], zW T' G' (z_uS S69 187 (S 78 54).toNatClampNeg r69) n, 0, 0) (by decide +kernel) rfl ⟨⟨rfl, hs.1⟩, trivial, trivial, trivial⟩ ?_
      replace hs := hs.2
      exact z_iret M (by decide +kernel) .int rfl rfl (Nat.le_of_ble_eq_true rfl) (Nat.le_of_ble_eq_true rfl) (hQ _ _ K)
  · rw [if_neg c13] at K hs
    refine z_go2 M.1 16 [(.aload_n 0, 1)] (17, [(1, .inl (F_M_sign S)), (0, z_r 78)], [z_r 78], zW T' G' S n, 0, 0) (by decide +kernel) rfl ⟨trivial, trivial⟩ ?_
    refine z_callV M.1 (av := []) (st := []) (a := 78) (ci := 14) (by decide +kernel) (c_M_fails T' G' S n) M.2.1 zl_M_387 zv_M_fails rfl rfl rfl ⟨(show 0 + 1 ≤ dq + 3 by omega), (show 8 + (1 + 11) + 40 * 0 ≤ 40 * (dq + 3) by omega), Nat.le_of_ble_eq_true rfl, Nat.le_of_ble_eq_true rfl⟩ rfl (Nat.le_of_ble_eq_true rfl) (fun v w' hv => ?_)
    obtain ⟨S17, hF17⟩ : ∃ y, F_M_fails S = y := ⟨_, rfl⟩
    rw [hF17] at K hv
    try dsimp only [z_let] at K
    obtain ⟨rfl, rfl⟩ := hv
    show z_G X zm_M_query (20, [(1, .inl (F_M_sign S)), (0, z_r 78)], [], zW T' G' S17 n, 0, 0)
    refine z_go2 M.1 20 [(.iconst 0, 1)] (21, [(1, .inl (F_M_sign S)), (0, z_r 78)], [.inl 0], zW T' G' S17 n, 0, 0) (by decide +kernel) rfl ⟨trivial, trivial⟩ ?_
    exact z_iret M (by decide +kernel) .int rfl rfl (Nat.le_of_ble_eq_true rfl) (Nat.le_of_ble_eq_true rfl) (hQ _ _ K)

def FQ : Nat → (Nat → Nat → Int32) → Int32 × (Nat → Nat → Int32)
  | 0, S => (0, S)
  | k + 1, S => F_M_query (FQ k) S
def SQ : Nat → (Nat → Nat → Int32) → Prop
  | 0, _ => False
  | k + 1, S => Sf_M_query (FQ k) (SQ k) S
theorem c_Q : ∀ k, zRq (3 * k) (FQ k) (SQ k)
  | 0 => fun _ _ _ _ hs => False.elim hs
  | k + 1 => fun T' G' n S hs => c_M_query T' G' n (dq := 3 * k) (FQ k) (SQ k) (c_Q k) S hs
def F_M_query31 (S : (Nat → Nat → Int32)) : Int32 × (Nat → Nat → Int32) := FQ 31 S
def Sf_M_query31 (S : (Nat → Nat → Int32)) : Prop := SQ 31 S
theorem c_M_query31 (T' : Nat → Nat × Nat) (G' : Nat → Nat → Option Nat) (S : (Nat → Nat → Int32)) (n : Nat) (hs : Sf_M_query31 S) : z_Run (zr 93) zm_M_query [z_r 78] (zW T' G' S n) (zq (some (.inl (F_M_query31 S).1)) (zW T' G' (F_M_query31 S).2 n)) := c_Q 31 T' G' n S hs
-- TrackHouseModel.reads
abbrev rm_M_reads_0 : Room := zr 94
def F_M_reads_0 (S : (Nat → Nat → Int32)) : (Int32 × (Nat → Nat → Int32)) := (match F_M_query31 (z_uS (z_uS (z_uS S 78 52 0) 78 53 (-1)) 78 54 0) with | (r16, S16) => (if (S16 78 53) = (-1) then (if (S16 78 51) ≤ (S16 78 52) then ((S16 78 53), S16) else (z_let (F_M_fails S16) (fun S40 => ((S40 78 53), S40)))) else ((S16 78 53), S16)))
def Sf_M_reads_0 (S : (Nat → Nat → Int32)) : Prop := (Sf_M_query31 (z_uS (z_uS (z_uS S 78 52 0) 78 53 (-1)) 78 54 0) ∧ True)
theorem c_M_reads_0 (T' : Nat → Nat × Nat) (G' : Nat → Nat → Option Nat) (S : (Nat → Nat → Int32)) (n : Nat) (hs : Sf_M_reads_0 S) : z_Run rm_M_reads_0 zm_M_reads_0 [z_r 78] (zW T' G' S n) (zq (some (.inl (F_M_reads_0 S).1)) (zW T' G' (F_M_reads_0 S).2 n)) := by
  refine z_body (by decide) zf_M_ok (Nat.le_of_ble_eq_true rfl) (fun X M => ?_)
  obtain ⟨Q, hQ, K⟩ : ∃ Q : (Int32 × (Nat → Nat → Int32)) → Prop, (∀ v S', Q (v, S') → zq (some (.inl (F_M_reads_0 S).1)) (zW T' G' (F_M_reads_0 S).2 n) (some (.inl v)) (zW T' G' S' n)) ∧ Q (F_M_reads_0 S) := ⟨fun o => F_M_reads_0 S = o, fun v S' h => ⟨by rw [h], by rw [h]⟩, rfl⟩
  show z_G X zm_M_reads_0 (0, [(0, z_r 78)], [], zW T' G' S n, 0, 0)
  unfold F_M_reads_0 at K
  unfold Sf_M_reads_0 at hs
  refine z_go2 M.1 0 [(.aload_n 0, 1), (.iconst 0, 1), (.putfield 380, 3), (.aload_n 0, 1), (.iconst (-1), 1), (.putfield 377, 3), (.aload_n 0, 1), (.iconst 0, 1), (.putfield 401, 3), (.aload_n 0, 1)] (16, [(0, z_r 78)], [z_r 78], zW T' G' (z_uS (z_uS (z_uS S 78 52 0) 78 53 (-1)) 78 54 0) n, 0, 0) (by decide +kernel) rfl ⟨trivial, trivial, ⟨rfl, trivial⟩, trivial, trivial, ⟨rfl, trivial⟩, trivial, trivial, ⟨rfl, trivial⟩, trivial, trivial⟩ ?_
  refine z_callV M.1 (av := []) (st := []) (a := 78) (ci := 14) (by decide +kernel) (c_M_query31 T' G' (z_uS (z_uS (z_uS S 78 52 0) 78 53 (-1)) 78 54 0) n hs.1) M.2.1 zl_M_394 zv_M_query rfl rfl rfl ⟨by decide, by decide, by decide, by decide⟩ rfl (Nat.le_of_ble_eq_true rfl) (fun v w' hv => ?_)
  replace hs := hs.2
  rcases hF16 : F_M_query31 (z_uS (z_uS (z_uS S 78 52 0) 78 53 (-1)) 78 54 0) with ⟨r16, S16⟩
  rw [hF16] at K hv
  try dsimp only at K
  obtain ⟨rfl, rfl⟩ := hv
  show z_G X zm_M_reads_0 (19, [(0, z_r 78)], [.inl r16], zW T' G' S16 n, 0, 0)
  refine z_go2 M.1 19 [(.pop, 1), (.aload_n 0, 1), (.getfield 377, 3), (.iconst (-1), 1)] (25, [(0, z_r 78)], [.inl (-1), .inl (S16 78 53)], zW T' G' S16 n, 0, 0) (by decide +kernel) rfl ⟨rfl, trivial, rfl, trivial, trivial⟩ ?_
  refine z_icmp_ne 43 M.1 (off := 18) (by decide +kernel) (by decide) (fun c25 => ?_) (fun c25 => ?_)
  · rw [if_neg c25] at K
    refine z_go2 M.1 43 [(.aload_n 0, 1), (.getfield 377, 3)] (47, [(0, z_r 78)], [.inl (S16 78 53)], zW T' G' S16 n, 0, 0) (by decide +kernel) rfl ⟨trivial, rfl, trivial⟩ ?_
    exact z_iret M (by decide +kernel) .int rfl rfl (by decide) (by decide) (hQ _ _ K)
  · rw [if_pos c25] at K
    refine z_go2 M.1 28 [(.aload_n 0, 1), (.getfield 380, 3), (.aload_n 0, 1), (.getfield 374, 3)] (36, [(0, z_r 78)], [.inl (S16 78 51), .inl (S16 78 52)], zW T' G' S16 n, 0, 0) (by decide +kernel) rfl ⟨trivial, rfl, trivial, rfl, trivial⟩ ?_
    refine z_icmp_ge 43 M.1 (off := 7) (by decide +kernel) (by decide) (fun c36 => ?_) (fun c36 => ?_)
    · rw [if_pos c36] at K
      refine z_go2 M.1 43 [(.aload_n 0, 1), (.getfield 377, 3)] (47, [(0, z_r 78)], [.inl (S16 78 53)], zW T' G' S16 n, 0, 0) (by decide +kernel) rfl ⟨trivial, rfl, trivial⟩ ?_
      exact z_iret M (by decide +kernel) .int rfl rfl (by decide) (by decide) (hQ _ _ K)
    · rw [if_neg c36] at K
      refine z_go2 M.1 39 [(.aload_n 0, 1)] (40, [(0, z_r 78)], [z_r 78], zW T' G' S16 n, 0, 0) (by decide +kernel) rfl ⟨trivial, trivial⟩ ?_
      refine z_callV M.1 (av := []) (st := []) (a := 78) (ci := 14) (by decide +kernel) (c_M_fails T' G' S16 n) M.2.1 zl_M_387 zv_M_fails rfl rfl rfl ⟨by decide, by decide, by decide, by decide⟩ rfl (Nat.le_of_ble_eq_true rfl) (fun v w' hv => ?_)
      obtain ⟨S40, hF40⟩ : ∃ y, F_M_fails S16 = y := ⟨_, rfl⟩
      rw [hF40] at K hv
      try dsimp only [z_let] at K
      obtain ⟨rfl, rfl⟩ := hv
      show z_G X zm_M_reads_0 (43, [(0, z_r 78)], [], zW T' G' S40 n, 0, 0)
      refine z_go2 M.1 43 [(.aload_n 0, 1), (.getfield 377, 3)] (47, [(0, z_r 78)], [.inl (S40 78 53)], zW T' G' S40 n, 0, 0) (by decide +kernel) rfl ⟨trivial, rfl, trivial⟩ ?_
      exact z_iret M (by decide +kernel) .int rfl rfl (by decide) (by decide) (hQ _ _ K)

-- TrackHouseModel.fault
abbrev rm_M_fault : Room := zr 95
def F_M_fault (S : (Nat → Nat → Int32)) : (Int32 × (Nat → Nat → Int32)) := (match F_M_reads_0 (z_uS S 78 0 0) with | (r6, S6) => (r6, S6))
def Sf_M_fault (S : (Nat → Nat → Int32)) : Prop := (Sf_M_reads_0 (z_uS S 78 0 0) ∧ True)
theorem c_M_fault (T' : Nat → Nat × Nat) (G' : Nat → Nat → Option Nat) (S : (Nat → Nat → Int32)) (n : Nat) (hs : Sf_M_fault S) : z_Run rm_M_fault zm_M_fault [z_r 78] (zW T' G' S n) (zq (some (.inl (F_M_fault S).1)) (zW T' G' (F_M_fault S).2 n)) := by
  refine z_body (by decide) zf_M_ok (Nat.le_of_ble_eq_true rfl) (fun X M => ?_)
  obtain ⟨Q, hQ, K⟩ : ∃ Q : (Int32 × (Nat → Nat → Int32)) → Prop, (∀ v S', Q (v, S') → zq (some (.inl (F_M_fault S).1)) (zW T' G' (F_M_fault S).2 n) (some (.inl v)) (zW T' G' S' n)) ∧ Q (F_M_fault S) := ⟨fun o => F_M_fault S = o, fun v S' h => ⟨by rw [h], by rw [h]⟩, rfl⟩
  show z_G X zm_M_fault (0, [(0, z_r 78)], [], zW T' G' S n, 0, 0)
  unfold F_M_fault at K
  unfold Sf_M_fault at hs
  refine z_go2 M.1 0 [(.aload_n 0, 1), (.iconst 0, 1), (.putfield 175, 3), (.aload_n 0, 1)] (6, [(0, z_r 78)], [z_r 78], zW T' G' (z_uS S 78 0 0) n, 0, 0) (by decide +kernel) rfl ⟨trivial, trivial, ⟨rfl, trivial⟩, trivial, trivial⟩ ?_
  refine z_callV M.1 (av := []) (st := []) (a := 78) (ci := 14) (by decide +kernel) (c_M_reads_0 T' G' (z_uS S 78 0 0) n hs.1) M.2.1 zl_M_416 zv_M_reads_0 rfl rfl rfl ⟨by decide, by decide, by decide, by decide⟩ rfl (Nat.le_of_ble_eq_true rfl) (fun v w' hv => ?_)
  replace hs := hs.2
  rcases hF6 : F_M_reads_0 (z_uS S 78 0 0) with ⟨r6, S6⟩
  rw [hF6] at K hv
  try dsimp only at K
  obtain ⟨rfl, rfl⟩ := hv
  show z_G X zm_M_fault (9, [(0, z_r 78)], [.inl r6], zW T' G' S6 n, 0, 0)
  exact z_iret M (by decide +kernel) .int rfl rfl (by decide) (by decide) (hQ _ _ K)

-- TrackHouseModel.isDay
abbrev rm_M_isDay : Room := zr 1
def F_M_isDay (S : (Nat → Nat → Int32)) (p1 : Int32) : Int32 := (F_M_isIn S p1 0 (S 78 1))
def Sf_M_isDay (S : (Nat → Nat → Int32)) (p1 : Int32) : Prop := (narrow .boolean (.int (F_M_isIn S p1 0 (S 78 1))) = .int (F_M_isIn S p1 0 (S 78 1)) ∧ True)
theorem c_M_isDay (T' : Nat → Nat × Nat) (G' : Nat → Nat → Option Nat) (S : (Nat → Nat → Int32)) (n : Nat) (p1 : Int32) (hs : Sf_M_isDay S p1) : z_Run rm_M_isDay zm_M_isDay [z_r 78, .inl p1] (zW T' G' S n) (zq (some (.inl (F_M_isDay S p1))) (zW T' G' S n)) := by
  refine z_body (by decide) zf_M_ok (Nat.le_of_ble_eq_true rfl) (fun X M => ?_)
  obtain ⟨Q, hQ, K⟩ : ∃ Q : Int32 → Prop, (∀ v, Q v → zq (some (.inl (F_M_isDay S p1))) (zW T' G' S n) (some (.inl v)) (zW T' G' S n)) ∧ Q (F_M_isDay S p1) := ⟨fun o => F_M_isDay S p1 = o, fun v h => ⟨by rw [h], rfl⟩, rfl⟩
  show z_G X zm_M_isDay (0, [(0, z_r 78), (1, .inl p1)], [], zW T' G' S n, 0, 0)
  unfold F_M_isDay at K
  unfold Sf_M_isDay at hs
  refine z_go2 M.1 0 [(.iload_n 1, 1), (.iconst 0, 1), (.aload_n 0, 1), (.getfield 185, 3)] (6, [(0, z_r 78), (1, .inl p1)], [.inl (S 78 1), .inl 0, .inl p1], zW T' G' S n, 0, 0) (by decide +kernel) rfl ⟨trivial, trivial, trivial, rfl, trivial⟩ ?_
  refine z_callS M.1 (av := [.inl p1, .inl 0, .inl (S 78 1)]) (st := []) (by decide +kernel) (c_M_isIn T' G' S n p1 0 (S 78 1)) M.2.1 zl_M_178 zs_M_isIn ⟨by decide, by decide, by decide, by decide⟩ rfl (Nat.le_of_ble_eq_true rfl) (fun v w' hv => ?_)
  obtain ⟨rfl, rfl⟩ := hv
  show z_G X zm_M_isDay (9, [(0, z_r 78), (1, .inl p1)], [.inl (F_M_isIn S p1 0 (S 78 1))], zW T' G' S n, 0, 0)
  exact z_iret M (by decide +kernel) .boolean rfl hs.1 (by decide) (by decide) (hQ _ K)

-- TrackHouseModel.looksAt
abbrev rm_M_looksAt : Room := zr 3
def F_M_looksAt_j46 (S : (Nat → Nat → Int32)) (x1 : Int32) (s0 : Int32) (s1 : Int32) : (Nat → Nat → Int32) := (z_let (F_M_does 98 (z_uS (z_uS S 123 (s1).toNatClampNeg s0) 78 13 ((S 78 13) + 1)) x1) (fun S63 => S63))
def Sf_M_looksAt_j46 (S : (Nat → Nat → Int32)) (x1 : Int32) (s0 : Int32) (s1 : Int32) : Prop := ((vp_in s1 1200) ∧ (Sf_M_does 98 (z_uS (z_uS S 123 (s1).toNatClampNeg s0) 78 13 ((S 78 13) + 1)) x1 ∧ True))
theorem t_M_looksAt_j46 {X : z_X} {Post : Option z_V → z_W → Prop} (M : z_M X zm_M_looksAt rm_M_looksAt Post) {T' : Nat → Nat × Nat} {G' : Nat → Nat → Option Nat} {n : Nat} {Q : (Nat → Nat → Int32) → Prop} (S : (Nat → Nat → Int32)) (x1 : Int32) (s0 : Int32) (s1 : Int32) (hQ : ∀ S', Q S' → Post none (zW T' G' S' n)) (K : Q (F_M_looksAt_j46 S x1 s0 s1)) (hs : Sf_M_looksAt_j46 S x1 s0 s1) : z_G X zm_M_looksAt (46, [(0, z_r 78), (1, .inl x1)], [.inl s0, .inl s1, z_r 123], zW T' G' S n, 0, 0) := by
  unfold F_M_looksAt_j46 at K
  unfold Sf_M_looksAt_j46 at hs
  refine z_go2 M.1 46 [(.iastore, 1), (.aload_n 0, 1), (.dup, 1), (.getfield 419, 3), (.iconst 1, 1), (.iadd, 1), (.putfield 419, 3), (.aload_n 0, 1), (.aload_n 0, 1), (.getfield 38, 3), (.iload_n 1, 1)] (63, [(0, z_r 78), (1, .inl x1)], [.inl x1, z_r 98, z_r 78], zW T' G' (z_uS (z_uS S 123 (s1).toNatClampNeg s0) 78 13 ((S 78 13) + 1)) n, 0, 0) (by decide +kernel) rfl ⟨⟨rfl, hs.1⟩, trivial, rfl, rfl, trivial, trivial, ⟨rfl, trivial⟩, trivial, trivial, rfl, trivial, trivial⟩ ?_
  replace hs := hs.2
  refine z_callV M.1 (av := [z_r 98, .inl x1]) (st := []) (a := 78) (ci := 14) (by decide +kernel) (c_M_does_98 T' G' (z_uS (z_uS S 123 (s1).toNatClampNeg s0) 78 13 ((S 78 13) + 1)) n x1 hs.1) M.2.1 zl_M_195 zv_M_does rfl rfl rfl ⟨by decide, by decide, by decide, by decide⟩ rfl (Nat.le_of_ble_eq_true rfl) (fun v w' hv => ?_)
  replace hs := hs.2
  obtain ⟨S63, hF63⟩ : ∃ y, F_M_does 98 (z_uS (z_uS S 123 (s1).toNatClampNeg s0) 78 13 ((S 78 13) + 1)) x1 = y := ⟨_, rfl⟩
  rw [hF63] at K hv
  try dsimp only [z_let] at K
  obtain ⟨rfl, rfl⟩ := hv
  show z_G X zm_M_looksAt (66, [(0, z_r 78), (1, .inl x1)], [], zW T' G' S63 n, 0, 0)
  exact z_vret M (by decide +kernel) rfl (by decide) (by decide) (hQ _ K)
def F_M_looksAt (S : (Nat → Nat → Int32)) (p1 : Int32) : (Nat → Nat → Int32) := (if (S 79 (p1).toNatClampNeg) = 2 then (F_M_looksAt_j46 (z_uS S 122 (S 78 13).toNatClampNeg p1) p1 (S 101 (S 82 (p1).toNatClampNeg).toNatClampNeg) (S 78 13)) else (F_M_looksAt_j46 (z_uS S 122 (S 78 13).toNatClampNeg p1) p1 (-1) (S 78 13)))
def Sf_M_looksAt (S : (Nat → Nat → Int32)) (p1 : Int32) : Prop := ((vp_in (S 78 13) 1200) ∧ ((vp_in p1 1200) ∧ (if (S 79 (p1).toNatClampNeg) = 2 then ((vp_in p1 1200) ∧ ((vp_in (S 82 (p1).toNatClampNeg) 30) ∧ (Sf_M_looksAt_j46 (z_uS S 122 (S 78 13).toNatClampNeg p1) p1 (S 101 (S 82 (p1).toNatClampNeg).toNatClampNeg) (S 78 13)))) else (Sf_M_looksAt_j46 (z_uS S 122 (S 78 13).toNatClampNeg p1) p1 (-1) (S 78 13)))))
theorem c_M_looksAt (T' : Nat → Nat × Nat) (G' : Nat → Nat → Option Nat) (S : (Nat → Nat → Int32)) (n : Nat) (p1 : Int32) (hs : Sf_M_looksAt S p1) : z_Run rm_M_looksAt zm_M_looksAt [z_r 78, .inl p1] (zW T' G' S n) (zq none (zW T' G' (F_M_looksAt S p1) n)) := by
  refine z_body (by decide) zf_M_ok (Nat.le_of_ble_eq_true rfl) (fun X M => ?_)
  obtain ⟨Q, hQ, K⟩ : ∃ Q : (Nat → Nat → Int32) → Prop, (∀ S', Q S' → zq none (zW T' G' (F_M_looksAt S p1) n) none (zW T' G' S' n)) ∧ Q (F_M_looksAt S p1) := ⟨fun o => F_M_looksAt S p1 = o, fun S' h => ⟨rfl, by rw [h]⟩, rfl⟩
  show z_G X zm_M_looksAt (0, [(0, z_r 78), (1, .inl p1)], [], zW T' G' S n, 0, 0)
  unfold F_M_looksAt at K
  unfold Sf_M_looksAt at hs
  refine z_go2 M.1 0 [(.aload_n 0, 1), (.getfield 44, 3), (.aload_n 0, 1), (.getfield 419, 3), (.iload_n 1, 1), (.iastore, 1), (.aload_n 0, 1), (.getfield 47, 3), (.aload_n 0, 1), (.getfield 419, 3), (.aload_n 0, 1), (.getfield 7, 3), (.iload_n 1, 1), (.iaload, 1), (.iconst 2, 1)] (25, [(0, z_r 78), (1, .inl p1)], [.inl 2, .inl (S 79 (p1).toNatClampNeg), .inl (S 78 13), z_r 123], zW T' G' (z_uS S 122 (S 78 13).toNatClampNeg p1) n, 0, 0) (by decide +kernel) rfl ⟨trivial, rfl, trivial, rfl, trivial, ⟨rfl, hs.1⟩, trivial, rfl, trivial, rfl, trivial, rfl, trivial, ⟨rfl, hs.2.1⟩, trivial, trivial⟩ ?_
  replace hs := hs.2.2
  refine z_icmp_ne 45 M.1 (off := 20) (by decide +kernel) (by decide) (fun c25 => ?_) (fun c25 => ?_)
  · rw [if_neg c25] at K hs
    refine z_go2 M.1 45 [(.iconst (-1), 1)] (46, [(0, z_r 78), (1, .inl p1)], [.inl (-1), .inl (S 78 13), z_r 123], zW T' G' (z_uS S 122 (S 78 13).toNatClampNeg p1) n, 0, 0) (by decide +kernel) rfl ⟨trivial, trivial⟩ ?_
    exact z_lvs (lv' := [(0, z_r 78), (1, .inl p1)]) [0, 1] rfl (t_M_looksAt_j46 M (z_uS S 122 (S 78 13).toNatClampNeg p1) p1 (-1) (S 78 13) hQ K hs)
  · rw [if_pos c25] at K hs
    refine z_go2 M.1 28 [(.aload_n 0, 1), (.getfield 38, 3), (.getfield 198, 3), (.aload_n 0, 1), (.getfield 19, 3), (.iload_n 1, 1), (.iaload, 1), (.iaload, 1), (.goto 4, 3)] (46, [(0, z_r 78), (1, .inl p1)], [.inl (S 101 (S 82 (p1).toNatClampNeg).toNatClampNeg), .inl (S 78 13), z_r 123], zW T' G' (z_uS S 122 (S 78 13).toNatClampNeg p1) n, 0, 0) (by decide +kernel) rfl ⟨trivial, rfl, rfl, trivial, rfl, trivial, ⟨rfl, hs.1⟩, ⟨rfl, hs.2.1⟩, trivial, trivial⟩ ?_
    replace hs := hs.2.2
    exact z_lvs (lv' := [(0, z_r 78), (1, .inl p1)]) [0, 1] rfl (t_M_looksAt_j46 M (z_uS S 122 (S 78 13).toNatClampNeg p1) p1 (S 101 (S 82 (p1).toNatClampNeg).toNatClampNeg) (S 78 13) hQ K hs)

-- TrackHouseModel.asks
abbrev rm_M_asks : Room := zr 4
def F_M_asks_l15_110 (rc : (Nat → Nat → Int32) → Int32 → ((Nat → Nat → Int32))) (S : (Nat → Nat → Int32)) (x1 : Int32) (x2 : Int32) (x3 : Int32) (x4 : Int32) : ((Nat → Nat → Int32)) := (z_let (F_M_looksAt S x4) (fun S113 => (rc S113 (x4 + 1))))
def Sf_M_asks_l15_110 (rc : (Nat → Nat → Int32) → Int32 → ((Nat → Nat → Int32))) (sr : (Nat → Nat → Int32) → Int32 → Prop) (S : (Nat → Nat → Int32)) (x1 : Int32) (x2 : Int32) (x3 : Int32) (x4 : Int32) : Prop := (Sf_M_looksAt S x4 ∧ (z_let (F_M_looksAt S x4) (fun S113 => (sr S113 (x4 + 1)))))
theorem t_M_asks_l15_110 {X : z_X} {Post : Option z_V → z_W → Prop} (M : z_M X zm_M_asks rm_M_asks Post) {T' : Nat → Nat × Nat} {G' : Nat → Nat → Option Nat} {n : Nat} {Q : ((Nat → Nat → Int32)) → Prop} (rc : (Nat → Nat → Int32) → Int32 → ((Nat → Nat → Int32))) (sr : (Nat → Nat → Int32) → Int32 → Prop) (S : (Nat → Nat → Int32)) (x1 : Int32) (x2 : Int32) (x3 : Int32) (x4 : Int32) (hE : ∀ (S' : (Nat → Nat → Int32)), Q S' → z_G X zm_M_asks (122, [], [], zW T' G' S' n, 0, 0)) (hC : ∀ (S : (Nat → Nat → Int32)) (x4 : Int32), Q (rc S x4) → sr S x4 → z_G X zm_M_asks (15, [(0, z_r 78), (1, .inl x1), (2, .inl x2), (3, .inl x3), (4, .inl x4)], [], zW T' G' S n, 0, 0)) (K : Q (F_M_asks_l15_110 rc S x1 x2 x3 x4)) (hs : Sf_M_asks_l15_110 rc sr S x1 x2 x3 x4) : z_G X zm_M_asks (110, [(0, z_r 78), (1, .inl x1), (2, .inl x2), (3, .inl x3), (4, .inl x4)], [], zW T' G' S n, 0, 0) := by
  unfold F_M_asks_l15_110 at K
  unfold Sf_M_asks_l15_110 at hs
  refine z_go2 M.1 110 [(.aload_n 0, 1), (.iload 4, 2)] (113, [(0, z_r 78), (1, .inl x1), (2, .inl x2), (3, .inl x3), (4, .inl x4)], [.inl x4, z_r 78], zW T' G' S n, 0, 0) (by decide +kernel) rfl ⟨trivial, trivial, trivial⟩ ?_
  refine z_callV M.1 (av := [.inl x4]) (st := []) (a := 78) (ci := 14) (by decide +kernel) (c_M_looksAt T' G' S n x4 hs.1) M.2.1 zl_M_422 zv_M_looksAt rfl rfl rfl ⟨by decide, by decide, by decide, by decide⟩ rfl (Nat.le_of_ble_eq_true rfl) (fun v w' hv => ?_)
  replace hs := hs.2
  obtain ⟨S113, hF113⟩ : ∃ y, F_M_looksAt S x4 = y := ⟨_, rfl⟩
  rw [hF113] at K hv
  try rw [hF113] at hs
  try dsimp only [z_let] at K hs
  obtain ⟨rfl, rfl⟩ := hv
  show z_G X zm_M_asks (116, [(0, z_r 78), (1, .inl x1), (2, .inl x2), (3, .inl x3), (4, .inl x4)], [], zW T' G' S113 n, 0, 0)
  refine z_go2 M.1 116 [(.iinc 4 1, 3), (.goto (-104), 3)] (15, [(4, .inl (x4 + 1)), (0, z_r 78), (1, .inl x1), (2, .inl x2), (3, .inl x3)], [], zW T' G' S113 n, 0, 0) (by decide +kernel) rfl ⟨trivial, trivial, trivial⟩ ?_
  exact z_lvs (lv' := [(0, z_r 78), (1, .inl x1), (2, .inl x2), (3, .inl x3), (4, .inl (x4 + 1))]) [1, 2, 3, 4, 0] rfl (hC S113 (x4 + 1) K hs)
def F_M_asks_l15_79 (rc : (Nat → Nat → Int32) → Int32 → ((Nat → Nat → Int32))) (S : (Nat → Nat → Int32)) (x1 : Int32) (x2 : Int32) (x3 : Int32) (x4 : Int32) (s0 : Int32) : ((Nat → Nat → Int32)) := (if x2 < (S 80 (x4).toNatClampNeg) then (rc S (x4 + 1)) else (if x3 = 0 then (F_M_asks_l15_110 rc S x1 x2 x3 x4) else (if x4 < (S 78 16) then (F_M_asks_l15_110 rc S x1 x2 x3 x4) else (if s0 = 0 then (rc S (x4 + 1)) else (F_M_asks_l15_110 rc S x1 x2 x3 x4)))))
def Sf_M_asks_l15_79 (rc : (Nat → Nat → Int32) → Int32 → ((Nat → Nat → Int32))) (sr : (Nat → Nat → Int32) → Int32 → Prop) (S : (Nat → Nat → Int32)) (x1 : Int32) (x2 : Int32) (x3 : Int32) (x4 : Int32) (s0 : Int32) : Prop := ((vp_in x4 1200) ∧ (if x2 < (S 80 (x4).toNatClampNeg) then (sr S (x4 + 1)) else (if x3 = 0 then (Sf_M_asks_l15_110 rc sr S x1 x2 x3 x4) else (if x4 < (S 78 16) then (Sf_M_asks_l15_110 rc sr S x1 x2 x3 x4) else (if s0 = 0 then (sr S (x4 + 1)) else (Sf_M_asks_l15_110 rc sr S x1 x2 x3 x4))))))
theorem t_M_asks_l15_79 {X : z_X} {Post : Option z_V → z_W → Prop} (M : z_M X zm_M_asks rm_M_asks Post) {T' : Nat → Nat × Nat} {G' : Nat → Nat → Option Nat} {n : Nat} {Q : ((Nat → Nat → Int32)) → Prop} (rc : (Nat → Nat → Int32) → Int32 → ((Nat → Nat → Int32))) (sr : (Nat → Nat → Int32) → Int32 → Prop) (S : (Nat → Nat → Int32)) (x1 : Int32) (x2 : Int32) (x3 : Int32) (x4 : Int32) (s0 : Int32) (hE : ∀ (S' : (Nat → Nat → Int32)), Q S' → z_G X zm_M_asks (122, [], [], zW T' G' S' n, 0, 0)) (hC : ∀ (S : (Nat → Nat → Int32)) (x4 : Int32), Q (rc S x4) → sr S x4 → z_G X zm_M_asks (15, [(0, z_r 78), (1, .inl x1), (2, .inl x2), (3, .inl x3), (4, .inl x4)], [], zW T' G' S n, 0, 0)) (K : Q (F_M_asks_l15_79 rc S x1 x2 x3 x4 s0)) (hs : Sf_M_asks_l15_79 rc sr S x1 x2 x3 x4 s0) : z_G X zm_M_asks (79, [(0, z_r 78), (1, .inl x1), (2, .inl x2), (3, .inl x3), (4, .inl x4)], [.inl s0], zW T' G' S n, 0, 0) := by
  unfold F_M_asks_l15_79 at K
  unfold Sf_M_asks_l15_79 at hs
  refine z_go2 M.1 79 [(.istore 5, 2), (.aload_n 0, 1), (.getfield 13, 3), (.iload 4, 2), (.iaload, 1), (.iload_n 2, 1)] (89, [(5, .inl s0), (0, z_r 78), (1, .inl x1), (2, .inl x2), (3, .inl x3), (4, .inl x4)], [.inl x2, .inl (S 80 (x4).toNatClampNeg)], zW T' G' S n, 0, 0) (by decide +kernel) rfl ⟨trivial, trivial, rfl, trivial, ⟨rfl, hs.1⟩, trivial, trivial⟩ ?_
  replace hs := hs.2
  refine z_icmp_gt 116 M.1 (off := 27) (by decide +kernel) (by decide) (fun c89 => ?_) (fun c89 => ?_)
  · rw [if_pos c89] at K hs
    refine z_go2 M.1 116 [(.iinc 4 1, 3), (.goto (-104), 3)] (15, [(4, .inl (x4 + 1)), (5, .inl s0), (0, z_r 78), (1, .inl x1), (2, .inl x2), (3, .inl x3)], [], zW T' G' S n, 0, 0) (by decide +kernel) rfl ⟨trivial, trivial, trivial⟩ ?_
    exact z_lvs (lv' := [(0, z_r 78), (1, .inl x1), (2, .inl x2), (3, .inl x3), (4, .inl (x4 + 1))]) [2, 3, 4, 5, 0] rfl (hC S (x4 + 1) K hs)
  · rw [if_neg c89] at K hs
    refine z_go2 M.1 92 [(.iload_n 3, 1)] (93, [(5, .inl s0), (0, z_r 78), (1, .inl x1), (2, .inl x2), (3, .inl x3), (4, .inl x4)], [.inl x3], zW T' G' S n, 0, 0) (by decide +kernel) rfl ⟨trivial, trivial⟩ ?_
    refine z_if_eq 110 M.1 (off := 17) (by decide +kernel) (by decide) (fun c93 => ?_) (fun c93 => ?_)
    · rw [if_pos c93] at K hs
      exact z_lvs (lv' := [(0, z_r 78), (1, .inl x1), (2, .inl x2), (3, .inl x3), (4, .inl x4)]) [1, 2, 3, 4, 5] rfl (t_M_asks_l15_110 M rc sr S x1 x2 x3 x4 hE hC K hs)
    · rw [if_neg c93] at K hs
      refine z_go2 M.1 96 [(.iload 4, 2), (.aload_n 0, 1), (.getfield 305, 3)] (102, [(5, .inl s0), (0, z_r 78), (1, .inl x1), (2, .inl x2), (3, .inl x3), (4, .inl x4)], [.inl (S 78 16), .inl x4], zW T' G' S n, 0, 0) (by decide +kernel) rfl ⟨trivial, trivial, rfl, trivial⟩ ?_
      refine z_icmp_lt 110 M.1 (off := 8) (by decide +kernel) (by decide) (fun c102 => ?_) (fun c102 => ?_)
      · rw [if_pos c102] at K hs
        exact z_lvs (lv' := [(0, z_r 78), (1, .inl x1), (2, .inl x2), (3, .inl x3), (4, .inl x4)]) [1, 2, 3, 4, 5] rfl (t_M_asks_l15_110 M rc sr S x1 x2 x3 x4 hE hC K hs)
      · rw [if_neg c102] at K hs
        refine z_go2 M.1 105 [(.iload 5, 2)] (107, [(5, .inl s0), (0, z_r 78), (1, .inl x1), (2, .inl x2), (3, .inl x3), (4, .inl x4)], [.inl s0], zW T' G' S n, 0, 0) (by decide +kernel) rfl ⟨trivial, trivial⟩ ?_
        refine z_if_eq 116 M.1 (off := 9) (by decide +kernel) (by decide) (fun c107 => ?_) (fun c107 => ?_)
        · rw [if_pos c107] at K hs
          refine z_go2 M.1 116 [(.iinc 4 1, 3), (.goto (-104), 3)] (15, [(4, .inl (x4 + 1)), (5, .inl s0), (0, z_r 78), (1, .inl x1), (2, .inl x2), (3, .inl x3)], [], zW T' G' S n, 0, 0) (by decide +kernel) rfl ⟨trivial, trivial, trivial⟩ ?_
          exact z_lvs (lv' := [(0, z_r 78), (1, .inl x1), (2, .inl x2), (3, .inl x3), (4, .inl (x4 + 1))]) [2, 3, 4, 5, 0] rfl (hC S (x4 + 1) K hs)
        · rw [if_neg c107] at K hs
          exact z_lvs (lv' := [(0, z_r 78), (1, .inl x1), (2, .inl x2), (3, .inl x3), (4, .inl x4)]) [1, 2, 3, 4, 5] rfl (t_M_asks_l15_110 M rc sr S x1 x2 x3 x4 hE hC K hs)
def F_M_asks_l15_78 (rc : (Nat → Nat → Int32) → Int32 → ((Nat → Nat → Int32))) (S : (Nat → Nat → Int32)) (x1 : Int32) (x2 : Int32) (x3 : Int32) (x4 : Int32) : ((Nat → Nat → Int32)) := (F_M_asks_l15_79 rc S x1 x2 x3 x4 0)
def Sf_M_asks_l15_78 (rc : (Nat → Nat → Int32) → Int32 → ((Nat → Nat → Int32))) (sr : (Nat → Nat → Int32) → Int32 → Prop) (S : (Nat → Nat → Int32)) (x1 : Int32) (x2 : Int32) (x3 : Int32) (x4 : Int32) : Prop := (Sf_M_asks_l15_79 rc sr S x1 x2 x3 x4 0)
theorem t_M_asks_l15_78 {X : z_X} {Post : Option z_V → z_W → Prop} (M : z_M X zm_M_asks rm_M_asks Post) {T' : Nat → Nat × Nat} {G' : Nat → Nat → Option Nat} {n : Nat} {Q : ((Nat → Nat → Int32)) → Prop} (rc : (Nat → Nat → Int32) → Int32 → ((Nat → Nat → Int32))) (sr : (Nat → Nat → Int32) → Int32 → Prop) (S : (Nat → Nat → Int32)) (x1 : Int32) (x2 : Int32) (x3 : Int32) (x4 : Int32) (hE : ∀ (S' : (Nat → Nat → Int32)), Q S' → z_G X zm_M_asks (122, [], [], zW T' G' S' n, 0, 0)) (hC : ∀ (S : (Nat → Nat → Int32)) (x4 : Int32), Q (rc S x4) → sr S x4 → z_G X zm_M_asks (15, [(0, z_r 78), (1, .inl x1), (2, .inl x2), (3, .inl x3), (4, .inl x4)], [], zW T' G' S n, 0, 0)) (K : Q (F_M_asks_l15_78 rc S x1 x2 x3 x4)) (hs : Sf_M_asks_l15_78 rc sr S x1 x2 x3 x4) : z_G X zm_M_asks (78, [(0, z_r 78), (1, .inl x1), (2, .inl x2), (3, .inl x3), (4, .inl x4)], [], zW T' G' S n, 0, 0) := by
  unfold F_M_asks_l15_78 at K
  unfold Sf_M_asks_l15_78 at hs
  refine z_go2 M.1 78 [(.iconst 0, 1)] (79, [(0, z_r 78), (1, .inl x1), (2, .inl x2), (3, .inl x3), (4, .inl x4)], [.inl 0], zW T' G' S n, 0, 0) (by decide +kernel) rfl ⟨trivial, trivial⟩ ?_
  exact z_lvs (lv' := [(0, z_r 78), (1, .inl x1), (2, .inl x2), (3, .inl x3), (4, .inl x4)]) [0, 1, 2, 3, 4] rfl (t_M_asks_l15_79 M rc sr S x1 x2 x3 x4 0 hE hC K hs)
def F_M_asks_l15_74 (rc : (Nat → Nat → Int32) → Int32 → ((Nat → Nat → Int32))) (S : (Nat → Nat → Int32)) (x1 : Int32) (x2 : Int32) (x3 : Int32) (x4 : Int32) : ((Nat → Nat → Int32)) := (F_M_asks_l15_79 rc S x1 x2 x3 x4 1)
def Sf_M_asks_l15_74 (rc : (Nat → Nat → Int32) → Int32 → ((Nat → Nat → Int32))) (sr : (Nat → Nat → Int32) → Int32 → Prop) (S : (Nat → Nat → Int32)) (x1 : Int32) (x2 : Int32) (x3 : Int32) (x4 : Int32) : Prop := (Sf_M_asks_l15_79 rc sr S x1 x2 x3 x4 1)
theorem t_M_asks_l15_74 {X : z_X} {Post : Option z_V → z_W → Prop} (M : z_M X zm_M_asks rm_M_asks Post) {T' : Nat → Nat × Nat} {G' : Nat → Nat → Option Nat} {n : Nat} {Q : ((Nat → Nat → Int32)) → Prop} (rc : (Nat → Nat → Int32) → Int32 → ((Nat → Nat → Int32))) (sr : (Nat → Nat → Int32) → Int32 → Prop) (S : (Nat → Nat → Int32)) (x1 : Int32) (x2 : Int32) (x3 : Int32) (x4 : Int32) (hE : ∀ (S' : (Nat → Nat → Int32)), Q S' → z_G X zm_M_asks (122, [], [], zW T' G' S' n, 0, 0)) (hC : ∀ (S : (Nat → Nat → Int32)) (x4 : Int32), Q (rc S x4) → sr S x4 → z_G X zm_M_asks (15, [(0, z_r 78), (1, .inl x1), (2, .inl x2), (3, .inl x3), (4, .inl x4)], [], zW T' G' S n, 0, 0)) (K : Q (F_M_asks_l15_74 rc S x1 x2 x3 x4)) (hs : Sf_M_asks_l15_74 rc sr S x1 x2 x3 x4) : z_G X zm_M_asks (74, [(0, z_r 78), (1, .inl x1), (2, .inl x2), (3, .inl x3), (4, .inl x4)], [], zW T' G' S n, 0, 0) := by
  unfold F_M_asks_l15_74 at K
  unfold Sf_M_asks_l15_74 at hs
  refine z_go2 M.1 74 [(.iconst 1, 1), (.goto 4, 3)] (79, [(0, z_r 78), (1, .inl x1), (2, .inl x2), (3, .inl x3), (4, .inl x4)], [.inl 1], zW T' G' S n, 0, 0) (by decide +kernel) rfl ⟨trivial, trivial, trivial⟩ ?_
  exact z_lvs (lv' := [(0, z_r 78), (1, .inl x1), (2, .inl x2), (3, .inl x3), (4, .inl x4)]) [0, 1, 2, 3, 4] rfl (t_M_asks_l15_79 M rc sr S x1 x2 x3 x4 1 hE hC K hs)
def F_M_asks_L15 (x1 : Int32) (x2 : Int32) (x3 : Int32) : Nat → (Nat → Nat → Int32) → Int32 → ((Nat → Nat → Int32))
  | 0, S, x4 => S
  | f + 1, S, x4 => (if (S 78 2) ≤ x4 then S else (if (S 81 (x4).toNatClampNeg) = x1 then (if (S 79 (x4).toNatClampNeg) = 0 then (F_M_asks_l15_74 (F_M_asks_L15 x1 x2 x3 f) S x1 x2 x3 x4) else (if (S 79 (x4).toNatClampNeg) = 1 then (F_M_asks_l15_74 (F_M_asks_L15 x1 x2 x3 f) S x1 x2 x3 x4) else (if (S 107 (S 82 (x4).toNatClampNeg).toNatClampNeg) = 0 then (F_M_asks_l15_78 (F_M_asks_L15 x1 x2 x3 f) S x1 x2 x3 x4) else (F_M_asks_l15_74 (F_M_asks_L15 x1 x2 x3 f) S x1 x2 x3 x4)))) else (F_M_asks_l15_78 (F_M_asks_L15 x1 x2 x3 f) S x1 x2 x3 x4)))
def Sf_M_asks_L15 (x1 : Int32) (x2 : Int32) (x3 : Int32) : Nat → (Nat → Nat → Int32) → Int32 → Prop
  | 0, _, _ => False
  | f + 1, S, x4 => (if (S 78 2) ≤ x4 then True else ((vp_in x4 1200) ∧ (if (S 81 (x4).toNatClampNeg) = x1 then ((vp_in x4 1200) ∧ (if (S 79 (x4).toNatClampNeg) = 0 then (Sf_M_asks_l15_74 (F_M_asks_L15 x1 x2 x3 f) (Sf_M_asks_L15 x1 x2 x3 f) S x1 x2 x3 x4) else ((vp_in x4 1200) ∧ (if (S 79 (x4).toNatClampNeg) = 1 then (Sf_M_asks_l15_74 (F_M_asks_L15 x1 x2 x3 f) (Sf_M_asks_L15 x1 x2 x3 f) S x1 x2 x3 x4) else ((vp_in x4 1200) ∧ ((vp_in (S 82 (x4).toNatClampNeg) 30) ∧ (if (S 107 (S 82 (x4).toNatClampNeg).toNatClampNeg) = 0 then (Sf_M_asks_l15_78 (F_M_asks_L15 x1 x2 x3 f) (Sf_M_asks_L15 x1 x2 x3 f) S x1 x2 x3 x4) else (Sf_M_asks_l15_74 (F_M_asks_L15 x1 x2 x3 f) (Sf_M_asks_L15 x1 x2 x3 f) S x1 x2 x3 x4)))))))) else (Sf_M_asks_l15_78 (F_M_asks_L15 x1 x2 x3 f) (Sf_M_asks_L15 x1 x2 x3 f) S x1 x2 x3 x4))))
theorem t_M_asks_L15 {X : z_X} {Post : Option z_V → z_W → Prop} (M : z_M X zm_M_asks rm_M_asks Post) {T' : Nat → Nat × Nat} {G' : Nat → Nat → Option Nat} {n : Nat} {Q : ((Nat → Nat → Int32)) → Prop}  (x1 : Int32) (x2 : Int32) (x3 : Int32) (hE : ∀ (S' : (Nat → Nat → Int32)), Q S' → z_G X zm_M_asks (122, [], [], zW T' G' S' n, 0, 0)) (f : Nat) : ∀ (S : (Nat → Nat → Int32)) (x4 : Int32), Q (F_M_asks_L15 x1 x2 x3 f S x4) → Sf_M_asks_L15 x1 x2 x3 f S x4 → z_G X zm_M_asks (15, [(0, z_r 78), (1, .inl x1), (2, .inl x2), (3, .inl x3), (4, .inl x4)], [], zW T' G' S n, 0, 0) := by
  induction f with
  | zero => intro S x4 K hs; exact False.elim hs
  | succ f hC =>
    intro S x4 K hs
    rw [F_M_asks_L15] at K
    rw [Sf_M_asks_L15] at hs
    refine z_go2 M.1 15 [(.iload 4, 2), (.aload_n 0, 1), (.getfield 182, 3)] (21, [(0, z_r 78), (1, .inl x1), (2, .inl x2), (3, .inl x3), (4, .inl x4)], [.inl (S 78 2), .inl x4], zW T' G' S n, 0, 0) (by decide +kernel) rfl ⟨trivial, trivial, rfl, trivial⟩ ?_
    refine z_icmp_ge 122 M.1 (off := 101) (by decide +kernel) (by decide) (fun c21 => ?_) (fun c21 => ?_)
    · rw [if_pos c21] at K hs
      exact z_lvs (lv' := []) [] rfl (hE S K)
    · rw [if_neg c21] at K hs
      refine z_go2 M.1 24 [(.aload_n 0, 1), (.getfield 16, 3), (.iload 4, 2), (.iaload, 1), (.iload_n 1, 1)] (32, [(0, z_r 78), (1, .inl x1), (2, .inl x2), (3, .inl x3), (4, .inl x4)], [.inl x1, .inl (S 81 (x4).toNatClampNeg)], zW T' G' S n, 0, 0) (by decide +kernel) rfl ⟨trivial, rfl, trivial, ⟨rfl, hs.1⟩, trivial, trivial⟩ ?_
      replace hs := hs.2
      refine z_icmp_ne 78 M.1 (off := 46) (by decide +kernel) (by decide) (fun c32 => ?_) (fun c32 => ?_)
      · rw [if_neg c32] at K hs
        exact z_lvs (lv' := [(0, z_r 78), (1, .inl x1), (2, .inl x2), (3, .inl x3), (4, .inl x4)]) [0, 1, 2, 3, 4] rfl (t_M_asks_l15_78 M (F_M_asks_L15 x1 x2 x3 f) (Sf_M_asks_L15 x1 x2 x3 f) S x1 x2 x3 x4 hE hC K hs)
      · rw [if_pos c32] at K hs
        refine z_go2 M.1 35 [(.aload_n 0, 1), (.getfield 7, 3), (.iload 4, 2), (.iaload, 1)] (42, [(0, z_r 78), (1, .inl x1), (2, .inl x2), (3, .inl x3), (4, .inl x4)], [.inl (S 79 (x4).toNatClampNeg)], zW T' G' S n, 0, 0) (by decide +kernel) rfl ⟨trivial, rfl, trivial, ⟨rfl, hs.1⟩, trivial⟩ ?_
        replace hs := hs.2
        refine z_if_eq 74 M.1 (off := 32) (by decide +kernel) (by decide) (fun c42 => ?_) (fun c42 => ?_)
        · rw [if_pos c42] at K hs
          exact z_lvs (lv' := [(0, z_r 78), (1, .inl x1), (2, .inl x2), (3, .inl x3), (4, .inl x4)]) [0, 1, 2, 3, 4] rfl (t_M_asks_l15_74 M (F_M_asks_L15 x1 x2 x3 f) (Sf_M_asks_L15 x1 x2 x3 f) S x1 x2 x3 x4 hE hC K hs)
        · rw [if_neg c42] at K hs
          refine z_go2 M.1 45 [(.aload_n 0, 1), (.getfield 7, 3), (.iload 4, 2), (.iaload, 1), (.iconst 1, 1)] (53, [(0, z_r 78), (1, .inl x1), (2, .inl x2), (3, .inl x3), (4, .inl x4)], [.inl 1, .inl (S 79 (x4).toNatClampNeg)], zW T' G' S n, 0, 0) (by decide +kernel) rfl ⟨trivial, rfl, trivial, ⟨rfl, hs.1⟩, trivial, trivial⟩ ?_
          replace hs := hs.2
          refine z_icmp_eq 74 M.1 (off := 21) (by decide +kernel) (by decide) (fun c53 => ?_) (fun c53 => ?_)
          · rw [if_pos c53] at K hs
            exact z_lvs (lv' := [(0, z_r 78), (1, .inl x1), (2, .inl x2), (3, .inl x3), (4, .inl x4)]) [0, 1, 2, 3, 4] rfl (t_M_asks_l15_74 M (F_M_asks_L15 x1 x2 x3 f) (Sf_M_asks_L15 x1 x2 x3 f) S x1 x2 x3 x4 hE hC K hs)
          · rw [if_neg c53] at K hs
            refine z_go2 M.1 56 [(.aload_n 0, 1), (.getfield 38, 3), (.getfield 226, 3), (.aload_n 0, 1), (.getfield 19, 3), (.iload 4, 2), (.iaload, 1), (.baload, 1)] (71, [(0, z_r 78), (1, .inl x1), (2, .inl x2), (3, .inl x3), (4, .inl x4)], [.inl (S 107 (S 82 (x4).toNatClampNeg).toNatClampNeg)], zW T' G' S n, 0, 0) (by decide +kernel) rfl ⟨trivial, rfl, rfl, trivial, rfl, trivial, ⟨rfl, hs.1⟩, ⟨rfl, hs.2.1⟩, trivial⟩ ?_
            replace hs := hs.2.2
            refine z_if_eq 78 M.1 (off := 7) (by decide +kernel) (by decide) (fun c71 => ?_) (fun c71 => ?_)
            · rw [if_pos c71] at K hs
              exact z_lvs (lv' := [(0, z_r 78), (1, .inl x1), (2, .inl x2), (3, .inl x3), (4, .inl x4)]) [0, 1, 2, 3, 4] rfl (t_M_asks_l15_78 M (F_M_asks_L15 x1 x2 x3 f) (Sf_M_asks_L15 x1 x2 x3 f) S x1 x2 x3 x4 hE hC K hs)
            · rw [if_neg c71] at K hs
              exact z_lvs (lv' := [(0, z_r 78), (1, .inl x1), (2, .inl x2), (3, .inl x3), (4, .inl x4)]) [0, 1, 2, 3, 4] rfl (t_M_asks_l15_74 M (F_M_asks_L15 x1 x2 x3 f) (Sf_M_asks_L15 x1 x2 x3 f) S x1 x2 x3 x4 hE hC K hs)
def F_M_asks (S : (Nat → Nat → Int32)) (p1 : Int32) (p2 : Int32) (p3 : Int32) : (Nat → Nat → Int32) := (z_let (F_MW_empty 98 S) (fun S4 => (match F_M_asks_L15 p1 p2 p3 1300 (z_uS S4 78 13 0) 0 with | S15 => S15)))
def Sf_M_asks (S : (Nat → Nat → Int32)) (p1 : Int32) (p2 : Int32) (p3 : Int32) : Prop := (Sf_MW_empty 98 S ∧ (z_let (F_MW_empty 98 S) (fun S4 => (Sf_M_asks_L15 p1 p2 p3 1300 (z_uS S4 78 13 0) 0 ∧ True))))
theorem c_M_asks (T' : Nat → Nat × Nat) (G' : Nat → Nat → Option Nat) (S : (Nat → Nat → Int32)) (n : Nat) (p1 : Int32) (p2 : Int32) (p3 : Int32) (hs : Sf_M_asks S p1 p2 p3) : z_Run rm_M_asks zm_M_asks [z_r 78, .inl p1, .inl p2, .inl p3] (zW T' G' S n) (zq none (zW T' G' (F_M_asks S p1 p2 p3) n)) := by
  refine z_body (by decide) zf_M_ok (Nat.le_of_ble_eq_true rfl) (fun X M => ?_)
  obtain ⟨Q, hQ, K⟩ : ∃ Q : (Nat → Nat → Int32) → Prop, (∀ S', Q S' → zq none (zW T' G' (F_M_asks S p1 p2 p3) n) none (zW T' G' S' n)) ∧ Q (F_M_asks S p1 p2 p3) := ⟨fun o => F_M_asks S p1 p2 p3 = o, fun S' h => ⟨rfl, by rw [h]⟩, rfl⟩
  show z_G X zm_M_asks (0, [(0, z_r 78), (1, .inl p1), (2, .inl p2), (3, .inl p3)], [], zW T' G' S n, 0, 0)
  unfold F_M_asks at K
  unfold Sf_M_asks at hs
  refine z_go2 M.1 0 [(.aload_n 0, 1), (.getfield 38, 3)] (4, [(0, z_r 78), (1, .inl p1), (2, .inl p2), (3, .inl p3)], [z_r 98], zW T' G' S n, 0, 0) (by decide +kernel) rfl ⟨trivial, rfl, trivial⟩ ?_
  refine z_callV M.1 (av := []) (st := []) (a := 98) (ci := 13) (by decide +kernel) (c_MW_empty_98 T' G' S n hs.1) M.2.1 zl_M_192 zv_MW_empty rfl rfl rfl ⟨by decide, by decide, by decide, by decide⟩ rfl (Nat.le_of_ble_eq_true rfl) (fun v w' hv => ?_)
  replace hs := hs.2
  obtain ⟨S4, hF4⟩ : ∃ y, F_MW_empty 98 S = y := ⟨_, rfl⟩
  rw [hF4] at K hv
  try rw [hF4] at hs
  try dsimp only [z_let] at K hs
  obtain ⟨rfl, rfl⟩ := hv
  show z_G X zm_M_asks (7, [(0, z_r 78), (1, .inl p1), (2, .inl p2), (3, .inl p3)], [], zW T' G' S4 n, 0, 0)
  refine z_go2 M.1 7 [(.aload_n 0, 1), (.iconst 0, 1), (.putfield 419, 3), (.iconst 0, 1), (.istore 4, 2)] (15, [(4, .inl 0), (0, z_r 78), (1, .inl p1), (2, .inl p2), (3, .inl p3)], [], zW T' G' (z_uS S4 78 13 0) n, 0, 0) (by decide +kernel) rfl ⟨trivial, trivial, ⟨rfl, trivial⟩, trivial, trivial, trivial⟩ ?_
  refine z_lvs (lv' := [(0, z_r 78), (1, .inl p1), (2, .inl p2), (3, .inl p3), (4, .inl 0)]) [1, 2, 3, 4, 0] rfl ?_
  refine t_M_asks_L15 M (Q := fun o => F_M_asks_L15 p1 p2 p3 1300 (z_uS S4 78 13 0) 0 = o) p1 p2 p3 (fun S15 hL15 => ?_) 1300 (z_uS S4 78 13 0) 0 rfl hs.1
  replace hs := hs.2
  rw [hL15] at K
  try dsimp only at K
  exact z_vret M (by decide +kernel) rfl (by decide) (by decide) (hQ _ K)

-- TrackHouseModel.isAbout
abbrev rm_M_isAbout : Room := zr 0
def F_M_isAbout (S : (Nat → Nat → Int32)) (p1 : Int32) (p2 : Int32) : Int32 := (if (S 79 (p1).toNatClampNeg) = 0 then 0 else (if (S 82 (p1).toNatClampNeg) = p2 then 1 else 0))
def Sf_M_isAbout (S : (Nat → Nat → Int32)) (p1 : Int32) (p2 : Int32) : Prop := ((vp_in p1 1200) ∧ (if (S 79 (p1).toNatClampNeg) = 0 then True else ((vp_in p1 1200) ∧ True)))
theorem c_M_isAbout (T' : Nat → Nat × Nat) (G' : Nat → Nat → Option Nat) (S : (Nat → Nat → Int32)) (n : Nat) (p1 : Int32) (p2 : Int32) (hs : Sf_M_isAbout S p1 p2) : z_Run rm_M_isAbout zm_M_isAbout [z_r 78, .inl p1, .inl p2] (zW T' G' S n) (zq (some (.inl (F_M_isAbout S p1 p2))) (zW T' G' S n)) := by
  refine z_body (by decide) zf_M_ok (Nat.le_of_ble_eq_true rfl) (fun X M => ?_)
  obtain ⟨Q, hQ, K⟩ : ∃ Q : Int32 → Prop, (∀ v, Q v → zq (some (.inl (F_M_isAbout S p1 p2))) (zW T' G' S n) (some (.inl v)) (zW T' G' S n)) ∧ Q (F_M_isAbout S p1 p2) := ⟨fun o => F_M_isAbout S p1 p2 = o, fun v h => ⟨by rw [h], rfl⟩, rfl⟩
  show z_G X zm_M_isAbout (0, [(0, z_r 78), (1, .inl p1), (2, .inl p2)], [], zW T' G' S n, 0, 0)
  unfold F_M_isAbout at K
  unfold Sf_M_isAbout at hs
  refine z_go2 M.1 0 [(.aload_n 0, 1), (.getfield 7, 3), (.iload_n 1, 1), (.iaload, 1)] (6, [(0, z_r 78), (1, .inl p1), (2, .inl p2)], [.inl (S 79 (p1).toNatClampNeg)], zW T' G' S n, 0, 0) (by decide +kernel) rfl ⟨trivial, rfl, trivial, ⟨rfl, hs.1⟩, trivial⟩ ?_
  replace hs := hs.2
  refine z_if_eq 23 M.1 (off := 17) (by decide +kernel) (by decide) (fun c6 => ?_) (fun c6 => ?_)
  · rw [if_pos c6] at K hs
    refine z_go2 M.1 23 [(.iconst 0, 1)] (24, [(0, z_r 78), (1, .inl p1), (2, .inl p2)], [.inl 0], zW T' G' S n, 0, 0) (by decide +kernel) rfl ⟨trivial, trivial⟩ ?_
    exact z_iret M (by decide +kernel) .boolean rfl rfl (by decide) (by decide) (hQ _ K)
  · rw [if_neg c6] at K hs
    refine z_go2 M.1 9 [(.aload_n 0, 1), (.getfield 19, 3), (.iload_n 1, 1), (.iaload, 1), (.iload_n 2, 1)] (16, [(0, z_r 78), (1, .inl p1), (2, .inl p2)], [.inl p2, .inl (S 82 (p1).toNatClampNeg)], zW T' G' S n, 0, 0) (by decide +kernel) rfl ⟨trivial, rfl, trivial, ⟨rfl, hs.1⟩, trivial, trivial⟩ ?_
    replace hs := hs.2
    refine z_icmp_ne 23 M.1 (off := 7) (by decide +kernel) (by decide) (fun c16 => ?_) (fun c16 => ?_)
    · rw [if_neg c16] at K
      refine z_go2 M.1 23 [(.iconst 0, 1)] (24, [(0, z_r 78), (1, .inl p1), (2, .inl p2)], [.inl 0], zW T' G' S n, 0, 0) (by decide +kernel) rfl ⟨trivial, trivial⟩ ?_
      exact z_iret M (by decide +kernel) .boolean rfl rfl (by decide) (by decide) (hQ _ K)
    · rw [if_pos c16] at K
      refine z_go2 M.1 19 [(.iconst 1, 1), (.goto 4, 3)] (24, [(0, z_r 78), (1, .inl p1), (2, .inl p2)], [.inl 1], zW T' G' S n, 0, 0) (by decide +kernel) rfl ⟨trivial, trivial, trivial⟩ ?_
      exact z_iret M (by decide +kernel) .boolean rfl rfl (by decide) (by decide) (hQ _ K)

-- TrackHouseModel.wasIn
abbrev rm_M_wasIn : Room := zr 1
def F_M_wasIn_l5_74 (rc : Int32 → Int32 → (Int32)) (S : (Nat → Nat → Int32)) (x1 : Int32) (x2 : Int32) (x4 : Int32) : (Int32) := (rc 1 (x4 + 1))
def Sf_M_wasIn_l5_74 (rc : Int32 → Int32 → (Int32)) (sr : Int32 → Int32 → Prop) (S : (Nat → Nat → Int32)) (x1 : Int32) (x2 : Int32) (x4 : Int32) : Prop := (sr 1 (x4 + 1))
theorem t_M_wasIn_l5_74 {X : z_X} {Post : Option z_V → z_W → Prop} (M : z_M X zm_M_wasIn rm_M_wasIn Post) {T' : Nat → Nat × Nat} {G' : Nat → Nat → Option Nat} {n : Nat} {Q : (Int32) → Prop} (rc : Int32 → Int32 → (Int32)) (sr : Int32 → Int32 → Prop) (S : (Nat → Nat → Int32)) (x1 : Int32) (x2 : Int32) (x4 : Int32) (hE : ∀ (y3 : Int32), Q y3 → z_G X zm_M_wasIn (86, [(3, .inl y3)], [], zW T' G' S n, 0, 0)) (hC : ∀ (x3 : Int32) (x4 : Int32), Q (rc x3 x4) → sr x3 x4 → z_G X zm_M_wasIn (5, [(0, z_r 78), (1, .inl x1), (2, .inl x2), (3, .inl x3), (4, .inl x4)], [], zW T' G' S n, 0, 0)) (K : Q (F_M_wasIn_l5_74 rc S x1 x2 x4)) (hs : Sf_M_wasIn_l5_74 rc sr S x1 x2 x4) : z_G X zm_M_wasIn (74, [(0, z_r 78), (1, .inl x1), (2, .inl x2), (4, .inl x4)], [], zW T' G' S n, 0, 0) := by
  unfold F_M_wasIn_l5_74 at K
  unfold Sf_M_wasIn_l5_74 at hs
  refine z_go2 M.1 74 [(.iconst 1, 1), (.goto 4, 3), (.istore_n 3, 1), (.iinc 4 1, 3), (.goto (-78), 3)] (5, [(4, .inl (x4 + 1)), (3, .inl 1), (0, z_r 78), (1, .inl x1), (2, .inl x2)], [], zW T' G' S n, 0, 0) (by decide +kernel) rfl ⟨trivial, trivial, trivial, trivial, trivial, trivial⟩ ?_
  exact z_lvs (lv' := [(0, z_r 78), (1, .inl x1), (2, .inl x2), (3, .inl 1), (4, .inl (x4 + 1))]) [2, 3, 4, 1, 0] rfl (hC 1 (x4 + 1) K hs)
def F_M_wasIn_l5_78 (rc : Int32 → Int32 → (Int32)) (S : (Nat → Nat → Int32)) (x1 : Int32) (x2 : Int32) (x4 : Int32) : (Int32) := (rc 0 (x4 + 1))
def Sf_M_wasIn_l5_78 (rc : Int32 → Int32 → (Int32)) (sr : Int32 → Int32 → Prop) (S : (Nat → Nat → Int32)) (x1 : Int32) (x2 : Int32) (x4 : Int32) : Prop := (sr 0 (x4 + 1))
theorem t_M_wasIn_l5_78 {X : z_X} {Post : Option z_V → z_W → Prop} (M : z_M X zm_M_wasIn rm_M_wasIn Post) {T' : Nat → Nat × Nat} {G' : Nat → Nat → Option Nat} {n : Nat} {Q : (Int32) → Prop} (rc : Int32 → Int32 → (Int32)) (sr : Int32 → Int32 → Prop) (S : (Nat → Nat → Int32)) (x1 : Int32) (x2 : Int32) (x4 : Int32) (hE : ∀ (y3 : Int32), Q y3 → z_G X zm_M_wasIn (86, [(3, .inl y3)], [], zW T' G' S n, 0, 0)) (hC : ∀ (x3 : Int32) (x4 : Int32), Q (rc x3 x4) → sr x3 x4 → z_G X zm_M_wasIn (5, [(0, z_r 78), (1, .inl x1), (2, .inl x2), (3, .inl x3), (4, .inl x4)], [], zW T' G' S n, 0, 0)) (K : Q (F_M_wasIn_l5_78 rc S x1 x2 x4)) (hs : Sf_M_wasIn_l5_78 rc sr S x1 x2 x4) : z_G X zm_M_wasIn (78, [(0, z_r 78), (1, .inl x1), (2, .inl x2), (4, .inl x4)], [], zW T' G' S n, 0, 0) := by
  unfold F_M_wasIn_l5_78 at K
  unfold Sf_M_wasIn_l5_78 at hs
  refine z_go2 M.1 78 [(.iconst 0, 1), (.istore_n 3, 1), (.iinc 4 1, 3), (.goto (-78), 3)] (5, [(4, .inl (x4 + 1)), (3, .inl 0), (0, z_r 78), (1, .inl x1), (2, .inl x2)], [], zW T' G' S n, 0, 0) (by decide +kernel) rfl ⟨trivial, trivial, trivial, trivial, trivial⟩ ?_
  exact z_lvs (lv' := [(0, z_r 78), (1, .inl x1), (2, .inl x2), (3, .inl 0), (4, .inl (x4 + 1))]) [2, 3, 4, 1, 0] rfl (hC 0 (x4 + 1) K hs)
def F_M_wasIn_l5_52 (rc : Int32 → Int32 → (Int32)) (S : (Nat → Nat → Int32)) (x1 : Int32) (x2 : Int32) (x4 : Int32) (x5 : Int32) : (Int32) := (if (S 79 (x5).toNatClampNeg) = 2 then (if (S 85 (x5).toNatClampNeg) = x2 then (F_M_wasIn_l5_74 rc S x1 x2 x4) else (F_M_wasIn_l5_78 rc S x1 x2 x4)) else (F_M_wasIn_l5_78 rc S x1 x2 x4))
def Sf_M_wasIn_l5_52 (rc : Int32 → Int32 → (Int32)) (sr : Int32 → Int32 → Prop) (S : (Nat → Nat → Int32)) (x1 : Int32) (x2 : Int32) (x4 : Int32) (x5 : Int32) : Prop := ((vp_in x5 1200) ∧ (if (S 79 (x5).toNatClampNeg) = 2 then ((vp_in x5 1200) ∧ (if (S 85 (x5).toNatClampNeg) = x2 then (Sf_M_wasIn_l5_74 rc sr S x1 x2 x4) else (Sf_M_wasIn_l5_78 rc sr S x1 x2 x4))) else (Sf_M_wasIn_l5_78 rc sr S x1 x2 x4)))
theorem t_M_wasIn_l5_52 {X : z_X} {Post : Option z_V → z_W → Prop} (M : z_M X zm_M_wasIn rm_M_wasIn Post) {T' : Nat → Nat × Nat} {G' : Nat → Nat → Option Nat} {n : Nat} {Q : (Int32) → Prop} (rc : Int32 → Int32 → (Int32)) (sr : Int32 → Int32 → Prop) (S : (Nat → Nat → Int32)) (x1 : Int32) (x2 : Int32) (x4 : Int32) (x5 : Int32) (hE : ∀ (y3 : Int32), Q y3 → z_G X zm_M_wasIn (86, [(3, .inl y3)], [], zW T' G' S n, 0, 0)) (hC : ∀ (x3 : Int32) (x4 : Int32), Q (rc x3 x4) → sr x3 x4 → z_G X zm_M_wasIn (5, [(0, z_r 78), (1, .inl x1), (2, .inl x2), (3, .inl x3), (4, .inl x4)], [], zW T' G' S n, 0, 0)) (K : Q (F_M_wasIn_l5_52 rc S x1 x2 x4 x5)) (hs : Sf_M_wasIn_l5_52 rc sr S x1 x2 x4 x5) : z_G X zm_M_wasIn (52, [(0, z_r 78), (1, .inl x1), (2, .inl x2), (4, .inl x4), (5, .inl x5)], [], zW T' G' S n, 0, 0) := by
  unfold F_M_wasIn_l5_52 at K
  unfold Sf_M_wasIn_l5_52 at hs
  refine z_go2 M.1 52 [(.aload_n 0, 1), (.getfield 7, 3), (.iload 5, 2), (.iaload, 1), (.iconst 2, 1)] (60, [(0, z_r 78), (1, .inl x1), (2, .inl x2), (4, .inl x4), (5, .inl x5)], [.inl 2, .inl (S 79 (x5).toNatClampNeg)], zW T' G' S n, 0, 0) (by decide +kernel) rfl ⟨trivial, rfl, trivial, ⟨rfl, hs.1⟩, trivial, trivial⟩ ?_
  replace hs := hs.2
  refine z_icmp_ne 78 M.1 (off := 18) (by decide +kernel) (by decide) (fun c60 => ?_) (fun c60 => ?_)
  · rw [if_neg c60] at K hs
    exact z_lvs (lv' := [(0, z_r 78), (1, .inl x1), (2, .inl x2), (4, .inl x4)]) [0, 1, 2, 3] rfl (t_M_wasIn_l5_78 M rc sr S x1 x2 x4 hE hC K hs)
  · rw [if_pos c60] at K hs
    refine z_go2 M.1 63 [(.aload_n 0, 1), (.getfield 28, 3), (.iload 5, 2), (.iaload, 1), (.iload_n 2, 1)] (71, [(0, z_r 78), (1, .inl x1), (2, .inl x2), (4, .inl x4), (5, .inl x5)], [.inl x2, .inl (S 85 (x5).toNatClampNeg)], zW T' G' S n, 0, 0) (by decide +kernel) rfl ⟨trivial, rfl, trivial, ⟨rfl, hs.1⟩, trivial, trivial⟩ ?_
    replace hs := hs.2
    refine z_icmp_ne 78 M.1 (off := 7) (by decide +kernel) (by decide) (fun c71 => ?_) (fun c71 => ?_)
    · rw [if_neg c71] at K hs
      exact z_lvs (lv' := [(0, z_r 78), (1, .inl x1), (2, .inl x2), (4, .inl x4)]) [0, 1, 2, 3] rfl (t_M_wasIn_l5_78 M rc sr S x1 x2 x4 hE hC K hs)
    · rw [if_pos c71] at K hs
      exact z_lvs (lv' := [(0, z_r 78), (1, .inl x1), (2, .inl x2), (4, .inl x4)]) [0, 1, 2, 3] rfl (t_M_wasIn_l5_74 M rc sr S x1 x2 x4 hE hC K hs)
def F_M_wasIn_L5 (S : (Nat → Nat → Int32)) (x1 : Int32) (x2 : Int32) : Nat → Int32 → Int32 → (Int32)
  | 0, x3, x4 => x3
  | f + 1, x3, x4 => (if (S 78 13) ≤ x4 then x3 else (if x3 = 0 then (if (F_M_isAbout S (S 122 (x4).toNatClampNeg) x1) = 0 then (F_M_wasIn_l5_78 (F_M_wasIn_L5 S x1 x2 f) S x1 x2 x4) else (if (S 79 (S 122 (x4).toNatClampNeg).toNatClampNeg) = 1 then (if x2 = 0 then (F_M_wasIn_l5_74 (F_M_wasIn_L5 S x1 x2 f) S x1 x2 x4) else (F_M_wasIn_l5_52 (F_M_wasIn_L5 S x1 x2 f) S x1 x2 x4 (S 122 (x4).toNatClampNeg))) else (F_M_wasIn_l5_52 (F_M_wasIn_L5 S x1 x2 f) S x1 x2 x4 (S 122 (x4).toNatClampNeg)))) else (F_M_wasIn_l5_74 (F_M_wasIn_L5 S x1 x2 f) S x1 x2 x4)))
def Sf_M_wasIn_L5 (S : (Nat → Nat → Int32)) (x1 : Int32) (x2 : Int32) : Nat → Int32 → Int32 → Prop
  | 0, _, _ => False
  | f + 1, x3, x4 => (if (S 78 13) ≤ x4 then True else ((vp_in x4 1200) ∧ (if x3 = 0 then (Sf_M_isAbout S (S 122 (x4).toNatClampNeg) x1 ∧ (if (F_M_isAbout S (S 122 (x4).toNatClampNeg) x1) = 0 then (Sf_M_wasIn_l5_78 (F_M_wasIn_L5 S x1 x2 f) (Sf_M_wasIn_L5 S x1 x2 f) S x1 x2 x4) else ((vp_in (S 122 (x4).toNatClampNeg) 1200) ∧ (if (S 79 (S 122 (x4).toNatClampNeg).toNatClampNeg) = 1 then (if x2 = 0 then (Sf_M_wasIn_l5_74 (F_M_wasIn_L5 S x1 x2 f) (Sf_M_wasIn_L5 S x1 x2 f) S x1 x2 x4) else (Sf_M_wasIn_l5_52 (F_M_wasIn_L5 S x1 x2 f) (Sf_M_wasIn_L5 S x1 x2 f) S x1 x2 x4 (S 122 (x4).toNatClampNeg))) else (Sf_M_wasIn_l5_52 (F_M_wasIn_L5 S x1 x2 f) (Sf_M_wasIn_L5 S x1 x2 f) S x1 x2 x4 (S 122 (x4).toNatClampNeg)))))) else (Sf_M_wasIn_l5_74 (F_M_wasIn_L5 S x1 x2 f) (Sf_M_wasIn_L5 S x1 x2 f) S x1 x2 x4))))
theorem t_M_wasIn_L5 {X : z_X} {Post : Option z_V → z_W → Prop} (M : z_M X zm_M_wasIn rm_M_wasIn Post) {T' : Nat → Nat × Nat} {G' : Nat → Nat → Option Nat} {n : Nat} {Q : (Int32) → Prop} (S : (Nat → Nat → Int32))  (x1 : Int32) (x2 : Int32) (hE : ∀ (y3 : Int32), Q y3 → z_G X zm_M_wasIn (86, [(3, .inl y3)], [], zW T' G' S n, 0, 0)) (f : Nat) : ∀ (x3 : Int32) (x4 : Int32), Q (F_M_wasIn_L5 S x1 x2 f x3 x4) → Sf_M_wasIn_L5 S x1 x2 f x3 x4 → z_G X zm_M_wasIn (5, [(0, z_r 78), (1, .inl x1), (2, .inl x2), (3, .inl x3), (4, .inl x4)], [], zW T' G' S n, 0, 0) := by
  induction f with
  | zero => intro x3 x4 K hs; exact False.elim hs
  | succ f hC =>
    intro x3 x4 K hs
    rw [F_M_wasIn_L5] at K
    rw [Sf_M_wasIn_L5] at hs
    refine z_go2 M.1 5 [(.iload 4, 2), (.aload_n 0, 1), (.getfield 419, 3)] (11, [(0, z_r 78), (1, .inl x1), (2, .inl x2), (3, .inl x3), (4, .inl x4)], [.inl (S 78 13), .inl x4], zW T' G' S n, 0, 0) (by decide +kernel) rfl ⟨trivial, trivial, rfl, trivial⟩ ?_
    refine z_icmp_ge 86 M.1 (off := 75) (by decide +kernel) (by decide) (fun c11 => ?_) (fun c11 => ?_)
    · rw [if_pos c11] at K hs
      exact z_lvs (lv' := [(3, .inl x3)]) [3] rfl (hE x3 K)
    · rw [if_neg c11] at K hs
      refine z_go2 M.1 14 [(.aload_n 0, 1), (.getfield 44, 3), (.iload 4, 2), (.iaload, 1), (.istore 5, 2), (.iload_n 3, 1)] (24, [(5, .inl (S 122 (x4).toNatClampNeg)), (0, z_r 78), (1, .inl x1), (2, .inl x2), (3, .inl x3), (4, .inl x4)], [.inl x3], zW T' G' S n, 0, 0) (by decide +kernel) rfl ⟨trivial, rfl, trivial, ⟨rfl, hs.1⟩, trivial, trivial, trivial⟩ ?_
      replace hs := hs.2
      refine z_if_ne 74 M.1 (off := 50) (by decide +kernel) (by decide) (fun c24 => ?_) (fun c24 => ?_)
      · rw [if_neg c24] at K hs
        exact z_lvs (lv' := [(0, z_r 78), (1, .inl x1), (2, .inl x2), (4, .inl x4)]) [1, 2, 3, 5] rfl (t_M_wasIn_l5_74 M (F_M_wasIn_L5 S x1 x2 f) (Sf_M_wasIn_L5 S x1 x2 f) S x1 x2 x4 hE hC K hs)
      · rw [if_pos c24] at K hs
        refine z_go2 M.1 27 [(.aload_n 0, 1), (.iload 5, 2), (.iload_n 1, 1)] (31, [(5, .inl (S 122 (x4).toNatClampNeg)), (0, z_r 78), (1, .inl x1), (2, .inl x2), (3, .inl x3), (4, .inl x4)], [.inl x1, .inl (S 122 (x4).toNatClampNeg), z_r 78], zW T' G' S n, 0, 0) (by decide +kernel) rfl ⟨trivial, trivial, trivial, trivial⟩ ?_
        refine z_callV M.1 (av := [.inl (S 122 (x4).toNatClampNeg), .inl x1]) (st := []) (a := 78) (ci := 14) (by decide +kernel) (c_M_isAbout T' G' S n (S 122 (x4).toNatClampNeg) x1 hs.1) M.2.1 zl_M_425 zv_M_isAbout rfl rfl rfl ⟨by decide, by decide, by decide, by decide⟩ rfl (Nat.le_of_ble_eq_true rfl) (fun v w' hv => ?_)
        obtain ⟨rfl, rfl⟩ := hv
        replace hs := hs.2
        show z_G X zm_M_wasIn (34, [(5, .inl (S 122 (x4).toNatClampNeg)), (0, z_r 78), (1, .inl x1), (2, .inl x2), (3, .inl x3), (4, .inl x4)], [.inl (F_M_isAbout S (S 122 (x4).toNatClampNeg) x1)], zW T' G' S n, 0, 0)
        refine z_if_eq 78 M.1 (off := 44) (by decide +kernel) (by decide) (fun c34 => ?_) (fun c34 => ?_)
        · rw [if_pos c34] at K hs
          exact z_lvs (lv' := [(0, z_r 78), (1, .inl x1), (2, .inl x2), (4, .inl x4)]) [1, 2, 3, 5] rfl (t_M_wasIn_l5_78 M (F_M_wasIn_L5 S x1 x2 f) (Sf_M_wasIn_L5 S x1 x2 f) S x1 x2 x4 hE hC K hs)
        · rw [if_neg c34] at K hs
          refine z_go2 M.1 37 [(.aload_n 0, 1), (.getfield 7, 3), (.iload 5, 2), (.iaload, 1), (.iconst 1, 1)] (45, [(5, .inl (S 122 (x4).toNatClampNeg)), (0, z_r 78), (1, .inl x1), (2, .inl x2), (3, .inl x3), (4, .inl x4)], [.inl 1, .inl (S 79 (S 122 (x4).toNatClampNeg).toNatClampNeg)], zW T' G' S n, 0, 0) (by decide +kernel) rfl ⟨trivial, rfl, trivial, ⟨rfl, hs.1⟩, trivial, trivial⟩ ?_
          replace hs := hs.2
          refine z_icmp_ne 52 M.1 (off := 7) (by decide +kernel) (by decide) (fun c45 => ?_) (fun c45 => ?_)
          · rw [if_neg c45] at K hs
            exact z_lvs (lv' := [(0, z_r 78), (1, .inl x1), (2, .inl x2), (4, .inl x4), (5, .inl (S 122 (x4).toNatClampNeg))]) [1, 2, 3, 5, 0] rfl (t_M_wasIn_l5_52 M (F_M_wasIn_L5 S x1 x2 f) (Sf_M_wasIn_L5 S x1 x2 f) S x1 x2 x4 (S 122 (x4).toNatClampNeg) hE hC K hs)
          · rw [if_pos c45] at K hs
            refine z_go2 M.1 48 [(.iload_n 2, 1)] (49, [(5, .inl (S 122 (x4).toNatClampNeg)), (0, z_r 78), (1, .inl x1), (2, .inl x2), (3, .inl x3), (4, .inl x4)], [.inl x2], zW T' G' S n, 0, 0) (by decide +kernel) rfl ⟨trivial, trivial⟩ ?_
            refine z_if_eq 74 M.1 (off := 25) (by decide +kernel) (by decide) (fun c49 => ?_) (fun c49 => ?_)
            · rw [if_pos c49] at K hs
              exact z_lvs (lv' := [(0, z_r 78), (1, .inl x1), (2, .inl x2), (4, .inl x4)]) [1, 2, 3, 5] rfl (t_M_wasIn_l5_74 M (F_M_wasIn_L5 S x1 x2 f) (Sf_M_wasIn_L5 S x1 x2 f) S x1 x2 x4 hE hC K hs)
            · rw [if_neg c49] at K hs
              exact z_lvs (lv' := [(0, z_r 78), (1, .inl x1), (2, .inl x2), (4, .inl x4), (5, .inl (S 122 (x4).toNatClampNeg))]) [1, 2, 3, 5, 0] rfl (t_M_wasIn_l5_52 M (F_M_wasIn_L5 S x1 x2 f) (Sf_M_wasIn_L5 S x1 x2 f) S x1 x2 x4 (S 122 (x4).toNatClampNeg) hE hC K hs)
def F_M_wasIn (S : (Nat → Nat → Int32)) (p1 : Int32) (p2 : Int32) : Int32 := (match F_M_wasIn_L5 S p1 p2 1300 0 0 with | y3_5 => y3_5)
def Sf_M_wasIn (S : (Nat → Nat → Int32)) (p1 : Int32) (p2 : Int32) : Prop := (Sf_M_wasIn_L5 S p1 p2 1300 0 0 ∧ (match F_M_wasIn_L5 S p1 p2 1300 0 0 with | y3_5 => (narrow .boolean (.int y3_5) = .int y3_5 ∧ True)))
theorem c_M_wasIn (T' : Nat → Nat × Nat) (G' : Nat → Nat → Option Nat) (S : (Nat → Nat → Int32)) (n : Nat) (p1 : Int32) (p2 : Int32) (hs : Sf_M_wasIn S p1 p2) : z_Run rm_M_wasIn zm_M_wasIn [z_r 78, .inl p1, .inl p2] (zW T' G' S n) (zq (some (.inl (F_M_wasIn S p1 p2))) (zW T' G' S n)) := by
  refine z_body (by decide) zf_M_ok (Nat.le_of_ble_eq_true rfl) (fun X M => ?_)
  obtain ⟨Q, hQ, K⟩ : ∃ Q : Int32 → Prop, (∀ v, Q v → zq (some (.inl (F_M_wasIn S p1 p2))) (zW T' G' S n) (some (.inl v)) (zW T' G' S n)) ∧ Q (F_M_wasIn S p1 p2) := ⟨fun o => F_M_wasIn S p1 p2 = o, fun v h => ⟨by rw [h], rfl⟩, rfl⟩
  show z_G X zm_M_wasIn (0, [(0, z_r 78), (1, .inl p1), (2, .inl p2)], [], zW T' G' S n, 0, 0)
  unfold F_M_wasIn at K
  unfold Sf_M_wasIn at hs
  refine z_go2 M.1 0 [(.iconst 0, 1), (.istore_n 3, 1), (.iconst 0, 1), (.istore 4, 2)] (5, [(4, .inl 0), (3, .inl 0), (0, z_r 78), (1, .inl p1), (2, .inl p2)], [], zW T' G' S n, 0, 0) (by decide +kernel) rfl ⟨trivial, trivial, trivial, trivial, trivial⟩ ?_
  refine z_lvs (lv' := [(0, z_r 78), (1, .inl p1), (2, .inl p2), (3, .inl 0), (4, .inl 0)]) [2, 3, 4, 1, 0] rfl ?_
  refine t_M_wasIn_L5 M (Q := fun o => F_M_wasIn_L5 S p1 p2 1300 0 0 = o) S p1 p2 (fun y3_5 hL5 => ?_) 1300 0 0 rfl hs.1
  replace hs := hs.2
  rw [hL5] at K
  try rw [hL5] at hs
  try dsimp only at K hs
  refine z_go2 M.1 86 [(.iload_n 3, 1)] (87, [(3, .inl y3_5)], [.inl y3_5], zW T' G' S n, 0, 0) (by decide +kernel) rfl ⟨trivial, trivial⟩ ?_
  exact z_iret M (by decide +kernel) .boolean rfl hs.1 (by decide) (by decide) (hQ _ K)

-- TrackHouseModel.cameFrom
abbrev rm_M_cameFrom : Room := zr 1
def F_M_cameFrom_l6_72 (rc : Int32 → Int32 → (Int32)) (S : (Nat → Nat → Int32)) (x1 : Int32) (x2 : Int32) (x3 : Int32) (x5 : Int32) : (Int32) := (rc 1 (x5 + 1))
def Sf_M_cameFrom_l6_72 (rc : Int32 → Int32 → (Int32)) (sr : Int32 → Int32 → Prop) (S : (Nat → Nat → Int32)) (x1 : Int32) (x2 : Int32) (x3 : Int32) (x5 : Int32) : Prop := (sr 1 (x5 + 1))
theorem t_M_cameFrom_l6_72 {X : z_X} {Post : Option z_V → z_W → Prop} (M : z_M X zm_M_cameFrom rm_M_cameFrom Post) {T' : Nat → Nat × Nat} {G' : Nat → Nat → Option Nat} {n : Nat} {Q : (Int32) → Prop} (rc : Int32 → Int32 → (Int32)) (sr : Int32 → Int32 → Prop) (S : (Nat → Nat → Int32)) (x1 : Int32) (x2 : Int32) (x3 : Int32) (x5 : Int32) (hE : ∀ (y4 : Int32), Q y4 → z_G X zm_M_cameFrom (85, [(4, .inl y4)], [], zW T' G' S n, 0, 0)) (hC : ∀ (x4 : Int32) (x5 : Int32), Q (rc x4 x5) → sr x4 x5 → z_G X zm_M_cameFrom (6, [(0, z_r 78), (1, .inl x1), (2, .inl x2), (3, .inl x3), (4, .inl x4), (5, .inl x5)], [], zW T' G' S n, 0, 0)) (K : Q (F_M_cameFrom_l6_72 rc S x1 x2 x3 x5)) (hs : Sf_M_cameFrom_l6_72 rc sr S x1 x2 x3 x5) : z_G X zm_M_cameFrom (72, [(0, z_r 78), (1, .inl x1), (2, .inl x2), (3, .inl x3), (5, .inl x5)], [], zW T' G' S n, 0, 0) := by
  unfold F_M_cameFrom_l6_72 at K
  unfold Sf_M_cameFrom_l6_72 at hs
  refine z_go2 M.1 72 [(.iconst 1, 1), (.goto 4, 3), (.istore 4, 2), (.iinc 5 1, 3), (.goto (-76), 3)] (6, [(5, .inl (x5 + 1)), (4, .inl 1), (0, z_r 78), (1, .inl x1), (2, .inl x2), (3, .inl x3)], [], zW T' G' S n, 0, 0) (by decide +kernel) rfl ⟨trivial, trivial, trivial, trivial, trivial, trivial⟩ ?_
  exact z_lvs (lv' := [(0, z_r 78), (1, .inl x1), (2, .inl x2), (3, .inl x3), (4, .inl 1), (5, .inl (x5 + 1))]) [2, 3, 4, 5, 1, 0] rfl (hC 1 (x5 + 1) K hs)
def F_M_cameFrom_l6_76 (rc : Int32 → Int32 → (Int32)) (S : (Nat → Nat → Int32)) (x1 : Int32) (x2 : Int32) (x3 : Int32) (x5 : Int32) : (Int32) := (rc 0 (x5 + 1))
def Sf_M_cameFrom_l6_76 (rc : Int32 → Int32 → (Int32)) (sr : Int32 → Int32 → Prop) (S : (Nat → Nat → Int32)) (x1 : Int32) (x2 : Int32) (x3 : Int32) (x5 : Int32) : Prop := (sr 0 (x5 + 1))
theorem t_M_cameFrom_l6_76 {X : z_X} {Post : Option z_V → z_W → Prop} (M : z_M X zm_M_cameFrom rm_M_cameFrom Post) {T' : Nat → Nat × Nat} {G' : Nat → Nat → Option Nat} {n : Nat} {Q : (Int32) → Prop} (rc : Int32 → Int32 → (Int32)) (sr : Int32 → Int32 → Prop) (S : (Nat → Nat → Int32)) (x1 : Int32) (x2 : Int32) (x3 : Int32) (x5 : Int32) (hE : ∀ (y4 : Int32), Q y4 → z_G X zm_M_cameFrom (85, [(4, .inl y4)], [], zW T' G' S n, 0, 0)) (hC : ∀ (x4 : Int32) (x5 : Int32), Q (rc x4 x5) → sr x4 x5 → z_G X zm_M_cameFrom (6, [(0, z_r 78), (1, .inl x1), (2, .inl x2), (3, .inl x3), (4, .inl x4), (5, .inl x5)], [], zW T' G' S n, 0, 0)) (K : Q (F_M_cameFrom_l6_76 rc S x1 x2 x3 x5)) (hs : Sf_M_cameFrom_l6_76 rc sr S x1 x2 x3 x5) : z_G X zm_M_cameFrom (76, [(0, z_r 78), (1, .inl x1), (2, .inl x2), (3, .inl x3), (5, .inl x5)], [], zW T' G' S n, 0, 0) := by
  unfold F_M_cameFrom_l6_76 at K
  unfold Sf_M_cameFrom_l6_76 at hs
  refine z_go2 M.1 76 [(.iconst 0, 1), (.istore 4, 2), (.iinc 5 1, 3), (.goto (-76), 3)] (6, [(5, .inl (x5 + 1)), (4, .inl 0), (0, z_r 78), (1, .inl x1), (2, .inl x2), (3, .inl x3)], [], zW T' G' S n, 0, 0) (by decide +kernel) rfl ⟨trivial, trivial, trivial, trivial, trivial⟩ ?_
  exact z_lvs (lv' := [(0, z_r 78), (1, .inl x1), (2, .inl x2), (3, .inl x3), (4, .inl 0), (5, .inl (x5 + 1))]) [2, 3, 4, 5, 1, 0] rfl (hC 0 (x5 + 1) K hs)
def F_M_cameFrom_L6 (S : (Nat → Nat → Int32)) (x1 : Int32) (x2 : Int32) (x3 : Int32) : Nat → Int32 → Int32 → (Int32)
  | 0, x4, x5 => x4
  | f + 1, x4, x5 => (if (S 78 13) ≤ x5 then x4 else (if x4 = 0 then (if (F_M_isAbout S (S 122 (x5).toNatClampNeg) x1) = 0 then (F_M_cameFrom_l6_76 (F_M_cameFrom_L6 S x1 x2 x3 f) S x1 x2 x3 x5) else (if (S 79 (S 122 (x5).toNatClampNeg).toNatClampNeg) = 2 then (if (S 123 (x5).toNatClampNeg) = x2 then (if (S 85 (S 122 (x5).toNatClampNeg).toNatClampNeg) = x3 then (F_M_cameFrom_l6_72 (F_M_cameFrom_L6 S x1 x2 x3 f) S x1 x2 x3 x5) else (F_M_cameFrom_l6_76 (F_M_cameFrom_L6 S x1 x2 x3 f) S x1 x2 x3 x5)) else (F_M_cameFrom_l6_76 (F_M_cameFrom_L6 S x1 x2 x3 f) S x1 x2 x3 x5)) else (F_M_cameFrom_l6_76 (F_M_cameFrom_L6 S x1 x2 x3 f) S x1 x2 x3 x5))) else (F_M_cameFrom_l6_72 (F_M_cameFrom_L6 S x1 x2 x3 f) S x1 x2 x3 x5)))
def Sf_M_cameFrom_L6 (S : (Nat → Nat → Int32)) (x1 : Int32) (x2 : Int32) (x3 : Int32) : Nat → Int32 → Int32 → Prop
  | 0, _, _ => False
  | f + 1, x4, x5 => (if (S 78 13) ≤ x5 then True else ((vp_in x5 1200) ∧ (if x4 = 0 then (Sf_M_isAbout S (S 122 (x5).toNatClampNeg) x1 ∧ (if (F_M_isAbout S (S 122 (x5).toNatClampNeg) x1) = 0 then (Sf_M_cameFrom_l6_76 (F_M_cameFrom_L6 S x1 x2 x3 f) (Sf_M_cameFrom_L6 S x1 x2 x3 f) S x1 x2 x3 x5) else ((vp_in (S 122 (x5).toNatClampNeg) 1200) ∧ (if (S 79 (S 122 (x5).toNatClampNeg).toNatClampNeg) = 2 then ((vp_in x5 1200) ∧ (if (S 123 (x5).toNatClampNeg) = x2 then ((vp_in (S 122 (x5).toNatClampNeg) 1200) ∧ (if (S 85 (S 122 (x5).toNatClampNeg).toNatClampNeg) = x3 then (Sf_M_cameFrom_l6_72 (F_M_cameFrom_L6 S x1 x2 x3 f) (Sf_M_cameFrom_L6 S x1 x2 x3 f) S x1 x2 x3 x5) else (Sf_M_cameFrom_l6_76 (F_M_cameFrom_L6 S x1 x2 x3 f) (Sf_M_cameFrom_L6 S x1 x2 x3 f) S x1 x2 x3 x5))) else (Sf_M_cameFrom_l6_76 (F_M_cameFrom_L6 S x1 x2 x3 f) (Sf_M_cameFrom_L6 S x1 x2 x3 f) S x1 x2 x3 x5))) else (Sf_M_cameFrom_l6_76 (F_M_cameFrom_L6 S x1 x2 x3 f) (Sf_M_cameFrom_L6 S x1 x2 x3 f) S x1 x2 x3 x5))))) else (Sf_M_cameFrom_l6_72 (F_M_cameFrom_L6 S x1 x2 x3 f) (Sf_M_cameFrom_L6 S x1 x2 x3 f) S x1 x2 x3 x5))))
theorem t_M_cameFrom_L6 {X : z_X} {Post : Option z_V → z_W → Prop} (M : z_M X zm_M_cameFrom rm_M_cameFrom Post) {T' : Nat → Nat × Nat} {G' : Nat → Nat → Option Nat} {n : Nat} {Q : (Int32) → Prop} (S : (Nat → Nat → Int32))  (x1 : Int32) (x2 : Int32) (x3 : Int32) (hE : ∀ (y4 : Int32), Q y4 → z_G X zm_M_cameFrom (85, [(4, .inl y4)], [], zW T' G' S n, 0, 0)) (f : Nat) : ∀ (x4 : Int32) (x5 : Int32), Q (F_M_cameFrom_L6 S x1 x2 x3 f x4 x5) → Sf_M_cameFrom_L6 S x1 x2 x3 f x4 x5 → z_G X zm_M_cameFrom (6, [(0, z_r 78), (1, .inl x1), (2, .inl x2), (3, .inl x3), (4, .inl x4), (5, .inl x5)], [], zW T' G' S n, 0, 0) := by
  induction f with
  | zero => intro x4 x5 K hs; exact False.elim hs
  | succ f hC =>
    intro x4 x5 K hs
    rw [F_M_cameFrom_L6] at K
    rw [Sf_M_cameFrom_L6] at hs
    refine z_go2 M.1 6 [(.iload 5, 2), (.aload_n 0, 1), (.getfield 419, 3)] (12, [(0, z_r 78), (1, .inl x1), (2, .inl x2), (3, .inl x3), (4, .inl x4), (5, .inl x5)], [.inl (S 78 13), .inl x5], zW T' G' S n, 0, 0) (by decide +kernel) rfl ⟨trivial, trivial, rfl, trivial⟩ ?_
    refine z_icmp_ge 85 M.1 (off := 73) (by decide +kernel) (by decide) (fun c12 => ?_) (fun c12 => ?_)
    · rw [if_pos c12] at K hs
      exact z_lvs (lv' := [(4, .inl x4)]) [4] rfl (hE x4 K)
    · rw [if_neg c12] at K hs
      refine z_go2 M.1 15 [(.aload_n 0, 1), (.getfield 44, 3), (.iload 5, 2), (.iaload, 1), (.istore 6, 2), (.iload 4, 2)] (26, [(6, .inl (S 122 (x5).toNatClampNeg)), (0, z_r 78), (1, .inl x1), (2, .inl x2), (3, .inl x3), (4, .inl x4), (5, .inl x5)], [.inl x4], zW T' G' S n, 0, 0) (by decide +kernel) rfl ⟨trivial, rfl, trivial, ⟨rfl, hs.1⟩, trivial, trivial, trivial⟩ ?_
      replace hs := hs.2
      refine z_if_ne 72 M.1 (off := 46) (by decide +kernel) (by decide) (fun c26 => ?_) (fun c26 => ?_)
      · rw [if_neg c26] at K hs
        exact z_lvs (lv' := [(0, z_r 78), (1, .inl x1), (2, .inl x2), (3, .inl x3), (5, .inl x5)]) [1, 2, 3, 4, 6] rfl (t_M_cameFrom_l6_72 M (F_M_cameFrom_L6 S x1 x2 x3 f) (Sf_M_cameFrom_L6 S x1 x2 x3 f) S x1 x2 x3 x5 hE hC K hs)
      · rw [if_pos c26] at K hs
        refine z_go2 M.1 29 [(.aload_n 0, 1), (.iload 6, 2), (.iload_n 1, 1)] (33, [(6, .inl (S 122 (x5).toNatClampNeg)), (0, z_r 78), (1, .inl x1), (2, .inl x2), (3, .inl x3), (4, .inl x4), (5, .inl x5)], [.inl x1, .inl (S 122 (x5).toNatClampNeg), z_r 78], zW T' G' S n, 0, 0) (by decide +kernel) rfl ⟨trivial, trivial, trivial, trivial⟩ ?_
        refine z_callV M.1 (av := [.inl (S 122 (x5).toNatClampNeg), .inl x1]) (st := []) (a := 78) (ci := 14) (by decide +kernel) (c_M_isAbout T' G' S n (S 122 (x5).toNatClampNeg) x1 hs.1) M.2.1 zl_M_425 zv_M_isAbout rfl rfl rfl ⟨by decide, by decide, by decide, by decide⟩ rfl (Nat.le_of_ble_eq_true rfl) (fun v w' hv => ?_)
        obtain ⟨rfl, rfl⟩ := hv
        replace hs := hs.2
        show z_G X zm_M_cameFrom (36, [(6, .inl (S 122 (x5).toNatClampNeg)), (0, z_r 78), (1, .inl x1), (2, .inl x2), (3, .inl x3), (4, .inl x4), (5, .inl x5)], [.inl (F_M_isAbout S (S 122 (x5).toNatClampNeg) x1)], zW T' G' S n, 0, 0)
        refine z_if_eq 76 M.1 (off := 40) (by decide +kernel) (by decide) (fun c36 => ?_) (fun c36 => ?_)
        · rw [if_pos c36] at K hs
          exact z_lvs (lv' := [(0, z_r 78), (1, .inl x1), (2, .inl x2), (3, .inl x3), (5, .inl x5)]) [1, 2, 3, 4, 6] rfl (t_M_cameFrom_l6_76 M (F_M_cameFrom_L6 S x1 x2 x3 f) (Sf_M_cameFrom_L6 S x1 x2 x3 f) S x1 x2 x3 x5 hE hC K hs)
        · rw [if_neg c36] at K hs
          refine z_go2 M.1 39 [(.aload_n 0, 1), (.getfield 7, 3), (.iload 6, 2), (.iaload, 1), (.iconst 2, 1)] (47, [(6, .inl (S 122 (x5).toNatClampNeg)), (0, z_r 78), (1, .inl x1), (2, .inl x2), (3, .inl x3), (4, .inl x4), (5, .inl x5)], [.inl 2, .inl (S 79 (S 122 (x5).toNatClampNeg).toNatClampNeg)], zW T' G' S n, 0, 0) (by decide +kernel) rfl ⟨trivial, rfl, trivial, ⟨rfl, hs.1⟩, trivial, trivial⟩ ?_
          replace hs := hs.2
          refine z_icmp_ne 76 M.1 (off := 29) (by decide +kernel) (by decide) (fun c47 => ?_) (fun c47 => ?_)
          · rw [if_neg c47] at K hs
            exact z_lvs (lv' := [(0, z_r 78), (1, .inl x1), (2, .inl x2), (3, .inl x3), (5, .inl x5)]) [1, 2, 3, 4, 6] rfl (t_M_cameFrom_l6_76 M (F_M_cameFrom_L6 S x1 x2 x3 f) (Sf_M_cameFrom_L6 S x1 x2 x3 f) S x1 x2 x3 x5 hE hC K hs)
          · rw [if_pos c47] at K hs
            refine z_go2 M.1 50 [(.aload_n 0, 1), (.getfield 47, 3), (.iload 5, 2), (.iaload, 1), (.iload_n 2, 1)] (58, [(6, .inl (S 122 (x5).toNatClampNeg)), (0, z_r 78), (1, .inl x1), (2, .inl x2), (3, .inl x3), (4, .inl x4), (5, .inl x5)], [.inl x2, .inl (S 123 (x5).toNatClampNeg)], zW T' G' S n, 0, 0) (by decide +kernel) rfl ⟨trivial, rfl, trivial, ⟨rfl, hs.1⟩, trivial, trivial⟩ ?_
            replace hs := hs.2
            refine z_icmp_ne 76 M.1 (off := 18) (by decide +kernel) (by decide) (fun c58 => ?_) (fun c58 => ?_)
            · rw [if_neg c58] at K hs
              exact z_lvs (lv' := [(0, z_r 78), (1, .inl x1), (2, .inl x2), (3, .inl x3), (5, .inl x5)]) [1, 2, 3, 4, 6] rfl (t_M_cameFrom_l6_76 M (F_M_cameFrom_L6 S x1 x2 x3 f) (Sf_M_cameFrom_L6 S x1 x2 x3 f) S x1 x2 x3 x5 hE hC K hs)
            · rw [if_pos c58] at K hs
              refine z_go2 M.1 61 [(.aload_n 0, 1), (.getfield 28, 3), (.iload 6, 2), (.iaload, 1), (.iload_n 3, 1)] (69, [(6, .inl (S 122 (x5).toNatClampNeg)), (0, z_r 78), (1, .inl x1), (2, .inl x2), (3, .inl x3), (4, .inl x4), (5, .inl x5)], [.inl x3, .inl (S 85 (S 122 (x5).toNatClampNeg).toNatClampNeg)], zW T' G' S n, 0, 0) (by decide +kernel) rfl ⟨trivial, rfl, trivial, ⟨rfl, hs.1⟩, trivial, trivial⟩ ?_
              replace hs := hs.2
              refine z_icmp_ne 76 M.1 (off := 7) (by decide +kernel) (by decide) (fun c69 => ?_) (fun c69 => ?_)
              · rw [if_neg c69] at K hs
                exact z_lvs (lv' := [(0, z_r 78), (1, .inl x1), (2, .inl x2), (3, .inl x3), (5, .inl x5)]) [1, 2, 3, 4, 6] rfl (t_M_cameFrom_l6_76 M (F_M_cameFrom_L6 S x1 x2 x3 f) (Sf_M_cameFrom_L6 S x1 x2 x3 f) S x1 x2 x3 x5 hE hC K hs)
              · rw [if_pos c69] at K hs
                exact z_lvs (lv' := [(0, z_r 78), (1, .inl x1), (2, .inl x2), (3, .inl x3), (5, .inl x5)]) [1, 2, 3, 4, 6] rfl (t_M_cameFrom_l6_72 M (F_M_cameFrom_L6 S x1 x2 x3 f) (Sf_M_cameFrom_L6 S x1 x2 x3 f) S x1 x2 x3 x5 hE hC K hs)
def F_M_cameFrom (S : (Nat → Nat → Int32)) (p1 : Int32) (p2 : Int32) (p3 : Int32) : Int32 := (match F_M_cameFrom_L6 S p1 p2 p3 1300 0 0 with | y4_6 => y4_6)
def Sf_M_cameFrom (S : (Nat → Nat → Int32)) (p1 : Int32) (p2 : Int32) (p3 : Int32) : Prop := (Sf_M_cameFrom_L6 S p1 p2 p3 1300 0 0 ∧ (match F_M_cameFrom_L6 S p1 p2 p3 1300 0 0 with | y4_6 => (narrow .boolean (.int y4_6) = .int y4_6 ∧ True)))
theorem c_M_cameFrom (T' : Nat → Nat × Nat) (G' : Nat → Nat → Option Nat) (S : (Nat → Nat → Int32)) (n : Nat) (p1 : Int32) (p2 : Int32) (p3 : Int32) (hs : Sf_M_cameFrom S p1 p2 p3) : z_Run rm_M_cameFrom zm_M_cameFrom [z_r 78, .inl p1, .inl p2, .inl p3] (zW T' G' S n) (zq (some (.inl (F_M_cameFrom S p1 p2 p3))) (zW T' G' S n)) := by
  refine z_body (by decide) zf_M_ok (Nat.le_of_ble_eq_true rfl) (fun X M => ?_)
  obtain ⟨Q, hQ, K⟩ : ∃ Q : Int32 → Prop, (∀ v, Q v → zq (some (.inl (F_M_cameFrom S p1 p2 p3))) (zW T' G' S n) (some (.inl v)) (zW T' G' S n)) ∧ Q (F_M_cameFrom S p1 p2 p3) := ⟨fun o => F_M_cameFrom S p1 p2 p3 = o, fun v h => ⟨by rw [h], rfl⟩, rfl⟩
  show z_G X zm_M_cameFrom (0, [(0, z_r 78), (1, .inl p1), (2, .inl p2), (3, .inl p3)], [], zW T' G' S n, 0, 0)
  unfold F_M_cameFrom at K
  unfold Sf_M_cameFrom at hs
  refine z_go2 M.1 0 [(.iconst 0, 1), (.istore 4, 2), (.iconst 0, 1), (.istore 5, 2)] (6, [(5, .inl 0), (4, .inl 0), (0, z_r 78), (1, .inl p1), (2, .inl p2), (3, .inl p3)], [], zW T' G' S n, 0, 0) (by decide +kernel) rfl ⟨trivial, trivial, trivial, trivial, trivial⟩ ?_
  refine z_lvs (lv' := [(0, z_r 78), (1, .inl p1), (2, .inl p2), (3, .inl p3), (4, .inl 0), (5, .inl 0)]) [2, 3, 4, 5, 1, 0] rfl ?_
  refine t_M_cameFrom_L6 M (Q := fun o => F_M_cameFrom_L6 S p1 p2 p3 1300 0 0 = o) S p1 p2 p3 (fun y4_6 hL6 => ?_) 1300 0 0 rfl hs.1
  replace hs := hs.2
  rw [hL6] at K
  try rw [hL6] at hs
  try dsimp only at K hs
  refine z_go2 M.1 85 [(.iload 4, 2)] (87, [(4, .inl y4_6)], [.inl y4_6], zW T' G' S n, 0, 0) (by decide +kernel) rfl ⟨trivial, trivial⟩ ?_
  exact z_iret M (by decide +kernel) .boolean rfl hs.1 (by decide) (by decide) (hQ _ K)

-- TrackHouseModel.wasOf
abbrev rm_M_wasOf : Room := zr 1
def F_M_wasOf_l6_55 (rc : Int32 → Int32 → (Int32)) (S : (Nat → Nat → Int32)) (x1 : Int32) (x2 : Int32) (x3 : Int32) (x5 : Int32) : (Int32) := (rc 1 (x5 + 1))
def Sf_M_wasOf_l6_55 (rc : Int32 → Int32 → (Int32)) (sr : Int32 → Int32 → Prop) (S : (Nat → Nat → Int32)) (x1 : Int32) (x2 : Int32) (x3 : Int32) (x5 : Int32) : Prop := (sr 1 (x5 + 1))
theorem t_M_wasOf_l6_55 {X : z_X} {Post : Option z_V → z_W → Prop} (M : z_M X zm_M_wasOf rm_M_wasOf Post) {T' : Nat → Nat × Nat} {G' : Nat → Nat → Option Nat} {n : Nat} {Q : (Int32) → Prop} (rc : Int32 → Int32 → (Int32)) (sr : Int32 → Int32 → Prop) (S : (Nat → Nat → Int32)) (x1 : Int32) (x2 : Int32) (x3 : Int32) (x5 : Int32) (hE : ∀ (y4 : Int32), Q y4 → z_G X zm_M_wasOf (68, [(4, .inl y4)], [], zW T' G' S n, 0, 0)) (hC : ∀ (x4 : Int32) (x5 : Int32), Q (rc x4 x5) → sr x4 x5 → z_G X zm_M_wasOf (6, [(0, z_r 78), (1, .inl x1), (2, .inl x2), (3, .inl x3), (4, .inl x4), (5, .inl x5)], [], zW T' G' S n, 0, 0)) (K : Q (F_M_wasOf_l6_55 rc S x1 x2 x3 x5)) (hs : Sf_M_wasOf_l6_55 rc sr S x1 x2 x3 x5) : z_G X zm_M_wasOf (55, [(0, z_r 78), (1, .inl x1), (2, .inl x2), (3, .inl x3), (5, .inl x5)], [], zW T' G' S n, 0, 0) := by
  unfold F_M_wasOf_l6_55 at K
  unfold Sf_M_wasOf_l6_55 at hs
  refine z_go2 M.1 55 [(.iconst 1, 1), (.goto 4, 3), (.istore 4, 2), (.iinc 5 1, 3), (.goto (-59), 3)] (6, [(5, .inl (x5 + 1)), (4, .inl 1), (0, z_r 78), (1, .inl x1), (2, .inl x2), (3, .inl x3)], [], zW T' G' S n, 0, 0) (by decide +kernel) rfl ⟨trivial, trivial, trivial, trivial, trivial, trivial⟩ ?_
  exact z_lvs (lv' := [(0, z_r 78), (1, .inl x1), (2, .inl x2), (3, .inl x3), (4, .inl 1), (5, .inl (x5 + 1))]) [2, 3, 4, 5, 1, 0] rfl (hC 1 (x5 + 1) K hs)
def F_M_wasOf_l6_59 (rc : Int32 → Int32 → (Int32)) (S : (Nat → Nat → Int32)) (x1 : Int32) (x2 : Int32) (x3 : Int32) (x5 : Int32) : (Int32) := (rc 0 (x5 + 1))
def Sf_M_wasOf_l6_59 (rc : Int32 → Int32 → (Int32)) (sr : Int32 → Int32 → Prop) (S : (Nat → Nat → Int32)) (x1 : Int32) (x2 : Int32) (x3 : Int32) (x5 : Int32) : Prop := (sr 0 (x5 + 1))
theorem t_M_wasOf_l6_59 {X : z_X} {Post : Option z_V → z_W → Prop} (M : z_M X zm_M_wasOf rm_M_wasOf Post) {T' : Nat → Nat × Nat} {G' : Nat → Nat → Option Nat} {n : Nat} {Q : (Int32) → Prop} (rc : Int32 → Int32 → (Int32)) (sr : Int32 → Int32 → Prop) (S : (Nat → Nat → Int32)) (x1 : Int32) (x2 : Int32) (x3 : Int32) (x5 : Int32) (hE : ∀ (y4 : Int32), Q y4 → z_G X zm_M_wasOf (68, [(4, .inl y4)], [], zW T' G' S n, 0, 0)) (hC : ∀ (x4 : Int32) (x5 : Int32), Q (rc x4 x5) → sr x4 x5 → z_G X zm_M_wasOf (6, [(0, z_r 78), (1, .inl x1), (2, .inl x2), (3, .inl x3), (4, .inl x4), (5, .inl x5)], [], zW T' G' S n, 0, 0)) (K : Q (F_M_wasOf_l6_59 rc S x1 x2 x3 x5)) (hs : Sf_M_wasOf_l6_59 rc sr S x1 x2 x3 x5) : z_G X zm_M_wasOf (59, [(0, z_r 78), (1, .inl x1), (2, .inl x2), (3, .inl x3), (5, .inl x5)], [], zW T' G' S n, 0, 0) := by
  unfold F_M_wasOf_l6_59 at K
  unfold Sf_M_wasOf_l6_59 at hs
  refine z_go2 M.1 59 [(.iconst 0, 1), (.istore 4, 2), (.iinc 5 1, 3), (.goto (-59), 3)] (6, [(5, .inl (x5 + 1)), (4, .inl 0), (0, z_r 78), (1, .inl x1), (2, .inl x2), (3, .inl x3)], [], zW T' G' S n, 0, 0) (by decide +kernel) rfl ⟨trivial, trivial, trivial, trivial, trivial⟩ ?_
  exact z_lvs (lv' := [(0, z_r 78), (1, .inl x1), (2, .inl x2), (3, .inl x3), (4, .inl 0), (5, .inl (x5 + 1))]) [2, 3, 4, 5, 1, 0] rfl (hC 0 (x5 + 1) K hs)
def F_M_wasOf_L6 (S : (Nat → Nat → Int32)) (x1 : Int32) (x2 : Int32) (x3 : Int32) : Nat → Int32 → Int32 → (Int32)
  | 0, x4, x5 => x4
  | f + 1, x4, x5 => (if (S 78 13) ≤ x5 then x4 else (if x4 = 0 then (if (F_M_isAbout S (S 122 (x5).toNatClampNeg) x1) = 0 then (F_M_wasOf_l6_59 (F_M_wasOf_L6 S x1 x2 x3 f) S x1 x2 x3 x5) else (if (F_M_isIn S (S 80 (S 122 (x5).toNatClampNeg).toNatClampNeg) x2 x3) = 0 then (F_M_wasOf_l6_59 (F_M_wasOf_L6 S x1 x2 x3 f) S x1 x2 x3 x5) else (F_M_wasOf_l6_55 (F_M_wasOf_L6 S x1 x2 x3 f) S x1 x2 x3 x5))) else (F_M_wasOf_l6_55 (F_M_wasOf_L6 S x1 x2 x3 f) S x1 x2 x3 x5)))
def Sf_M_wasOf_L6 (S : (Nat → Nat → Int32)) (x1 : Int32) (x2 : Int32) (x3 : Int32) : Nat → Int32 → Int32 → Prop
  | 0, _, _ => False
  | f + 1, x4, x5 => (if (S 78 13) ≤ x5 then True else (if x4 = 0 then ((vp_in x5 1200) ∧ (Sf_M_isAbout S (S 122 (x5).toNatClampNeg) x1 ∧ (if (F_M_isAbout S (S 122 (x5).toNatClampNeg) x1) = 0 then (Sf_M_wasOf_l6_59 (F_M_wasOf_L6 S x1 x2 x3 f) (Sf_M_wasOf_L6 S x1 x2 x3 f) S x1 x2 x3 x5) else ((vp_in x5 1200) ∧ ((vp_in (S 122 (x5).toNatClampNeg) 1200) ∧ (if (F_M_isIn S (S 80 (S 122 (x5).toNatClampNeg).toNatClampNeg) x2 x3) = 0 then (Sf_M_wasOf_l6_59 (F_M_wasOf_L6 S x1 x2 x3 f) (Sf_M_wasOf_L6 S x1 x2 x3 f) S x1 x2 x3 x5) else (Sf_M_wasOf_l6_55 (F_M_wasOf_L6 S x1 x2 x3 f) (Sf_M_wasOf_L6 S x1 x2 x3 f) S x1 x2 x3 x5))))))) else (Sf_M_wasOf_l6_55 (F_M_wasOf_L6 S x1 x2 x3 f) (Sf_M_wasOf_L6 S x1 x2 x3 f) S x1 x2 x3 x5)))
theorem t_M_wasOf_L6 {X : z_X} {Post : Option z_V → z_W → Prop} (M : z_M X zm_M_wasOf rm_M_wasOf Post) {T' : Nat → Nat × Nat} {G' : Nat → Nat → Option Nat} {n : Nat} {Q : (Int32) → Prop} (S : (Nat → Nat → Int32))  (x1 : Int32) (x2 : Int32) (x3 : Int32) (hE : ∀ (y4 : Int32), Q y4 → z_G X zm_M_wasOf (68, [(4, .inl y4)], [], zW T' G' S n, 0, 0)) (f : Nat) : ∀ (x4 : Int32) (x5 : Int32), Q (F_M_wasOf_L6 S x1 x2 x3 f x4 x5) → Sf_M_wasOf_L6 S x1 x2 x3 f x4 x5 → z_G X zm_M_wasOf (6, [(0, z_r 78), (1, .inl x1), (2, .inl x2), (3, .inl x3), (4, .inl x4), (5, .inl x5)], [], zW T' G' S n, 0, 0) := by
  induction f with
  | zero => intro x4 x5 K hs; exact False.elim hs
  | succ f hC =>
    intro x4 x5 K hs
    rw [F_M_wasOf_L6] at K
    rw [Sf_M_wasOf_L6] at hs
    refine z_go2 M.1 6 [(.iload 5, 2), (.aload_n 0, 1), (.getfield 419, 3)] (12, [(0, z_r 78), (1, .inl x1), (2, .inl x2), (3, .inl x3), (4, .inl x4), (5, .inl x5)], [.inl (S 78 13), .inl x5], zW T' G' S n, 0, 0) (by decide +kernel) rfl ⟨trivial, trivial, rfl, trivial⟩ ?_
    refine z_icmp_ge 68 M.1 (off := 56) (by decide +kernel) (by decide) (fun c12 => ?_) (fun c12 => ?_)
    · rw [if_pos c12] at K hs
      exact z_lvs (lv' := [(4, .inl x4)]) [4] rfl (hE x4 K)
    · rw [if_neg c12] at K hs
      refine z_go2 M.1 15 [(.iload 4, 2)] (17, [(0, z_r 78), (1, .inl x1), (2, .inl x2), (3, .inl x3), (4, .inl x4), (5, .inl x5)], [.inl x4], zW T' G' S n, 0, 0) (by decide +kernel) rfl ⟨trivial, trivial⟩ ?_
      refine z_if_ne 55 M.1 (off := 38) (by decide +kernel) (by decide) (fun c17 => ?_) (fun c17 => ?_)
      · rw [if_neg c17] at K hs
        exact z_lvs (lv' := [(0, z_r 78), (1, .inl x1), (2, .inl x2), (3, .inl x3), (5, .inl x5)]) [0, 1, 2, 3, 5] rfl (t_M_wasOf_l6_55 M (F_M_wasOf_L6 S x1 x2 x3 f) (Sf_M_wasOf_L6 S x1 x2 x3 f) S x1 x2 x3 x5 hE hC K hs)
      · rw [if_pos c17] at K hs
        refine z_go2 M.1 20 [(.aload_n 0, 1), (.aload_n 0, 1), (.getfield 44, 3), (.iload 5, 2), (.iaload, 1), (.iload_n 1, 1)] (29, [(0, z_r 78), (1, .inl x1), (2, .inl x2), (3, .inl x3), (4, .inl x4), (5, .inl x5)], [.inl x1, .inl (S 122 (x5).toNatClampNeg), z_r 78], zW T' G' S n, 0, 0) (by decide +kernel) rfl ⟨trivial, trivial, rfl, trivial, ⟨rfl, hs.1⟩, trivial, trivial⟩ ?_
        replace hs := hs.2
        refine z_callV M.1 (av := [.inl (S 122 (x5).toNatClampNeg), .inl x1]) (st := []) (a := 78) (ci := 14) (by decide +kernel) (c_M_isAbout T' G' S n (S 122 (x5).toNatClampNeg) x1 hs.1) M.2.1 zl_M_425 zv_M_isAbout rfl rfl rfl ⟨by decide, by decide, by decide, by decide⟩ rfl (Nat.le_of_ble_eq_true rfl) (fun v w' hv => ?_)
        obtain ⟨rfl, rfl⟩ := hv
        replace hs := hs.2
        show z_G X zm_M_wasOf (32, [(0, z_r 78), (1, .inl x1), (2, .inl x2), (3, .inl x3), (4, .inl x4), (5, .inl x5)], [.inl (F_M_isAbout S (S 122 (x5).toNatClampNeg) x1)], zW T' G' S n, 0, 0)
        refine z_if_eq 59 M.1 (off := 27) (by decide +kernel) (by decide) (fun c32 => ?_) (fun c32 => ?_)
        · rw [if_pos c32] at K hs
          exact z_lvs (lv' := [(0, z_r 78), (1, .inl x1), (2, .inl x2), (3, .inl x3), (5, .inl x5)]) [0, 1, 2, 3, 5] rfl (t_M_wasOf_l6_59 M (F_M_wasOf_L6 S x1 x2 x3 f) (Sf_M_wasOf_L6 S x1 x2 x3 f) S x1 x2 x3 x5 hE hC K hs)
        · rw [if_neg c32] at K hs
          refine z_go2 M.1 35 [(.aload_n 0, 1), (.getfield 13, 3), (.aload_n 0, 1), (.getfield 44, 3), (.iload 5, 2), (.iaload, 1), (.iaload, 1), (.iload_n 2, 1), (.iload_n 3, 1)] (49, [(0, z_r 78), (1, .inl x1), (2, .inl x2), (3, .inl x3), (4, .inl x4), (5, .inl x5)], [.inl x3, .inl x2, .inl (S 80 (S 122 (x5).toNatClampNeg).toNatClampNeg)], zW T' G' S n, 0, 0) (by decide +kernel) rfl ⟨trivial, rfl, trivial, rfl, trivial, ⟨rfl, hs.1⟩, ⟨rfl, hs.2.1⟩, trivial, trivial, trivial⟩ ?_
          replace hs := hs.2.2
          refine z_callS M.1 (av := [.inl (S 80 (S 122 (x5).toNatClampNeg).toNatClampNeg), .inl x2, .inl x3]) (st := []) (by decide +kernel) (c_M_isIn T' G' S n (S 80 (S 122 (x5).toNatClampNeg).toNatClampNeg) x2 x3) M.2.1 zl_M_178 zs_M_isIn ⟨by decide, by decide, by decide, by decide⟩ rfl (Nat.le_of_ble_eq_true rfl) (fun v w' hv => ?_)
          obtain ⟨rfl, rfl⟩ := hv
          show z_G X zm_M_wasOf (52, [(0, z_r 78), (1, .inl x1), (2, .inl x2), (3, .inl x3), (4, .inl x4), (5, .inl x5)], [.inl (F_M_isIn S (S 80 (S 122 (x5).toNatClampNeg).toNatClampNeg) x2 x3)], zW T' G' S n, 0, 0)
          refine z_if_eq 59 M.1 (off := 7) (by decide +kernel) (by decide) (fun c52 => ?_) (fun c52 => ?_)
          · rw [if_pos c52] at K hs
            exact z_lvs (lv' := [(0, z_r 78), (1, .inl x1), (2, .inl x2), (3, .inl x3), (5, .inl x5)]) [0, 1, 2, 3, 5] rfl (t_M_wasOf_l6_59 M (F_M_wasOf_L6 S x1 x2 x3 f) (Sf_M_wasOf_L6 S x1 x2 x3 f) S x1 x2 x3 x5 hE hC K hs)
          · rw [if_neg c52] at K hs
            exact z_lvs (lv' := [(0, z_r 78), (1, .inl x1), (2, .inl x2), (3, .inl x3), (5, .inl x5)]) [0, 1, 2, 3, 5] rfl (t_M_wasOf_l6_55 M (F_M_wasOf_L6 S x1 x2 x3 f) (Sf_M_wasOf_L6 S x1 x2 x3 f) S x1 x2 x3 x5 hE hC K hs)
def F_M_wasOf (S : (Nat → Nat → Int32)) (p1 : Int32) (p2 : Int32) (p3 : Int32) : Int32 := (match F_M_wasOf_L6 S p1 p2 p3 1300 0 0 with | y4_6 => y4_6)
def Sf_M_wasOf (S : (Nat → Nat → Int32)) (p1 : Int32) (p2 : Int32) (p3 : Int32) : Prop := (Sf_M_wasOf_L6 S p1 p2 p3 1300 0 0 ∧ (match F_M_wasOf_L6 S p1 p2 p3 1300 0 0 with | y4_6 => (narrow .boolean (.int y4_6) = .int y4_6 ∧ True)))
theorem c_M_wasOf (T' : Nat → Nat × Nat) (G' : Nat → Nat → Option Nat) (S : (Nat → Nat → Int32)) (n : Nat) (p1 : Int32) (p2 : Int32) (p3 : Int32) (hs : Sf_M_wasOf S p1 p2 p3) : z_Run rm_M_wasOf zm_M_wasOf [z_r 78, .inl p1, .inl p2, .inl p3] (zW T' G' S n) (zq (some (.inl (F_M_wasOf S p1 p2 p3))) (zW T' G' S n)) := by
  refine z_body (by decide) zf_M_ok (Nat.le_of_ble_eq_true rfl) (fun X M => ?_)
  obtain ⟨Q, hQ, K⟩ : ∃ Q : Int32 → Prop, (∀ v, Q v → zq (some (.inl (F_M_wasOf S p1 p2 p3))) (zW T' G' S n) (some (.inl v)) (zW T' G' S n)) ∧ Q (F_M_wasOf S p1 p2 p3) := ⟨fun o => F_M_wasOf S p1 p2 p3 = o, fun v h => ⟨by rw [h], rfl⟩, rfl⟩
  show z_G X zm_M_wasOf (0, [(0, z_r 78), (1, .inl p1), (2, .inl p2), (3, .inl p3)], [], zW T' G' S n, 0, 0)
  unfold F_M_wasOf at K
  unfold Sf_M_wasOf at hs
  refine z_go2 M.1 0 [(.iconst 0, 1), (.istore 4, 2), (.iconst 0, 1), (.istore 5, 2)] (6, [(5, .inl 0), (4, .inl 0), (0, z_r 78), (1, .inl p1), (2, .inl p2), (3, .inl p3)], [], zW T' G' S n, 0, 0) (by decide +kernel) rfl ⟨trivial, trivial, trivial, trivial, trivial⟩ ?_
  refine z_lvs (lv' := [(0, z_r 78), (1, .inl p1), (2, .inl p2), (3, .inl p3), (4, .inl 0), (5, .inl 0)]) [2, 3, 4, 5, 1, 0] rfl ?_
  refine t_M_wasOf_L6 M (Q := fun o => F_M_wasOf_L6 S p1 p2 p3 1300 0 0 = o) S p1 p2 p3 (fun y4_6 hL6 => ?_) 1300 0 0 rfl hs.1
  replace hs := hs.2
  rw [hL6] at K
  try rw [hL6] at hs
  try dsimp only at K hs
  refine z_go2 M.1 68 [(.iload 4, 2)] (70, [(4, .inl y4_6)], [.inl y4_6], zW T' G' S n, 0, 0) (by decide +kernel) rfl ⟨trivial, trivial⟩ ?_
  exact z_iret M (by decide +kernel) .boolean rfl hs.1 (by decide) (by decide) (hQ _ K)

-- TrackHouseModel.lastBy
abbrev rm_M_lastBy : Room := zr 1
def F_M_lastBy_L4 (S : (Nat → Nat → Int32)) (x1 : Int32) : Nat → Int32 → Int32 → (Int32)
  | 0, x2, x3 => x2
  | f + 1, x2, x3 => (if (S 78 13) ≤ x3 then x2 else (if (F_M_isAbout S (S 122 (x3).toNatClampNeg) x1) = 0 then ((F_M_lastBy_L4 S x1 f) x2 (x3 + 1)) else ((F_M_lastBy_L4 S x1 f) (S 81 (S 122 (x3).toNatClampNeg).toNatClampNeg) (x3 + 1))))
def Sf_M_lastBy_L4 (S : (Nat → Nat → Int32)) (x1 : Int32) : Nat → Int32 → Int32 → Prop
  | 0, _, _ => False
  | f + 1, x2, x3 => (if (S 78 13) ≤ x3 then True else ((vp_in x3 1200) ∧ (Sf_M_isAbout S (S 122 (x3).toNatClampNeg) x1 ∧ (if (F_M_isAbout S (S 122 (x3).toNatClampNeg) x1) = 0 then ((Sf_M_lastBy_L4 S x1 f) x2 (x3 + 1)) else ((vp_in x3 1200) ∧ ((vp_in (S 122 (x3).toNatClampNeg) 1200) ∧ ((Sf_M_lastBy_L4 S x1 f) (S 81 (S 122 (x3).toNatClampNeg).toNatClampNeg) (x3 + 1))))))))
theorem t_M_lastBy_L4 {X : z_X} {Post : Option z_V → z_W → Prop} (M : z_M X zm_M_lastBy rm_M_lastBy Post) {T' : Nat → Nat × Nat} {G' : Nat → Nat → Option Nat} {n : Nat} {Q : (Int32) → Prop} (S : (Nat → Nat → Int32))  (x1 : Int32) (hE : ∀ (y2 : Int32), Q y2 → z_G X zm_M_lastBy (48, [(2, .inl y2)], [], zW T' G' S n, 0, 0)) (f : Nat) : ∀ (x2 : Int32) (x3 : Int32), Q (F_M_lastBy_L4 S x1 f x2 x3) → Sf_M_lastBy_L4 S x1 f x2 x3 → z_G X zm_M_lastBy (4, [(0, z_r 78), (1, .inl x1), (2, .inl x2), (3, .inl x3)], [], zW T' G' S n, 0, 0) := by
  induction f with
  | zero => intro x2 x3 K hs; exact False.elim hs
  | succ f hC =>
    intro x2 x3 K hs
    rw [F_M_lastBy_L4] at K
    rw [Sf_M_lastBy_L4] at hs
    refine z_go2 M.1 4 [(.iload_n 3, 1), (.aload_n 0, 1), (.getfield 419, 3)] (9, [(0, z_r 78), (1, .inl x1), (2, .inl x2), (3, .inl x3)], [.inl (S 78 13), .inl x3], zW T' G' S n, 0, 0) (by decide +kernel) rfl ⟨trivial, trivial, rfl, trivial⟩ ?_
    refine z_icmp_ge 48 M.1 (off := 39) (by decide +kernel) (by decide) (fun c9 => ?_) (fun c9 => ?_)
    · rw [if_pos c9] at K hs
      exact z_lvs (lv' := [(2, .inl x2)]) [2] rfl (hE x2 K)
    · rw [if_neg c9] at K hs
      refine z_go2 M.1 12 [(.aload_n 0, 1), (.aload_n 0, 1), (.getfield 44, 3), (.iload_n 3, 1), (.iaload, 1), (.iload_n 1, 1)] (20, [(0, z_r 78), (1, .inl x1), (2, .inl x2), (3, .inl x3)], [.inl x1, .inl (S 122 (x3).toNatClampNeg), z_r 78], zW T' G' S n, 0, 0) (by decide +kernel) rfl ⟨trivial, trivial, rfl, trivial, ⟨rfl, hs.1⟩, trivial, trivial⟩ ?_
      replace hs := hs.2
      refine z_callV M.1 (av := [.inl (S 122 (x3).toNatClampNeg), .inl x1]) (st := []) (a := 78) (ci := 14) (by decide +kernel) (c_M_isAbout T' G' S n (S 122 (x3).toNatClampNeg) x1 hs.1) M.2.1 zl_M_425 zv_M_isAbout rfl rfl rfl ⟨by decide, by decide, by decide, by decide⟩ rfl (Nat.le_of_ble_eq_true rfl) (fun v w' hv => ?_)
      obtain ⟨rfl, rfl⟩ := hv
      replace hs := hs.2
      show z_G X zm_M_lastBy (23, [(0, z_r 78), (1, .inl x1), (2, .inl x2), (3, .inl x3)], [.inl (F_M_isAbout S (S 122 (x3).toNatClampNeg) x1)], zW T' G' S n, 0, 0)
      refine z_if_eq 40 M.1 (off := 17) (by decide +kernel) (by decide) (fun c23 => ?_) (fun c23 => ?_)
      · rw [if_pos c23] at K hs
        refine z_go2 M.1 40 [(.iload_n 2, 1), (.istore_n 2, 1), (.iinc 3 1, 3), (.goto (-41), 3)] (4, [(3, .inl (x3 + 1)), (2, .inl x2), (0, z_r 78), (1, .inl x1)], [], zW T' G' S n, 0, 0) (by decide +kernel) rfl ⟨trivial, trivial, trivial, trivial, trivial⟩ ?_
        exact z_lvs (lv' := [(0, z_r 78), (1, .inl x1), (2, .inl x2), (3, .inl (x3 + 1))]) [2, 3, 1, 0] rfl (hC x2 (x3 + 1) K hs)
      · rw [if_neg c23] at K hs
        refine z_go2 M.1 26 [(.aload_n 0, 1), (.getfield 16, 3), (.aload_n 0, 1), (.getfield 44, 3), (.iload_n 3, 1), (.iaload, 1), (.iaload, 1), (.goto 4, 3), (.istore_n 2, 1), (.iinc 3 1, 3), (.goto (-41), 3)] (4, [(3, .inl (x3 + 1)), (2, .inl (S 81 (S 122 (x3).toNatClampNeg).toNatClampNeg)), (0, z_r 78), (1, .inl x1)], [], zW T' G' S n, 0, 0) (by decide +kernel) rfl ⟨trivial, rfl, trivial, rfl, trivial, ⟨rfl, hs.1⟩, ⟨rfl, hs.2.1⟩, trivial, trivial, trivial, trivial, trivial⟩ ?_
        replace hs := hs.2.2
        exact z_lvs (lv' := [(0, z_r 78), (1, .inl x1), (2, .inl (S 81 (S 122 (x3).toNatClampNeg).toNatClampNeg)), (3, .inl (x3 + 1))]) [2, 3, 1, 0] rfl (hC (S 81 (S 122 (x3).toNatClampNeg).toNatClampNeg) (x3 + 1) K hs)
def F_M_lastBy (S : (Nat → Nat → Int32)) (p1 : Int32) : Int32 := (match F_M_lastBy_L4 S p1 1300 (-1) 0 with | y2_4 => y2_4)
def Sf_M_lastBy (S : (Nat → Nat → Int32)) (p1 : Int32) : Prop := (Sf_M_lastBy_L4 S p1 1300 (-1) 0 ∧ True)
theorem c_M_lastBy (T' : Nat → Nat × Nat) (G' : Nat → Nat → Option Nat) (S : (Nat → Nat → Int32)) (n : Nat) (p1 : Int32) (hs : Sf_M_lastBy S p1) : z_Run rm_M_lastBy zm_M_lastBy [z_r 78, .inl p1] (zW T' G' S n) (zq (some (.inl (F_M_lastBy S p1))) (zW T' G' S n)) := by
  refine z_body (by decide) zf_M_ok (Nat.le_of_ble_eq_true rfl) (fun X M => ?_)
  obtain ⟨Q, hQ, K⟩ : ∃ Q : Int32 → Prop, (∀ v, Q v → zq (some (.inl (F_M_lastBy S p1))) (zW T' G' S n) (some (.inl v)) (zW T' G' S n)) ∧ Q (F_M_lastBy S p1) := ⟨fun o => F_M_lastBy S p1 = o, fun v h => ⟨by rw [h], rfl⟩, rfl⟩
  show z_G X zm_M_lastBy (0, [(0, z_r 78), (1, .inl p1)], [], zW T' G' S n, 0, 0)
  unfold F_M_lastBy at K
  unfold Sf_M_lastBy at hs
  refine z_go2 M.1 0 [(.iconst (-1), 1), (.istore_n 2, 1), (.iconst 0, 1), (.istore_n 3, 1)] (4, [(3, .inl 0), (2, .inl (-1)), (0, z_r 78), (1, .inl p1)], [], zW T' G' S n, 0, 0) (by decide +kernel) rfl ⟨trivial, trivial, trivial, trivial, trivial⟩ ?_
  refine z_lvs (lv' := [(0, z_r 78), (1, .inl p1), (2, .inl (-1)), (3, .inl 0)]) [2, 3, 1, 0] rfl ?_
  refine t_M_lastBy_L4 M (Q := fun o => F_M_lastBy_L4 S p1 1300 (-1) 0 = o) S p1 (fun y2_4 hL4 => ?_) 1300 (-1) 0 rfl hs.1
  replace hs := hs.2
  rw [hL4] at K
  try dsimp only at K
  refine z_go2 M.1 48 [(.iload_n 2, 1)] (49, [(2, .inl y2_4)], [.inl y2_4], zW T' G' S n, 0, 0) (by decide +kernel) rfl ⟨trivial, trivial⟩ ?_
  exact z_iret M (by decide +kernel) .int rfl rfl (by decide) (by decide) (hQ _ K)

-- TrackHouseModel.compared
abbrev rm_M_compared : Room := zr 5
def F_M_compared_j108 (S : (Nat → Nat → Int32)) : Int32 := 0
theorem t_M_compared_j108 {X : z_X} {Post : Option z_V → z_W → Prop} (M : z_M X zm_M_compared rm_M_compared Post) {T' : Nat → Nat × Nat} {G' : Nat → Nat → Option Nat} {n : Nat} {Q : Int32 → Prop} (S : (Nat → Nat → Int32)) (hQ : ∀ v, Q v → Post (some (.inl v)) (zW T' G' S n)) (K : Q (F_M_compared_j108 S)) : z_G X zm_M_compared (108, [], [], zW T' G' S n, 0, 0) := by
  unfold F_M_compared_j108 at K
  refine z_go2 M.1 108 [(.iconst 0, 1)] (109, [], [.inl 0], zW T' G' S n, 0, 0) (by decide +kernel) rfl ⟨trivial, trivial⟩ ?_
  exact z_iret M (by decide +kernel) .boolean rfl rfl (by decide) (by decide) (hQ _ K)
def F_M_compared_j104 (S : (Nat → Nat → Int32)) : Int32 := 1
theorem t_M_compared_j104 {X : z_X} {Post : Option z_V → z_W → Prop} (M : z_M X zm_M_compared rm_M_compared Post) {T' : Nat → Nat × Nat} {G' : Nat → Nat → Option Nat} {n : Nat} {Q : Int32 → Prop} (S : (Nat → Nat → Int32)) (hQ : ∀ v, Q v → Post (some (.inl v)) (zW T' G' S n)) (K : Q (F_M_compared_j104 S)) : z_G X zm_M_compared (104, [], [], zW T' G' S n, 0, 0) := by
  unfold F_M_compared_j104 at K
  refine z_go2 M.1 104 [(.iconst 1, 1), (.goto 4, 3)] (109, [], [.inl 1], zW T' G' S n, 0, 0) (by decide +kernel) rfl ⟨trivial, trivial, trivial⟩ ?_
  exact z_iret M (by decide +kernel) .boolean rfl rfl (by decide) (by decide) (hQ _ K)
def F_M_compared (S : (Nat → Nat → Int32)) (p1 : Int32) (p2 : Int32) (p3 : Int32) : Int32 := (if (S 189 (p1).toNatClampNeg) = 120 then (if (F_M_valueFor 98 S p2 p3 (S 187 (p1).toNatClampNeg)) = (-1) then 1 else 0) else (if (F_M_valueFor 98 S p2 p3 (S 187 (p1).toNatClampNeg)) = (-1) then (F_M_compared_j108 S) else (if (S 189 (p1).toNatClampNeg) = 62 then (if (F_M_valueFor 98 S p2 p3 (S 187 (p1).toNatClampNeg)) ≤ (S 188 (p1).toNatClampNeg) then (F_M_compared_j108 S) else (F_M_compared_j104 S)) else (if (S 189 (p1).toNatClampNeg) = 60 then (if (S 188 (p1).toNatClampNeg) ≤ (F_M_valueFor 98 S p2 p3 (S 187 (p1).toNatClampNeg)) then (F_M_compared_j108 S) else (F_M_compared_j104 S)) else (if (F_M_valueFor 98 S p2 p3 (S 187 (p1).toNatClampNeg)) = (S 188 (p1).toNatClampNeg) then (F_M_compared_j104 S) else (F_M_compared_j108 S))))))
def Sf_M_compared (S : (Nat → Nat → Int32)) (p1 : Int32) (p2 : Int32) (p3 : Int32) : Prop := ((vp_in p1 31) ∧ (Sf_M_valueFor 98 S p2 p3 (S 187 (p1).toNatClampNeg) ∧ ((vp_in p1 31) ∧ (if (S 189 (p1).toNatClampNeg) = 120 then True else ((vp_in p1 31) ∧ (if (F_M_valueFor 98 S p2 p3 (S 187 (p1).toNatClampNeg)) = (-1) then True else ((vp_in p1 31) ∧ (if (S 189 (p1).toNatClampNeg) = 62 then True else ((vp_in p1 31) ∧ True)))))))))
theorem c_M_compared (T' : Nat → Nat × Nat) (G' : Nat → Nat → Option Nat) (S : (Nat → Nat → Int32)) (n : Nat) (p1 : Int32) (p2 : Int32) (p3 : Int32) (hs : Sf_M_compared S p1 p2 p3) : z_Run rm_M_compared zm_M_compared [z_r 78, .inl p1, .inl p2, .inl p3] (zW T' G' S n) (zq (some (.inl (F_M_compared S p1 p2 p3))) (zW T' G' S n)) := by
  refine z_body (by decide) zf_M_ok (Nat.le_of_ble_eq_true rfl) (fun X M => ?_)
  obtain ⟨Q, hQ, K⟩ : ∃ Q : Int32 → Prop, (∀ v, Q v → zq (some (.inl (F_M_compared S p1 p2 p3))) (zW T' G' S n) (some (.inl v)) (zW T' G' S n)) ∧ Q (F_M_compared S p1 p2 p3) := ⟨fun o => F_M_compared S p1 p2 p3 = o, fun v h => ⟨by rw [h], rfl⟩, rfl⟩
  show z_G X zm_M_compared (0, [(0, z_r 78), (1, .inl p1), (2, .inl p2), (3, .inl p3)], [], zW T' G' S n, 0, 0)
  unfold F_M_compared at K
  unfold Sf_M_compared at hs
  refine z_go2 M.1 0 [(.aload_n 0, 1), (.aload_n 0, 1), (.getfield 38, 3), (.iload_n 2, 1), (.iload_n 3, 1), (.aload_n 0, 1), (.getfield 157, 3), (.iload_n 1, 1), (.iaload, 1)] (13, [(0, z_r 78), (1, .inl p1), (2, .inl p2), (3, .inl p3)], [.inl (S 187 (p1).toNatClampNeg), .inl p3, .inl p2, z_r 98, z_r 78], zW T' G' S n, 0, 0) (by decide +kernel) rfl ⟨trivial, trivial, rfl, trivial, trivial, trivial, rfl, trivial, ⟨rfl, hs.1⟩, trivial⟩ ?_
  replace hs := hs.2
  refine z_callV M.1 (av := [z_r 98, .inl p2, .inl p3, .inl (S 187 (p1).toNatClampNeg)]) (st := []) (a := 78) (ci := 14) (by decide +kernel) (c_M_valueFor_98 T' G' S n p2 p3 (S 187 (p1).toNatClampNeg) hs.1) M.2.1 zl_M_428 zv_M_valueFor rfl rfl rfl ⟨by decide, by decide, by decide, by decide⟩ rfl (Nat.le_of_ble_eq_true rfl) (fun v w' hv => ?_)
  obtain ⟨rfl, rfl⟩ := hv
  replace hs := hs.2
  show z_G X zm_M_compared (16, [(0, z_r 78), (1, .inl p1), (2, .inl p2), (3, .inl p3)], [.inl (F_M_valueFor 98 S p2 p3 (S 187 (p1).toNatClampNeg))], zW T' G' S n, 0, 0)
  refine z_go2 M.1 16 [(.istore 4, 2), (.aload_n 0, 1), (.getfield 163, 3), (.iload_n 1, 1), (.iaload, 1), (.bipush 120, 2)] (26, [(4, .inl (F_M_valueFor 98 S p2 p3 (S 187 (p1).toNatClampNeg))), (0, z_r 78), (1, .inl p1), (2, .inl p2), (3, .inl p3)], [.inl 120, .inl (S 189 (p1).toNatClampNeg)], zW T' G' S n, 0, 0) (by decide +kernel) rfl ⟨trivial, trivial, rfl, trivial, ⟨rfl, hs.1⟩, trivial, trivial⟩ ?_
  replace hs := hs.2
  refine z_icmp_ne 41 M.1 (off := 15) (by decide +kernel) (by decide) (fun c26 => ?_) (fun c26 => ?_)
  · rw [if_neg c26] at K hs
    refine z_go2 M.1 41 [(.aload_n 0, 1), (.getfield 160, 3), (.iload_n 1, 1), (.iaload, 1), (.istore 5, 2), (.iload 4, 2), (.iconst (-1), 1)] (52, [(5, .inl (S 188 (p1).toNatClampNeg)), (4, .inl (F_M_valueFor 98 S p2 p3 (S 187 (p1).toNatClampNeg))), (0, z_r 78), (1, .inl p1), (2, .inl p2), (3, .inl p3)], [.inl (-1), .inl (F_M_valueFor 98 S p2 p3 (S 187 (p1).toNatClampNeg))], zW T' G' S n, 0, 0) (by decide +kernel) rfl ⟨trivial, rfl, trivial, ⟨rfl, hs.1⟩, trivial, trivial, trivial, trivial⟩ ?_
    replace hs := hs.2
    refine z_icmp_eq 108 M.1 (off := 56) (by decide +kernel) (by decide) (fun c52 => ?_) (fun c52 => ?_)
    · rw [if_pos c52] at K hs
      exact z_lvs (lv' := []) [] rfl (t_M_compared_j108 M S hQ K)
    · rw [if_neg c52] at K hs
      refine z_go2 M.1 55 [(.aload_n 0, 1), (.getfield 163, 3), (.iload_n 1, 1), (.iaload, 1), (.bipush 62, 2)] (63, [(5, .inl (S 188 (p1).toNatClampNeg)), (4, .inl (F_M_valueFor 98 S p2 p3 (S 187 (p1).toNatClampNeg))), (0, z_r 78), (1, .inl p1), (2, .inl p2), (3, .inl p3)], [.inl 62, .inl (S 189 (p1).toNatClampNeg)], zW T' G' S n, 0, 0) (by decide +kernel) rfl ⟨trivial, rfl, trivial, ⟨rfl, hs.1⟩, trivial, trivial⟩ ?_
      replace hs := hs.2
      refine z_icmp_ne 76 M.1 (off := 13) (by decide +kernel) (by decide) (fun c63 => ?_) (fun c63 => ?_)
      · rw [if_neg c63] at K hs
        refine z_go2 M.1 76 [(.aload_n 0, 1), (.getfield 163, 3), (.iload_n 1, 1), (.iaload, 1), (.bipush 60, 2)] (84, [(5, .inl (S 188 (p1).toNatClampNeg)), (4, .inl (F_M_valueFor 98 S p2 p3 (S 187 (p1).toNatClampNeg))), (0, z_r 78), (1, .inl p1), (2, .inl p2), (3, .inl p3)], [.inl 60, .inl (S 189 (p1).toNatClampNeg)], zW T' G' S n, 0, 0) (by decide +kernel) rfl ⟨trivial, rfl, trivial, ⟨rfl, hs.1⟩, trivial, trivial⟩ ?_
        replace hs := hs.2
        refine z_icmp_ne 97 M.1 (off := 13) (by decide +kernel) (by decide) (fun c84 => ?_) (fun c84 => ?_)
        · rw [if_neg c84] at K
          refine z_go2 M.1 97 [(.iload 4, 2), (.iload 5, 2)] (101, [(5, .inl (S 188 (p1).toNatClampNeg)), (4, .inl (F_M_valueFor 98 S p2 p3 (S 187 (p1).toNatClampNeg))), (0, z_r 78), (1, .inl p1), (2, .inl p2), (3, .inl p3)], [.inl (S 188 (p1).toNatClampNeg), .inl (F_M_valueFor 98 S p2 p3 (S 187 (p1).toNatClampNeg))], zW T' G' S n, 0, 0) (by decide +kernel) rfl ⟨trivial, trivial, trivial⟩ ?_
          refine z_icmp_ne 108 M.1 (off := 7) (by decide +kernel) (by decide) (fun c101 => ?_) (fun c101 => ?_)
          · rw [if_neg c101] at K
            exact z_lvs (lv' := []) [] rfl (t_M_compared_j108 M S hQ K)
          · rw [if_pos c101] at K
            exact z_lvs (lv' := []) [] rfl (t_M_compared_j104 M S hQ K)
        · rw [if_pos c84] at K
          refine z_go2 M.1 87 [(.iload 4, 2), (.iload 5, 2)] (91, [(5, .inl (S 188 (p1).toNatClampNeg)), (4, .inl (F_M_valueFor 98 S p2 p3 (S 187 (p1).toNatClampNeg))), (0, z_r 78), (1, .inl p1), (2, .inl p2), (3, .inl p3)], [.inl (S 188 (p1).toNatClampNeg), .inl (F_M_valueFor 98 S p2 p3 (S 187 (p1).toNatClampNeg))], zW T' G' S n, 0, 0) (by decide +kernel) rfl ⟨trivial, trivial, trivial⟩ ?_
          refine z_icmp_ge 108 M.1 (off := 17) (by decide +kernel) (by decide) (fun c91 => ?_) (fun c91 => ?_)
          · rw [if_pos c91] at K
            exact z_lvs (lv' := []) [] rfl (t_M_compared_j108 M S hQ K)
          · rw [if_neg c91] at K
            refine z_go2 M.1 94 [(.goto 10, 3)] (104, [(5, .inl (S 188 (p1).toNatClampNeg)), (4, .inl (F_M_valueFor 98 S p2 p3 (S 187 (p1).toNatClampNeg))), (0, z_r 78), (1, .inl p1), (2, .inl p2), (3, .inl p3)], [], zW T' G' S n, 0, 0) (by decide +kernel) rfl ⟨trivial, trivial⟩ ?_
            exact z_lvs (lv' := []) [] rfl (t_M_compared_j104 M S hQ K)
      · rw [if_pos c63] at K hs
        refine z_go2 M.1 66 [(.iload 4, 2), (.iload 5, 2)] (70, [(5, .inl (S 188 (p1).toNatClampNeg)), (4, .inl (F_M_valueFor 98 S p2 p3 (S 187 (p1).toNatClampNeg))), (0, z_r 78), (1, .inl p1), (2, .inl p2), (3, .inl p3)], [.inl (S 188 (p1).toNatClampNeg), .inl (F_M_valueFor 98 S p2 p3 (S 187 (p1).toNatClampNeg))], zW T' G' S n, 0, 0) (by decide +kernel) rfl ⟨trivial, trivial, trivial⟩ ?_
        refine z_icmp_le 108 M.1 (off := 38) (by decide +kernel) (by decide) (fun c70 => ?_) (fun c70 => ?_)
        · rw [if_pos c70] at K
          exact z_lvs (lv' := []) [] rfl (t_M_compared_j108 M S hQ K)
        · rw [if_neg c70] at K
          refine z_go2 M.1 73 [(.goto 31, 3)] (104, [(5, .inl (S 188 (p1).toNatClampNeg)), (4, .inl (F_M_valueFor 98 S p2 p3 (S 187 (p1).toNatClampNeg))), (0, z_r 78), (1, .inl p1), (2, .inl p2), (3, .inl p3)], [], zW T' G' S n, 0, 0) (by decide +kernel) rfl ⟨trivial, trivial⟩ ?_
          exact z_lvs (lv' := []) [] rfl (t_M_compared_j104 M S hQ K)
  · rw [if_pos c26] at K hs
    refine z_go2 M.1 29 [(.iload 4, 2), (.iconst (-1), 1)] (32, [(4, .inl (F_M_valueFor 98 S p2 p3 (S 187 (p1).toNatClampNeg))), (0, z_r 78), (1, .inl p1), (2, .inl p2), (3, .inl p3)], [.inl (-1), .inl (F_M_valueFor 98 S p2 p3 (S 187 (p1).toNatClampNeg))], zW T' G' S n, 0, 0) (by decide +kernel) rfl ⟨trivial, trivial, trivial⟩ ?_
    refine z_icmp_ne 39 M.1 (off := 7) (by decide +kernel) (by decide) (fun c32 => ?_) (fun c32 => ?_)
    · rw [if_neg c32] at K
      refine z_go2 M.1 39 [(.iconst 0, 1)] (40, [(4, .inl (F_M_valueFor 98 S p2 p3 (S 187 (p1).toNatClampNeg))), (0, z_r 78), (1, .inl p1), (2, .inl p2), (3, .inl p3)], [.inl 0], zW T' G' S n, 0, 0) (by decide +kernel) rfl ⟨trivial, trivial⟩ ?_
      exact z_iret M (by decide +kernel) .boolean rfl rfl (by decide) (by decide) (hQ _ K)
    · rw [if_pos c32] at K
      refine z_go2 M.1 35 [(.iconst 1, 1), (.goto 4, 3)] (40, [(4, .inl (F_M_valueFor 98 S p2 p3 (S 187 (p1).toNatClampNeg))), (0, z_r 78), (1, .inl p1), (2, .inl p2), (3, .inl p3)], [.inl 1], zW T' G' S n, 0, 0) (by decide +kernel) rfl ⟨trivial, trivial, trivial⟩ ?_
      exact z_iret M (by decide +kernel) .boolean rfl rfl (by decide) (by decide) (hQ _ K)

-- TrackHouseModel.isNext
abbrev rm_M_isNext : Room := zr 1
def F_M_isNext (S : (Nat → Nat → Int32)) (p1 : Int32) (p2 : Int32) (p3 : Int32) : Int32 := (if (S 107 (p3).toNatClampNeg) = 0 then 0 else (if (S 186 (p1).toNatClampNeg) = 67 then (if (S 104 (p3).toNatClampNeg) = p2 then 1 else 0) else (if (S 186 (p1).toNatClampNeg) = 85 then (if (S 104 (p2).toNatClampNeg) = p3 then 1 else 0) else (if (S 186 (p1).toNatClampNeg) = 76 then (F_MW_isLinked 98 S (S 187 (p1).toNatClampNeg) p2 p3) else (F_MW_isLinked 98 S (S 187 (p1).toNatClampNeg) p3 p2)))))
def Sf_M_isNext (S : (Nat → Nat → Int32)) (p1 : Int32) (p2 : Int32) (p3 : Int32) : Prop := ((vp_in p3 30) ∧ (if (S 107 (p3).toNatClampNeg) = 0 then True else ((vp_in p1 31) ∧ (if (S 186 (p1).toNatClampNeg) = 67 then ((vp_in p3 30) ∧ True) else (if (S 186 (p1).toNatClampNeg) = 85 then ((vp_in p2 30) ∧ True) else (if (S 186 (p1).toNatClampNeg) = 76 then ((vp_in p1 31) ∧ (Sf_MW_isLinked 98 S (S 187 (p1).toNatClampNeg) p2 p3 ∧ (narrow .boolean (.int (F_MW_isLinked 98 S (S 187 (p1).toNatClampNeg) p2 p3)) = .int (F_MW_isLinked 98 S (S 187 (p1).toNatClampNeg) p2 p3) ∧ True))) else ((vp_in p1 31) ∧ (Sf_MW_isLinked 98 S (S 187 (p1).toNatClampNeg) p3 p2 ∧ (narrow .boolean (.int (F_MW_isLinked 98 S (S 187 (p1).toNatClampNeg) p3 p2)) = .int (F_MW_isLinked 98 S (S 187 (p1).toNatClampNeg) p3 p2) ∧ True)))))))))
theorem c_M_isNext (T' : Nat → Nat × Nat) (G' : Nat → Nat → Option Nat) (S : (Nat → Nat → Int32)) (n : Nat) (p1 : Int32) (p2 : Int32) (p3 : Int32) (hs : Sf_M_isNext S p1 p2 p3) : z_Run rm_M_isNext zm_M_isNext [z_r 78, .inl p1, .inl p2, .inl p3] (zW T' G' S n) (zq (some (.inl (F_M_isNext S p1 p2 p3))) (zW T' G' S n)) := by
  refine z_body (by decide) zf_M_ok (Nat.le_of_ble_eq_true rfl) (fun X M => ?_)
  obtain ⟨Q, hQ, K⟩ : ∃ Q : Int32 → Prop, (∀ v, Q v → zq (some (.inl (F_M_isNext S p1 p2 p3))) (zW T' G' S n) (some (.inl v)) (zW T' G' S n)) ∧ Q (F_M_isNext S p1 p2 p3) := ⟨fun o => F_M_isNext S p1 p2 p3 = o, fun v h => ⟨by rw [h], rfl⟩, rfl⟩
  show z_G X zm_M_isNext (0, [(0, z_r 78), (1, .inl p1), (2, .inl p2), (3, .inl p3)], [], zW T' G' S n, 0, 0)
  unfold F_M_isNext at K
  unfold Sf_M_isNext at hs
  refine z_go2 M.1 0 [(.aload_n 0, 1), (.getfield 38, 3), (.getfield 226, 3), (.iload_n 3, 1), (.baload, 1)] (9, [(0, z_r 78), (1, .inl p1), (2, .inl p2), (3, .inl p3)], [.inl (S 107 (p3).toNatClampNeg)], zW T' G' S n, 0, 0) (by decide +kernel) rfl ⟨trivial, rfl, rfl, trivial, ⟨rfl, hs.1⟩, trivial⟩ ?_
  replace hs := hs.2
  refine z_if_ne 14 M.1 (off := 5) (by decide +kernel) (by decide) (fun c9 => ?_) (fun c9 => ?_)
  · rw [if_neg c9] at K hs
    refine z_go2 M.1 14 [(.aload_n 0, 1), (.getfield 154, 3), (.iload_n 1, 1), (.caload, 1), (.istore 4, 2), (.iload 4, 2), (.bipush 67, 2)] (26, [(4, .inl (S 186 (p1).toNatClampNeg)), (0, z_r 78), (1, .inl p1), (2, .inl p2), (3, .inl p3)], [.inl 67, .inl (S 186 (p1).toNatClampNeg)], zW T' G' S n, 0, 0) (by decide +kernel) rfl ⟨trivial, rfl, trivial, ⟨rfl, hs.1⟩, trivial, trivial, trivial, trivial⟩ ?_
    replace hs := hs.2
    refine z_icmp_ne 48 M.1 (off := 22) (by decide +kernel) (by decide) (fun c26 => ?_) (fun c26 => ?_)
    · rw [if_neg c26] at K hs
      refine z_go2 M.1 48 [(.iload 4, 2), (.bipush 85, 2)] (52, [(4, .inl (S 186 (p1).toNatClampNeg)), (0, z_r 78), (1, .inl p1), (2, .inl p2), (3, .inl p3)], [.inl 85, .inl (S 186 (p1).toNatClampNeg)], zW T' G' S n, 0, 0) (by decide +kernel) rfl ⟨trivial, trivial, trivial⟩ ?_
      refine z_icmp_ne 74 M.1 (off := 22) (by decide +kernel) (by decide) (fun c52 => ?_) (fun c52 => ?_)
      · rw [if_neg c52] at K hs
        refine z_go2 M.1 74 [(.iload 4, 2), (.bipush 76, 2)] (78, [(4, .inl (S 186 (p1).toNatClampNeg)), (0, z_r 78), (1, .inl p1), (2, .inl p2), (3, .inl p3)], [.inl 76, .inl (S 186 (p1).toNatClampNeg)], zW T' G' S n, 0, 0) (by decide +kernel) rfl ⟨trivial, trivial, trivial⟩ ?_
        refine z_icmp_ne 99 M.1 (off := 21) (by decide +kernel) (by decide) (fun c78 => ?_) (fun c78 => ?_)
        · rw [if_neg c78] at K hs
          refine z_go2 M.1 99 [(.aload_n 0, 1), (.getfield 38, 3), (.aload_n 0, 1), (.getfield 157, 3), (.iload_n 1, 1), (.iaload, 1), (.iload_n 3, 1), (.iload_n 2, 1)] (111, [(4, .inl (S 186 (p1).toNatClampNeg)), (0, z_r 78), (1, .inl p1), (2, .inl p2), (3, .inl p3)], [.inl p2, .inl p3, .inl (S 187 (p1).toNatClampNeg), z_r 98], zW T' G' S n, 0, 0) (by decide +kernel) rfl ⟨trivial, rfl, trivial, rfl, trivial, ⟨rfl, hs.1⟩, trivial, trivial, trivial⟩ ?_
          replace hs := hs.2
          refine z_callV M.1 (av := [.inl (S 187 (p1).toNatClampNeg), .inl p3, .inl p2]) (st := []) (a := 98) (ci := 13) (by decide +kernel) (c_MW_isLinked_98 T' G' S n (S 187 (p1).toNatClampNeg) p3 p2 hs.1) M.2.1 zl_M_256 zv_MW_isLinked rfl rfl rfl ⟨by decide, by decide, by decide, by decide⟩ rfl (Nat.le_of_ble_eq_true rfl) (fun v w' hv => ?_)
          obtain ⟨rfl, rfl⟩ := hv
          replace hs := hs.2
          show z_G X zm_M_isNext (114, [(4, .inl (S 186 (p1).toNatClampNeg)), (0, z_r 78), (1, .inl p1), (2, .inl p2), (3, .inl p3)], [.inl (F_MW_isLinked 98 S (S 187 (p1).toNatClampNeg) p3 p2)], zW T' G' S n, 0, 0)
          exact z_iret M (by decide +kernel) .boolean rfl hs.1 (by decide) (by decide) (hQ _ K)
        · rw [if_pos c78] at K hs
          refine z_go2 M.1 81 [(.aload_n 0, 1), (.getfield 38, 3), (.aload_n 0, 1), (.getfield 157, 3), (.iload_n 1, 1), (.iaload, 1), (.iload_n 2, 1), (.iload_n 3, 1)] (93, [(4, .inl (S 186 (p1).toNatClampNeg)), (0, z_r 78), (1, .inl p1), (2, .inl p2), (3, .inl p3)], [.inl p3, .inl p2, .inl (S 187 (p1).toNatClampNeg), z_r 98], zW T' G' S n, 0, 0) (by decide +kernel) rfl ⟨trivial, rfl, trivial, rfl, trivial, ⟨rfl, hs.1⟩, trivial, trivial, trivial⟩ ?_
          replace hs := hs.2
          refine z_callV M.1 (av := [.inl (S 187 (p1).toNatClampNeg), .inl p2, .inl p3]) (st := []) (a := 98) (ci := 13) (by decide +kernel) (c_MW_isLinked_98 T' G' S n (S 187 (p1).toNatClampNeg) p2 p3 hs.1) M.2.1 zl_M_256 zv_MW_isLinked rfl rfl rfl ⟨by decide, by decide, by decide, by decide⟩ rfl (Nat.le_of_ble_eq_true rfl) (fun v w' hv => ?_)
          obtain ⟨rfl, rfl⟩ := hv
          replace hs := hs.2
          show z_G X zm_M_isNext (96, [(4, .inl (S 186 (p1).toNatClampNeg)), (0, z_r 78), (1, .inl p1), (2, .inl p2), (3, .inl p3)], [.inl (F_MW_isLinked 98 S (S 187 (p1).toNatClampNeg) p2 p3)], zW T' G' S n, 0, 0)
          refine z_go2 M.1 96 [(.goto 18, 3)] (114, [(4, .inl (S 186 (p1).toNatClampNeg)), (0, z_r 78), (1, .inl p1), (2, .inl p2), (3, .inl p3)], [.inl (F_MW_isLinked 98 S (S 187 (p1).toNatClampNeg) p2 p3)], zW T' G' S n, 0, 0) (by decide +kernel) rfl ⟨trivial, trivial⟩ ?_
          exact z_iret M (by decide +kernel) .boolean rfl hs.1 (by decide) (by decide) (hQ _ K)
      · rw [if_pos c52] at K hs
        refine z_go2 M.1 55 [(.aload_n 0, 1), (.getfield 38, 3), (.getfield 207, 3), (.iload_n 2, 1), (.iaload, 1), (.iload_n 3, 1)] (65, [(4, .inl (S 186 (p1).toNatClampNeg)), (0, z_r 78), (1, .inl p1), (2, .inl p2), (3, .inl p3)], [.inl p3, .inl (S 104 (p2).toNatClampNeg)], zW T' G' S n, 0, 0) (by decide +kernel) rfl ⟨trivial, rfl, rfl, trivial, ⟨rfl, hs.1⟩, trivial, trivial⟩ ?_
        replace hs := hs.2
        refine z_icmp_ne 72 M.1 (off := 7) (by decide +kernel) (by decide) (fun c65 => ?_) (fun c65 => ?_)
        · rw [if_neg c65] at K
          refine z_go2 M.1 72 [(.iconst 0, 1)] (73, [(4, .inl (S 186 (p1).toNatClampNeg)), (0, z_r 78), (1, .inl p1), (2, .inl p2), (3, .inl p3)], [.inl 0], zW T' G' S n, 0, 0) (by decide +kernel) rfl ⟨trivial, trivial⟩ ?_
          exact z_iret M (by decide +kernel) .boolean rfl rfl (by decide) (by decide) (hQ _ K)
        · rw [if_pos c65] at K
          refine z_go2 M.1 68 [(.iconst 1, 1), (.goto 4, 3)] (73, [(4, .inl (S 186 (p1).toNatClampNeg)), (0, z_r 78), (1, .inl p1), (2, .inl p2), (3, .inl p3)], [.inl 1], zW T' G' S n, 0, 0) (by decide +kernel) rfl ⟨trivial, trivial, trivial⟩ ?_
          exact z_iret M (by decide +kernel) .boolean rfl rfl (by decide) (by decide) (hQ _ K)
    · rw [if_pos c26] at K hs
      refine z_go2 M.1 29 [(.aload_n 0, 1), (.getfield 38, 3), (.getfield 207, 3), (.iload_n 3, 1), (.iaload, 1), (.iload_n 2, 1)] (39, [(4, .inl (S 186 (p1).toNatClampNeg)), (0, z_r 78), (1, .inl p1), (2, .inl p2), (3, .inl p3)], [.inl p2, .inl (S 104 (p3).toNatClampNeg)], zW T' G' S n, 0, 0) (by decide +kernel) rfl ⟨trivial, rfl, rfl, trivial, ⟨rfl, hs.1⟩, trivial, trivial⟩ ?_
      replace hs := hs.2
      refine z_icmp_ne 46 M.1 (off := 7) (by decide +kernel) (by decide) (fun c39 => ?_) (fun c39 => ?_)
      · rw [if_neg c39] at K
        refine z_go2 M.1 46 [(.iconst 0, 1)] (47, [(4, .inl (S 186 (p1).toNatClampNeg)), (0, z_r 78), (1, .inl p1), (2, .inl p2), (3, .inl p3)], [.inl 0], zW T' G' S n, 0, 0) (by decide +kernel) rfl ⟨trivial, trivial⟩ ?_
        exact z_iret M (by decide +kernel) .boolean rfl rfl (by decide) (by decide) (hQ _ K)
      · rw [if_pos c39] at K
        refine z_go2 M.1 42 [(.iconst 1, 1), (.goto 4, 3)] (47, [(4, .inl (S 186 (p1).toNatClampNeg)), (0, z_r 78), (1, .inl p1), (2, .inl p2), (3, .inl p3)], [.inl 1], zW T' G' S n, 0, 0) (by decide +kernel) rfl ⟨trivial, trivial, trivial⟩ ?_
        exact z_iret M (by decide +kernel) .boolean rfl rfl (by decide) (by decide) (hQ _ K)
  · rw [if_pos c9] at K hs
    refine z_go2 M.1 12 [(.iconst 0, 1)] (13, [(0, z_r 78), (1, .inl p1), (2, .inl p2), (3, .inl p3)], [.inl 0], zW T' G' S n, 0, 0) (by decide +kernel) rfl ⟨trivial, trivial⟩ ?_
    exact z_iret M (by decide +kernel) .boolean rfl rfl (by decide) (by decide) (hQ _ K)

-- TrackHouseModel.someNext
abbrev rm_M_someNext : Room := zr 2
def F_M_someNext_l6_67 (rc : Int32 → Int32 → (Int32)) (S : (Nat → Nat → Int32)) (x1 : Int32) (x2 : Int32) (x3 : Int32) (x5 : Int32) : (Int32) := (rc 0 (x5 + 1))
def Sf_M_someNext_l6_67 (rc : Int32 → Int32 → (Int32)) (sr : Int32 → Int32 → Prop) (S : (Nat → Nat → Int32)) (x1 : Int32) (x2 : Int32) (x3 : Int32) (x5 : Int32) : Prop := (sr 0 (x5 + 1))
theorem t_M_someNext_l6_67 {X : z_X} {Post : Option z_V → z_W → Prop} (M : z_M X zm_M_someNext rm_M_someNext Post) {T' : Nat → Nat × Nat} {G' : Nat → Nat → Option Nat} {n : Nat} {Q : (Int32) → Prop} (rc : Int32 → Int32 → (Int32)) (sr : Int32 → Int32 → Prop) (S : (Nat → Nat → Int32)) (x1 : Int32) (x2 : Int32) (x3 : Int32) (x5 : Int32) (hE : ∀ (y4 : Int32), Q y4 → z_G X zm_M_someNext (76, [(4, .inl y4)], [], zW T' G' S n, 0, 0)) (hC : ∀ (x4 : Int32) (x5 : Int32), Q (rc x4 x5) → sr x4 x5 → z_G X zm_M_someNext (6, [(0, z_r 78), (1, .inl x1), (2, .inl x2), (3, .inl x3), (4, .inl x4), (5, .inl x5)], [], zW T' G' S n, 0, 0)) (K : Q (F_M_someNext_l6_67 rc S x1 x2 x3 x5)) (hs : Sf_M_someNext_l6_67 rc sr S x1 x2 x3 x5) : z_G X zm_M_someNext (67, [(0, z_r 78), (1, .inl x1), (2, .inl x2), (3, .inl x3), (5, .inl x5)], [], zW T' G' S n, 0, 0) := by
  unfold F_M_someNext_l6_67 at K
  unfold Sf_M_someNext_l6_67 at hs
  refine z_go2 M.1 67 [(.iconst 0, 1), (.istore 4, 2), (.iinc 5 1, 3), (.goto (-67), 3)] (6, [(5, .inl (x5 + 1)), (4, .inl 0), (0, z_r 78), (1, .inl x1), (2, .inl x2), (3, .inl x3)], [], zW T' G' S n, 0, 0) (by decide +kernel) rfl ⟨trivial, trivial, trivial, trivial, trivial⟩ ?_
  exact z_lvs (lv' := [(0, z_r 78), (1, .inl x1), (2, .inl x2), (3, .inl x3), (4, .inl 0), (5, .inl (x5 + 1))]) [2, 3, 4, 5, 1, 0] rfl (hC 0 (x5 + 1) K hs)
def F_M_someNext_L6 (S : (Nat → Nat → Int32)) (x1 : Int32) (x2 : Int32) (x3 : Int32) : Nat → Int32 → Int32 → (Int32)
  | 0, x4, x5 => x4
  | f + 1, x4, x5 => (if (30 : Int32) ≤ x5 then x4 else (if x4 = 0 then (if (F_M_isNext S x1 x3 x5) = 0 then (F_M_someNext_l6_67 (F_M_someNext_L6 S x1 x2 x3 f) S x1 x2 x3 x5) else (if (F_M_sees 98 S x2 x5) = 0 then (F_M_someNext_l6_67 (F_M_someNext_L6 S x1 x2 x3 f) S x1 x2 x3 x5) else (if (S 191 (((30 : Int32) * (S 189 (x1).toNatClampNeg)) + x5).toNatClampNeg) = 0 then (F_M_someNext_l6_67 (F_M_someNext_L6 S x1 x2 x3 f) S x1 x2 x3 x5) else ((F_M_someNext_L6 S x1 x2 x3 f) 1 (x5 + 1))))) else x4))
def Sf_M_someNext_L6 (S : (Nat → Nat → Int32)) (x1 : Int32) (x2 : Int32) (x3 : Int32) : Nat → Int32 → Int32 → Prop
  | 0, _, _ => False
  | f + 1, x4, x5 => (if (30 : Int32) ≤ x5 then True else (if x4 = 0 then (Sf_M_isNext S x1 x3 x5 ∧ (if (F_M_isNext S x1 x3 x5) = 0 then (Sf_M_someNext_l6_67 (F_M_someNext_L6 S x1 x2 x3 f) (Sf_M_someNext_L6 S x1 x2 x3 f) S x1 x2 x3 x5) else (Sf_M_sees 98 S x2 x5 ∧ (if (F_M_sees 98 S x2 x5) = 0 then (Sf_M_someNext_l6_67 (F_M_someNext_L6 S x1 x2 x3 f) (Sf_M_someNext_L6 S x1 x2 x3 f) S x1 x2 x3 x5) else ((vp_in x1 31) ∧ ((vp_in (((30 : Int32) * (S 189 (x1).toNatClampNeg)) + x5) 930) ∧ (if (S 191 (((30 : Int32) * (S 189 (x1).toNatClampNeg)) + x5).toNatClampNeg) = 0 then (Sf_M_someNext_l6_67 (F_M_someNext_L6 S x1 x2 x3 f) (Sf_M_someNext_L6 S x1 x2 x3 f) S x1 x2 x3 x5) else ((Sf_M_someNext_L6 S x1 x2 x3 f) 1 (x5 + 1))))))))) else True))
theorem t_M_someNext_L6 {X : z_X} {Post : Option z_V → z_W → Prop} (M : z_M X zm_M_someNext rm_M_someNext Post) {T' : Nat → Nat × Nat} {G' : Nat → Nat → Option Nat} {n : Nat} {Q : (Int32) → Prop} (S : (Nat → Nat → Int32))  (x1 : Int32) (x2 : Int32) (x3 : Int32) (hE : ∀ (y4 : Int32), Q y4 → z_G X zm_M_someNext (76, [(4, .inl y4)], [], zW T' G' S n, 0, 0)) (f : Nat) : ∀ (x4 : Int32) (x5 : Int32), Q (F_M_someNext_L6 S x1 x2 x3 f x4 x5) → Sf_M_someNext_L6 S x1 x2 x3 f x4 x5 → z_G X zm_M_someNext (6, [(0, z_r 78), (1, .inl x1), (2, .inl x2), (3, .inl x3), (4, .inl x4), (5, .inl x5)], [], zW T' G' S n, 0, 0) := by
  induction f with
  | zero => intro x4 x5 K hs; exact False.elim hs
  | succ f hC =>
    intro x4 x5 K hs
    rw [F_M_someNext_L6] at K
    rw [Sf_M_someNext_L6] at hs
    refine z_go2 M.1 6 [(.iload 5, 2), (.bipush 30, 2)] (10, [(0, z_r 78), (1, .inl x1), (2, .inl x2), (3, .inl x3), (4, .inl x4), (5, .inl x5)], [.inl 30, .inl x5], zW T' G' S n, 0, 0) (by decide +kernel) rfl ⟨trivial, trivial, trivial⟩ ?_
    refine z_icmp_ge 76 M.1 (off := 66) (by decide +kernel) (by decide) (fun c10 => ?_) (fun c10 => ?_)
    · rw [if_pos c10] at K hs
      exact z_lvs (lv' := [(4, .inl x4)]) [4] rfl (hE x4 K)
    · rw [if_neg c10] at K hs
      refine z_go2 M.1 13 [(.iload 4, 2)] (15, [(0, z_r 78), (1, .inl x1), (2, .inl x2), (3, .inl x3), (4, .inl x4), (5, .inl x5)], [.inl x4], zW T' G' S n, 0, 0) (by decide +kernel) rfl ⟨trivial, trivial⟩ ?_
      refine z_if_ne 76 M.1 (off := 61) (by decide +kernel) (by decide) (fun c15 => ?_) (fun c15 => ?_)
      · rw [if_neg c15] at K hs
        exact z_lvs (lv' := [(4, .inl x4)]) [4] rfl (hE x4 K)
      · rw [if_pos c15] at K hs
        refine z_go2 M.1 18 [(.aload_n 0, 1), (.iload_n 1, 1), (.iload_n 3, 1), (.iload 5, 2)] (23, [(0, z_r 78), (1, .inl x1), (2, .inl x2), (3, .inl x3), (4, .inl x4), (5, .inl x5)], [.inl x5, .inl x3, .inl x1, z_r 78], zW T' G' S n, 0, 0) (by decide +kernel) rfl ⟨trivial, trivial, trivial, trivial, trivial⟩ ?_
        refine z_callV M.1 (av := [.inl x1, .inl x3, .inl x5]) (st := []) (a := 78) (ci := 14) (by decide +kernel) (c_M_isNext T' G' S n x1 x3 x5 hs.1) M.2.1 zl_M_432 zv_M_isNext rfl rfl rfl ⟨by decide, by decide, by decide, by decide⟩ rfl (Nat.le_of_ble_eq_true rfl) (fun v w' hv => ?_)
        obtain ⟨rfl, rfl⟩ := hv
        replace hs := hs.2
        show z_G X zm_M_someNext (26, [(0, z_r 78), (1, .inl x1), (2, .inl x2), (3, .inl x3), (4, .inl x4), (5, .inl x5)], [.inl (F_M_isNext S x1 x3 x5)], zW T' G' S n, 0, 0)
        refine z_if_eq 67 M.1 (off := 41) (by decide +kernel) (by decide) (fun c26 => ?_) (fun c26 => ?_)
        · rw [if_pos c26] at K hs
          exact z_lvs (lv' := [(0, z_r 78), (1, .inl x1), (2, .inl x2), (3, .inl x3), (5, .inl x5)]) [0, 1, 2, 3, 5] rfl (t_M_someNext_l6_67 M (F_M_someNext_L6 S x1 x2 x3 f) (Sf_M_someNext_L6 S x1 x2 x3 f) S x1 x2 x3 x5 hE hC K hs)
        · rw [if_neg c26] at K hs
          refine z_go2 M.1 29 [(.aload_n 0, 1), (.aload_n 0, 1), (.getfield 38, 3), (.iload_n 2, 1), (.iload 5, 2)] (37, [(0, z_r 78), (1, .inl x1), (2, .inl x2), (3, .inl x3), (4, .inl x4), (5, .inl x5)], [.inl x5, .inl x2, z_r 98, z_r 78], zW T' G' S n, 0, 0) (by decide +kernel) rfl ⟨trivial, trivial, rfl, trivial, trivial, trivial⟩ ?_
          refine z_callV M.1 (av := [z_r 98, .inl x2, .inl x5]) (st := []) (a := 78) (ci := 14) (by decide +kernel) (c_M_sees_98 T' G' S n x2 x5 hs.1) M.2.1 zl_M_233 zv_M_sees rfl rfl rfl ⟨by decide, by decide, by decide, by decide⟩ rfl (Nat.le_of_ble_eq_true rfl) (fun v w' hv => ?_)
          obtain ⟨rfl, rfl⟩ := hv
          replace hs := hs.2
          show z_G X zm_M_someNext (40, [(0, z_r 78), (1, .inl x1), (2, .inl x2), (3, .inl x3), (4, .inl x4), (5, .inl x5)], [.inl (F_M_sees 98 S x2 x5)], zW T' G' S n, 0, 0)
          refine z_if_eq 67 M.1 (off := 27) (by decide +kernel) (by decide) (fun c40 => ?_) (fun c40 => ?_)
          · rw [if_pos c40] at K hs
            exact z_lvs (lv' := [(0, z_r 78), (1, .inl x1), (2, .inl x2), (3, .inl x3), (5, .inl x5)]) [0, 1, 2, 3, 5] rfl (t_M_someNext_l6_67 M (F_M_someNext_L6 S x1 x2 x3 f) (Sf_M_someNext_L6 S x1 x2 x3 f) S x1 x2 x3 x5 hE hC K hs)
          · rw [if_neg c40] at K hs
            refine z_go2 M.1 43 [(.aload_n 0, 1), (.getfield 169, 3), (.bipush 30, 2), (.aload_n 0, 1), (.getfield 163, 3), (.iload_n 1, 1), (.iaload, 1), (.imul, 1), (.iload 5, 2), (.iadd, 1), (.baload, 1)] (60, [(0, z_r 78), (1, .inl x1), (2, .inl x2), (3, .inl x3), (4, .inl x4), (5, .inl x5)], [.inl (S 191 (((30 : Int32) * (S 189 (x1).toNatClampNeg)) + x5).toNatClampNeg)], zW T' G' S n, 0, 0) (by decide +kernel) rfl ⟨trivial, rfl, trivial, trivial, rfl, trivial, ⟨rfl, hs.1⟩, trivial, trivial, trivial, ⟨rfl, hs.2.1⟩, trivial⟩ ?_
            replace hs := hs.2.2
            refine z_if_eq 67 M.1 (off := 7) (by decide +kernel) (by decide) (fun c60 => ?_) (fun c60 => ?_)
            · rw [if_pos c60] at K hs
              exact z_lvs (lv' := [(0, z_r 78), (1, .inl x1), (2, .inl x2), (3, .inl x3), (5, .inl x5)]) [0, 1, 2, 3, 5] rfl (t_M_someNext_l6_67 M (F_M_someNext_L6 S x1 x2 x3 f) (Sf_M_someNext_L6 S x1 x2 x3 f) S x1 x2 x3 x5 hE hC K hs)
            · rw [if_neg c60] at K hs
              refine z_go2 M.1 63 [(.iconst 1, 1), (.goto 4, 3), (.istore 4, 2), (.iinc 5 1, 3), (.goto (-67), 3)] (6, [(5, .inl (x5 + 1)), (4, .inl 1), (0, z_r 78), (1, .inl x1), (2, .inl x2), (3, .inl x3)], [], zW T' G' S n, 0, 0) (by decide +kernel) rfl ⟨trivial, trivial, trivial, trivial, trivial, trivial⟩ ?_
              exact z_lvs (lv' := [(0, z_r 78), (1, .inl x1), (2, .inl x2), (3, .inl x3), (4, .inl 1), (5, .inl (x5 + 1))]) [2, 3, 4, 5, 1, 0] rfl (hC 1 (x5 + 1) K hs)
def F_M_someNext (S : (Nat → Nat → Int32)) (p1 : Int32) (p2 : Int32) (p3 : Int32) : Int32 := (match F_M_someNext_L6 S p1 p2 p3 1300 0 0 with | y4_6 => y4_6)
def Sf_M_someNext (S : (Nat → Nat → Int32)) (p1 : Int32) (p2 : Int32) (p3 : Int32) : Prop := (Sf_M_someNext_L6 S p1 p2 p3 1300 0 0 ∧ (match F_M_someNext_L6 S p1 p2 p3 1300 0 0 with | y4_6 => (narrow .boolean (.int y4_6) = .int y4_6 ∧ True)))
theorem c_M_someNext (T' : Nat → Nat × Nat) (G' : Nat → Nat → Option Nat) (S : (Nat → Nat → Int32)) (n : Nat) (p1 : Int32) (p2 : Int32) (p3 : Int32) (hs : Sf_M_someNext S p1 p2 p3) : z_Run rm_M_someNext zm_M_someNext [z_r 78, .inl p1, .inl p2, .inl p3] (zW T' G' S n) (zq (some (.inl (F_M_someNext S p1 p2 p3))) (zW T' G' S n)) := by
  refine z_body (by decide) zf_M_ok (Nat.le_of_ble_eq_true rfl) (fun X M => ?_)
  obtain ⟨Q, hQ, K⟩ : ∃ Q : Int32 → Prop, (∀ v, Q v → zq (some (.inl (F_M_someNext S p1 p2 p3))) (zW T' G' S n) (some (.inl v)) (zW T' G' S n)) ∧ Q (F_M_someNext S p1 p2 p3) := ⟨fun o => F_M_someNext S p1 p2 p3 = o, fun v h => ⟨by rw [h], rfl⟩, rfl⟩
  show z_G X zm_M_someNext (0, [(0, z_r 78), (1, .inl p1), (2, .inl p2), (3, .inl p3)], [], zW T' G' S n, 0, 0)
  unfold F_M_someNext at K
  unfold Sf_M_someNext at hs
  refine z_go2 M.1 0 [(.iconst 0, 1), (.istore 4, 2), (.iconst 0, 1), (.istore 5, 2)] (6, [(5, .inl 0), (4, .inl 0), (0, z_r 78), (1, .inl p1), (2, .inl p2), (3, .inl p3)], [], zW T' G' S n, 0, 0) (by decide +kernel) rfl ⟨trivial, trivial, trivial, trivial, trivial⟩ ?_
  refine z_lvs (lv' := [(0, z_r 78), (1, .inl p1), (2, .inl p2), (3, .inl p3), (4, .inl 0), (5, .inl 0)]) [2, 3, 4, 5, 1, 0] rfl ?_
  refine t_M_someNext_L6 M (Q := fun o => F_M_someNext_L6 S p1 p2 p3 1300 0 0 = o) S p1 p2 p3 (fun y4_6 hL6 => ?_) 1300 0 0 rfl hs.1
  replace hs := hs.2
  rw [hL6] at K
  try rw [hL6] at hs
  try dsimp only at K hs
  refine z_go2 M.1 76 [(.iload 4, 2)] (78, [(4, .inl y4_6)], [.inl y4_6], zW T' G' S n, 0, 0) (by decide +kernel) rfl ⟨trivial, trivial⟩ ?_
  exact z_iret M (by decide +kernel) .boolean rfl hs.1 (by decide) (by decide) (hQ _ K)

-- TrackHouseModel.joined
abbrev rm_M_joined : Room := zr 0
def F_M_joined_j72 (S : (Nat → Nat → Int32)) : Int32 := 1
theorem t_M_joined_j72 {X : z_X} {Post : Option z_V → z_W → Prop} (M : z_M X zm_M_joined rm_M_joined Post) {T' : Nat → Nat × Nat} {G' : Nat → Nat → Option Nat} {n : Nat} {Q : Int32 → Prop} (S : (Nat → Nat → Int32)) (hQ : ∀ v, Q v → Post (some (.inl v)) (zW T' G' S n)) (K : Q (F_M_joined_j72 S)) : z_G X zm_M_joined (72, [], [], zW T' G' S n, 0, 0) := by
  unfold F_M_joined_j72 at K
  refine z_go2 M.1 72 [(.iconst 1, 1), (.goto 4, 3)] (77, [], [.inl 1], zW T' G' S n, 0, 0) (by decide +kernel) rfl ⟨trivial, trivial, trivial⟩ ?_
  exact z_iret M (by decide +kernel) .boolean rfl rfl (by decide) (by decide) (hQ _ K)
def F_M_joined_j59 (S : (Nat → Nat → Int32)) : Int32 := 0
theorem t_M_joined_j59 {X : z_X} {Post : Option z_V → z_W → Prop} (M : z_M X zm_M_joined rm_M_joined Post) {T' : Nat → Nat × Nat} {G' : Nat → Nat → Option Nat} {n : Nat} {Q : Int32 → Prop} (S : (Nat → Nat → Int32)) (hQ : ∀ v, Q v → Post (some (.inl v)) (zW T' G' S n)) (K : Q (F_M_joined_j59 S)) : z_G X zm_M_joined (59, [], [], zW T' G' S n, 0, 0) := by
  unfold F_M_joined_j59 at K
  refine z_go2 M.1 59 [(.iconst 0, 1), (.goto 17, 3)] (77, [], [.inl 0], zW T' G' S n, 0, 0) (by decide +kernel) rfl ⟨trivial, trivial, trivial⟩ ?_
  exact z_iret M (by decide +kernel) .boolean rfl rfl (by decide) (by decide) (hQ _ K)
def F_M_joined (S : (Nat → Nat → Int32)) (p1 : Int32) (p2 : Int32) : Int32 := (if (S 187 (p1).toNatClampNeg) = 38 then (if (S 191 (((30 : Int32) * (S 189 (p1).toNatClampNeg)) + p2).toNatClampNeg) = 0 then (F_M_joined_j59 S) else (if (S 191 (((30 : Int32) * (S 190 (p1).toNatClampNeg)) + p2).toNatClampNeg) = 0 then (F_M_joined_j59 S) else 1)) else (if (S 191 (((30 : Int32) * (S 189 (p1).toNatClampNeg)) + p2).toNatClampNeg) = 0 then (if (S 191 (((30 : Int32) * (S 190 (p1).toNatClampNeg)) + p2).toNatClampNeg) = 0 then 0 else (F_M_joined_j72 S)) else (F_M_joined_j72 S)))
def Sf_M_joined (S : (Nat → Nat → Int32)) (p1 : Int32) (p2 : Int32) : Prop := ((vp_in p1 31) ∧ ((vp_in (((30 : Int32) * (S 189 (p1).toNatClampNeg)) + p2) 930) ∧ ((vp_in p1 31) ∧ ((vp_in (((30 : Int32) * (S 190 (p1).toNatClampNeg)) + p2) 930) ∧ ((vp_in p1 31) ∧ True)))))
theorem c_M_joined (T' : Nat → Nat × Nat) (G' : Nat → Nat → Option Nat) (S : (Nat → Nat → Int32)) (n : Nat) (p1 : Int32) (p2 : Int32) (hs : Sf_M_joined S p1 p2) : z_Run rm_M_joined zm_M_joined [z_r 78, .inl p1, .inl p2] (zW T' G' S n) (zq (some (.inl (F_M_joined S p1 p2))) (zW T' G' S n)) := by
  refine z_body (by decide) zf_M_ok (Nat.le_of_ble_eq_true rfl) (fun X M => ?_)
  obtain ⟨Q, hQ, K⟩ : ∃ Q : Int32 → Prop, (∀ v, Q v → zq (some (.inl (F_M_joined S p1 p2))) (zW T' G' S n) (some (.inl v)) (zW T' G' S n)) ∧ Q (F_M_joined S p1 p2) := ⟨fun o => F_M_joined S p1 p2 = o, fun v h => ⟨by rw [h], rfl⟩, rfl⟩
  show z_G X zm_M_joined (0, [(0, z_r 78), (1, .inl p1), (2, .inl p2)], [], zW T' G' S n, 0, 0)
  unfold F_M_joined at K
  unfold Sf_M_joined at hs
  refine z_go2 M.1 0 [(.aload_n 0, 1), (.getfield 169, 3), (.bipush 30, 2), (.aload_n 0, 1), (.getfield 163, 3), (.iload_n 1, 1), (.iaload, 1), (.imul, 1), (.iload_n 2, 1), (.iadd, 1), (.baload, 1), (.istore_n 3, 1), (.aload_n 0, 1), (.getfield 169, 3), (.bipush 30, 2), (.aload_n 0, 1), (.getfield 166, 3), (.iload_n 1, 1), (.iaload, 1), (.imul, 1), (.iload_n 2, 1), (.iadd, 1), (.baload, 1), (.istore 4, 2), (.aload_n 0, 1), (.getfield 157, 3), (.iload_n 1, 1), (.iaload, 1), (.bipush 38, 2)] (43, [(4, .inl (S 191 (((30 : Int32) * (S 190 (p1).toNatClampNeg)) + p2).toNatClampNeg)), (3, .inl (S 191 (((30 : Int32) * (S 189 (p1).toNatClampNeg)) + p2).toNatClampNeg)), (0, z_r 78), (1, .inl p1), (2, .inl p2)], [.inl 38, .inl (S 187 (p1).toNatClampNeg)], zW T' G' S n, 0, 0) (by decide +kernel) rfl ⟨trivial, rfl, trivial, trivial, rfl, trivial, ⟨rfl, hs.1⟩, trivial, trivial, trivial, ⟨rfl, hs.2.1⟩, trivial, trivial, rfl, trivial, trivial, rfl, trivial, ⟨rfl, hs.2.2.1⟩, trivial, trivial, trivial, ⟨rfl, hs.2.2.2.1⟩, trivial, trivial, rfl, trivial, ⟨rfl, hs.2.2.2.2.1⟩, trivial, trivial⟩ ?_
  replace hs := hs.2.2.2.2.2
  refine z_icmp_ne 63 M.1 (off := 20) (by decide +kernel) (by decide) (fun c43 => ?_) (fun c43 => ?_)
  · rw [if_neg c43] at K
    refine z_go2 M.1 63 [(.iload_n 3, 1)] (64, [(4, .inl (S 191 (((30 : Int32) * (S 190 (p1).toNatClampNeg)) + p2).toNatClampNeg)), (3, .inl (S 191 (((30 : Int32) * (S 189 (p1).toNatClampNeg)) + p2).toNatClampNeg)), (0, z_r 78), (1, .inl p1), (2, .inl p2)], [.inl (S 191 (((30 : Int32) * (S 189 (p1).toNatClampNeg)) + p2).toNatClampNeg)], zW T' G' S n, 0, 0) (by decide +kernel) rfl ⟨trivial, trivial⟩ ?_
    refine z_if_ne 72 M.1 (off := 8) (by decide +kernel) (by decide) (fun c64 => ?_) (fun c64 => ?_)
    · rw [if_neg c64] at K
      exact z_lvs (lv' := []) [] rfl (t_M_joined_j72 M S hQ K)
    · rw [if_pos c64] at K
      refine z_go2 M.1 67 [(.iload 4, 2)] (69, [(4, .inl (S 191 (((30 : Int32) * (S 190 (p1).toNatClampNeg)) + p2).toNatClampNeg)), (3, .inl (S 191 (((30 : Int32) * (S 189 (p1).toNatClampNeg)) + p2).toNatClampNeg)), (0, z_r 78), (1, .inl p1), (2, .inl p2)], [.inl (S 191 (((30 : Int32) * (S 190 (p1).toNatClampNeg)) + p2).toNatClampNeg)], zW T' G' S n, 0, 0) (by decide +kernel) rfl ⟨trivial, trivial⟩ ?_
      refine z_if_eq 76 M.1 (off := 7) (by decide +kernel) (by decide) (fun c69 => ?_) (fun c69 => ?_)
      · rw [if_pos c69] at K
        refine z_go2 M.1 76 [(.iconst 0, 1)] (77, [(4, .inl (S 191 (((30 : Int32) * (S 190 (p1).toNatClampNeg)) + p2).toNatClampNeg)), (3, .inl (S 191 (((30 : Int32) * (S 189 (p1).toNatClampNeg)) + p2).toNatClampNeg)), (0, z_r 78), (1, .inl p1), (2, .inl p2)], [.inl 0], zW T' G' S n, 0, 0) (by decide +kernel) rfl ⟨trivial, trivial⟩ ?_
        exact z_iret M (by decide +kernel) .boolean rfl rfl (by decide) (by decide) (hQ _ K)
      · rw [if_neg c69] at K
        exact z_lvs (lv' := []) [] rfl (t_M_joined_j72 M S hQ K)
  · rw [if_pos c43] at K
    refine z_go2 M.1 46 [(.iload_n 3, 1)] (47, [(4, .inl (S 191 (((30 : Int32) * (S 190 (p1).toNatClampNeg)) + p2).toNatClampNeg)), (3, .inl (S 191 (((30 : Int32) * (S 189 (p1).toNatClampNeg)) + p2).toNatClampNeg)), (0, z_r 78), (1, .inl p1), (2, .inl p2)], [.inl (S 191 (((30 : Int32) * (S 189 (p1).toNatClampNeg)) + p2).toNatClampNeg)], zW T' G' S n, 0, 0) (by decide +kernel) rfl ⟨trivial, trivial⟩ ?_
    refine z_if_eq 59 M.1 (off := 12) (by decide +kernel) (by decide) (fun c47 => ?_) (fun c47 => ?_)
    · rw [if_pos c47] at K
      exact z_lvs (lv' := []) [] rfl (t_M_joined_j59 M S hQ K)
    · rw [if_neg c47] at K
      refine z_go2 M.1 50 [(.iload 4, 2)] (52, [(4, .inl (S 191 (((30 : Int32) * (S 190 (p1).toNatClampNeg)) + p2).toNatClampNeg)), (3, .inl (S 191 (((30 : Int32) * (S 189 (p1).toNatClampNeg)) + p2).toNatClampNeg)), (0, z_r 78), (1, .inl p1), (2, .inl p2)], [.inl (S 191 (((30 : Int32) * (S 190 (p1).toNatClampNeg)) + p2).toNatClampNeg)], zW T' G' S n, 0, 0) (by decide +kernel) rfl ⟨trivial, trivial⟩ ?_
      refine z_if_eq 59 M.1 (off := 7) (by decide +kernel) (by decide) (fun c52 => ?_) (fun c52 => ?_)
      · rw [if_pos c52] at K
        exact z_lvs (lv' := []) [] rfl (t_M_joined_j59 M S hQ K)
      · rw [if_neg c52] at K
        refine z_go2 M.1 55 [(.iconst 1, 1), (.goto 21, 3)] (77, [(4, .inl (S 191 (((30 : Int32) * (S 190 (p1).toNatClampNeg)) + p2).toNatClampNeg)), (3, .inl (S 191 (((30 : Int32) * (S 189 (p1).toNatClampNeg)) + p2).toNatClampNeg)), (0, z_r 78), (1, .inl p1), (2, .inl p2)], [.inl 1], zW T' G' S n, 0, 0) (by decide +kernel) rfl ⟨trivial, trivial, trivial⟩ ?_
        exact z_iret M (by decide +kernel) .boolean rfl rfl (by decide) (by decide) (hQ _ K)

-- TrackHouseModel.holds
abbrev rm_M_holds : Room := zr 6
def F_M_holds (S : (Nat → Nat → Int32)) (p1 : Int32) (p2 : Int32) (p3 : Int32) (p4 : Int32) : Int32 := (if (S 186 (p1).toNatClampNeg) = 33 then (if (S 191 (((30 : Int32) * (S 189 (p1).toNatClampNeg)) + p4).toNatClampNeg) = 0 then 1 else 0) else (if (S 186 (p1).toNatClampNeg) = 40 then (F_M_joined S p1 p4) else (if (S 186 (p1).toNatClampNeg) = 66 then (if (F_M_lastBy S p4) = (S 187 (p1).toNatClampNeg) then 1 else 0) else (if (S 186 (p1).toNatClampNeg) = 68 then (F_M_wasOf S p4 (p3 - (S 187 (p1).toNatClampNeg)) p3) else (if (S 186 (p1).toNatClampNeg) = 87 then (F_M_wasIn S p4 (S 187 (p1).toNatClampNeg)) else (if (S 186 (p1).toNatClampNeg) = 88 then (F_M_cameFrom S p4 (S 187 (p1).toNatClampNeg) (S 188 (p1).toNatClampNeg)) else (if (S 186 (p1).toNatClampNeg) = 97 then (if (S 103 (p4).toNatClampNeg) = (S 187 (p1).toNatClampNeg) then 1 else 0) else (if (S 186 (p1).toNatClampNeg) = 102 then (F_M_compared S p1 p2 p4) else (if (S 186 (p1).toNatClampNeg) = 107 then (if (S 100 (p4).toNatClampNeg) = (S 187 (p1).toNatClampNeg) then 1 else 0) else (if (S 186 (p1).toNatClampNeg) = 112 then (if (S 99 (p4).toNatClampNeg) = (S 187 (p1).toNatClampNeg) then 1 else 0) else (if (S 186 (p1).toNatClampNeg) = 115 then (if (S 101 (p4).toNatClampNeg) = (S 187 (p1).toNatClampNeg) then 1 else 0) else (if (S 186 (p1).toNatClampNeg) = 118 then (if (S 106 (p4).toNatClampNeg) = (S 187 (p1).toNatClampNeg) then 1 else 0) else (F_M_someNext S p1 p2 p4)))))))))))))
def Sf_M_holds (S : (Nat → Nat → Int32)) (p1 : Int32) (p2 : Int32) (p3 : Int32) (p4 : Int32) : Prop := ((vp_in p1 31) ∧ ((vp_in p1 31) ∧ (if (S 186 (p1).toNatClampNeg) = 33 then ((vp_in p1 31) ∧ ((vp_in (((30 : Int32) * (S 189 (p1).toNatClampNeg)) + p4) 930) ∧ True)) else (if (S 186 (p1).toNatClampNeg) = 40 then (Sf_M_joined S p1 p4 ∧ (narrow .boolean (.int (F_M_joined S p1 p4)) = .int (F_M_joined S p1 p4) ∧ True)) else (if (S 186 (p1).toNatClampNeg) = 66 then (Sf_M_lastBy S p4 ∧ True) else (if (S 186 (p1).toNatClampNeg) = 68 then (Sf_M_wasOf S p4 (p3 - (S 187 (p1).toNatClampNeg)) p3 ∧ (narrow .boolean (.int (F_M_wasOf S p4 (p3 - (S 187 (p1).toNatClampNeg)) p3)) = .int (F_M_wasOf S p4 (p3 - (S 187 (p1).toNatClampNeg)) p3) ∧ True)) else (if (S 186 (p1).toNatClampNeg) = 87 then (Sf_M_wasIn S p4 (S 187 (p1).toNatClampNeg) ∧ (narrow .boolean (.int (F_M_wasIn S p4 (S 187 (p1).toNatClampNeg))) = .int (F_M_wasIn S p4 (S 187 (p1).toNatClampNeg)) ∧ True)) else (if (S 186 (p1).toNatClampNeg) = 88 then ((vp_in p1 31) ∧ (Sf_M_cameFrom S p4 (S 187 (p1).toNatClampNeg) (S 188 (p1).toNatClampNeg) ∧ (narrow .boolean (.int (F_M_cameFrom S p4 (S 187 (p1).toNatClampNeg) (S 188 (p1).toNatClampNeg))) = .int (F_M_cameFrom S p4 (S 187 (p1).toNatClampNeg) (S 188 (p1).toNatClampNeg)) ∧ True))) else (if (S 186 (p1).toNatClampNeg) = 97 then ((vp_in p4 30) ∧ True) else (if (S 186 (p1).toNatClampNeg) = 102 then (Sf_M_compared S p1 p2 p4 ∧ (narrow .boolean (.int (F_M_compared S p1 p2 p4)) = .int (F_M_compared S p1 p2 p4) ∧ True)) else (if (S 186 (p1).toNatClampNeg) = 107 then ((vp_in p4 30) ∧ True) else (if (S 186 (p1).toNatClampNeg) = 112 then ((vp_in p4 30) ∧ True) else (if (S 186 (p1).toNatClampNeg) = 115 then ((vp_in p4 30) ∧ True) else (if (S 186 (p1).toNatClampNeg) = 118 then ((vp_in p4 30) ∧ True) else (Sf_M_someNext S p1 p2 p4 ∧ (narrow .boolean (.int (F_M_someNext S p1 p2 p4)) = .int (F_M_someNext S p1 p2 p4) ∧ True))))))))))))))))
theorem c_M_holds (T' : Nat → Nat × Nat) (G' : Nat → Nat → Option Nat) (S : (Nat → Nat → Int32)) (n : Nat) (p1 : Int32) (p2 : Int32) (p3 : Int32) (p4 : Int32) (hs : Sf_M_holds S p1 p2 p3 p4) : z_Run rm_M_holds zm_M_holds [z_r 78, .inl p1, .inl p2, .inl p3, .inl p4] (zW T' G' S n) (zq (some (.inl (F_M_holds S p1 p2 p3 p4))) (zW T' G' S n)) := by
  refine z_body (by decide) zf_M_ok (Nat.le_of_ble_eq_true rfl) (fun X M => ?_)
  obtain ⟨Q, hQ, K⟩ : ∃ Q : Int32 → Prop, (∀ v, Q v → zq (some (.inl (F_M_holds S p1 p2 p3 p4))) (zW T' G' S n) (some (.inl v)) (zW T' G' S n)) ∧ Q (F_M_holds S p1 p2 p3 p4) := ⟨fun o => F_M_holds S p1 p2 p3 p4 = o, fun v h => ⟨by rw [h], rfl⟩, rfl⟩
  show z_G X zm_M_holds (0, [(0, z_r 78), (1, .inl p1), (2, .inl p2), (3, .inl p3), (4, .inl p4)], [], zW T' G' S n, 0, 0)
  unfold F_M_holds at K
  unfold Sf_M_holds at hs
  refine z_go2 M.1 0 [(.aload_n 0, 1), (.getfield 157, 3), (.iload_n 1, 1), (.iaload, 1), (.istore 5, 2), (.aload_n 0, 1), (.getfield 154, 3), (.iload_n 1, 1), (.caload, 1)] (14, [(5, .inl (S 187 (p1).toNatClampNeg)), (0, z_r 78), (1, .inl p1), (2, .inl p2), (3, .inl p3), (4, .inl p4)], [.inl (S 186 (p1).toNatClampNeg)], zW T' G' S n, 0, 0) (by decide +kernel) rfl ⟨trivial, rfl, trivial, ⟨rfl, hs.1⟩, trivial, trivial, rfl, trivial, ⟨rfl, hs.2.1⟩, trivial⟩ ?_
  replace hs := hs.2.2
  by_cases c14_0 : (S 186 (p1).toNatClampNeg) = 33
  · rw [if_pos c14_0] at K hs
    refine z_lookE 287 M.1 (dflt := 307) (ps := #[(33, 273), (40, 299), (66, 256), (68, 244), (87, 220), (88, 229), (97, 190), (102, 211), (107, 127), (112, 148), (115, 106), (118, 169)]) (len := 106) c14_0 (off := 273) (by decide +kernel) (by decide) (by decide) (by decide) ?_
    refine z_go2 M.1 287 [(.aload_n 0, 1), (.getfield 169, 3), (.bipush 30, 2), (.aload_n 0, 1), (.getfield 163, 3), (.iload_n 1, 1), (.iaload, 1), (.imul, 1), (.iload 4, 2), (.iadd, 1), (.baload, 1)] (304, [(5, .inl (S 187 (p1).toNatClampNeg)), (0, z_r 78), (1, .inl p1), (2, .inl p2), (3, .inl p3), (4, .inl p4)], [.inl (S 191 (((30 : Int32) * (S 189 (p1).toNatClampNeg)) + p4).toNatClampNeg)], zW T' G' S n, 0, 0) (by decide +kernel) rfl ⟨trivial, rfl, trivial, trivial, rfl, trivial, ⟨rfl, hs.1⟩, trivial, trivial, trivial, ⟨rfl, hs.2.1⟩, trivial⟩ ?_
    replace hs := hs.2.2
    refine z_if_ne 311 M.1 (off := 7) (by decide +kernel) (by decide) (fun c304 => ?_) (fun c304 => ?_)
    · rw [if_neg c304] at K
      refine z_go2 M.1 311 [(.iconst 0, 1)] (312, [(5, .inl (S 187 (p1).toNatClampNeg)), (0, z_r 78), (1, .inl p1), (2, .inl p2), (3, .inl p3), (4, .inl p4)], [.inl 0], zW T' G' S n, 0, 0) (by decide +kernel) rfl ⟨trivial, trivial⟩ ?_
      exact z_iret M (by decide +kernel) .boolean rfl rfl (by decide) (by decide) (hQ _ K)
    · rw [if_pos c304] at K
      refine z_go2 M.1 307 [(.iconst 1, 1), (.goto 4, 3)] (312, [(5, .inl (S 187 (p1).toNatClampNeg)), (0, z_r 78), (1, .inl p1), (2, .inl p2), (3, .inl p3), (4, .inl p4)], [.inl 1], zW T' G' S n, 0, 0) (by decide +kernel) rfl ⟨trivial, trivial, trivial⟩ ?_
      exact z_iret M (by decide +kernel) .boolean rfl rfl (by decide) (by decide) (hQ _ K)
  · rw [if_neg c14_0] at K hs
    by_cases c14_1 : (S 186 (p1).toNatClampNeg) = 40
    · rw [if_pos c14_1] at K hs
      refine z_lookE 313 M.1 (dflt := 307) (ps := #[(33, 273), (40, 299), (66, 256), (68, 244), (87, 220), (88, 229), (97, 190), (102, 211), (107, 127), (112, 148), (115, 106), (118, 169)]) (len := 106) c14_1 (off := 299) (by decide +kernel) (by decide) (by decide) (by decide) ?_
      refine z_go2 M.1 313 [(.aload_n 0, 1), (.iload_n 1, 1), (.iload 4, 2)] (317, [(5, .inl (S 187 (p1).toNatClampNeg)), (0, z_r 78), (1, .inl p1), (2, .inl p2), (3, .inl p3), (4, .inl p4)], [.inl p4, .inl p1, z_r 78], zW T' G' S n, 0, 0) (by decide +kernel) rfl ⟨trivial, trivial, trivial, trivial⟩ ?_
      refine z_callV M.1 (av := [.inl p1, .inl p4]) (st := []) (a := 78) (ci := 14) (by decide +kernel) (c_M_joined T' G' S n p1 p4 hs.1) M.2.1 zl_M_450 zv_M_joined rfl rfl rfl ⟨by decide, by decide, by decide, by decide⟩ rfl (Nat.le_of_ble_eq_true rfl) (fun v w' hv => ?_)
      obtain ⟨rfl, rfl⟩ := hv
      replace hs := hs.2
      show z_G X zm_M_holds (320, [(5, .inl (S 187 (p1).toNatClampNeg)), (0, z_r 78), (1, .inl p1), (2, .inl p2), (3, .inl p3), (4, .inl p4)], [.inl (F_M_joined S p1 p4)], zW T' G' S n, 0, 0)
      exact z_iret M (by decide +kernel) .boolean rfl hs.1 (by decide) (by decide) (hQ _ K)
    · rw [if_neg c14_1] at K hs
      by_cases c14_2 : (S 186 (p1).toNatClampNeg) = 66
      · rw [if_pos c14_2] at K hs
        refine z_lookE 270 M.1 (dflt := 307) (ps := #[(33, 273), (40, 299), (66, 256), (68, 244), (87, 220), (88, 229), (97, 190), (102, 211), (107, 127), (112, 148), (115, 106), (118, 169)]) (len := 106) c14_2 (off := 256) (by decide +kernel) (by decide) (by decide) (by decide) ?_
        refine z_go2 M.1 270 [(.aload_n 0, 1), (.iload 4, 2)] (273, [(5, .inl (S 187 (p1).toNatClampNeg)), (0, z_r 78), (1, .inl p1), (2, .inl p2), (3, .inl p3), (4, .inl p4)], [.inl p4, z_r 78], zW T' G' S n, 0, 0) (by decide +kernel) rfl ⟨trivial, trivial, trivial⟩ ?_
        refine z_callV M.1 (av := [.inl p4]) (st := []) (a := 78) (ci := 14) (by decide +kernel) (c_M_lastBy T' G' S n p4 hs.1) M.2.1 zl_M_447 zv_M_lastBy rfl rfl rfl ⟨by decide, by decide, by decide, by decide⟩ rfl (Nat.le_of_ble_eq_true rfl) (fun v w' hv => ?_)
        obtain ⟨rfl, rfl⟩ := hv
        replace hs := hs.2
        show z_G X zm_M_holds (276, [(5, .inl (S 187 (p1).toNatClampNeg)), (0, z_r 78), (1, .inl p1), (2, .inl p2), (3, .inl p3), (4, .inl p4)], [.inl (F_M_lastBy S p4)], zW T' G' S n, 0, 0)
        refine z_go2 M.1 276 [(.iload 5, 2)] (278, [(5, .inl (S 187 (p1).toNatClampNeg)), (0, z_r 78), (1, .inl p1), (2, .inl p2), (3, .inl p3), (4, .inl p4)], [.inl (S 187 (p1).toNatClampNeg), .inl (F_M_lastBy S p4)], zW T' G' S n, 0, 0) (by decide +kernel) rfl ⟨trivial, trivial⟩ ?_
        refine z_icmp_ne 285 M.1 (off := 7) (by decide +kernel) (by decide) (fun c278 => ?_) (fun c278 => ?_)
        · rw [if_neg c278] at K
          refine z_go2 M.1 285 [(.iconst 0, 1)] (286, [(5, .inl (S 187 (p1).toNatClampNeg)), (0, z_r 78), (1, .inl p1), (2, .inl p2), (3, .inl p3), (4, .inl p4)], [.inl 0], zW T' G' S n, 0, 0) (by decide +kernel) rfl ⟨trivial, trivial⟩ ?_
          exact z_iret M (by decide +kernel) .boolean rfl rfl (by decide) (by decide) (hQ _ K)
        · rw [if_pos c278] at K
          refine z_go2 M.1 281 [(.iconst 1, 1), (.goto 4, 3)] (286, [(5, .inl (S 187 (p1).toNatClampNeg)), (0, z_r 78), (1, .inl p1), (2, .inl p2), (3, .inl p3), (4, .inl p4)], [.inl 1], zW T' G' S n, 0, 0) (by decide +kernel) rfl ⟨trivial, trivial, trivial⟩ ?_
          exact z_iret M (by decide +kernel) .boolean rfl rfl (by decide) (by decide) (hQ _ K)
      · rw [if_neg c14_2] at K hs
        by_cases c14_3 : (S 186 (p1).toNatClampNeg) = 68
        · rw [if_pos c14_3] at K hs
          refine z_lookE 258 M.1 (dflt := 307) (ps := #[(33, 273), (40, 299), (66, 256), (68, 244), (87, 220), (88, 229), (97, 190), (102, 211), (107, 127), (112, 148), (115, 106), (118, 169)]) (len := 106) c14_3 (off := 244) (by decide +kernel) (by decide) (by decide) (by decide) ?_
          refine z_go2 M.1 258 [(.aload_n 0, 1), (.iload 4, 2), (.iload_n 3, 1), (.iload 5, 2), (.isub, 1), (.iload_n 3, 1)] (266, [(5, .inl (S 187 (p1).toNatClampNeg)), (0, z_r 78), (1, .inl p1), (2, .inl p2), (3, .inl p3), (4, .inl p4)], [.inl p3, .inl (p3 - (S 187 (p1).toNatClampNeg)), .inl p4, z_r 78], zW T' G' S n, 0, 0) (by decide +kernel) rfl ⟨trivial, trivial, trivial, trivial, trivial, trivial, trivial⟩ ?_
          refine z_callV M.1 (av := [.inl p4, .inl (p3 - (S 187 (p1).toNatClampNeg)), .inl p3]) (st := []) (a := 78) (ci := 14) (by decide +kernel) (c_M_wasOf T' G' S n p4 (p3 - (S 187 (p1).toNatClampNeg)) p3 hs.1) M.2.1 zl_M_444 zv_M_wasOf rfl rfl rfl ⟨by decide, by decide, by decide, by decide⟩ rfl (Nat.le_of_ble_eq_true rfl) (fun v w' hv => ?_)
          obtain ⟨rfl, rfl⟩ := hv
          replace hs := hs.2
          show z_G X zm_M_holds (269, [(5, .inl (S 187 (p1).toNatClampNeg)), (0, z_r 78), (1, .inl p1), (2, .inl p2), (3, .inl p3), (4, .inl p4)], [.inl (F_M_wasOf S p4 (p3 - (S 187 (p1).toNatClampNeg)) p3)], zW T' G' S n, 0, 0)
          exact z_iret M (by decide +kernel) .boolean rfl hs.1 (by decide) (by decide) (hQ _ K)
        · rw [if_neg c14_3] at K hs
          by_cases c14_4 : (S 186 (p1).toNatClampNeg) = 87
          · rw [if_pos c14_4] at K hs
            refine z_lookE 234 M.1 (dflt := 307) (ps := #[(33, 273), (40, 299), (66, 256), (68, 244), (87, 220), (88, 229), (97, 190), (102, 211), (107, 127), (112, 148), (115, 106), (118, 169)]) (len := 106) c14_4 (off := 220) (by decide +kernel) (by decide) (by decide) (by decide) ?_
            refine z_go2 M.1 234 [(.aload_n 0, 1), (.iload 4, 2), (.iload 5, 2)] (239, [(5, .inl (S 187 (p1).toNatClampNeg)), (0, z_r 78), (1, .inl p1), (2, .inl p2), (3, .inl p3), (4, .inl p4)], [.inl (S 187 (p1).toNatClampNeg), .inl p4, z_r 78], zW T' G' S n, 0, 0) (by decide +kernel) rfl ⟨trivial, trivial, trivial, trivial⟩ ?_
            refine z_callV M.1 (av := [.inl p4, .inl (S 187 (p1).toNatClampNeg)]) (st := []) (a := 78) (ci := 14) (by decide +kernel) (c_M_wasIn T' G' S n p4 (S 187 (p1).toNatClampNeg) hs.1) M.2.1 zl_M_438 zv_M_wasIn rfl rfl rfl ⟨by decide, by decide, by decide, by decide⟩ rfl (Nat.le_of_ble_eq_true rfl) (fun v w' hv => ?_)
            obtain ⟨rfl, rfl⟩ := hv
            replace hs := hs.2
            show z_G X zm_M_holds (242, [(5, .inl (S 187 (p1).toNatClampNeg)), (0, z_r 78), (1, .inl p1), (2, .inl p2), (3, .inl p3), (4, .inl p4)], [.inl (F_M_wasIn S p4 (S 187 (p1).toNatClampNeg))], zW T' G' S n, 0, 0)
            exact z_iret M (by decide +kernel) .boolean rfl hs.1 (by decide) (by decide) (hQ _ K)
          · rw [if_neg c14_4] at K hs
            by_cases c14_5 : (S 186 (p1).toNatClampNeg) = 88
            · rw [if_pos c14_5] at K hs
              refine z_lookE 243 M.1 (dflt := 307) (ps := #[(33, 273), (40, 299), (66, 256), (68, 244), (87, 220), (88, 229), (97, 190), (102, 211), (107, 127), (112, 148), (115, 106), (118, 169)]) (len := 106) c14_5 (off := 229) (by decide +kernel) (by decide) (by decide) (by decide) ?_
              refine z_go2 M.1 243 [(.aload_n 0, 1), (.iload 4, 2), (.iload 5, 2), (.aload_n 0, 1), (.getfield 160, 3), (.iload_n 1, 1), (.iaload, 1)] (254, [(5, .inl (S 187 (p1).toNatClampNeg)), (0, z_r 78), (1, .inl p1), (2, .inl p2), (3, .inl p3), (4, .inl p4)], [.inl (S 188 (p1).toNatClampNeg), .inl (S 187 (p1).toNatClampNeg), .inl p4, z_r 78], zW T' G' S n, 0, 0) (by decide +kernel) rfl ⟨trivial, trivial, trivial, trivial, rfl, trivial, ⟨rfl, hs.1⟩, trivial⟩ ?_
              replace hs := hs.2
              refine z_callV M.1 (av := [.inl p4, .inl (S 187 (p1).toNatClampNeg), .inl (S 188 (p1).toNatClampNeg)]) (st := []) (a := 78) (ci := 14) (by decide +kernel) (c_M_cameFrom T' G' S n p4 (S 187 (p1).toNatClampNeg) (S 188 (p1).toNatClampNeg) hs.1) M.2.1 zl_M_441 zv_M_cameFrom rfl rfl rfl ⟨by decide, by decide, by decide, by decide⟩ rfl (Nat.le_of_ble_eq_true rfl) (fun v w' hv => ?_)
              obtain ⟨rfl, rfl⟩ := hv
              replace hs := hs.2
              show z_G X zm_M_holds (257, [(5, .inl (S 187 (p1).toNatClampNeg)), (0, z_r 78), (1, .inl p1), (2, .inl p2), (3, .inl p3), (4, .inl p4)], [.inl (F_M_cameFrom S p4 (S 187 (p1).toNatClampNeg) (S 188 (p1).toNatClampNeg))], zW T' G' S n, 0, 0)
              exact z_iret M (by decide +kernel) .boolean rfl hs.1 (by decide) (by decide) (hQ _ K)
            · rw [if_neg c14_5] at K hs
              by_cases c14_6 : (S 186 (p1).toNatClampNeg) = 97
              · rw [if_pos c14_6] at K hs
                refine z_lookE 204 M.1 (dflt := 307) (ps := #[(33, 273), (40, 299), (66, 256), (68, 244), (87, 220), (88, 229), (97, 190), (102, 211), (107, 127), (112, 148), (115, 106), (118, 169)]) (len := 106) c14_6 (off := 190) (by decide +kernel) (by decide) (by decide) (by decide) ?_
                refine z_go2 M.1 204 [(.aload_n 0, 1), (.getfield 38, 3), (.getfield 204, 3), (.iload 4, 2), (.iaload, 1), (.iload 5, 2)] (216, [(5, .inl (S 187 (p1).toNatClampNeg)), (0, z_r 78), (1, .inl p1), (2, .inl p2), (3, .inl p3), (4, .inl p4)], [.inl (S 187 (p1).toNatClampNeg), .inl (S 103 (p4).toNatClampNeg)], zW T' G' S n, 0, 0) (by decide +kernel) rfl ⟨trivial, rfl, rfl, trivial, ⟨rfl, hs.1⟩, trivial, trivial⟩ ?_
                replace hs := hs.2
                refine z_icmp_ne 223 M.1 (off := 7) (by decide +kernel) (by decide) (fun c216 => ?_) (fun c216 => ?_)
                · rw [if_neg c216] at K
                  refine z_go2 M.1 223 [(.iconst 0, 1)] (224, [(5, .inl (S 187 (p1).toNatClampNeg)), (0, z_r 78), (1, .inl p1), (2, .inl p2), (3, .inl p3), (4, .inl p4)], [.inl 0], zW T' G' S n, 0, 0) (by decide +kernel) rfl ⟨trivial, trivial⟩ ?_
                  exact z_iret M (by decide +kernel) .boolean rfl rfl (by decide) (by decide) (hQ _ K)
                · rw [if_pos c216] at K
                  refine z_go2 M.1 219 [(.iconst 1, 1), (.goto 4, 3)] (224, [(5, .inl (S 187 (p1).toNatClampNeg)), (0, z_r 78), (1, .inl p1), (2, .inl p2), (3, .inl p3), (4, .inl p4)], [.inl 1], zW T' G' S n, 0, 0) (by decide +kernel) rfl ⟨trivial, trivial, trivial⟩ ?_
                  exact z_iret M (by decide +kernel) .boolean rfl rfl (by decide) (by decide) (hQ _ K)
              · rw [if_neg c14_6] at K hs
                by_cases c14_7 : (S 186 (p1).toNatClampNeg) = 102
                · rw [if_pos c14_7] at K hs
                  refine z_lookE 225 M.1 (dflt := 307) (ps := #[(33, 273), (40, 299), (66, 256), (68, 244), (87, 220), (88, 229), (97, 190), (102, 211), (107, 127), (112, 148), (115, 106), (118, 169)]) (len := 106) c14_7 (off := 211) (by decide +kernel) (by decide) (by decide) (by decide) ?_
                  refine z_go2 M.1 225 [(.aload_n 0, 1), (.iload_n 1, 1), (.iload_n 2, 1), (.iload 4, 2)] (230, [(5, .inl (S 187 (p1).toNatClampNeg)), (0, z_r 78), (1, .inl p1), (2, .inl p2), (3, .inl p3), (4, .inl p4)], [.inl p4, .inl p2, .inl p1, z_r 78], zW T' G' S n, 0, 0) (by decide +kernel) rfl ⟨trivial, trivial, trivial, trivial, trivial⟩ ?_
                  refine z_callV M.1 (av := [.inl p1, .inl p2, .inl p4]) (st := []) (a := 78) (ci := 14) (by decide +kernel) (c_M_compared T' G' S n p1 p2 p4 hs.1) M.2.1 zl_M_435 zv_M_compared rfl rfl rfl ⟨by decide, by decide, by decide, by decide⟩ rfl (Nat.le_of_ble_eq_true rfl) (fun v w' hv => ?_)
                  obtain ⟨rfl, rfl⟩ := hv
                  replace hs := hs.2
                  show z_G X zm_M_holds (233, [(5, .inl (S 187 (p1).toNatClampNeg)), (0, z_r 78), (1, .inl p1), (2, .inl p2), (3, .inl p3), (4, .inl p4)], [.inl (F_M_compared S p1 p2 p4)], zW T' G' S n, 0, 0)
                  exact z_iret M (by decide +kernel) .boolean rfl hs.1 (by decide) (by decide) (hQ _ K)
                · rw [if_neg c14_7] at K hs
                  by_cases c14_8 : (S 186 (p1).toNatClampNeg) = 107
                  · rw [if_pos c14_8] at K hs
                    refine z_lookE 141 M.1 (dflt := 307) (ps := #[(33, 273), (40, 299), (66, 256), (68, 244), (87, 220), (88, 229), (97, 190), (102, 211), (107, 127), (112, 148), (115, 106), (118, 169)]) (len := 106) c14_8 (off := 127) (by decide +kernel) (by decide) (by decide) (by decide) ?_
                    refine z_go2 M.1 141 [(.aload_n 0, 1), (.getfield 38, 3), (.getfield 237, 3), (.iload 4, 2), (.iaload, 1), (.iload 5, 2)] (153, [(5, .inl (S 187 (p1).toNatClampNeg)), (0, z_r 78), (1, .inl p1), (2, .inl p2), (3, .inl p3), (4, .inl p4)], [.inl (S 187 (p1).toNatClampNeg), .inl (S 100 (p4).toNatClampNeg)], zW T' G' S n, 0, 0) (by decide +kernel) rfl ⟨trivial, rfl, rfl, trivial, ⟨rfl, hs.1⟩, trivial, trivial⟩ ?_
                    replace hs := hs.2
                    refine z_icmp_ne 160 M.1 (off := 7) (by decide +kernel) (by decide) (fun c153 => ?_) (fun c153 => ?_)
                    · rw [if_neg c153] at K
                      refine z_go2 M.1 160 [(.iconst 0, 1)] (161, [(5, .inl (S 187 (p1).toNatClampNeg)), (0, z_r 78), (1, .inl p1), (2, .inl p2), (3, .inl p3), (4, .inl p4)], [.inl 0], zW T' G' S n, 0, 0) (by decide +kernel) rfl ⟨trivial, trivial⟩ ?_
                      exact z_iret M (by decide +kernel) .boolean rfl rfl (by decide) (by decide) (hQ _ K)
                    · rw [if_pos c153] at K
                      refine z_go2 M.1 156 [(.iconst 1, 1), (.goto 4, 3)] (161, [(5, .inl (S 187 (p1).toNatClampNeg)), (0, z_r 78), (1, .inl p1), (2, .inl p2), (3, .inl p3), (4, .inl p4)], [.inl 1], zW T' G' S n, 0, 0) (by decide +kernel) rfl ⟨trivial, trivial, trivial⟩ ?_
                      exact z_iret M (by decide +kernel) .boolean rfl rfl (by decide) (by decide) (hQ _ K)
                  · rw [if_neg c14_8] at K hs
                    by_cases c14_9 : (S 186 (p1).toNatClampNeg) = 112
                    · rw [if_pos c14_9] at K hs
                      refine z_lookE 162 M.1 (dflt := 307) (ps := #[(33, 273), (40, 299), (66, 256), (68, 244), (87, 220), (88, 229), (97, 190), (102, 211), (107, 127), (112, 148), (115, 106), (118, 169)]) (len := 106) c14_9 (off := 148) (by decide +kernel) (by decide) (by decide) (by decide) ?_
                      refine z_go2 M.1 162 [(.aload_n 0, 1), (.getfield 38, 3), (.getfield 216, 3), (.iload 4, 2), (.iaload, 1), (.iload 5, 2)] (174, [(5, .inl (S 187 (p1).toNatClampNeg)), (0, z_r 78), (1, .inl p1), (2, .inl p2), (3, .inl p3), (4, .inl p4)], [.inl (S 187 (p1).toNatClampNeg), .inl (S 99 (p4).toNatClampNeg)], zW T' G' S n, 0, 0) (by decide +kernel) rfl ⟨trivial, rfl, rfl, trivial, ⟨rfl, hs.1⟩, trivial, trivial⟩ ?_
                      replace hs := hs.2
                      refine z_icmp_ne 181 M.1 (off := 7) (by decide +kernel) (by decide) (fun c174 => ?_) (fun c174 => ?_)
                      · rw [if_neg c174] at K
                        refine z_go2 M.1 181 [(.iconst 0, 1)] (182, [(5, .inl (S 187 (p1).toNatClampNeg)), (0, z_r 78), (1, .inl p1), (2, .inl p2), (3, .inl p3), (4, .inl p4)], [.inl 0], zW T' G' S n, 0, 0) (by decide +kernel) rfl ⟨trivial, trivial⟩ ?_
                        exact z_iret M (by decide +kernel) .boolean rfl rfl (by decide) (by decide) (hQ _ K)
                      · rw [if_pos c174] at K
                        refine z_go2 M.1 177 [(.iconst 1, 1), (.goto 4, 3)] (182, [(5, .inl (S 187 (p1).toNatClampNeg)), (0, z_r 78), (1, .inl p1), (2, .inl p2), (3, .inl p3), (4, .inl p4)], [.inl 1], zW T' G' S n, 0, 0) (by decide +kernel) rfl ⟨trivial, trivial, trivial⟩ ?_
                        exact z_iret M (by decide +kernel) .boolean rfl rfl (by decide) (by decide) (hQ _ K)
                    · rw [if_neg c14_9] at K hs
                      by_cases c14_10 : (S 186 (p1).toNatClampNeg) = 115
                      · rw [if_pos c14_10] at K hs
                        refine z_lookE 120 M.1 (dflt := 307) (ps := #[(33, 273), (40, 299), (66, 256), (68, 244), (87, 220), (88, 229), (97, 190), (102, 211), (107, 127), (112, 148), (115, 106), (118, 169)]) (len := 106) c14_10 (off := 106) (by decide +kernel) (by decide) (by decide) (by decide) ?_
                        refine z_go2 M.1 120 [(.aload_n 0, 1), (.getfield 38, 3), (.getfield 198, 3), (.iload 4, 2), (.iaload, 1), (.iload 5, 2)] (132, [(5, .inl (S 187 (p1).toNatClampNeg)), (0, z_r 78), (1, .inl p1), (2, .inl p2), (3, .inl p3), (4, .inl p4)], [.inl (S 187 (p1).toNatClampNeg), .inl (S 101 (p4).toNatClampNeg)], zW T' G' S n, 0, 0) (by decide +kernel) rfl ⟨trivial, rfl, rfl, trivial, ⟨rfl, hs.1⟩, trivial, trivial⟩ ?_
                        replace hs := hs.2
                        refine z_icmp_ne 139 M.1 (off := 7) (by decide +kernel) (by decide) (fun c132 => ?_) (fun c132 => ?_)
                        · rw [if_neg c132] at K
                          refine z_go2 M.1 139 [(.iconst 0, 1)] (140, [(5, .inl (S 187 (p1).toNatClampNeg)), (0, z_r 78), (1, .inl p1), (2, .inl p2), (3, .inl p3), (4, .inl p4)], [.inl 0], zW T' G' S n, 0, 0) (by decide +kernel) rfl ⟨trivial, trivial⟩ ?_
                          exact z_iret M (by decide +kernel) .boolean rfl rfl (by decide) (by decide) (hQ _ K)
                        · rw [if_pos c132] at K
                          refine z_go2 M.1 135 [(.iconst 1, 1), (.goto 4, 3)] (140, [(5, .inl (S 187 (p1).toNatClampNeg)), (0, z_r 78), (1, .inl p1), (2, .inl p2), (3, .inl p3), (4, .inl p4)], [.inl 1], zW T' G' S n, 0, 0) (by decide +kernel) rfl ⟨trivial, trivial, trivial⟩ ?_
                          exact z_iret M (by decide +kernel) .boolean rfl rfl (by decide) (by decide) (hQ _ K)
                      · rw [if_neg c14_10] at K hs
                        by_cases c14_11 : (S 186 (p1).toNatClampNeg) = 118
                        · rw [if_pos c14_11] at K hs
                          refine z_lookE 183 M.1 (dflt := 307) (ps := #[(33, 273), (40, 299), (66, 256), (68, 244), (87, 220), (88, 229), (97, 190), (102, 211), (107, 127), (112, 148), (115, 106), (118, 169)]) (len := 106) c14_11 (off := 169) (by decide +kernel) (by decide) (by decide) (by decide) ?_
                          refine z_go2 M.1 183 [(.aload_n 0, 1), (.getfield 38, 3), (.getfield 213, 3), (.iload 4, 2), (.iaload, 1), (.iload 5, 2)] (195, [(5, .inl (S 187 (p1).toNatClampNeg)), (0, z_r 78), (1, .inl p1), (2, .inl p2), (3, .inl p3), (4, .inl p4)], [.inl (S 187 (p1).toNatClampNeg), .inl (S 106 (p4).toNatClampNeg)], zW T' G' S n, 0, 0) (by decide +kernel) rfl ⟨trivial, rfl, rfl, trivial, ⟨rfl, hs.1⟩, trivial, trivial⟩ ?_
                          replace hs := hs.2
                          refine z_icmp_ne 202 M.1 (off := 7) (by decide +kernel) (by decide) (fun c195 => ?_) (fun c195 => ?_)
                          · rw [if_neg c195] at K
                            refine z_go2 M.1 202 [(.iconst 0, 1)] (203, [(5, .inl (S 187 (p1).toNatClampNeg)), (0, z_r 78), (1, .inl p1), (2, .inl p2), (3, .inl p3), (4, .inl p4)], [.inl 0], zW T' G' S n, 0, 0) (by decide +kernel) rfl ⟨trivial, trivial⟩ ?_
                            exact z_iret M (by decide +kernel) .boolean rfl rfl (by decide) (by decide) (hQ _ K)
                          · rw [if_pos c195] at K
                            refine z_go2 M.1 198 [(.iconst 1, 1), (.goto 4, 3)] (203, [(5, .inl (S 187 (p1).toNatClampNeg)), (0, z_r 78), (1, .inl p1), (2, .inl p2), (3, .inl p3), (4, .inl p4)], [.inl 1], zW T' G' S n, 0, 0) (by decide +kernel) rfl ⟨trivial, trivial, trivial⟩ ?_
                            exact z_iret M (by decide +kernel) .boolean rfl rfl (by decide) (by decide) (hQ _ K)
                        · rw [if_neg c14_11] at K hs
                          refine z_lookup 321 M.1 (dflt := 307) (ps := #[(33, 273), (40, 299), (66, 256), (68, 244), (87, 220), (88, 229), (97, 190), (102, 211), (107, 127), (112, 148), (115, 106), (118, 169)]) (len := 106) (off := 307) (by decide +kernel) (by decide) (by show Op.lookupswitch.offset [(33, 273), (40, 299), (66, 256), (68, 244), (87, 220), (88, 229), (97, 190), (102, 211), (107, 127), (112, 148), (115, 106), (118, 169)] 307 _ = _; rw [lv_osw c14_0 (k := 33) (by decide), lv_osw c14_1 (k := 40) (by decide), lv_osw c14_2 (k := 66) (by decide), lv_osw c14_3 (k := 68) (by decide), lv_osw c14_4 (k := 87) (by decide), lv_osw c14_5 (k := 88) (by decide), lv_osw c14_6 (k := 97) (by decide), lv_osw c14_7 (k := 102) (by decide), lv_osw c14_8 (k := 107) (by decide), lv_osw c14_9 (k := 112) (by decide), lv_osw c14_10 (k := 115) (by decide), lv_osw c14_11 (k := 118) (by decide)]; rfl) (by decide) ?_
                          refine z_go2 M.1 321 [(.aload_n 0, 1), (.iload_n 1, 1), (.iload_n 2, 1), (.iload 4, 2)] (326, [(5, .inl (S 187 (p1).toNatClampNeg)), (0, z_r 78), (1, .inl p1), (2, .inl p2), (3, .inl p3), (4, .inl p4)], [.inl p4, .inl p2, .inl p1, z_r 78], zW T' G' S n, 0, 0) (by decide +kernel) rfl ⟨trivial, trivial, trivial, trivial, trivial⟩ ?_
                          refine z_callV M.1 (av := [.inl p1, .inl p2, .inl p4]) (st := []) (a := 78) (ci := 14) (by decide +kernel) (c_M_someNext T' G' S n p1 p2 p4 hs.1) M.2.1 zl_M_453 zv_M_someNext rfl rfl rfl ⟨by decide, by decide, by decide, by decide⟩ rfl (Nat.le_of_ble_eq_true rfl) (fun v w' hv => ?_)
                          obtain ⟨rfl, rfl⟩ := hv
                          replace hs := hs.2
                          show z_G X zm_M_holds (329, [(5, .inl (S 187 (p1).toNatClampNeg)), (0, z_r 78), (1, .inl p1), (2, .inl p2), (3, .inl p3), (4, .inl p4)], [.inl (F_M_someNext S p1 p2 p4)], zW T' G' S n, 0, 0)
                          exact z_iret M (by decide +kernel) .boolean rfl hs.1 (by decide) (by decide) (hQ _ K)

-- TrackHouseModel.finds
abbrev rm_M_finds : Room := zr 7
def F_M_finds_l14_61 (rc : (Nat → Nat → Int32) → Int32 → ((Nat → Nat → Int32))) (S : (Nat → Nat → Int32)) (x1 : Int32) (x2 : Int32) (x3 : Int32) (x4 : Int32) (s0 : Int32) : ((Nat → Nat → Int32)) := (rc (z_uS S 191 (s0).toNatClampNeg (vp_nar .boolean 0)) (x4 + 1))
def Sf_M_finds_l14_61 (rc : (Nat → Nat → Int32) → Int32 → ((Nat → Nat → Int32))) (sr : (Nat → Nat → Int32) → Int32 → Prop) (S : (Nat → Nat → Int32)) (x1 : Int32) (x2 : Int32) (x3 : Int32) (x4 : Int32) (s0 : Int32) : Prop := ((vp_in s0 930) ∧ (sr (z_uS S 191 (s0).toNatClampNeg (vp_nar .boolean 0)) (x4 + 1)))
theorem t_M_finds_l14_61 {X : z_X} {Post : Option z_V → z_W → Prop} (M : z_M X zm_M_finds rm_M_finds Post) {T' : Nat → Nat × Nat} {G' : Nat → Nat → Option Nat} {n : Nat} {Q : ((Nat → Nat → Int32)) → Prop} (rc : (Nat → Nat → Int32) → Int32 → ((Nat → Nat → Int32))) (sr : (Nat → Nat → Int32) → Int32 → Prop) (S : (Nat → Nat → Int32)) (x1 : Int32) (x2 : Int32) (x3 : Int32) (x4 : Int32) (s0 : Int32) (hE : ∀ (S' : (Nat → Nat → Int32)), Q S' → z_G X zm_M_finds (69, [(0, z_r 78), (1, .inl x1), (2, .inl x2), (3, .inl x3)], [], zW T' G' S' n, 0, 0)) (hC : ∀ (S : (Nat → Nat → Int32)) (x4 : Int32), Q (rc S x4) → sr S x4 → z_G X zm_M_finds (14, [(0, z_r 78), (1, .inl x1), (2, .inl x2), (3, .inl x3), (4, .inl x4)], [], zW T' G' S n, 0, 0)) (K : Q (F_M_finds_l14_61 rc S x1 x2 x3 x4 s0)) (hs : Sf_M_finds_l14_61 rc sr S x1 x2 x3 x4 s0) : z_G X zm_M_finds (61, [(0, z_r 78), (1, .inl x1), (2, .inl x2), (3, .inl x3), (4, .inl x4)], [.inl s0, z_r 191], zW T' G' S n, 0, 0) := by
  unfold F_M_finds_l14_61 at K
  unfold Sf_M_finds_l14_61 at hs
  refine z_go2 M.1 61 [(.iconst 0, 1), (.bastore, 1), (.iinc 4 1, 3), (.goto (-52), 3)] (14, [(4, .inl (x4 + 1)), (0, z_r 78), (1, .inl x1), (2, .inl x2), (3, .inl x3)], [], zW T' G' (z_uS S 191 (s0).toNatClampNeg (vp_nar .boolean 0)) n, 0, 0) (by decide +kernel) rfl ⟨trivial, ⟨rfl, hs.1⟩, trivial, trivial, trivial⟩ ?_
  replace hs := hs.2
  exact z_lvs (lv' := [(0, z_r 78), (1, .inl x1), (2, .inl x2), (3, .inl x3), (4, .inl (x4 + 1))]) [1, 2, 3, 4, 0] rfl (hC (z_uS S 191 (s0).toNatClampNeg (vp_nar .boolean 0)) (x4 + 1) K hs)
def F_M_finds_L14 (x1 : Int32) (x2 : Int32) (x3 : Int32) : Nat → (Nat → Nat → Int32) → Int32 → ((Nat → Nat → Int32))
  | 0, S, x4 => S
  | f + 1, S, x4 => (if (30 : Int32) ≤ x4 then S else (if (S 107 (x4).toNatClampNeg) = 0 then (F_M_finds_l14_61 (F_M_finds_L14 x1 x2 x3 f) S x1 x2 x3 x4 (((30 : Int32) * x3) + x4)) else (if (F_M_holds S x3 x1 x2 x4) = 0 then (F_M_finds_l14_61 (F_M_finds_L14 x1 x2 x3 f) S x1 x2 x3 x4 (((30 : Int32) * x3) + x4)) else ((F_M_finds_L14 x1 x2 x3 f) (z_uS S 191 (((30 : Int32) * x3) + x4).toNatClampNeg (vp_nar .boolean 1)) (x4 + 1)))))
def Sf_M_finds_L14 (x1 : Int32) (x2 : Int32) (x3 : Int32) : Nat → (Nat → Nat → Int32) → Int32 → Prop
  | 0, _, _ => False
  | f + 1, S, x4 => (if (30 : Int32) ≤ x4 then True else ((vp_in x4 30) ∧ (if (S 107 (x4).toNatClampNeg) = 0 then (Sf_M_finds_l14_61 (F_M_finds_L14 x1 x2 x3 f) (Sf_M_finds_L14 x1 x2 x3 f) S x1 x2 x3 x4 (((30 : Int32) * x3) + x4)) else (Sf_M_holds S x3 x1 x2 x4 ∧ (if (F_M_holds S x3 x1 x2 x4) = 0 then (Sf_M_finds_l14_61 (F_M_finds_L14 x1 x2 x3 f) (Sf_M_finds_L14 x1 x2 x3 f) S x1 x2 x3 x4 (((30 : Int32) * x3) + x4)) else ((vp_in (((30 : Int32) * x3) + x4) 930) ∧ ((Sf_M_finds_L14 x1 x2 x3 f) (z_uS S 191 (((30 : Int32) * x3) + x4).toNatClampNeg (vp_nar .boolean 1)) (x4 + 1))))))))
theorem t_M_finds_L14 {X : z_X} {Post : Option z_V → z_W → Prop} (M : z_M X zm_M_finds rm_M_finds Post) {T' : Nat → Nat × Nat} {G' : Nat → Nat → Option Nat} {n : Nat} {Q : ((Nat → Nat → Int32)) → Prop}  (x1 : Int32) (x2 : Int32) (x3 : Int32) (hE : ∀ (S' : (Nat → Nat → Int32)), Q S' → z_G X zm_M_finds (69, [(0, z_r 78), (1, .inl x1), (2, .inl x2), (3, .inl x3)], [], zW T' G' S' n, 0, 0)) (f : Nat) : ∀ (S : (Nat → Nat → Int32)) (x4 : Int32), Q (F_M_finds_L14 x1 x2 x3 f S x4) → Sf_M_finds_L14 x1 x2 x3 f S x4 → z_G X zm_M_finds (14, [(0, z_r 78), (1, .inl x1), (2, .inl x2), (3, .inl x3), (4, .inl x4)], [], zW T' G' S n, 0, 0) := by
  induction f with
  | zero => intro S x4 K hs; exact False.elim hs
  | succ f hC =>
    intro S x4 K hs
    rw [F_M_finds_L14] at K
    rw [Sf_M_finds_L14] at hs
    refine z_go2 M.1 14 [(.iload 4, 2), (.bipush 30, 2)] (18, [(0, z_r 78), (1, .inl x1), (2, .inl x2), (3, .inl x3), (4, .inl x4)], [.inl 30, .inl x4], zW T' G' S n, 0, 0) (by decide +kernel) rfl ⟨trivial, trivial, trivial⟩ ?_
    refine z_icmp_ge 69 M.1 (off := 51) (by decide +kernel) (by decide) (fun c18 => ?_) (fun c18 => ?_)
    · rw [if_pos c18] at K hs
      exact z_lvs (lv' := [(0, z_r 78), (1, .inl x1), (2, .inl x2), (3, .inl x3)]) [0, 1, 2, 3] rfl (hE S K)
    · rw [if_neg c18] at K hs
      refine z_go2 M.1 21 [(.aload_n 0, 1), (.getfield 169, 3), (.bipush 30, 2), (.iload_n 3, 1), (.imul, 1), (.iload 4, 2), (.iadd, 1), (.aload_n 0, 1), (.getfield 38, 3), (.getfield 226, 3), (.iload 4, 2), (.baload, 1)] (42, [(0, z_r 78), (1, .inl x1), (2, .inl x2), (3, .inl x3), (4, .inl x4)], [.inl (S 107 (x4).toNatClampNeg), .inl (((30 : Int32) * x3) + x4), z_r 191], zW T' G' S n, 0, 0) (by decide +kernel) rfl ⟨trivial, rfl, trivial, trivial, trivial, trivial, trivial, trivial, rfl, rfl, trivial, ⟨rfl, hs.1⟩, trivial⟩ ?_
      replace hs := hs.2
      refine z_if_eq 61 M.1 (off := 19) (by decide +kernel) (by decide) (fun c42 => ?_) (fun c42 => ?_)
      · rw [if_pos c42] at K hs
        exact z_lvs (lv' := [(0, z_r 78), (1, .inl x1), (2, .inl x2), (3, .inl x3), (4, .inl x4)]) [0, 1, 2, 3, 4] rfl (t_M_finds_l14_61 M (F_M_finds_L14 x1 x2 x3 f) (Sf_M_finds_L14 x1 x2 x3 f) S x1 x2 x3 x4 (((30 : Int32) * x3) + x4) hE hC K hs)
      · rw [if_neg c42] at K hs
        refine z_go2 M.1 45 [(.aload_n 0, 1), (.iload_n 3, 1), (.iload_n 1, 1), (.iload_n 2, 1), (.iload 4, 2)] (51, [(0, z_r 78), (1, .inl x1), (2, .inl x2), (3, .inl x3), (4, .inl x4)], [.inl x4, .inl x2, .inl x1, .inl x3, z_r 78, .inl (((30 : Int32) * x3) + x4), z_r 191], zW T' G' S n, 0, 0) (by decide +kernel) rfl ⟨trivial, trivial, trivial, trivial, trivial, trivial⟩ ?_
        refine z_callV M.1 (av := [.inl x3, .inl x1, .inl x2, .inl x4]) (st := [.inl (((30 : Int32) * x3) + x4), z_r 191]) (a := 78) (ci := 14) (by decide +kernel) (c_M_holds T' G' S n x3 x1 x2 x4 hs.1) M.2.1 zl_M_456 zv_M_holds rfl rfl rfl ⟨by decide, by decide, by decide, by decide⟩ rfl (Nat.le_of_ble_eq_true rfl) (fun v w' hv => ?_)
        obtain ⟨rfl, rfl⟩ := hv
        replace hs := hs.2
        show z_G X zm_M_finds (54, [(0, z_r 78), (1, .inl x1), (2, .inl x2), (3, .inl x3), (4, .inl x4)], [.inl (F_M_holds S x3 x1 x2 x4), .inl (((30 : Int32) * x3) + x4), z_r 191], zW T' G' S n, 0, 0)
        refine z_if_eq 61 M.1 (off := 7) (by decide +kernel) (by decide) (fun c54 => ?_) (fun c54 => ?_)
        · rw [if_pos c54] at K hs
          exact z_lvs (lv' := [(0, z_r 78), (1, .inl x1), (2, .inl x2), (3, .inl x3), (4, .inl x4)]) [0, 1, 2, 3, 4] rfl (t_M_finds_l14_61 M (F_M_finds_L14 x1 x2 x3 f) (Sf_M_finds_L14 x1 x2 x3 f) S x1 x2 x3 x4 (((30 : Int32) * x3) + x4) hE hC K hs)
        · rw [if_neg c54] at K hs
          refine z_go2 M.1 57 [(.iconst 1, 1), (.goto 4, 3), (.bastore, 1), (.iinc 4 1, 3), (.goto (-52), 3)] (14, [(4, .inl (x4 + 1)), (0, z_r 78), (1, .inl x1), (2, .inl x2), (3, .inl x3)], [], zW T' G' (z_uS S 191 (((30 : Int32) * x3) + x4).toNatClampNeg (vp_nar .boolean 1)) n, 0, 0) (by decide +kernel) rfl ⟨trivial, trivial, ⟨rfl, hs.1⟩, trivial, trivial, trivial⟩ ?_
          replace hs := hs.2
          exact z_lvs (lv' := [(0, z_r 78), (1, .inl x1), (2, .inl x2), (3, .inl x3), (4, .inl (x4 + 1))]) [1, 2, 3, 4, 0] rfl (hC (z_uS S 191 (((30 : Int32) * x3) + x4).toNatClampNeg (vp_nar .boolean 1)) (x4 + 1) K hs)
def F_M_finds_L7 (x1 : Int32) (x2 : Int32) : Nat → (Nat → Nat → Int32) → Int32 → ((Nat → Nat → Int32))
  | 0, S, x3 => S
  | f + 1, S, x3 => (if x3 < 0 then S else (match F_M_finds_L14 x1 x2 x3 1300 S 0 with | S14 => ((F_M_finds_L7 x1 x2 f) S14 (x3 + (-1)))))
def Sf_M_finds_L7 (x1 : Int32) (x2 : Int32) : Nat → (Nat → Nat → Int32) → Int32 → Prop
  | 0, _, _ => False
  | f + 1, S, x3 => (if x3 < 0 then True else (Sf_M_finds_L14 x1 x2 x3 1300 S 0 ∧ (match F_M_finds_L14 x1 x2 x3 1300 S 0 with | S14 => ((Sf_M_finds_L7 x1 x2 f) S14 (x3 + (-1))))))
theorem t_M_finds_L7 {X : z_X} {Post : Option z_V → z_W → Prop} (M : z_M X zm_M_finds rm_M_finds Post) {T' : Nat → Nat × Nat} {G' : Nat → Nat → Option Nat} {n : Nat} {Q : ((Nat → Nat → Int32)) → Prop}  (x1 : Int32) (x2 : Int32) (hE : ∀ (S' : (Nat → Nat → Int32)), Q S' → z_G X zm_M_finds (75, [], [], zW T' G' S' n, 0, 0)) (f : Nat) : ∀ (S : (Nat → Nat → Int32)) (x3 : Int32), Q (F_M_finds_L7 x1 x2 f S x3) → Sf_M_finds_L7 x1 x2 f S x3 → z_G X zm_M_finds (7, [(0, z_r 78), (1, .inl x1), (2, .inl x2), (3, .inl x3)], [], zW T' G' S n, 0, 0) := by
  induction f with
  | zero => intro S x3 K hs; exact False.elim hs
  | succ f hC =>
    intro S x3 K hs
    rw [F_M_finds_L7] at K
    rw [Sf_M_finds_L7] at hs
    refine z_go2 M.1 7 [(.iload_n 3, 1)] (8, [(0, z_r 78), (1, .inl x1), (2, .inl x2), (3, .inl x3)], [.inl x3], zW T' G' S n, 0, 0) (by decide +kernel) rfl ⟨trivial, trivial⟩ ?_
    refine z_if_lt 75 M.1 (off := 67) (by decide +kernel) (by decide) (fun c8 => ?_) (fun c8 => ?_)
    · rw [if_pos c8] at K hs
      exact z_lvs (lv' := []) [] rfl (hE S K)
    · rw [if_neg c8] at K hs
      refine z_go2 M.1 11 [(.iconst 0, 1), (.istore 4, 2)] (14, [(4, .inl 0), (0, z_r 78), (1, .inl x1), (2, .inl x2), (3, .inl x3)], [], zW T' G' S n, 0, 0) (by decide +kernel) rfl ⟨trivial, trivial, trivial⟩ ?_
      refine z_lvs (lv' := [(0, z_r 78), (1, .inl x1), (2, .inl x2), (3, .inl x3), (4, .inl 0)]) [1, 2, 3, 4, 0] rfl ?_
      refine t_M_finds_L14 M (Q := fun o => F_M_finds_L14 x1 x2 x3 1300 S 0 = o) x1 x2 x3 (fun S14 hL14 => ?_) 1300 S 0 rfl hs.1
      replace hs := hs.2
      rw [hL14] at K
      try rw [hL14] at hs
      try dsimp only at K hs
      refine z_go2 M.1 69 [(.iinc 3 (-1), 3), (.goto (-65), 3)] (7, [(3, .inl (x3 + (-1))), (0, z_r 78), (1, .inl x1), (2, .inl x2)], [], zW T' G' S14 n, 0, 0) (by decide +kernel) rfl ⟨trivial, trivial, trivial⟩ ?_
      exact z_lvs (lv' := [(0, z_r 78), (1, .inl x1), (2, .inl x2), (3, .inl (x3 + (-1)))]) [1, 2, 3, 0] rfl (hC S14 (x3 + (-1)) K hs)
def F_M_finds (S : (Nat → Nat → Int32)) (p1 : Int32) (p2 : Int32) : (Nat → Nat → Int32) := (match F_M_finds_L7 p1 p2 1300 S ((S 78 54) - 1) with | S7 => S7)
def Sf_M_finds (S : (Nat → Nat → Int32)) (p1 : Int32) (p2 : Int32) : Prop := (Sf_M_finds_L7 p1 p2 1300 S ((S 78 54) - 1) ∧ True)
theorem c_M_finds (T' : Nat → Nat × Nat) (G' : Nat → Nat → Option Nat) (S : (Nat → Nat → Int32)) (n : Nat) (p1 : Int32) (p2 : Int32) (hs : Sf_M_finds S p1 p2) : z_Run rm_M_finds zm_M_finds [z_r 78, .inl p1, .inl p2] (zW T' G' S n) (zq none (zW T' G' (F_M_finds S p1 p2) n)) := by
  refine z_body (by decide) zf_M_ok (Nat.le_of_ble_eq_true rfl) (fun X M => ?_)
  obtain ⟨Q, hQ, K⟩ : ∃ Q : (Nat → Nat → Int32) → Prop, (∀ S', Q S' → zq none (zW T' G' (F_M_finds S p1 p2) n) none (zW T' G' S' n)) ∧ Q (F_M_finds S p1 p2) := ⟨fun o => F_M_finds S p1 p2 = o, fun S' h => ⟨rfl, by rw [h]⟩, rfl⟩
  show z_G X zm_M_finds (0, [(0, z_r 78), (1, .inl p1), (2, .inl p2)], [], zW T' G' S n, 0, 0)
  unfold F_M_finds at K
  unfold Sf_M_finds at hs
  refine z_go2 M.1 0 [(.aload_n 0, 1), (.getfield 401, 3), (.iconst 1, 1), (.isub, 1), (.istore_n 3, 1)] (7, [(3, .inl ((S 78 54) - 1)), (0, z_r 78), (1, .inl p1), (2, .inl p2)], [], zW T' G' S n, 0, 0) (by decide +kernel) rfl ⟨trivial, rfl, trivial, trivial, trivial, trivial⟩ ?_
  refine z_lvs (lv' := [(0, z_r 78), (1, .inl p1), (2, .inl p2), (3, .inl ((S 78 54) - 1))]) [1, 2, 3, 0] rfl ?_
  refine t_M_finds_L7 M (Q := fun o => F_M_finds_L7 p1 p2 1300 S ((S 78 54) - 1) = o) p1 p2 (fun S7 hL7 => ?_) 1300 S ((S 78 54) - 1) rfl hs.1
  replace hs := hs.2
  rw [hL7] at K
  try dsimp only at K
  exact z_vret M (by decide +kernel) rfl (by decide) (by decide) (hQ _ K)

-- TrackHouseModel.isFound
abbrev rm_M_isFound : Room := zr 2
def F_M_isFound_j26 (S : (Nat → Nat → Int32)) : Int32 := 0
theorem t_M_isFound_j26 {X : z_X} {Post : Option z_V → z_W → Prop} (M : z_M X zm_M_isFound rm_M_isFound Post) {T' : Nat → Nat × Nat} {G' : Nat → Nat → Option Nat} {n : Nat} {Q : Int32 → Prop} (S : (Nat → Nat → Int32)) (hQ : ∀ v, Q v → Post (some (.inl v)) (zW T' G' S n)) (K : Q (F_M_isFound_j26 S)) : z_G X zm_M_isFound (26, [], [], zW T' G' S n, 0, 0) := by
  unfold F_M_isFound_j26 at K
  refine z_go2 M.1 26 [(.iconst 0, 1)] (27, [], [.inl 0], zW T' G' S n, 0, 0) (by decide +kernel) rfl ⟨trivial, trivial⟩ ?_
  exact z_iret M (by decide +kernel) .boolean rfl rfl (by decide) (by decide) (hQ _ K)
def F_M_isFound (S : (Nat → Nat → Int32)) (p1 : Int32) (p2 : Int32) : Int32 := (if (F_M_sees 98 S p1 p2) = 0 then (F_M_isFound_j26 S) else (if (S 191 (p2).toNatClampNeg) = 0 then (F_M_isFound_j26 S) else 1))
def Sf_M_isFound (S : (Nat → Nat → Int32)) (p1 : Int32) (p2 : Int32) : Prop := (Sf_M_sees 98 S p1 p2 ∧ (if (F_M_sees 98 S p1 p2) = 0 then True else ((vp_in p2 930) ∧ True)))
theorem c_M_isFound (T' : Nat → Nat × Nat) (G' : Nat → Nat → Option Nat) (S : (Nat → Nat → Int32)) (n : Nat) (p1 : Int32) (p2 : Int32) (hs : Sf_M_isFound S p1 p2) : z_Run rm_M_isFound zm_M_isFound [z_r 78, .inl p1, .inl p2] (zW T' G' S n) (zq (some (.inl (F_M_isFound S p1 p2))) (zW T' G' S n)) := by
  refine z_body (by decide) zf_M_ok (Nat.le_of_ble_eq_true rfl) (fun X M => ?_)
  obtain ⟨Q, hQ, K⟩ : ∃ Q : Int32 → Prop, (∀ v, Q v → zq (some (.inl (F_M_isFound S p1 p2))) (zW T' G' S n) (some (.inl v)) (zW T' G' S n)) ∧ Q (F_M_isFound S p1 p2) := ⟨fun o => F_M_isFound S p1 p2 = o, fun v h => ⟨by rw [h], rfl⟩, rfl⟩
  show z_G X zm_M_isFound (0, [(0, z_r 78), (1, .inl p1), (2, .inl p2)], [], zW T' G' S n, 0, 0)
  unfold F_M_isFound at K
  unfold Sf_M_isFound at hs
  refine z_go2 M.1 0 [(.aload_n 0, 1), (.aload_n 0, 1), (.getfield 38, 3), (.iload_n 1, 1), (.iload_n 2, 1)] (7, [(0, z_r 78), (1, .inl p1), (2, .inl p2)], [.inl p2, .inl p1, z_r 98, z_r 78], zW T' G' S n, 0, 0) (by decide +kernel) rfl ⟨trivial, trivial, rfl, trivial, trivial, trivial⟩ ?_
  refine z_callV M.1 (av := [z_r 98, .inl p1, .inl p2]) (st := []) (a := 78) (ci := 14) (by decide +kernel) (c_M_sees_98 T' G' S n p1 p2 hs.1) M.2.1 zl_M_233 zv_M_sees rfl rfl rfl ⟨by decide, by decide, by decide, by decide⟩ rfl (Nat.le_of_ble_eq_true rfl) (fun v w' hv => ?_)
  obtain ⟨rfl, rfl⟩ := hv
  replace hs := hs.2
  show z_G X zm_M_isFound (10, [(0, z_r 78), (1, .inl p1), (2, .inl p2)], [.inl (F_M_sees 98 S p1 p2)], zW T' G' S n, 0, 0)
  refine z_if_eq 26 M.1 (off := 16) (by decide +kernel) (by decide) (fun c10 => ?_) (fun c10 => ?_)
  · rw [if_pos c10] at K hs
    exact z_lvs (lv' := []) [] rfl (t_M_isFound_j26 M S hQ K)
  · rw [if_neg c10] at K hs
    refine z_go2 M.1 13 [(.aload_n 0, 1), (.getfield 169, 3), (.iload_n 2, 1), (.baload, 1)] (19, [(0, z_r 78), (1, .inl p1), (2, .inl p2)], [.inl (S 191 (p2).toNatClampNeg)], zW T' G' S n, 0, 0) (by decide +kernel) rfl ⟨trivial, rfl, trivial, ⟨rfl, hs.1⟩, trivial⟩ ?_
    replace hs := hs.2
    refine z_if_eq 26 M.1 (off := 7) (by decide +kernel) (by decide) (fun c19 => ?_) (fun c19 => ?_)
    · rw [if_pos c19] at K
      exact z_lvs (lv' := []) [] rfl (t_M_isFound_j26 M S hQ K)
    · rw [if_neg c19] at K
      refine z_go2 M.1 22 [(.iconst 1, 1), (.goto 4, 3)] (27, [(0, z_r 78), (1, .inl p1), (2, .inl p2)], [.inl 1], zW T' G' S n, 0, 0) (by decide +kernel) rfl ⟨trivial, trivial, trivial⟩ ?_
      exact z_iret M (by decide +kernel) .boolean rfl rfl (by decide) (by decide) (hQ _ K)

-- TrackHouseModel.count
abbrev rm_M_count : Room := zr 95
def F_M_count_L75 (x1 : Int32) : Nat → (Nat → Nat → Int32) → Int32 → Int32 → (Int32 × (Nat → Nat → Int32))
  | 0, S, x3, x4 => (x3, S)
  | f + 1, S, x3, x4 => (if (30 : Int32) ≤ x4 then (x3, S) else (if (F_M_isFound S x1 x4) = 0 then ((F_M_count_L75 x1 f) S (x3 + 0) (x4 + 1)) else ((F_M_count_L75 x1 f) S (x3 + 1) (x4 + 1))))
def Sf_M_count_L75 (x1 : Int32) : Nat → (Nat → Nat → Int32) → Int32 → Int32 → Prop
  | 0, _, _, _ => False
  | f + 1, S, x3, x4 => (if (30 : Int32) ≤ x4 then True else (Sf_M_isFound S x1 x4 ∧ (if (F_M_isFound S x1 x4) = 0 then ((Sf_M_count_L75 x1 f) S (x3 + 0) (x4 + 1)) else ((Sf_M_count_L75 x1 f) S (x3 + 1) (x4 + 1)))))
theorem t_M_count_L75 {X : z_X} {Post : Option z_V → z_W → Prop} (M : z_M X zm_M_count rm_M_count Post) {T' : Nat → Nat × Nat} {G' : Nat → Nat → Option Nat} {n : Nat} {Q : (Int32 × (Nat → Nat → Int32)) → Prop}  (x1 : Int32) (hE : ∀ (y3 : Int32) (S' : (Nat → Nat → Int32)), Q (y3, S') → z_G X zm_M_count (106, [(3, .inl y3)], [], zW T' G' S' n, 0, 0)) (f : Nat) : ∀ (S : (Nat → Nat → Int32)) (x3 : Int32) (x4 : Int32), Q (F_M_count_L75 x1 f S x3 x4) → Sf_M_count_L75 x1 f S x3 x4 → z_G X zm_M_count (75, [(0, z_r 78), (1, .inl x1), (3, .inl x3), (4, .inl x4)], [], zW T' G' S n, 0, 0) := by
  induction f with
  | zero => intro S x3 x4 K hs; exact False.elim hs
  | succ f hC =>
    intro S x3 x4 K hs
    rw [F_M_count_L75] at K
    rw [Sf_M_count_L75] at hs
    refine z_go2 M.1 75 [(.iload 4, 2), (.bipush 30, 2)] (79, [(0, z_r 78), (1, .inl x1), (3, .inl x3), (4, .inl x4)], [.inl 30, .inl x4], zW T' G' S n, 0, 0) (by decide +kernel) rfl ⟨trivial, trivial, trivial⟩ ?_
    refine z_icmp_ge 106 M.1 (off := 27) (by decide +kernel) (by decide) (fun c79 => ?_) (fun c79 => ?_)
    · rw [if_pos c79] at K hs
      exact z_lvs (lv' := [(3, .inl x3)]) [2] rfl (hE x3 S K)
    · rw [if_neg c79] at K hs
      refine z_go2 M.1 82 [(.iload_n 3, 1), (.aload_n 0, 1), (.iload_n 1, 1), (.iload 4, 2)] (87, [(0, z_r 78), (1, .inl x1), (3, .inl x3), (4, .inl x4)], [.inl x4, .inl x1, z_r 78, .inl x3], zW T' G' S n, 0, 0) (by decide +kernel) rfl ⟨trivial, trivial, trivial, trivial, trivial⟩ ?_
      refine z_callV M.1 (av := [.inl x1, .inl x4]) (st := [.inl x3]) (a := 78) (ci := 14) (by decide +kernel) (c_M_isFound T' G' S n x1 x4 hs.1) M.2.1 zl_M_471 zv_M_isFound rfl rfl rfl ⟨by decide, by decide, by decide, by decide⟩ rfl (Nat.le_of_ble_eq_true rfl) (fun v w' hv => ?_)
      obtain ⟨rfl, rfl⟩ := hv
      replace hs := hs.2
      show z_G X zm_M_count (90, [(0, z_r 78), (1, .inl x1), (3, .inl x3), (4, .inl x4)], [.inl (F_M_isFound S x1 x4), .inl x3], zW T' G' S n, 0, 0)
      refine z_if_eq 97 M.1 (off := 7) (by decide +kernel) (by decide) (fun c90 => ?_) (fun c90 => ?_)
      · rw [if_pos c90] at K hs
        refine z_go2 M.1 97 [(.iconst 0, 1), (.iadd, 1), (.istore_n 3, 1), (.iinc 4 1, 3), (.goto (-28), 3)] (75, [(4, .inl (x4 + 1)), (3, .inl (x3 + 0)), (0, z_r 78), (1, .inl x1)], [], zW T' G' S n, 0, 0) (by decide +kernel) rfl ⟨trivial, trivial, trivial, trivial, trivial, trivial⟩ ?_
        exact z_lvs (lv' := [(0, z_r 78), (1, .inl x1), (3, .inl (x3 + 0)), (4, .inl (x4 + 1))]) [2, 3, 1, 0] rfl (hC S (x3 + 0) (x4 + 1) K hs)
      · rw [if_neg c90] at K hs
        refine z_go2 M.1 93 [(.iconst 1, 1), (.goto 4, 3), (.iadd, 1), (.istore_n 3, 1), (.iinc 4 1, 3), (.goto (-28), 3)] (75, [(4, .inl (x4 + 1)), (3, .inl (x3 + 1)), (0, z_r 78), (1, .inl x1)], [], zW T' G' S n, 0, 0) (by decide +kernel) rfl ⟨trivial, trivial, trivial, trivial, trivial, trivial, trivial⟩ ?_
        exact z_lvs (lv' := [(0, z_r 78), (1, .inl x1), (3, .inl (x3 + 1)), (4, .inl (x4 + 1))]) [2, 3, 1, 0] rfl (hC S (x3 + 1) (x4 + 1) K hs)
def F_M_count_j61 (S : (Nat → Nat → Int32)) (x1 : Int32) (x2 : Int32) (s0 : Int32) (s1 : Int32) (s2 : Int32) : (Int32 × (Nat → Nat → Int32)) := (z_let (F_M_asks S s2 s1 s0) (fun S61 => (z_let (F_M_finds S61 x1 x2) (fun S67 => (match F_M_count_L75 x1 1300 S67 0 0 with | (y3_75, S75) => (y3_75, S75))))))
def Sf_M_count_j61 (S : (Nat → Nat → Int32)) (x1 : Int32) (x2 : Int32) (s0 : Int32) (s1 : Int32) (s2 : Int32) : Prop := (Sf_M_asks S s2 s1 s0 ∧ (z_let (F_M_asks S s2 s1 s0) (fun S61 => (Sf_M_finds S61 x1 x2 ∧ (z_let (F_M_finds S61 x1 x2) (fun S67 => (Sf_M_count_L75 x1 1300 S67 0 0 ∧ True)))))))
theorem t_M_count_j61 {X : z_X} {Post : Option z_V → z_W → Prop} (M : z_M X zm_M_count rm_M_count Post) {T' : Nat → Nat × Nat} {G' : Nat → Nat → Option Nat} {n : Nat} {Q : (Int32 × (Nat → Nat → Int32)) → Prop} (S : (Nat → Nat → Int32)) (x1 : Int32) (x2 : Int32) (s0 : Int32) (s1 : Int32) (s2 : Int32) (hQ : ∀ v S', Q (v, S') → Post (some (.inl v)) (zW T' G' S' n)) (K : Q (F_M_count_j61 S x1 x2 s0 s1 s2)) (hs : Sf_M_count_j61 S x1 x2 s0 s1 s2) : z_G X zm_M_count (61, [(0, z_r 78), (1, .inl x1), (2, .inl x2)], [.inl s0, .inl s1, .inl s2, z_r 78], zW T' G' S n, 0, 0) := by
  unfold F_M_count_j61 at K
  unfold Sf_M_count_j61 at hs
  refine z_callV M.1 (av := [.inl s2, .inl s1, .inl s0]) (st := []) (a := 78) (ci := 14) (by decide +kernel) (c_M_asks T' G' S n s2 s1 s0 hs.1) M.2.1 zl_M_463 zv_M_asks rfl rfl rfl ⟨by decide, by decide, by decide, by decide⟩ rfl (Nat.le_of_ble_eq_true rfl) (fun v w' hv => ?_)
  replace hs := hs.2
  obtain ⟨S61, hF61⟩ : ∃ y, F_M_asks S s2 s1 s0 = y := ⟨_, rfl⟩
  rw [hF61] at K hv
  try rw [hF61] at hs
  try dsimp only [z_let] at K hs
  obtain ⟨rfl, rfl⟩ := hv
  show z_G X zm_M_count (64, [(0, z_r 78), (1, .inl x1), (2, .inl x2)], [], zW T' G' S61 n, 0, 0)
  refine z_go2 M.1 64 [(.aload_n 0, 1), (.iload_n 1, 1), (.iload_n 2, 1)] (67, [(0, z_r 78), (1, .inl x1), (2, .inl x2)], [.inl x2, .inl x1, z_r 78], zW T' G' S61 n, 0, 0) (by decide +kernel) rfl ⟨trivial, trivial, trivial, trivial⟩ ?_
  refine z_callV M.1 (av := [.inl x1, .inl x2]) (st := []) (a := 78) (ci := 14) (by decide +kernel) (c_M_finds T' G' S61 n x1 x2 hs.1) M.2.1 zl_M_467 zv_M_finds rfl rfl rfl ⟨by decide, by decide, by decide, by decide⟩ rfl (Nat.le_of_ble_eq_true rfl) (fun v w' hv => ?_)
  replace hs := hs.2
  obtain ⟨S67, hF67⟩ : ∃ y, F_M_finds S61 x1 x2 = y := ⟨_, rfl⟩
  rw [hF67] at K hv
  try rw [hF67] at hs
  try dsimp only [z_let] at K hs
  obtain ⟨rfl, rfl⟩ := hv
  show z_G X zm_M_count (70, [(0, z_r 78), (1, .inl x1), (2, .inl x2)], [], zW T' G' S67 n, 0, 0)
  refine z_go2 M.1 70 [(.iconst 0, 1), (.istore_n 3, 1), (.iconst 0, 1), (.istore 4, 2)] (75, [(4, .inl 0), (3, .inl 0), (0, z_r 78), (1, .inl x1), (2, .inl x2)], [], zW T' G' S67 n, 0, 0) (by decide +kernel) rfl ⟨trivial, trivial, trivial, trivial, trivial⟩ ?_
  refine z_lvs (lv' := [(0, z_r 78), (1, .inl x1), (3, .inl 0), (4, .inl 0)]) [2, 3, 1, 0] rfl ?_
  refine t_M_count_L75 M (Q := fun o => F_M_count_L75 x1 1300 S67 0 0 = o) x1 (fun y3_75 S75 hL75 => ?_) 1300 S67 0 0 rfl hs.1
  replace hs := hs.2
  rw [hL75] at K
  try dsimp only at K
  refine z_go2 M.1 106 [(.iload_n 3, 1)] (107, [(3, .inl y3_75)], [.inl y3_75], zW T' G' S75 n, 0, 0) (by decide +kernel) rfl ⟨trivial, trivial⟩ ?_
  exact z_iret M (by decide +kernel) .int rfl rfl (by decide) (by decide) (hQ _ _ K)
def F_M_count_j33 (S : (Nat → Nat → Int32)) (x1 : Int32) (x2 : Int32) (s0 : Int32) : (Int32 × (Nat → Nat → Int32)) := (if s0 ≤ 0 then (if x2 = (S 78 1) then (F_M_count_j61 (z_uS S 78 0 s0) x1 x2 1 x2 x1) else (F_M_count_j61 (z_uS S 78 0 s0) x1 x2 0 x2 x1)) else (0, (z_uS S 78 0 s0)))
def Sf_M_count_j33 (S : (Nat → Nat → Int32)) (x1 : Int32) (x2 : Int32) (s0 : Int32) : Prop := (if s0 ≤ 0 then (if x2 = (S 78 1) then (Sf_M_count_j61 (z_uS S 78 0 s0) x1 x2 1 x2 x1) else (Sf_M_count_j61 (z_uS S 78 0 s0) x1 x2 0 x2 x1)) else True)
theorem t_M_count_j33 {X : z_X} {Post : Option z_V → z_W → Prop} (M : z_M X zm_M_count rm_M_count Post) {T' : Nat → Nat × Nat} {G' : Nat → Nat → Option Nat} {n : Nat} {Q : (Int32 × (Nat → Nat → Int32)) → Prop} (S : (Nat → Nat → Int32)) (x1 : Int32) (x2 : Int32) (s0 : Int32) (hQ : ∀ v S', Q (v, S') → Post (some (.inl v)) (zW T' G' S' n)) (K : Q (F_M_count_j33 S x1 x2 s0)) (hs : Sf_M_count_j33 S x1 x2 s0) : z_G X zm_M_count (33, [(0, z_r 78), (1, .inl x1), (2, .inl x2)], [.inl s0, z_r 78], zW T' G' S n, 0, 0) := by
  unfold F_M_count_j33 at K
  unfold Sf_M_count_j33 at hs
  refine z_go2 M.1 33 [(.putfield 175, 3), (.aload_n 0, 1), (.getfield 175, 3)] (40, [(0, z_r 78), (1, .inl x1), (2, .inl x2)], [.inl s0], zW T' G' (z_uS S 78 0 s0) n, 0, 0) (by decide +kernel) rfl ⟨⟨rfl, trivial⟩, trivial, rfl, trivial⟩ ?_
  refine z_if_le 45 M.1 (off := 5) (by decide +kernel) (by decide) (fun c40 => ?_) (fun c40 => ?_)
  · rw [if_pos c40] at K hs
    refine z_go2 M.1 45 [(.aload_n 0, 1), (.iload_n 1, 1), (.iload_n 2, 1), (.iload_n 2, 1), (.aload_n 0, 1), (.getfield 185, 3)] (53, [(0, z_r 78), (1, .inl x1), (2, .inl x2)], [.inl (S 78 1), .inl x2, .inl x2, .inl x1, z_r 78], zW T' G' (z_uS S 78 0 s0) n, 0, 0) (by decide +kernel) rfl ⟨trivial, trivial, trivial, trivial, trivial, rfl, trivial⟩ ?_
    refine z_icmp_ne 60 M.1 (off := 7) (by decide +kernel) (by decide) (fun c53 => ?_) (fun c53 => ?_)
    · rw [if_neg c53] at K hs
      refine z_go2 M.1 60 [(.iconst 0, 1)] (61, [(0, z_r 78), (1, .inl x1), (2, .inl x2)], [.inl 0, .inl x2, .inl x1, z_r 78], zW T' G' (z_uS S 78 0 s0) n, 0, 0) (by decide +kernel) rfl ⟨trivial, trivial⟩ ?_
      exact z_lvs (lv' := [(0, z_r 78), (1, .inl x1), (2, .inl x2)]) [0, 1, 2] rfl (t_M_count_j61 M (z_uS S 78 0 s0) x1 x2 0 x2 x1 hQ K hs)
    · rw [if_pos c53] at K hs
      refine z_go2 M.1 56 [(.iconst 1, 1), (.goto 4, 3)] (61, [(0, z_r 78), (1, .inl x1), (2, .inl x2)], [.inl 1, .inl x2, .inl x1, z_r 78], zW T' G' (z_uS S 78 0 s0) n, 0, 0) (by decide +kernel) rfl ⟨trivial, trivial, trivial⟩ ?_
      exact z_lvs (lv' := [(0, z_r 78), (1, .inl x1), (2, .inl x2)]) [0, 1, 2] rfl (t_M_count_j61 M (z_uS S 78 0 s0) x1 x2 1 x2 x1 hQ K hs)
  · rw [if_neg c40] at K hs
    refine z_go2 M.1 43 [(.iconst 0, 1)] (44, [(0, z_r 78), (1, .inl x1), (2, .inl x2)], [.inl 0], zW T' G' (z_uS S 78 0 s0) n, 0, 0) (by decide +kernel) rfl ⟨trivial, trivial⟩ ?_
    exact z_iret M (by decide +kernel) .int rfl rfl (by decide) (by decide) (hQ _ _ K)
def F_M_count_j16 (S : (Nat → Nat → Int32)) (x1 : Int32) (x2 : Int32) : (Int32 × (Nat → Nat → Int32)) := (F_M_count_j33 S x1 x2 1)
def Sf_M_count_j16 (S : (Nat → Nat → Int32)) (x1 : Int32) (x2 : Int32) : Prop := (Sf_M_count_j33 S x1 x2 1)
theorem t_M_count_j16 {X : z_X} {Post : Option z_V → z_W → Prop} (M : z_M X zm_M_count rm_M_count Post) {T' : Nat → Nat × Nat} {G' : Nat → Nat → Option Nat} {n : Nat} {Q : (Int32 × (Nat → Nat → Int32)) → Prop} (S : (Nat → Nat → Int32)) (x1 : Int32) (x2 : Int32) (hQ : ∀ v S', Q (v, S') → Post (some (.inl v)) (zW T' G' S' n)) (K : Q (F_M_count_j16 S x1 x2)) (hs : Sf_M_count_j16 S x1 x2) : z_G X zm_M_count (16, [(0, z_r 78), (1, .inl x1), (2, .inl x2)], [z_r 78], zW T' G' S n, 0, 0) := by
  unfold F_M_count_j16 at K
  unfold Sf_M_count_j16 at hs
  refine z_go2 M.1 16 [(.iconst 1, 1), (.goto 16, 3)] (33, [(0, z_r 78), (1, .inl x1), (2, .inl x2)], [.inl 1, z_r 78], zW T' G' S n, 0, 0) (by decide +kernel) rfl ⟨trivial, trivial, trivial⟩ ?_
  exact z_lvs (lv' := [(0, z_r 78), (1, .inl x1), (2, .inl x2)]) [0, 1, 2] rfl (t_M_count_j33 M S x1 x2 1 hQ K hs)
def F_M_count (S : (Nat → Nat → Int32)) (p1 : Int32) (p2 : Int32) : (Int32 × (Nat → Nat → Int32)) := (if (F_M_isPerson S p1) = 0 then (F_M_count_j16 S p1 p2) else (if (F_M_isDay S p2) = 0 then (F_M_count_j16 S p1 p2) else (match F_M_reads_0 S with | (r21, S21) => (if r21 = (-1) then (F_M_count_j33 S21 p1 p2 0) else (F_M_count_j33 S21 p1 p2 2)))))
def Sf_M_count (S : (Nat → Nat → Int32)) (p1 : Int32) (p2 : Int32) : Prop := (Sf_M_isPerson S p1 ∧ (if (F_M_isPerson S p1) = 0 then (Sf_M_count_j16 S p1 p2) else (Sf_M_isDay S p2 ∧ (if (F_M_isDay S p2) = 0 then (Sf_M_count_j16 S p1 p2) else (Sf_M_reads_0 S ∧ (match F_M_reads_0 S with | (r21, S21) => (if r21 = (-1) then (Sf_M_count_j33 S21 p1 p2 0) else (Sf_M_count_j33 S21 p1 p2 2))))))))
theorem c_M_count (T' : Nat → Nat × Nat) (G' : Nat → Nat → Option Nat) (S : (Nat → Nat → Int32)) (n : Nat) (p1 : Int32) (p2 : Int32) (hs : Sf_M_count S p1 p2) : z_Run rm_M_count zm_M_count [z_r 78, .inl p1, .inl p2] (zW T' G' S n) (zq (some (.inl (F_M_count S p1 p2).1)) (zW T' G' (F_M_count S p1 p2).2 n)) := by
  refine z_body (by decide) zf_M_ok (Nat.le_of_ble_eq_true rfl) (fun X M => ?_)
  obtain ⟨Q, hQ, K⟩ : ∃ Q : (Int32 × (Nat → Nat → Int32)) → Prop, (∀ v S', Q (v, S') → zq (some (.inl (F_M_count S p1 p2).1)) (zW T' G' (F_M_count S p1 p2).2 n) (some (.inl v)) (zW T' G' S' n)) ∧ Q (F_M_count S p1 p2) := ⟨fun o => F_M_count S p1 p2 = o, fun v S' h => ⟨by rw [h], by rw [h]⟩, rfl⟩
  show z_G X zm_M_count (0, [(0, z_r 78), (1, .inl p1), (2, .inl p2)], [], zW T' G' S n, 0, 0)
  unfold F_M_count at K
  unfold Sf_M_count at hs
  refine z_go2 M.1 0 [(.aload_n 0, 1), (.iload_n 1, 1)] (2, [(0, z_r 78), (1, .inl p1), (2, .inl p2)], [.inl p1, z_r 78], zW T' G' S n, 0, 0) (by decide +kernel) rfl ⟨trivial, trivial, trivial⟩ ?_
  refine z_callS M.1 (av := [.inl p1]) (st := [z_r 78]) (by decide +kernel) (c_M_isPerson T' G' S n p1 hs.1) M.2.1 zl_M_295 zs_M_isPerson ⟨by decide, by decide, by decide, by decide⟩ rfl (Nat.le_of_ble_eq_true rfl) (fun v w' hv => ?_)
  obtain ⟨rfl, rfl⟩ := hv
  replace hs := hs.2
  show z_G X zm_M_count (5, [(0, z_r 78), (1, .inl p1), (2, .inl p2)], [.inl (F_M_isPerson S p1), z_r 78], zW T' G' S n, 0, 0)
  refine z_if_eq 16 M.1 (off := 11) (by decide +kernel) (by decide) (fun c5 => ?_) (fun c5 => ?_)
  · rw [if_pos c5] at K hs
    exact z_lvs (lv' := [(0, z_r 78), (1, .inl p1), (2, .inl p2)]) [0, 1, 2] rfl (t_M_count_j16 M S p1 p2 hQ K hs)
  · rw [if_neg c5] at K hs
    refine z_go2 M.1 8 [(.aload_n 0, 1), (.iload_n 2, 1)] (10, [(0, z_r 78), (1, .inl p1), (2, .inl p2)], [.inl p2, z_r 78, z_r 78], zW T' G' S n, 0, 0) (by decide +kernel) rfl ⟨trivial, trivial, trivial⟩ ?_
    refine z_callV M.1 (av := [.inl p2]) (st := [z_r 78]) (a := 78) (ci := 14) (by decide +kernel) (c_M_isDay T' G' S n p2 hs.1) M.2.1 zl_M_460 zv_M_isDay rfl rfl rfl ⟨by decide, by decide, by decide, by decide⟩ rfl (Nat.le_of_ble_eq_true rfl) (fun v w' hv => ?_)
    obtain ⟨rfl, rfl⟩ := hv
    replace hs := hs.2
    show z_G X zm_M_count (13, [(0, z_r 78), (1, .inl p1), (2, .inl p2)], [.inl (F_M_isDay S p2), z_r 78], zW T' G' S n, 0, 0)
    refine z_if_ne 20 M.1 (off := 7) (by decide +kernel) (by decide) (fun c13 => ?_) (fun c13 => ?_)
    · rw [if_neg c13] at K hs
      refine z_go2 M.1 20 [(.aload_n 0, 1)] (21, [(0, z_r 78), (1, .inl p1), (2, .inl p2)], [z_r 78, z_r 78], zW T' G' S n, 0, 0) (by decide +kernel) rfl ⟨trivial, trivial⟩ ?_
      refine z_callV M.1 (av := []) (st := [z_r 78]) (a := 78) (ci := 14) (by decide +kernel) (c_M_reads_0 T' G' S n hs.1) M.2.1 zl_M_416 zv_M_reads_0 rfl rfl rfl ⟨by decide, by decide, by decide, by decide⟩ rfl (Nat.le_of_ble_eq_true rfl) (fun v w' hv => ?_)
      replace hs := hs.2
      rcases hF21 : F_M_reads_0 S with ⟨r21, S21⟩
      rw [hF21] at K hv
      try rw [hF21] at hs
      try dsimp only at K hs
      obtain ⟨rfl, rfl⟩ := hv
      show z_G X zm_M_count (24, [(0, z_r 78), (1, .inl p1), (2, .inl p2)], [.inl r21, z_r 78], zW T' G' S21 n, 0, 0)
      refine z_go2 M.1 24 [(.iconst (-1), 1)] (25, [(0, z_r 78), (1, .inl p1), (2, .inl p2)], [.inl (-1), .inl r21, z_r 78], zW T' G' S21 n, 0, 0) (by decide +kernel) rfl ⟨trivial, trivial⟩ ?_
      refine z_icmp_ne 32 M.1 (off := 7) (by decide +kernel) (by decide) (fun c25 => ?_) (fun c25 => ?_)
      · rw [if_neg c25] at K hs
        refine z_go2 M.1 32 [(.iconst 2, 1)] (33, [(0, z_r 78), (1, .inl p1), (2, .inl p2)], [.inl 2, z_r 78], zW T' G' S21 n, 0, 0) (by decide +kernel) rfl ⟨trivial, trivial⟩ ?_
        exact z_lvs (lv' := [(0, z_r 78), (1, .inl p1), (2, .inl p2)]) [0, 1, 2] rfl (t_M_count_j33 M S21 p1 p2 2 hQ K hs)
      · rw [if_pos c25] at K hs
        refine z_go2 M.1 28 [(.iconst 0, 1), (.goto 4, 3)] (33, [(0, z_r 78), (1, .inl p1), (2, .inl p2)], [.inl 0, z_r 78], zW T' G' S21 n, 0, 0) (by decide +kernel) rfl ⟨trivial, trivial, trivial⟩ ?_
        exact z_lvs (lv' := [(0, z_r 78), (1, .inl p1), (2, .inl p2)]) [0, 1, 2] rfl (t_M_count_j33 M S21 p1 p2 0 hQ K hs)
    · rw [if_pos c13] at K hs
      exact z_lvs (lv' := [(0, z_r 78), (1, .inl p1), (2, .inl p2)]) [0, 1, 2] rfl (t_M_count_j16 M S p1 p2 hQ K hs)

-- TrackHouseModel.found
abbrev rm_M_found : Room := zr 95
def F_M_found_l79_113 (rc : (Nat → Nat → Int32) → Int32 → Int32 → Int32 → (Int32 × (Nat → Nat → Int32))) (S : (Nat → Nat → Int32)) (x1 : Int32) (x3 : Int32) (x4 : Int32) (x6 : Int32) (x7 : Int32) (s0 : Int32) : (Int32 × (Nat → Nat → Int32)) := (if x7 = 0 then (rc S (x4 + 0) s0 (x6 + 1)) else (rc S (x4 + 1) s0 (x6 + 1)))
def Sf_M_found_l79_113 (rc : (Nat → Nat → Int32) → Int32 → Int32 → Int32 → (Int32 × (Nat → Nat → Int32))) (sr : (Nat → Nat → Int32) → Int32 → Int32 → Int32 → Prop) (S : (Nat → Nat → Int32)) (x1 : Int32) (x3 : Int32) (x4 : Int32) (x6 : Int32) (x7 : Int32) (s0 : Int32) : Prop := (if x7 = 0 then (sr S (x4 + 0) s0 (x6 + 1)) else (sr S (x4 + 1) s0 (x6 + 1)))
theorem t_M_found_l79_113 {X : z_X} {Post : Option z_V → z_W → Prop} (M : z_M X zm_M_found rm_M_found Post) {T' : Nat → Nat × Nat} {G' : Nat → Nat → Option Nat} {n : Nat} {Q : (Int32 × (Nat → Nat → Int32)) → Prop} (rc : (Nat → Nat → Int32) → Int32 → Int32 → Int32 → (Int32 × (Nat → Nat → Int32))) (sr : (Nat → Nat → Int32) → Int32 → Int32 → Int32 → Prop) (S : (Nat → Nat → Int32)) (x1 : Int32) (x3 : Int32) (x4 : Int32) (x6 : Int32) (x7 : Int32) (s0 : Int32) (hE : ∀ (y5 : Int32) (S' : (Nat → Nat → Int32)), Q (y5, S') → z_G X zm_M_found (136, [(0, z_r 78), (5, .inl y5)], [], zW T' G' S' n, 0, 0)) (hC : ∀ (S : (Nat → Nat → Int32)) (x4 : Int32) (x5 : Int32) (x6 : Int32), Q (rc S x4 x5 x6) → sr S x4 x5 x6 → z_G X zm_M_found (79, [(0, z_r 78), (1, .inl x1), (3, .inl x3), (4, .inl x4), (5, .inl x5), (6, .inl x6)], [], zW T' G' S n, 0, 0)) (K : Q (F_M_found_l79_113 rc S x1 x3 x4 x6 x7 s0)) (hs : Sf_M_found_l79_113 rc sr S x1 x3 x4 x6 x7 s0) : z_G X zm_M_found (113, [(0, z_r 78), (1, .inl x1), (3, .inl x3), (4, .inl x4), (6, .inl x6), (7, .inl x7)], [.inl s0], zW T' G' S n, 0, 0) := by
  unfold F_M_found_l79_113 at K
  unfold Sf_M_found_l79_113 at hs
  refine z_go2 M.1 113 [(.istore 5, 2), (.iload 4, 2), (.iload 7, 2)] (119, [(5, .inl s0), (0, z_r 78), (1, .inl x1), (3, .inl x3), (4, .inl x4), (6, .inl x6), (7, .inl x7)], [.inl x7, .inl x4], zW T' G' S n, 0, 0) (by decide +kernel) rfl ⟨trivial, trivial, trivial, trivial⟩ ?_
  refine z_if_eq 126 M.1 (off := 7) (by decide +kernel) (by decide) (fun c119 => ?_) (fun c119 => ?_)
  · rw [if_pos c119] at K hs
    refine z_go2 M.1 126 [(.iconst 0, 1), (.iadd, 1), (.istore 4, 2), (.iinc 6 1, 3), (.goto (-54), 3)] (79, [(6, .inl (x6 + 1)), (4, .inl (x4 + 0)), (5, .inl s0), (0, z_r 78), (1, .inl x1), (3, .inl x3), (7, .inl x7)], [], zW T' G' S n, 0, 0) (by decide +kernel) rfl ⟨trivial, trivial, trivial, trivial, trivial, trivial⟩ ?_
    exact z_lvs (lv' := [(0, z_r 78), (1, .inl x1), (3, .inl x3), (4, .inl (x4 + 0)), (5, .inl s0), (6, .inl (x6 + 1))]) [3, 4, 5, 1, 2, 0] rfl (hC S (x4 + 0) s0 (x6 + 1) K hs)
  · rw [if_neg c119] at K hs
    refine z_go2 M.1 122 [(.iconst 1, 1), (.goto 4, 3), (.iadd, 1), (.istore 4, 2), (.iinc 6 1, 3), (.goto (-54), 3)] (79, [(6, .inl (x6 + 1)), (4, .inl (x4 + 1)), (5, .inl s0), (0, z_r 78), (1, .inl x1), (3, .inl x3), (7, .inl x7)], [], zW T' G' S n, 0, 0) (by decide +kernel) rfl ⟨trivial, trivial, trivial, trivial, trivial, trivial, trivial⟩ ?_
    exact z_lvs (lv' := [(0, z_r 78), (1, .inl x1), (3, .inl x3), (4, .inl (x4 + 1)), (5, .inl s0), (6, .inl (x6 + 1))]) [3, 4, 5, 1, 2, 0] rfl (hC S (x4 + 1) s0 (x6 + 1) K hs)
def F_M_found_l79_111 (rc : (Nat → Nat → Int32) → Int32 → Int32 → Int32 → (Int32 × (Nat → Nat → Int32))) (S : (Nat → Nat → Int32)) (x1 : Int32) (x3 : Int32) (x4 : Int32) (x5 : Int32) (x6 : Int32) (x7 : Int32) : (Int32 × (Nat → Nat → Int32)) := (F_M_found_l79_113 rc S x1 x3 x4 x6 x7 x5)
def Sf_M_found_l79_111 (rc : (Nat → Nat → Int32) → Int32 → Int32 → Int32 → (Int32 × (Nat → Nat → Int32))) (sr : (Nat → Nat → Int32) → Int32 → Int32 → Int32 → Prop) (S : (Nat → Nat → Int32)) (x1 : Int32) (x3 : Int32) (x4 : Int32) (x5 : Int32) (x6 : Int32) (x7 : Int32) : Prop := (Sf_M_found_l79_113 rc sr S x1 x3 x4 x6 x7 x5)
theorem t_M_found_l79_111 {X : z_X} {Post : Option z_V → z_W → Prop} (M : z_M X zm_M_found rm_M_found Post) {T' : Nat → Nat × Nat} {G' : Nat → Nat → Option Nat} {n : Nat} {Q : (Int32 × (Nat → Nat → Int32)) → Prop} (rc : (Nat → Nat → Int32) → Int32 → Int32 → Int32 → (Int32 × (Nat → Nat → Int32))) (sr : (Nat → Nat → Int32) → Int32 → Int32 → Int32 → Prop) (S : (Nat → Nat → Int32)) (x1 : Int32) (x3 : Int32) (x4 : Int32) (x5 : Int32) (x6 : Int32) (x7 : Int32) (hE : ∀ (y5 : Int32) (S' : (Nat → Nat → Int32)), Q (y5, S') → z_G X zm_M_found (136, [(0, z_r 78), (5, .inl y5)], [], zW T' G' S' n, 0, 0)) (hC : ∀ (S : (Nat → Nat → Int32)) (x4 : Int32) (x5 : Int32) (x6 : Int32), Q (rc S x4 x5 x6) → sr S x4 x5 x6 → z_G X zm_M_found (79, [(0, z_r 78), (1, .inl x1), (3, .inl x3), (4, .inl x4), (5, .inl x5), (6, .inl x6)], [], zW T' G' S n, 0, 0)) (K : Q (F_M_found_l79_111 rc S x1 x3 x4 x5 x6 x7)) (hs : Sf_M_found_l79_111 rc sr S x1 x3 x4 x5 x6 x7) : z_G X zm_M_found (111, [(0, z_r 78), (1, .inl x1), (3, .inl x3), (4, .inl x4), (5, .inl x5), (6, .inl x6), (7, .inl x7)], [], zW T' G' S n, 0, 0) := by
  unfold F_M_found_l79_111 at K
  unfold Sf_M_found_l79_111 at hs
  refine z_go2 M.1 111 [(.iload 5, 2)] (113, [(0, z_r 78), (1, .inl x1), (3, .inl x3), (4, .inl x4), (5, .inl x5), (6, .inl x6), (7, .inl x7)], [.inl x5], zW T' G' S n, 0, 0) (by decide +kernel) rfl ⟨trivial, trivial⟩ ?_
  exact z_lvs (lv' := [(0, z_r 78), (1, .inl x1), (3, .inl x3), (4, .inl x4), (6, .inl x6), (7, .inl x7)]) [0, 1, 2, 3, 5, 6] rfl (t_M_found_l79_113 M rc sr S x1 x3 x4 x6 x7 x5 hE hC K hs)
def F_M_found_L79 (x1 : Int32) (x3 : Int32) : Nat → (Nat → Nat → Int32) → Int32 → Int32 → Int32 → (Int32 × (Nat → Nat → Int32))
  | 0, S, x4, x5, x6 => (x5, S)
  | f + 1, S, x4, x5, x6 => (if (30 : Int32) ≤ x6 then (x5, S) else (if (F_M_isFound S x1 x6) = 0 then (F_M_found_l79_111 (F_M_found_L79 x1 x3 f) S x1 x3 x4 x5 x6 (F_M_isFound S x1 x6)) else (if x4 = x3 then (F_M_found_l79_113 (F_M_found_L79 x1 x3 f) S x1 x3 x4 x6 (F_M_isFound S x1 x6) x6) else (F_M_found_l79_111 (F_M_found_L79 x1 x3 f) S x1 x3 x4 x5 x6 (F_M_isFound S x1 x6)))))
def Sf_M_found_L79 (x1 : Int32) (x3 : Int32) : Nat → (Nat → Nat → Int32) → Int32 → Int32 → Int32 → Prop
  | 0, _, _, _, _ => False
  | f + 1, S, x4, x5, x6 => (if (30 : Int32) ≤ x6 then True else (Sf_M_isFound S x1 x6 ∧ (if (F_M_isFound S x1 x6) = 0 then (Sf_M_found_l79_111 (F_M_found_L79 x1 x3 f) (Sf_M_found_L79 x1 x3 f) S x1 x3 x4 x5 x6 (F_M_isFound S x1 x6)) else (if x4 = x3 then (Sf_M_found_l79_113 (F_M_found_L79 x1 x3 f) (Sf_M_found_L79 x1 x3 f) S x1 x3 x4 x6 (F_M_isFound S x1 x6) x6) else (Sf_M_found_l79_111 (F_M_found_L79 x1 x3 f) (Sf_M_found_L79 x1 x3 f) S x1 x3 x4 x5 x6 (F_M_isFound S x1 x6))))))
theorem t_M_found_L79 {X : z_X} {Post : Option z_V → z_W → Prop} (M : z_M X zm_M_found rm_M_found Post) {T' : Nat → Nat × Nat} {G' : Nat → Nat → Option Nat} {n : Nat} {Q : (Int32 × (Nat → Nat → Int32)) → Prop}  (x1 : Int32) (x3 : Int32) (hE : ∀ (y5 : Int32) (S' : (Nat → Nat → Int32)), Q (y5, S') → z_G X zm_M_found (136, [(0, z_r 78), (5, .inl y5)], [], zW T' G' S' n, 0, 0)) (f : Nat) : ∀ (S : (Nat → Nat → Int32)) (x4 : Int32) (x5 : Int32) (x6 : Int32), Q (F_M_found_L79 x1 x3 f S x4 x5 x6) → Sf_M_found_L79 x1 x3 f S x4 x5 x6 → z_G X zm_M_found (79, [(0, z_r 78), (1, .inl x1), (3, .inl x3), (4, .inl x4), (5, .inl x5), (6, .inl x6)], [], zW T' G' S n, 0, 0) := by
  induction f with
  | zero => intro S x4 x5 x6 K hs; exact False.elim hs
  | succ f hC =>
    intro S x4 x5 x6 K hs
    rw [F_M_found_L79] at K
    rw [Sf_M_found_L79] at hs
    refine z_go2 M.1 79 [(.iload 6, 2), (.bipush 30, 2)] (83, [(0, z_r 78), (1, .inl x1), (3, .inl x3), (4, .inl x4), (5, .inl x5), (6, .inl x6)], [.inl 30, .inl x6], zW T' G' S n, 0, 0) (by decide +kernel) rfl ⟨trivial, trivial, trivial⟩ ?_
    refine z_icmp_ge 136 M.1 (off := 53) (by decide +kernel) (by decide) (fun c83 => ?_) (fun c83 => ?_)
    · rw [if_pos c83] at K hs
      exact z_lvs (lv' := [(0, z_r 78), (5, .inl x5)]) [0, 4] rfl (hE x5 S K)
    · rw [if_neg c83] at K hs
      refine z_go2 M.1 86 [(.aload_n 0, 1), (.iload_n 1, 1), (.iload 6, 2)] (90, [(0, z_r 78), (1, .inl x1), (3, .inl x3), (4, .inl x4), (5, .inl x5), (6, .inl x6)], [.inl x6, .inl x1, z_r 78], zW T' G' S n, 0, 0) (by decide +kernel) rfl ⟨trivial, trivial, trivial, trivial⟩ ?_
      refine z_callV M.1 (av := [.inl x1, .inl x6]) (st := []) (a := 78) (ci := 14) (by decide +kernel) (c_M_isFound T' G' S n x1 x6 hs.1) M.2.1 zl_M_471 zv_M_isFound rfl rfl rfl ⟨by decide, by decide, by decide, by decide⟩ rfl (Nat.le_of_ble_eq_true rfl) (fun v w' hv => ?_)
      obtain ⟨rfl, rfl⟩ := hv
      replace hs := hs.2
      show z_G X zm_M_found (93, [(0, z_r 78), (1, .inl x1), (3, .inl x3), (4, .inl x4), (5, .inl x5), (6, .inl x6)], [.inl (F_M_isFound S x1 x6)], zW T' G' S n, 0, 0)
      refine z_go2 M.1 93 [(.istore 7, 2), (.iload 7, 2)] (97, [(7, .inl (F_M_isFound S x1 x6)), (0, z_r 78), (1, .inl x1), (3, .inl x3), (4, .inl x4), (5, .inl x5), (6, .inl x6)], [.inl (F_M_isFound S x1 x6)], zW T' G' S n, 0, 0) (by decide +kernel) rfl ⟨trivial, trivial, trivial⟩ ?_
      refine z_if_eq 111 M.1 (off := 14) (by decide +kernel) (by decide) (fun c97 => ?_) (fun c97 => ?_)
      · rw [if_pos c97] at K hs
        exact z_lvs (lv' := [(0, z_r 78), (1, .inl x1), (3, .inl x3), (4, .inl x4), (5, .inl x5), (6, .inl x6), (7, .inl (F_M_isFound S x1 x6))]) [1, 2, 3, 4, 5, 6, 0] rfl (t_M_found_l79_111 M (F_M_found_L79 x1 x3 f) (Sf_M_found_L79 x1 x3 f) S x1 x3 x4 x5 x6 (F_M_isFound S x1 x6) hE hC K hs)
      · rw [if_neg c97] at K hs
        refine z_go2 M.1 100 [(.iload 4, 2), (.iload_n 3, 1)] (103, [(7, .inl (F_M_isFound S x1 x6)), (0, z_r 78), (1, .inl x1), (3, .inl x3), (4, .inl x4), (5, .inl x5), (6, .inl x6)], [.inl x3, .inl x4], zW T' G' S n, 0, 0) (by decide +kernel) rfl ⟨trivial, trivial, trivial⟩ ?_
        refine z_icmp_ne 111 M.1 (off := 8) (by decide +kernel) (by decide) (fun c103 => ?_) (fun c103 => ?_)
        · rw [if_neg c103] at K hs
          exact z_lvs (lv' := [(0, z_r 78), (1, .inl x1), (3, .inl x3), (4, .inl x4), (5, .inl x5), (6, .inl x6), (7, .inl (F_M_isFound S x1 x6))]) [1, 2, 3, 4, 5, 6, 0] rfl (t_M_found_l79_111 M (F_M_found_L79 x1 x3 f) (Sf_M_found_L79 x1 x3 f) S x1 x3 x4 x5 x6 (F_M_isFound S x1 x6) hE hC K hs)
        · rw [if_pos c103] at K hs
          refine z_go2 M.1 106 [(.iload 6, 2), (.goto 5, 3)] (113, [(7, .inl (F_M_isFound S x1 x6)), (0, z_r 78), (1, .inl x1), (3, .inl x3), (4, .inl x4), (5, .inl x5), (6, .inl x6)], [.inl x6], zW T' G' S n, 0, 0) (by decide +kernel) rfl ⟨trivial, trivial, trivial⟩ ?_
          exact z_lvs (lv' := [(0, z_r 78), (1, .inl x1), (3, .inl x3), (4, .inl x4), (6, .inl x6), (7, .inl (F_M_isFound S x1 x6))]) [1, 2, 3, 4, 6, 0] rfl (t_M_found_l79_113 M (F_M_found_L79 x1 x3 f) (Sf_M_found_L79 x1 x3 f) S x1 x3 x4 x6 (F_M_isFound S x1 x6) x6 hE hC K hs)
def F_M_found_j148 (S : (Nat → Nat → Int32)) (x5 : Int32) (s0 : Int32) : (Int32 × (Nat → Nat → Int32)) := (if s0 ≤ 0 then (x5, (z_uS S 78 0 s0)) else (0, (z_uS S 78 0 s0)))
theorem t_M_found_j148 {X : z_X} {Post : Option z_V → z_W → Prop} (M : z_M X zm_M_found rm_M_found Post) {T' : Nat → Nat × Nat} {G' : Nat → Nat → Option Nat} {n : Nat} {Q : (Int32 × (Nat → Nat → Int32)) → Prop} (S : (Nat → Nat → Int32)) (x5 : Int32) (s0 : Int32) (hQ : ∀ v S', Q (v, S') → Post (some (.inl v)) (zW T' G' S' n)) (K : Q (F_M_found_j148 S x5 s0)) : z_G X zm_M_found (148, [(0, z_r 78), (5, .inl x5)], [.inl s0, z_r 78], zW T' G' S n, 0, 0) := by
  unfold F_M_found_j148 at K
  refine z_go2 M.1 148 [(.putfield 175, 3), (.aload_n 0, 1), (.getfield 175, 3)] (155, [(0, z_r 78), (5, .inl x5)], [.inl s0], zW T' G' (z_uS S 78 0 s0) n, 0, 0) (by decide +kernel) rfl ⟨⟨rfl, trivial⟩, trivial, rfl, trivial⟩ ?_
  refine z_if_le 162 M.1 (off := 7) (by decide +kernel) (by decide) (fun c155 => ?_) (fun c155 => ?_)
  · rw [if_pos c155] at K
    refine z_go2 M.1 162 [(.iload 5, 2)] (164, [(0, z_r 78), (5, .inl x5)], [.inl x5], zW T' G' (z_uS S 78 0 s0) n, 0, 0) (by decide +kernel) rfl ⟨trivial, trivial⟩ ?_
    exact z_iret M (by decide +kernel) .int rfl rfl (by decide) (by decide) (hQ _ _ K)
  · rw [if_neg c155] at K
    refine z_go2 M.1 158 [(.iconst 0, 1), (.goto 5, 3)] (164, [(0, z_r 78), (5, .inl x5)], [.inl 0], zW T' G' (z_uS S 78 0 s0) n, 0, 0) (by decide +kernel) rfl ⟨trivial, trivial, trivial⟩ ?_
    exact z_iret M (by decide +kernel) .int rfl rfl (by decide) (by decide) (hQ _ _ K)
def F_M_found_j61 (S : (Nat → Nat → Int32)) (x1 : Int32) (x2 : Int32) (x3 : Int32) (s0 : Int32) (s1 : Int32) (s2 : Int32) : (Int32 × (Nat → Nat → Int32)) := (z_let (F_M_asks S s2 s1 s0) (fun S61 => (z_let (F_M_finds S61 x1 x2) (fun S67 => (match F_M_found_L79 x1 x3 1300 S67 0 (-1) 0 with | (y5_79, S79) => (if y5_79 = (-1) then (F_M_found_j148 S79 y5_79 1) else (F_M_found_j148 S79 y5_79 0)))))))
def Sf_M_found_j61 (S : (Nat → Nat → Int32)) (x1 : Int32) (x2 : Int32) (x3 : Int32) (s0 : Int32) (s1 : Int32) (s2 : Int32) : Prop := (Sf_M_asks S s2 s1 s0 ∧ (z_let (F_M_asks S s2 s1 s0) (fun S61 => (Sf_M_finds S61 x1 x2 ∧ (z_let (F_M_finds S61 x1 x2) (fun S67 => (Sf_M_found_L79 x1 x3 1300 S67 0 (-1) 0 ∧ True)))))))
theorem t_M_found_j61 {X : z_X} {Post : Option z_V → z_W → Prop} (M : z_M X zm_M_found rm_M_found Post) {T' : Nat → Nat × Nat} {G' : Nat → Nat → Option Nat} {n : Nat} {Q : (Int32 × (Nat → Nat → Int32)) → Prop} (S : (Nat → Nat → Int32)) (x1 : Int32) (x2 : Int32) (x3 : Int32) (s0 : Int32) (s1 : Int32) (s2 : Int32) (hQ : ∀ v S', Q (v, S') → Post (some (.inl v)) (zW T' G' S' n)) (K : Q (F_M_found_j61 S x1 x2 x3 s0 s1 s2)) (hs : Sf_M_found_j61 S x1 x2 x3 s0 s1 s2) : z_G X zm_M_found (61, [(0, z_r 78), (1, .inl x1), (2, .inl x2), (3, .inl x3)], [.inl s0, .inl s1, .inl s2, z_r 78], zW T' G' S n, 0, 0) := by
  unfold F_M_found_j61 at K
  unfold Sf_M_found_j61 at hs
  refine z_callV M.1 (av := [.inl s2, .inl s1, .inl s0]) (st := []) (a := 78) (ci := 14) (by decide +kernel) (c_M_asks T' G' S n s2 s1 s0 hs.1) M.2.1 zl_M_463 zv_M_asks rfl rfl rfl ⟨by decide, by decide, by decide, by decide⟩ rfl (Nat.le_of_ble_eq_true rfl) (fun v w' hv => ?_)
  replace hs := hs.2
  obtain ⟨S61, hF61⟩ : ∃ y, F_M_asks S s2 s1 s0 = y := ⟨_, rfl⟩
  rw [hF61] at K hv
  try rw [hF61] at hs
  try dsimp only [z_let] at K hs
  obtain ⟨rfl, rfl⟩ := hv
  show z_G X zm_M_found (64, [(0, z_r 78), (1, .inl x1), (2, .inl x2), (3, .inl x3)], [], zW T' G' S61 n, 0, 0)
  refine z_go2 M.1 64 [(.aload_n 0, 1), (.iload_n 1, 1), (.iload_n 2, 1)] (67, [(0, z_r 78), (1, .inl x1), (2, .inl x2), (3, .inl x3)], [.inl x2, .inl x1, z_r 78], zW T' G' S61 n, 0, 0) (by decide +kernel) rfl ⟨trivial, trivial, trivial, trivial⟩ ?_
  refine z_callV M.1 (av := [.inl x1, .inl x2]) (st := []) (a := 78) (ci := 14) (by decide +kernel) (c_M_finds T' G' S61 n x1 x2 hs.1) M.2.1 zl_M_467 zv_M_finds rfl rfl rfl ⟨by decide, by decide, by decide, by decide⟩ rfl (Nat.le_of_ble_eq_true rfl) (fun v w' hv => ?_)
  replace hs := hs.2
  obtain ⟨S67, hF67⟩ : ∃ y, F_M_finds S61 x1 x2 = y := ⟨_, rfl⟩
  rw [hF67] at K hv
  try rw [hF67] at hs
  try dsimp only [z_let] at K hs
  obtain ⟨rfl, rfl⟩ := hv
  show z_G X zm_M_found (70, [(0, z_r 78), (1, .inl x1), (2, .inl x2), (3, .inl x3)], [], zW T' G' S67 n, 0, 0)
  refine z_go2 M.1 70 [(.iconst 0, 1), (.istore 4, 2), (.iconst (-1), 1), (.istore 5, 2), (.iconst 0, 1), (.istore 6, 2)] (79, [(6, .inl 0), (5, .inl (-1)), (4, .inl 0), (0, z_r 78), (1, .inl x1), (2, .inl x2), (3, .inl x3)], [], zW T' G' S67 n, 0, 0) (by decide +kernel) rfl ⟨trivial, trivial, trivial, trivial, trivial, trivial, trivial⟩ ?_
  refine z_lvs (lv' := [(0, z_r 78), (1, .inl x1), (3, .inl x3), (4, .inl 0), (5, .inl (-1)), (6, .inl 0)]) [3, 4, 6, 2, 1, 0] rfl ?_
  refine t_M_found_L79 M (Q := fun o => F_M_found_L79 x1 x3 1300 S67 0 (-1) 0 = o) x1 x3 (fun y5_79 S79 hL79 => ?_) 1300 S67 0 (-1) 0 rfl hs.1
  replace hs := hs.2
  rw [hL79] at K
  try dsimp only at K
  refine z_go2 M.1 136 [(.aload_n 0, 1), (.iload 5, 2), (.iconst (-1), 1)] (140, [(0, z_r 78), (5, .inl y5_79)], [.inl (-1), .inl y5_79, z_r 78], zW T' G' S79 n, 0, 0) (by decide +kernel) rfl ⟨trivial, trivial, trivial, trivial⟩ ?_
  refine z_icmp_ne 147 M.1 (off := 7) (by decide +kernel) (by decide) (fun c140 => ?_) (fun c140 => ?_)
  · rw [if_neg c140] at K
    refine z_go2 M.1 147 [(.iconst 0, 1)] (148, [(0, z_r 78), (5, .inl y5_79)], [.inl 0, z_r 78], zW T' G' S79 n, 0, 0) (by decide +kernel) rfl ⟨trivial, trivial⟩ ?_
    exact z_lvs (lv' := [(0, z_r 78), (5, .inl y5_79)]) [0, 1] rfl (t_M_found_j148 M S79 y5_79 0 hQ K)
  · rw [if_pos c140] at K
    refine z_go2 M.1 143 [(.iconst 1, 1), (.goto 4, 3)] (148, [(0, z_r 78), (5, .inl y5_79)], [.inl 1, z_r 78], zW T' G' S79 n, 0, 0) (by decide +kernel) rfl ⟨trivial, trivial, trivial⟩ ?_
    exact z_lvs (lv' := [(0, z_r 78), (5, .inl y5_79)]) [0, 1] rfl (t_M_found_j148 M S79 y5_79 1 hQ K)
def F_M_found_j33 (S : (Nat → Nat → Int32)) (x1 : Int32) (x2 : Int32) (x3 : Int32) (s0 : Int32) : (Int32 × (Nat → Nat → Int32)) := (if s0 ≤ 0 then (if x2 = (S 78 1) then (F_M_found_j61 (z_uS S 78 0 s0) x1 x2 x3 1 x2 x1) else (F_M_found_j61 (z_uS S 78 0 s0) x1 x2 x3 0 x2 x1)) else (0, (z_uS S 78 0 s0)))
def Sf_M_found_j33 (S : (Nat → Nat → Int32)) (x1 : Int32) (x2 : Int32) (x3 : Int32) (s0 : Int32) : Prop := (if s0 ≤ 0 then (if x2 = (S 78 1) then (Sf_M_found_j61 (z_uS S 78 0 s0) x1 x2 x3 1 x2 x1) else (Sf_M_found_j61 (z_uS S 78 0 s0) x1 x2 x3 0 x2 x1)) else True)
theorem t_M_found_j33 {X : z_X} {Post : Option z_V → z_W → Prop} (M : z_M X zm_M_found rm_M_found Post) {T' : Nat → Nat × Nat} {G' : Nat → Nat → Option Nat} {n : Nat} {Q : (Int32 × (Nat → Nat → Int32)) → Prop} (S : (Nat → Nat → Int32)) (x1 : Int32) (x2 : Int32) (x3 : Int32) (s0 : Int32) (hQ : ∀ v S', Q (v, S') → Post (some (.inl v)) (zW T' G' S' n)) (K : Q (F_M_found_j33 S x1 x2 x3 s0)) (hs : Sf_M_found_j33 S x1 x2 x3 s0) : z_G X zm_M_found (33, [(0, z_r 78), (1, .inl x1), (2, .inl x2), (3, .inl x3)], [.inl s0, z_r 78], zW T' G' S n, 0, 0) := by
  unfold F_M_found_j33 at K
  unfold Sf_M_found_j33 at hs
  refine z_go2 M.1 33 [(.putfield 175, 3), (.aload_n 0, 1), (.getfield 175, 3)] (40, [(0, z_r 78), (1, .inl x1), (2, .inl x2), (3, .inl x3)], [.inl s0], zW T' G' (z_uS S 78 0 s0) n, 0, 0) (by decide +kernel) rfl ⟨⟨rfl, trivial⟩, trivial, rfl, trivial⟩ ?_
  refine z_if_le 45 M.1 (off := 5) (by decide +kernel) (by decide) (fun c40 => ?_) (fun c40 => ?_)
  · rw [if_pos c40] at K hs
    refine z_go2 M.1 45 [(.aload_n 0, 1), (.iload_n 1, 1), (.iload_n 2, 1), (.iload_n 2, 1), (.aload_n 0, 1), (.getfield 185, 3)] (53, [(0, z_r 78), (1, .inl x1), (2, .inl x2), (3, .inl x3)], [.inl (S 78 1), .inl x2, .inl x2, .inl x1, z_r 78], zW T' G' (z_uS S 78 0 s0) n, 0, 0) (by decide +kernel) rfl ⟨trivial, trivial, trivial, trivial, trivial, rfl, trivial⟩ ?_
    refine z_icmp_ne 60 M.1 (off := 7) (by decide +kernel) (by decide) (fun c53 => ?_) (fun c53 => ?_)
    · rw [if_neg c53] at K hs
      refine z_go2 M.1 60 [(.iconst 0, 1)] (61, [(0, z_r 78), (1, .inl x1), (2, .inl x2), (3, .inl x3)], [.inl 0, .inl x2, .inl x1, z_r 78], zW T' G' (z_uS S 78 0 s0) n, 0, 0) (by decide +kernel) rfl ⟨trivial, trivial⟩ ?_
      exact z_lvs (lv' := [(0, z_r 78), (1, .inl x1), (2, .inl x2), (3, .inl x3)]) [0, 1, 2, 3] rfl (t_M_found_j61 M (z_uS S 78 0 s0) x1 x2 x3 0 x2 x1 hQ K hs)
    · rw [if_pos c53] at K hs
      refine z_go2 M.1 56 [(.iconst 1, 1), (.goto 4, 3)] (61, [(0, z_r 78), (1, .inl x1), (2, .inl x2), (3, .inl x3)], [.inl 1, .inl x2, .inl x1, z_r 78], zW T' G' (z_uS S 78 0 s0) n, 0, 0) (by decide +kernel) rfl ⟨trivial, trivial, trivial⟩ ?_
      exact z_lvs (lv' := [(0, z_r 78), (1, .inl x1), (2, .inl x2), (3, .inl x3)]) [0, 1, 2, 3] rfl (t_M_found_j61 M (z_uS S 78 0 s0) x1 x2 x3 1 x2 x1 hQ K hs)
  · rw [if_neg c40] at K hs
    refine z_go2 M.1 43 [(.iconst 0, 1)] (44, [(0, z_r 78), (1, .inl x1), (2, .inl x2), (3, .inl x3)], [.inl 0], zW T' G' (z_uS S 78 0 s0) n, 0, 0) (by decide +kernel) rfl ⟨trivial, trivial⟩ ?_
    exact z_iret M (by decide +kernel) .int rfl rfl (by decide) (by decide) (hQ _ _ K)
def F_M_found_j16 (S : (Nat → Nat → Int32)) (x1 : Int32) (x2 : Int32) (x3 : Int32) : (Int32 × (Nat → Nat → Int32)) := (F_M_found_j33 S x1 x2 x3 1)
def Sf_M_found_j16 (S : (Nat → Nat → Int32)) (x1 : Int32) (x2 : Int32) (x3 : Int32) : Prop := (Sf_M_found_j33 S x1 x2 x3 1)
theorem t_M_found_j16 {X : z_X} {Post : Option z_V → z_W → Prop} (M : z_M X zm_M_found rm_M_found Post) {T' : Nat → Nat × Nat} {G' : Nat → Nat → Option Nat} {n : Nat} {Q : (Int32 × (Nat → Nat → Int32)) → Prop} (S : (Nat → Nat → Int32)) (x1 : Int32) (x2 : Int32) (x3 : Int32) (hQ : ∀ v S', Q (v, S') → Post (some (.inl v)) (zW T' G' S' n)) (K : Q (F_M_found_j16 S x1 x2 x3)) (hs : Sf_M_found_j16 S x1 x2 x3) : z_G X zm_M_found (16, [(0, z_r 78), (1, .inl x1), (2, .inl x2), (3, .inl x3)], [z_r 78], zW T' G' S n, 0, 0) := by
  unfold F_M_found_j16 at K
  unfold Sf_M_found_j16 at hs
  refine z_go2 M.1 16 [(.iconst 1, 1), (.goto 16, 3)] (33, [(0, z_r 78), (1, .inl x1), (2, .inl x2), (3, .inl x3)], [.inl 1, z_r 78], zW T' G' S n, 0, 0) (by decide +kernel) rfl ⟨trivial, trivial, trivial⟩ ?_
  exact z_lvs (lv' := [(0, z_r 78), (1, .inl x1), (2, .inl x2), (3, .inl x3)]) [0, 1, 2, 3] rfl (t_M_found_j33 M S x1 x2 x3 1 hQ K hs)
def F_M_found (S : (Nat → Nat → Int32)) (p1 : Int32) (p2 : Int32) (p3 : Int32) : (Int32 × (Nat → Nat → Int32)) := (if (F_M_isPerson S p1) = 0 then (F_M_found_j16 S p1 p2 p3) else (if (F_M_isDay S p2) = 0 then (F_M_found_j16 S p1 p2 p3) else (match F_M_reads_0 S with | (r21, S21) => (if r21 = (-1) then (F_M_found_j33 S21 p1 p2 p3 0) else (F_M_found_j33 S21 p1 p2 p3 2)))))
def Sf_M_found (S : (Nat → Nat → Int32)) (p1 : Int32) (p2 : Int32) (p3 : Int32) : Prop := (Sf_M_isPerson S p1 ∧ (if (F_M_isPerson S p1) = 0 then (Sf_M_found_j16 S p1 p2 p3) else (Sf_M_isDay S p2 ∧ (if (F_M_isDay S p2) = 0 then (Sf_M_found_j16 S p1 p2 p3) else (Sf_M_reads_0 S ∧ (match F_M_reads_0 S with | (r21, S21) => (if r21 = (-1) then (Sf_M_found_j33 S21 p1 p2 p3 0) else (Sf_M_found_j33 S21 p1 p2 p3 2))))))))
theorem c_M_found (T' : Nat → Nat × Nat) (G' : Nat → Nat → Option Nat) (S : (Nat → Nat → Int32)) (n : Nat) (p1 : Int32) (p2 : Int32) (p3 : Int32) (hs : Sf_M_found S p1 p2 p3) : z_Run rm_M_found zm_M_found [z_r 78, .inl p1, .inl p2, .inl p3] (zW T' G' S n) (zq (some (.inl (F_M_found S p1 p2 p3).1)) (zW T' G' (F_M_found S p1 p2 p3).2 n)) := by
  refine z_body (by decide) zf_M_ok (Nat.le_of_ble_eq_true rfl) (fun X M => ?_)
  obtain ⟨Q, hQ, K⟩ : ∃ Q : (Int32 × (Nat → Nat → Int32)) → Prop, (∀ v S', Q (v, S') → zq (some (.inl (F_M_found S p1 p2 p3).1)) (zW T' G' (F_M_found S p1 p2 p3).2 n) (some (.inl v)) (zW T' G' S' n)) ∧ Q (F_M_found S p1 p2 p3) := ⟨fun o => F_M_found S p1 p2 p3 = o, fun v S' h => ⟨by rw [h], by rw [h]⟩, rfl⟩
  show z_G X zm_M_found (0, [(0, z_r 78), (1, .inl p1), (2, .inl p2), (3, .inl p3)], [], zW T' G' S n, 0, 0)
  unfold F_M_found at K
  unfold Sf_M_found at hs
  refine z_go2 M.1 0 [(.aload_n 0, 1), (.iload_n 1, 1)] (2, [(0, z_r 78), (1, .inl p1), (2, .inl p2), (3, .inl p3)], [.inl p1, z_r 78], zW T' G' S n, 0, 0) (by decide +kernel) rfl ⟨trivial, trivial, trivial⟩ ?_
  refine z_callS M.1 (av := [.inl p1]) (st := [z_r 78]) (by decide +kernel) (c_M_isPerson T' G' S n p1 hs.1) M.2.1 zl_M_295 zs_M_isPerson ⟨by decide, by decide, by decide, by decide⟩ rfl (Nat.le_of_ble_eq_true rfl) (fun v w' hv => ?_)
  obtain ⟨rfl, rfl⟩ := hv
  replace hs := hs.2
  show z_G X zm_M_found (5, [(0, z_r 78), (1, .inl p1), (2, .inl p2), (3, .inl p3)], [.inl (F_M_isPerson S p1), z_r 78], zW T' G' S n, 0, 0)
  refine z_if_eq 16 M.1 (off := 11) (by decide +kernel) (by decide) (fun c5 => ?_) (fun c5 => ?_)
  · rw [if_pos c5] at K hs
    exact z_lvs (lv' := [(0, z_r 78), (1, .inl p1), (2, .inl p2), (3, .inl p3)]) [0, 1, 2, 3] rfl (t_M_found_j16 M S p1 p2 p3 hQ K hs)
  · rw [if_neg c5] at K hs
    refine z_go2 M.1 8 [(.aload_n 0, 1), (.iload_n 2, 1)] (10, [(0, z_r 78), (1, .inl p1), (2, .inl p2), (3, .inl p3)], [.inl p2, z_r 78, z_r 78], zW T' G' S n, 0, 0) (by decide +kernel) rfl ⟨trivial, trivial, trivial⟩ ?_
    refine z_callV M.1 (av := [.inl p2]) (st := [z_r 78]) (a := 78) (ci := 14) (by decide +kernel) (c_M_isDay T' G' S n p2 hs.1) M.2.1 zl_M_460 zv_M_isDay rfl rfl rfl ⟨by decide, by decide, by decide, by decide⟩ rfl (Nat.le_of_ble_eq_true rfl) (fun v w' hv => ?_)
    obtain ⟨rfl, rfl⟩ := hv
    replace hs := hs.2
    show z_G X zm_M_found (13, [(0, z_r 78), (1, .inl p1), (2, .inl p2), (3, .inl p3)], [.inl (F_M_isDay S p2), z_r 78], zW T' G' S n, 0, 0)
    refine z_if_ne 20 M.1 (off := 7) (by decide +kernel) (by decide) (fun c13 => ?_) (fun c13 => ?_)
    · rw [if_neg c13] at K hs
      refine z_go2 M.1 20 [(.aload_n 0, 1)] (21, [(0, z_r 78), (1, .inl p1), (2, .inl p2), (3, .inl p3)], [z_r 78, z_r 78], zW T' G' S n, 0, 0) (by decide +kernel) rfl ⟨trivial, trivial⟩ ?_
      refine z_callV M.1 (av := []) (st := [z_r 78]) (a := 78) (ci := 14) (by decide +kernel) (c_M_reads_0 T' G' S n hs.1) M.2.1 zl_M_416 zv_M_reads_0 rfl rfl rfl ⟨by decide, by decide, by decide, by decide⟩ rfl (Nat.le_of_ble_eq_true rfl) (fun v w' hv => ?_)
      replace hs := hs.2
      rcases hF21 : F_M_reads_0 S with ⟨r21, S21⟩
      rw [hF21] at K hv
      try rw [hF21] at hs
      try dsimp only at K hs
      obtain ⟨rfl, rfl⟩ := hv
      show z_G X zm_M_found (24, [(0, z_r 78), (1, .inl p1), (2, .inl p2), (3, .inl p3)], [.inl r21, z_r 78], zW T' G' S21 n, 0, 0)
      refine z_go2 M.1 24 [(.iconst (-1), 1)] (25, [(0, z_r 78), (1, .inl p1), (2, .inl p2), (3, .inl p3)], [.inl (-1), .inl r21, z_r 78], zW T' G' S21 n, 0, 0) (by decide +kernel) rfl ⟨trivial, trivial⟩ ?_
      refine z_icmp_ne 32 M.1 (off := 7) (by decide +kernel) (by decide) (fun c25 => ?_) (fun c25 => ?_)
      · rw [if_neg c25] at K hs
        refine z_go2 M.1 32 [(.iconst 2, 1)] (33, [(0, z_r 78), (1, .inl p1), (2, .inl p2), (3, .inl p3)], [.inl 2, z_r 78], zW T' G' S21 n, 0, 0) (by decide +kernel) rfl ⟨trivial, trivial⟩ ?_
        exact z_lvs (lv' := [(0, z_r 78), (1, .inl p1), (2, .inl p2), (3, .inl p3)]) [0, 1, 2, 3] rfl (t_M_found_j33 M S21 p1 p2 p3 2 hQ K hs)
      · rw [if_pos c25] at K hs
        refine z_go2 M.1 28 [(.iconst 0, 1), (.goto 4, 3)] (33, [(0, z_r 78), (1, .inl p1), (2, .inl p2), (3, .inl p3)], [.inl 0, z_r 78], zW T' G' S21 n, 0, 0) (by decide +kernel) rfl ⟨trivial, trivial, trivial⟩ ?_
        exact z_lvs (lv' := [(0, z_r 78), (1, .inl p1), (2, .inl p2), (3, .inl p3)]) [0, 1, 2, 3] rfl (t_M_found_j33 M S21 p1 p2 p3 0 hQ K hs)
    · rw [if_pos c13] at K hs
      exact z_lvs (lv' := [(0, z_r 78), (1, .inl p1), (2, .inl p2), (3, .inl p3)]) [0, 1, 2, 3] rfl (t_M_found_j16 M S p1 p2 p3 hQ K hs)

-- TrackHouseModel.sum
abbrev rm_M_sum : Room := zr 95
def F_M_sum_l89_122 (rc : (Nat → Nat → Int32) → Int32 → Int32 → (Int32 × (Nat → Nat → Int32))) (S : (Nat → Nat → Int32)) (x1 : Int32) (x3 : Int32) (x4 : Int32) (x5 : Int32) (s0 : Int32) : (Int32 × (Nat → Nat → Int32)) := (if s0 = (-1) then (rc S (x4 + 0) (x5 + 1)) else (rc S (x4 + s0) (x5 + 1)))
def Sf_M_sum_l89_122 (rc : (Nat → Nat → Int32) → Int32 → Int32 → (Int32 × (Nat → Nat → Int32))) (sr : (Nat → Nat → Int32) → Int32 → Int32 → Prop) (S : (Nat → Nat → Int32)) (x1 : Int32) (x3 : Int32) (x4 : Int32) (x5 : Int32) (s0 : Int32) : Prop := (if s0 = (-1) then (sr S (x4 + 0) (x5 + 1)) else (sr S (x4 + s0) (x5 + 1)))
theorem t_M_sum_l89_122 {X : z_X} {Post : Option z_V → z_W → Prop} (M : z_M X zm_M_sum rm_M_sum Post) {T' : Nat → Nat × Nat} {G' : Nat → Nat → Option Nat} {n : Nat} {Q : (Int32 × (Nat → Nat → Int32)) → Prop} (rc : (Nat → Nat → Int32) → Int32 → Int32 → (Int32 × (Nat → Nat → Int32))) (sr : (Nat → Nat → Int32) → Int32 → Int32 → Prop) (S : (Nat → Nat → Int32)) (x1 : Int32) (x3 : Int32) (x4 : Int32) (x5 : Int32) (s0 : Int32) (hE : ∀ (y4 : Int32) (S' : (Nat → Nat → Int32)), Q (y4, S') → z_G X zm_M_sum (147, [(4, .inl y4)], [], zW T' G' S' n, 0, 0)) (hC : ∀ (S : (Nat → Nat → Int32)) (x4 : Int32) (x5 : Int32), Q (rc S x4 x5) → sr S x4 x5 → z_G X zm_M_sum (89, [(0, z_r 78), (1, .inl x1), (3, .inl x3), (4, .inl x4), (5, .inl x5)], [], zW T' G' S n, 0, 0)) (K : Q (F_M_sum_l89_122 rc S x1 x3 x4 x5 s0)) (hs : Sf_M_sum_l89_122 rc sr S x1 x3 x4 x5 s0) : z_G X zm_M_sum (122, [(0, z_r 78), (1, .inl x1), (3, .inl x3), (4, .inl x4), (5, .inl x5)], [.inl s0], zW T' G' S n, 0, 0) := by
  unfold F_M_sum_l89_122 at K
  unfold Sf_M_sum_l89_122 at hs
  refine z_go2 M.1 122 [(.istore 6, 2), (.iload 4, 2), (.iload 6, 2), (.iconst (-1), 1)] (129, [(6, .inl s0), (0, z_r 78), (1, .inl x1), (3, .inl x3), (4, .inl x4), (5, .inl x5)], [.inl (-1), .inl s0, .inl x4], zW T' G' S n, 0, 0) (by decide +kernel) rfl ⟨trivial, trivial, trivial, trivial, trivial⟩ ?_
  refine z_icmp_ne 136 M.1 (off := 7) (by decide +kernel) (by decide) (fun c129 => ?_) (fun c129 => ?_)
  · rw [if_neg c129] at K hs
    refine z_go2 M.1 136 [(.iload 6, 2), (.iadd, 1), (.istore 4, 2), (.iinc 5 1, 3), (.goto (-55), 3)] (89, [(5, .inl (x5 + 1)), (4, .inl (x4 + s0)), (6, .inl s0), (0, z_r 78), (1, .inl x1), (3, .inl x3)], [], zW T' G' S n, 0, 0) (by decide +kernel) rfl ⟨trivial, trivial, trivial, trivial, trivial, trivial⟩ ?_
    exact z_lvs (lv' := [(0, z_r 78), (1, .inl x1), (3, .inl x3), (4, .inl (x4 + s0)), (5, .inl (x5 + 1))]) [3, 4, 5, 1, 0] rfl (hC S (x4 + s0) (x5 + 1) K hs)
  · rw [if_pos c129] at K hs
    refine z_go2 M.1 132 [(.iconst 0, 1), (.goto 5, 3), (.iadd, 1), (.istore 4, 2), (.iinc 5 1, 3), (.goto (-55), 3)] (89, [(5, .inl (x5 + 1)), (4, .inl (x4 + 0)), (6, .inl s0), (0, z_r 78), (1, .inl x1), (3, .inl x3)], [], zW T' G' S n, 0, 0) (by decide +kernel) rfl ⟨trivial, trivial, trivial, trivial, trivial, trivial, trivial⟩ ?_
    exact z_lvs (lv' := [(0, z_r 78), (1, .inl x1), (3, .inl x3), (4, .inl (x4 + 0)), (5, .inl (x5 + 1))]) [3, 4, 5, 1, 0] rfl (hC S (x4 + 0) (x5 + 1) K hs)
def F_M_sum_L89 (x1 : Int32) (x3 : Int32) : Nat → (Nat → Nat → Int32) → Int32 → Int32 → (Int32 × (Nat → Nat → Int32))
  | 0, S, x4, x5 => (x4, S)
  | f + 1, S, x4, x5 => (if (30 : Int32) ≤ x5 then (x4, S) else (if (F_M_isFound S x1 x5) = 0 then (F_M_sum_l89_122 (F_M_sum_L89 x1 x3 f) S x1 x3 x4 x5 (-1)) else (F_M_sum_l89_122 (F_M_sum_L89 x1 x3 f) S x1 x3 x4 x5 (F_M_valueFor 98 S x1 x5 x3))))
def Sf_M_sum_L89 (x1 : Int32) (x3 : Int32) : Nat → (Nat → Nat → Int32) → Int32 → Int32 → Prop
  | 0, _, _, _ => False
  | f + 1, S, x4, x5 => (if (30 : Int32) ≤ x5 then True else (Sf_M_isFound S x1 x5 ∧ (if (F_M_isFound S x1 x5) = 0 then (Sf_M_sum_l89_122 (F_M_sum_L89 x1 x3 f) (Sf_M_sum_L89 x1 x3 f) S x1 x3 x4 x5 (-1)) else (Sf_M_valueFor 98 S x1 x5 x3 ∧ (Sf_M_sum_l89_122 (F_M_sum_L89 x1 x3 f) (Sf_M_sum_L89 x1 x3 f) S x1 x3 x4 x5 (F_M_valueFor 98 S x1 x5 x3))))))
theorem t_M_sum_L89 {X : z_X} {Post : Option z_V → z_W → Prop} (M : z_M X zm_M_sum rm_M_sum Post) {T' : Nat → Nat × Nat} {G' : Nat → Nat → Option Nat} {n : Nat} {Q : (Int32 × (Nat → Nat → Int32)) → Prop}  (x1 : Int32) (x3 : Int32) (hE : ∀ (y4 : Int32) (S' : (Nat → Nat → Int32)), Q (y4, S') → z_G X zm_M_sum (147, [(4, .inl y4)], [], zW T' G' S' n, 0, 0)) (f : Nat) : ∀ (S : (Nat → Nat → Int32)) (x4 : Int32) (x5 : Int32), Q (F_M_sum_L89 x1 x3 f S x4 x5) → Sf_M_sum_L89 x1 x3 f S x4 x5 → z_G X zm_M_sum (89, [(0, z_r 78), (1, .inl x1), (3, .inl x3), (4, .inl x4), (5, .inl x5)], [], zW T' G' S n, 0, 0) := by
  induction f with
  | zero => intro S x4 x5 K hs; exact False.elim hs
  | succ f hC =>
    intro S x4 x5 K hs
    rw [F_M_sum_L89] at K
    rw [Sf_M_sum_L89] at hs
    refine z_go2 M.1 89 [(.iload 5, 2), (.bipush 30, 2)] (93, [(0, z_r 78), (1, .inl x1), (3, .inl x3), (4, .inl x4), (5, .inl x5)], [.inl 30, .inl x5], zW T' G' S n, 0, 0) (by decide +kernel) rfl ⟨trivial, trivial, trivial⟩ ?_
    refine z_icmp_ge 147 M.1 (off := 54) (by decide +kernel) (by decide) (fun c93 => ?_) (fun c93 => ?_)
    · rw [if_pos c93] at K hs
      exact z_lvs (lv' := [(4, .inl x4)]) [3] rfl (hE x4 S K)
    · rw [if_neg c93] at K hs
      refine z_go2 M.1 96 [(.aload_n 0, 1), (.iload_n 1, 1), (.iload 5, 2)] (100, [(0, z_r 78), (1, .inl x1), (3, .inl x3), (4, .inl x4), (5, .inl x5)], [.inl x5, .inl x1, z_r 78], zW T' G' S n, 0, 0) (by decide +kernel) rfl ⟨trivial, trivial, trivial, trivial⟩ ?_
      refine z_callV M.1 (av := [.inl x1, .inl x5]) (st := []) (a := 78) (ci := 14) (by decide +kernel) (c_M_isFound T' G' S n x1 x5 hs.1) M.2.1 zl_M_471 zv_M_isFound rfl rfl rfl ⟨by decide, by decide, by decide, by decide⟩ rfl (Nat.le_of_ble_eq_true rfl) (fun v w' hv => ?_)
      obtain ⟨rfl, rfl⟩ := hv
      replace hs := hs.2
      show z_G X zm_M_sum (103, [(0, z_r 78), (1, .inl x1), (3, .inl x3), (4, .inl x4), (5, .inl x5)], [.inl (F_M_isFound S x1 x5)], zW T' G' S n, 0, 0)
      refine z_if_eq 121 M.1 (off := 18) (by decide +kernel) (by decide) (fun c103 => ?_) (fun c103 => ?_)
      · rw [if_pos c103] at K hs
        refine z_go2 M.1 121 [(.iconst (-1), 1)] (122, [(0, z_r 78), (1, .inl x1), (3, .inl x3), (4, .inl x4), (5, .inl x5)], [.inl (-1)], zW T' G' S n, 0, 0) (by decide +kernel) rfl ⟨trivial, trivial⟩ ?_
        exact z_lvs (lv' := [(0, z_r 78), (1, .inl x1), (3, .inl x3), (4, .inl x4), (5, .inl x5)]) [0, 1, 2, 3, 4] rfl (t_M_sum_l89_122 M (F_M_sum_L89 x1 x3 f) (Sf_M_sum_L89 x1 x3 f) S x1 x3 x4 x5 (-1) hE hC K hs)
      · rw [if_neg c103] at K hs
        refine z_go2 M.1 106 [(.aload_n 0, 1), (.aload_n 0, 1), (.getfield 38, 3), (.iload_n 1, 1), (.iload 5, 2), (.iload_n 3, 1)] (115, [(0, z_r 78), (1, .inl x1), (3, .inl x3), (4, .inl x4), (5, .inl x5)], [.inl x3, .inl x5, .inl x1, z_r 98, z_r 78], zW T' G' S n, 0, 0) (by decide +kernel) rfl ⟨trivial, trivial, rfl, trivial, trivial, trivial, trivial⟩ ?_
        refine z_callV M.1 (av := [z_r 98, .inl x1, .inl x5, .inl x3]) (st := []) (a := 78) (ci := 14) (by decide +kernel) (c_M_valueFor_98 T' G' S n x1 x5 x3 hs.1) M.2.1 zl_M_428 zv_M_valueFor rfl rfl rfl ⟨by decide, by decide, by decide, by decide⟩ rfl (Nat.le_of_ble_eq_true rfl) (fun v w' hv => ?_)
        obtain ⟨rfl, rfl⟩ := hv
        replace hs := hs.2
        show z_G X zm_M_sum (118, [(0, z_r 78), (1, .inl x1), (3, .inl x3), (4, .inl x4), (5, .inl x5)], [.inl (F_M_valueFor 98 S x1 x5 x3)], zW T' G' S n, 0, 0)
        refine z_go2 M.1 118 [(.goto 4, 3)] (122, [(0, z_r 78), (1, .inl x1), (3, .inl x3), (4, .inl x4), (5, .inl x5)], [.inl (F_M_valueFor 98 S x1 x5 x3)], zW T' G' S n, 0, 0) (by decide +kernel) rfl ⟨trivial, trivial⟩ ?_
        exact z_lvs (lv' := [(0, z_r 78), (1, .inl x1), (3, .inl x3), (4, .inl x4), (5, .inl x5)]) [0, 1, 2, 3, 4] rfl (t_M_sum_l89_122 M (F_M_sum_L89 x1 x3 f) (Sf_M_sum_L89 x1 x3 f) S x1 x3 x4 x5 (F_M_valueFor 98 S x1 x5 x3) hE hC K hs)
def F_M_sum_j74 (S : (Nat → Nat → Int32)) (x1 : Int32) (x2 : Int32) (x3 : Int32) (s0 : Int32) (s1 : Int32) (s2 : Int32) : (Int32 × (Nat → Nat → Int32)) := (z_let (F_M_asks S s2 s1 s0) (fun S74 => (z_let (F_M_finds S74 x1 x2) (fun S80 => (match F_M_sum_L89 x1 x3 1300 S80 0 0 with | (y4_89, S89) => (y4_89, S89))))))
def Sf_M_sum_j74 (S : (Nat → Nat → Int32)) (x1 : Int32) (x2 : Int32) (x3 : Int32) (s0 : Int32) (s1 : Int32) (s2 : Int32) : Prop := (Sf_M_asks S s2 s1 s0 ∧ (z_let (F_M_asks S s2 s1 s0) (fun S74 => (Sf_M_finds S74 x1 x2 ∧ (z_let (F_M_finds S74 x1 x2) (fun S80 => (Sf_M_sum_L89 x1 x3 1300 S80 0 0 ∧ True)))))))
theorem t_M_sum_j74 {X : z_X} {Post : Option z_V → z_W → Prop} (M : z_M X zm_M_sum rm_M_sum Post) {T' : Nat → Nat × Nat} {G' : Nat → Nat → Option Nat} {n : Nat} {Q : (Int32 × (Nat → Nat → Int32)) → Prop} (S : (Nat → Nat → Int32)) (x1 : Int32) (x2 : Int32) (x3 : Int32) (s0 : Int32) (s1 : Int32) (s2 : Int32) (hQ : ∀ v S', Q (v, S') → Post (some (.inl v)) (zW T' G' S' n)) (K : Q (F_M_sum_j74 S x1 x2 x3 s0 s1 s2)) (hs : Sf_M_sum_j74 S x1 x2 x3 s0 s1 s2) : z_G X zm_M_sum (74, [(0, z_r 78), (1, .inl x1), (2, .inl x2), (3, .inl x3)], [.inl s0, .inl s1, .inl s2, z_r 78], zW T' G' S n, 0, 0) := by
  unfold F_M_sum_j74 at K
  unfold Sf_M_sum_j74 at hs
  refine z_callV M.1 (av := [.inl s2, .inl s1, .inl s0]) (st := []) (a := 78) (ci := 14) (by decide +kernel) (c_M_asks T' G' S n s2 s1 s0 hs.1) M.2.1 zl_M_463 zv_M_asks rfl rfl rfl ⟨by decide, by decide, by decide, by decide⟩ rfl (Nat.le_of_ble_eq_true rfl) (fun v w' hv => ?_)
  replace hs := hs.2
  obtain ⟨S74, hF74⟩ : ∃ y, F_M_asks S s2 s1 s0 = y := ⟨_, rfl⟩
  rw [hF74] at K hv
  try rw [hF74] at hs
  try dsimp only [z_let] at K hs
  obtain ⟨rfl, rfl⟩ := hv
  show z_G X zm_M_sum (77, [(0, z_r 78), (1, .inl x1), (2, .inl x2), (3, .inl x3)], [], zW T' G' S74 n, 0, 0)
  refine z_go2 M.1 77 [(.aload_n 0, 1), (.iload_n 1, 1), (.iload_n 2, 1)] (80, [(0, z_r 78), (1, .inl x1), (2, .inl x2), (3, .inl x3)], [.inl x2, .inl x1, z_r 78], zW T' G' S74 n, 0, 0) (by decide +kernel) rfl ⟨trivial, trivial, trivial, trivial⟩ ?_
  refine z_callV M.1 (av := [.inl x1, .inl x2]) (st := []) (a := 78) (ci := 14) (by decide +kernel) (c_M_finds T' G' S74 n x1 x2 hs.1) M.2.1 zl_M_467 zv_M_finds rfl rfl rfl ⟨by decide, by decide, by decide, by decide⟩ rfl (Nat.le_of_ble_eq_true rfl) (fun v w' hv => ?_)
  replace hs := hs.2
  obtain ⟨S80, hF80⟩ : ∃ y, F_M_finds S74 x1 x2 = y := ⟨_, rfl⟩
  rw [hF80] at K hv
  try rw [hF80] at hs
  try dsimp only [z_let] at K hs
  obtain ⟨rfl, rfl⟩ := hv
  show z_G X zm_M_sum (83, [(0, z_r 78), (1, .inl x1), (2, .inl x2), (3, .inl x3)], [], zW T' G' S80 n, 0, 0)
  refine z_go2 M.1 83 [(.iconst 0, 1), (.istore 4, 2), (.iconst 0, 1), (.istore 5, 2)] (89, [(5, .inl 0), (4, .inl 0), (0, z_r 78), (1, .inl x1), (2, .inl x2), (3, .inl x3)], [], zW T' G' S80 n, 0, 0) (by decide +kernel) rfl ⟨trivial, trivial, trivial, trivial, trivial⟩ ?_
  refine z_lvs (lv' := [(0, z_r 78), (1, .inl x1), (3, .inl x3), (4, .inl 0), (5, .inl 0)]) [2, 3, 5, 1, 0] rfl ?_
  refine t_M_sum_L89 M (Q := fun o => F_M_sum_L89 x1 x3 1300 S80 0 0 = o) x1 x3 (fun y4_89 S89 hL89 => ?_) 1300 S80 0 0 rfl hs.1
  replace hs := hs.2
  rw [hL89] at K
  try dsimp only at K
  refine z_go2 M.1 147 [(.iload 4, 2)] (149, [(4, .inl y4_89)], [.inl y4_89], zW T' G' S89 n, 0, 0) (by decide +kernel) rfl ⟨trivial, trivial⟩ ?_
  exact z_iret M (by decide +kernel) .int rfl rfl (by decide) (by decide) (hQ _ _ K)
def F_M_sum_j46 (S : (Nat → Nat → Int32)) (x1 : Int32) (x2 : Int32) (x3 : Int32) (s0 : Int32) : (Int32 × (Nat → Nat → Int32)) := (if s0 ≤ 0 then (if x2 = (S 78 1) then (F_M_sum_j74 (z_uS S 78 0 s0) x1 x2 x3 1 x2 x1) else (F_M_sum_j74 (z_uS S 78 0 s0) x1 x2 x3 0 x2 x1)) else (0, (z_uS S 78 0 s0)))
def Sf_M_sum_j46 (S : (Nat → Nat → Int32)) (x1 : Int32) (x2 : Int32) (x3 : Int32) (s0 : Int32) : Prop := (if s0 ≤ 0 then (if x2 = (S 78 1) then (Sf_M_sum_j74 (z_uS S 78 0 s0) x1 x2 x3 1 x2 x1) else (Sf_M_sum_j74 (z_uS S 78 0 s0) x1 x2 x3 0 x2 x1)) else True)
theorem t_M_sum_j46 {X : z_X} {Post : Option z_V → z_W → Prop} (M : z_M X zm_M_sum rm_M_sum Post) {T' : Nat → Nat × Nat} {G' : Nat → Nat → Option Nat} {n : Nat} {Q : (Int32 × (Nat → Nat → Int32)) → Prop} (S : (Nat → Nat → Int32)) (x1 : Int32) (x2 : Int32) (x3 : Int32) (s0 : Int32) (hQ : ∀ v S', Q (v, S') → Post (some (.inl v)) (zW T' G' S' n)) (K : Q (F_M_sum_j46 S x1 x2 x3 s0)) (hs : Sf_M_sum_j46 S x1 x2 x3 s0) : z_G X zm_M_sum (46, [(0, z_r 78), (1, .inl x1), (2, .inl x2), (3, .inl x3)], [.inl s0, z_r 78], zW T' G' S n, 0, 0) := by
  unfold F_M_sum_j46 at K
  unfold Sf_M_sum_j46 at hs
  refine z_go2 M.1 46 [(.putfield 175, 3), (.aload_n 0, 1), (.getfield 175, 3)] (53, [(0, z_r 78), (1, .inl x1), (2, .inl x2), (3, .inl x3)], [.inl s0], zW T' G' (z_uS S 78 0 s0) n, 0, 0) (by decide +kernel) rfl ⟨⟨rfl, trivial⟩, trivial, rfl, trivial⟩ ?_
  refine z_if_le 58 M.1 (off := 5) (by decide +kernel) (by decide) (fun c53 => ?_) (fun c53 => ?_)
  · rw [if_pos c53] at K hs
    refine z_go2 M.1 58 [(.aload_n 0, 1), (.iload_n 1, 1), (.iload_n 2, 1), (.iload_n 2, 1), (.aload_n 0, 1), (.getfield 185, 3)] (66, [(0, z_r 78), (1, .inl x1), (2, .inl x2), (3, .inl x3)], [.inl (S 78 1), .inl x2, .inl x2, .inl x1, z_r 78], zW T' G' (z_uS S 78 0 s0) n, 0, 0) (by decide +kernel) rfl ⟨trivial, trivial, trivial, trivial, trivial, rfl, trivial⟩ ?_
    refine z_icmp_ne 73 M.1 (off := 7) (by decide +kernel) (by decide) (fun c66 => ?_) (fun c66 => ?_)
    · rw [if_neg c66] at K hs
      refine z_go2 M.1 73 [(.iconst 0, 1)] (74, [(0, z_r 78), (1, .inl x1), (2, .inl x2), (3, .inl x3)], [.inl 0, .inl x2, .inl x1, z_r 78], zW T' G' (z_uS S 78 0 s0) n, 0, 0) (by decide +kernel) rfl ⟨trivial, trivial⟩ ?_
      exact z_lvs (lv' := [(0, z_r 78), (1, .inl x1), (2, .inl x2), (3, .inl x3)]) [0, 1, 2, 3] rfl (t_M_sum_j74 M (z_uS S 78 0 s0) x1 x2 x3 0 x2 x1 hQ K hs)
    · rw [if_pos c66] at K hs
      refine z_go2 M.1 69 [(.iconst 1, 1), (.goto 4, 3)] (74, [(0, z_r 78), (1, .inl x1), (2, .inl x2), (3, .inl x3)], [.inl 1, .inl x2, .inl x1, z_r 78], zW T' G' (z_uS S 78 0 s0) n, 0, 0) (by decide +kernel) rfl ⟨trivial, trivial, trivial⟩ ?_
      exact z_lvs (lv' := [(0, z_r 78), (1, .inl x1), (2, .inl x2), (3, .inl x3)]) [0, 1, 2, 3] rfl (t_M_sum_j74 M (z_uS S 78 0 s0) x1 x2 x3 1 x2 x1 hQ K hs)
  · rw [if_neg c53] at K hs
    refine z_go2 M.1 56 [(.iconst 0, 1)] (57, [(0, z_r 78), (1, .inl x1), (2, .inl x2), (3, .inl x3)], [.inl 0], zW T' G' (z_uS S 78 0 s0) n, 0, 0) (by decide +kernel) rfl ⟨trivial, trivial⟩ ?_
    exact z_iret M (by decide +kernel) .int rfl rfl (by decide) (by decide) (hQ _ _ K)
def F_M_sum_j16 (S : (Nat → Nat → Int32)) (x1 : Int32) (x2 : Int32) (x3 : Int32) : (Int32 × (Nat → Nat → Int32)) := (F_M_sum_j46 S x1 x2 x3 1)
def Sf_M_sum_j16 (S : (Nat → Nat → Int32)) (x1 : Int32) (x2 : Int32) (x3 : Int32) : Prop := (Sf_M_sum_j46 S x1 x2 x3 1)
theorem t_M_sum_j16 {X : z_X} {Post : Option z_V → z_W → Prop} (M : z_M X zm_M_sum rm_M_sum Post) {T' : Nat → Nat × Nat} {G' : Nat → Nat → Option Nat} {n : Nat} {Q : (Int32 × (Nat → Nat → Int32)) → Prop} (S : (Nat → Nat → Int32)) (x1 : Int32) (x2 : Int32) (x3 : Int32) (hQ : ∀ v S', Q (v, S') → Post (some (.inl v)) (zW T' G' S' n)) (K : Q (F_M_sum_j16 S x1 x2 x3)) (hs : Sf_M_sum_j16 S x1 x2 x3) : z_G X zm_M_sum (16, [(0, z_r 78), (1, .inl x1), (2, .inl x2), (3, .inl x3)], [z_r 78], zW T' G' S n, 0, 0) := by
  unfold F_M_sum_j16 at K
  unfold Sf_M_sum_j16 at hs
  refine z_go2 M.1 16 [(.iconst 1, 1), (.goto 29, 3)] (46, [(0, z_r 78), (1, .inl x1), (2, .inl x2), (3, .inl x3)], [.inl 1, z_r 78], zW T' G' S n, 0, 0) (by decide +kernel) rfl ⟨trivial, trivial, trivial⟩ ?_
  exact z_lvs (lv' := [(0, z_r 78), (1, .inl x1), (2, .inl x2), (3, .inl x3)]) [0, 1, 2, 3] rfl (t_M_sum_j46 M S x1 x2 x3 1 hQ K hs)
def F_M_sum (S : (Nat → Nat → Int32)) (p1 : Int32) (p2 : Int32) (p3 : Int32) : (Int32 × (Nat → Nat → Int32)) := (if (F_M_isPerson S p1) = 0 then (F_M_sum_j16 S p1 p2 p3) else (if (F_M_isDay S p2) = 0 then (F_M_sum_j16 S p1 p2 p3) else (if (F_M_isIn S p3 0 3) = 0 then (F_M_sum_j46 S p1 p2 p3 2) else (match F_M_reads_0 S with | (r34, S34) => (if r34 = (-1) then (F_M_sum_j46 S34 p1 p2 p3 0) else (F_M_sum_j46 S34 p1 p2 p3 3))))))
def Sf_M_sum (S : (Nat → Nat → Int32)) (p1 : Int32) (p2 : Int32) (p3 : Int32) : Prop := (Sf_M_isPerson S p1 ∧ (if (F_M_isPerson S p1) = 0 then (Sf_M_sum_j16 S p1 p2 p3) else (Sf_M_isDay S p2 ∧ (if (F_M_isDay S p2) = 0 then (Sf_M_sum_j16 S p1 p2 p3) else (if (F_M_isIn S p3 0 3) = 0 then (Sf_M_sum_j46 S p1 p2 p3 2) else (Sf_M_reads_0 S ∧ (match F_M_reads_0 S with | (r34, S34) => (if r34 = (-1) then (Sf_M_sum_j46 S34 p1 p2 p3 0) else (Sf_M_sum_j46 S34 p1 p2 p3 3)))))))))
theorem c_M_sum (T' : Nat → Nat × Nat) (G' : Nat → Nat → Option Nat) (S : (Nat → Nat → Int32)) (n : Nat) (p1 : Int32) (p2 : Int32) (p3 : Int32) (hs : Sf_M_sum S p1 p2 p3) : z_Run rm_M_sum zm_M_sum [z_r 78, .inl p1, .inl p2, .inl p3] (zW T' G' S n) (zq (some (.inl (F_M_sum S p1 p2 p3).1)) (zW T' G' (F_M_sum S p1 p2 p3).2 n)) := by
  refine z_body (by decide) zf_M_ok (Nat.le_of_ble_eq_true rfl) (fun X M => ?_)
  obtain ⟨Q, hQ, K⟩ : ∃ Q : (Int32 × (Nat → Nat → Int32)) → Prop, (∀ v S', Q (v, S') → zq (some (.inl (F_M_sum S p1 p2 p3).1)) (zW T' G' (F_M_sum S p1 p2 p3).2 n) (some (.inl v)) (zW T' G' S' n)) ∧ Q (F_M_sum S p1 p2 p3) := ⟨fun o => F_M_sum S p1 p2 p3 = o, fun v S' h => ⟨by rw [h], by rw [h]⟩, rfl⟩
  show z_G X zm_M_sum (0, [(0, z_r 78), (1, .inl p1), (2, .inl p2), (3, .inl p3)], [], zW T' G' S n, 0, 0)
  unfold F_M_sum at K
  unfold Sf_M_sum at hs
  refine z_go2 M.1 0 [(.aload_n 0, 1), (.iload_n 1, 1)] (2, [(0, z_r 78), (1, .inl p1), (2, .inl p2), (3, .inl p3)], [.inl p1, z_r 78], zW T' G' S n, 0, 0) (by decide +kernel) rfl ⟨trivial, trivial, trivial⟩ ?_
  refine z_callS M.1 (av := [.inl p1]) (st := [z_r 78]) (by decide +kernel) (c_M_isPerson T' G' S n p1 hs.1) M.2.1 zl_M_295 zs_M_isPerson ⟨by decide, by decide, by decide, by decide⟩ rfl (Nat.le_of_ble_eq_true rfl) (fun v w' hv => ?_)
  obtain ⟨rfl, rfl⟩ := hv
  replace hs := hs.2
  show z_G X zm_M_sum (5, [(0, z_r 78), (1, .inl p1), (2, .inl p2), (3, .inl p3)], [.inl (F_M_isPerson S p1), z_r 78], zW T' G' S n, 0, 0)
  refine z_if_eq 16 M.1 (off := 11) (by decide +kernel) (by decide) (fun c5 => ?_) (fun c5 => ?_)
  · rw [if_pos c5] at K hs
    exact z_lvs (lv' := [(0, z_r 78), (1, .inl p1), (2, .inl p2), (3, .inl p3)]) [0, 1, 2, 3] rfl (t_M_sum_j16 M S p1 p2 p3 hQ K hs)
  · rw [if_neg c5] at K hs
    refine z_go2 M.1 8 [(.aload_n 0, 1), (.iload_n 2, 1)] (10, [(0, z_r 78), (1, .inl p1), (2, .inl p2), (3, .inl p3)], [.inl p2, z_r 78, z_r 78], zW T' G' S n, 0, 0) (by decide +kernel) rfl ⟨trivial, trivial, trivial⟩ ?_
    refine z_callV M.1 (av := [.inl p2]) (st := [z_r 78]) (a := 78) (ci := 14) (by decide +kernel) (c_M_isDay T' G' S n p2 hs.1) M.2.1 zl_M_460 zv_M_isDay rfl rfl rfl ⟨by decide, by decide, by decide, by decide⟩ rfl (Nat.le_of_ble_eq_true rfl) (fun v w' hv => ?_)
    obtain ⟨rfl, rfl⟩ := hv
    replace hs := hs.2
    show z_G X zm_M_sum (13, [(0, z_r 78), (1, .inl p1), (2, .inl p2), (3, .inl p3)], [.inl (F_M_isDay S p2), z_r 78], zW T' G' S n, 0, 0)
    refine z_if_ne 20 M.1 (off := 7) (by decide +kernel) (by decide) (fun c13 => ?_) (fun c13 => ?_)
    · rw [if_neg c13] at K hs
      refine z_go2 M.1 20 [(.iload_n 3, 1), (.iconst 0, 1), (.iconst 3, 1)] (23, [(0, z_r 78), (1, .inl p1), (2, .inl p2), (3, .inl p3)], [.inl 3, .inl 0, .inl p3, z_r 78], zW T' G' S n, 0, 0) (by decide +kernel) rfl ⟨trivial, trivial, trivial, trivial⟩ ?_
      refine z_callS M.1 (av := [.inl p3, .inl 0, .inl 3]) (st := [z_r 78]) (by decide +kernel) (c_M_isIn T' G' S n p3 0 3) M.2.1 zl_M_178 zs_M_isIn ⟨by decide, by decide, by decide, by decide⟩ rfl (Nat.le_of_ble_eq_true rfl) (fun v w' hv => ?_)
      obtain ⟨rfl, rfl⟩ := hv
      show z_G X zm_M_sum (26, [(0, z_r 78), (1, .inl p1), (2, .inl p2), (3, .inl p3)], [.inl (F_M_isIn S p3 0 3), z_r 78], zW T' G' S n, 0, 0)
      refine z_if_ne 33 M.1 (off := 7) (by decide +kernel) (by decide) (fun c26 => ?_) (fun c26 => ?_)
      · rw [if_neg c26] at K hs
        refine z_go2 M.1 33 [(.aload_n 0, 1)] (34, [(0, z_r 78), (1, .inl p1), (2, .inl p2), (3, .inl p3)], [z_r 78, z_r 78], zW T' G' S n, 0, 0) (by decide +kernel) rfl ⟨trivial, trivial⟩ ?_
        refine z_callV M.1 (av := []) (st := [z_r 78]) (a := 78) (ci := 14) (by decide +kernel) (c_M_reads_0 T' G' S n hs.1) M.2.1 zl_M_416 zv_M_reads_0 rfl rfl rfl ⟨by decide, by decide, by decide, by decide⟩ rfl (Nat.le_of_ble_eq_true rfl) (fun v w' hv => ?_)
        replace hs := hs.2
        rcases hF34 : F_M_reads_0 S with ⟨r34, S34⟩
        rw [hF34] at K hv
        try rw [hF34] at hs
        try dsimp only at K hs
        obtain ⟨rfl, rfl⟩ := hv
        show z_G X zm_M_sum (37, [(0, z_r 78), (1, .inl p1), (2, .inl p2), (3, .inl p3)], [.inl r34, z_r 78], zW T' G' S34 n, 0, 0)
        refine z_go2 M.1 37 [(.iconst (-1), 1)] (38, [(0, z_r 78), (1, .inl p1), (2, .inl p2), (3, .inl p3)], [.inl (-1), .inl r34, z_r 78], zW T' G' S34 n, 0, 0) (by decide +kernel) rfl ⟨trivial, trivial⟩ ?_
        refine z_icmp_ne 45 M.1 (off := 7) (by decide +kernel) (by decide) (fun c38 => ?_) (fun c38 => ?_)
        · rw [if_neg c38] at K hs
          refine z_go2 M.1 45 [(.iconst 3, 1)] (46, [(0, z_r 78), (1, .inl p1), (2, .inl p2), (3, .inl p3)], [.inl 3, z_r 78], zW T' G' S34 n, 0, 0) (by decide +kernel) rfl ⟨trivial, trivial⟩ ?_
          exact z_lvs (lv' := [(0, z_r 78), (1, .inl p1), (2, .inl p2), (3, .inl p3)]) [0, 1, 2, 3] rfl (t_M_sum_j46 M S34 p1 p2 p3 3 hQ K hs)
        · rw [if_pos c38] at K hs
          refine z_go2 M.1 41 [(.iconst 0, 1), (.goto 4, 3)] (46, [(0, z_r 78), (1, .inl p1), (2, .inl p2), (3, .inl p3)], [.inl 0, z_r 78], zW T' G' S34 n, 0, 0) (by decide +kernel) rfl ⟨trivial, trivial, trivial⟩ ?_
          exact z_lvs (lv' := [(0, z_r 78), (1, .inl p1), (2, .inl p2), (3, .inl p3)]) [0, 1, 2, 3] rfl (t_M_sum_j46 M S34 p1 p2 p3 0 hQ K hs)
      · rw [if_pos c26] at K hs
        refine z_go2 M.1 29 [(.iconst 2, 1), (.goto 16, 3)] (46, [(0, z_r 78), (1, .inl p1), (2, .inl p2), (3, .inl p3)], [.inl 2, z_r 78], zW T' G' S n, 0, 0) (by decide +kernel) rfl ⟨trivial, trivial, trivial⟩ ?_
        exact z_lvs (lv' := [(0, z_r 78), (1, .inl p1), (2, .inl p2), (3, .inl p3)]) [0, 1, 2, 3] rfl (t_M_sum_j46 M S p1 p2 p3 2 hQ K hs)
    · rw [if_pos c13] at K hs
      exact z_lvs (lv' := [(0, z_r 78), (1, .inl p1), (2, .inl p2), (3, .inl p3)]) [0, 1, 2, 3] rfl (t_M_sum_j16 M S p1 p2 p3 hQ K hs)

