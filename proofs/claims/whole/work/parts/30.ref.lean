-- TrackHouseModel.thrown
abbrev rm_M_thrown : Room := zr 0
def F_M_thrown (S : (Nat → Nat → Int32)) : Int32 := (S 78 0)
theorem c_M_thrown (T' : Nat → Nat × Nat) (G' : Nat → Nat → Option Nat) (S : (Nat → Nat → Int32)) (n : Nat) : z_Run rm_M_thrown zm_M_thrown [z_r 78] (zW T' G' S n) (zq (some (.inl (F_M_thrown S))) (zW T' G' S n)) := by
  refine z_body (by decide) zf_M_ok (Nat.le_of_ble_eq_true rfl) (fun X M => ?_)
  obtain ⟨Q, hQ, K⟩ : ∃ Q : Int32 → Prop, (∀ v, Q v → zq (some (.inl (F_M_thrown S))) (zW T' G' S n) (some (.inl v)) (zW T' G' S n)) ∧ Q (F_M_thrown S) := ⟨fun o => F_M_thrown S = o, fun v h => ⟨by rw [h], rfl⟩, rfl⟩
  show z_G X zm_M_thrown (0, [(0, z_r 78)], [], zW T' G' S n, 0, 0)
  unfold F_M_thrown at K
  refine z_go2 M.1 0 [(.aload_n 0, 1), (.getfield 175, 3)] (4, [(0, z_r 78)], [.inl (S 78 0)], zW T' G' S n, 0, 0) (by decide +kernel) rfl ⟨trivial, rfl, trivial⟩ ?_
  exact z_iret M (by decide +kernel) .int rfl rfl (by decide) (by decide) (hQ _ K)

-- TrackHouseModel.grant
abbrev rm_M_grant : Room := zr 7
def F_M_grant_j105 (fl : Nat → Nat) (S : (Nat → Nat → Int32)) (x5 : Int32) (s0 : Int32) : (Int32 × (Nat → Nat → Int32)) := (if s0 ≤ 0 then (x5, (z_uS S 78 0 s0)) else (0, (z_uS S 78 0 s0)))
theorem t_M_grant_j105 {X : z_X} {Post : Option z_V → z_W → Prop} (M : z_M X zm_M_grant rm_M_grant Post) {T' : Nat → Nat × Nat} {G' : Nat → Nat → Option Nat} {n : Nat} (fl : Nat → Nat) (hfl : zOK T' G' fl n) {Q : (Int32 × (Nat → Nat → Int32)) → Prop} (S : (Nat → Nat → Int32)) (x5 : Int32) (s0 : Int32) (hQ : ∀ v S', Q (v, S') → Post (some (.inl v)) (zW T' G' S' n)) (K : Q (F_M_grant_j105 fl S x5 s0)) : z_G X zm_M_grant (105, [(0, z_r 78), (5, .inl x5)], [.inl s0, z_r 78], zW T' G' S n, 0, 0) := by
  unfold F_M_grant_j105 at K
  refine z_go2 M.1 105 [(.putfield 175, 3), (.aload_n 0, 1), (.getfield 175, 3)] (112, [(0, z_r 78), (5, .inl x5)], [.inl s0], zW T' G' (z_uS S 78 0 s0) n, 0, 0) (by decide +kernel) rfl ⟨⟨rfl, trivial⟩, trivial, rfl, trivial⟩ ?_
  refine z_if_le 119 M.1 (off := 7) (by decide +kernel) (by decide) (fun c112 => ?_) (fun c112 => ?_)
  · rw [if_pos c112] at K
    refine z_go2 M.1 119 [(.iload 5, 2)] (121, [(0, z_r 78), (5, .inl x5)], [.inl x5], zW T' G' (z_uS S 78 0 s0) n, 0, 0) (by decide +kernel) rfl ⟨trivial, trivial⟩ ?_
    exact z_iret M (by decide +kernel) .int rfl rfl (by decide) (by decide) (hQ _ _ K)
  · rw [if_neg c112] at K
    refine z_go2 M.1 115 [(.iconst 0, 1), (.goto 5, 3)] (121, [(0, z_r 78), (5, .inl x5)], [.inl 0], zW T' G' (z_uS S 78 0 s0) n, 0, 0) (by decide +kernel) rfl ⟨trivial, trivial, trivial⟩ ?_
    exact z_iret M (by decide +kernel) .int rfl rfl (by decide) (by decide) (hQ _ _ K)
def F_M_grant_j48 (fl : Nat → Nat) (S : (Nat → Nat → Int32)) (x1 : Int32) (x2 : Int32) (x3 : Int32) (s0 : Int32) : (Int32 × (Nat → Nat → Int32)) := (if s0 ≤ 0 then (z_let (F_M_roles (z_uS S 78 0 s0) x1 x1 x2 x3) (fun S86 => (match F_M_stays fl S86 (S 78 2) 0 with | (r94, S94) => (if r94 = 0 then (F_M_grant_j105 fl S94 (S 97 (((3 : Int32) * x1) + x2).toNatClampNeg) 3) else (F_M_grant_j105 fl S94 (S 97 (((3 : Int32) * x1) + x2).toNatClampNeg) 0))))) else (0, (z_uS S 78 0 s0)))
def Sf_M_grant_j48 (fl : Nat → Nat) (S : (Nat → Nat → Int32)) (x1 : Int32) (x2 : Int32) (x3 : Int32) (s0 : Int32) : Prop := (if s0 ≤ 0 then ((vp_in (((3 : Int32) * x1) + x2) 24) ∧ (Sf_M_roles (z_uS S 78 0 s0) x1 x1 x2 x3 ∧ (z_let (F_M_roles (z_uS S 78 0 s0) x1 x1 x2 x3) (fun S86 => (Sf_M_stays fl S86 (S 78 2) 0 ∧ True))))) else True)
theorem t_M_grant_j48 {X : z_X} {Post : Option z_V → z_W → Prop} (M : z_M X zm_M_grant rm_M_grant Post) {T' : Nat → Nat × Nat} {G' : Nat → Nat → Option Nat} {n : Nat} (fl : Nat → Nat) (hfl : zOK T' G' fl n) {Q : (Int32 × (Nat → Nat → Int32)) → Prop} (S : (Nat → Nat → Int32)) (x1 : Int32) (x2 : Int32) (x3 : Int32) (s0 : Int32) (hQ : ∀ v S', Q (v, S') → Post (some (.inl v)) (zW T' G' S' n)) (K : Q (F_M_grant_j48 fl S x1 x2 x3 s0)) (hs : Sf_M_grant_j48 fl S x1 x2 x3 s0) : z_G X zm_M_grant (48, [(0, z_r 78), (1, .inl x1), (2, .inl x2), (3, .inl x3)], [.inl s0, z_r 78], zW T' G' S n, 0, 0) := by
  unfold F_M_grant_j48 at K
  unfold Sf_M_grant_j48 at hs
  refine z_go2 M.1 48 [(.putfield 175, 3), (.aload_n 0, 1), (.getfield 175, 3)] (55, [(0, z_r 78), (1, .inl x1), (2, .inl x2), (3, .inl x3)], [.inl s0], zW T' G' (z_uS S 78 0 s0) n, 0, 0) (by decide +kernel) rfl ⟨⟨rfl, trivial⟩, trivial, rfl, trivial⟩ ?_
  refine z_if_le 60 M.1 (off := 5) (by decide +kernel) (by decide) (fun c55 => ?_) (fun c55 => ?_)
  · rw [if_pos c55] at K hs
    refine z_go2 M.1 60 [(.aload_n 0, 1), (.getfield 34, 3), (.getfield 223, 3), (.iconst 3, 1), (.iload_n 1, 1), (.imul, 1), (.iload_n 2, 1), (.iadd, 1), (.iaload, 1), (.istore 5, 2), (.aload_n 0, 1), (.getfield 182, 3), (.istore 6, 2), (.aload_n 0, 1), (.iload_n 1, 1), (.iload_n 1, 1), (.iload_n 2, 1), (.iload_n 3, 1)] (86, [(6, .inl (S 78 2)), (5, .inl (S 97 (((3 : Int32) * x1) + x2).toNatClampNeg)), (0, z_r 78), (1, .inl x1), (2, .inl x2), (3, .inl x3)], [.inl x3, .inl x2, .inl x1, .inl x1, z_r 78], zW T' G' (z_uS S 78 0 s0) n, 0, 0) (by decide +kernel) rfl ⟨trivial, rfl, rfl, trivial, trivial, trivial, trivial, trivial, ⟨rfl, hs.1⟩, trivial, trivial, rfl, trivial, trivial, trivial, trivial, trivial, trivial, trivial⟩ ?_
    replace hs := hs.2
    refine z_callV M.1 (av := [.inl x1, .inl x1, .inl x2, .inl x3]) (st := []) (a := 78) (ci := 14) (by decide +kernel) (c_M_roles T' G' (z_uS S 78 0 s0) n x1 x1 x2 x3 hs.1) M.2.1 zl_M_298 zv_M_roles rfl rfl rfl ⟨by decide, by decide, by decide, by decide⟩ rfl (Nat.le_of_ble_eq_true rfl) (fun v w' hv => ?_)
    replace hs := hs.2
    obtain ⟨S86, hF86⟩ : ∃ y, F_M_roles (z_uS S 78 0 s0) x1 x1 x2 x3 = y := ⟨_, rfl⟩
    rw [hF86] at K hv
    try rw [hF86] at hs
    try dsimp only [z_let] at K hs
    obtain ⟨rfl, rfl⟩ := hv
    show z_G X zm_M_grant (89, [(6, .inl (S 78 2)), (5, .inl (S 97 (((3 : Int32) * x1) + x2).toNatClampNeg)), (0, z_r 78), (1, .inl x1), (2, .inl x2), (3, .inl x3)], [], zW T' G' S86 n, 0, 0)
    refine z_go2 M.1 89 [(.aload_n 0, 1), (.aload_n 0, 1), (.iload 6, 2), (.iconst 0, 1)] (94, [(6, .inl (S 78 2)), (5, .inl (S 97 (((3 : Int32) * x1) + x2).toNatClampNeg)), (0, z_r 78), (1, .inl x1), (2, .inl x2), (3, .inl x3)], [.inl 0, .inl (S 78 2), z_r 78, z_r 78], zW T' G' S86 n, 0, 0) (by decide +kernel) rfl ⟨trivial, trivial, trivial, trivial, trivial⟩ ?_
    refine z_callV M.1 (av := [.inl (S 78 2), .inl 0]) (st := [z_r 78]) (a := 78) (ci := 14) (by decide +kernel) (c_M_stays T' G' n fl hfl S86 (S 78 2) 0 hs.1) M.2.1 zl_M_301 zv_M_stays rfl rfl rfl ⟨by decide, by decide, by decide, by decide⟩ rfl (Nat.le_of_ble_eq_true rfl) (fun v w' hv => ?_)
    replace hs := hs.2
    rcases hF94 : F_M_stays fl S86 (S 78 2) 0 with ⟨r94, S94⟩
    rw [hF94] at K hv
    try dsimp only at K
    obtain ⟨rfl, rfl⟩ := hv
    show z_G X zm_M_grant (97, [(6, .inl (S 78 2)), (5, .inl (S 97 (((3 : Int32) * x1) + x2).toNatClampNeg)), (0, z_r 78), (1, .inl x1), (2, .inl x2), (3, .inl x3)], [.inl r94, z_r 78], zW T' G' S94 n, 0, 0)
    refine z_if_eq 104 M.1 (off := 7) (by decide +kernel) (by decide) (fun c97 => ?_) (fun c97 => ?_)
    · rw [if_pos c97] at K
      refine z_go2 M.1 104 [(.iconst 3, 1)] (105, [(6, .inl (S 78 2)), (5, .inl (S 97 (((3 : Int32) * x1) + x2).toNatClampNeg)), (0, z_r 78), (1, .inl x1), (2, .inl x2), (3, .inl x3)], [.inl 3, z_r 78], zW T' G' S94 n, 0, 0) (by decide +kernel) rfl ⟨trivial, trivial⟩ ?_
      exact z_lvs (lv' := [(0, z_r 78), (5, .inl (S 97 (((3 : Int32) * x1) + x2).toNatClampNeg))]) [2, 1] rfl (t_M_grant_j105 M fl hfl S94 (S 97 (((3 : Int32) * x1) + x2).toNatClampNeg) 3 hQ K)
    · rw [if_neg c97] at K
      refine z_go2 M.1 100 [(.iconst 0, 1), (.goto 4, 3)] (105, [(6, .inl (S 78 2)), (5, .inl (S 97 (((3 : Int32) * x1) + x2).toNatClampNeg)), (0, z_r 78), (1, .inl x1), (2, .inl x2), (3, .inl x3)], [.inl 0, z_r 78], zW T' G' S94 n, 0, 0) (by decide +kernel) rfl ⟨trivial, trivial, trivial⟩ ?_
      exact z_lvs (lv' := [(0, z_r 78), (5, .inl (S 97 (((3 : Int32) * x1) + x2).toNatClampNeg))]) [2, 1] rfl (t_M_grant_j105 M fl hfl S94 (S 97 (((3 : Int32) * x1) + x2).toNatClampNeg) 0 hQ K)
  · rw [if_neg c55] at K hs
    refine z_go2 M.1 58 [(.iconst 0, 1)] (59, [(0, z_r 78), (1, .inl x1), (2, .inl x2), (3, .inl x3)], [.inl 0], zW T' G' (z_uS S 78 0 s0) n, 0, 0) (by decide +kernel) rfl ⟨trivial, trivial⟩ ?_
    exact z_iret M (by decide +kernel) .int rfl rfl (by decide) (by decide) (hQ _ _ K)
def F_M_grant_j21 (fl : Nat → Nat) (S : (Nat → Nat → Int32)) (x1 : Int32) (x2 : Int32) (x3 : Int32) (s0 : Int32) : (Int32 × (Nat → Nat → Int32)) := (if s0 = 0 then (F_M_grant_j48 fl S x1 x2 x3 1) else (if (F_M_isIn S x3 0 15) = 0 then (F_M_grant_j48 fl S x1 x2 x3 2) else (F_M_grant_j48 fl S x1 x2 x3 0)))
def Sf_M_grant_j21 (fl : Nat → Nat) (S : (Nat → Nat → Int32)) (x1 : Int32) (x2 : Int32) (x3 : Int32) (s0 : Int32) : Prop := (if s0 = 0 then (Sf_M_grant_j48 fl S x1 x2 x3 1) else (if (F_M_isIn S x3 0 15) = 0 then (Sf_M_grant_j48 fl S x1 x2 x3 2) else (Sf_M_grant_j48 fl S x1 x2 x3 0)))
theorem t_M_grant_j21 {X : z_X} {Post : Option z_V → z_W → Prop} (M : z_M X zm_M_grant rm_M_grant Post) {T' : Nat → Nat × Nat} {G' : Nat → Nat → Option Nat} {n : Nat} (fl : Nat → Nat) (hfl : zOK T' G' fl n) {Q : (Int32 × (Nat → Nat → Int32)) → Prop} (S : (Nat → Nat → Int32)) (x1 : Int32) (x2 : Int32) (x3 : Int32) (s0 : Int32) (hQ : ∀ v S', Q (v, S') → Post (some (.inl v)) (zW T' G' S' n)) (K : Q (F_M_grant_j21 fl S x1 x2 x3 s0)) (hs : Sf_M_grant_j21 fl S x1 x2 x3 s0) : z_G X zm_M_grant (21, [(0, z_r 78), (1, .inl x1), (2, .inl x2), (3, .inl x3)], [.inl s0], zW T' G' S n, 0, 0) := by
  unfold F_M_grant_j21 at K
  unfold Sf_M_grant_j21 at hs
  refine z_go2 M.1 21 [(.istore 4, 2), (.aload_n 0, 1), (.iload 4, 2)] (26, [(4, .inl s0), (0, z_r 78), (1, .inl x1), (2, .inl x2), (3, .inl x3)], [.inl s0, z_r 78], zW T' G' S n, 0, 0) (by decide +kernel) rfl ⟨trivial, trivial, trivial, trivial⟩ ?_
  refine z_if_ne 33 M.1 (off := 7) (by decide +kernel) (by decide) (fun c26 => ?_) (fun c26 => ?_)
  · rw [if_neg c26] at K hs
    refine z_go2 M.1 33 [(.iload_n 3, 1), (.iconst 0, 1), (.bipush 15, 2)] (37, [(4, .inl s0), (0, z_r 78), (1, .inl x1), (2, .inl x2), (3, .inl x3)], [.inl 15, .inl 0, .inl x3, z_r 78], zW T' G' S n, 0, 0) (by decide +kernel) rfl ⟨trivial, trivial, trivial, trivial⟩ ?_
    refine z_callS M.1 (av := [.inl x3, .inl 0, .inl 15]) (st := [z_r 78]) (by decide +kernel) (c_M_isIn T' G' S n x3 0 15) M.2.1 zl_M_178 zs_M_isIn ⟨by decide, by decide, by decide, by decide⟩ rfl (Nat.le_of_ble_eq_true rfl) (fun v w' hv => ?_)
    obtain ⟨rfl, rfl⟩ := hv
    show z_G X zm_M_grant (40, [(4, .inl s0), (0, z_r 78), (1, .inl x1), (2, .inl x2), (3, .inl x3)], [.inl (F_M_isIn S x3 0 15), z_r 78], zW T' G' S n, 0, 0)
    refine z_if_ne 47 M.1 (off := 7) (by decide +kernel) (by decide) (fun c40 => ?_) (fun c40 => ?_)
    · rw [if_neg c40] at K hs
      refine z_go2 M.1 47 [(.iconst 0, 1)] (48, [(4, .inl s0), (0, z_r 78), (1, .inl x1), (2, .inl x2), (3, .inl x3)], [.inl 0, z_r 78], zW T' G' S n, 0, 0) (by decide +kernel) rfl ⟨trivial, trivial⟩ ?_
      exact z_lvs (lv' := [(0, z_r 78), (1, .inl x1), (2, .inl x2), (3, .inl x3)]) [1, 2, 3, 4] rfl (t_M_grant_j48 M fl hfl S x1 x2 x3 0 hQ K hs)
    · rw [if_pos c40] at K hs
      refine z_go2 M.1 43 [(.iconst 2, 1), (.goto 4, 3)] (48, [(4, .inl s0), (0, z_r 78), (1, .inl x1), (2, .inl x2), (3, .inl x3)], [.inl 2, z_r 78], zW T' G' S n, 0, 0) (by decide +kernel) rfl ⟨trivial, trivial, trivial⟩ ?_
      exact z_lvs (lv' := [(0, z_r 78), (1, .inl x1), (2, .inl x2), (3, .inl x3)]) [1, 2, 3, 4] rfl (t_M_grant_j48 M fl hfl S x1 x2 x3 2 hQ K hs)
  · rw [if_pos c26] at K hs
    refine z_go2 M.1 29 [(.iconst 1, 1), (.goto 18, 3)] (48, [(4, .inl s0), (0, z_r 78), (1, .inl x1), (2, .inl x2), (3, .inl x3)], [.inl 1, z_r 78], zW T' G' S n, 0, 0) (by decide +kernel) rfl ⟨trivial, trivial, trivial⟩ ?_
    exact z_lvs (lv' := [(0, z_r 78), (1, .inl x1), (2, .inl x2), (3, .inl x3)]) [1, 2, 3, 4] rfl (t_M_grant_j48 M fl hfl S x1 x2 x3 1 hQ K hs)
def F_M_grant_j20 (fl : Nat → Nat) (S : (Nat → Nat → Int32)) (x1 : Int32) (x2 : Int32) (x3 : Int32) : (Int32 × (Nat → Nat → Int32)) := (F_M_grant_j21 fl S x1 x2 x3 0)
def Sf_M_grant_j20 (fl : Nat → Nat) (S : (Nat → Nat → Int32)) (x1 : Int32) (x2 : Int32) (x3 : Int32) : Prop := (Sf_M_grant_j21 fl S x1 x2 x3 0)
theorem t_M_grant_j20 {X : z_X} {Post : Option z_V → z_W → Prop} (M : z_M X zm_M_grant rm_M_grant Post) {T' : Nat → Nat × Nat} {G' : Nat → Nat → Option Nat} {n : Nat} (fl : Nat → Nat) (hfl : zOK T' G' fl n) {Q : (Int32 × (Nat → Nat → Int32)) → Prop} (S : (Nat → Nat → Int32)) (x1 : Int32) (x2 : Int32) (x3 : Int32) (hQ : ∀ v S', Q (v, S') → Post (some (.inl v)) (zW T' G' S' n)) (K : Q (F_M_grant_j20 fl S x1 x2 x3)) (hs : Sf_M_grant_j20 fl S x1 x2 x3) : z_G X zm_M_grant (20, [(0, z_r 78), (1, .inl x1), (2, .inl x2), (3, .inl x3)], [], zW T' G' S n, 0, 0) := by
  unfold F_M_grant_j20 at K
  unfold Sf_M_grant_j20 at hs
  refine z_go2 M.1 20 [(.iconst 0, 1)] (21, [(0, z_r 78), (1, .inl x1), (2, .inl x2), (3, .inl x3)], [.inl 0], zW T' G' S n, 0, 0) (by decide +kernel) rfl ⟨trivial, trivial⟩ ?_
  exact z_lvs (lv' := [(0, z_r 78), (1, .inl x1), (2, .inl x2), (3, .inl x3)]) [0, 1, 2, 3] rfl (t_M_grant_j21 M fl hfl S x1 x2 x3 0 hQ K hs)
def F_M_grant (fl : Nat → Nat) (S : (Nat → Nat → Int32)) (p1 : Int32) (p2 : Int32) (p3 : Int32) : (Int32 × (Nat → Nat → Int32)) := (if (F_M_isPerson S p1) = 0 then (F_M_grant_j20 fl S p1 p2 p3) else (if (F_M_isIn S p2 0 2) = 0 then (F_M_grant_j20 fl S p1 p2 p3) else (F_M_grant_j21 fl S p1 p2 p3 1)))
def Sf_M_grant (fl : Nat → Nat) (S : (Nat → Nat → Int32)) (p1 : Int32) (p2 : Int32) (p3 : Int32) : Prop := (Sf_M_isPerson S p1 ∧ (if (F_M_isPerson S p1) = 0 then (Sf_M_grant_j20 fl S p1 p2 p3) else (if (F_M_isIn S p2 0 2) = 0 then (Sf_M_grant_j20 fl S p1 p2 p3) else (Sf_M_grant_j21 fl S p1 p2 p3 1))))
theorem c_M_grant (T' : Nat → Nat × Nat) (G' : Nat → Nat → Option Nat) (n : Nat) (fl : Nat → Nat) (hfl : zOK T' G' fl n) (S : (Nat → Nat → Int32)) (p1 : Int32) (p2 : Int32) (p3 : Int32) (hs : Sf_M_grant fl S p1 p2 p3) : z_Run rm_M_grant zm_M_grant [z_r 78, .inl p1, .inl p2, .inl p3] (zW T' G' S n) (zq (some (.inl (F_M_grant fl S p1 p2 p3).1)) (zW T' G' (F_M_grant fl S p1 p2 p3).2 n)) := by
  refine z_body (by decide) zf_M_ok (Nat.le_of_ble_eq_true rfl) (fun X M => ?_)
  obtain ⟨Q, hQ, K⟩ : ∃ Q : (Int32 × (Nat → Nat → Int32)) → Prop, (∀ v S', Q (v, S') → zq (some (.inl (F_M_grant fl S p1 p2 p3).1)) (zW T' G' (F_M_grant fl S p1 p2 p3).2 n) (some (.inl v)) (zW T' G' S' n)) ∧ Q (F_M_grant fl S p1 p2 p3) := ⟨fun o => F_M_grant fl S p1 p2 p3 = o, fun v S' h => ⟨by rw [h], by rw [h]⟩, rfl⟩
  show z_G X zm_M_grant (0, [(0, z_r 78), (1, .inl p1), (2, .inl p2), (3, .inl p3)], [], zW T' G' S n, 0, 0)
  unfold F_M_grant at K
  unfold Sf_M_grant at hs
  refine z_go2 M.1 0 [(.iload_n 1, 1)] (1, [(0, z_r 78), (1, .inl p1), (2, .inl p2), (3, .inl p3)], [.inl p1], zW T' G' S n, 0, 0) (by decide +kernel) rfl ⟨trivial, trivial⟩ ?_
  refine z_callS M.1 (av := [.inl p1]) (st := []) (by decide +kernel) (c_M_isPerson T' G' S n p1 hs.1) M.2.1 zl_M_295 zs_M_isPerson ⟨by decide, by decide, by decide, by decide⟩ rfl (Nat.le_of_ble_eq_true rfl) (fun v w' hv => ?_)
  obtain ⟨rfl, rfl⟩ := hv
  replace hs := hs.2
  show z_G X zm_M_grant (4, [(0, z_r 78), (1, .inl p1), (2, .inl p2), (3, .inl p3)], [.inl (F_M_isPerson S p1)], zW T' G' S n, 0, 0)
  refine z_if_eq 20 M.1 (off := 16) (by decide +kernel) (by decide) (fun c4 => ?_) (fun c4 => ?_)
  · rw [if_pos c4] at K hs
    exact z_lvs (lv' := [(0, z_r 78), (1, .inl p1), (2, .inl p2), (3, .inl p3)]) [0, 1, 2, 3] rfl (t_M_grant_j20 M fl hfl S p1 p2 p3 hQ K hs)
  · rw [if_neg c4] at K hs
    refine z_go2 M.1 7 [(.iload_n 2, 1), (.iconst 0, 1), (.iconst 2, 1)] (10, [(0, z_r 78), (1, .inl p1), (2, .inl p2), (3, .inl p3)], [.inl 2, .inl 0, .inl p2], zW T' G' S n, 0, 0) (by decide +kernel) rfl ⟨trivial, trivial, trivial, trivial⟩ ?_
    refine z_callS M.1 (av := [.inl p2, .inl 0, .inl 2]) (st := []) (by decide +kernel) (c_M_isIn T' G' S n p2 0 2) M.2.1 zl_M_178 zs_M_isIn ⟨by decide, by decide, by decide, by decide⟩ rfl (Nat.le_of_ble_eq_true rfl) (fun v w' hv => ?_)
    obtain ⟨rfl, rfl⟩ := hv
    show z_G X zm_M_grant (13, [(0, z_r 78), (1, .inl p1), (2, .inl p2), (3, .inl p3)], [.inl (F_M_isIn S p2 0 2)], zW T' G' S n, 0, 0)
    refine z_if_eq 20 M.1 (off := 7) (by decide +kernel) (by decide) (fun c13 => ?_) (fun c13 => ?_)
    · rw [if_pos c13] at K hs
      exact z_lvs (lv' := [(0, z_r 78), (1, .inl p1), (2, .inl p2), (3, .inl p3)]) [0, 1, 2, 3] rfl (t_M_grant_j20 M fl hfl S p1 p2 p3 hQ K hs)
    · rw [if_neg c13] at K hs
      refine z_go2 M.1 16 [(.iconst 1, 1), (.goto 4, 3)] (21, [(0, z_r 78), (1, .inl p1), (2, .inl p2), (3, .inl p3)], [.inl 1], zW T' G' S n, 0, 0) (by decide +kernel) rfl ⟨trivial, trivial, trivial⟩ ?_
      exact z_lvs (lv' := [(0, z_r 78), (1, .inl p1), (2, .inl p2), (3, .inl p3)]) [0, 1, 2, 3] rfl (t_M_grant_j21 M fl hfl S p1 p2 p3 1 hQ K hs)

-- TrackHouseModel.scheme
abbrev rm_M_scheme : Room := zr 1
def F_M_scheme_j39 (S : (Nat → Nat → Int32)) (x1 : Int32) (x2 : Int32) (x3 : Int32) (s0 : Int32) : (Int32 × (Nat → Nat → Int32)) := (if s0 ≤ 0 then ((((16 : Int32) * (S 124 (x1).toNatClampNeg)) + (S 125 (x1).toNatClampNeg)), (z_uS (z_uS (z_uS S 78 0 s0) 124 (x1).toNatClampNeg x2) 125 (x1).toNatClampNeg x3)) else (0, (z_uS S 78 0 s0)))
def Sf_M_scheme_j39 (S : (Nat → Nat → Int32)) (x1 : Int32) (x2 : Int32) (x3 : Int32) (s0 : Int32) : Prop := (if s0 ≤ 0 then ((vp_in x1 3) ∧ ((vp_in x1 3) ∧ ((vp_in x1 3) ∧ ((vp_in x1 3) ∧ True)))) else True)
theorem t_M_scheme_j39 {X : z_X} {Post : Option z_V → z_W → Prop} (M : z_M X zm_M_scheme rm_M_scheme Post) {T' : Nat → Nat × Nat} {G' : Nat → Nat → Option Nat} {n : Nat} {Q : (Int32 × (Nat → Nat → Int32)) → Prop} (S : (Nat → Nat → Int32)) (x1 : Int32) (x2 : Int32) (x3 : Int32) (s0 : Int32) (hQ : ∀ v S', Q (v, S') → Post (some (.inl v)) (zW T' G' S' n)) (K : Q (F_M_scheme_j39 S x1 x2 x3 s0)) (hs : Sf_M_scheme_j39 S x1 x2 x3 s0) : z_G X zm_M_scheme (39, [(0, z_r 78), (1, .inl x1), (2, .inl x2), (3, .inl x3)], [.inl s0, z_r 78], zW T' G' S n, 0, 0) := by
  unfold F_M_scheme_j39 at K
  unfold Sf_M_scheme_j39 at hs
  refine z_go2 M.1 39 [(.putfield 175, 3), (.aload_n 0, 1), (.getfield 175, 3)] (46, [(0, z_r 78), (1, .inl x1), (2, .inl x2), (3, .inl x3)], [.inl s0], zW T' G' (z_uS S 78 0 s0) n, 0, 0) (by decide +kernel) rfl ⟨⟨rfl, trivial⟩, trivial, rfl, trivial⟩ ?_
  refine z_if_le 51 M.1 (off := 5) (by decide +kernel) (by decide) (fun c46 => ?_) (fun c46 => ?_)
  · rw [if_pos c46] at K hs
    refine z_go2 M.1 51 [(.bipush 16, 2), (.aload_n 0, 1), (.getfield 50, 3), (.iload_n 1, 1), (.iaload, 1), (.imul, 1), (.aload_n 0, 1), (.getfield 53, 3), (.iload_n 1, 1), (.iaload, 1), (.iadd, 1), (.istore 4, 2), (.aload_n 0, 1), (.getfield 50, 3), (.iload_n 1, 1), (.iload_n 2, 1), (.iastore, 1), (.aload_n 0, 1), (.getfield 53, 3), (.iload_n 1, 1), (.iload_n 3, 1), (.iastore, 1), (.iload 4, 2)] (85, [(4, .inl (((16 : Int32) * (S 124 (x1).toNatClampNeg)) + (S 125 (x1).toNatClampNeg))), (0, z_r 78), (1, .inl x1), (2, .inl x2), (3, .inl x3)], [.inl (((16 : Int32) * (S 124 (x1).toNatClampNeg)) + (S 125 (x1).toNatClampNeg))], zW T' G' (z_uS (z_uS (z_uS S 78 0 s0) 124 (x1).toNatClampNeg x2) 125 (x1).toNatClampNeg x3) n, 0, 0) (by decide +kernel) rfl ⟨trivial, trivial, rfl, trivial, ⟨rfl, hs.1⟩, trivial, trivial, rfl, trivial, ⟨rfl, hs.2.1⟩, trivial, trivial, trivial, rfl, trivial, trivial, ⟨rfl, hs.2.2.1⟩, trivial, rfl, trivial, trivial, ⟨rfl, hs.2.2.2.1⟩, trivial, trivial⟩ ?_
    replace hs := hs.2.2.2.2
    exact z_iret M (by decide +kernel) .int rfl rfl (by decide) (by decide) (hQ _ _ K)
  · rw [if_neg c46] at K hs
    refine z_go2 M.1 49 [(.iconst 0, 1)] (50, [(0, z_r 78), (1, .inl x1), (2, .inl x2), (3, .inl x3)], [.inl 0], zW T' G' (z_uS S 78 0 s0) n, 0, 0) (by decide +kernel) rfl ⟨trivial, trivial⟩ ?_
    exact z_iret M (by decide +kernel) .int rfl rfl (by decide) (by decide) (hQ _ _ K)
def F_M_scheme_j38 (S : (Nat → Nat → Int32)) (x1 : Int32) (x2 : Int32) (x3 : Int32) : (Int32 × (Nat → Nat → Int32)) := (F_M_scheme_j39 S x1 x2 x3 2)
def Sf_M_scheme_j38 (S : (Nat → Nat → Int32)) (x1 : Int32) (x2 : Int32) (x3 : Int32) : Prop := (Sf_M_scheme_j39 S x1 x2 x3 2)
theorem t_M_scheme_j38 {X : z_X} {Post : Option z_V → z_W → Prop} (M : z_M X zm_M_scheme rm_M_scheme Post) {T' : Nat → Nat × Nat} {G' : Nat → Nat → Option Nat} {n : Nat} {Q : (Int32 × (Nat → Nat → Int32)) → Prop} (S : (Nat → Nat → Int32)) (x1 : Int32) (x2 : Int32) (x3 : Int32) (hQ : ∀ v S', Q (v, S') → Post (some (.inl v)) (zW T' G' S' n)) (K : Q (F_M_scheme_j38 S x1 x2 x3)) (hs : Sf_M_scheme_j38 S x1 x2 x3) : z_G X zm_M_scheme (38, [(0, z_r 78), (1, .inl x1), (2, .inl x2), (3, .inl x3)], [z_r 78], zW T' G' S n, 0, 0) := by
  unfold F_M_scheme_j38 at K
  unfold Sf_M_scheme_j38 at hs
  refine z_go2 M.1 38 [(.iconst 2, 1)] (39, [(0, z_r 78), (1, .inl x1), (2, .inl x2), (3, .inl x3)], [.inl 2, z_r 78], zW T' G' S n, 0, 0) (by decide +kernel) rfl ⟨trivial, trivial⟩ ?_
  exact z_lvs (lv' := [(0, z_r 78), (1, .inl x1), (2, .inl x2), (3, .inl x3)]) [0, 1, 2, 3] rfl (t_M_scheme_j39 M S x1 x2 x3 2 hQ K hs)
def F_M_scheme (S : (Nat → Nat → Int32)) (p1 : Int32) (p2 : Int32) (p3 : Int32) : (Int32 × (Nat → Nat → Int32)) := (if (F_M_isIn S p1 0 2) = 0 then (F_M_scheme_j39 S p1 p2 p3 1) else (if (F_M_isIn S p2 0 15) = 0 then (F_M_scheme_j38 S p1 p2 p3) else (if (F_M_isIn S p3 0 15) = 0 then (F_M_scheme_j38 S p1 p2 p3) else (F_M_scheme_j39 S p1 p2 p3 0))))
def Sf_M_scheme (S : (Nat → Nat → Int32)) (p1 : Int32) (p2 : Int32) (p3 : Int32) : Prop := (if (F_M_isIn S p1 0 2) = 0 then (Sf_M_scheme_j39 S p1 p2 p3 1) else (if (F_M_isIn S p2 0 15) = 0 then (Sf_M_scheme_j38 S p1 p2 p3) else (if (F_M_isIn S p3 0 15) = 0 then (Sf_M_scheme_j38 S p1 p2 p3) else (Sf_M_scheme_j39 S p1 p2 p3 0))))
theorem c_M_scheme (T' : Nat → Nat × Nat) (G' : Nat → Nat → Option Nat) (S : (Nat → Nat → Int32)) (n : Nat) (p1 : Int32) (p2 : Int32) (p3 : Int32) (hs : Sf_M_scheme S p1 p2 p3) : z_Run rm_M_scheme zm_M_scheme [z_r 78, .inl p1, .inl p2, .inl p3] (zW T' G' S n) (zq (some (.inl (F_M_scheme S p1 p2 p3).1)) (zW T' G' (F_M_scheme S p1 p2 p3).2 n)) := by
  refine z_body (by decide) zf_M_ok (Nat.le_of_ble_eq_true rfl) (fun X M => ?_)
  obtain ⟨Q, hQ, K⟩ : ∃ Q : (Int32 × (Nat → Nat → Int32)) → Prop, (∀ v S', Q (v, S') → zq (some (.inl (F_M_scheme S p1 p2 p3).1)) (zW T' G' (F_M_scheme S p1 p2 p3).2 n) (some (.inl v)) (zW T' G' S' n)) ∧ Q (F_M_scheme S p1 p2 p3) := ⟨fun o => F_M_scheme S p1 p2 p3 = o, fun v S' h => ⟨by rw [h], by rw [h]⟩, rfl⟩
  show z_G X zm_M_scheme (0, [(0, z_r 78), (1, .inl p1), (2, .inl p2), (3, .inl p3)], [], zW T' G' S n, 0, 0)
  unfold F_M_scheme at K
  unfold Sf_M_scheme at hs
  refine z_go2 M.1 0 [(.aload_n 0, 1), (.iload_n 1, 1), (.iconst 0, 1), (.iconst 2, 1)] (4, [(0, z_r 78), (1, .inl p1), (2, .inl p2), (3, .inl p3)], [.inl 2, .inl 0, .inl p1, z_r 78], zW T' G' S n, 0, 0) (by decide +kernel) rfl ⟨trivial, trivial, trivial, trivial, trivial⟩ ?_
  refine z_callS M.1 (av := [.inl p1, .inl 0, .inl 2]) (st := [z_r 78]) (by decide +kernel) (c_M_isIn T' G' S n p1 0 2) M.2.1 zl_M_178 zs_M_isIn ⟨by decide, by decide, by decide, by decide⟩ rfl (Nat.le_of_ble_eq_true rfl) (fun v w' hv => ?_)
  obtain ⟨rfl, rfl⟩ := hv
  show z_G X zm_M_scheme (7, [(0, z_r 78), (1, .inl p1), (2, .inl p2), (3, .inl p3)], [.inl (F_M_isIn S p1 0 2), z_r 78], zW T' G' S n, 0, 0)
  refine z_if_ne 14 M.1 (off := 7) (by decide +kernel) (by decide) (fun c7 => ?_) (fun c7 => ?_)
  · rw [if_neg c7] at K hs
    refine z_go2 M.1 14 [(.iload_n 2, 1), (.iconst 0, 1), (.bipush 15, 2)] (18, [(0, z_r 78), (1, .inl p1), (2, .inl p2), (3, .inl p3)], [.inl 15, .inl 0, .inl p2, z_r 78], zW T' G' S n, 0, 0) (by decide +kernel) rfl ⟨trivial, trivial, trivial, trivial⟩ ?_
    refine z_callS M.1 (av := [.inl p2, .inl 0, .inl 15]) (st := [z_r 78]) (by decide +kernel) (c_M_isIn T' G' S n p2 0 15) M.2.1 zl_M_178 zs_M_isIn ⟨by decide, by decide, by decide, by decide⟩ rfl (Nat.le_of_ble_eq_true rfl) (fun v w' hv => ?_)
    obtain ⟨rfl, rfl⟩ := hv
    show z_G X zm_M_scheme (21, [(0, z_r 78), (1, .inl p1), (2, .inl p2), (3, .inl p3)], [.inl (F_M_isIn S p2 0 15), z_r 78], zW T' G' S n, 0, 0)
    refine z_if_eq 38 M.1 (off := 17) (by decide +kernel) (by decide) (fun c21 => ?_) (fun c21 => ?_)
    · rw [if_pos c21] at K hs
      exact z_lvs (lv' := [(0, z_r 78), (1, .inl p1), (2, .inl p2), (3, .inl p3)]) [0, 1, 2, 3] rfl (t_M_scheme_j38 M S p1 p2 p3 hQ K hs)
    · rw [if_neg c21] at K hs
      refine z_go2 M.1 24 [(.iload_n 3, 1), (.iconst 0, 1), (.bipush 15, 2)] (28, [(0, z_r 78), (1, .inl p1), (2, .inl p2), (3, .inl p3)], [.inl 15, .inl 0, .inl p3, z_r 78], zW T' G' S n, 0, 0) (by decide +kernel) rfl ⟨trivial, trivial, trivial, trivial⟩ ?_
      refine z_callS M.1 (av := [.inl p3, .inl 0, .inl 15]) (st := [z_r 78]) (by decide +kernel) (c_M_isIn T' G' S n p3 0 15) M.2.1 zl_M_178 zs_M_isIn ⟨by decide, by decide, by decide, by decide⟩ rfl (Nat.le_of_ble_eq_true rfl) (fun v w' hv => ?_)
      obtain ⟨rfl, rfl⟩ := hv
      show z_G X zm_M_scheme (31, [(0, z_r 78), (1, .inl p1), (2, .inl p2), (3, .inl p3)], [.inl (F_M_isIn S p3 0 15), z_r 78], zW T' G' S n, 0, 0)
      refine z_if_eq 38 M.1 (off := 7) (by decide +kernel) (by decide) (fun c31 => ?_) (fun c31 => ?_)
      · rw [if_pos c31] at K hs
        exact z_lvs (lv' := [(0, z_r 78), (1, .inl p1), (2, .inl p2), (3, .inl p3)]) [0, 1, 2, 3] rfl (t_M_scheme_j38 M S p1 p2 p3 hQ K hs)
      · rw [if_neg c31] at K hs
        refine z_go2 M.1 34 [(.iconst 0, 1), (.goto 4, 3)] (39, [(0, z_r 78), (1, .inl p1), (2, .inl p2), (3, .inl p3)], [.inl 0, z_r 78], zW T' G' S n, 0, 0) (by decide +kernel) rfl ⟨trivial, trivial, trivial⟩ ?_
        exact z_lvs (lv' := [(0, z_r 78), (1, .inl p1), (2, .inl p2), (3, .inl p3)]) [0, 1, 2, 3] rfl (t_M_scheme_j39 M S p1 p2 p3 0 hQ K hs)
  · rw [if_pos c7] at K hs
    refine z_go2 M.1 10 [(.iconst 1, 1), (.goto 28, 3)] (39, [(0, z_r 78), (1, .inl p1), (2, .inl p2), (3, .inl p3)], [.inl 1, z_r 78], zW T' G' S n, 0, 0) (by decide +kernel) rfl ⟨trivial, trivial, trivial⟩ ?_
    exact z_lvs (lv' := [(0, z_r 78), (1, .inl p1), (2, .inl p2), (3, .inl p3)]) [0, 1, 2, 3] rfl (t_M_scheme_j39 M S p1 p2 p3 1 hQ K hs)

-- TrackHouseModel.secure
abbrev rm_M_secure : Room := zr 1
def F_M_secure_j25 (S : (Nat → Nat → Int32)) (x1 : Int32) (x2 : Int32) (s0 : Int32) : (Int32 × (Nat → Nat → Int32)) := (if s0 ≤ 0 then ((S 126 (x1).toNatClampNeg), (z_uS (z_uS S 78 0 s0) 126 (x1).toNatClampNeg x2)) else (0, (z_uS S 78 0 s0)))
def Sf_M_secure_j25 (S : (Nat → Nat → Int32)) (x1 : Int32) (x2 : Int32) (s0 : Int32) : Prop := (if s0 ≤ 0 then ((vp_in x1 3) ∧ ((vp_in x1 3) ∧ True)) else True)
theorem t_M_secure_j25 {X : z_X} {Post : Option z_V → z_W → Prop} (M : z_M X zm_M_secure rm_M_secure Post) {T' : Nat → Nat × Nat} {G' : Nat → Nat → Option Nat} {n : Nat} {Q : (Int32 × (Nat → Nat → Int32)) → Prop} (S : (Nat → Nat → Int32)) (x1 : Int32) (x2 : Int32) (s0 : Int32) (hQ : ∀ v S', Q (v, S') → Post (some (.inl v)) (zW T' G' S' n)) (K : Q (F_M_secure_j25 S x1 x2 s0)) (hs : Sf_M_secure_j25 S x1 x2 s0) : z_G X zm_M_secure (25, [(0, z_r 78), (1, .inl x1), (2, .inl x2)], [.inl s0, z_r 78], zW T' G' S n, 0, 0) := by
  unfold F_M_secure_j25 at K
  unfold Sf_M_secure_j25 at hs
  refine z_go2 M.1 25 [(.putfield 175, 3), (.aload_n 0, 1), (.getfield 175, 3)] (32, [(0, z_r 78), (1, .inl x1), (2, .inl x2)], [.inl s0], zW T' G' (z_uS S 78 0 s0) n, 0, 0) (by decide +kernel) rfl ⟨⟨rfl, trivial⟩, trivial, rfl, trivial⟩ ?_
  refine z_if_le 37 M.1 (off := 5) (by decide +kernel) (by decide) (fun c32 => ?_) (fun c32 => ?_)
  · rw [if_pos c32] at K hs
    refine z_go2 M.1 37 [(.aload_n 0, 1), (.getfield 56, 3), (.iload_n 1, 1), (.iaload, 1), (.istore_n 3, 1), (.aload_n 0, 1), (.getfield 56, 3), (.iload_n 1, 1), (.iload_n 2, 1), (.iastore, 1), (.iload_n 3, 1)] (52, [(3, .inl (S 126 (x1).toNatClampNeg)), (0, z_r 78), (1, .inl x1), (2, .inl x2)], [.inl (S 126 (x1).toNatClampNeg)], zW T' G' (z_uS (z_uS S 78 0 s0) 126 (x1).toNatClampNeg x2) n, 0, 0) (by decide +kernel) rfl ⟨trivial, rfl, trivial, ⟨rfl, hs.1⟩, trivial, trivial, rfl, trivial, trivial, ⟨rfl, hs.2.1⟩, trivial, trivial⟩ ?_
    replace hs := hs.2.2
    exact z_iret M (by decide +kernel) .int rfl rfl (by decide) (by decide) (hQ _ _ K)
  · rw [if_neg c32] at K hs
    refine z_go2 M.1 35 [(.iconst 0, 1)] (36, [(0, z_r 78), (1, .inl x1), (2, .inl x2)], [.inl 0], zW T' G' (z_uS S 78 0 s0) n, 0, 0) (by decide +kernel) rfl ⟨trivial, trivial⟩ ?_
    exact z_iret M (by decide +kernel) .int rfl rfl (by decide) (by decide) (hQ _ _ K)
def F_M_secure_j24 (S : (Nat → Nat → Int32)) (x1 : Int32) (x2 : Int32) : (Int32 × (Nat → Nat → Int32)) := (F_M_secure_j25 S x1 x2 1)
def Sf_M_secure_j24 (S : (Nat → Nat → Int32)) (x1 : Int32) (x2 : Int32) : Prop := (Sf_M_secure_j25 S x1 x2 1)
theorem t_M_secure_j24 {X : z_X} {Post : Option z_V → z_W → Prop} (M : z_M X zm_M_secure rm_M_secure Post) {T' : Nat → Nat × Nat} {G' : Nat → Nat → Option Nat} {n : Nat} {Q : (Int32 × (Nat → Nat → Int32)) → Prop} (S : (Nat → Nat → Int32)) (x1 : Int32) (x2 : Int32) (hQ : ∀ v S', Q (v, S') → Post (some (.inl v)) (zW T' G' S' n)) (K : Q (F_M_secure_j24 S x1 x2)) (hs : Sf_M_secure_j24 S x1 x2) : z_G X zm_M_secure (24, [(0, z_r 78), (1, .inl x1), (2, .inl x2)], [z_r 78], zW T' G' S n, 0, 0) := by
  unfold F_M_secure_j24 at K
  unfold Sf_M_secure_j24 at hs
  refine z_go2 M.1 24 [(.iconst 1, 1)] (25, [(0, z_r 78), (1, .inl x1), (2, .inl x2)], [.inl 1, z_r 78], zW T' G' S n, 0, 0) (by decide +kernel) rfl ⟨trivial, trivial⟩ ?_
  exact z_lvs (lv' := [(0, z_r 78), (1, .inl x1), (2, .inl x2)]) [0, 1, 2] rfl (t_M_secure_j25 M S x1 x2 1 hQ K hs)
def F_M_secure (S : (Nat → Nat → Int32)) (p1 : Int32) (p2 : Int32) : (Int32 × (Nat → Nat → Int32)) := (if (F_M_isIn S p1 1 2) = 0 then (F_M_secure_j24 S p1 p2) else (if (F_M_isIn S p2 0 15) = 0 then (F_M_secure_j24 S p1 p2) else (F_M_secure_j25 S p1 p2 0)))
def Sf_M_secure (S : (Nat → Nat → Int32)) (p1 : Int32) (p2 : Int32) : Prop := (if (F_M_isIn S p1 1 2) = 0 then (Sf_M_secure_j24 S p1 p2) else (if (F_M_isIn S p2 0 15) = 0 then (Sf_M_secure_j24 S p1 p2) else (Sf_M_secure_j25 S p1 p2 0)))
theorem c_M_secure (T' : Nat → Nat × Nat) (G' : Nat → Nat → Option Nat) (S : (Nat → Nat → Int32)) (n : Nat) (p1 : Int32) (p2 : Int32) (hs : Sf_M_secure S p1 p2) : z_Run rm_M_secure zm_M_secure [z_r 78, .inl p1, .inl p2] (zW T' G' S n) (zq (some (.inl (F_M_secure S p1 p2).1)) (zW T' G' (F_M_secure S p1 p2).2 n)) := by
  refine z_body (by decide) zf_M_ok (Nat.le_of_ble_eq_true rfl) (fun X M => ?_)
  obtain ⟨Q, hQ, K⟩ : ∃ Q : (Int32 × (Nat → Nat → Int32)) → Prop, (∀ v S', Q (v, S') → zq (some (.inl (F_M_secure S p1 p2).1)) (zW T' G' (F_M_secure S p1 p2).2 n) (some (.inl v)) (zW T' G' S' n)) ∧ Q (F_M_secure S p1 p2) := ⟨fun o => F_M_secure S p1 p2 = o, fun v S' h => ⟨by rw [h], by rw [h]⟩, rfl⟩
  show z_G X zm_M_secure (0, [(0, z_r 78), (1, .inl p1), (2, .inl p2)], [], zW T' G' S n, 0, 0)
  unfold F_M_secure at K
  unfold Sf_M_secure at hs
  refine z_go2 M.1 0 [(.aload_n 0, 1), (.iload_n 1, 1), (.iconst 1, 1), (.iconst 2, 1)] (4, [(0, z_r 78), (1, .inl p1), (2, .inl p2)], [.inl 2, .inl 1, .inl p1, z_r 78], zW T' G' S n, 0, 0) (by decide +kernel) rfl ⟨trivial, trivial, trivial, trivial, trivial⟩ ?_
  refine z_callS M.1 (av := [.inl p1, .inl 1, .inl 2]) (st := [z_r 78]) (by decide +kernel) (c_M_isIn T' G' S n p1 1 2) M.2.1 zl_M_178 zs_M_isIn ⟨by decide, by decide, by decide, by decide⟩ rfl (Nat.le_of_ble_eq_true rfl) (fun v w' hv => ?_)
  obtain ⟨rfl, rfl⟩ := hv
  show z_G X zm_M_secure (7, [(0, z_r 78), (1, .inl p1), (2, .inl p2)], [.inl (F_M_isIn S p1 1 2), z_r 78], zW T' G' S n, 0, 0)
  refine z_if_eq 24 M.1 (off := 17) (by decide +kernel) (by decide) (fun c7 => ?_) (fun c7 => ?_)
  · rw [if_pos c7] at K hs
    exact z_lvs (lv' := [(0, z_r 78), (1, .inl p1), (2, .inl p2)]) [0, 1, 2] rfl (t_M_secure_j24 M S p1 p2 hQ K hs)
  · rw [if_neg c7] at K hs
    refine z_go2 M.1 10 [(.iload_n 2, 1), (.iconst 0, 1), (.bipush 15, 2)] (14, [(0, z_r 78), (1, .inl p1), (2, .inl p2)], [.inl 15, .inl 0, .inl p2, z_r 78], zW T' G' S n, 0, 0) (by decide +kernel) rfl ⟨trivial, trivial, trivial, trivial⟩ ?_
    refine z_callS M.1 (av := [.inl p2, .inl 0, .inl 15]) (st := [z_r 78]) (by decide +kernel) (c_M_isIn T' G' S n p2 0 15) M.2.1 zl_M_178 zs_M_isIn ⟨by decide, by decide, by decide, by decide⟩ rfl (Nat.le_of_ble_eq_true rfl) (fun v w' hv => ?_)
    obtain ⟨rfl, rfl⟩ := hv
    show z_G X zm_M_secure (17, [(0, z_r 78), (1, .inl p1), (2, .inl p2)], [.inl (F_M_isIn S p2 0 15), z_r 78], zW T' G' S n, 0, 0)
    refine z_if_eq 24 M.1 (off := 7) (by decide +kernel) (by decide) (fun c17 => ?_) (fun c17 => ?_)
    · rw [if_pos c17] at K hs
      exact z_lvs (lv' := [(0, z_r 78), (1, .inl p1), (2, .inl p2)]) [0, 1, 2] rfl (t_M_secure_j24 M S p1 p2 hQ K hs)
    · rw [if_neg c17] at K hs
      refine z_go2 M.1 20 [(.iconst 0, 1), (.goto 4, 3)] (25, [(0, z_r 78), (1, .inl p1), (2, .inl p2)], [.inl 0, z_r 78], zW T' G' S n, 0, 0) (by decide +kernel) rfl ⟨trivial, trivial, trivial⟩ ?_
      exact z_lvs (lv' := [(0, z_r 78), (1, .inl p1), (2, .inl p2)]) [0, 1, 2] rfl (t_M_secure_j25 M S p1 p2 0 hQ K hs)

-- TrackHouseModel.reads
abbrev rm_M_reads_2 : Room := zr 1
def F_M_reads_2_j25 (S : (Nat → Nat → Int32)) (x1 : Int32) (x2 : Int32) (s0 : Int32) : (Int32 × (Nat → Nat → Int32)) := (if s0 ≤ 0 then ((S 127 (x1).toNatClampNeg), (z_uS (z_uS S 78 0 s0) 127 (x1).toNatClampNeg x2)) else (0, (z_uS S 78 0 s0)))
def Sf_M_reads_2_j25 (S : (Nat → Nat → Int32)) (x1 : Int32) (x2 : Int32) (s0 : Int32) : Prop := (if s0 ≤ 0 then ((vp_in x1 4) ∧ ((vp_in x1 4) ∧ True)) else True)
theorem t_M_reads_2_j25 {X : z_X} {Post : Option z_V → z_W → Prop} (M : z_M X zm_M_reads_2 rm_M_reads_2 Post) {T' : Nat → Nat × Nat} {G' : Nat → Nat → Option Nat} {n : Nat} {Q : (Int32 × (Nat → Nat → Int32)) → Prop} (S : (Nat → Nat → Int32)) (x1 : Int32) (x2 : Int32) (s0 : Int32) (hQ : ∀ v S', Q (v, S') → Post (some (.inl v)) (zW T' G' S' n)) (K : Q (F_M_reads_2_j25 S x1 x2 s0)) (hs : Sf_M_reads_2_j25 S x1 x2 s0) : z_G X zm_M_reads_2 (25, [(0, z_r 78), (1, .inl x1), (2, .inl x2)], [.inl s0, z_r 78], zW T' G' S n, 0, 0) := by
  unfold F_M_reads_2_j25 at K
  unfold Sf_M_reads_2_j25 at hs
  refine z_go2 M.1 25 [(.putfield 175, 3), (.aload_n 0, 1), (.getfield 175, 3)] (32, [(0, z_r 78), (1, .inl x1), (2, .inl x2)], [.inl s0], zW T' G' (z_uS S 78 0 s0) n, 0, 0) (by decide +kernel) rfl ⟨⟨rfl, trivial⟩, trivial, rfl, trivial⟩ ?_
  refine z_if_le 37 M.1 (off := 5) (by decide +kernel) (by decide) (fun c32 => ?_) (fun c32 => ?_)
  · rw [if_pos c32] at K hs
    refine z_go2 M.1 37 [(.aload_n 0, 1), (.getfield 59, 3), (.iload_n 1, 1), (.iaload, 1), (.istore_n 3, 1), (.aload_n 0, 1), (.getfield 59, 3), (.iload_n 1, 1), (.iload_n 2, 1), (.iastore, 1), (.iload_n 3, 1)] (52, [(3, .inl (S 127 (x1).toNatClampNeg)), (0, z_r 78), (1, .inl x1), (2, .inl x2)], [.inl (S 127 (x1).toNatClampNeg)], zW T' G' (z_uS (z_uS S 78 0 s0) 127 (x1).toNatClampNeg x2) n, 0, 0) (by decide +kernel) rfl ⟨trivial, rfl, trivial, ⟨rfl, hs.1⟩, trivial, trivial, rfl, trivial, trivial, ⟨rfl, hs.2.1⟩, trivial, trivial⟩ ?_
    replace hs := hs.2.2
    exact z_iret M (by decide +kernel) .int rfl rfl (by decide) (by decide) (hQ _ _ K)
  · rw [if_neg c32] at K hs
    refine z_go2 M.1 35 [(.iconst 0, 1)] (36, [(0, z_r 78), (1, .inl x1), (2, .inl x2)], [.inl 0], zW T' G' (z_uS S 78 0 s0) n, 0, 0) (by decide +kernel) rfl ⟨trivial, trivial⟩ ?_
    exact z_iret M (by decide +kernel) .int rfl rfl (by decide) (by decide) (hQ _ _ K)
def F_M_reads_2_j24 (S : (Nat → Nat → Int32)) (x1 : Int32) (x2 : Int32) : (Int32 × (Nat → Nat → Int32)) := (F_M_reads_2_j25 S x1 x2 1)
def Sf_M_reads_2_j24 (S : (Nat → Nat → Int32)) (x1 : Int32) (x2 : Int32) : Prop := (Sf_M_reads_2_j25 S x1 x2 1)
theorem t_M_reads_2_j24 {X : z_X} {Post : Option z_V → z_W → Prop} (M : z_M X zm_M_reads_2 rm_M_reads_2 Post) {T' : Nat → Nat × Nat} {G' : Nat → Nat → Option Nat} {n : Nat} {Q : (Int32 × (Nat → Nat → Int32)) → Prop} (S : (Nat → Nat → Int32)) (x1 : Int32) (x2 : Int32) (hQ : ∀ v S', Q (v, S') → Post (some (.inl v)) (zW T' G' S' n)) (K : Q (F_M_reads_2_j24 S x1 x2)) (hs : Sf_M_reads_2_j24 S x1 x2) : z_G X zm_M_reads_2 (24, [(0, z_r 78), (1, .inl x1), (2, .inl x2)], [z_r 78], zW T' G' S n, 0, 0) := by
  unfold F_M_reads_2_j24 at K
  unfold Sf_M_reads_2_j24 at hs
  refine z_go2 M.1 24 [(.iconst 1, 1)] (25, [(0, z_r 78), (1, .inl x1), (2, .inl x2)], [.inl 1, z_r 78], zW T' G' S n, 0, 0) (by decide +kernel) rfl ⟨trivial, trivial⟩ ?_
  exact z_lvs (lv' := [(0, z_r 78), (1, .inl x1), (2, .inl x2)]) [0, 1, 2] rfl (t_M_reads_2_j25 M S x1 x2 1 hQ K hs)
def F_M_reads_2 (S : (Nat → Nat → Int32)) (p1 : Int32) (p2 : Int32) : (Int32 × (Nat → Nat → Int32)) := (if (F_M_isIn S p1 0 3) = 0 then (F_M_reads_2_j24 S p1 p2) else (if (F_M_isIn S p2 0 15) = 0 then (F_M_reads_2_j24 S p1 p2) else (F_M_reads_2_j25 S p1 p2 0)))
def Sf_M_reads_2 (S : (Nat → Nat → Int32)) (p1 : Int32) (p2 : Int32) : Prop := (if (F_M_isIn S p1 0 3) = 0 then (Sf_M_reads_2_j24 S p1 p2) else (if (F_M_isIn S p2 0 15) = 0 then (Sf_M_reads_2_j24 S p1 p2) else (Sf_M_reads_2_j25 S p1 p2 0)))
theorem c_M_reads_2 (T' : Nat → Nat × Nat) (G' : Nat → Nat → Option Nat) (S : (Nat → Nat → Int32)) (n : Nat) (p1 : Int32) (p2 : Int32) (hs : Sf_M_reads_2 S p1 p2) : z_Run rm_M_reads_2 zm_M_reads_2 [z_r 78, .inl p1, .inl p2] (zW T' G' S n) (zq (some (.inl (F_M_reads_2 S p1 p2).1)) (zW T' G' (F_M_reads_2 S p1 p2).2 n)) := by
  refine z_body (by decide) zf_M_ok (Nat.le_of_ble_eq_true rfl) (fun X M => ?_)
  obtain ⟨Q, hQ, K⟩ : ∃ Q : (Int32 × (Nat → Nat → Int32)) → Prop, (∀ v S', Q (v, S') → zq (some (.inl (F_M_reads_2 S p1 p2).1)) (zW T' G' (F_M_reads_2 S p1 p2).2 n) (some (.inl v)) (zW T' G' S' n)) ∧ Q (F_M_reads_2 S p1 p2) := ⟨fun o => F_M_reads_2 S p1 p2 = o, fun v S' h => ⟨by rw [h], by rw [h]⟩, rfl⟩
  show z_G X zm_M_reads_2 (0, [(0, z_r 78), (1, .inl p1), (2, .inl p2)], [], zW T' G' S n, 0, 0)
  unfold F_M_reads_2 at K
  unfold Sf_M_reads_2 at hs
  refine z_go2 M.1 0 [(.aload_n 0, 1), (.iload_n 1, 1), (.iconst 0, 1), (.iconst 3, 1)] (4, [(0, z_r 78), (1, .inl p1), (2, .inl p2)], [.inl 3, .inl 0, .inl p1, z_r 78], zW T' G' S n, 0, 0) (by decide +kernel) rfl ⟨trivial, trivial, trivial, trivial, trivial⟩ ?_
  refine z_callS M.1 (av := [.inl p1, .inl 0, .inl 3]) (st := [z_r 78]) (by decide +kernel) (c_M_isIn T' G' S n p1 0 3) M.2.1 zl_M_178 zs_M_isIn ⟨by decide, by decide, by decide, by decide⟩ rfl (Nat.le_of_ble_eq_true rfl) (fun v w' hv => ?_)
  obtain ⟨rfl, rfl⟩ := hv
  show z_G X zm_M_reads_2 (7, [(0, z_r 78), (1, .inl p1), (2, .inl p2)], [.inl (F_M_isIn S p1 0 3), z_r 78], zW T' G' S n, 0, 0)
  refine z_if_eq 24 M.1 (off := 17) (by decide +kernel) (by decide) (fun c7 => ?_) (fun c7 => ?_)
  · rw [if_pos c7] at K hs
    exact z_lvs (lv' := [(0, z_r 78), (1, .inl p1), (2, .inl p2)]) [0, 1, 2] rfl (t_M_reads_2_j24 M S p1 p2 hQ K hs)
  · rw [if_neg c7] at K hs
    refine z_go2 M.1 10 [(.iload_n 2, 1), (.iconst 0, 1), (.bipush 15, 2)] (14, [(0, z_r 78), (1, .inl p1), (2, .inl p2)], [.inl 15, .inl 0, .inl p2, z_r 78], zW T' G' S n, 0, 0) (by decide +kernel) rfl ⟨trivial, trivial, trivial, trivial⟩ ?_
    refine z_callS M.1 (av := [.inl p2, .inl 0, .inl 15]) (st := [z_r 78]) (by decide +kernel) (c_M_isIn T' G' S n p2 0 15) M.2.1 zl_M_178 zs_M_isIn ⟨by decide, by decide, by decide, by decide⟩ rfl (Nat.le_of_ble_eq_true rfl) (fun v w' hv => ?_)
    obtain ⟨rfl, rfl⟩ := hv
    show z_G X zm_M_reads_2 (17, [(0, z_r 78), (1, .inl p1), (2, .inl p2)], [.inl (F_M_isIn S p2 0 15), z_r 78], zW T' G' S n, 0, 0)
    refine z_if_eq 24 M.1 (off := 7) (by decide +kernel) (by decide) (fun c17 => ?_) (fun c17 => ?_)
    · rw [if_pos c17] at K hs
      exact z_lvs (lv' := [(0, z_r 78), (1, .inl p1), (2, .inl p2)]) [0, 1, 2] rfl (t_M_reads_2_j24 M S p1 p2 hQ K hs)
    · rw [if_neg c17] at K hs
      refine z_go2 M.1 20 [(.iconst 0, 1), (.goto 4, 3)] (25, [(0, z_r 78), (1, .inl p1), (2, .inl p2)], [.inl 0, z_r 78], zW T' G' S n, 0, 0) (by decide +kernel) rfl ⟨trivial, trivial, trivial⟩ ?_
      exact z_lvs (lv' := [(0, z_r 78), (1, .inl p1), (2, .inl p2)]) [0, 1, 2] rfl (t_M_reads_2_j25 M S p1 p2 0 hQ K hs)

-- TrackHouseModel.pass
abbrev rm_M_pass : Room := zr 1
def F_M_pass_j52 (S : (Nat → Nat → Int32)) (s0 : Int32) (s1 : Int32) : (Int32 × (Nat → Nat → Int32)) := ((s1 + s0), (z_uS S 78 1 (s1 + s0)))
theorem t_M_pass_j52 {X : z_X} {Post : Option z_V → z_W → Prop} (M : z_M X zm_M_pass rm_M_pass Post) {T' : Nat → Nat × Nat} {G' : Nat → Nat → Option Nat} {n : Nat} {Q : (Int32 × (Nat → Nat → Int32)) → Prop} (S : (Nat → Nat → Int32)) (s0 : Int32) (s1 : Int32) (hQ : ∀ v S', Q (v, S') → Post (some (.inl v)) (zW T' G' S' n)) (K : Q (F_M_pass_j52 S s0 s1)) : z_G X zm_M_pass (52, [(0, z_r 78)], [.inl s0, .inl s1, z_r 78], zW T' G' S n, 0, 0) := by
  unfold F_M_pass_j52 at K
  refine z_go2 M.1 52 [(.iadd, 1), (.putfield 185, 3), (.aload_n 0, 1), (.getfield 185, 3)] (60, [(0, z_r 78)], [.inl (s1 + s0)], zW T' G' (z_uS S 78 1 (s1 + s0)) n, 0, 0) (by decide +kernel) rfl ⟨trivial, ⟨rfl, trivial⟩, trivial, rfl, trivial⟩ ?_
  exact z_iret M (by decide +kernel) .int rfl rfl (by decide) (by decide) (hQ _ _ K)
def F_M_pass_j32 (S : (Nat → Nat → Int32)) (x1 : Int32) (s0 : Int32) : (Int32 × (Nat → Nat → Int32)) := (if s0 ≤ 0 then (F_M_pass_j52 (z_uS S 78 0 s0) x1 (S 78 1)) else (F_M_pass_j52 (z_uS S 78 0 s0) 0 (S 78 1)))
theorem t_M_pass_j32 {X : z_X} {Post : Option z_V → z_W → Prop} (M : z_M X zm_M_pass rm_M_pass Post) {T' : Nat → Nat × Nat} {G' : Nat → Nat → Option Nat} {n : Nat} {Q : (Int32 × (Nat → Nat → Int32)) → Prop} (S : (Nat → Nat → Int32)) (x1 : Int32) (s0 : Int32) (hQ : ∀ v S', Q (v, S') → Post (some (.inl v)) (zW T' G' S' n)) (K : Q (F_M_pass_j32 S x1 s0)) : z_G X zm_M_pass (32, [(0, z_r 78), (1, .inl x1)], [.inl s0, z_r 78], zW T' G' S n, 0, 0) := by
  unfold F_M_pass_j32 at K
  refine z_go2 M.1 32 [(.putfield 175, 3), (.aload_n 0, 1), (.dup, 1), (.getfield 185, 3), (.aload_n 0, 1), (.getfield 175, 3)] (44, [(0, z_r 78), (1, .inl x1)], [.inl s0, .inl (S 78 1), z_r 78], zW T' G' (z_uS S 78 0 s0) n, 0, 0) (by decide +kernel) rfl ⟨⟨rfl, trivial⟩, trivial, rfl, rfl, trivial, rfl, trivial⟩ ?_
  refine z_if_le 51 M.1 (off := 7) (by decide +kernel) (by decide) (fun c44 => ?_) (fun c44 => ?_)
  · rw [if_pos c44] at K
    refine z_go2 M.1 51 [(.iload_n 1, 1)] (52, [(0, z_r 78), (1, .inl x1)], [.inl x1, .inl (S 78 1), z_r 78], zW T' G' (z_uS S 78 0 s0) n, 0, 0) (by decide +kernel) rfl ⟨trivial, trivial⟩ ?_
    exact z_lvs (lv' := [(0, z_r 78)]) [0] rfl (t_M_pass_j52 M (z_uS S 78 0 s0) x1 (S 78 1) hQ K)
  · rw [if_neg c44] at K
    refine z_go2 M.1 47 [(.iconst 0, 1), (.goto 4, 3)] (52, [(0, z_r 78), (1, .inl x1)], [.inl 0, .inl (S 78 1), z_r 78], zW T' G' (z_uS S 78 0 s0) n, 0, 0) (by decide +kernel) rfl ⟨trivial, trivial, trivial⟩ ?_
    exact z_lvs (lv' := [(0, z_r 78)]) [0] rfl (t_M_pass_j52 M (z_uS S 78 0 s0) 0 (S 78 1) hQ K)
def F_M_pass (S : (Nat → Nat → Int32)) (p1 : Int32) : (Int32 × (Nat → Nat → Int32)) := (if (F_M_isIn S p1 1 60) = 0 then (F_M_pass_j32 S p1 1) else (if ((S 78 1) + p1) ≤ 400 then (F_M_pass_j32 S p1 0) else (F_M_pass_j32 S p1 2)))
theorem c_M_pass (T' : Nat → Nat × Nat) (G' : Nat → Nat → Option Nat) (S : (Nat → Nat → Int32)) (n : Nat) (p1 : Int32) : z_Run rm_M_pass zm_M_pass [z_r 78, .inl p1] (zW T' G' S n) (zq (some (.inl (F_M_pass S p1).1)) (zW T' G' (F_M_pass S p1).2 n)) := by
  refine z_body (by decide) zf_M_ok (Nat.le_of_ble_eq_true rfl) (fun X M => ?_)
  obtain ⟨Q, hQ, K⟩ : ∃ Q : (Int32 × (Nat → Nat → Int32)) → Prop, (∀ v S', Q (v, S') → zq (some (.inl (F_M_pass S p1).1)) (zW T' G' (F_M_pass S p1).2 n) (some (.inl v)) (zW T' G' S' n)) ∧ Q (F_M_pass S p1) := ⟨fun o => F_M_pass S p1 = o, fun v S' h => ⟨by rw [h], by rw [h]⟩, rfl⟩
  show z_G X zm_M_pass (0, [(0, z_r 78), (1, .inl p1)], [], zW T' G' S n, 0, 0)
  unfold F_M_pass at K
  refine z_go2 M.1 0 [(.aload_n 0, 1), (.iload_n 1, 1), (.iconst 1, 1), (.bipush 60, 2)] (5, [(0, z_r 78), (1, .inl p1)], [.inl 60, .inl 1, .inl p1, z_r 78], zW T' G' S n, 0, 0) (by decide +kernel) rfl ⟨trivial, trivial, trivial, trivial, trivial⟩ ?_
  refine z_callS M.1 (av := [.inl p1, .inl 1, .inl 60]) (st := [z_r 78]) (by decide +kernel) (c_M_isIn T' G' S n p1 1 60) M.2.1 zl_M_178 zs_M_isIn ⟨by decide, by decide, by decide, by decide⟩ rfl (Nat.le_of_ble_eq_true rfl) (fun v w' hv => ?_)
  obtain ⟨rfl, rfl⟩ := hv
  show z_G X zm_M_pass (8, [(0, z_r 78), (1, .inl p1)], [.inl (F_M_isIn S p1 1 60), z_r 78], zW T' G' S n, 0, 0)
  refine z_if_ne 15 M.1 (off := 7) (by decide +kernel) (by decide) (fun c8 => ?_) (fun c8 => ?_)
  · rw [if_neg c8] at K
    refine z_go2 M.1 15 [(.aload_n 0, 1), (.getfield 185, 3), (.iload_n 1, 1), (.iadd, 1), (.sipush 400, 3)] (24, [(0, z_r 78), (1, .inl p1)], [.inl 400, .inl ((S 78 1) + p1), z_r 78], zW T' G' S n, 0, 0) (by decide +kernel) rfl ⟨trivial, rfl, trivial, trivial, trivial, trivial⟩ ?_
    refine z_icmp_le 31 M.1 (off := 7) (by decide +kernel) (by decide) (fun c24 => ?_) (fun c24 => ?_)
    · rw [if_pos c24] at K
      refine z_go2 M.1 31 [(.iconst 0, 1)] (32, [(0, z_r 78), (1, .inl p1)], [.inl 0, z_r 78], zW T' G' S n, 0, 0) (by decide +kernel) rfl ⟨trivial, trivial⟩ ?_
      exact z_lvs (lv' := [(0, z_r 78), (1, .inl p1)]) [0, 1] rfl (t_M_pass_j32 M S p1 0 hQ K)
    · rw [if_neg c24] at K
      refine z_go2 M.1 27 [(.iconst 2, 1), (.goto 4, 3)] (32, [(0, z_r 78), (1, .inl p1)], [.inl 2, z_r 78], zW T' G' S n, 0, 0) (by decide +kernel) rfl ⟨trivial, trivial, trivial⟩ ?_
      exact z_lvs (lv' := [(0, z_r 78), (1, .inl p1)]) [0, 1] rfl (t_M_pass_j32 M S p1 2 hQ K)
  · rw [if_pos c8] at K
    refine z_go2 M.1 11 [(.iconst 1, 1), (.goto 20, 3)] (32, [(0, z_r 78), (1, .inl p1)], [.inl 1, z_r 78], zW T' G' S n, 0, 0) (by decide +kernel) rfl ⟨trivial, trivial, trivial⟩ ?_
    exact z_lvs (lv' := [(0, z_r 78), (1, .inl p1)]) [0, 1] rfl (t_M_pass_j32 M S p1 1 hQ K)

-- TrackHouseModel.index
abbrev rm_M_index : Room := zr 0
def F_M_index (S : (Nat → Nat → Int32)) : (Int32 × (Nat → Nat → Int32)) := ((S 78 2), (z_uS (z_uS S 78 0 0) 78 16 (S 78 2)))
theorem c_M_index (T' : Nat → Nat × Nat) (G' : Nat → Nat → Option Nat) (S : (Nat → Nat → Int32)) (n : Nat) : z_Run rm_M_index zm_M_index [z_r 78] (zW T' G' S n) (zq (some (.inl (F_M_index S).1)) (zW T' G' (F_M_index S).2 n)) := by
  refine z_body (by decide) zf_M_ok (Nat.le_of_ble_eq_true rfl) (fun X M => ?_)
  obtain ⟨Q, hQ, K⟩ : ∃ Q : (Int32 × (Nat → Nat → Int32)) → Prop, (∀ v S', Q (v, S') → zq (some (.inl (F_M_index S).1)) (zW T' G' (F_M_index S).2 n) (some (.inl v)) (zW T' G' S' n)) ∧ Q (F_M_index S) := ⟨fun o => F_M_index S = o, fun v S' h => ⟨by rw [h], by rw [h]⟩, rfl⟩
  show z_G X zm_M_index (0, [(0, z_r 78)], [], zW T' G' S n, 0, 0)
  unfold F_M_index at K
  refine z_go2 M.1 0 [(.aload_n 0, 1), (.iconst 0, 1), (.putfield 175, 3), (.aload_n 0, 1), (.aload_n 0, 1), (.getfield 182, 3), (.putfield 305, 3), (.aload_n 0, 1), (.getfield 305, 3)] (17, [(0, z_r 78)], [.inl (S 78 2)], zW T' G' (z_uS (z_uS S 78 0 0) 78 16 (S 78 2)) n, 0, 0) (by decide +kernel) rfl ⟨trivial, trivial, ⟨rfl, trivial⟩, trivial, trivial, rfl, ⟨rfl, trivial⟩, trivial, rfl, trivial⟩ ?_
  exact z_iret M (by decide +kernel) .int rfl rfl (by decide) (by decide) (hQ _ _ K)

-- TrackHouseModel.entries
abbrev rm_M_entries : Room := zr 0
def F_M_entries (S : (Nat → Nat → Int32)) : (Int32 × (Nat → Nat → Int32)) := ((S 78 2), (z_uS S 78 0 0))
theorem c_M_entries (T' : Nat → Nat × Nat) (G' : Nat → Nat → Option Nat) (S : (Nat → Nat → Int32)) (n : Nat) : z_Run rm_M_entries zm_M_entries [z_r 78] (zW T' G' S n) (zq (some (.inl (F_M_entries S).1)) (zW T' G' (F_M_entries S).2 n)) := by
  refine z_body (by decide) zf_M_ok (Nat.le_of_ble_eq_true rfl) (fun X M => ?_)
  obtain ⟨Q, hQ, K⟩ : ∃ Q : (Int32 × (Nat → Nat → Int32)) → Prop, (∀ v S', Q (v, S') → zq (some (.inl (F_M_entries S).1)) (zW T' G' (F_M_entries S).2 n) (some (.inl v)) (zW T' G' S' n)) ∧ Q (F_M_entries S) := ⟨fun o => F_M_entries S = o, fun v S' h => ⟨by rw [h], by rw [h]⟩, rfl⟩
  show z_G X zm_M_entries (0, [(0, z_r 78)], [], zW T' G' S n, 0, 0)
  unfold F_M_entries at K
  refine z_go2 M.1 0 [(.aload_n 0, 1), (.iconst 0, 1), (.putfield 175, 3), (.aload_n 0, 1), (.getfield 182, 3)] (9, [(0, z_r 78)], [.inl (S 78 2)], zW T' G' (z_uS S 78 0 0) n, 0, 0) (by decide +kernel) rfl ⟨trivial, trivial, ⟨rfl, trivial⟩, trivial, rfl, trivial⟩ ?_
  exact z_iret M (by decide +kernel) .int rfl rfl (by decide) (by decide) (hQ _ _ K)

-- TrackHouseModel.kind
abbrev rm_M_kind : Room := zr 1
def F_M_kind_j60 (S : (Nat → Nat → Int32)) (x1 : Int32) (x2 : Int32) (x3 : Int32) (x4 : Int32) (s0 : Int32) : (Nat → Nat → Int32) := (if s0 = 0 then (z_uS (z_uS (z_uS (z_uS S 78 0 s0) 128 (x1).toNatClampNeg x2) 129 (x1).toNatClampNeg x3) 130 (x1).toNatClampNeg x4) else (z_uS S 78 0 s0))
def Sf_M_kind_j60 (S : (Nat → Nat → Int32)) (x1 : Int32) (x2 : Int32) (x3 : Int32) (x4 : Int32) (s0 : Int32) : Prop := (if s0 = 0 then ((vp_in x1 3) ∧ ((vp_in x1 3) ∧ ((vp_in x1 3) ∧ True))) else True)
theorem t_M_kind_j60 {X : z_X} {Post : Option z_V → z_W → Prop} (M : z_M X zm_M_kind rm_M_kind Post) {T' : Nat → Nat × Nat} {G' : Nat → Nat → Option Nat} {n : Nat} {Q : (Nat → Nat → Int32) → Prop} (S : (Nat → Nat → Int32)) (x1 : Int32) (x2 : Int32) (x3 : Int32) (x4 : Int32) (s0 : Int32) (hQ : ∀ S', Q S' → Post none (zW T' G' S' n)) (K : Q (F_M_kind_j60 S x1 x2 x3 x4 s0)) (hs : Sf_M_kind_j60 S x1 x2 x3 x4 s0) : z_G X zm_M_kind (60, [(0, z_r 78), (1, .inl x1), (2, .inl x2), (3, .inl x3), (4, .inl x4)], [.inl s0, z_r 78], zW T' G' S n, 0, 0) := by
  unfold F_M_kind_j60 at K
  unfold Sf_M_kind_j60 at hs
  refine z_go2 M.1 60 [(.putfield 175, 3), (.aload_n 0, 1), (.getfield 175, 3)] (67, [(0, z_r 78), (1, .inl x1), (2, .inl x2), (3, .inl x3), (4, .inl x4)], [.inl s0], zW T' G' (z_uS S 78 0 s0) n, 0, 0) (by decide +kernel) rfl ⟨⟨rfl, trivial⟩, trivial, rfl, trivial⟩ ?_
  refine z_if_ne 92 M.1 (off := 25) (by decide +kernel) (by decide) (fun c67 => ?_) (fun c67 => ?_)
  · rw [if_neg c67] at K hs
    exact z_vret M (by decide +kernel) rfl (by decide) (by decide) (hQ _ K)
  · rw [if_pos c67] at K hs
    refine z_go2 M.1 70 [(.aload_n 0, 1), (.getfield 62, 3), (.iload_n 1, 1), (.iload_n 2, 1), (.iastore, 1), (.aload_n 0, 1), (.getfield 65, 3), (.iload_n 1, 1), (.iload_n 3, 1), (.iastore, 1), (.aload_n 0, 1), (.getfield 68, 3), (.iload_n 1, 1), (.iload 4, 2), (.iastore, 1)] (92, [(0, z_r 78), (1, .inl x1), (2, .inl x2), (3, .inl x3), (4, .inl x4)], [], zW T' G' (z_uS (z_uS (z_uS (z_uS S 78 0 s0) 128 (x1).toNatClampNeg x2) 129 (x1).toNatClampNeg x3) 130 (x1).toNatClampNeg x4) n, 0, 0) (by decide +kernel) rfl ⟨trivial, rfl, trivial, trivial, ⟨rfl, hs.1⟩, trivial, rfl, trivial, trivial, ⟨rfl, hs.2.1⟩, trivial, rfl, trivial, trivial, ⟨rfl, hs.2.2.1⟩, trivial⟩ ?_
    replace hs := hs.2.2.2
    exact z_vret M (by decide +kernel) rfl (by decide) (by decide) (hQ _ K)
def F_M_kind_j34 (S : (Nat → Nat → Int32)) (x1 : Int32) (x2 : Int32) (x3 : Int32) (x4 : Int32) (s0 : Int32) : (Nat → Nat → Int32) := (if (F_M_isIn S x1 0 2) = 0 then (F_M_kind_j60 S x1 x2 x3 x4 1) else (if s0 = 0 then (F_M_kind_j60 S x1 x2 x3 x4 2) else (F_M_kind_j60 S x1 x2 x3 x4 0)))
def Sf_M_kind_j34 (S : (Nat → Nat → Int32)) (x1 : Int32) (x2 : Int32) (x3 : Int32) (x4 : Int32) (s0 : Int32) : Prop := (if (F_M_isIn S x1 0 2) = 0 then (Sf_M_kind_j60 S x1 x2 x3 x4 1) else (if s0 = 0 then (Sf_M_kind_j60 S x1 x2 x3 x4 2) else (Sf_M_kind_j60 S x1 x2 x3 x4 0)))
theorem t_M_kind_j34 {X : z_X} {Post : Option z_V → z_W → Prop} (M : z_M X zm_M_kind rm_M_kind Post) {T' : Nat → Nat × Nat} {G' : Nat → Nat → Option Nat} {n : Nat} {Q : (Nat → Nat → Int32) → Prop} (S : (Nat → Nat → Int32)) (x1 : Int32) (x2 : Int32) (x3 : Int32) (x4 : Int32) (s0 : Int32) (hQ : ∀ S', Q S' → Post none (zW T' G' S' n)) (K : Q (F_M_kind_j34 S x1 x2 x3 x4 s0)) (hs : Sf_M_kind_j34 S x1 x2 x3 x4 s0) : z_G X zm_M_kind (34, [(0, z_r 78), (1, .inl x1), (2, .inl x2), (3, .inl x3), (4, .inl x4)], [.inl s0], zW T' G' S n, 0, 0) := by
  unfold F_M_kind_j34 at K
  unfold Sf_M_kind_j34 at hs
  refine z_go2 M.1 34 [(.istore 5, 2), (.aload_n 0, 1), (.iload_n 1, 1), (.iconst 0, 1), (.iconst 2, 1)] (40, [(5, .inl s0), (0, z_r 78), (1, .inl x1), (2, .inl x2), (3, .inl x3), (4, .inl x4)], [.inl 2, .inl 0, .inl x1, z_r 78], zW T' G' S n, 0, 0) (by decide +kernel) rfl ⟨trivial, trivial, trivial, trivial, trivial, trivial⟩ ?_
  refine z_callS M.1 (av := [.inl x1, .inl 0, .inl 2]) (st := [z_r 78]) (by decide +kernel) (c_M_isIn T' G' S n x1 0 2) M.2.1 zl_M_178 zs_M_isIn ⟨by decide, by decide, by decide, by decide⟩ rfl (Nat.le_of_ble_eq_true rfl) (fun v w' hv => ?_)
  obtain ⟨rfl, rfl⟩ := hv
  show z_G X zm_M_kind (43, [(5, .inl s0), (0, z_r 78), (1, .inl x1), (2, .inl x2), (3, .inl x3), (4, .inl x4)], [.inl (F_M_isIn S x1 0 2), z_r 78], zW T' G' S n, 0, 0)
  refine z_if_ne 50 M.1 (off := 7) (by decide +kernel) (by decide) (fun c43 => ?_) (fun c43 => ?_)
  · rw [if_neg c43] at K hs
    refine z_go2 M.1 50 [(.iload 5, 2)] (52, [(5, .inl s0), (0, z_r 78), (1, .inl x1), (2, .inl x2), (3, .inl x3), (4, .inl x4)], [.inl s0, z_r 78], zW T' G' S n, 0, 0) (by decide +kernel) rfl ⟨trivial, trivial⟩ ?_
    refine z_if_eq 59 M.1 (off := 7) (by decide +kernel) (by decide) (fun c52 => ?_) (fun c52 => ?_)
    · rw [if_pos c52] at K hs
      refine z_go2 M.1 59 [(.iconst 2, 1)] (60, [(5, .inl s0), (0, z_r 78), (1, .inl x1), (2, .inl x2), (3, .inl x3), (4, .inl x4)], [.inl 2, z_r 78], zW T' G' S n, 0, 0) (by decide +kernel) rfl ⟨trivial, trivial⟩ ?_
      exact z_lvs (lv' := [(0, z_r 78), (1, .inl x1), (2, .inl x2), (3, .inl x3), (4, .inl x4)]) [1, 2, 3, 4, 5] rfl (t_M_kind_j60 M S x1 x2 x3 x4 2 hQ K hs)
    · rw [if_neg c52] at K hs
      refine z_go2 M.1 55 [(.iconst 0, 1), (.goto 4, 3)] (60, [(5, .inl s0), (0, z_r 78), (1, .inl x1), (2, .inl x2), (3, .inl x3), (4, .inl x4)], [.inl 0, z_r 78], zW T' G' S n, 0, 0) (by decide +kernel) rfl ⟨trivial, trivial, trivial⟩ ?_
      exact z_lvs (lv' := [(0, z_r 78), (1, .inl x1), (2, .inl x2), (3, .inl x3), (4, .inl x4)]) [1, 2, 3, 4, 5] rfl (t_M_kind_j60 M S x1 x2 x3 x4 0 hQ K hs)
  · rw [if_pos c43] at K hs
    refine z_go2 M.1 46 [(.iconst 1, 1), (.goto 13, 3)] (60, [(5, .inl s0), (0, z_r 78), (1, .inl x1), (2, .inl x2), (3, .inl x3), (4, .inl x4)], [.inl 1, z_r 78], zW T' G' S n, 0, 0) (by decide +kernel) rfl ⟨trivial, trivial, trivial⟩ ?_
    exact z_lvs (lv' := [(0, z_r 78), (1, .inl x1), (2, .inl x2), (3, .inl x3), (4, .inl x4)]) [1, 2, 3, 4, 5] rfl (t_M_kind_j60 M S x1 x2 x3 x4 1 hQ K hs)
def F_M_kind_j33 (S : (Nat → Nat → Int32)) (x1 : Int32) (x2 : Int32) (x3 : Int32) (x4 : Int32) : (Nat → Nat → Int32) := (F_M_kind_j34 S x1 x2 x3 x4 0)
def Sf_M_kind_j33 (S : (Nat → Nat → Int32)) (x1 : Int32) (x2 : Int32) (x3 : Int32) (x4 : Int32) : Prop := (Sf_M_kind_j34 S x1 x2 x3 x4 0)
theorem t_M_kind_j33 {X : z_X} {Post : Option z_V → z_W → Prop} (M : z_M X zm_M_kind rm_M_kind Post) {T' : Nat → Nat × Nat} {G' : Nat → Nat → Option Nat} {n : Nat} {Q : (Nat → Nat → Int32) → Prop} (S : (Nat → Nat → Int32)) (x1 : Int32) (x2 : Int32) (x3 : Int32) (x4 : Int32) (hQ : ∀ S', Q S' → Post none (zW T' G' S' n)) (K : Q (F_M_kind_j33 S x1 x2 x3 x4)) (hs : Sf_M_kind_j33 S x1 x2 x3 x4) : z_G X zm_M_kind (33, [(0, z_r 78), (1, .inl x1), (2, .inl x2), (3, .inl x3), (4, .inl x4)], [], zW T' G' S n, 0, 0) := by
  unfold F_M_kind_j33 at K
  unfold Sf_M_kind_j33 at hs
  refine z_go2 M.1 33 [(.iconst 0, 1)] (34, [(0, z_r 78), (1, .inl x1), (2, .inl x2), (3, .inl x3), (4, .inl x4)], [.inl 0], zW T' G' S n, 0, 0) (by decide +kernel) rfl ⟨trivial, trivial⟩ ?_
  exact z_lvs (lv' := [(0, z_r 78), (1, .inl x1), (2, .inl x2), (3, .inl x3), (4, .inl x4)]) [0, 1, 2, 3, 4] rfl (t_M_kind_j34 M S x1 x2 x3 x4 0 hQ K hs)
def F_M_kind (S : (Nat → Nat → Int32)) (p1 : Int32) (p2 : Int32) (p3 : Int32) (p4 : Int32) : (Nat → Nat → Int32) := (if (F_M_isIn S p2 0 7) = 0 then (F_M_kind_j33 S p1 p2 p3 p4) else (if (F_M_isIn S p3 (-1) 3) = 0 then (F_M_kind_j33 S p1 p2 p3 p4) else (if (F_M_isIn S p4 0 2) = 0 then (F_M_kind_j33 S p1 p2 p3 p4) else (F_M_kind_j34 S p1 p2 p3 p4 1))))
def Sf_M_kind (S : (Nat → Nat → Int32)) (p1 : Int32) (p2 : Int32) (p3 : Int32) (p4 : Int32) : Prop := (if (F_M_isIn S p2 0 7) = 0 then (Sf_M_kind_j33 S p1 p2 p3 p4) else (if (F_M_isIn S p3 (-1) 3) = 0 then (Sf_M_kind_j33 S p1 p2 p3 p4) else (if (F_M_isIn S p4 0 2) = 0 then (Sf_M_kind_j33 S p1 p2 p3 p4) else (Sf_M_kind_j34 S p1 p2 p3 p4 1))))
theorem c_M_kind (T' : Nat → Nat × Nat) (G' : Nat → Nat → Option Nat) (S : (Nat → Nat → Int32)) (n : Nat) (p1 : Int32) (p2 : Int32) (p3 : Int32) (p4 : Int32) (hs : Sf_M_kind S p1 p2 p3 p4) : z_Run rm_M_kind zm_M_kind [z_r 78, .inl p1, .inl p2, .inl p3, .inl p4] (zW T' G' S n) (zq none (zW T' G' (F_M_kind S p1 p2 p3 p4) n)) := by
  refine z_body (by decide) zf_M_ok (Nat.le_of_ble_eq_true rfl) (fun X M => ?_)
  obtain ⟨Q, hQ, K⟩ : ∃ Q : (Nat → Nat → Int32) → Prop, (∀ S', Q S' → zq none (zW T' G' (F_M_kind S p1 p2 p3 p4) n) none (zW T' G' S' n)) ∧ Q (F_M_kind S p1 p2 p3 p4) := ⟨fun o => F_M_kind S p1 p2 p3 p4 = o, fun S' h => ⟨rfl, by rw [h]⟩, rfl⟩
  show z_G X zm_M_kind (0, [(0, z_r 78), (1, .inl p1), (2, .inl p2), (3, .inl p3), (4, .inl p4)], [], zW T' G' S n, 0, 0)
  unfold F_M_kind at K
  unfold Sf_M_kind at hs
  refine z_go2 M.1 0 [(.iload_n 2, 1), (.iconst 0, 1), (.bipush 7, 2)] (4, [(0, z_r 78), (1, .inl p1), (2, .inl p2), (3, .inl p3), (4, .inl p4)], [.inl 7, .inl 0, .inl p2], zW T' G' S n, 0, 0) (by decide +kernel) rfl ⟨trivial, trivial, trivial, trivial⟩ ?_
  refine z_callS M.1 (av := [.inl p2, .inl 0, .inl 7]) (st := []) (by decide +kernel) (c_M_isIn T' G' S n p2 0 7) M.2.1 zl_M_178 zs_M_isIn ⟨by decide, by decide, by decide, by decide⟩ rfl (Nat.le_of_ble_eq_true rfl) (fun v w' hv => ?_)
  obtain ⟨rfl, rfl⟩ := hv
  show z_G X zm_M_kind (7, [(0, z_r 78), (1, .inl p1), (2, .inl p2), (3, .inl p3), (4, .inl p4)], [.inl (F_M_isIn S p2 0 7)], zW T' G' S n, 0, 0)
  refine z_if_eq 33 M.1 (off := 26) (by decide +kernel) (by decide) (fun c7 => ?_) (fun c7 => ?_)
  · rw [if_pos c7] at K hs
    exact z_lvs (lv' := [(0, z_r 78), (1, .inl p1), (2, .inl p2), (3, .inl p3), (4, .inl p4)]) [0, 1, 2, 3, 4] rfl (t_M_kind_j33 M S p1 p2 p3 p4 hQ K hs)
  · rw [if_neg c7] at K hs
    refine z_go2 M.1 10 [(.iload_n 3, 1), (.iconst (-1), 1), (.iconst 3, 1)] (13, [(0, z_r 78), (1, .inl p1), (2, .inl p2), (3, .inl p3), (4, .inl p4)], [.inl 3, .inl (-1), .inl p3], zW T' G' S n, 0, 0) (by decide +kernel) rfl ⟨trivial, trivial, trivial, trivial⟩ ?_
    refine z_callS M.1 (av := [.inl p3, .inl (-1), .inl 3]) (st := []) (by decide +kernel) (c_M_isIn T' G' S n p3 (-1) 3) M.2.1 zl_M_178 zs_M_isIn ⟨by decide, by decide, by decide, by decide⟩ rfl (Nat.le_of_ble_eq_true rfl) (fun v w' hv => ?_)
    obtain ⟨rfl, rfl⟩ := hv
    show z_G X zm_M_kind (16, [(0, z_r 78), (1, .inl p1), (2, .inl p2), (3, .inl p3), (4, .inl p4)], [.inl (F_M_isIn S p3 (-1) 3)], zW T' G' S n, 0, 0)
    refine z_if_eq 33 M.1 (off := 17) (by decide +kernel) (by decide) (fun c16 => ?_) (fun c16 => ?_)
    · rw [if_pos c16] at K hs
      exact z_lvs (lv' := [(0, z_r 78), (1, .inl p1), (2, .inl p2), (3, .inl p3), (4, .inl p4)]) [0, 1, 2, 3, 4] rfl (t_M_kind_j33 M S p1 p2 p3 p4 hQ K hs)
    · rw [if_neg c16] at K hs
      refine z_go2 M.1 19 [(.iload 4, 2), (.iconst 0, 1), (.iconst 2, 1)] (23, [(0, z_r 78), (1, .inl p1), (2, .inl p2), (3, .inl p3), (4, .inl p4)], [.inl 2, .inl 0, .inl p4], zW T' G' S n, 0, 0) (by decide +kernel) rfl ⟨trivial, trivial, trivial, trivial⟩ ?_
      refine z_callS M.1 (av := [.inl p4, .inl 0, .inl 2]) (st := []) (by decide +kernel) (c_M_isIn T' G' S n p4 0 2) M.2.1 zl_M_178 zs_M_isIn ⟨by decide, by decide, by decide, by decide⟩ rfl (Nat.le_of_ble_eq_true rfl) (fun v w' hv => ?_)
      obtain ⟨rfl, rfl⟩ := hv
      show z_G X zm_M_kind (26, [(0, z_r 78), (1, .inl p1), (2, .inl p2), (3, .inl p3), (4, .inl p4)], [.inl (F_M_isIn S p4 0 2)], zW T' G' S n, 0, 0)
      refine z_if_eq 33 M.1 (off := 7) (by decide +kernel) (by decide) (fun c26 => ?_) (fun c26 => ?_)
      · rw [if_pos c26] at K hs
        exact z_lvs (lv' := [(0, z_r 78), (1, .inl p1), (2, .inl p2), (3, .inl p3), (4, .inl p4)]) [0, 1, 2, 3, 4] rfl (t_M_kind_j33 M S p1 p2 p3 p4 hQ K hs)
      · rw [if_neg c26] at K hs
        refine z_go2 M.1 29 [(.iconst 1, 1), (.goto 4, 3)] (34, [(0, z_r 78), (1, .inl p1), (2, .inl p2), (3, .inl p3), (4, .inl p4)], [.inl 1], zW T' G' S n, 0, 0) (by decide +kernel) rfl ⟨trivial, trivial, trivial⟩ ?_
        exact z_lvs (lv' := [(0, z_r 78), (1, .inl p1), (2, .inl p2), (3, .inl p3), (4, .inl p4)]) [0, 1, 2, 3, 4] rfl (t_M_kind_j34 M S p1 p2 p3 p4 1 hQ K hs)

-- TrackHouseModel.draft
abbrev rm_M_draft : Room := zr 2
def F_M_draft_j27 (fl : Nat → Nat) (S : (Nat → Nat → Int32)) (x1 : Int32) (s0 : Int32) : (Int32 × (Nat → Nat → Int32)) := (if s0 ≤ 0 then (z_letN (fl (x1).toNatClampNeg) (fun f48 => (z_let (F_MF_copy 156 f48 (z_uS S 78 0 s0)) (fun S49 => ((S49 156 0), (z_uS S49 78 26 x1)))))) else (0, (z_uS S 78 0 s0)))
def Sf_M_draft_j27 (fl : Nat → Nat) (S : (Nat → Nat → Int32)) (x1 : Int32) (s0 : Int32) : Prop := (if s0 ≤ 0 then (z_letN (fl (x1).toNatClampNeg) (fun f48 => ((vp_in x1 3) ∧ (Sf_MF_copy 156 f48 (z_uS S 78 0 s0) ∧ True)))) else True)
theorem t_M_draft_j27 {X : z_X} {Post : Option z_V → z_W → Prop} (M : z_M X zm_M_draft rm_M_draft Post) {T' : Nat → Nat × Nat} {G' : Nat → Nat → Option Nat} {n : Nat} (fl : Nat → Nat) (hfl : zOK T' G' fl n) {Q : (Int32 × (Nat → Nat → Int32)) → Prop} (S : (Nat → Nat → Int32)) (x1 : Int32) (s0 : Int32) (hQ : ∀ v S', Q (v, S') → Post (some (.inl v)) (zW T' G' S' n)) (K : Q (F_M_draft_j27 fl S x1 s0)) (hs : Sf_M_draft_j27 fl S x1 s0) : z_G X zm_M_draft (27, [(0, z_r 78), (1, .inl x1)], [.inl s0, z_r 78], zW T' G' S n, 0, 0) := by
  unfold F_M_draft_j27 at K
  unfold Sf_M_draft_j27 at hs
  refine z_go2 M.1 27 [(.putfield 175, 3), (.aload_n 0, 1), (.getfield 175, 3)] (34, [(0, z_r 78), (1, .inl x1)], [.inl s0], zW T' G' (z_uS S 78 0 s0) n, 0, 0) (by decide +kernel) rfl ⟨⟨rfl, trivial⟩, trivial, rfl, trivial⟩ ?_
  refine z_if_le 39 M.1 (off := 5) (by decide +kernel) (by decide) (fun c34 => ?_) (fun c34 => ?_)
  · rw [if_pos c34] at K hs
    refine z_go2 M.1 39 [(.aload_n 0, 1), (.getfield 78, 3), (.aload_n 0, 1), (.getfield 74, 3), (.iload_n 1, 1)] (48, [(0, z_r 78), (1, .inl x1)], [.inl x1, z_r 131, z_r 156], zW T' G' (z_uS S 78 0 s0) n, 0, 0) (by decide +kernel) rfl ⟨trivial, rfl, trivial, rfl, trivial, trivial⟩ ?_
    obtain ⟨f48, he48⟩ : ∃ y, fl (x1).toNatClampNeg = y := ⟨_, rfl⟩
    have hf48 : zFo T' G' f48 := he48 ▸ (hfl.fl (z_in3 hs.1)).2
    refine z_aalF M.1 (a := 131) (len := 3) (r := f48) (by decide +kernel) rfl hs.1 ((hfl.fl (z_in3 hs.1)).1.trans (congrArg some he48)) ?_
    rw [he48] at K hs
    try dsimp only [z_letN] at K hs
    replace hs := hs.2
    refine z_callV M.1 (av := [z_r f48]) (st := []) (a := 156) (ci := 12) (by decide +kernel) (c_MF_copy T' G' n 156 (zFo_st T' G' 156 (by decide)) f48 hf48 (z_uS S 78 0 s0) hs.1) M.2.1 zl_M_308 zv_MF_copy rfl rfl rfl ⟨by decide, by decide, by decide, by decide⟩ rfl (Nat.le_of_ble_eq_true rfl) (fun v w' hv => ?_)
    replace hs := hs.2
    obtain ⟨S49, hF49⟩ : ∃ y, F_MF_copy 156 f48 (z_uS S 78 0 s0) = y := ⟨_, rfl⟩
    rw [hF49] at K hv
    try dsimp only [z_let] at K
    obtain ⟨rfl, rfl⟩ := hv
    show z_G X zm_M_draft (52, [(0, z_r 78), (1, .inl x1)], [], zW T' G' S49 n, 0, 0)
    refine z_go2 M.1 52 [(.aload_n 0, 1), (.iload_n 1, 1), (.putfield 82, 3), (.aload_n 0, 1), (.getfield 78, 3), (.getfield 312, 3)] (64, [(0, z_r 78), (1, .inl x1)], [.inl (S49 156 0)], zW T' G' (z_uS S49 78 26 x1) n, 0, 0) (by decide +kernel) rfl ⟨trivial, trivial, ⟨rfl, trivial⟩, trivial, rfl, rfl, trivial⟩ ?_
    exact z_iret M (by decide +kernel) .int rfl rfl (by decide) (by decide) (hQ _ _ K)
  · rw [if_neg c34] at K hs
    refine z_go2 M.1 37 [(.iconst 0, 1)] (38, [(0, z_r 78), (1, .inl x1)], [.inl 0], zW T' G' (z_uS S 78 0 s0) n, 0, 0) (by decide +kernel) rfl ⟨trivial, trivial⟩ ?_
    exact z_iret M (by decide +kernel) .int rfl rfl (by decide) (by decide) (hQ _ _ K)
def F_M_draft (fl : Nat → Nat) (S : (Nat → Nat → Int32)) (p1 : Int32) : (Int32 × (Nat → Nat → Int32)) := (if (F_M_isIn S p1 0 2) = 0 then (F_M_draft_j27 fl S p1 1) else (if (S 78 26) = (-1) then (F_M_draft_j27 fl S p1 0) else (F_M_draft_j27 fl S p1 2)))
def Sf_M_draft (fl : Nat → Nat) (S : (Nat → Nat → Int32)) (p1 : Int32) : Prop := (if (F_M_isIn S p1 0 2) = 0 then (Sf_M_draft_j27 fl S p1 1) else (if (S 78 26) = (-1) then (Sf_M_draft_j27 fl S p1 0) else (Sf_M_draft_j27 fl S p1 2)))
theorem c_M_draft (T' : Nat → Nat × Nat) (G' : Nat → Nat → Option Nat) (n : Nat) (fl : Nat → Nat) (hfl : zOK T' G' fl n) (S : (Nat → Nat → Int32)) (p1 : Int32) (hs : Sf_M_draft fl S p1) : z_Run rm_M_draft zm_M_draft [z_r 78, .inl p1] (zW T' G' S n) (zq (some (.inl (F_M_draft fl S p1).1)) (zW T' G' (F_M_draft fl S p1).2 n)) := by
  refine z_body (by decide) zf_M_ok (Nat.le_of_ble_eq_true rfl) (fun X M => ?_)
  obtain ⟨Q, hQ, K⟩ : ∃ Q : (Int32 × (Nat → Nat → Int32)) → Prop, (∀ v S', Q (v, S') → zq (some (.inl (F_M_draft fl S p1).1)) (zW T' G' (F_M_draft fl S p1).2 n) (some (.inl v)) (zW T' G' S' n)) ∧ Q (F_M_draft fl S p1) := ⟨fun o => F_M_draft fl S p1 = o, fun v S' h => ⟨by rw [h], by rw [h]⟩, rfl⟩
  show z_G X zm_M_draft (0, [(0, z_r 78), (1, .inl p1)], [], zW T' G' S n, 0, 0)
  unfold F_M_draft at K
  unfold Sf_M_draft at hs
  refine z_go2 M.1 0 [(.aload_n 0, 1), (.iload_n 1, 1), (.iconst 0, 1), (.iconst 2, 1)] (4, [(0, z_r 78), (1, .inl p1)], [.inl 2, .inl 0, .inl p1, z_r 78], zW T' G' S n, 0, 0) (by decide +kernel) rfl ⟨trivial, trivial, trivial, trivial, trivial⟩ ?_
  refine z_callS M.1 (av := [.inl p1, .inl 0, .inl 2]) (st := [z_r 78]) (by decide +kernel) (c_M_isIn T' G' S n p1 0 2) M.2.1 zl_M_178 zs_M_isIn ⟨by decide, by decide, by decide, by decide⟩ rfl (Nat.le_of_ble_eq_true rfl) (fun v w' hv => ?_)
  obtain ⟨rfl, rfl⟩ := hv
  show z_G X zm_M_draft (7, [(0, z_r 78), (1, .inl p1)], [.inl (F_M_isIn S p1 0 2), z_r 78], zW T' G' S n, 0, 0)
  refine z_if_ne 14 M.1 (off := 7) (by decide +kernel) (by decide) (fun c7 => ?_) (fun c7 => ?_)
  · rw [if_neg c7] at K hs
    refine z_go2 M.1 14 [(.aload_n 0, 1), (.getfield 82, 3), (.iconst (-1), 1)] (19, [(0, z_r 78), (1, .inl p1)], [.inl (-1), .inl (S 78 26), z_r 78], zW T' G' S n, 0, 0) (by decide +kernel) rfl ⟨trivial, rfl, trivial, trivial⟩ ?_
    refine z_icmp_ne 26 M.1 (off := 7) (by decide +kernel) (by decide) (fun c19 => ?_) (fun c19 => ?_)
    · rw [if_neg c19] at K hs
      refine z_go2 M.1 26 [(.iconst 2, 1)] (27, [(0, z_r 78), (1, .inl p1)], [.inl 2, z_r 78], zW T' G' S n, 0, 0) (by decide +kernel) rfl ⟨trivial, trivial⟩ ?_
      exact z_lvs (lv' := [(0, z_r 78), (1, .inl p1)]) [0, 1] rfl (t_M_draft_j27 M fl hfl S p1 2 hQ K hs)
    · rw [if_pos c19] at K hs
      refine z_go2 M.1 22 [(.iconst 0, 1), (.goto 4, 3)] (27, [(0, z_r 78), (1, .inl p1)], [.inl 0, z_r 78], zW T' G' S n, 0, 0) (by decide +kernel) rfl ⟨trivial, trivial, trivial⟩ ?_
      exact z_lvs (lv' := [(0, z_r 78), (1, .inl p1)]) [0, 1] rfl (t_M_draft_j27 M fl hfl S p1 0 hQ K hs)
  · rw [if_pos c7] at K hs
    refine z_go2 M.1 10 [(.iconst 1, 1), (.goto 16, 3)] (27, [(0, z_r 78), (1, .inl p1)], [.inl 1, z_r 78], zW T' G' S n, 0, 0) (by decide +kernel) rfl ⟨trivial, trivial, trivial⟩ ?_
    exact z_lvs (lv' := [(0, z_r 78), (1, .inl p1)]) [0, 1] rfl (t_M_draft_j27 M fl hfl S p1 1 hQ K hs)

-- TrackHouseModel.state
abbrev rm_M_state : Room := zr 1
def F_M_state_j38 (S : (Nat → Nat → Int32)) (x1 : Int32) (s0 : Int32) : (Int32 × (Nat → Nat → Int32)) := (if s0 ≤ 0 then (((S 156 0) ||| ((1 : Int32) <<< (x1 &&& 31))), (z_uS (z_uS S 78 0 s0) 156 0 ((S 156 0) ||| ((1 : Int32) <<< (x1 &&& 31))))) else (0, (z_uS S 78 0 s0)))
theorem t_M_state_j38 {X : z_X} {Post : Option z_V → z_W → Prop} (M : z_M X zm_M_state rm_M_state Post) {T' : Nat → Nat × Nat} {G' : Nat → Nat → Option Nat} {n : Nat} {Q : (Int32 × (Nat → Nat → Int32)) → Prop} (S : (Nat → Nat → Int32)) (x1 : Int32) (s0 : Int32) (hQ : ∀ v S', Q (v, S') → Post (some (.inl v)) (zW T' G' S' n)) (K : Q (F_M_state_j38 S x1 s0)) : z_G X zm_M_state (38, [(0, z_r 78), (1, .inl x1)], [.inl s0, z_r 78], zW T' G' S n, 0, 0) := by
  unfold F_M_state_j38 at K
  refine z_go2 M.1 38 [(.putfield 175, 3), (.aload_n 0, 1), (.getfield 175, 3)] (45, [(0, z_r 78), (1, .inl x1)], [.inl s0], zW T' G' (z_uS S 78 0 s0) n, 0, 0) (by decide +kernel) rfl ⟨⟨rfl, trivial⟩, trivial, rfl, trivial⟩ ?_
  refine z_if_le 50 M.1 (off := 5) (by decide +kernel) (by decide) (fun c45 => ?_) (fun c45 => ?_)
  · rw [if_pos c45] at K
    refine z_go2 M.1 50 [(.aload_n 0, 1), (.getfield 78, 3), (.dup, 1), (.getfield 312, 3), (.iconst 1, 1), (.iload_n 1, 1), (.ishl, 1), (.ior, 1), (.putfield 312, 3), (.aload_n 0, 1), (.getfield 78, 3), (.getfield 312, 3)] (72, [(0, z_r 78), (1, .inl x1)], [.inl ((S 156 0) ||| ((1 : Int32) <<< (x1 &&& 31)))], zW T' G' (z_uS (z_uS S 78 0 s0) 156 0 ((S 156 0) ||| ((1 : Int32) <<< (x1 &&& 31)))) n, 0, 0) (by decide +kernel) rfl ⟨trivial, rfl, rfl, rfl, trivial, trivial, trivial, trivial, ⟨rfl, trivial⟩, trivial, rfl, rfl, trivial⟩ ?_
    exact z_iret M (by decide +kernel) .int rfl rfl (by decide) (by decide) (hQ _ _ K)
  · rw [if_neg c45] at K
    refine z_go2 M.1 48 [(.iconst 0, 1)] (49, [(0, z_r 78), (1, .inl x1)], [.inl 0], zW T' G' (z_uS S 78 0 s0) n, 0, 0) (by decide +kernel) rfl ⟨trivial, trivial⟩ ?_
    exact z_iret M (by decide +kernel) .int rfl rfl (by decide) (by decide) (hQ _ _ K)
def F_M_state_j33 (S : (Nat → Nat → Int32)) (x1 : Int32) : (Int32 × (Nat → Nat → Int32)) := (F_M_state_j38 S x1 2)
theorem t_M_state_j33 {X : z_X} {Post : Option z_V → z_W → Prop} (M : z_M X zm_M_state rm_M_state Post) {T' : Nat → Nat × Nat} {G' : Nat → Nat → Option Nat} {n : Nat} {Q : (Int32 × (Nat → Nat → Int32)) → Prop} (S : (Nat → Nat → Int32)) (x1 : Int32) (hQ : ∀ v S', Q (v, S') → Post (some (.inl v)) (zW T' G' S' n)) (K : Q (F_M_state_j33 S x1)) : z_G X zm_M_state (33, [(0, z_r 78), (1, .inl x1)], [z_r 78], zW T' G' S n, 0, 0) := by
  unfold F_M_state_j33 at K
  refine z_go2 M.1 33 [(.iconst 2, 1), (.goto 4, 3)] (38, [(0, z_r 78), (1, .inl x1)], [.inl 2, z_r 78], zW T' G' S n, 0, 0) (by decide +kernel) rfl ⟨trivial, trivial, trivial⟩ ?_
  exact z_lvs (lv' := [(0, z_r 78), (1, .inl x1)]) [0, 1] rfl (t_M_state_j38 M S x1 2 hQ K)
def F_M_state (S : (Nat → Nat → Int32)) (p1 : Int32) : (Int32 × (Nat → Nat → Int32)) := (if (F_M_isIn S p1 1 5) = 0 then (F_M_state_j38 S p1 1) else (if (S 78 26) = (-1) then (F_M_state_j33 S p1) else (if (F_MF_has 156 S p1) = 0 then (F_M_state_j38 S p1 0) else (F_M_state_j33 S p1))))
theorem c_M_state (T' : Nat → Nat × Nat) (G' : Nat → Nat → Option Nat) (S : (Nat → Nat → Int32)) (n : Nat) (p1 : Int32) : z_Run rm_M_state zm_M_state [z_r 78, .inl p1] (zW T' G' S n) (zq (some (.inl (F_M_state S p1).1)) (zW T' G' (F_M_state S p1).2 n)) := by
  refine z_body (by decide) zf_M_ok (Nat.le_of_ble_eq_true rfl) (fun X M => ?_)
  obtain ⟨Q, hQ, K⟩ : ∃ Q : (Int32 × (Nat → Nat → Int32)) → Prop, (∀ v S', Q (v, S') → zq (some (.inl (F_M_state S p1).1)) (zW T' G' (F_M_state S p1).2 n) (some (.inl v)) (zW T' G' S' n)) ∧ Q (F_M_state S p1) := ⟨fun o => F_M_state S p1 = o, fun v S' h => ⟨by rw [h], by rw [h]⟩, rfl⟩
  show z_G X zm_M_state (0, [(0, z_r 78), (1, .inl p1)], [], zW T' G' S n, 0, 0)
  unfold F_M_state at K
  refine z_go2 M.1 0 [(.aload_n 0, 1), (.iload_n 1, 1), (.iconst 1, 1), (.iconst 5, 1)] (4, [(0, z_r 78), (1, .inl p1)], [.inl 5, .inl 1, .inl p1, z_r 78], zW T' G' S n, 0, 0) (by decide +kernel) rfl ⟨trivial, trivial, trivial, trivial, trivial⟩ ?_
  refine z_callS M.1 (av := [.inl p1, .inl 1, .inl 5]) (st := [z_r 78]) (by decide +kernel) (c_M_isIn T' G' S n p1 1 5) M.2.1 zl_M_178 zs_M_isIn ⟨by decide, by decide, by decide, by decide⟩ rfl (Nat.le_of_ble_eq_true rfl) (fun v w' hv => ?_)
  obtain ⟨rfl, rfl⟩ := hv
  show z_G X zm_M_state (7, [(0, z_r 78), (1, .inl p1)], [.inl (F_M_isIn S p1 1 5), z_r 78], zW T' G' S n, 0, 0)
  refine z_if_ne 14 M.1 (off := 7) (by decide +kernel) (by decide) (fun c7 => ?_) (fun c7 => ?_)
  · rw [if_neg c7] at K
    refine z_go2 M.1 14 [(.aload_n 0, 1), (.getfield 82, 3), (.iconst (-1), 1)] (19, [(0, z_r 78), (1, .inl p1)], [.inl (-1), .inl (S 78 26), z_r 78], zW T' G' S n, 0, 0) (by decide +kernel) rfl ⟨trivial, rfl, trivial, trivial⟩ ?_
    refine z_icmp_eq 33 M.1 (off := 14) (by decide +kernel) (by decide) (fun c19 => ?_) (fun c19 => ?_)
    · rw [if_pos c19] at K
      exact z_lvs (lv' := [(0, z_r 78), (1, .inl p1)]) [0, 1] rfl (t_M_state_j33 M S p1 hQ K)
    · rw [if_neg c19] at K
      refine z_go2 M.1 22 [(.aload_n 0, 1), (.getfield 78, 3), (.iload_n 1, 1)] (27, [(0, z_r 78), (1, .inl p1)], [.inl p1, z_r 156, z_r 78], zW T' G' S n, 0, 0) (by decide +kernel) rfl ⟨trivial, rfl, trivial, trivial⟩ ?_
      refine z_callV M.1 (av := [.inl p1]) (st := [z_r 78]) (a := 156) (ci := 12) (by decide +kernel) (c_MF_has T' G' n 156 (zFo_st T' G' 156 (by decide)) S p1) M.2.1 zl_M_263 zv_MF_has rfl rfl rfl ⟨by decide, by decide, by decide, by decide⟩ rfl (Nat.le_of_ble_eq_true rfl) (fun v w' hv => ?_)
      obtain ⟨rfl, rfl⟩ := hv
      show z_G X zm_M_state (30, [(0, z_r 78), (1, .inl p1)], [.inl (F_MF_has 156 S p1), z_r 78], zW T' G' S n, 0, 0)
      refine z_if_eq 37 M.1 (off := 7) (by decide +kernel) (by decide) (fun c30 => ?_) (fun c30 => ?_)
      · rw [if_pos c30] at K
        refine z_go2 M.1 37 [(.iconst 0, 1)] (38, [(0, z_r 78), (1, .inl p1)], [.inl 0, z_r 78], zW T' G' S n, 0, 0) (by decide +kernel) rfl ⟨trivial, trivial⟩ ?_
        exact z_lvs (lv' := [(0, z_r 78), (1, .inl p1)]) [0, 1] rfl (t_M_state_j38 M S p1 0 hQ K)
      · rw [if_neg c30] at K
        exact z_lvs (lv' := [(0, z_r 78), (1, .inl p1)]) [0, 1] rfl (t_M_state_j33 M S p1 hQ K)
  · rw [if_pos c7] at K
    refine z_go2 M.1 10 [(.iconst 1, 1), (.goto 27, 3)] (38, [(0, z_r 78), (1, .inl p1)], [.inl 1, z_r 78], zW T' G' S n, 0, 0) (by decide +kernel) rfl ⟨trivial, trivial, trivial⟩ ?_
    exact z_lvs (lv' := [(0, z_r 78), (1, .inl p1)]) [0, 1] rfl (t_M_state_j38 M S p1 1 hQ K)

-- TrackHouseModel.drop
abbrev rm_M_drop : Room := zr 2
def F_M_drop_j63 (S : (Nat → Nat → Int32)) (x1 : Int32) (x2 : Int32) (s0 : Int32) : (Int32 × (Nat → Nat → Int32)) := (if s0 ≤ 0 then (match F_MF_drop 156 (z_uS S 78 0 s0) x1 x2 with | (r83, S83) => (r83, S83)) else (0, (z_uS S 78 0 s0)))
def Sf_M_drop_j63 (S : (Nat → Nat → Int32)) (x1 : Int32) (x2 : Int32) (s0 : Int32) : Prop := (if s0 ≤ 0 then (Sf_MF_drop 156 (z_uS S 78 0 s0) x1 x2 ∧ True) else True)
theorem t_M_drop_j63 {X : z_X} {Post : Option z_V → z_W → Prop} (M : z_M X zm_M_drop rm_M_drop Post) {T' : Nat → Nat × Nat} {G' : Nat → Nat → Option Nat} {n : Nat} {Q : (Int32 × (Nat → Nat → Int32)) → Prop} (S : (Nat → Nat → Int32)) (x1 : Int32) (x2 : Int32) (s0 : Int32) (hQ : ∀ v S', Q (v, S') → Post (some (.inl v)) (zW T' G' S' n)) (K : Q (F_M_drop_j63 S x1 x2 s0)) (hs : Sf_M_drop_j63 S x1 x2 s0) : z_G X zm_M_drop (63, [(0, z_r 78), (1, .inl x1), (2, .inl x2)], [.inl s0, z_r 78], zW T' G' S n, 0, 0) := by
  unfold F_M_drop_j63 at K
  unfold Sf_M_drop_j63 at hs
  refine z_go2 M.1 63 [(.putfield 175, 3), (.aload_n 0, 1), (.getfield 175, 3)] (70, [(0, z_r 78), (1, .inl x1), (2, .inl x2)], [.inl s0], zW T' G' (z_uS S 78 0 s0) n, 0, 0) (by decide +kernel) rfl ⟨⟨rfl, trivial⟩, trivial, rfl, trivial⟩ ?_
  refine z_if_le 77 M.1 (off := 7) (by decide +kernel) (by decide) (fun c70 => ?_) (fun c70 => ?_)
  · rw [if_pos c70] at K hs
    refine z_go2 M.1 77 [(.aload_n 0, 1), (.getfield 78, 3), (.iload_n 1, 1), (.iload_n 2, 1)] (83, [(0, z_r 78), (1, .inl x1), (2, .inl x2)], [.inl x2, .inl x1, z_r 156], zW T' G' (z_uS S 78 0 s0) n, 0, 0) (by decide +kernel) rfl ⟨trivial, rfl, trivial, trivial, trivial⟩ ?_
    refine z_callV M.1 (av := [.inl x1, .inl x2]) (st := []) (a := 156) (ci := 12) (by decide +kernel) (c_MF_drop T' G' n 156 (zFo_st T' G' 156 (by decide)) (z_uS S 78 0 s0) x1 x2 hs.1) M.2.1 zl_M_315 zv_MF_drop rfl rfl rfl ⟨by decide, by decide, by decide, by decide⟩ rfl (Nat.le_of_ble_eq_true rfl) (fun v w' hv => ?_)
    replace hs := hs.2
    rcases hF83 : F_MF_drop 156 (z_uS S 78 0 s0) x1 x2 with ⟨r83, S83⟩
    rw [hF83] at K hv
    try dsimp only at K
    obtain ⟨rfl, rfl⟩ := hv
    show z_G X zm_M_drop (86, [(0, z_r 78), (1, .inl x1), (2, .inl x2)], [.inl r83], zW T' G' S83 n, 0, 0)
    exact z_iret M (by decide +kernel) .int rfl rfl (by decide) (by decide) (hQ _ _ K)
  · rw [if_neg c70] at K hs
    refine z_go2 M.1 73 [(.iconst 0, 1), (.goto 12, 3)] (86, [(0, z_r 78), (1, .inl x1), (2, .inl x2)], [.inl 0], zW T' G' (z_uS S 78 0 s0) n, 0, 0) (by decide +kernel) rfl ⟨trivial, trivial, trivial⟩ ?_
    exact z_iret M (by decide +kernel) .int rfl rfl (by decide) (by decide) (hQ _ _ K)
def F_M_drop_j24 (S : (Nat → Nat → Int32)) (x1 : Int32) (x2 : Int32) : (Int32 × (Nat → Nat → Int32)) := (F_M_drop_j63 S x1 x2 1)
def Sf_M_drop_j24 (S : (Nat → Nat → Int32)) (x1 : Int32) (x2 : Int32) : Prop := (Sf_M_drop_j63 S x1 x2 1)
theorem t_M_drop_j24 {X : z_X} {Post : Option z_V → z_W → Prop} (M : z_M X zm_M_drop rm_M_drop Post) {T' : Nat → Nat × Nat} {G' : Nat → Nat → Option Nat} {n : Nat} {Q : (Int32 × (Nat → Nat → Int32)) → Prop} (S : (Nat → Nat → Int32)) (x1 : Int32) (x2 : Int32) (hQ : ∀ v S', Q (v, S') → Post (some (.inl v)) (zW T' G' S' n)) (K : Q (F_M_drop_j24 S x1 x2)) (hs : Sf_M_drop_j24 S x1 x2) : z_G X zm_M_drop (24, [(0, z_r 78), (1, .inl x1), (2, .inl x2)], [z_r 78], zW T' G' S n, 0, 0) := by
  unfold F_M_drop_j24 at K
  unfold Sf_M_drop_j24 at hs
  refine z_go2 M.1 24 [(.iconst 1, 1), (.goto 38, 3)] (63, [(0, z_r 78), (1, .inl x1), (2, .inl x2)], [.inl 1, z_r 78], zW T' G' S n, 0, 0) (by decide +kernel) rfl ⟨trivial, trivial, trivial⟩ ?_
  exact z_lvs (lv' := [(0, z_r 78), (1, .inl x1), (2, .inl x2)]) [0, 1, 2] rfl (t_M_drop_j63 M S x1 x2 1 hQ K hs)
def F_M_drop_j58 (S : (Nat → Nat → Int32)) (x1 : Int32) (x2 : Int32) : (Int32 × (Nat → Nat → Int32)) := (F_M_drop_j63 S x1 x2 2)
def Sf_M_drop_j58 (S : (Nat → Nat → Int32)) (x1 : Int32) (x2 : Int32) : Prop := (Sf_M_drop_j63 S x1 x2 2)
theorem t_M_drop_j58 {X : z_X} {Post : Option z_V → z_W → Prop} (M : z_M X zm_M_drop rm_M_drop Post) {T' : Nat → Nat × Nat} {G' : Nat → Nat → Option Nat} {n : Nat} {Q : (Int32 × (Nat → Nat → Int32)) → Prop} (S : (Nat → Nat → Int32)) (x1 : Int32) (x2 : Int32) (hQ : ∀ v S', Q (v, S') → Post (some (.inl v)) (zW T' G' S' n)) (K : Q (F_M_drop_j58 S x1 x2)) (hs : Sf_M_drop_j58 S x1 x2) : z_G X zm_M_drop (58, [(0, z_r 78), (1, .inl x1), (2, .inl x2)], [z_r 78], zW T' G' S n, 0, 0) := by
  unfold F_M_drop_j58 at K
  unfold Sf_M_drop_j58 at hs
  refine z_go2 M.1 58 [(.iconst 2, 1), (.goto 4, 3)] (63, [(0, z_r 78), (1, .inl x1), (2, .inl x2)], [.inl 2, z_r 78], zW T' G' S n, 0, 0) (by decide +kernel) rfl ⟨trivial, trivial, trivial⟩ ?_
  exact z_lvs (lv' := [(0, z_r 78), (1, .inl x1), (2, .inl x2)]) [0, 1, 2] rfl (t_M_drop_j63 M S x1 x2 2 hQ K hs)
def F_M_drop (S : (Nat → Nat → Int32)) (p1 : Int32) (p2 : Int32) : (Int32 × (Nat → Nat → Int32)) := (if (F_M_isIn S p1 1 5) = 0 then (F_M_drop_j24 S p1 p2) else (if (F_M_isIn S p2 0 5) = 0 then (F_M_drop_j24 S p1 p2) else (if p1 = p2 then (F_M_drop_j24 S p1 p2) else (if (S 78 26) = (-1) then (F_M_drop_j58 S p1 p2) else (if (F_MF_has 156 S p1) = 0 then (F_M_drop_j58 S p1 p2) else (if (F_MF_has 156 S p2) = 0 then (F_M_drop_j58 S p1 p2) else (F_M_drop_j63 S p1 p2 0)))))))
def Sf_M_drop (S : (Nat → Nat → Int32)) (p1 : Int32) (p2 : Int32) : Prop := (if (F_M_isIn S p1 1 5) = 0 then (Sf_M_drop_j24 S p1 p2) else (if (F_M_isIn S p2 0 5) = 0 then (Sf_M_drop_j24 S p1 p2) else (if p1 = p2 then (Sf_M_drop_j24 S p1 p2) else (if (S 78 26) = (-1) then (Sf_M_drop_j58 S p1 p2) else (if (F_MF_has 156 S p1) = 0 then (Sf_M_drop_j58 S p1 p2) else (if (F_MF_has 156 S p2) = 0 then (Sf_M_drop_j58 S p1 p2) else (Sf_M_drop_j63 S p1 p2 0)))))))
theorem c_M_drop (T' : Nat → Nat × Nat) (G' : Nat → Nat → Option Nat) (S : (Nat → Nat → Int32)) (n : Nat) (p1 : Int32) (p2 : Int32) (hs : Sf_M_drop S p1 p2) : z_Run rm_M_drop zm_M_drop [z_r 78, .inl p1, .inl p2] (zW T' G' S n) (zq (some (.inl (F_M_drop S p1 p2).1)) (zW T' G' (F_M_drop S p1 p2).2 n)) := by
  refine z_body (by decide) zf_M_ok (Nat.le_of_ble_eq_true rfl) (fun X M => ?_)
  obtain ⟨Q, hQ, K⟩ : ∃ Q : (Int32 × (Nat → Nat → Int32)) → Prop, (∀ v S', Q (v, S') → zq (some (.inl (F_M_drop S p1 p2).1)) (zW T' G' (F_M_drop S p1 p2).2 n) (some (.inl v)) (zW T' G' S' n)) ∧ Q (F_M_drop S p1 p2) := ⟨fun o => F_M_drop S p1 p2 = o, fun v S' h => ⟨by rw [h], by rw [h]⟩, rfl⟩
  show z_G X zm_M_drop (0, [(0, z_r 78), (1, .inl p1), (2, .inl p2)], [], zW T' G' S n, 0, 0)
  unfold F_M_drop at K
  unfold Sf_M_drop at hs
  refine z_go2 M.1 0 [(.aload_n 0, 1), (.iload_n 1, 1), (.iconst 1, 1), (.iconst 5, 1)] (4, [(0, z_r 78), (1, .inl p1), (2, .inl p2)], [.inl 5, .inl 1, .inl p1, z_r 78], zW T' G' S n, 0, 0) (by decide +kernel) rfl ⟨trivial, trivial, trivial, trivial, trivial⟩ ?_
  refine z_callS M.1 (av := [.inl p1, .inl 1, .inl 5]) (st := [z_r 78]) (by decide +kernel) (c_M_isIn T' G' S n p1 1 5) M.2.1 zl_M_178 zs_M_isIn ⟨by decide, by decide, by decide, by decide⟩ rfl (Nat.le_of_ble_eq_true rfl) (fun v w' hv => ?_)
  obtain ⟨rfl, rfl⟩ := hv
  show z_G X zm_M_drop (7, [(0, z_r 78), (1, .inl p1), (2, .inl p2)], [.inl (F_M_isIn S p1 1 5), z_r 78], zW T' G' S n, 0, 0)
  refine z_if_eq 24 M.1 (off := 17) (by decide +kernel) (by decide) (fun c7 => ?_) (fun c7 => ?_)
  · rw [if_pos c7] at K hs
    exact z_lvs (lv' := [(0, z_r 78), (1, .inl p1), (2, .inl p2)]) [0, 1, 2] rfl (t_M_drop_j24 M S p1 p2 hQ K hs)
  · rw [if_neg c7] at K hs
    refine z_go2 M.1 10 [(.iload_n 2, 1), (.iconst 0, 1), (.iconst 5, 1)] (13, [(0, z_r 78), (1, .inl p1), (2, .inl p2)], [.inl 5, .inl 0, .inl p2, z_r 78], zW T' G' S n, 0, 0) (by decide +kernel) rfl ⟨trivial, trivial, trivial, trivial⟩ ?_
    refine z_callS M.1 (av := [.inl p2, .inl 0, .inl 5]) (st := [z_r 78]) (by decide +kernel) (c_M_isIn T' G' S n p2 0 5) M.2.1 zl_M_178 zs_M_isIn ⟨by decide, by decide, by decide, by decide⟩ rfl (Nat.le_of_ble_eq_true rfl) (fun v w' hv => ?_)
    obtain ⟨rfl, rfl⟩ := hv
    show z_G X zm_M_drop (16, [(0, z_r 78), (1, .inl p1), (2, .inl p2)], [.inl (F_M_isIn S p2 0 5), z_r 78], zW T' G' S n, 0, 0)
    refine z_if_eq 24 M.1 (off := 8) (by decide +kernel) (by decide) (fun c16 => ?_) (fun c16 => ?_)
    · rw [if_pos c16] at K hs
      exact z_lvs (lv' := [(0, z_r 78), (1, .inl p1), (2, .inl p2)]) [0, 1, 2] rfl (t_M_drop_j24 M S p1 p2 hQ K hs)
    · rw [if_neg c16] at K hs
      refine z_go2 M.1 19 [(.iload_n 1, 1), (.iload_n 2, 1)] (21, [(0, z_r 78), (1, .inl p1), (2, .inl p2)], [.inl p2, .inl p1, z_r 78], zW T' G' S n, 0, 0) (by decide +kernel) rfl ⟨trivial, trivial, trivial⟩ ?_
      refine z_icmp_ne 28 M.1 (off := 7) (by decide +kernel) (by decide) (fun c21 => ?_) (fun c21 => ?_)
      · rw [if_neg c21] at K hs
        refine z_go2 M.1 28 [(.aload_n 0, 1), (.getfield 82, 3), (.iconst (-1), 1)] (33, [(0, z_r 78), (1, .inl p1), (2, .inl p2)], [.inl (-1), .inl (S 78 26), z_r 78], zW T' G' S n, 0, 0) (by decide +kernel) rfl ⟨trivial, rfl, trivial, trivial⟩ ?_
        refine z_icmp_eq 58 M.1 (off := 25) (by decide +kernel) (by decide) (fun c33 => ?_) (fun c33 => ?_)
        · rw [if_pos c33] at K hs
          exact z_lvs (lv' := [(0, z_r 78), (1, .inl p1), (2, .inl p2)]) [0, 1, 2] rfl (t_M_drop_j58 M S p1 p2 hQ K hs)
        · rw [if_neg c33] at K hs
          refine z_go2 M.1 36 [(.aload_n 0, 1), (.getfield 78, 3), (.iload_n 1, 1)] (41, [(0, z_r 78), (1, .inl p1), (2, .inl p2)], [.inl p1, z_r 156, z_r 78], zW T' G' S n, 0, 0) (by decide +kernel) rfl ⟨trivial, rfl, trivial, trivial⟩ ?_
          refine z_callV M.1 (av := [.inl p1]) (st := [z_r 78]) (a := 156) (ci := 12) (by decide +kernel) (c_MF_has T' G' n 156 (zFo_st T' G' 156 (by decide)) S p1) M.2.1 zl_M_263 zv_MF_has rfl rfl rfl ⟨by decide, by decide, by decide, by decide⟩ rfl (Nat.le_of_ble_eq_true rfl) (fun v w' hv => ?_)
          obtain ⟨rfl, rfl⟩ := hv
          show z_G X zm_M_drop (44, [(0, z_r 78), (1, .inl p1), (2, .inl p2)], [.inl (F_MF_has 156 S p1), z_r 78], zW T' G' S n, 0, 0)
          refine z_if_eq 58 M.1 (off := 14) (by decide +kernel) (by decide) (fun c44 => ?_) (fun c44 => ?_)
          · rw [if_pos c44] at K hs
            exact z_lvs (lv' := [(0, z_r 78), (1, .inl p1), (2, .inl p2)]) [0, 1, 2] rfl (t_M_drop_j58 M S p1 p2 hQ K hs)
          · rw [if_neg c44] at K hs
            refine z_go2 M.1 47 [(.aload_n 0, 1), (.getfield 78, 3), (.iload_n 2, 1)] (52, [(0, z_r 78), (1, .inl p1), (2, .inl p2)], [.inl p2, z_r 156, z_r 78], zW T' G' S n, 0, 0) (by decide +kernel) rfl ⟨trivial, rfl, trivial, trivial⟩ ?_
            refine z_callV M.1 (av := [.inl p2]) (st := [z_r 78]) (a := 156) (ci := 12) (by decide +kernel) (c_MF_has T' G' n 156 (zFo_st T' G' 156 (by decide)) S p2) M.2.1 zl_M_263 zv_MF_has rfl rfl rfl ⟨by decide, by decide, by decide, by decide⟩ rfl (Nat.le_of_ble_eq_true rfl) (fun v w' hv => ?_)
            obtain ⟨rfl, rfl⟩ := hv
            show z_G X zm_M_drop (55, [(0, z_r 78), (1, .inl p1), (2, .inl p2)], [.inl (F_MF_has 156 S p2), z_r 78], zW T' G' S n, 0, 0)
            refine z_if_ne 62 M.1 (off := 7) (by decide +kernel) (by decide) (fun c55 => ?_) (fun c55 => ?_)
            · rw [if_neg c55] at K hs
              refine z_go2 M.1 62 [(.iconst 0, 1)] (63, [(0, z_r 78), (1, .inl p1), (2, .inl p2)], [.inl 0, z_r 78], zW T' G' S n, 0, 0) (by decide +kernel) rfl ⟨trivial, trivial⟩ ?_
              exact z_lvs (lv' := [(0, z_r 78), (1, .inl p1), (2, .inl p2)]) [0, 1, 2] rfl (t_M_drop_j63 M S p1 p2 0 hQ K hs)
            · rw [if_pos c55] at K hs
              exact z_lvs (lv' := [(0, z_r 78), (1, .inl p1), (2, .inl p2)]) [0, 1, 2] rfl (t_M_drop_j58 M S p1 p2 hQ K hs)
      · rw [if_pos c21] at K hs
        exact z_lvs (lv' := [(0, z_r 78), (1, .inl p1), (2, .inl p2)]) [0, 1, 2] rfl (t_M_drop_j24 M S p1 p2 hQ K hs)

-- TrackHouseModel.transition
abbrev rm_M_transition : Room := zr 1
def F_M_transition_j152 (S : (Nat → Nat → Int32)) (x1 : Int32) (x2 : Int32) (x3 : Int32) (x4 : Int32) (x5 : Int32) (x6 : Int32) (s0 : Int32) : (Int32 × (Nat → Nat → Int32)) := (if s0 ≤ 0 then (z_let (F_MF_add 156 (z_uS S 78 0 s0) x1 x2 x3 x4 x5 x6) (fun S177 => (((S177 156 1) - 1), S177))) else (0, (z_uS S 78 0 s0)))
def Sf_M_transition_j152 (S : (Nat → Nat → Int32)) (x1 : Int32) (x2 : Int32) (x3 : Int32) (x4 : Int32) (x5 : Int32) (x6 : Int32) (s0 : Int32) : Prop := (if s0 ≤ 0 then (Sf_MF_add 156 (z_uS S 78 0 s0) x1 x2 x3 x4 x5 x6 ∧ True) else True)
theorem t_M_transition_j152 {X : z_X} {Post : Option z_V → z_W → Prop} (M : z_M X zm_M_transition rm_M_transition Post) {T' : Nat → Nat × Nat} {G' : Nat → Nat → Option Nat} {n : Nat} {Q : (Int32 × (Nat → Nat → Int32)) → Prop} (S : (Nat → Nat → Int32)) (x1 : Int32) (x2 : Int32) (x3 : Int32) (x4 : Int32) (x5 : Int32) (x6 : Int32) (s0 : Int32) (hQ : ∀ v S', Q (v, S') → Post (some (.inl v)) (zW T' G' S' n)) (K : Q (F_M_transition_j152 S x1 x2 x3 x4 x5 x6 s0)) (hs : Sf_M_transition_j152 S x1 x2 x3 x4 x5 x6 s0) : z_G X zm_M_transition (152, [(0, z_r 78), (1, .inl x1), (2, .inl x2), (3, .inl x3), (4, .inl x4), (5, .inl x5), (6, .inl x6)], [.inl s0, z_r 78], zW T' G' S n, 0, 0) := by
  unfold F_M_transition_j152 at K
  unfold Sf_M_transition_j152 at hs
  refine z_go2 M.1 152 [(.putfield 175, 3), (.aload_n 0, 1), (.getfield 175, 3)] (159, [(0, z_r 78), (1, .inl x1), (2, .inl x2), (3, .inl x3), (4, .inl x4), (5, .inl x5), (6, .inl x6)], [.inl s0], zW T' G' (z_uS S 78 0 s0) n, 0, 0) (by decide +kernel) rfl ⟨⟨rfl, trivial⟩, trivial, rfl, trivial⟩ ?_
  refine z_if_le 164 M.1 (off := 5) (by decide +kernel) (by decide) (fun c159 => ?_) (fun c159 => ?_)
  · rw [if_pos c159] at K hs
    refine z_go2 M.1 164 [(.aload_n 0, 1), (.getfield 78, 3), (.iload_n 1, 1), (.iload_n 2, 1), (.iload_n 3, 1), (.iload 4, 2), (.iload 5, 2), (.iload 6, 2)] (177, [(0, z_r 78), (1, .inl x1), (2, .inl x2), (3, .inl x3), (4, .inl x4), (5, .inl x5), (6, .inl x6)], [.inl x6, .inl x5, .inl x4, .inl x3, .inl x2, .inl x1, z_r 156], zW T' G' (z_uS S 78 0 s0) n, 0, 0) (by decide +kernel) rfl ⟨trivial, rfl, trivial, trivial, trivial, trivial, trivial, trivial, trivial⟩ ?_
    refine z_callV M.1 (av := [.inl x1, .inl x2, .inl x3, .inl x4, .inl x5, .inl x6]) (st := []) (a := 156) (ci := 12) (by decide +kernel) (c_MF_add T' G' n 156 (zFo_st T' G' 156 (by decide)) (z_uS S 78 0 s0) x1 x2 x3 x4 x5 x6 hs.1) M.2.1 zl_M_322 zv_MF_add rfl rfl rfl ⟨by decide, by decide, by decide, by decide⟩ rfl (Nat.le_of_ble_eq_true rfl) (fun v w' hv => ?_)
    replace hs := hs.2
    obtain ⟨S177, hF177⟩ : ∃ y, F_MF_add 156 (z_uS S 78 0 s0) x1 x2 x3 x4 x5 x6 = y := ⟨_, rfl⟩
    rw [hF177] at K hv
    try dsimp only [z_let] at K
    obtain ⟨rfl, rfl⟩ := hv
    show z_G X zm_M_transition (180, [(0, z_r 78), (1, .inl x1), (2, .inl x2), (3, .inl x3), (4, .inl x4), (5, .inl x5), (6, .inl x6)], [], zW T' G' S177 n, 0, 0)
    refine z_go2 M.1 180 [(.aload_n 0, 1), (.getfield 78, 3), (.getfield 319, 3), (.iconst 1, 1), (.isub, 1)] (189, [(0, z_r 78), (1, .inl x1), (2, .inl x2), (3, .inl x3), (4, .inl x4), (5, .inl x5), (6, .inl x6)], [.inl ((S177 156 1) - 1)], zW T' G' S177 n, 0, 0) (by decide +kernel) rfl ⟨trivial, rfl, rfl, trivial, trivial, trivial⟩ ?_
    exact z_iret M (by decide +kernel) .int rfl rfl (by decide) (by decide) (hQ _ _ K)
  · rw [if_neg c159] at K hs
    refine z_go2 M.1 162 [(.iconst 0, 1)] (163, [(0, z_r 78), (1, .inl x1), (2, .inl x2), (3, .inl x3), (4, .inl x4), (5, .inl x5), (6, .inl x6)], [.inl 0], zW T' G' (z_uS S 78 0 s0) n, 0, 0) (by decide +kernel) rfl ⟨trivial, trivial⟩ ?_
    exact z_iret M (by decide +kernel) .int rfl rfl (by decide) (by decide) (hQ _ _ K)
def F_M_transition_j147 (S : (Nat → Nat → Int32)) (x1 : Int32) (x2 : Int32) (x3 : Int32) (x4 : Int32) (x5 : Int32) (x6 : Int32) : (Int32 × (Nat → Nat → Int32)) := (F_M_transition_j152 S x1 x2 x3 x4 x5 x6 2)
def Sf_M_transition_j147 (S : (Nat → Nat → Int32)) (x1 : Int32) (x2 : Int32) (x3 : Int32) (x4 : Int32) (x5 : Int32) (x6 : Int32) : Prop := (Sf_M_transition_j152 S x1 x2 x3 x4 x5 x6 2)
theorem t_M_transition_j147 {X : z_X} {Post : Option z_V → z_W → Prop} (M : z_M X zm_M_transition rm_M_transition Post) {T' : Nat → Nat × Nat} {G' : Nat → Nat → Option Nat} {n : Nat} {Q : (Int32 × (Nat → Nat → Int32)) → Prop} (S : (Nat → Nat → Int32)) (x1 : Int32) (x2 : Int32) (x3 : Int32) (x4 : Int32) (x5 : Int32) (x6 : Int32) (hQ : ∀ v S', Q (v, S') → Post (some (.inl v)) (zW T' G' S' n)) (K : Q (F_M_transition_j147 S x1 x2 x3 x4 x5 x6)) (hs : Sf_M_transition_j147 S x1 x2 x3 x4 x5 x6) : z_G X zm_M_transition (147, [(0, z_r 78), (1, .inl x1), (2, .inl x2), (3, .inl x3), (4, .inl x4), (5, .inl x5), (6, .inl x6)], [z_r 78], zW T' G' S n, 0, 0) := by
  unfold F_M_transition_j147 at K
  unfold Sf_M_transition_j147 at hs
  refine z_go2 M.1 147 [(.iconst 2, 1), (.goto 4, 3)] (152, [(0, z_r 78), (1, .inl x1), (2, .inl x2), (3, .inl x3), (4, .inl x4), (5, .inl x5), (6, .inl x6)], [.inl 2, z_r 78], zW T' G' S n, 0, 0) (by decide +kernel) rfl ⟨trivial, trivial, trivial⟩ ?_
  exact z_lvs (lv' := [(0, z_r 78), (1, .inl x1), (2, .inl x2), (3, .inl x3), (4, .inl x4), (5, .inl x5), (6, .inl x6)]) [0, 1, 2, 3, 4, 5, 6] rfl (t_M_transition_j152 M S x1 x2 x3 x4 x5 x6 2 hQ K hs)
def F_M_transition_j93 (S : (Nat → Nat → Int32)) (x1 : Int32) (x2 : Int32) (x3 : Int32) (x4 : Int32) (x5 : Int32) (x6 : Int32) (s0 : Int32) : (Int32 × (Nat → Nat → Int32)) := (if s0 = 0 then (F_M_transition_j152 S x1 x2 x3 x4 x5 x6 1) else (if (S 78 26) = (-1) then (F_M_transition_j147 S x1 x2 x3 x4 x5 x6) else (if (F_MF_has 156 S x1) = 0 then (F_M_transition_j147 S x1 x2 x3 x4 x5 x6) else (if (F_MF_has 156 S x2) = 0 then (F_M_transition_j147 S x1 x2 x3 x4 x5 x6) else (if (S 156 1) = 8 then (F_M_transition_j147 S x1 x2 x3 x4 x5 x6) else (F_M_transition_j152 S x1 x2 x3 x4 x5 x6 0))))))
def Sf_M_transition_j93 (S : (Nat → Nat → Int32)) (x1 : Int32) (x2 : Int32) (x3 : Int32) (x4 : Int32) (x5 : Int32) (x6 : Int32) (s0 : Int32) : Prop := (if s0 = 0 then (Sf_M_transition_j152 S x1 x2 x3 x4 x5 x6 1) else (if (S 78 26) = (-1) then (Sf_M_transition_j147 S x1 x2 x3 x4 x5 x6) else (if (F_MF_has 156 S x1) = 0 then (Sf_M_transition_j147 S x1 x2 x3 x4 x5 x6) else (if (F_MF_has 156 S x2) = 0 then (Sf_M_transition_j147 S x1 x2 x3 x4 x5 x6) else (if (S 156 1) = 8 then (Sf_M_transition_j147 S x1 x2 x3 x4 x5 x6) else (Sf_M_transition_j152 S x1 x2 x3 x4 x5 x6 0))))))
theorem t_M_transition_j93 {X : z_X} {Post : Option z_V → z_W → Prop} (M : z_M X zm_M_transition rm_M_transition Post) {T' : Nat → Nat × Nat} {G' : Nat → Nat → Option Nat} {n : Nat} {Q : (Int32 × (Nat → Nat → Int32)) → Prop} (S : (Nat → Nat → Int32)) (x1 : Int32) (x2 : Int32) (x3 : Int32) (x4 : Int32) (x5 : Int32) (x6 : Int32) (s0 : Int32) (hQ : ∀ v S', Q (v, S') → Post (some (.inl v)) (zW T' G' S' n)) (K : Q (F_M_transition_j93 S x1 x2 x3 x4 x5 x6 s0)) (hs : Sf_M_transition_j93 S x1 x2 x3 x4 x5 x6 s0) : z_G X zm_M_transition (93, [(0, z_r 78), (1, .inl x1), (2, .inl x2), (3, .inl x3), (4, .inl x4), (5, .inl x5), (6, .inl x6)], [.inl s0], zW T' G' S n, 0, 0) := by
  unfold F_M_transition_j93 at K
  unfold Sf_M_transition_j93 at hs
  refine z_go2 M.1 93 [(.istore 8, 2), (.aload_n 0, 1), (.iload 8, 2)] (98, [(8, .inl s0), (0, z_r 78), (1, .inl x1), (2, .inl x2), (3, .inl x3), (4, .inl x4), (5, .inl x5), (6, .inl x6)], [.inl s0, z_r 78], zW T' G' S n, 0, 0) (by decide +kernel) rfl ⟨trivial, trivial, trivial, trivial⟩ ?_
  refine z_if_ne 105 M.1 (off := 7) (by decide +kernel) (by decide) (fun c98 => ?_) (fun c98 => ?_)
  · rw [if_neg c98] at K hs
    refine z_go2 M.1 105 [(.aload_n 0, 1), (.getfield 82, 3), (.iconst (-1), 1)] (110, [(8, .inl s0), (0, z_r 78), (1, .inl x1), (2, .inl x2), (3, .inl x3), (4, .inl x4), (5, .inl x5), (6, .inl x6)], [.inl (-1), .inl (S 78 26), z_r 78], zW T' G' S n, 0, 0) (by decide +kernel) rfl ⟨trivial, rfl, trivial, trivial⟩ ?_
    refine z_icmp_eq 147 M.1 (off := 37) (by decide +kernel) (by decide) (fun c110 => ?_) (fun c110 => ?_)
    · rw [if_pos c110] at K hs
      exact z_lvs (lv' := [(0, z_r 78), (1, .inl x1), (2, .inl x2), (3, .inl x3), (4, .inl x4), (5, .inl x5), (6, .inl x6)]) [1, 2, 3, 4, 5, 6, 7] rfl (t_M_transition_j147 M S x1 x2 x3 x4 x5 x6 hQ K hs)
    · rw [if_neg c110] at K hs
      refine z_go2 M.1 113 [(.aload_n 0, 1), (.getfield 78, 3), (.iload_n 1, 1)] (118, [(8, .inl s0), (0, z_r 78), (1, .inl x1), (2, .inl x2), (3, .inl x3), (4, .inl x4), (5, .inl x5), (6, .inl x6)], [.inl x1, z_r 156, z_r 78], zW T' G' S n, 0, 0) (by decide +kernel) rfl ⟨trivial, rfl, trivial, trivial⟩ ?_
      refine z_callV M.1 (av := [.inl x1]) (st := [z_r 78]) (a := 156) (ci := 12) (by decide +kernel) (c_MF_has T' G' n 156 (zFo_st T' G' 156 (by decide)) S x1) M.2.1 zl_M_263 zv_MF_has rfl rfl rfl ⟨by decide, by decide, by decide, by decide⟩ rfl (Nat.le_of_ble_eq_true rfl) (fun v w' hv => ?_)
      obtain ⟨rfl, rfl⟩ := hv
      show z_G X zm_M_transition (121, [(8, .inl s0), (0, z_r 78), (1, .inl x1), (2, .inl x2), (3, .inl x3), (4, .inl x4), (5, .inl x5), (6, .inl x6)], [.inl (F_MF_has 156 S x1), z_r 78], zW T' G' S n, 0, 0)
      refine z_if_eq 147 M.1 (off := 26) (by decide +kernel) (by decide) (fun c121 => ?_) (fun c121 => ?_)
      · rw [if_pos c121] at K hs
        exact z_lvs (lv' := [(0, z_r 78), (1, .inl x1), (2, .inl x2), (3, .inl x3), (4, .inl x4), (5, .inl x5), (6, .inl x6)]) [1, 2, 3, 4, 5, 6, 7] rfl (t_M_transition_j147 M S x1 x2 x3 x4 x5 x6 hQ K hs)
      · rw [if_neg c121] at K hs
        refine z_go2 M.1 124 [(.aload_n 0, 1), (.getfield 78, 3), (.iload_n 2, 1)] (129, [(8, .inl s0), (0, z_r 78), (1, .inl x1), (2, .inl x2), (3, .inl x3), (4, .inl x4), (5, .inl x5), (6, .inl x6)], [.inl x2, z_r 156, z_r 78], zW T' G' S n, 0, 0) (by decide +kernel) rfl ⟨trivial, rfl, trivial, trivial⟩ ?_
        refine z_callV M.1 (av := [.inl x2]) (st := [z_r 78]) (a := 156) (ci := 12) (by decide +kernel) (c_MF_has T' G' n 156 (zFo_st T' G' 156 (by decide)) S x2) M.2.1 zl_M_263 zv_MF_has rfl rfl rfl ⟨by decide, by decide, by decide, by decide⟩ rfl (Nat.le_of_ble_eq_true rfl) (fun v w' hv => ?_)
        obtain ⟨rfl, rfl⟩ := hv
        show z_G X zm_M_transition (132, [(8, .inl s0), (0, z_r 78), (1, .inl x1), (2, .inl x2), (3, .inl x3), (4, .inl x4), (5, .inl x5), (6, .inl x6)], [.inl (F_MF_has 156 S x2), z_r 78], zW T' G' S n, 0, 0)
        refine z_if_eq 147 M.1 (off := 15) (by decide +kernel) (by decide) (fun c132 => ?_) (fun c132 => ?_)
        · rw [if_pos c132] at K hs
          exact z_lvs (lv' := [(0, z_r 78), (1, .inl x1), (2, .inl x2), (3, .inl x3), (4, .inl x4), (5, .inl x5), (6, .inl x6)]) [1, 2, 3, 4, 5, 6, 7] rfl (t_M_transition_j147 M S x1 x2 x3 x4 x5 x6 hQ K hs)
        · rw [if_neg c132] at K hs
          refine z_go2 M.1 135 [(.aload_n 0, 1), (.getfield 78, 3), (.getfield 319, 3), (.bipush 8, 2)] (144, [(8, .inl s0), (0, z_r 78), (1, .inl x1), (2, .inl x2), (3, .inl x3), (4, .inl x4), (5, .inl x5), (6, .inl x6)], [.inl 8, .inl (S 156 1), z_r 78], zW T' G' S n, 0, 0) (by decide +kernel) rfl ⟨trivial, rfl, rfl, trivial, trivial⟩ ?_
          refine z_icmp_ne 151 M.1 (off := 7) (by decide +kernel) (by decide) (fun c144 => ?_) (fun c144 => ?_)
          · rw [if_neg c144] at K hs
            refine z_go2 M.1 151 [(.iconst 0, 1)] (152, [(8, .inl s0), (0, z_r 78), (1, .inl x1), (2, .inl x2), (3, .inl x3), (4, .inl x4), (5, .inl x5), (6, .inl x6)], [.inl 0, z_r 78], zW T' G' S n, 0, 0) (by decide +kernel) rfl ⟨trivial, trivial⟩ ?_
            exact z_lvs (lv' := [(0, z_r 78), (1, .inl x1), (2, .inl x2), (3, .inl x3), (4, .inl x4), (5, .inl x5), (6, .inl x6)]) [1, 2, 3, 4, 5, 6, 7] rfl (t_M_transition_j152 M S x1 x2 x3 x4 x5 x6 0 hQ K hs)
          · rw [if_pos c144] at K hs
            exact z_lvs (lv' := [(0, z_r 78), (1, .inl x1), (2, .inl x2), (3, .inl x3), (4, .inl x4), (5, .inl x5), (6, .inl x6)]) [1, 2, 3, 4, 5, 6, 7] rfl (t_M_transition_j147 M S x1 x2 x3 x4 x5 x6 hQ K hs)
  · rw [if_pos c98] at K hs
    refine z_go2 M.1 101 [(.iconst 1, 1), (.goto 50, 3)] (152, [(8, .inl s0), (0, z_r 78), (1, .inl x1), (2, .inl x2), (3, .inl x3), (4, .inl x4), (5, .inl x5), (6, .inl x6)], [.inl 1, z_r 78], zW T' G' S n, 0, 0) (by decide +kernel) rfl ⟨trivial, trivial, trivial⟩ ?_
    exact z_lvs (lv' := [(0, z_r 78), (1, .inl x1), (2, .inl x2), (3, .inl x3), (4, .inl x4), (5, .inl x5), (6, .inl x6)]) [1, 2, 3, 4, 5, 6, 7] rfl (t_M_transition_j152 M S x1 x2 x3 x4 x5 x6 1 hQ K hs)
def F_M_transition_j92 (S : (Nat → Nat → Int32)) (x1 : Int32) (x2 : Int32) (x3 : Int32) (x4 : Int32) (x5 : Int32) (x6 : Int32) : (Int32 × (Nat → Nat → Int32)) := (F_M_transition_j93 S x1 x2 x3 x4 x5 x6 0)
def Sf_M_transition_j92 (S : (Nat → Nat → Int32)) (x1 : Int32) (x2 : Int32) (x3 : Int32) (x4 : Int32) (x5 : Int32) (x6 : Int32) : Prop := (Sf_M_transition_j93 S x1 x2 x3 x4 x5 x6 0)
theorem t_M_transition_j92 {X : z_X} {Post : Option z_V → z_W → Prop} (M : z_M X zm_M_transition rm_M_transition Post) {T' : Nat → Nat × Nat} {G' : Nat → Nat → Option Nat} {n : Nat} {Q : (Int32 × (Nat → Nat → Int32)) → Prop} (S : (Nat → Nat → Int32)) (x1 : Int32) (x2 : Int32) (x3 : Int32) (x4 : Int32) (x5 : Int32) (x6 : Int32) (hQ : ∀ v S', Q (v, S') → Post (some (.inl v)) (zW T' G' S' n)) (K : Q (F_M_transition_j92 S x1 x2 x3 x4 x5 x6)) (hs : Sf_M_transition_j92 S x1 x2 x3 x4 x5 x6) : z_G X zm_M_transition (92, [(0, z_r 78), (1, .inl x1), (2, .inl x2), (3, .inl x3), (4, .inl x4), (5, .inl x5), (6, .inl x6)], [], zW T' G' S n, 0, 0) := by
  unfold F_M_transition_j92 at K
  unfold Sf_M_transition_j92 at hs
  refine z_go2 M.1 92 [(.iconst 0, 1)] (93, [(0, z_r 78), (1, .inl x1), (2, .inl x2), (3, .inl x3), (4, .inl x4), (5, .inl x5), (6, .inl x6)], [.inl 0], zW T' G' S n, 0, 0) (by decide +kernel) rfl ⟨trivial, trivial⟩ ?_
  exact z_lvs (lv' := [(0, z_r 78), (1, .inl x1), (2, .inl x2), (3, .inl x3), (4, .inl x4), (5, .inl x5), (6, .inl x6)]) [0, 1, 2, 3, 4, 5, 6] rfl (t_M_transition_j93 M S x1 x2 x3 x4 x5 x6 0 hQ K hs)
def F_M_transition_j88 (S : (Nat → Nat → Int32)) (x1 : Int32) (x2 : Int32) (x3 : Int32) (x4 : Int32) (x5 : Int32) (x6 : Int32) : (Int32 × (Nat → Nat → Int32)) := (F_M_transition_j93 S x1 x2 x3 x4 x5 x6 1)
def Sf_M_transition_j88 (S : (Nat → Nat → Int32)) (x1 : Int32) (x2 : Int32) (x3 : Int32) (x4 : Int32) (x5 : Int32) (x6 : Int32) : Prop := (Sf_M_transition_j93 S x1 x2 x3 x4 x5 x6 1)
theorem t_M_transition_j88 {X : z_X} {Post : Option z_V → z_W → Prop} (M : z_M X zm_M_transition rm_M_transition Post) {T' : Nat → Nat × Nat} {G' : Nat → Nat → Option Nat} {n : Nat} {Q : (Int32 × (Nat → Nat → Int32)) → Prop} (S : (Nat → Nat → Int32)) (x1 : Int32) (x2 : Int32) (x3 : Int32) (x4 : Int32) (x5 : Int32) (x6 : Int32) (hQ : ∀ v S', Q (v, S') → Post (some (.inl v)) (zW T' G' S' n)) (K : Q (F_M_transition_j88 S x1 x2 x3 x4 x5 x6)) (hs : Sf_M_transition_j88 S x1 x2 x3 x4 x5 x6) : z_G X zm_M_transition (88, [(0, z_r 78), (1, .inl x1), (2, .inl x2), (3, .inl x3), (4, .inl x4), (5, .inl x5), (6, .inl x6)], [], zW T' G' S n, 0, 0) := by
  unfold F_M_transition_j88 at K
  unfold Sf_M_transition_j88 at hs
  refine z_go2 M.1 88 [(.iconst 1, 1), (.goto 4, 3)] (93, [(0, z_r 78), (1, .inl x1), (2, .inl x2), (3, .inl x3), (4, .inl x4), (5, .inl x5), (6, .inl x6)], [.inl 1], zW T' G' S n, 0, 0) (by decide +kernel) rfl ⟨trivial, trivial, trivial⟩ ?_
  exact z_lvs (lv' := [(0, z_r 78), (1, .inl x1), (2, .inl x2), (3, .inl x3), (4, .inl x4), (5, .inl x5), (6, .inl x6)]) [0, 1, 2, 3, 4, 5, 6] rfl (t_M_transition_j93 M S x1 x2 x3 x4 x5 x6 1 hQ K hs)
def F_M_transition_j48 (S : (Nat → Nat → Int32)) (x1 : Int32) (x2 : Int32) (x3 : Int32) (x4 : Int32) (x5 : Int32) (x6 : Int32) (s0 : Int32) : (Int32 × (Nat → Nat → Int32)) := (if s0 = 0 then (F_M_transition_j92 S x1 x2 x3 x4 x5 x6) else (if (F_M_isIn S x5 0 99) = 0 then (F_M_transition_j92 S x1 x2 x3 x4 x5 x6) else (if (F_M_isIn S x6 0 2) = 0 then (F_M_transition_j92 S x1 x2 x3 x4 x5 x6) else (if x6 = 2 then (if x4 = (-1) then (F_M_transition_j92 S x1 x2 x3 x4 x5 x6) else (F_M_transition_j88 S x1 x2 x3 x4 x5 x6)) else (F_M_transition_j88 S x1 x2 x3 x4 x5 x6)))))
def Sf_M_transition_j48 (S : (Nat → Nat → Int32)) (x1 : Int32) (x2 : Int32) (x3 : Int32) (x4 : Int32) (x5 : Int32) (x6 : Int32) (s0 : Int32) : Prop := (if s0 = 0 then (Sf_M_transition_j92 S x1 x2 x3 x4 x5 x6) else (if (F_M_isIn S x5 0 99) = 0 then (Sf_M_transition_j92 S x1 x2 x3 x4 x5 x6) else (if (F_M_isIn S x6 0 2) = 0 then (Sf_M_transition_j92 S x1 x2 x3 x4 x5 x6) else (if x6 = 2 then (if x4 = (-1) then (Sf_M_transition_j92 S x1 x2 x3 x4 x5 x6) else (Sf_M_transition_j88 S x1 x2 x3 x4 x5 x6)) else (Sf_M_transition_j88 S x1 x2 x3 x4 x5 x6)))))
theorem t_M_transition_j48 {X : z_X} {Post : Option z_V → z_W → Prop} (M : z_M X zm_M_transition rm_M_transition Post) {T' : Nat → Nat × Nat} {G' : Nat → Nat → Option Nat} {n : Nat} {Q : (Int32 × (Nat → Nat → Int32)) → Prop} (S : (Nat → Nat → Int32)) (x1 : Int32) (x2 : Int32) (x3 : Int32) (x4 : Int32) (x5 : Int32) (x6 : Int32) (s0 : Int32) (hQ : ∀ v S', Q (v, S') → Post (some (.inl v)) (zW T' G' S' n)) (K : Q (F_M_transition_j48 S x1 x2 x3 x4 x5 x6 s0)) (hs : Sf_M_transition_j48 S x1 x2 x3 x4 x5 x6 s0) : z_G X zm_M_transition (48, [(0, z_r 78), (1, .inl x1), (2, .inl x2), (3, .inl x3), (4, .inl x4), (5, .inl x5), (6, .inl x6)], [.inl s0], zW T' G' S n, 0, 0) := by
  unfold F_M_transition_j48 at K
  unfold Sf_M_transition_j48 at hs
  refine z_go2 M.1 48 [(.istore 7, 2), (.iload 7, 2)] (52, [(7, .inl s0), (0, z_r 78), (1, .inl x1), (2, .inl x2), (3, .inl x3), (4, .inl x4), (5, .inl x5), (6, .inl x6)], [.inl s0], zW T' G' S n, 0, 0) (by decide +kernel) rfl ⟨trivial, trivial, trivial⟩ ?_
  refine z_if_eq 92 M.1 (off := 40) (by decide +kernel) (by decide) (fun c52 => ?_) (fun c52 => ?_)
  · rw [if_pos c52] at K hs
    exact z_lvs (lv' := [(0, z_r 78), (1, .inl x1), (2, .inl x2), (3, .inl x3), (4, .inl x4), (5, .inl x5), (6, .inl x6)]) [1, 2, 3, 4, 5, 6, 7] rfl (t_M_transition_j92 M S x1 x2 x3 x4 x5 x6 hQ K hs)
  · rw [if_neg c52] at K hs
    refine z_go2 M.1 55 [(.iload 5, 2), (.iconst 0, 1), (.bipush 99, 2)] (60, [(7, .inl s0), (0, z_r 78), (1, .inl x1), (2, .inl x2), (3, .inl x3), (4, .inl x4), (5, .inl x5), (6, .inl x6)], [.inl 99, .inl 0, .inl x5], zW T' G' S n, 0, 0) (by decide +kernel) rfl ⟨trivial, trivial, trivial, trivial⟩ ?_
    refine z_callS M.1 (av := [.inl x5, .inl 0, .inl 99]) (st := []) (by decide +kernel) (c_M_isIn T' G' S n x5 0 99) M.2.1 zl_M_178 zs_M_isIn ⟨by decide, by decide, by decide, by decide⟩ rfl (Nat.le_of_ble_eq_true rfl) (fun v w' hv => ?_)
    obtain ⟨rfl, rfl⟩ := hv
    show z_G X zm_M_transition (63, [(7, .inl s0), (0, z_r 78), (1, .inl x1), (2, .inl x2), (3, .inl x3), (4, .inl x4), (5, .inl x5), (6, .inl x6)], [.inl (F_M_isIn S x5 0 99)], zW T' G' S n, 0, 0)
    refine z_if_eq 92 M.1 (off := 29) (by decide +kernel) (by decide) (fun c63 => ?_) (fun c63 => ?_)
    · rw [if_pos c63] at K hs
      exact z_lvs (lv' := [(0, z_r 78), (1, .inl x1), (2, .inl x2), (3, .inl x3), (4, .inl x4), (5, .inl x5), (6, .inl x6)]) [1, 2, 3, 4, 5, 6, 7] rfl (t_M_transition_j92 M S x1 x2 x3 x4 x5 x6 hQ K hs)
    · rw [if_neg c63] at K hs
      refine z_go2 M.1 66 [(.iload 6, 2), (.iconst 0, 1), (.iconst 2, 1)] (70, [(7, .inl s0), (0, z_r 78), (1, .inl x1), (2, .inl x2), (3, .inl x3), (4, .inl x4), (5, .inl x5), (6, .inl x6)], [.inl 2, .inl 0, .inl x6], zW T' G' S n, 0, 0) (by decide +kernel) rfl ⟨trivial, trivial, trivial, trivial⟩ ?_
      refine z_callS M.1 (av := [.inl x6, .inl 0, .inl 2]) (st := []) (by decide +kernel) (c_M_isIn T' G' S n x6 0 2) M.2.1 zl_M_178 zs_M_isIn ⟨by decide, by decide, by decide, by decide⟩ rfl (Nat.le_of_ble_eq_true rfl) (fun v w' hv => ?_)
      obtain ⟨rfl, rfl⟩ := hv
      show z_G X zm_M_transition (73, [(7, .inl s0), (0, z_r 78), (1, .inl x1), (2, .inl x2), (3, .inl x3), (4, .inl x4), (5, .inl x5), (6, .inl x6)], [.inl (F_M_isIn S x6 0 2)], zW T' G' S n, 0, 0)
      refine z_if_eq 92 M.1 (off := 19) (by decide +kernel) (by decide) (fun c73 => ?_) (fun c73 => ?_)
      · rw [if_pos c73] at K hs
        exact z_lvs (lv' := [(0, z_r 78), (1, .inl x1), (2, .inl x2), (3, .inl x3), (4, .inl x4), (5, .inl x5), (6, .inl x6)]) [1, 2, 3, 4, 5, 6, 7] rfl (t_M_transition_j92 M S x1 x2 x3 x4 x5 x6 hQ K hs)
      · rw [if_neg c73] at K hs
        refine z_go2 M.1 76 [(.iload 6, 2), (.iconst 2, 1)] (79, [(7, .inl s0), (0, z_r 78), (1, .inl x1), (2, .inl x2), (3, .inl x3), (4, .inl x4), (5, .inl x5), (6, .inl x6)], [.inl 2, .inl x6], zW T' G' S n, 0, 0) (by decide +kernel) rfl ⟨trivial, trivial, trivial⟩ ?_
        refine z_icmp_ne 88 M.1 (off := 9) (by decide +kernel) (by decide) (fun c79 => ?_) (fun c79 => ?_)
        · rw [if_neg c79] at K hs
          exact z_lvs (lv' := [(0, z_r 78), (1, .inl x1), (2, .inl x2), (3, .inl x3), (4, .inl x4), (5, .inl x5), (6, .inl x6)]) [1, 2, 3, 4, 5, 6, 7] rfl (t_M_transition_j88 M S x1 x2 x3 x4 x5 x6 hQ K hs)
        · rw [if_pos c79] at K hs
          refine z_go2 M.1 82 [(.iload 4, 2), (.iconst (-1), 1)] (85, [(7, .inl s0), (0, z_r 78), (1, .inl x1), (2, .inl x2), (3, .inl x3), (4, .inl x4), (5, .inl x5), (6, .inl x6)], [.inl (-1), .inl x4], zW T' G' S n, 0, 0) (by decide +kernel) rfl ⟨trivial, trivial, trivial⟩ ?_
          refine z_icmp_eq 92 M.1 (off := 7) (by decide +kernel) (by decide) (fun c85 => ?_) (fun c85 => ?_)
          · rw [if_pos c85] at K hs
            exact z_lvs (lv' := [(0, z_r 78), (1, .inl x1), (2, .inl x2), (3, .inl x3), (4, .inl x4), (5, .inl x5), (6, .inl x6)]) [1, 2, 3, 4, 5, 6, 7] rfl (t_M_transition_j92 M S x1 x2 x3 x4 x5 x6 hQ K hs)
          · rw [if_neg c85] at K hs
            exact z_lvs (lv' := [(0, z_r 78), (1, .inl x1), (2, .inl x2), (3, .inl x3), (4, .inl x4), (5, .inl x5), (6, .inl x6)]) [1, 2, 3, 4, 5, 6, 7] rfl (t_M_transition_j88 M S x1 x2 x3 x4 x5 x6 hQ K hs)
def F_M_transition_j47 (S : (Nat → Nat → Int32)) (x1 : Int32) (x2 : Int32) (x3 : Int32) (x4 : Int32) (x5 : Int32) (x6 : Int32) : (Int32 × (Nat → Nat → Int32)) := (F_M_transition_j48 S x1 x2 x3 x4 x5 x6 0)
def Sf_M_transition_j47 (S : (Nat → Nat → Int32)) (x1 : Int32) (x2 : Int32) (x3 : Int32) (x4 : Int32) (x5 : Int32) (x6 : Int32) : Prop := (Sf_M_transition_j48 S x1 x2 x3 x4 x5 x6 0)
theorem t_M_transition_j47 {X : z_X} {Post : Option z_V → z_W → Prop} (M : z_M X zm_M_transition rm_M_transition Post) {T' : Nat → Nat × Nat} {G' : Nat → Nat → Option Nat} {n : Nat} {Q : (Int32 × (Nat → Nat → Int32)) → Prop} (S : (Nat → Nat → Int32)) (x1 : Int32) (x2 : Int32) (x3 : Int32) (x4 : Int32) (x5 : Int32) (x6 : Int32) (hQ : ∀ v S', Q (v, S') → Post (some (.inl v)) (zW T' G' S' n)) (K : Q (F_M_transition_j47 S x1 x2 x3 x4 x5 x6)) (hs : Sf_M_transition_j47 S x1 x2 x3 x4 x5 x6) : z_G X zm_M_transition (47, [(0, z_r 78), (1, .inl x1), (2, .inl x2), (3, .inl x3), (4, .inl x4), (5, .inl x5), (6, .inl x6)], [], zW T' G' S n, 0, 0) := by
  unfold F_M_transition_j47 at K
  unfold Sf_M_transition_j47 at hs
  refine z_go2 M.1 47 [(.iconst 0, 1)] (48, [(0, z_r 78), (1, .inl x1), (2, .inl x2), (3, .inl x3), (4, .inl x4), (5, .inl x5), (6, .inl x6)], [.inl 0], zW T' G' S n, 0, 0) (by decide +kernel) rfl ⟨trivial, trivial⟩ ?_
  exact z_lvs (lv' := [(0, z_r 78), (1, .inl x1), (2, .inl x2), (3, .inl x3), (4, .inl x4), (5, .inl x5), (6, .inl x6)]) [0, 1, 2, 3, 4, 5, 6] rfl (t_M_transition_j48 M S x1 x2 x3 x4 x5 x6 0 hQ K hs)
def F_M_transition (S : (Nat → Nat → Int32)) (p1 : Int32) (p2 : Int32) (p3 : Int32) (p4 : Int32) (p5 : Int32) (p6 : Int32) : (Int32 × (Nat → Nat → Int32)) := (if (F_M_isIn S p1 0 5) = 0 then (F_M_transition_j47 S p1 p2 p3 p4 p5 p6) else (if (F_M_isIn S p2 0 5) = 0 then (F_M_transition_j47 S p1 p2 p3 p4 p5 p6) else (if p1 = p2 then (F_M_transition_j47 S p1 p2 p3 p4 p5 p6) else (if (F_M_isIn S p3 1 15) = 0 then (F_M_transition_j47 S p1 p2 p3 p4 p5 p6) else (if (F_M_isIn S p4 (-1) 2) = 0 then (F_M_transition_j47 S p1 p2 p3 p4 p5 p6) else (F_M_transition_j48 S p1 p2 p3 p4 p5 p6 1))))))
def Sf_M_transition (S : (Nat → Nat → Int32)) (p1 : Int32) (p2 : Int32) (p3 : Int32) (p4 : Int32) (p5 : Int32) (p6 : Int32) : Prop := (if (F_M_isIn S p1 0 5) = 0 then (Sf_M_transition_j47 S p1 p2 p3 p4 p5 p6) else (if (F_M_isIn S p2 0 5) = 0 then (Sf_M_transition_j47 S p1 p2 p3 p4 p5 p6) else (if p1 = p2 then (Sf_M_transition_j47 S p1 p2 p3 p4 p5 p6) else (if (F_M_isIn S p3 1 15) = 0 then (Sf_M_transition_j47 S p1 p2 p3 p4 p5 p6) else (if (F_M_isIn S p4 (-1) 2) = 0 then (Sf_M_transition_j47 S p1 p2 p3 p4 p5 p6) else (Sf_M_transition_j48 S p1 p2 p3 p4 p5 p6 1))))))
theorem c_M_transition (T' : Nat → Nat × Nat) (G' : Nat → Nat → Option Nat) (S : (Nat → Nat → Int32)) (n : Nat) (p1 : Int32) (p2 : Int32) (p3 : Int32) (p4 : Int32) (p5 : Int32) (p6 : Int32) (hs : Sf_M_transition S p1 p2 p3 p4 p5 p6) : z_Run rm_M_transition zm_M_transition [z_r 78, .inl p1, .inl p2, .inl p3, .inl p4, .inl p5, .inl p6] (zW T' G' S n) (zq (some (.inl (F_M_transition S p1 p2 p3 p4 p5 p6).1)) (zW T' G' (F_M_transition S p1 p2 p3 p4 p5 p6).2 n)) := by
  refine z_body (by decide) zf_M_ok (Nat.le_of_ble_eq_true rfl) (fun X M => ?_)
  obtain ⟨Q, hQ, K⟩ : ∃ Q : (Int32 × (Nat → Nat → Int32)) → Prop, (∀ v S', Q (v, S') → zq (some (.inl (F_M_transition S p1 p2 p3 p4 p5 p6).1)) (zW T' G' (F_M_transition S p1 p2 p3 p4 p5 p6).2 n) (some (.inl v)) (zW T' G' S' n)) ∧ Q (F_M_transition S p1 p2 p3 p4 p5 p6) := ⟨fun o => F_M_transition S p1 p2 p3 p4 p5 p6 = o, fun v S' h => ⟨by rw [h], by rw [h]⟩, rfl⟩
  show z_G X zm_M_transition (0, [(0, z_r 78), (1, .inl p1), (2, .inl p2), (3, .inl p3), (4, .inl p4), (5, .inl p5), (6, .inl p6)], [], zW T' G' S n, 0, 0)
  unfold F_M_transition at K
  unfold Sf_M_transition at hs
  refine z_go2 M.1 0 [(.iload_n 1, 1), (.iconst 0, 1), (.iconst 5, 1)] (3, [(0, z_r 78), (1, .inl p1), (2, .inl p2), (3, .inl p3), (4, .inl p4), (5, .inl p5), (6, .inl p6)], [.inl 5, .inl 0, .inl p1], zW T' G' S n, 0, 0) (by decide +kernel) rfl ⟨trivial, trivial, trivial, trivial⟩ ?_
  refine z_callS M.1 (av := [.inl p1, .inl 0, .inl 5]) (st := []) (by decide +kernel) (c_M_isIn T' G' S n p1 0 5) M.2.1 zl_M_178 zs_M_isIn ⟨by decide, by decide, by decide, by decide⟩ rfl (Nat.le_of_ble_eq_true rfl) (fun v w' hv => ?_)
  obtain ⟨rfl, rfl⟩ := hv
  show z_G X zm_M_transition (6, [(0, z_r 78), (1, .inl p1), (2, .inl p2), (3, .inl p3), (4, .inl p4), (5, .inl p5), (6, .inl p6)], [.inl (F_M_isIn S p1 0 5)], zW T' G' S n, 0, 0)
  refine z_if_eq 47 M.1 (off := 41) (by decide +kernel) (by decide) (fun c6 => ?_) (fun c6 => ?_)
  · rw [if_pos c6] at K hs
    exact z_lvs (lv' := [(0, z_r 78), (1, .inl p1), (2, .inl p2), (3, .inl p3), (4, .inl p4), (5, .inl p5), (6, .inl p6)]) [0, 1, 2, 3, 4, 5, 6] rfl (t_M_transition_j47 M S p1 p2 p3 p4 p5 p6 hQ K hs)
  · rw [if_neg c6] at K hs
    refine z_go2 M.1 9 [(.iload_n 2, 1), (.iconst 0, 1), (.iconst 5, 1)] (12, [(0, z_r 78), (1, .inl p1), (2, .inl p2), (3, .inl p3), (4, .inl p4), (5, .inl p5), (6, .inl p6)], [.inl 5, .inl 0, .inl p2], zW T' G' S n, 0, 0) (by decide +kernel) rfl ⟨trivial, trivial, trivial, trivial⟩ ?_
    refine z_callS M.1 (av := [.inl p2, .inl 0, .inl 5]) (st := []) (by decide +kernel) (c_M_isIn T' G' S n p2 0 5) M.2.1 zl_M_178 zs_M_isIn ⟨by decide, by decide, by decide, by decide⟩ rfl (Nat.le_of_ble_eq_true rfl) (fun v w' hv => ?_)
    obtain ⟨rfl, rfl⟩ := hv
    show z_G X zm_M_transition (15, [(0, z_r 78), (1, .inl p1), (2, .inl p2), (3, .inl p3), (4, .inl p4), (5, .inl p5), (6, .inl p6)], [.inl (F_M_isIn S p2 0 5)], zW T' G' S n, 0, 0)
    refine z_if_eq 47 M.1 (off := 32) (by decide +kernel) (by decide) (fun c15 => ?_) (fun c15 => ?_)
    · rw [if_pos c15] at K hs
      exact z_lvs (lv' := [(0, z_r 78), (1, .inl p1), (2, .inl p2), (3, .inl p3), (4, .inl p4), (5, .inl p5), (6, .inl p6)]) [0, 1, 2, 3, 4, 5, 6] rfl (t_M_transition_j47 M S p1 p2 p3 p4 p5 p6 hQ K hs)
    · rw [if_neg c15] at K hs
      refine z_go2 M.1 18 [(.iload_n 1, 1), (.iload_n 2, 1)] (20, [(0, z_r 78), (1, .inl p1), (2, .inl p2), (3, .inl p3), (4, .inl p4), (5, .inl p5), (6, .inl p6)], [.inl p2, .inl p1], zW T' G' S n, 0, 0) (by decide +kernel) rfl ⟨trivial, trivial, trivial⟩ ?_
      refine z_icmp_eq 47 M.1 (off := 27) (by decide +kernel) (by decide) (fun c20 => ?_) (fun c20 => ?_)
      · rw [if_pos c20] at K hs
        exact z_lvs (lv' := [(0, z_r 78), (1, .inl p1), (2, .inl p2), (3, .inl p3), (4, .inl p4), (5, .inl p5), (6, .inl p6)]) [0, 1, 2, 3, 4, 5, 6] rfl (t_M_transition_j47 M S p1 p2 p3 p4 p5 p6 hQ K hs)
      · rw [if_neg c20] at K hs
        refine z_go2 M.1 23 [(.iload_n 3, 1), (.iconst 1, 1), (.bipush 15, 2)] (27, [(0, z_r 78), (1, .inl p1), (2, .inl p2), (3, .inl p3), (4, .inl p4), (5, .inl p5), (6, .inl p6)], [.inl 15, .inl 1, .inl p3], zW T' G' S n, 0, 0) (by decide +kernel) rfl ⟨trivial, trivial, trivial, trivial⟩ ?_
        refine z_callS M.1 (av := [.inl p3, .inl 1, .inl 15]) (st := []) (by decide +kernel) (c_M_isIn T' G' S n p3 1 15) M.2.1 zl_M_178 zs_M_isIn ⟨by decide, by decide, by decide, by decide⟩ rfl (Nat.le_of_ble_eq_true rfl) (fun v w' hv => ?_)
        obtain ⟨rfl, rfl⟩ := hv
        show z_G X zm_M_transition (30, [(0, z_r 78), (1, .inl p1), (2, .inl p2), (3, .inl p3), (4, .inl p4), (5, .inl p5), (6, .inl p6)], [.inl (F_M_isIn S p3 1 15)], zW T' G' S n, 0, 0)
        refine z_if_eq 47 M.1 (off := 17) (by decide +kernel) (by decide) (fun c30 => ?_) (fun c30 => ?_)
        · rw [if_pos c30] at K hs
          exact z_lvs (lv' := [(0, z_r 78), (1, .inl p1), (2, .inl p2), (3, .inl p3), (4, .inl p4), (5, .inl p5), (6, .inl p6)]) [0, 1, 2, 3, 4, 5, 6] rfl (t_M_transition_j47 M S p1 p2 p3 p4 p5 p6 hQ K hs)
        · rw [if_neg c30] at K hs
          refine z_go2 M.1 33 [(.iload 4, 2), (.iconst (-1), 1), (.iconst 2, 1)] (37, [(0, z_r 78), (1, .inl p1), (2, .inl p2), (3, .inl p3), (4, .inl p4), (5, .inl p5), (6, .inl p6)], [.inl 2, .inl (-1), .inl p4], zW T' G' S n, 0, 0) (by decide +kernel) rfl ⟨trivial, trivial, trivial, trivial⟩ ?_
          refine z_callS M.1 (av := [.inl p4, .inl (-1), .inl 2]) (st := []) (by decide +kernel) (c_M_isIn T' G' S n p4 (-1) 2) M.2.1 zl_M_178 zs_M_isIn ⟨by decide, by decide, by decide, by decide⟩ rfl (Nat.le_of_ble_eq_true rfl) (fun v w' hv => ?_)
          obtain ⟨rfl, rfl⟩ := hv
          show z_G X zm_M_transition (40, [(0, z_r 78), (1, .inl p1), (2, .inl p2), (3, .inl p3), (4, .inl p4), (5, .inl p5), (6, .inl p6)], [.inl (F_M_isIn S p4 (-1) 2)], zW T' G' S n, 0, 0)
          refine z_if_eq 47 M.1 (off := 7) (by decide +kernel) (by decide) (fun c40 => ?_) (fun c40 => ?_)
          · rw [if_pos c40] at K hs
            exact z_lvs (lv' := [(0, z_r 78), (1, .inl p1), (2, .inl p2), (3, .inl p3), (4, .inl p4), (5, .inl p5), (6, .inl p6)]) [0, 1, 2, 3, 4, 5, 6] rfl (t_M_transition_j47 M S p1 p2 p3 p4 p5 p6 hQ K hs)
          · rw [if_neg c40] at K hs
            refine z_go2 M.1 43 [(.iconst 1, 1), (.goto 4, 3)] (48, [(0, z_r 78), (1, .inl p1), (2, .inl p2), (3, .inl p3), (4, .inl p4), (5, .inl p5), (6, .inl p6)], [.inl 1], zW T' G' S n, 0, 0) (by decide +kernel) rfl ⟨trivial, trivial, trivial⟩ ?_
            exact z_lvs (lv' := [(0, z_r 78), (1, .inl p1), (2, .inl p2), (3, .inl p3), (4, .inl p4), (5, .inl p5), (6, .inl p6)]) [0, 1, 2, 3, 4, 5, 6] rfl (t_M_transition_j48 M S p1 p2 p3 p4 p5 p6 1 hQ K hs)

-- TrackHouseModel.forget
abbrev rm_M_forget : Room := zr 0
def F_M_forget_j18 (S : (Nat → Nat → Int32)) (s0 : Int32) : (Int32 × (Nat → Nat → Int32)) := (s0, (z_uS S 78 26 (-1)))
def Sf_M_forget_j18 (S : (Nat → Nat → Int32)) (s0 : Int32) : Prop := (narrow .boolean (.int s0) = .int s0 ∧ True)
theorem t_M_forget_j18 {X : z_X} {Post : Option z_V → z_W → Prop} (M : z_M X zm_M_forget rm_M_forget Post) {T' : Nat → Nat × Nat} {G' : Nat → Nat → Option Nat} {n : Nat} {Q : (Int32 × (Nat → Nat → Int32)) → Prop} (S : (Nat → Nat → Int32)) (s0 : Int32) (hQ : ∀ v S', Q (v, S') → Post (some (.inl v)) (zW T' G' S' n)) (K : Q (F_M_forget_j18 S s0)) (hs : Sf_M_forget_j18 S s0) : z_G X zm_M_forget (18, [(0, z_r 78)], [.inl s0], zW T' G' S n, 0, 0) := by
  unfold F_M_forget_j18 at K
  unfold Sf_M_forget_j18 at hs
  refine z_go2 M.1 18 [(.istore_n 1, 1), (.aload_n 0, 1), (.iconst (-1), 1), (.putfield 82, 3), (.iload_n 1, 1)] (25, [(1, .inl s0), (0, z_r 78)], [.inl s0], zW T' G' (z_uS S 78 26 (-1)) n, 0, 0) (by decide +kernel) rfl ⟨trivial, trivial, trivial, ⟨rfl, trivial⟩, trivial, trivial⟩ ?_
  exact z_iret M (by decide +kernel) .boolean rfl hs.1 (by decide) (by decide) (hQ _ _ K)
def F_M_forget (S : (Nat → Nat → Int32)) : (Int32 × (Nat → Nat → Int32)) := (if (S 78 26) = (-1) then (F_M_forget_j18 (z_uS S 78 0 0) 0) else (F_M_forget_j18 (z_uS S 78 0 0) 1))
def Sf_M_forget (S : (Nat → Nat → Int32)) : Prop := (if (S 78 26) = (-1) then (Sf_M_forget_j18 (z_uS S 78 0 0) 0) else (Sf_M_forget_j18 (z_uS S 78 0 0) 1))
theorem c_M_forget (T' : Nat → Nat × Nat) (G' : Nat → Nat → Option Nat) (S : (Nat → Nat → Int32)) (n : Nat) (hs : Sf_M_forget S) : z_Run rm_M_forget zm_M_forget [z_r 78] (zW T' G' S n) (zq (some (.inl (F_M_forget S).1)) (zW T' G' (F_M_forget S).2 n)) := by
  refine z_body (by decide) zf_M_ok (Nat.le_of_ble_eq_true rfl) (fun X M => ?_)
  obtain ⟨Q, hQ, K⟩ : ∃ Q : (Int32 × (Nat → Nat → Int32)) → Prop, (∀ v S', Q (v, S') → zq (some (.inl (F_M_forget S).1)) (zW T' G' (F_M_forget S).2 n) (some (.inl v)) (zW T' G' S' n)) ∧ Q (F_M_forget S) := ⟨fun o => F_M_forget S = o, fun v S' h => ⟨by rw [h], by rw [h]⟩, rfl⟩
  show z_G X zm_M_forget (0, [(0, z_r 78)], [], zW T' G' S n, 0, 0)
  unfold F_M_forget at K
  unfold Sf_M_forget at hs
  refine z_go2 M.1 0 [(.aload_n 0, 1), (.iconst 0, 1), (.putfield 175, 3), (.aload_n 0, 1), (.getfield 82, 3), (.iconst (-1), 1)] (10, [(0, z_r 78)], [.inl (-1), .inl (S 78 26)], zW T' G' (z_uS S 78 0 0) n, 0, 0) (by decide +kernel) rfl ⟨trivial, trivial, ⟨rfl, trivial⟩, trivial, rfl, trivial, trivial⟩ ?_
  refine z_icmp_eq 17 M.1 (off := 7) (by decide +kernel) (by decide) (fun c10 => ?_) (fun c10 => ?_)
  · rw [if_pos c10] at K hs
    refine z_go2 M.1 17 [(.iconst 0, 1)] (18, [(0, z_r 78)], [.inl 0], zW T' G' (z_uS S 78 0 0) n, 0, 0) (by decide +kernel) rfl ⟨trivial, trivial⟩ ?_
    exact z_lvs (lv' := [(0, z_r 78)]) [0] rfl (t_M_forget_j18 M (z_uS S 78 0 0) 0 hQ K hs)
  · rw [if_neg c10] at K hs
    refine z_go2 M.1 13 [(.iconst 1, 1), (.goto 4, 3)] (18, [(0, z_r 78)], [.inl 1], zW T' G' (z_uS S 78 0 0) n, 0, 0) (by decide +kernel) rfl ⟨trivial, trivial, trivial⟩ ?_
    exact z_lvs (lv' := [(0, z_r 78)]) [0] rfl (t_M_forget_j18 M (z_uS S 78 0 0) 1 hQ K hs)

-- TrackHouseModel.ahead
abbrev rm_M_ahead : Room := zr 0
def F_M_ahead_l4_44 (rc : Int32 → Int32 → (Int32)) (S : (Nat → Nat → Int32)) (x1 : Int32) (x2 : Int32) (x3 : Int32) : (Int32) := (rc x2 (x3 + 1))
def Sf_M_ahead_l4_44 (rc : Int32 → Int32 → (Int32)) (sr : Int32 → Int32 → Prop) (S : (Nat → Nat → Int32)) (x1 : Int32) (x2 : Int32) (x3 : Int32) : Prop := (sr x2 (x3 + 1))
theorem t_M_ahead_l4_44 {X : z_X} {Post : Option z_V → z_W → Prop} (M : z_M X zm_M_ahead rm_M_ahead Post) {T' : Nat → Nat × Nat} {G' : Nat → Nat → Option Nat} {n : Nat} {Q : (Int32) → Prop} (rc : Int32 → Int32 → (Int32)) (sr : Int32 → Int32 → Prop) (S : (Nat → Nat → Int32)) (x1 : Int32) (x2 : Int32) (x3 : Int32) (hE : ∀ (y2 : Int32), Q y2 → z_G X zm_M_ahead (52, [(2, .inl y2)], [], zW T' G' S n, 0, 0)) (hC : ∀ (x2 : Int32) (x3 : Int32), Q (rc x2 x3) → sr x2 x3 → z_G X zm_M_ahead (4, [(0, z_r 78), (1, .inl x1), (2, .inl x2), (3, .inl x3)], [], zW T' G' S n, 0, 0)) (K : Q (F_M_ahead_l4_44 rc S x1 x2 x3)) (hs : Sf_M_ahead_l4_44 rc sr S x1 x2 x3) : z_G X zm_M_ahead (44, [(0, z_r 78), (1, .inl x1), (2, .inl x2), (3, .inl x3)], [], zW T' G' S n, 0, 0) := by
  unfold F_M_ahead_l4_44 at K
  unfold Sf_M_ahead_l4_44 at hs
  refine z_go2 M.1 44 [(.iload_n 2, 1), (.istore_n 2, 1), (.iinc 3 1, 3), (.goto (-45), 3)] (4, [(3, .inl (x3 + 1)), (2, .inl x2), (0, z_r 78), (1, .inl x1)], [], zW T' G' S n, 0, 0) (by decide +kernel) rfl ⟨trivial, trivial, trivial, trivial, trivial⟩ ?_
  exact z_lvs (lv' := [(0, z_r 78), (1, .inl x1), (2, .inl x2), (3, .inl (x3 + 1))]) [2, 3, 1, 0] rfl (hC x2 (x3 + 1) K hs)
def F_M_ahead_l4_40 (rc : Int32 → Int32 → (Int32)) (S : (Nat → Nat → Int32)) (x1 : Int32) (x3 : Int32) : (Int32) := (rc x3 (x3 + 1))
def Sf_M_ahead_l4_40 (rc : Int32 → Int32 → (Int32)) (sr : Int32 → Int32 → Prop) (S : (Nat → Nat → Int32)) (x1 : Int32) (x3 : Int32) : Prop := (sr x3 (x3 + 1))
theorem t_M_ahead_l4_40 {X : z_X} {Post : Option z_V → z_W → Prop} (M : z_M X zm_M_ahead rm_M_ahead Post) {T' : Nat → Nat × Nat} {G' : Nat → Nat → Option Nat} {n : Nat} {Q : (Int32) → Prop} (rc : Int32 → Int32 → (Int32)) (sr : Int32 → Int32 → Prop) (S : (Nat → Nat → Int32)) (x1 : Int32) (x3 : Int32) (hE : ∀ (y2 : Int32), Q y2 → z_G X zm_M_ahead (52, [(2, .inl y2)], [], zW T' G' S n, 0, 0)) (hC : ∀ (x2 : Int32) (x3 : Int32), Q (rc x2 x3) → sr x2 x3 → z_G X zm_M_ahead (4, [(0, z_r 78), (1, .inl x1), (2, .inl x2), (3, .inl x3)], [], zW T' G' S n, 0, 0)) (K : Q (F_M_ahead_l4_40 rc S x1 x3)) (hs : Sf_M_ahead_l4_40 rc sr S x1 x3) : z_G X zm_M_ahead (40, [(0, z_r 78), (1, .inl x1), (3, .inl x3)], [], zW T' G' S n, 0, 0) := by
  unfold F_M_ahead_l4_40 at K
  unfold Sf_M_ahead_l4_40 at hs
  refine z_go2 M.1 40 [(.iload_n 3, 1), (.goto 4, 3), (.istore_n 2, 1), (.iinc 3 1, 3), (.goto (-45), 3)] (4, [(3, .inl (x3 + 1)), (2, .inl x3), (0, z_r 78), (1, .inl x1)], [], zW T' G' S n, 0, 0) (by decide +kernel) rfl ⟨trivial, trivial, trivial, trivial, trivial, trivial⟩ ?_
  exact z_lvs (lv' := [(0, z_r 78), (1, .inl x1), (2, .inl x3), (3, .inl (x3 + 1))]) [2, 3, 1, 0] rfl (hC x3 (x3 + 1) K hs)
def F_M_ahead_L4 (S : (Nat → Nat → Int32)) (x1 : Int32) : Nat → Int32 → Int32 → (Int32)
  | 0, x2, x3 => x2
  | f + 1, x2, x3 => (if (S 86 0) ≤ x3 then x2 else (if x3 = x1 then (F_M_ahead_l4_44 (F_M_ahead_L4 S x1 f) S x1 x2 x3) else (if x2 = (-1) then (F_M_ahead_l4_40 (F_M_ahead_L4 S x1 f) S x1 x3) else (if (S 167 (x3).toNatClampNeg) ≤ (S 167 (x2).toNatClampNeg) then (F_M_ahead_l4_44 (F_M_ahead_L4 S x1 f) S x1 x2 x3) else (F_M_ahead_l4_40 (F_M_ahead_L4 S x1 f) S x1 x3)))))
def Sf_M_ahead_L4 (S : (Nat → Nat → Int32)) (x1 : Int32) : Nat → Int32 → Int32 → Prop
  | 0, _, _ => False
  | f + 1, x2, x3 => (if (S 86 0) ≤ x3 then True else (if x3 = x1 then (Sf_M_ahead_l4_44 (F_M_ahead_L4 S x1 f) (Sf_M_ahead_L4 S x1 f) S x1 x2 x3) else (if x2 = (-1) then (Sf_M_ahead_l4_40 (F_M_ahead_L4 S x1 f) (Sf_M_ahead_L4 S x1 f) S x1 x3) else ((vp_in x3 30) ∧ ((vp_in x2 30) ∧ (if (S 167 (x3).toNatClampNeg) ≤ (S 167 (x2).toNatClampNeg) then (Sf_M_ahead_l4_44 (F_M_ahead_L4 S x1 f) (Sf_M_ahead_L4 S x1 f) S x1 x2 x3) else (Sf_M_ahead_l4_40 (F_M_ahead_L4 S x1 f) (Sf_M_ahead_L4 S x1 f) S x1 x3)))))))
theorem t_M_ahead_L4 {X : z_X} {Post : Option z_V → z_W → Prop} (M : z_M X zm_M_ahead rm_M_ahead Post) {T' : Nat → Nat × Nat} {G' : Nat → Nat → Option Nat} {n : Nat} {Q : (Int32) → Prop} (S : (Nat → Nat → Int32))  (x1 : Int32) (hE : ∀ (y2 : Int32), Q y2 → z_G X zm_M_ahead (52, [(2, .inl y2)], [], zW T' G' S n, 0, 0)) (f : Nat) : ∀ (x2 : Int32) (x3 : Int32), Q (F_M_ahead_L4 S x1 f x2 x3) → Sf_M_ahead_L4 S x1 f x2 x3 → z_G X zm_M_ahead (4, [(0, z_r 78), (1, .inl x1), (2, .inl x2), (3, .inl x3)], [], zW T' G' S n, 0, 0) := by
  induction f with
  | zero => intro x2 x3 K hs; exact False.elim hs
  | succ f hC =>
    intro x2 x3 K hs
    rw [F_M_ahead_L4] at K
    rw [Sf_M_ahead_L4] at hs
    refine z_go2 M.1 4 [(.iload_n 3, 1), (.aload_n 0, 1), (.getfield 34, 3), (.getfield 330, 3)] (12, [(0, z_r 78), (1, .inl x1), (2, .inl x2), (3, .inl x3)], [.inl (S 86 0), .inl x3], zW T' G' S n, 0, 0) (by decide +kernel) rfl ⟨trivial, trivial, rfl, rfl, trivial⟩ ?_
    refine z_icmp_ge 52 M.1 (off := 40) (by decide +kernel) (by decide) (fun c12 => ?_) (fun c12 => ?_)
    · rw [if_pos c12] at K hs
      exact z_lvs (lv' := [(2, .inl x2)]) [2] rfl (hE x2 K)
    · rw [if_neg c12] at K hs
      refine z_go2 M.1 15 [(.iload_n 3, 1), (.iload_n 1, 1)] (17, [(0, z_r 78), (1, .inl x1), (2, .inl x2), (3, .inl x3)], [.inl x1, .inl x3], zW T' G' S n, 0, 0) (by decide +kernel) rfl ⟨trivial, trivial, trivial⟩ ?_
      refine z_icmp_eq 44 M.1 (off := 27) (by decide +kernel) (by decide) (fun c17 => ?_) (fun c17 => ?_)
      · rw [if_pos c17] at K hs
        exact z_lvs (lv' := [(0, z_r 78), (1, .inl x1), (2, .inl x2), (3, .inl x3)]) [0, 1, 2, 3] rfl (t_M_ahead_l4_44 M (F_M_ahead_L4 S x1 f) (Sf_M_ahead_L4 S x1 f) S x1 x2 x3 hE hC K hs)
      · rw [if_neg c17] at K hs
        refine z_go2 M.1 20 [(.iload_n 2, 1), (.iconst (-1), 1)] (22, [(0, z_r 78), (1, .inl x1), (2, .inl x2), (3, .inl x3)], [.inl (-1), .inl x2], zW T' G' S n, 0, 0) (by decide +kernel) rfl ⟨trivial, trivial, trivial⟩ ?_
        refine z_icmp_eq 40 M.1 (off := 18) (by decide +kernel) (by decide) (fun c22 => ?_) (fun c22 => ?_)
        · rw [if_pos c22] at K hs
          exact z_lvs (lv' := [(0, z_r 78), (1, .inl x1), (3, .inl x3)]) [0, 1, 3] rfl (t_M_ahead_l4_40 M (F_M_ahead_L4 S x1 f) (Sf_M_ahead_L4 S x1 f) S x1 x3 hE hC K hs)
        · rw [if_neg c22] at K hs
          refine z_go2 M.1 25 [(.aload_n 0, 1), (.getfield 95, 3), (.iload_n 3, 1), (.iaload, 1), (.aload_n 0, 1), (.getfield 95, 3), (.iload_n 2, 1), (.iaload, 1)] (37, [(0, z_r 78), (1, .inl x1), (2, .inl x2), (3, .inl x3)], [.inl (S 167 (x2).toNatClampNeg), .inl (S 167 (x3).toNatClampNeg)], zW T' G' S n, 0, 0) (by decide +kernel) rfl ⟨trivial, rfl, trivial, ⟨rfl, hs.1⟩, trivial, rfl, trivial, ⟨rfl, hs.2.1⟩, trivial⟩ ?_
          replace hs := hs.2.2
          refine z_icmp_le 44 M.1 (off := 7) (by decide +kernel) (by decide) (fun c37 => ?_) (fun c37 => ?_)
          · rw [if_pos c37] at K hs
            exact z_lvs (lv' := [(0, z_r 78), (1, .inl x1), (2, .inl x2), (3, .inl x3)]) [0, 1, 2, 3] rfl (t_M_ahead_l4_44 M (F_M_ahead_L4 S x1 f) (Sf_M_ahead_L4 S x1 f) S x1 x2 x3 hE hC K hs)
          · rw [if_neg c37] at K hs
            exact z_lvs (lv' := [(0, z_r 78), (1, .inl x1), (3, .inl x3)]) [0, 1, 3] rfl (t_M_ahead_l4_40 M (F_M_ahead_L4 S x1 f) (Sf_M_ahead_L4 S x1 f) S x1 x3 hE hC K hs)
def F_M_ahead (S : (Nat → Nat → Int32)) (p1 : Int32) : Int32 := (match F_M_ahead_L4 S p1 1300 (-1) 0 with | y2_4 => y2_4)
def Sf_M_ahead (S : (Nat → Nat → Int32)) (p1 : Int32) : Prop := (Sf_M_ahead_L4 S p1 1300 (-1) 0 ∧ True)
theorem c_M_ahead (T' : Nat → Nat × Nat) (G' : Nat → Nat → Option Nat) (S : (Nat → Nat → Int32)) (n : Nat) (p1 : Int32) (hs : Sf_M_ahead S p1) : z_Run rm_M_ahead zm_M_ahead [z_r 78, .inl p1] (zW T' G' S n) (zq (some (.inl (F_M_ahead S p1))) (zW T' G' S n)) := by
  refine z_body (by decide) zf_M_ok (Nat.le_of_ble_eq_true rfl) (fun X M => ?_)
  obtain ⟨Q, hQ, K⟩ : ∃ Q : Int32 → Prop, (∀ v, Q v → zq (some (.inl (F_M_ahead S p1))) (zW T' G' S n) (some (.inl v)) (zW T' G' S n)) ∧ Q (F_M_ahead S p1) := ⟨fun o => F_M_ahead S p1 = o, fun v h => ⟨by rw [h], rfl⟩, rfl⟩
  show z_G X zm_M_ahead (0, [(0, z_r 78), (1, .inl p1)], [], zW T' G' S n, 0, 0)
  unfold F_M_ahead at K
  unfold Sf_M_ahead at hs
  refine z_go2 M.1 0 [(.iconst (-1), 1), (.istore_n 2, 1), (.iconst 0, 1), (.istore_n 3, 1)] (4, [(3, .inl 0), (2, .inl (-1)), (0, z_r 78), (1, .inl p1)], [], zW T' G' S n, 0, 0) (by decide +kernel) rfl ⟨trivial, trivial, trivial, trivial, trivial⟩ ?_
  refine z_lvs (lv' := [(0, z_r 78), (1, .inl p1), (2, .inl (-1)), (3, .inl 0)]) [2, 3, 1, 0] rfl ?_
  refine t_M_ahead_L4 M (Q := fun o => F_M_ahead_L4 S p1 1300 (-1) 0 = o) S p1 (fun y2_4 hL4 => ?_) 1300 (-1) 0 rfl hs.1
  replace hs := hs.2
  rw [hL4] at K
  try dsimp only at K
  refine z_go2 M.1 52 [(.iload_n 2, 1)] (53, [(2, .inl y2_4)], [.inl y2_4], zW T' G' S n, 0, 0) (by decide +kernel) rfl ⟨trivial, trivial⟩ ?_
  exact z_iret M (by decide +kernel) .int rfl rfl (by decide) (by decide) (hQ _ K)

-- TrackHouseModel.create
abbrev rm_M_create : Room := zr 7
def F_M_create_j170 (fl : Nat → Nat) (S : (Nat → Nat → Int32)) (x6 : Int32) (x7 : Int32) (s0 : Int32) : (Int32 × (Nat → Nat → Int32)) := (if s0 ≤ 0 then (if x7 = (-1) then (x6, (z_uS (z_uS S 78 0 s0) 167 (x6).toNatClampNeg 1024)) else (x6, (z_uS (z_uS S 78 0 s0) 167 (x6).toNatClampNeg ((S 167 (x7).toNatClampNeg) + 1024)))) else (0, (z_uS S 78 0 s0)))
def Sf_M_create_j170 (fl : Nat → Nat) (S : (Nat → Nat → Int32)) (x6 : Int32) (x7 : Int32) (s0 : Int32) : Prop := (if s0 ≤ 0 then (if x7 = (-1) then ((vp_in x6 30) ∧ True) else ((vp_in x7 30) ∧ ((vp_in x6 30) ∧ True))) else True)
theorem t_M_create_j170 {X : z_X} {Post : Option z_V → z_W → Prop} (M : z_M X zm_M_create rm_M_create Post) {T' : Nat → Nat × Nat} {G' : Nat → Nat → Option Nat} {n : Nat} (fl : Nat → Nat) (hfl : zOK T' G' fl n) {Q : (Int32 × (Nat → Nat → Int32)) → Prop} (S : (Nat → Nat → Int32)) (x6 : Int32) (x7 : Int32) (s0 : Int32) (hQ : ∀ v S', Q (v, S') → Post (some (.inl v)) (zW T' G' S' n)) (K : Q (F_M_create_j170 fl S x6 x7 s0)) (hs : Sf_M_create_j170 fl S x6 x7 s0) : z_G X zm_M_create (170, [(0, z_r 78), (6, .inl x6), (7, .inl x7)], [.inl s0, z_r 78], zW T' G' S n, 0, 0) := by
  unfold F_M_create_j170 at K
  unfold Sf_M_create_j170 at hs
  refine z_go2 M.1 170 [(.putfield 175, 3), (.aload_n 0, 1), (.getfield 175, 3)] (177, [(0, z_r 78), (6, .inl x6), (7, .inl x7)], [.inl s0], zW T' G' (z_uS S 78 0 s0) n, 0, 0) (by decide +kernel) rfl ⟨⟨rfl, trivial⟩, trivial, rfl, trivial⟩ ?_
  refine z_if_le 182 M.1 (off := 5) (by decide +kernel) (by decide) (fun c177 => ?_) (fun c177 => ?_)
  · rw [if_pos c177] at K hs
    refine z_go2 M.1 182 [(.aload_n 0, 1), (.getfield 95, 3), (.iload 6, 2), (.iload 7, 2), (.iconst (-1), 1)] (191, [(0, z_r 78), (6, .inl x6), (7, .inl x7)], [.inl (-1), .inl x7, .inl x6, z_r 167], zW T' G' (z_uS S 78 0 s0) n, 0, 0) (by decide +kernel) rfl ⟨trivial, rfl, trivial, trivial, trivial, trivial⟩ ?_
    refine z_icmp_ne 200 M.1 (off := 9) (by decide +kernel) (by decide) (fun c191 => ?_) (fun c191 => ?_)
    · rw [if_neg c191] at K hs
      refine z_go2 M.1 200 [(.aload_n 0, 1), (.getfield 95, 3), (.iload 7, 2), (.iaload, 1), (.sipush 1024, 3), (.iadd, 1), (.iastore, 1), (.iload 6, 2)] (214, [(0, z_r 78), (6, .inl x6), (7, .inl x7)], [.inl x6], zW T' G' (z_uS (z_uS S 78 0 s0) 167 (x6).toNatClampNeg ((S 167 (x7).toNatClampNeg) + 1024)) n, 0, 0) (by decide +kernel) rfl ⟨trivial, rfl, trivial, ⟨rfl, hs.1⟩, trivial, trivial, ⟨rfl, hs.2.1⟩, trivial, trivial⟩ ?_
      replace hs := hs.2.2
      exact z_iret M (by decide +kernel) .int rfl rfl (by decide) (by decide) (hQ _ _ K)
    · rw [if_pos c191] at K hs
      refine z_go2 M.1 194 [(.sipush 1024, 3), (.goto 14, 3), (.iastore, 1), (.iload 6, 2)] (214, [(0, z_r 78), (6, .inl x6), (7, .inl x7)], [.inl x6], zW T' G' (z_uS (z_uS S 78 0 s0) 167 (x6).toNatClampNeg 1024) n, 0, 0) (by decide +kernel) rfl ⟨trivial, trivial, ⟨rfl, hs.1⟩, trivial, trivial⟩ ?_
      replace hs := hs.2
      exact z_iret M (by decide +kernel) .int rfl rfl (by decide) (by decide) (hQ _ _ K)
  · rw [if_neg c177] at K hs
    refine z_go2 M.1 180 [(.iconst 0, 1)] (181, [(0, z_r 78), (6, .inl x6), (7, .inl x7)], [.inl 0], zW T' G' (z_uS S 78 0 s0) n, 0, 0) (by decide +kernel) rfl ⟨trivial, trivial⟩ ?_
    exact z_iret M (by decide +kernel) .int rfl rfl (by decide) (by decide) (hQ _ _ K)
def F_M_create_j105 (fl : Nat → Nat) (S : (Nat → Nat → Int32)) (x1 : Int32) (x2 : Int32) (x3 : Int32) (s0 : Int32) : (Int32 × (Nat → Nat → Int32)) := (if s0 ≤ 0 then (z_let (F_M_make 86 (z_uS S 78 0 s0) 1 x1 (S 86 0) x2 (-1) x3) (fun S151 => (match F_M_stays fl S151 (S 78 2) 1 with | (r159, S159) => (if r159 = 0 then (F_M_create_j170 fl S159 (S 86 0) (F_M_ahead (z_uS S 78 0 s0) (-1)) 2) else (F_M_create_j170 fl S159 (S 86 0) (F_M_ahead (z_uS S 78 0 s0) (-1)) 0))))) else (0, (z_uS S 78 0 s0)))
def Sf_M_create_j105 (fl : Nat → Nat) (S : (Nat → Nat → Int32)) (x1 : Int32) (x2 : Int32) (x3 : Int32) (s0 : Int32) : Prop := (if s0 ≤ 0 then (Sf_M_ahead (z_uS S 78 0 s0) (-1) ∧ (Sf_M_make 86 (z_uS S 78 0 s0) 1 x1 (S 86 0) x2 (-1) x3 ∧ (z_let (F_M_make 86 (z_uS S 78 0 s0) 1 x1 (S 86 0) x2 (-1) x3) (fun S151 => (Sf_M_stays fl S151 (S 78 2) 1 ∧ (match F_M_stays fl S151 (S 78 2) 1 with | (r159, S159) => (if r159 = 0 then (Sf_M_create_j170 fl S159 (S 86 0) (F_M_ahead (z_uS S 78 0 s0) (-1)) 2) else (Sf_M_create_j170 fl S159 (S 86 0) (F_M_ahead (z_uS S 78 0 s0) (-1)) 0)))))))) else True)
theorem t_M_create_j105 {X : z_X} {Post : Option z_V → z_W → Prop} (M : z_M X zm_M_create rm_M_create Post) {T' : Nat → Nat × Nat} {G' : Nat → Nat → Option Nat} {n : Nat} (fl : Nat → Nat) (hfl : zOK T' G' fl n) {Q : (Int32 × (Nat → Nat → Int32)) → Prop} (S : (Nat → Nat → Int32)) (x1 : Int32) (x2 : Int32) (x3 : Int32) (s0 : Int32) (hQ : ∀ v S', Q (v, S') → Post (some (.inl v)) (zW T' G' S' n)) (K : Q (F_M_create_j105 fl S x1 x2 x3 s0)) (hs : Sf_M_create_j105 fl S x1 x2 x3 s0) : z_G X zm_M_create (105, [(0, z_r 78), (1, .inl x1), (2, .inl x2), (3, .inl x3)], [.inl s0, z_r 78], zW T' G' S n, 0, 0) := by
  unfold F_M_create_j105 at K
  unfold Sf_M_create_j105 at hs
  refine z_go2 M.1 105 [(.putfield 175, 3), (.aload_n 0, 1), (.getfield 175, 3)] (112, [(0, z_r 78), (1, .inl x1), (2, .inl x2), (3, .inl x3)], [.inl s0], zW T' G' (z_uS S 78 0 s0) n, 0, 0) (by decide +kernel) rfl ⟨⟨rfl, trivial⟩, trivial, rfl, trivial⟩ ?_
  refine z_if_le 117 M.1 (off := 5) (by decide +kernel) (by decide) (fun c112 => ?_) (fun c112 => ?_)
  · rw [if_pos c112] at K hs
    refine z_go2 M.1 117 [(.aload_n 0, 1), (.getfield 34, 3), (.getfield 330, 3), (.istore 6, 2), (.aload_n 0, 1), (.iconst (-1), 1)] (128, [(6, .inl (S 86 0)), (0, z_r 78), (1, .inl x1), (2, .inl x2), (3, .inl x3)], [.inl (-1), z_r 78], zW T' G' (z_uS S 78 0 s0) n, 0, 0) (by decide +kernel) rfl ⟨trivial, rfl, rfl, trivial, trivial, trivial, trivial⟩ ?_
    refine z_callV M.1 (av := [.inl (-1)]) (st := []) (a := 78) (ci := 14) (by decide +kernel) (c_M_ahead T' G' (z_uS S 78 0 s0) n (-1) hs.1) M.2.1 zl_M_333 zv_M_ahead rfl rfl rfl ⟨by decide, by decide, by decide, by decide⟩ rfl (Nat.le_of_ble_eq_true rfl) (fun v w' hv => ?_)
    obtain ⟨rfl, rfl⟩ := hv
    replace hs := hs.2
    show z_G X zm_M_create (131, [(6, .inl (S 86 0)), (0, z_r 78), (1, .inl x1), (2, .inl x2), (3, .inl x3)], [.inl (F_M_ahead (z_uS S 78 0 s0) (-1))], zW T' G' (z_uS S 78 0 s0) n, 0, 0)
    refine z_go2 M.1 131 [(.istore 7, 2), (.aload_n 0, 1), (.getfield 182, 3), (.istore 8, 2), (.aload_n 0, 1), (.aload_n 0, 1), (.getfield 34, 3), (.iconst 1, 1), (.iload_n 1, 1), (.iload 6, 2), (.iload_n 2, 1), (.iconst (-1), 1), (.iload_n 3, 1)] (151, [(8, .inl (S 78 2)), (7, .inl (F_M_ahead (z_uS S 78 0 s0) (-1))), (6, .inl (S 86 0)), (0, z_r 78), (1, .inl x1), (2, .inl x2), (3, .inl x3)], [.inl x3, .inl (-1), .inl x2, .inl (S 86 0), .inl x1, .inl 1, z_r 86, z_r 78], zW T' G' (z_uS S 78 0 s0) n, 0, 0) (by decide +kernel) rfl ⟨trivial, trivial, rfl, trivial, trivial, trivial, rfl, trivial, trivial, trivial, trivial, trivial, trivial, trivial⟩ ?_
    refine z_callV M.1 (av := [z_r 86, .inl 1, .inl x1, .inl (S 86 0), .inl x2, .inl (-1), .inl x3]) (st := []) (a := 78) (ci := 14) (by decide +kernel) (c_M_make_86 T' G' (z_uS S 78 0 s0) n 1 x1 (S 86 0) x2 (-1) x3 hs.1) M.2.1 zl_M_219 zv_M_make rfl rfl rfl ⟨by decide, by decide, by decide, by decide⟩ rfl (Nat.le_of_ble_eq_true rfl) (fun v w' hv => ?_)
    replace hs := hs.2
    obtain ⟨S151, hF151⟩ : ∃ y, F_M_make 86 (z_uS S 78 0 s0) 1 x1 (S 86 0) x2 (-1) x3 = y := ⟨_, rfl⟩
    rw [hF151] at K hv
    try rw [hF151] at hs
    try dsimp only [z_let] at K hs
    obtain ⟨rfl, rfl⟩ := hv
    show z_G X zm_M_create (154, [(8, .inl (S 78 2)), (7, .inl (F_M_ahead (z_uS S 78 0 s0) (-1))), (6, .inl (S 86 0)), (0, z_r 78), (1, .inl x1), (2, .inl x2), (3, .inl x3)], [], zW T' G' S151 n, 0, 0)
    refine z_go2 M.1 154 [(.aload_n 0, 1), (.aload_n 0, 1), (.iload 8, 2), (.iconst 1, 1)] (159, [(8, .inl (S 78 2)), (7, .inl (F_M_ahead (z_uS S 78 0 s0) (-1))), (6, .inl (S 86 0)), (0, z_r 78), (1, .inl x1), (2, .inl x2), (3, .inl x3)], [.inl 1, .inl (S 78 2), z_r 78, z_r 78], zW T' G' S151 n, 0, 0) (by decide +kernel) rfl ⟨trivial, trivial, trivial, trivial, trivial⟩ ?_
    refine z_callV M.1 (av := [.inl (S 78 2), .inl 1]) (st := [z_r 78]) (a := 78) (ci := 14) (by decide +kernel) (c_M_stays T' G' n fl hfl S151 (S 78 2) 1 hs.1) M.2.1 zl_M_301 zv_M_stays rfl rfl rfl ⟨by decide, by decide, by decide, by decide⟩ rfl (Nat.le_of_ble_eq_true rfl) (fun v w' hv => ?_)
    replace hs := hs.2
    rcases hF159 : F_M_stays fl S151 (S 78 2) 1 with ⟨r159, S159⟩
    rw [hF159] at K hv
    try rw [hF159] at hs
    try dsimp only at K hs
    obtain ⟨rfl, rfl⟩ := hv
    show z_G X zm_M_create (162, [(8, .inl (S 78 2)), (7, .inl (F_M_ahead (z_uS S 78 0 s0) (-1))), (6, .inl (S 86 0)), (0, z_r 78), (1, .inl x1), (2, .inl x2), (3, .inl x3)], [.inl r159, z_r 78], zW T' G' S159 n, 0, 0)
    refine z_if_eq 169 M.1 (off := 7) (by decide +kernel) (by decide) (fun c162 => ?_) (fun c162 => ?_)
    · rw [if_pos c162] at K hs
      refine z_go2 M.1 169 [(.iconst 2, 1)] (170, [(8, .inl (S 78 2)), (7, .inl (F_M_ahead (z_uS S 78 0 s0) (-1))), (6, .inl (S 86 0)), (0, z_r 78), (1, .inl x1), (2, .inl x2), (3, .inl x3)], [.inl 2, z_r 78], zW T' G' S159 n, 0, 0) (by decide +kernel) rfl ⟨trivial, trivial⟩ ?_
      exact z_lvs (lv' := [(0, z_r 78), (6, .inl (S 86 0)), (7, .inl (F_M_ahead (z_uS S 78 0 s0) (-1)))]) [3, 2, 1] rfl (t_M_create_j170 M fl hfl S159 (S 86 0) (F_M_ahead (z_uS S 78 0 s0) (-1)) 2 hQ K hs)
    · rw [if_neg c162] at K hs
      refine z_go2 M.1 165 [(.iconst 0, 1), (.goto 4, 3)] (170, [(8, .inl (S 78 2)), (7, .inl (F_M_ahead (z_uS S 78 0 s0) (-1))), (6, .inl (S 86 0)), (0, z_r 78), (1, .inl x1), (2, .inl x2), (3, .inl x3)], [.inl 0, z_r 78], zW T' G' S159 n, 0, 0) (by decide +kernel) rfl ⟨trivial, trivial, trivial⟩ ?_
      exact z_lvs (lv' := [(0, z_r 78), (6, .inl (S 86 0)), (7, .inl (F_M_ahead (z_uS S 78 0 s0) (-1)))]) [3, 2, 1] rfl (t_M_create_j170 M fl hfl S159 (S 86 0) (F_M_ahead (z_uS S 78 0 s0) (-1)) 0 hQ K hs)
  · rw [if_neg c112] at K hs
    refine z_go2 M.1 115 [(.iconst 0, 1)] (116, [(0, z_r 78), (1, .inl x1), (2, .inl x2), (3, .inl x3)], [.inl 0], zW T' G' (z_uS S 78 0 s0) n, 0, 0) (by decide +kernel) rfl ⟨trivial, trivial⟩ ?_
    exact z_iret M (by decide +kernel) .int rfl rfl (by decide) (by decide) (hQ _ _ K)
def F_M_create_j92 (fl : Nat → Nat) (S : (Nat → Nat → Int32)) (x1 : Int32) (x2 : Int32) (x3 : Int32) (s0 : Int32) : (Int32 × (Nat → Nat → Int32)) := (if s0 = 0 then (F_M_create_j105 fl S x1 x2 x3 2) else (F_M_create_j105 fl S x1 x2 x3 0))
def Sf_M_create_j92 (fl : Nat → Nat) (S : (Nat → Nat → Int32)) (x1 : Int32) (x2 : Int32) (x3 : Int32) (s0 : Int32) : Prop := (if s0 = 0 then (Sf_M_create_j105 fl S x1 x2 x3 2) else (Sf_M_create_j105 fl S x1 x2 x3 0))
theorem t_M_create_j92 {X : z_X} {Post : Option z_V → z_W → Prop} (M : z_M X zm_M_create rm_M_create Post) {T' : Nat → Nat × Nat} {G' : Nat → Nat → Option Nat} {n : Nat} (fl : Nat → Nat) (hfl : zOK T' G' fl n) {Q : (Int32 × (Nat → Nat → Int32)) → Prop} (S : (Nat → Nat → Int32)) (x1 : Int32) (x2 : Int32) (x3 : Int32) (s0 : Int32) (hQ : ∀ v S', Q (v, S') → Post (some (.inl v)) (zW T' G' S' n)) (K : Q (F_M_create_j92 fl S x1 x2 x3 s0)) (hs : Sf_M_create_j92 fl S x1 x2 x3 s0) : z_G X zm_M_create (92, [(0, z_r 78), (1, .inl x1), (2, .inl x2), (3, .inl x3)], [.inl s0], zW T' G' S n, 0, 0) := by
  unfold F_M_create_j92 at K
  unfold Sf_M_create_j92 at hs
  refine z_go2 M.1 92 [(.istore 5, 2), (.aload_n 0, 1), (.iload 5, 2)] (97, [(5, .inl s0), (0, z_r 78), (1, .inl x1), (2, .inl x2), (3, .inl x3)], [.inl s0, z_r 78], zW T' G' S n, 0, 0) (by decide +kernel) rfl ⟨trivial, trivial, trivial, trivial⟩ ?_
  refine z_if_eq 104 M.1 (off := 7) (by decide +kernel) (by decide) (fun c97 => ?_) (fun c97 => ?_)
  · rw [if_pos c97] at K hs
    refine z_go2 M.1 104 [(.iconst 2, 1)] (105, [(5, .inl s0), (0, z_r 78), (1, .inl x1), (2, .inl x2), (3, .inl x3)], [.inl 2, z_r 78], zW T' G' S n, 0, 0) (by decide +kernel) rfl ⟨trivial, trivial⟩ ?_
    exact z_lvs (lv' := [(0, z_r 78), (1, .inl x1), (2, .inl x2), (3, .inl x3)]) [1, 2, 3, 4] rfl (t_M_create_j105 M fl hfl S x1 x2 x3 2 hQ K hs)
  · rw [if_neg c97] at K hs
    refine z_go2 M.1 100 [(.iconst 0, 1), (.goto 4, 3)] (105, [(5, .inl s0), (0, z_r 78), (1, .inl x1), (2, .inl x2), (3, .inl x3)], [.inl 0, z_r 78], zW T' G' S n, 0, 0) (by decide +kernel) rfl ⟨trivial, trivial, trivial⟩ ?_
    exact z_lvs (lv' := [(0, z_r 78), (1, .inl x1), (2, .inl x2), (3, .inl x3)]) [1, 2, 3, 4] rfl (t_M_create_j105 M fl hfl S x1 x2 x3 0 hQ K hs)
def F_M_create_j91 (fl : Nat → Nat) (S : (Nat → Nat → Int32)) (x1 : Int32) (x2 : Int32) (x3 : Int32) : (Int32 × (Nat → Nat → Int32)) := (F_M_create_j92 fl S x1 x2 x3 0)
def Sf_M_create_j91 (fl : Nat → Nat) (S : (Nat → Nat → Int32)) (x1 : Int32) (x2 : Int32) (x3 : Int32) : Prop := (Sf_M_create_j92 fl S x1 x2 x3 0)
theorem t_M_create_j91 {X : z_X} {Post : Option z_V → z_W → Prop} (M : z_M X zm_M_create rm_M_create Post) {T' : Nat → Nat × Nat} {G' : Nat → Nat → Option Nat} {n : Nat} (fl : Nat → Nat) (hfl : zOK T' G' fl n) {Q : (Int32 × (Nat → Nat → Int32)) → Prop} (S : (Nat → Nat → Int32)) (x1 : Int32) (x2 : Int32) (x3 : Int32) (hQ : ∀ v S', Q (v, S') → Post (some (.inl v)) (zW T' G' S' n)) (K : Q (F_M_create_j91 fl S x1 x2 x3)) (hs : Sf_M_create_j91 fl S x1 x2 x3) : z_G X zm_M_create (91, [(0, z_r 78), (1, .inl x1), (2, .inl x2), (3, .inl x3)], [], zW T' G' S n, 0, 0) := by
  unfold F_M_create_j91 at K
  unfold Sf_M_create_j91 at hs
  refine z_go2 M.1 91 [(.iconst 0, 1)] (92, [(0, z_r 78), (1, .inl x1), (2, .inl x2), (3, .inl x3)], [.inl 0], zW T' G' S n, 0, 0) (by decide +kernel) rfl ⟨trivial, trivial⟩ ?_
  exact z_lvs (lv' := [(0, z_r 78), (1, .inl x1), (2, .inl x2), (3, .inl x3)]) [0, 1, 2, 3] rfl (t_M_create_j92 M fl hfl S x1 x2 x3 0 hQ K hs)
def F_M_create_j43 (fl : Nat → Nat) (S : (Nat → Nat → Int32)) (x1 : Int32) (x2 : Int32) (x3 : Int32) (s0 : Int32) : (Int32 × (Nat → Nat → Int32)) := (if s0 ≤ 0 then (if ((F_M_rolesOf 86 (z_uS S 78 0 s0) x1 x2) &&& (S 125 (x2).toNatClampNeg)) = 0 then (F_M_create_j91 fl (z_uS S 78 0 s0) x1 x2 x3) else (if (30 : Int32) ≤ (S 86 0) then (F_M_create_j91 fl (z_uS S 78 0 s0) x1 x2 x3) else (F_M_create_j92 fl (z_uS S 78 0 s0) x1 x2 x3 1))) else (0, (z_uS S 78 0 s0)))
def Sf_M_create_j43 (fl : Nat → Nat) (S : (Nat → Nat → Int32)) (x1 : Int32) (x2 : Int32) (x3 : Int32) (s0 : Int32) : Prop := (if s0 ≤ 0 then (Sf_M_rolesOf 86 (z_uS S 78 0 s0) x1 x2 ∧ ((vp_in x2 3) ∧ (if ((F_M_rolesOf 86 (z_uS S 78 0 s0) x1 x2) &&& (S 125 (x2).toNatClampNeg)) = 0 then (Sf_M_create_j91 fl (z_uS S 78 0 s0) x1 x2 x3) else (if (30 : Int32) ≤ (S 86 0) then (Sf_M_create_j91 fl (z_uS S 78 0 s0) x1 x2 x3) else (Sf_M_create_j92 fl (z_uS S 78 0 s0) x1 x2 x3 1))))) else True)
theorem t_M_create_j43 {X : z_X} {Post : Option z_V → z_W → Prop} (M : z_M X zm_M_create rm_M_create Post) {T' : Nat → Nat × Nat} {G' : Nat → Nat → Option Nat} {n : Nat} (fl : Nat → Nat) (hfl : zOK T' G' fl n) {Q : (Int32 × (Nat → Nat → Int32)) → Prop} (S : (Nat → Nat → Int32)) (x1 : Int32) (x2 : Int32) (x3 : Int32) (s0 : Int32) (hQ : ∀ v S', Q (v, S') → Post (some (.inl v)) (zW T' G' S' n)) (K : Q (F_M_create_j43 fl S x1 x2 x3 s0)) (hs : Sf_M_create_j43 fl S x1 x2 x3 s0) : z_G X zm_M_create (43, [(0, z_r 78), (1, .inl x1), (2, .inl x2), (3, .inl x3)], [.inl s0, z_r 78], zW T' G' S n, 0, 0) := by
  unfold F_M_create_j43 at K
  unfold Sf_M_create_j43 at hs
  refine z_go2 M.1 43 [(.putfield 175, 3), (.aload_n 0, 1), (.getfield 175, 3)] (50, [(0, z_r 78), (1, .inl x1), (2, .inl x2), (3, .inl x3)], [.inl s0], zW T' G' (z_uS S 78 0 s0) n, 0, 0) (by decide +kernel) rfl ⟨⟨rfl, trivial⟩, trivial, rfl, trivial⟩ ?_
  refine z_if_le 55 M.1 (off := 5) (by decide +kernel) (by decide) (fun c50 => ?_) (fun c50 => ?_)
  · rw [if_pos c50] at K hs
    refine z_go2 M.1 55 [(.aload_n 0, 1), (.aload_n 0, 1), (.getfield 34, 3), (.iload_n 1, 1), (.iload_n 2, 1)] (62, [(0, z_r 78), (1, .inl x1), (2, .inl x2), (3, .inl x3)], [.inl x2, .inl x1, z_r 86, z_r 78], zW T' G' (z_uS S 78 0 s0) n, 0, 0) (by decide +kernel) rfl ⟨trivial, trivial, rfl, trivial, trivial, trivial⟩ ?_
    refine z_callV M.1 (av := [z_r 86, .inl x1, .inl x2]) (st := []) (a := 78) (ci := 14) (by decide +kernel) (c_M_rolesOf_86 T' G' (z_uS S 78 0 s0) n x1 x2 hs.1) M.2.1 zl_M_229 zv_M_rolesOf rfl rfl rfl ⟨by decide, by decide, by decide, by decide⟩ rfl (Nat.le_of_ble_eq_true rfl) (fun v w' hv => ?_)
    obtain ⟨rfl, rfl⟩ := hv
    replace hs := hs.2
    show z_G X zm_M_create (65, [(0, z_r 78), (1, .inl x1), (2, .inl x2), (3, .inl x3)], [.inl (F_M_rolesOf 86 (z_uS S 78 0 s0) x1 x2)], zW T' G' (z_uS S 78 0 s0) n, 0, 0)
    refine z_go2 M.1 65 [(.aload_n 0, 1), (.getfield 53, 3), (.iload_n 2, 1), (.iaload, 1), (.iand, 1)] (72, [(0, z_r 78), (1, .inl x1), (2, .inl x2), (3, .inl x3)], [.inl ((F_M_rolesOf 86 (z_uS S 78 0 s0) x1 x2) &&& (S 125 (x2).toNatClampNeg))], zW T' G' (z_uS S 78 0 s0) n, 0, 0) (by decide +kernel) rfl ⟨trivial, rfl, trivial, ⟨rfl, hs.1⟩, trivial, trivial⟩ ?_
    replace hs := hs.2
    refine z_if_eq 91 M.1 (off := 19) (by decide +kernel) (by decide) (fun c72 => ?_) (fun c72 => ?_)
    · rw [if_pos c72] at K hs
      exact z_lvs (lv' := [(0, z_r 78), (1, .inl x1), (2, .inl x2), (3, .inl x3)]) [0, 1, 2, 3] rfl (t_M_create_j91 M fl hfl (z_uS S 78 0 s0) x1 x2 x3 hQ K hs)
    · rw [if_neg c72] at K hs
      refine z_go2 M.1 75 [(.aload_n 0, 1), (.getfield 34, 3), (.getfield 330, 3), (.bipush 30, 2)] (84, [(0, z_r 78), (1, .inl x1), (2, .inl x2), (3, .inl x3)], [.inl 30, .inl (S 86 0)], zW T' G' (z_uS S 78 0 s0) n, 0, 0) (by decide +kernel) rfl ⟨trivial, rfl, rfl, trivial, trivial⟩ ?_
      refine z_icmp_ge 91 M.1 (off := 7) (by decide +kernel) (by decide) (fun c84 => ?_) (fun c84 => ?_)
      · rw [if_pos c84] at K hs
        exact z_lvs (lv' := [(0, z_r 78), (1, .inl x1), (2, .inl x2), (3, .inl x3)]) [0, 1, 2, 3] rfl (t_M_create_j91 M fl hfl (z_uS S 78 0 s0) x1 x2 x3 hQ K hs)
      · rw [if_neg c84] at K hs
        refine z_go2 M.1 87 [(.iconst 1, 1), (.goto 4, 3)] (92, [(0, z_r 78), (1, .inl x1), (2, .inl x2), (3, .inl x3)], [.inl 1], zW T' G' (z_uS S 78 0 s0) n, 0, 0) (by decide +kernel) rfl ⟨trivial, trivial, trivial⟩ ?_
        exact z_lvs (lv' := [(0, z_r 78), (1, .inl x1), (2, .inl x2), (3, .inl x3)]) [0, 1, 2, 3] rfl (t_M_create_j92 M fl hfl (z_uS S 78 0 s0) x1 x2 x3 1 hQ K hs)
  · rw [if_neg c50] at K hs
    refine z_go2 M.1 53 [(.iconst 0, 1)] (54, [(0, z_r 78), (1, .inl x1), (2, .inl x2), (3, .inl x3)], [.inl 0], zW T' G' (z_uS S 78 0 s0) n, 0, 0) (by decide +kernel) rfl ⟨trivial, trivial⟩ ?_
    exact z_iret M (by decide +kernel) .int rfl rfl (by decide) (by decide) (hQ _ _ K)
def F_M_create_j30 (fl : Nat → Nat) (S : (Nat → Nat → Int32)) (x1 : Int32) (x2 : Int32) (x3 : Int32) (s0 : Int32) : (Int32 × (Nat → Nat → Int32)) := (if s0 = 0 then (F_M_create_j43 fl S x1 x2 x3 1) else (F_M_create_j43 fl S x1 x2 x3 0))
def Sf_M_create_j30 (fl : Nat → Nat) (S : (Nat → Nat → Int32)) (x1 : Int32) (x2 : Int32) (x3 : Int32) (s0 : Int32) : Prop := (if s0 = 0 then (Sf_M_create_j43 fl S x1 x2 x3 1) else (Sf_M_create_j43 fl S x1 x2 x3 0))
theorem t_M_create_j30 {X : z_X} {Post : Option z_V → z_W → Prop} (M : z_M X zm_M_create rm_M_create Post) {T' : Nat → Nat × Nat} {G' : Nat → Nat → Option Nat} {n : Nat} (fl : Nat → Nat) (hfl : zOK T' G' fl n) {Q : (Int32 × (Nat → Nat → Int32)) → Prop} (S : (Nat → Nat → Int32)) (x1 : Int32) (x2 : Int32) (x3 : Int32) (s0 : Int32) (hQ : ∀ v S', Q (v, S') → Post (some (.inl v)) (zW T' G' S' n)) (K : Q (F_M_create_j30 fl S x1 x2 x3 s0)) (hs : Sf_M_create_j30 fl S x1 x2 x3 s0) : z_G X zm_M_create (30, [(0, z_r 78), (1, .inl x1), (2, .inl x2), (3, .inl x3)], [.inl s0], zW T' G' S n, 0, 0) := by
  unfold F_M_create_j30 at K
  unfold Sf_M_create_j30 at hs
  refine z_go2 M.1 30 [(.istore 4, 2), (.aload_n 0, 1), (.iload 4, 2)] (35, [(4, .inl s0), (0, z_r 78), (1, .inl x1), (2, .inl x2), (3, .inl x3)], [.inl s0, z_r 78], zW T' G' S n, 0, 0) (by decide +kernel) rfl ⟨trivial, trivial, trivial, trivial⟩ ?_
  refine z_if_eq 42 M.1 (off := 7) (by decide +kernel) (by decide) (fun c35 => ?_) (fun c35 => ?_)
  · rw [if_pos c35] at K hs
    refine z_go2 M.1 42 [(.iconst 1, 1)] (43, [(4, .inl s0), (0, z_r 78), (1, .inl x1), (2, .inl x2), (3, .inl x3)], [.inl 1, z_r 78], zW T' G' S n, 0, 0) (by decide +kernel) rfl ⟨trivial, trivial⟩ ?_
    exact z_lvs (lv' := [(0, z_r 78), (1, .inl x1), (2, .inl x2), (3, .inl x3)]) [1, 2, 3, 4] rfl (t_M_create_j43 M fl hfl S x1 x2 x3 1 hQ K hs)
  · rw [if_neg c35] at K hs
    refine z_go2 M.1 38 [(.iconst 0, 1), (.goto 4, 3)] (43, [(4, .inl s0), (0, z_r 78), (1, .inl x1), (2, .inl x2), (3, .inl x3)], [.inl 0, z_r 78], zW T' G' S n, 0, 0) (by decide +kernel) rfl ⟨trivial, trivial, trivial⟩ ?_
    exact z_lvs (lv' := [(0, z_r 78), (1, .inl x1), (2, .inl x2), (3, .inl x3)]) [1, 2, 3, 4] rfl (t_M_create_j43 M fl hfl S x1 x2 x3 0 hQ K hs)
def F_M_create_j29 (fl : Nat → Nat) (S : (Nat → Nat → Int32)) (x1 : Int32) (x2 : Int32) (x3 : Int32) : (Int32 × (Nat → Nat → Int32)) := (F_M_create_j30 fl S x1 x2 x3 0)
def Sf_M_create_j29 (fl : Nat → Nat) (S : (Nat → Nat → Int32)) (x1 : Int32) (x2 : Int32) (x3 : Int32) : Prop := (Sf_M_create_j30 fl S x1 x2 x3 0)
theorem t_M_create_j29 {X : z_X} {Post : Option z_V → z_W → Prop} (M : z_M X zm_M_create rm_M_create Post) {T' : Nat → Nat × Nat} {G' : Nat → Nat → Option Nat} {n : Nat} (fl : Nat → Nat) (hfl : zOK T' G' fl n) {Q : (Int32 × (Nat → Nat → Int32)) → Prop} (S : (Nat → Nat → Int32)) (x1 : Int32) (x2 : Int32) (x3 : Int32) (hQ : ∀ v S', Q (v, S') → Post (some (.inl v)) (zW T' G' S' n)) (K : Q (F_M_create_j29 fl S x1 x2 x3)) (hs : Sf_M_create_j29 fl S x1 x2 x3) : z_G X zm_M_create (29, [(0, z_r 78), (1, .inl x1), (2, .inl x2), (3, .inl x3)], [], zW T' G' S n, 0, 0) := by
  unfold F_M_create_j29 at K
  unfold Sf_M_create_j29 at hs
  refine z_go2 M.1 29 [(.iconst 0, 1)] (30, [(0, z_r 78), (1, .inl x1), (2, .inl x2), (3, .inl x3)], [.inl 0], zW T' G' S n, 0, 0) (by decide +kernel) rfl ⟨trivial, trivial⟩ ?_
  exact z_lvs (lv' := [(0, z_r 78), (1, .inl x1), (2, .inl x2), (3, .inl x3)]) [0, 1, 2, 3] rfl (t_M_create_j30 M fl hfl S x1 x2 x3 0 hQ K hs)
def F_M_create (fl : Nat → Nat) (S : (Nat → Nat → Int32)) (p1 : Int32) (p2 : Int32) (p3 : Int32) : (Int32 × (Nat → Nat → Int32)) := (if (F_M_isPerson S p1) = 0 then (F_M_create_j29 fl S p1 p2 p3) else (if (F_M_isIn S p2 0 2) = 0 then (F_M_create_j29 fl S p1 p2 p3) else (if (F_M_isIn S p3 0 2) = 0 then (F_M_create_j29 fl S p1 p2 p3) else (F_M_create_j30 fl S p1 p2 p3 1))))
def Sf_M_create (fl : Nat → Nat) (S : (Nat → Nat → Int32)) (p1 : Int32) (p2 : Int32) (p3 : Int32) : Prop := (Sf_M_isPerson S p1 ∧ (if (F_M_isPerson S p1) = 0 then (Sf_M_create_j29 fl S p1 p2 p3) else (if (F_M_isIn S p2 0 2) = 0 then (Sf_M_create_j29 fl S p1 p2 p3) else (if (F_M_isIn S p3 0 2) = 0 then (Sf_M_create_j29 fl S p1 p2 p3) else (Sf_M_create_j30 fl S p1 p2 p3 1)))))
theorem c_M_create (T' : Nat → Nat × Nat) (G' : Nat → Nat → Option Nat) (n : Nat) (fl : Nat → Nat) (hfl : zOK T' G' fl n) (S : (Nat → Nat → Int32)) (p1 : Int32) (p2 : Int32) (p3 : Int32) (hs : Sf_M_create fl S p1 p2 p3) : z_Run rm_M_create zm_M_create [z_r 78, .inl p1, .inl p2, .inl p3] (zW T' G' S n) (zq (some (.inl (F_M_create fl S p1 p2 p3).1)) (zW T' G' (F_M_create fl S p1 p2 p3).2 n)) := by
  refine z_body (by decide) zf_M_ok (Nat.le_of_ble_eq_true rfl) (fun X M => ?_)
  obtain ⟨Q, hQ, K⟩ : ∃ Q : (Int32 × (Nat → Nat → Int32)) → Prop, (∀ v S', Q (v, S') → zq (some (.inl (F_M_create fl S p1 p2 p3).1)) (zW T' G' (F_M_create fl S p1 p2 p3).2 n) (some (.inl v)) (zW T' G' S' n)) ∧ Q (F_M_create fl S p1 p2 p3) := ⟨fun o => F_M_create fl S p1 p2 p3 = o, fun v S' h => ⟨by rw [h], by rw [h]⟩, rfl⟩
  show z_G X zm_M_create (0, [(0, z_r 78), (1, .inl p1), (2, .inl p2), (3, .inl p3)], [], zW T' G' S n, 0, 0)
  unfold F_M_create at K
  unfold Sf_M_create at hs
  refine z_go2 M.1 0 [(.iload_n 1, 1)] (1, [(0, z_r 78), (1, .inl p1), (2, .inl p2), (3, .inl p3)], [.inl p1], zW T' G' S n, 0, 0) (by decide +kernel) rfl ⟨trivial, trivial⟩ ?_
  refine z_callS M.1 (av := [.inl p1]) (st := []) (by decide +kernel) (c_M_isPerson T' G' S n p1 hs.1) M.2.1 zl_M_295 zs_M_isPerson ⟨by decide, by decide, by decide, by decide⟩ rfl (Nat.le_of_ble_eq_true rfl) (fun v w' hv => ?_)
  obtain ⟨rfl, rfl⟩ := hv
  replace hs := hs.2
  show z_G X zm_M_create (4, [(0, z_r 78), (1, .inl p1), (2, .inl p2), (3, .inl p3)], [.inl (F_M_isPerson S p1)], zW T' G' S n, 0, 0)
  refine z_if_eq 29 M.1 (off := 25) (by decide +kernel) (by decide) (fun c4 => ?_) (fun c4 => ?_)
  · rw [if_pos c4] at K hs
    exact z_lvs (lv' := [(0, z_r 78), (1, .inl p1), (2, .inl p2), (3, .inl p3)]) [0, 1, 2, 3] rfl (t_M_create_j29 M fl hfl S p1 p2 p3 hQ K hs)
  · rw [if_neg c4] at K hs
    refine z_go2 M.1 7 [(.iload_n 2, 1), (.iconst 0, 1), (.iconst 2, 1)] (10, [(0, z_r 78), (1, .inl p1), (2, .inl p2), (3, .inl p3)], [.inl 2, .inl 0, .inl p2], zW T' G' S n, 0, 0) (by decide +kernel) rfl ⟨trivial, trivial, trivial, trivial⟩ ?_
    refine z_callS M.1 (av := [.inl p2, .inl 0, .inl 2]) (st := []) (by decide +kernel) (c_M_isIn T' G' S n p2 0 2) M.2.1 zl_M_178 zs_M_isIn ⟨by decide, by decide, by decide, by decide⟩ rfl (Nat.le_of_ble_eq_true rfl) (fun v w' hv => ?_)
    obtain ⟨rfl, rfl⟩ := hv
    show z_G X zm_M_create (13, [(0, z_r 78), (1, .inl p1), (2, .inl p2), (3, .inl p3)], [.inl (F_M_isIn S p2 0 2)], zW T' G' S n, 0, 0)
    refine z_if_eq 29 M.1 (off := 16) (by decide +kernel) (by decide) (fun c13 => ?_) (fun c13 => ?_)
    · rw [if_pos c13] at K hs
      exact z_lvs (lv' := [(0, z_r 78), (1, .inl p1), (2, .inl p2), (3, .inl p3)]) [0, 1, 2, 3] rfl (t_M_create_j29 M fl hfl S p1 p2 p3 hQ K hs)
    · rw [if_neg c13] at K hs
      refine z_go2 M.1 16 [(.iload_n 3, 1), (.iconst 0, 1), (.iconst 2, 1)] (19, [(0, z_r 78), (1, .inl p1), (2, .inl p2), (3, .inl p3)], [.inl 2, .inl 0, .inl p3], zW T' G' S n, 0, 0) (by decide +kernel) rfl ⟨trivial, trivial, trivial, trivial⟩ ?_
      refine z_callS M.1 (av := [.inl p3, .inl 0, .inl 2]) (st := []) (by decide +kernel) (c_M_isIn T' G' S n p3 0 2) M.2.1 zl_M_178 zs_M_isIn ⟨by decide, by decide, by decide, by decide⟩ rfl (Nat.le_of_ble_eq_true rfl) (fun v w' hv => ?_)
      obtain ⟨rfl, rfl⟩ := hv
      show z_G X zm_M_create (22, [(0, z_r 78), (1, .inl p1), (2, .inl p2), (3, .inl p3)], [.inl (F_M_isIn S p3 0 2)], zW T' G' S n, 0, 0)
      refine z_if_eq 29 M.1 (off := 7) (by decide +kernel) (by decide) (fun c22 => ?_) (fun c22 => ?_)
      · rw [if_pos c22] at K hs
        exact z_lvs (lv' := [(0, z_r 78), (1, .inl p1), (2, .inl p2), (3, .inl p3)]) [0, 1, 2, 3] rfl (t_M_create_j29 M fl hfl S p1 p2 p3 hQ K hs)
      · rw [if_neg c22] at K hs
        refine z_go2 M.1 25 [(.iconst 1, 1), (.goto 4, 3)] (30, [(0, z_r 78), (1, .inl p1), (2, .inl p2), (3, .inl p3)], [.inl 1], zW T' G' S n, 0, 0) (by decide +kernel) rfl ⟨trivial, trivial, trivial⟩ ?_
        exact z_lvs (lv' := [(0, z_r 78), (1, .inl p1), (2, .inl p2), (3, .inl p3)]) [0, 1, 2, 3] rfl (t_M_create_j30 M fl hfl S p1 p2 p3 1 hQ K hs)

-- TrackHouseModel.set
abbrev rm_M_set : Room := zr 7
def F_M_set_j169 (fl : Nat → Nat) (S : (Nat → Nat → Int32)) (x6 : Int32) (s0 : Int32) : (Int32 × (Nat → Nat → Int32)) := (if s0 ≤ 0 then (x6, (z_uS S 78 0 s0)) else (0, (z_uS S 78 0 s0)))
theorem t_M_set_j169 {X : z_X} {Post : Option z_V → z_W → Prop} (M : z_M X zm_M_set rm_M_set Post) {T' : Nat → Nat × Nat} {G' : Nat → Nat → Option Nat} {n : Nat} (fl : Nat → Nat) (hfl : zOK T' G' fl n) {Q : (Int32 × (Nat → Nat → Int32)) → Prop} (S : (Nat → Nat → Int32)) (x6 : Int32) (s0 : Int32) (hQ : ∀ v S', Q (v, S') → Post (some (.inl v)) (zW T' G' S' n)) (K : Q (F_M_set_j169 fl S x6 s0)) : z_G X zm_M_set (169, [(0, z_r 78), (6, .inl x6)], [.inl s0, z_r 78], zW T' G' S n, 0, 0) := by
  unfold F_M_set_j169 at K
  refine z_go2 M.1 169 [(.putfield 175, 3), (.aload_n 0, 1), (.getfield 175, 3)] (176, [(0, z_r 78), (6, .inl x6)], [.inl s0], zW T' G' (z_uS S 78 0 s0) n, 0, 0) (by decide +kernel) rfl ⟨⟨rfl, trivial⟩, trivial, rfl, trivial⟩ ?_
  refine z_if_le 183 M.1 (off := 7) (by decide +kernel) (by decide) (fun c176 => ?_) (fun c176 => ?_)
  · rw [if_pos c176] at K
    refine z_go2 M.1 183 [(.iload 6, 2)] (185, [(0, z_r 78), (6, .inl x6)], [.inl x6], zW T' G' (z_uS S 78 0 s0) n, 0, 0) (by decide +kernel) rfl ⟨trivial, trivial⟩ ?_
    exact z_iret M (by decide +kernel) .int rfl rfl (by decide) (by decide) (hQ _ _ K)
  · rw [if_neg c176] at K
    refine z_go2 M.1 179 [(.iconst 0, 1), (.goto 5, 3)] (185, [(0, z_r 78), (6, .inl x6)], [.inl 0], zW T' G' (z_uS S 78 0 s0) n, 0, 0) (by decide +kernel) rfl ⟨trivial, trivial, trivial⟩ ?_
    exact z_iret M (by decide +kernel) .int rfl rfl (by decide) (by decide) (hQ _ _ K)
def F_M_set_j109 (fl : Nat → Nat) (S : (Nat → Nat → Int32)) (x1 : Int32) (x2 : Int32) (x3 : Int32) (x4 : Int32) (s0 : Int32) : (Int32 × (Nat → Nat → Int32)) := (if s0 ≤ 0 then (z_let (F_M_change 86 (z_uS S 78 0 s0) 3 x1 x2 x3 x4) (fun S150 => (match F_M_stays fl S150 (S 78 2) 1 with | (r158, S158) => (if r158 = 0 then (F_M_set_j169 fl S158 (F_M_valueOf 86 (z_uS S 78 0 s0) x2 x3) 3) else (F_M_set_j169 fl S158 (F_M_valueOf 86 (z_uS S 78 0 s0) x2 x3) 0))))) else (0, (z_uS S 78 0 s0)))
def Sf_M_set_j109 (fl : Nat → Nat) (S : (Nat → Nat → Int32)) (x1 : Int32) (x2 : Int32) (x3 : Int32) (x4 : Int32) (s0 : Int32) : Prop := (if s0 ≤ 0 then (Sf_M_valueOf 86 (z_uS S 78 0 s0) x2 x3 ∧ (Sf_M_change 86 (z_uS S 78 0 s0) 3 x1 x2 x3 x4 ∧ (z_let (F_M_change 86 (z_uS S 78 0 s0) 3 x1 x2 x3 x4) (fun S150 => (Sf_M_stays fl S150 (S 78 2) 1 ∧ True))))) else True)
theorem t_M_set_j109 {X : z_X} {Post : Option z_V → z_W → Prop} (M : z_M X zm_M_set rm_M_set Post) {T' : Nat → Nat × Nat} {G' : Nat → Nat → Option Nat} {n : Nat} (fl : Nat → Nat) (hfl : zOK T' G' fl n) {Q : (Int32 × (Nat → Nat → Int32)) → Prop} (S : (Nat → Nat → Int32)) (x1 : Int32) (x2 : Int32) (x3 : Int32) (x4 : Int32) (s0 : Int32) (hQ : ∀ v S', Q (v, S') → Post (some (.inl v)) (zW T' G' S' n)) (K : Q (F_M_set_j109 fl S x1 x2 x3 x4 s0)) (hs : Sf_M_set_j109 fl S x1 x2 x3 x4 s0) : z_G X zm_M_set (109, [(0, z_r 78), (1, .inl x1), (2, .inl x2), (3, .inl x3), (4, .inl x4)], [.inl s0, z_r 78], zW T' G' S n, 0, 0) := by
  unfold F_M_set_j109 at K
  unfold Sf_M_set_j109 at hs
  refine z_go2 M.1 109 [(.putfield 175, 3), (.aload_n 0, 1), (.getfield 175, 3)] (116, [(0, z_r 78), (1, .inl x1), (2, .inl x2), (3, .inl x3), (4, .inl x4)], [.inl s0], zW T' G' (z_uS S 78 0 s0) n, 0, 0) (by decide +kernel) rfl ⟨⟨rfl, trivial⟩, trivial, rfl, trivial⟩ ?_
  refine z_if_le 121 M.1 (off := 5) (by decide +kernel) (by decide) (fun c116 => ?_) (fun c116 => ?_)
  · rw [if_pos c116] at K hs
    refine z_go2 M.1 121 [(.aload_n 0, 1), (.aload_n 0, 1), (.getfield 34, 3), (.iload_n 2, 1), (.iload_n 3, 1)] (128, [(0, z_r 78), (1, .inl x1), (2, .inl x2), (3, .inl x3), (4, .inl x4)], [.inl x3, .inl x2, z_r 86, z_r 78], zW T' G' (z_uS S 78 0 s0) n, 0, 0) (by decide +kernel) rfl ⟨trivial, trivial, rfl, trivial, trivial, trivial⟩ ?_
    refine z_callV M.1 (av := [z_r 86, .inl x2, .inl x3]) (st := []) (a := 78) (ci := 14) (by decide +kernel) (c_M_valueOf_86 T' G' (z_uS S 78 0 s0) n x2 x3 hs.1) M.2.1 zl_M_247 zv_M_valueOf rfl rfl rfl ⟨by decide, by decide, by decide, by decide⟩ rfl (Nat.le_of_ble_eq_true rfl) (fun v w' hv => ?_)
    obtain ⟨rfl, rfl⟩ := hv
    replace hs := hs.2
    show z_G X zm_M_set (131, [(0, z_r 78), (1, .inl x1), (2, .inl x2), (3, .inl x3), (4, .inl x4)], [.inl (F_M_valueOf 86 (z_uS S 78 0 s0) x2 x3)], zW T' G' (z_uS S 78 0 s0) n, 0, 0)
    refine z_go2 M.1 131 [(.istore 6, 2), (.aload_n 0, 1), (.getfield 182, 3), (.istore 7, 2), (.aload_n 0, 1), (.aload_n 0, 1), (.getfield 34, 3), (.iconst 3, 1), (.iload_n 1, 1), (.iload_n 2, 1), (.iload_n 3, 1), (.iload 4, 2)] (150, [(7, .inl (S 78 2)), (6, .inl (F_M_valueOf 86 (z_uS S 78 0 s0) x2 x3)), (0, z_r 78), (1, .inl x1), (2, .inl x2), (3, .inl x3), (4, .inl x4)], [.inl x4, .inl x3, .inl x2, .inl x1, .inl 3, z_r 86, z_r 78], zW T' G' (z_uS S 78 0 s0) n, 0, 0) (by decide +kernel) rfl ⟨trivial, trivial, rfl, trivial, trivial, trivial, rfl, trivial, trivial, trivial, trivial, trivial, trivial⟩ ?_
    refine z_callV M.1 (av := [z_r 86, .inl 3, .inl x1, .inl x2, .inl x3, .inl x4]) (st := []) (a := 78) (ci := 14) (by decide +kernel) (c_M_change_86 T' G' (z_uS S 78 0 s0) n 3 x1 x2 x3 x4 hs.1) M.2.1 zl_M_259 zv_M_change rfl rfl rfl ⟨by decide, by decide, by decide, by decide⟩ rfl (Nat.le_of_ble_eq_true rfl) (fun v w' hv => ?_)
    replace hs := hs.2
    obtain ⟨S150, hF150⟩ : ∃ y, F_M_change 86 (z_uS S 78 0 s0) 3 x1 x2 x3 x4 = y := ⟨_, rfl⟩
    rw [hF150] at K hv
    try rw [hF150] at hs
    try dsimp only [z_let] at K hs
    obtain ⟨rfl, rfl⟩ := hv
    show z_G X zm_M_set (153, [(7, .inl (S 78 2)), (6, .inl (F_M_valueOf 86 (z_uS S 78 0 s0) x2 x3)), (0, z_r 78), (1, .inl x1), (2, .inl x2), (3, .inl x3), (4, .inl x4)], [], zW T' G' S150 n, 0, 0)
    refine z_go2 M.1 153 [(.aload_n 0, 1), (.aload_n 0, 1), (.iload 7, 2), (.iconst 1, 1)] (158, [(7, .inl (S 78 2)), (6, .inl (F_M_valueOf 86 (z_uS S 78 0 s0) x2 x3)), (0, z_r 78), (1, .inl x1), (2, .inl x2), (3, .inl x3), (4, .inl x4)], [.inl 1, .inl (S 78 2), z_r 78, z_r 78], zW T' G' S150 n, 0, 0) (by decide +kernel) rfl ⟨trivial, trivial, trivial, trivial, trivial⟩ ?_
    refine z_callV M.1 (av := [.inl (S 78 2), .inl 1]) (st := [z_r 78]) (a := 78) (ci := 14) (by decide +kernel) (c_M_stays T' G' n fl hfl S150 (S 78 2) 1 hs.1) M.2.1 zl_M_301 zv_M_stays rfl rfl rfl ⟨by decide, by decide, by decide, by decide⟩ rfl (Nat.le_of_ble_eq_true rfl) (fun v w' hv => ?_)
    replace hs := hs.2
    rcases hF158 : F_M_stays fl S150 (S 78 2) 1 with ⟨r158, S158⟩
    rw [hF158] at K hv
    try dsimp only at K
    obtain ⟨rfl, rfl⟩ := hv
    show z_G X zm_M_set (161, [(7, .inl (S 78 2)), (6, .inl (F_M_valueOf 86 (z_uS S 78 0 s0) x2 x3)), (0, z_r 78), (1, .inl x1), (2, .inl x2), (3, .inl x3), (4, .inl x4)], [.inl r158, z_r 78], zW T' G' S158 n, 0, 0)
    refine z_if_eq 168 M.1 (off := 7) (by decide +kernel) (by decide) (fun c161 => ?_) (fun c161 => ?_)
    · rw [if_pos c161] at K
      refine z_go2 M.1 168 [(.iconst 3, 1)] (169, [(7, .inl (S 78 2)), (6, .inl (F_M_valueOf 86 (z_uS S 78 0 s0) x2 x3)), (0, z_r 78), (1, .inl x1), (2, .inl x2), (3, .inl x3), (4, .inl x4)], [.inl 3, z_r 78], zW T' G' S158 n, 0, 0) (by decide +kernel) rfl ⟨trivial, trivial⟩ ?_
      exact z_lvs (lv' := [(0, z_r 78), (6, .inl (F_M_valueOf 86 (z_uS S 78 0 s0) x2 x3))]) [2, 1] rfl (t_M_set_j169 M fl hfl S158 (F_M_valueOf 86 (z_uS S 78 0 s0) x2 x3) 3 hQ K)
    · rw [if_neg c161] at K
      refine z_go2 M.1 164 [(.iconst 0, 1), (.goto 4, 3)] (169, [(7, .inl (S 78 2)), (6, .inl (F_M_valueOf 86 (z_uS S 78 0 s0) x2 x3)), (0, z_r 78), (1, .inl x1), (2, .inl x2), (3, .inl x3), (4, .inl x4)], [.inl 0, z_r 78], zW T' G' S158 n, 0, 0) (by decide +kernel) rfl ⟨trivial, trivial, trivial⟩ ?_
      exact z_lvs (lv' := [(0, z_r 78), (6, .inl (F_M_valueOf 86 (z_uS S 78 0 s0) x2 x3))]) [2, 1] rfl (t_M_set_j169 M fl hfl S158 (F_M_valueOf 86 (z_uS S 78 0 s0) x2 x3) 0 hQ K)
  · rw [if_neg c116] at K hs
    refine z_go2 M.1 119 [(.iconst 0, 1)] (120, [(0, z_r 78), (1, .inl x1), (2, .inl x2), (3, .inl x3), (4, .inl x4)], [.inl 0], zW T' G' (z_uS S 78 0 s0) n, 0, 0) (by decide +kernel) rfl ⟨trivial, trivial⟩ ?_
    exact z_iret M (by decide +kernel) .int rfl rfl (by decide) (by decide) (hQ _ _ K)
def F_M_set_j108 (fl : Nat → Nat) (S : (Nat → Nat → Int32)) (x1 : Int32) (x2 : Int32) (x3 : Int32) (x4 : Int32) : (Int32 × (Nat → Nat → Int32)) := (F_M_set_j109 fl S x1 x2 x3 x4 3)
def Sf_M_set_j108 (fl : Nat → Nat) (S : (Nat → Nat → Int32)) (x1 : Int32) (x2 : Int32) (x3 : Int32) (x4 : Int32) : Prop := (Sf_M_set_j109 fl S x1 x2 x3 x4 3)
theorem t_M_set_j108 {X : z_X} {Post : Option z_V → z_W → Prop} (M : z_M X zm_M_set rm_M_set Post) {T' : Nat → Nat × Nat} {G' : Nat → Nat → Option Nat} {n : Nat} (fl : Nat → Nat) (hfl : zOK T' G' fl n) {Q : (Int32 × (Nat → Nat → Int32)) → Prop} (S : (Nat → Nat → Int32)) (x1 : Int32) (x2 : Int32) (x3 : Int32) (x4 : Int32) (hQ : ∀ v S', Q (v, S') → Post (some (.inl v)) (zW T' G' S' n)) (K : Q (F_M_set_j108 fl S x1 x2 x3 x4)) (hs : Sf_M_set_j108 fl S x1 x2 x3 x4) : z_G X zm_M_set (108, [(0, z_r 78), (1, .inl x1), (2, .inl x2), (3, .inl x3), (4, .inl x4)], [z_r 78], zW T' G' S n, 0, 0) := by
  unfold F_M_set_j108 at K
  unfold Sf_M_set_j108 at hs
  refine z_go2 M.1 108 [(.iconst 3, 1)] (109, [(0, z_r 78), (1, .inl x1), (2, .inl x2), (3, .inl x3), (4, .inl x4)], [.inl 3, z_r 78], zW T' G' S n, 0, 0) (by decide +kernel) rfl ⟨trivial, trivial⟩ ?_
  exact z_lvs (lv' := [(0, z_r 78), (1, .inl x1), (2, .inl x2), (3, .inl x3), (4, .inl x4)]) [0, 1, 2, 3, 4] rfl (t_M_set_j109 M fl hfl S x1 x2 x3 x4 3 hQ K hs)
def F_M_set_j51 (fl : Nat → Nat) (S : (Nat → Nat → Int32)) (x1 : Int32) (x2 : Int32) (x3 : Int32) (x4 : Int32) (s0 : Int32) : (Int32 × (Nat → Nat → Int32)) := (if s0 ≤ 0 then (if (F_M_edits 86 (z_uS S 78 0 s0) x1 x2) = 0 then (F_M_set_j108 fl (z_uS S 78 0 s0) x1 x2 x3 x4) else (if (F_M_readsIt 86 (z_uS S 78 0 s0) x1 x2 x3) = 0 then (F_M_set_j108 fl (z_uS S 78 0 s0) x1 x2 x3 x4) else (if (F_M_hasField 86 (z_uS S 78 0 s0) x2 x3) = 0 then (F_M_set_j108 fl (z_uS S 78 0 s0) x1 x2 x3 x4) else (F_M_set_j109 fl (z_uS S 78 0 s0) x1 x2 x3 x4 0)))) else (0, (z_uS S 78 0 s0)))
def Sf_M_set_j51 (fl : Nat → Nat) (S : (Nat → Nat → Int32)) (x1 : Int32) (x2 : Int32) (x3 : Int32) (x4 : Int32) (s0 : Int32) : Prop := (if s0 ≤ 0 then (Sf_M_edits 86 (z_uS S 78 0 s0) x1 x2 ∧ (if (F_M_edits 86 (z_uS S 78 0 s0) x1 x2) = 0 then (Sf_M_set_j108 fl (z_uS S 78 0 s0) x1 x2 x3 x4) else (Sf_M_readsIt 86 (z_uS S 78 0 s0) x1 x2 x3 ∧ (if (F_M_readsIt 86 (z_uS S 78 0 s0) x1 x2 x3) = 0 then (Sf_M_set_j108 fl (z_uS S 78 0 s0) x1 x2 x3 x4) else (Sf_M_hasField 86 (z_uS S 78 0 s0) x2 x3 ∧ (if (F_M_hasField 86 (z_uS S 78 0 s0) x2 x3) = 0 then (Sf_M_set_j108 fl (z_uS S 78 0 s0) x1 x2 x3 x4) else (Sf_M_set_j109 fl (z_uS S 78 0 s0) x1 x2 x3 x4 0))))))) else True)
theorem t_M_set_j51 {X : z_X} {Post : Option z_V → z_W → Prop} (M : z_M X zm_M_set rm_M_set Post) {T' : Nat → Nat × Nat} {G' : Nat → Nat → Option Nat} {n : Nat} (fl : Nat → Nat) (hfl : zOK T' G' fl n) {Q : (Int32 × (Nat → Nat → Int32)) → Prop} (S : (Nat → Nat → Int32)) (x1 : Int32) (x2 : Int32) (x3 : Int32) (x4 : Int32) (s0 : Int32) (hQ : ∀ v S', Q (v, S') → Post (some (.inl v)) (zW T' G' S' n)) (K : Q (F_M_set_j51 fl S x1 x2 x3 x4 s0)) (hs : Sf_M_set_j51 fl S x1 x2 x3 x4 s0) : z_G X zm_M_set (51, [(0, z_r 78), (1, .inl x1), (2, .inl x2), (3, .inl x3), (4, .inl x4)], [.inl s0, z_r 78], zW T' G' S n, 0, 0) := by
  unfold F_M_set_j51 at K
  unfold Sf_M_set_j51 at hs
  refine z_go2 M.1 51 [(.putfield 175, 3), (.aload_n 0, 1), (.getfield 175, 3)] (58, [(0, z_r 78), (1, .inl x1), (2, .inl x2), (3, .inl x3), (4, .inl x4)], [.inl s0], zW T' G' (z_uS S 78 0 s0) n, 0, 0) (by decide +kernel) rfl ⟨⟨rfl, trivial⟩, trivial, rfl, trivial⟩ ?_
  refine z_if_le 63 M.1 (off := 5) (by decide +kernel) (by decide) (fun c58 => ?_) (fun c58 => ?_)
  · rw [if_pos c58] at K hs
    refine z_go2 M.1 63 [(.aload_n 0, 1), (.aload_n 0, 1), (.aload_n 0, 1), (.getfield 34, 3), (.iload_n 1, 1), (.iload_n 2, 1)] (71, [(0, z_r 78), (1, .inl x1), (2, .inl x2), (3, .inl x3), (4, .inl x4)], [.inl x2, .inl x1, z_r 86, z_r 78, z_r 78], zW T' G' (z_uS S 78 0 s0) n, 0, 0) (by decide +kernel) rfl ⟨trivial, trivial, trivial, rfl, trivial, trivial, trivial⟩ ?_
    refine z_callV M.1 (av := [z_r 86, .inl x1, .inl x2]) (st := [z_r 78]) (a := 78) (ci := 14) (by decide +kernel) (c_M_edits_86 T' G' (z_uS S 78 0 s0) n x1 x2 hs.1) M.2.1 zl_M_340 zv_M_edits rfl rfl rfl ⟨by decide, by decide, by decide, by decide⟩ rfl (Nat.le_of_ble_eq_true rfl) (fun v w' hv => ?_)
    obtain ⟨rfl, rfl⟩ := hv
    replace hs := hs.2
    show z_G X zm_M_set (74, [(0, z_r 78), (1, .inl x1), (2, .inl x2), (3, .inl x3), (4, .inl x4)], [.inl (F_M_edits 86 (z_uS S 78 0 s0) x1 x2), z_r 78], zW T' G' (z_uS S 78 0 s0) n, 0, 0)
    refine z_if_eq 108 M.1 (off := 34) (by decide +kernel) (by decide) (fun c74 => ?_) (fun c74 => ?_)
    · rw [if_pos c74] at K hs
      exact z_lvs (lv' := [(0, z_r 78), (1, .inl x1), (2, .inl x2), (3, .inl x3), (4, .inl x4)]) [0, 1, 2, 3, 4] rfl (t_M_set_j108 M fl hfl (z_uS S 78 0 s0) x1 x2 x3 x4 hQ K hs)
    · rw [if_neg c74] at K hs
      refine z_go2 M.1 77 [(.aload_n 0, 1), (.aload_n 0, 1), (.getfield 34, 3), (.iload_n 1, 1), (.iload_n 2, 1), (.iload_n 3, 1)] (85, [(0, z_r 78), (1, .inl x1), (2, .inl x2), (3, .inl x3), (4, .inl x4)], [.inl x3, .inl x2, .inl x1, z_r 86, z_r 78, z_r 78], zW T' G' (z_uS S 78 0 s0) n, 0, 0) (by decide +kernel) rfl ⟨trivial, trivial, rfl, trivial, trivial, trivial, trivial⟩ ?_
      refine z_callV M.1 (av := [z_r 86, .inl x1, .inl x2, .inl x3]) (st := [z_r 78]) (a := 78) (ci := 14) (by decide +kernel) (c_M_readsIt_86 T' G' (z_uS S 78 0 s0) n x1 x2 x3 hs.1) M.2.1 zl_M_243 zv_M_readsIt rfl rfl rfl ⟨by decide, by decide, by decide, by decide⟩ rfl (Nat.le_of_ble_eq_true rfl) (fun v w' hv => ?_)
      obtain ⟨rfl, rfl⟩ := hv
      replace hs := hs.2
      show z_G X zm_M_set (88, [(0, z_r 78), (1, .inl x1), (2, .inl x2), (3, .inl x3), (4, .inl x4)], [.inl (F_M_readsIt 86 (z_uS S 78 0 s0) x1 x2 x3), z_r 78], zW T' G' (z_uS S 78 0 s0) n, 0, 0)
      refine z_if_eq 108 M.1 (off := 20) (by decide +kernel) (by decide) (fun c88 => ?_) (fun c88 => ?_)
      · rw [if_pos c88] at K hs
        exact z_lvs (lv' := [(0, z_r 78), (1, .inl x1), (2, .inl x2), (3, .inl x3), (4, .inl x4)]) [0, 1, 2, 3, 4] rfl (t_M_set_j108 M fl hfl (z_uS S 78 0 s0) x1 x2 x3 x4 hQ K hs)
      · rw [if_neg c88] at K hs
        refine z_go2 M.1 91 [(.aload_n 0, 1), (.aload_n 0, 1), (.getfield 34, 3), (.iload_n 2, 1), (.iload_n 3, 1)] (98, [(0, z_r 78), (1, .inl x1), (2, .inl x2), (3, .inl x3), (4, .inl x4)], [.inl x3, .inl x2, z_r 86, z_r 78, z_r 78], zW T' G' (z_uS S 78 0 s0) n, 0, 0) (by decide +kernel) rfl ⟨trivial, trivial, rfl, trivial, trivial, trivial⟩ ?_
        refine z_callV M.1 (av := [z_r 86, .inl x2, .inl x3]) (st := [z_r 78]) (a := 78) (ci := 14) (by decide +kernel) (c_M_hasField_86 T' G' (z_uS S 78 0 s0) n x2 x3 hs.1) M.2.1 zl_M_240 zv_M_hasField rfl rfl rfl ⟨by decide, by decide, by decide, by decide⟩ rfl (Nat.le_of_ble_eq_true rfl) (fun v w' hv => ?_)
        obtain ⟨rfl, rfl⟩ := hv
        replace hs := hs.2
        show z_G X zm_M_set (101, [(0, z_r 78), (1, .inl x1), (2, .inl x2), (3, .inl x3), (4, .inl x4)], [.inl (F_M_hasField 86 (z_uS S 78 0 s0) x2 x3), z_r 78], zW T' G' (z_uS S 78 0 s0) n, 0, 0)
        refine z_if_eq 108 M.1 (off := 7) (by decide +kernel) (by decide) (fun c101 => ?_) (fun c101 => ?_)
        · rw [if_pos c101] at K hs
          exact z_lvs (lv' := [(0, z_r 78), (1, .inl x1), (2, .inl x2), (3, .inl x3), (4, .inl x4)]) [0, 1, 2, 3, 4] rfl (t_M_set_j108 M fl hfl (z_uS S 78 0 s0) x1 x2 x3 x4 hQ K hs)
        · rw [if_neg c101] at K hs
          refine z_go2 M.1 104 [(.iconst 0, 1), (.goto 4, 3)] (109, [(0, z_r 78), (1, .inl x1), (2, .inl x2), (3, .inl x3), (4, .inl x4)], [.inl 0, z_r 78], zW T' G' (z_uS S 78 0 s0) n, 0, 0) (by decide +kernel) rfl ⟨trivial, trivial, trivial⟩ ?_
          exact z_lvs (lv' := [(0, z_r 78), (1, .inl x1), (2, .inl x2), (3, .inl x3), (4, .inl x4)]) [0, 1, 2, 3, 4] rfl (t_M_set_j109 M fl hfl (z_uS S 78 0 s0) x1 x2 x3 x4 0 hQ K hs)
  · rw [if_neg c58] at K hs
    refine z_go2 M.1 61 [(.iconst 0, 1)] (62, [(0, z_r 78), (1, .inl x1), (2, .inl x2), (3, .inl x3), (4, .inl x4)], [.inl 0], zW T' G' (z_uS S 78 0 s0) n, 0, 0) (by decide +kernel) rfl ⟨trivial, trivial⟩ ?_
    exact z_iret M (by decide +kernel) .int rfl rfl (by decide) (by decide) (hQ _ _ K)
def F_M_set_j25 (fl : Nat → Nat) (S : (Nat → Nat → Int32)) (x1 : Int32) (x2 : Int32) (x3 : Int32) (x4 : Int32) (s0 : Int32) : (Int32 × (Nat → Nat → Int32)) := (if (F_M_isSeen S x1 x2) = 0 then (F_M_set_j51 fl S x1 x2 x3 x4 1) else (if s0 = 0 then (F_M_set_j51 fl S x1 x2 x3 x4 2) else (F_M_set_j51 fl S x1 x2 x3 x4 0)))
def Sf_M_set_j25 (fl : Nat → Nat) (S : (Nat → Nat → Int32)) (x1 : Int32) (x2 : Int32) (x3 : Int32) (x4 : Int32) (s0 : Int32) : Prop := (Sf_M_isSeen S x1 x2 ∧ (if (F_M_isSeen S x1 x2) = 0 then (Sf_M_set_j51 fl S x1 x2 x3 x4 1) else (if s0 = 0 then (Sf_M_set_j51 fl S x1 x2 x3 x4 2) else (Sf_M_set_j51 fl S x1 x2 x3 x4 0))))
theorem t_M_set_j25 {X : z_X} {Post : Option z_V → z_W → Prop} (M : z_M X zm_M_set rm_M_set Post) {T' : Nat → Nat × Nat} {G' : Nat → Nat → Option Nat} {n : Nat} (fl : Nat → Nat) (hfl : zOK T' G' fl n) {Q : (Int32 × (Nat → Nat → Int32)) → Prop} (S : (Nat → Nat → Int32)) (x1 : Int32) (x2 : Int32) (x3 : Int32) (x4 : Int32) (s0 : Int32) (hQ : ∀ v S', Q (v, S') → Post (some (.inl v)) (zW T' G' S' n)) (K : Q (F_M_set_j25 fl S x1 x2 x3 x4 s0)) (hs : Sf_M_set_j25 fl S x1 x2 x3 x4 s0) : z_G X zm_M_set (25, [(0, z_r 78), (1, .inl x1), (2, .inl x2), (3, .inl x3), (4, .inl x4)], [.inl s0], zW T' G' S n, 0, 0) := by
  unfold F_M_set_j25 at K
  unfold Sf_M_set_j25 at hs
  refine z_go2 M.1 25 [(.istore 5, 2), (.aload_n 0, 1), (.aload_n 0, 1), (.iload_n 1, 1), (.iload_n 2, 1)] (31, [(5, .inl s0), (0, z_r 78), (1, .inl x1), (2, .inl x2), (3, .inl x3), (4, .inl x4)], [.inl x2, .inl x1, z_r 78, z_r 78], zW T' G' S n, 0, 0) (by decide +kernel) rfl ⟨trivial, trivial, trivial, trivial, trivial, trivial⟩ ?_
  refine z_callV M.1 (av := [.inl x1, .inl x2]) (st := [z_r 78]) (a := 78) (ci := 14) (by decide +kernel) (c_M_isSeen T' G' S n x1 x2 hs.1) M.2.1 zl_M_336 zv_M_isSeen rfl rfl rfl ⟨by decide, by decide, by decide, by decide⟩ rfl (Nat.le_of_ble_eq_true rfl) (fun v w' hv => ?_)
  obtain ⟨rfl, rfl⟩ := hv
  replace hs := hs.2
  show z_G X zm_M_set (34, [(5, .inl s0), (0, z_r 78), (1, .inl x1), (2, .inl x2), (3, .inl x3), (4, .inl x4)], [.inl (F_M_isSeen S x1 x2), z_r 78], zW T' G' S n, 0, 0)
  refine z_if_ne 41 M.1 (off := 7) (by decide +kernel) (by decide) (fun c34 => ?_) (fun c34 => ?_)
  · rw [if_neg c34] at K hs
    refine z_go2 M.1 41 [(.iload 5, 2)] (43, [(5, .inl s0), (0, z_r 78), (1, .inl x1), (2, .inl x2), (3, .inl x3), (4, .inl x4)], [.inl s0, z_r 78], zW T' G' S n, 0, 0) (by decide +kernel) rfl ⟨trivial, trivial⟩ ?_
    refine z_if_ne 50 M.1 (off := 7) (by decide +kernel) (by decide) (fun c43 => ?_) (fun c43 => ?_)
    · rw [if_neg c43] at K hs
      refine z_go2 M.1 50 [(.iconst 0, 1)] (51, [(5, .inl s0), (0, z_r 78), (1, .inl x1), (2, .inl x2), (3, .inl x3), (4, .inl x4)], [.inl 0, z_r 78], zW T' G' S n, 0, 0) (by decide +kernel) rfl ⟨trivial, trivial⟩ ?_
      exact z_lvs (lv' := [(0, z_r 78), (1, .inl x1), (2, .inl x2), (3, .inl x3), (4, .inl x4)]) [1, 2, 3, 4, 5] rfl (t_M_set_j51 M fl hfl S x1 x2 x3 x4 0 hQ K hs)
    · rw [if_pos c43] at K hs
      refine z_go2 M.1 46 [(.iconst 2, 1), (.goto 4, 3)] (51, [(5, .inl s0), (0, z_r 78), (1, .inl x1), (2, .inl x2), (3, .inl x3), (4, .inl x4)], [.inl 2, z_r 78], zW T' G' S n, 0, 0) (by decide +kernel) rfl ⟨trivial, trivial, trivial⟩ ?_
      exact z_lvs (lv' := [(0, z_r 78), (1, .inl x1), (2, .inl x2), (3, .inl x3), (4, .inl x4)]) [1, 2, 3, 4, 5] rfl (t_M_set_j51 M fl hfl S x1 x2 x3 x4 2 hQ K hs)
  · rw [if_pos c34] at K hs
    refine z_go2 M.1 37 [(.iconst 1, 1), (.goto 13, 3)] (51, [(5, .inl s0), (0, z_r 78), (1, .inl x1), (2, .inl x2), (3, .inl x3), (4, .inl x4)], [.inl 1, z_r 78], zW T' G' S n, 0, 0) (by decide +kernel) rfl ⟨trivial, trivial, trivial⟩ ?_
    exact z_lvs (lv' := [(0, z_r 78), (1, .inl x1), (2, .inl x2), (3, .inl x3), (4, .inl x4)]) [1, 2, 3, 4, 5] rfl (t_M_set_j51 M fl hfl S x1 x2 x3 x4 1 hQ K hs)
def F_M_set_j24 (fl : Nat → Nat) (S : (Nat → Nat → Int32)) (x1 : Int32) (x2 : Int32) (x3 : Int32) (x4 : Int32) : (Int32 × (Nat → Nat → Int32)) := (F_M_set_j25 fl S x1 x2 x3 x4 0)
def Sf_M_set_j24 (fl : Nat → Nat) (S : (Nat → Nat → Int32)) (x1 : Int32) (x2 : Int32) (x3 : Int32) (x4 : Int32) : Prop := (Sf_M_set_j25 fl S x1 x2 x3 x4 0)
theorem t_M_set_j24 {X : z_X} {Post : Option z_V → z_W → Prop} (M : z_M X zm_M_set rm_M_set Post) {T' : Nat → Nat × Nat} {G' : Nat → Nat → Option Nat} {n : Nat} (fl : Nat → Nat) (hfl : zOK T' G' fl n) {Q : (Int32 × (Nat → Nat → Int32)) → Prop} (S : (Nat → Nat → Int32)) (x1 : Int32) (x2 : Int32) (x3 : Int32) (x4 : Int32) (hQ : ∀ v S', Q (v, S') → Post (some (.inl v)) (zW T' G' S' n)) (K : Q (F_M_set_j24 fl S x1 x2 x3 x4)) (hs : Sf_M_set_j24 fl S x1 x2 x3 x4) : z_G X zm_M_set (24, [(0, z_r 78), (1, .inl x1), (2, .inl x2), (3, .inl x3), (4, .inl x4)], [], zW T' G' S n, 0, 0) := by
  unfold F_M_set_j24 at K
  unfold Sf_M_set_j24 at hs
  refine z_go2 M.1 24 [(.iconst 0, 1)] (25, [(0, z_r 78), (1, .inl x1), (2, .inl x2), (3, .inl x3), (4, .inl x4)], [.inl 0], zW T' G' S n, 0, 0) (by decide +kernel) rfl ⟨trivial, trivial⟩ ?_
  exact z_lvs (lv' := [(0, z_r 78), (1, .inl x1), (2, .inl x2), (3, .inl x3), (4, .inl x4)]) [0, 1, 2, 3, 4] rfl (t_M_set_j25 M fl hfl S x1 x2 x3 x4 0 hQ K hs)
def F_M_set (fl : Nat → Nat) (S : (Nat → Nat → Int32)) (p1 : Int32) (p2 : Int32) (p3 : Int32) (p4 : Int32) : (Int32 × (Nat → Nat → Int32)) := (if (F_M_isIn S p3 0 2) = 0 then (F_M_set_j24 fl S p1 p2 p3 p4) else (if (F_M_isIn S p4 (-1) 99) = 0 then (F_M_set_j24 fl S p1 p2 p3 p4) else (F_M_set_j25 fl S p1 p2 p3 p4 1)))
def Sf_M_set (fl : Nat → Nat) (S : (Nat → Nat → Int32)) (p1 : Int32) (p2 : Int32) (p3 : Int32) (p4 : Int32) : Prop := (if (F_M_isIn S p3 0 2) = 0 then (Sf_M_set_j24 fl S p1 p2 p3 p4) else (if (F_M_isIn S p4 (-1) 99) = 0 then (Sf_M_set_j24 fl S p1 p2 p3 p4) else (Sf_M_set_j25 fl S p1 p2 p3 p4 1)))
theorem c_M_set (T' : Nat → Nat × Nat) (G' : Nat → Nat → Option Nat) (n : Nat) (fl : Nat → Nat) (hfl : zOK T' G' fl n) (S : (Nat → Nat → Int32)) (p1 : Int32) (p2 : Int32) (p3 : Int32) (p4 : Int32) (hs : Sf_M_set fl S p1 p2 p3 p4) : z_Run rm_M_set zm_M_set [z_r 78, .inl p1, .inl p2, .inl p3, .inl p4] (zW T' G' S n) (zq (some (.inl (F_M_set fl S p1 p2 p3 p4).1)) (zW T' G' (F_M_set fl S p1 p2 p3 p4).2 n)) := by
  refine z_body (by decide) zf_M_ok (Nat.le_of_ble_eq_true rfl) (fun X M => ?_)
  obtain ⟨Q, hQ, K⟩ : ∃ Q : (Int32 × (Nat → Nat → Int32)) → Prop, (∀ v S', Q (v, S') → zq (some (.inl (F_M_set fl S p1 p2 p3 p4).1)) (zW T' G' (F_M_set fl S p1 p2 p3 p4).2 n) (some (.inl v)) (zW T' G' S' n)) ∧ Q (F_M_set fl S p1 p2 p3 p4) := ⟨fun o => F_M_set fl S p1 p2 p3 p4 = o, fun v S' h => ⟨by rw [h], by rw [h]⟩, rfl⟩
  show z_G X zm_M_set (0, [(0, z_r 78), (1, .inl p1), (2, .inl p2), (3, .inl p3), (4, .inl p4)], [], zW T' G' S n, 0, 0)
  unfold F_M_set at K
  unfold Sf_M_set at hs
  refine z_go2 M.1 0 [(.iload_n 3, 1), (.iconst 0, 1), (.iconst 2, 1)] (3, [(0, z_r 78), (1, .inl p1), (2, .inl p2), (3, .inl p3), (4, .inl p4)], [.inl 2, .inl 0, .inl p3], zW T' G' S n, 0, 0) (by decide +kernel) rfl ⟨trivial, trivial, trivial, trivial⟩ ?_
  refine z_callS M.1 (av := [.inl p3, .inl 0, .inl 2]) (st := []) (by decide +kernel) (c_M_isIn T' G' S n p3 0 2) M.2.1 zl_M_178 zs_M_isIn ⟨by decide, by decide, by decide, by decide⟩ rfl (Nat.le_of_ble_eq_true rfl) (fun v w' hv => ?_)
  obtain ⟨rfl, rfl⟩ := hv
  show z_G X zm_M_set (6, [(0, z_r 78), (1, .inl p1), (2, .inl p2), (3, .inl p3), (4, .inl p4)], [.inl (F_M_isIn S p3 0 2)], zW T' G' S n, 0, 0)
  refine z_if_eq 24 M.1 (off := 18) (by decide +kernel) (by decide) (fun c6 => ?_) (fun c6 => ?_)
  · rw [if_pos c6] at K hs
    exact z_lvs (lv' := [(0, z_r 78), (1, .inl p1), (2, .inl p2), (3, .inl p3), (4, .inl p4)]) [0, 1, 2, 3, 4] rfl (t_M_set_j24 M fl hfl S p1 p2 p3 p4 hQ K hs)
  · rw [if_neg c6] at K hs
    refine z_go2 M.1 9 [(.iload 4, 2), (.iconst (-1), 1), (.bipush 99, 2)] (14, [(0, z_r 78), (1, .inl p1), (2, .inl p2), (3, .inl p3), (4, .inl p4)], [.inl 99, .inl (-1), .inl p4], zW T' G' S n, 0, 0) (by decide +kernel) rfl ⟨trivial, trivial, trivial, trivial⟩ ?_
    refine z_callS M.1 (av := [.inl p4, .inl (-1), .inl 99]) (st := []) (by decide +kernel) (c_M_isIn T' G' S n p4 (-1) 99) M.2.1 zl_M_178 zs_M_isIn ⟨by decide, by decide, by decide, by decide⟩ rfl (Nat.le_of_ble_eq_true rfl) (fun v w' hv => ?_)
    obtain ⟨rfl, rfl⟩ := hv
    show z_G X zm_M_set (17, [(0, z_r 78), (1, .inl p1), (2, .inl p2), (3, .inl p3), (4, .inl p4)], [.inl (F_M_isIn S p4 (-1) 99)], zW T' G' S n, 0, 0)
    refine z_if_eq 24 M.1 (off := 7) (by decide +kernel) (by decide) (fun c17 => ?_) (fun c17 => ?_)
    · rw [if_pos c17] at K hs
      exact z_lvs (lv' := [(0, z_r 78), (1, .inl p1), (2, .inl p2), (3, .inl p3), (4, .inl p4)]) [0, 1, 2, 3, 4] rfl (t_M_set_j24 M fl hfl S p1 p2 p3 p4 hQ K hs)
    · rw [if_neg c17] at K hs
      refine z_go2 M.1 20 [(.iconst 1, 1), (.goto 4, 3)] (25, [(0, z_r 78), (1, .inl p1), (2, .inl p2), (3, .inl p3), (4, .inl p4)], [.inl 1], zW T' G' S n, 0, 0) (by decide +kernel) rfl ⟨trivial, trivial, trivial⟩ ?_
      exact z_lvs (lv' := [(0, z_r 78), (1, .inl p1), (2, .inl p2), (3, .inl p3), (4, .inl p4)]) [0, 1, 2, 3, 4] rfl (t_M_set_j25 M fl hfl S p1 p2 p3 p4 1 hQ K hs)

-- TrackHouseModel.turns
abbrev rm_M_turns : Room := zr 7
def F_M_turns_j58 (fl : Nat → Nat) (S : (Nat → Nat → Int32)) (x5 : Int32) (s0 : Int32) : (Int32 × (Nat → Nat → Int32)) := (if s0 ≤ 0 then (x5, (z_uS S 78 0 s0)) else (0, (z_uS S 78 0 s0)))
theorem t_M_turns_j58 {X : z_X} {Post : Option z_V → z_W → Prop} (M : z_M X zm_M_turns rm_M_turns Post) {T' : Nat → Nat × Nat} {G' : Nat → Nat → Option Nat} {n : Nat} (fl : Nat → Nat) (hfl : zOK T' G' fl n) {Q : (Int32 × (Nat → Nat → Int32)) → Prop} (S : (Nat → Nat → Int32)) (x5 : Int32) (s0 : Int32) (hQ : ∀ v S', Q (v, S') → Post (some (.inl v)) (zW T' G' S' n)) (K : Q (F_M_turns_j58 fl S x5 s0)) : z_G X zm_M_turns (58, [(0, z_r 78), (5, .inl x5)], [.inl s0, z_r 78], zW T' G' S n, 0, 0) := by
  unfold F_M_turns_j58 at K
  refine z_go2 M.1 58 [(.putfield 175, 3), (.aload_n 0, 1), (.getfield 175, 3)] (65, [(0, z_r 78), (5, .inl x5)], [.inl s0], zW T' G' (z_uS S 78 0 s0) n, 0, 0) (by decide +kernel) rfl ⟨⟨rfl, trivial⟩, trivial, rfl, trivial⟩ ?_
  refine z_if_le 72 M.1 (off := 7) (by decide +kernel) (by decide) (fun c65 => ?_) (fun c65 => ?_)
  · rw [if_pos c65] at K
    refine z_go2 M.1 72 [(.iload 5, 2)] (74, [(0, z_r 78), (5, .inl x5)], [.inl x5], zW T' G' (z_uS S 78 0 s0) n, 0, 0) (by decide +kernel) rfl ⟨trivial, trivial⟩ ?_
    exact z_iret M (by decide +kernel) .int rfl rfl (by decide) (by decide) (hQ _ _ K)
  · rw [if_neg c65] at K
    refine z_go2 M.1 68 [(.iconst 0, 1), (.goto 5, 3)] (74, [(0, z_r 78), (5, .inl x5)], [.inl 0], zW T' G' (z_uS S 78 0 s0) n, 0, 0) (by decide +kernel) rfl ⟨trivial, trivial, trivial⟩ ?_
    exact z_iret M (by decide +kernel) .int rfl rfl (by decide) (by decide) (hQ _ _ K)
def F_M_turns (fl : Nat → Nat) (S : (Nat → Nat → Int32)) (p1 : Int32) (p2 : Int32) (p3 : Int32) (p4 : Int32) (p5 : Int32) (p6 : Int32) : (Int32 × (Nat → Nat → Int32)) := (if (F_M_edits 86 S p2 p3) = 0 then (0, (z_uS S 78 0 p6)) else (z_let (F_M_change 86 S p1 p2 p3 0 p4) (fun S38 => (match F_M_stays fl S38 (S 78 2) 1 with | (r46, S46) => (if r46 = 0 then (F_M_turns_j58 fl S46 p5 p6) else (F_M_turns_j58 fl S46 p5 0))))))
def Sf_M_turns (fl : Nat → Nat) (S : (Nat → Nat → Int32)) (p1 : Int32) (p2 : Int32) (p3 : Int32) (p4 : Int32) (p5 : Int32) (p6 : Int32) : Prop := (Sf_M_edits 86 S p2 p3 ∧ (if (F_M_edits 86 S p2 p3) = 0 then True else (Sf_M_change 86 S p1 p2 p3 0 p4 ∧ (z_let (F_M_change 86 S p1 p2 p3 0 p4) (fun S38 => (Sf_M_stays fl S38 (S 78 2) 1 ∧ True))))))
theorem c_M_turns (T' : Nat → Nat × Nat) (G' : Nat → Nat → Option Nat) (n : Nat) (fl : Nat → Nat) (hfl : zOK T' G' fl n) (S : (Nat → Nat → Int32)) (p1 : Int32) (p2 : Int32) (p3 : Int32) (p4 : Int32) (p5 : Int32) (p6 : Int32) (hs : Sf_M_turns fl S p1 p2 p3 p4 p5 p6) : z_Run rm_M_turns zm_M_turns [z_r 78, .inl p1, .inl p2, .inl p3, .inl p4, .inl p5, .inl p6] (zW T' G' S n) (zq (some (.inl (F_M_turns fl S p1 p2 p3 p4 p5 p6).1)) (zW T' G' (F_M_turns fl S p1 p2 p3 p4 p5 p6).2 n)) := by
  refine z_body (by decide) zf_M_ok (Nat.le_of_ble_eq_true rfl) (fun X M => ?_)
  obtain ⟨Q, hQ, K⟩ : ∃ Q : (Int32 × (Nat → Nat → Int32)) → Prop, (∀ v S', Q (v, S') → zq (some (.inl (F_M_turns fl S p1 p2 p3 p4 p5 p6).1)) (zW T' G' (F_M_turns fl S p1 p2 p3 p4 p5 p6).2 n) (some (.inl v)) (zW T' G' S' n)) ∧ Q (F_M_turns fl S p1 p2 p3 p4 p5 p6) := ⟨fun o => F_M_turns fl S p1 p2 p3 p4 p5 p6 = o, fun v S' h => ⟨by rw [h], by rw [h]⟩, rfl⟩
  show z_G X zm_M_turns (0, [(0, z_r 78), (1, .inl p1), (2, .inl p2), (3, .inl p3), (4, .inl p4), (5, .inl p5), (6, .inl p6)], [], zW T' G' S n, 0, 0)
  unfold F_M_turns at K
  unfold Sf_M_turns at hs
  refine z_go2 M.1 0 [(.aload_n 0, 1), (.aload_n 0, 1), (.getfield 34, 3), (.iload_n 2, 1), (.iload_n 3, 1)] (7, [(0, z_r 78), (1, .inl p1), (2, .inl p2), (3, .inl p3), (4, .inl p4), (5, .inl p5), (6, .inl p6)], [.inl p3, .inl p2, z_r 86, z_r 78], zW T' G' S n, 0, 0) (by decide +kernel) rfl ⟨trivial, trivial, rfl, trivial, trivial, trivial⟩ ?_
  refine z_callV M.1 (av := [z_r 86, .inl p2, .inl p3]) (st := []) (a := 78) (ci := 14) (by decide +kernel) (c_M_edits_86 T' G' S n p2 p3 hs.1) M.2.1 zl_M_340 zv_M_edits rfl rfl rfl ⟨by decide, by decide, by decide, by decide⟩ rfl (Nat.le_of_ble_eq_true rfl) (fun v w' hv => ?_)
  obtain ⟨rfl, rfl⟩ := hv
  replace hs := hs.2
  show z_G X zm_M_turns (10, [(0, z_r 78), (1, .inl p1), (2, .inl p2), (3, .inl p3), (4, .inl p4), (5, .inl p5), (6, .inl p6)], [.inl (F_M_edits 86 S p2 p3)], zW T' G' S n, 0, 0)
  refine z_if_ne 21 M.1 (off := 11) (by decide +kernel) (by decide) (fun c10 => ?_) (fun c10 => ?_)
  · rw [if_neg c10] at K hs
    refine z_go2 M.1 21 [(.aload_n 0, 1), (.getfield 182, 3), (.istore 7, 2), (.aload_n 0, 1), (.aload_n 0, 1), (.getfield 34, 3), (.iload_n 1, 1), (.iload_n 2, 1), (.iload_n 3, 1), (.iconst 0, 1), (.iload 4, 2)] (38, [(7, .inl (S 78 2)), (0, z_r 78), (1, .inl p1), (2, .inl p2), (3, .inl p3), (4, .inl p4), (5, .inl p5), (6, .inl p6)], [.inl p4, .inl 0, .inl p3, .inl p2, .inl p1, z_r 86, z_r 78], zW T' G' S n, 0, 0) (by decide +kernel) rfl ⟨trivial, rfl, trivial, trivial, trivial, rfl, trivial, trivial, trivial, trivial, trivial, trivial⟩ ?_
    refine z_callV M.1 (av := [z_r 86, .inl p1, .inl p2, .inl p3, .inl 0, .inl p4]) (st := []) (a := 78) (ci := 14) (by decide +kernel) (c_M_change_86 T' G' S n p1 p2 p3 0 p4 hs.1) M.2.1 zl_M_259 zv_M_change rfl rfl rfl ⟨by decide, by decide, by decide, by decide⟩ rfl (Nat.le_of_ble_eq_true rfl) (fun v w' hv => ?_)
    replace hs := hs.2
    obtain ⟨S38, hF38⟩ : ∃ y, F_M_change 86 S p1 p2 p3 0 p4 = y := ⟨_, rfl⟩
    rw [hF38] at K hv
    try rw [hF38] at hs
    try dsimp only [z_let] at K hs
    obtain ⟨rfl, rfl⟩ := hv
    show z_G X zm_M_turns (41, [(7, .inl (S 78 2)), (0, z_r 78), (1, .inl p1), (2, .inl p2), (3, .inl p3), (4, .inl p4), (5, .inl p5), (6, .inl p6)], [], zW T' G' S38 n, 0, 0)
    refine z_go2 M.1 41 [(.aload_n 0, 1), (.aload_n 0, 1), (.iload 7, 2), (.iconst 1, 1)] (46, [(7, .inl (S 78 2)), (0, z_r 78), (1, .inl p1), (2, .inl p2), (3, .inl p3), (4, .inl p4), (5, .inl p5), (6, .inl p6)], [.inl 1, .inl (S 78 2), z_r 78, z_r 78], zW T' G' S38 n, 0, 0) (by decide +kernel) rfl ⟨trivial, trivial, trivial, trivial, trivial⟩ ?_
    refine z_callV M.1 (av := [.inl (S 78 2), .inl 1]) (st := [z_r 78]) (a := 78) (ci := 14) (by decide +kernel) (c_M_stays T' G' n fl hfl S38 (S 78 2) 1 hs.1) M.2.1 zl_M_301 zv_M_stays rfl rfl rfl ⟨by decide, by decide, by decide, by decide⟩ rfl (Nat.le_of_ble_eq_true rfl) (fun v w' hv => ?_)
    replace hs := hs.2
    rcases hF46 : F_M_stays fl S38 (S 78 2) 1 with ⟨r46, S46⟩
    rw [hF46] at K hv
    try dsimp only at K
    obtain ⟨rfl, rfl⟩ := hv
    show z_G X zm_M_turns (49, [(7, .inl (S 78 2)), (0, z_r 78), (1, .inl p1), (2, .inl p2), (3, .inl p3), (4, .inl p4), (5, .inl p5), (6, .inl p6)], [.inl r46, z_r 78], zW T' G' S46 n, 0, 0)
    refine z_if_eq 56 M.1 (off := 7) (by decide +kernel) (by decide) (fun c49 => ?_) (fun c49 => ?_)
    · rw [if_pos c49] at K
      refine z_go2 M.1 56 [(.iload 6, 2)] (58, [(7, .inl (S 78 2)), (0, z_r 78), (1, .inl p1), (2, .inl p2), (3, .inl p3), (4, .inl p4), (5, .inl p5), (6, .inl p6)], [.inl p6, z_r 78], zW T' G' S46 n, 0, 0) (by decide +kernel) rfl ⟨trivial, trivial⟩ ?_
      exact z_lvs (lv' := [(0, z_r 78), (5, .inl p5)]) [1, 6] rfl (t_M_turns_j58 M fl hfl S46 p5 p6 hQ K)
    · rw [if_neg c49] at K
      refine z_go2 M.1 52 [(.iconst 0, 1), (.goto 5, 3)] (58, [(7, .inl (S 78 2)), (0, z_r 78), (1, .inl p1), (2, .inl p2), (3, .inl p3), (4, .inl p4), (5, .inl p5), (6, .inl p6)], [.inl 0, z_r 78], zW T' G' S46 n, 0, 0) (by decide +kernel) rfl ⟨trivial, trivial, trivial⟩ ?_
      exact z_lvs (lv' := [(0, z_r 78), (5, .inl p5)]) [1, 6] rfl (t_M_turns_j58 M fl hfl S46 p5 0 hQ K)
  · rw [if_pos c10] at K hs
    refine z_go2 M.1 13 [(.aload_n 0, 1), (.iload 6, 2), (.putfield 175, 3), (.iconst 0, 1)] (20, [(0, z_r 78), (1, .inl p1), (2, .inl p2), (3, .inl p3), (4, .inl p4), (5, .inl p5), (6, .inl p6)], [.inl 0], zW T' G' (z_uS S 78 0 p6) n, 0, 0) (by decide +kernel) rfl ⟨trivial, trivial, ⟨rfl, trivial⟩, trivial, trivial⟩ ?_
    exact z_iret M (by decide +kernel) .int rfl rfl (by decide) (by decide) (hQ _ _ K)

-- TrackHouseModel.assign
abbrev rm_M_assign : Room := zr 8
def F_M_assign_j25 (fl : Nat → Nat) (S : (Nat → Nat → Int32)) (x1 : Int32) (x2 : Int32) (x3 : Int32) (s0 : Int32) : (Int32 × (Nat → Nat → Int32)) := (if s0 ≤ 0 then (match F_M_turns fl (z_uS S 78 0 s0) 4 x1 x2 x3 (S 91 (x2).toNatClampNeg) 2 with | (r54, S54) => (r54, S54)) else (0, (z_uS S 78 0 s0)))
def Sf_M_assign_j25 (fl : Nat → Nat) (S : (Nat → Nat → Int32)) (x1 : Int32) (x2 : Int32) (x3 : Int32) (s0 : Int32) : Prop := (if s0 ≤ 0 then ((vp_in x2 30) ∧ (Sf_M_turns fl (z_uS S 78 0 s0) 4 x1 x2 x3 (S 91 (x2).toNatClampNeg) 2 ∧ True)) else True)
theorem t_M_assign_j25 {X : z_X} {Post : Option z_V → z_W → Prop} (M : z_M X zm_M_assign rm_M_assign Post) {T' : Nat → Nat × Nat} {G' : Nat → Nat → Option Nat} {n : Nat} (fl : Nat → Nat) (hfl : zOK T' G' fl n) {Q : (Int32 × (Nat → Nat → Int32)) → Prop} (S : (Nat → Nat → Int32)) (x1 : Int32) (x2 : Int32) (x3 : Int32) (s0 : Int32) (hQ : ∀ v S', Q (v, S') → Post (some (.inl v)) (zW T' G' S' n)) (K : Q (F_M_assign_j25 fl S x1 x2 x3 s0)) (hs : Sf_M_assign_j25 fl S x1 x2 x3 s0) : z_G X zm_M_assign (25, [(0, z_r 78), (1, .inl x1), (2, .inl x2), (3, .inl x3)], [.inl s0, z_r 78], zW T' G' S n, 0, 0) := by
  unfold F_M_assign_j25 at K
  unfold Sf_M_assign_j25 at hs
  refine z_go2 M.1 25 [(.putfield 175, 3), (.aload_n 0, 1), (.getfield 175, 3)] (32, [(0, z_r 78), (1, .inl x1), (2, .inl x2), (3, .inl x3)], [.inl s0], zW T' G' (z_uS S 78 0 s0) n, 0, 0) (by decide +kernel) rfl ⟨⟨rfl, trivial⟩, trivial, rfl, trivial⟩ ?_
  refine z_if_le 39 M.1 (off := 7) (by decide +kernel) (by decide) (fun c32 => ?_) (fun c32 => ?_)
  · rw [if_pos c32] at K hs
    refine z_go2 M.1 39 [(.aload_n 0, 1), (.iconst 4, 1), (.iload_n 1, 1), (.iload_n 2, 1), (.iload_n 3, 1), (.aload_n 0, 1), (.getfield 34, 3), (.getfield 204, 3), (.iload_n 2, 1), (.iaload, 1), (.iconst 2, 1)] (54, [(0, z_r 78), (1, .inl x1), (2, .inl x2), (3, .inl x3)], [.inl 2, .inl (S 91 (x2).toNatClampNeg), .inl x3, .inl x2, .inl x1, .inl 4, z_r 78], zW T' G' (z_uS S 78 0 s0) n, 0, 0) (by decide +kernel) rfl ⟨trivial, trivial, trivial, trivial, trivial, trivial, rfl, rfl, trivial, ⟨rfl, hs.1⟩, trivial, trivial⟩ ?_
    replace hs := hs.2
    refine z_callV M.1 (av := [.inl 4, .inl x1, .inl x2, .inl x3, .inl (S 91 (x2).toNatClampNeg), .inl 2]) (st := []) (a := 78) (ci := 14) (by decide +kernel) (c_M_turns T' G' n fl hfl (z_uS S 78 0 s0) 4 x1 x2 x3 (S 91 (x2).toNatClampNeg) 2 hs.1) M.2.1 zl_M_343 zv_M_turns rfl rfl rfl ⟨by decide, by decide, by decide, by decide⟩ rfl (Nat.le_of_ble_eq_true rfl) (fun v w' hv => ?_)
    replace hs := hs.2
    rcases hF54 : F_M_turns fl (z_uS S 78 0 s0) 4 x1 x2 x3 (S 91 (x2).toNatClampNeg) 2 with ⟨r54, S54⟩
    rw [hF54] at K hv
    try dsimp only at K
    obtain ⟨rfl, rfl⟩ := hv
    show z_G X zm_M_assign (57, [(0, z_r 78), (1, .inl x1), (2, .inl x2), (3, .inl x3)], [.inl r54], zW T' G' S54 n, 0, 0)
    exact z_iret M (by decide +kernel) .int rfl rfl (by decide) (by decide) (hQ _ _ K)
  · rw [if_neg c32] at K hs
    refine z_go2 M.1 35 [(.iconst 0, 1), (.goto 21, 3)] (57, [(0, z_r 78), (1, .inl x1), (2, .inl x2), (3, .inl x3)], [.inl 0], zW T' G' (z_uS S 78 0 s0) n, 0, 0) (by decide +kernel) rfl ⟨trivial, trivial, trivial⟩ ?_
    exact z_iret M (by decide +kernel) .int rfl rfl (by decide) (by decide) (hQ _ _ K)
def F_M_assign_j24 (fl : Nat → Nat) (S : (Nat → Nat → Int32)) (x1 : Int32) (x2 : Int32) (x3 : Int32) : (Int32 × (Nat → Nat → Int32)) := (F_M_assign_j25 fl S x1 x2 x3 1)
def Sf_M_assign_j24 (fl : Nat → Nat) (S : (Nat → Nat → Int32)) (x1 : Int32) (x2 : Int32) (x3 : Int32) : Prop := (Sf_M_assign_j25 fl S x1 x2 x3 1)
theorem t_M_assign_j24 {X : z_X} {Post : Option z_V → z_W → Prop} (M : z_M X zm_M_assign rm_M_assign Post) {T' : Nat → Nat × Nat} {G' : Nat → Nat → Option Nat} {n : Nat} (fl : Nat → Nat) (hfl : zOK T' G' fl n) {Q : (Int32 × (Nat → Nat → Int32)) → Prop} (S : (Nat → Nat → Int32)) (x1 : Int32) (x2 : Int32) (x3 : Int32) (hQ : ∀ v S', Q (v, S') → Post (some (.inl v)) (zW T' G' S' n)) (K : Q (F_M_assign_j24 fl S x1 x2 x3)) (hs : Sf_M_assign_j24 fl S x1 x2 x3) : z_G X zm_M_assign (24, [(0, z_r 78), (1, .inl x1), (2, .inl x2), (3, .inl x3)], [z_r 78], zW T' G' S n, 0, 0) := by
  unfold F_M_assign_j24 at K
  unfold Sf_M_assign_j24 at hs
  refine z_go2 M.1 24 [(.iconst 1, 1)] (25, [(0, z_r 78), (1, .inl x1), (2, .inl x2), (3, .inl x3)], [.inl 1, z_r 78], zW T' G' S n, 0, 0) (by decide +kernel) rfl ⟨trivial, trivial⟩ ?_
  exact z_lvs (lv' := [(0, z_r 78), (1, .inl x1), (2, .inl x2), (3, .inl x3)]) [0, 1, 2, 3] rfl (t_M_assign_j25 M fl hfl S x1 x2 x3 1 hQ K hs)
def F_M_assign (fl : Nat → Nat) (S : (Nat → Nat → Int32)) (p1 : Int32) (p2 : Int32) (p3 : Int32) : (Int32 × (Nat → Nat → Int32)) := (if (F_M_isSeen S p1 p2) = 0 then (F_M_assign_j24 fl S p1 p2 p3) else (if (F_M_isIn S p3 (-1) 7) = 0 then (F_M_assign_j24 fl S p1 p2 p3) else (F_M_assign_j25 fl S p1 p2 p3 0)))
def Sf_M_assign (fl : Nat → Nat) (S : (Nat → Nat → Int32)) (p1 : Int32) (p2 : Int32) (p3 : Int32) : Prop := (Sf_M_isSeen S p1 p2 ∧ (if (F_M_isSeen S p1 p2) = 0 then (Sf_M_assign_j24 fl S p1 p2 p3) else (if (F_M_isIn S p3 (-1) 7) = 0 then (Sf_M_assign_j24 fl S p1 p2 p3) else (Sf_M_assign_j25 fl S p1 p2 p3 0))))
theorem c_M_assign (T' : Nat → Nat × Nat) (G' : Nat → Nat → Option Nat) (n : Nat) (fl : Nat → Nat) (hfl : zOK T' G' fl n) (S : (Nat → Nat → Int32)) (p1 : Int32) (p2 : Int32) (p3 : Int32) (hs : Sf_M_assign fl S p1 p2 p3) : z_Run rm_M_assign zm_M_assign [z_r 78, .inl p1, .inl p2, .inl p3] (zW T' G' S n) (zq (some (.inl (F_M_assign fl S p1 p2 p3).1)) (zW T' G' (F_M_assign fl S p1 p2 p3).2 n)) := by
  refine z_body (by decide) zf_M_ok (Nat.le_of_ble_eq_true rfl) (fun X M => ?_)
  obtain ⟨Q, hQ, K⟩ : ∃ Q : (Int32 × (Nat → Nat → Int32)) → Prop, (∀ v S', Q (v, S') → zq (some (.inl (F_M_assign fl S p1 p2 p3).1)) (zW T' G' (F_M_assign fl S p1 p2 p3).2 n) (some (.inl v)) (zW T' G' S' n)) ∧ Q (F_M_assign fl S p1 p2 p3) := ⟨fun o => F_M_assign fl S p1 p2 p3 = o, fun v S' h => ⟨by rw [h], by rw [h]⟩, rfl⟩
  show z_G X zm_M_assign (0, [(0, z_r 78), (1, .inl p1), (2, .inl p2), (3, .inl p3)], [], zW T' G' S n, 0, 0)
  unfold F_M_assign at K
  unfold Sf_M_assign at hs
  refine z_go2 M.1 0 [(.aload_n 0, 1), (.aload_n 0, 1), (.iload_n 1, 1), (.iload_n 2, 1)] (4, [(0, z_r 78), (1, .inl p1), (2, .inl p2), (3, .inl p3)], [.inl p2, .inl p1, z_r 78, z_r 78], zW T' G' S n, 0, 0) (by decide +kernel) rfl ⟨trivial, trivial, trivial, trivial, trivial⟩ ?_
  refine z_callV M.1 (av := [.inl p1, .inl p2]) (st := [z_r 78]) (a := 78) (ci := 14) (by decide +kernel) (c_M_isSeen T' G' S n p1 p2 hs.1) M.2.1 zl_M_336 zv_M_isSeen rfl rfl rfl ⟨by decide, by decide, by decide, by decide⟩ rfl (Nat.le_of_ble_eq_true rfl) (fun v w' hv => ?_)
  obtain ⟨rfl, rfl⟩ := hv
  replace hs := hs.2
  show z_G X zm_M_assign (7, [(0, z_r 78), (1, .inl p1), (2, .inl p2), (3, .inl p3)], [.inl (F_M_isSeen S p1 p2), z_r 78], zW T' G' S n, 0, 0)
  refine z_if_eq 24 M.1 (off := 17) (by decide +kernel) (by decide) (fun c7 => ?_) (fun c7 => ?_)
  · rw [if_pos c7] at K hs
    exact z_lvs (lv' := [(0, z_r 78), (1, .inl p1), (2, .inl p2), (3, .inl p3)]) [0, 1, 2, 3] rfl (t_M_assign_j24 M fl hfl S p1 p2 p3 hQ K hs)
  · rw [if_neg c7] at K hs
    refine z_go2 M.1 10 [(.iload_n 3, 1), (.iconst (-1), 1), (.bipush 7, 2)] (14, [(0, z_r 78), (1, .inl p1), (2, .inl p2), (3, .inl p3)], [.inl 7, .inl (-1), .inl p3, z_r 78], zW T' G' S n, 0, 0) (by decide +kernel) rfl ⟨trivial, trivial, trivial, trivial⟩ ?_
    refine z_callS M.1 (av := [.inl p3, .inl (-1), .inl 7]) (st := [z_r 78]) (by decide +kernel) (c_M_isIn T' G' S n p3 (-1) 7) M.2.1 zl_M_178 zs_M_isIn ⟨by decide, by decide, by decide, by decide⟩ rfl (Nat.le_of_ble_eq_true rfl) (fun v w' hv => ?_)
    obtain ⟨rfl, rfl⟩ := hv
    show z_G X zm_M_assign (17, [(0, z_r 78), (1, .inl p1), (2, .inl p2), (3, .inl p3)], [.inl (F_M_isIn S p3 (-1) 7), z_r 78], zW T' G' S n, 0, 0)
    refine z_if_eq 24 M.1 (off := 7) (by decide +kernel) (by decide) (fun c17 => ?_) (fun c17 => ?_)
    · rw [if_pos c17] at K hs
      exact z_lvs (lv' := [(0, z_r 78), (1, .inl p1), (2, .inl p2), (3, .inl p3)]) [0, 1, 2, 3] rfl (t_M_assign_j24 M fl hfl S p1 p2 p3 hQ K hs)
    · rw [if_neg c17] at K hs
      refine z_go2 M.1 20 [(.iconst 0, 1), (.goto 4, 3)] (25, [(0, z_r 78), (1, .inl p1), (2, .inl p2), (3, .inl p3)], [.inl 0, z_r 78], zW T' G' S n, 0, 0) (by decide +kernel) rfl ⟨trivial, trivial, trivial⟩ ?_
      exact z_lvs (lv' := [(0, z_r 78), (1, .inl p1), (2, .inl p2), (3, .inl p3)]) [0, 1, 2, 3] rfl (t_M_assign_j25 M fl hfl S p1 p2 p3 0 hQ K hs)

-- TrackHouseModel.way
abbrev rm_M_way : Room := zr 3
def F_M_way_l22_145 (fl : Nat → Nat) (f13 : Nat) (rc : Int32 → Int32 → (Int32)) (S : (Nat → Nat → Int32)) (x1 : Int32) (x2 : Int32) (x3 : Int32) (x6 : Int32) : (Int32) := (rc (-1) (x6 + 1))
def Sf_M_way_l22_145 (fl : Nat → Nat) (f13 : Nat) (rc : Int32 → Int32 → (Int32)) (sr : Int32 → Int32 → Prop) (S : (Nat → Nat → Int32)) (x1 : Int32) (x2 : Int32) (x3 : Int32) (x6 : Int32) : Prop := (sr (-1) (x6 + 1))
theorem t_M_way_l22_145 {X : z_X} {Post : Option z_V → z_W → Prop} (M : z_M X zm_M_way rm_M_way Post) {T' : Nat → Nat × Nat} {G' : Nat → Nat → Option Nat} {n : Nat} (fl : Nat → Nat) (hfl : zOK T' G' fl n) (f13 : Nat) (hf13 : zFo T' G' f13) {Q : (Int32) → Prop} (rc : Int32 → Int32 → (Int32)) (sr : Int32 → Int32 → Prop) (S : (Nat → Nat → Int32)) (x1 : Int32) (x2 : Int32) (x3 : Int32) (x6 : Int32) (hE : ∀ (y5 : Int32), Q y5 → z_G X zm_M_way (154, [(5, .inl y5)], [], zW T' G' S n, 0, 0)) (hC : ∀ (x5 : Int32) (x6 : Int32), Q (rc x5 x6) → sr x5 x6 → z_G X zm_M_way (22, [(0, z_r 78), (1, .inl x1), (2, .inl x2), (3, .inl x3), (4, z_r f13), (5, .inl x5), (6, .inl x6)], [], zW T' G' S n, 0, 0)) (K : Q (F_M_way_l22_145 fl f13 rc S x1 x2 x3 x6)) (hs : Sf_M_way_l22_145 fl f13 rc sr S x1 x2 x3 x6) : z_G X zm_M_way (145, [(0, z_r 78), (1, .inl x1), (2, .inl x2), (3, .inl x3), (4, z_r f13), (6, .inl x6)], [], zW T' G' S n, 0, 0) := by
  unfold F_M_way_l22_145 at K
  unfold Sf_M_way_l22_145 at hs
  refine z_go2 M.1 145 [(.iconst (-1), 1), (.istore 5, 2), (.iinc 6 1, 3), (.goto (-129), 3)] (22, [(6, .inl (x6 + 1)), (5, .inl (-1)), (0, z_r 78), (1, .inl x1), (2, .inl x2), (3, .inl x3), (4, z_r f13)], [], zW T' G' S n, 0, 0) (by decide +kernel) rfl ⟨trivial, trivial, trivial, trivial, trivial⟩ ?_
  exact z_lvs (lv' := [(0, z_r 78), (1, .inl x1), (2, .inl x2), (3, .inl x3), (4, z_r f13), (5, .inl (-1)), (6, .inl (x6 + 1))]) [2, 3, 4, 5, 6, 1, 0] rfl (hC (-1) (x6 + 1) K hs)
def F_M_way_l22_105 (fl : Nat → Nat) (f13 : Nat) (rc : Int32 → Int32 → (Int32)) (S : (Nat → Nat → Int32)) (x1 : Int32) (x2 : Int32) (x3 : Int32) (x6 : Int32) (s0 : Int32) : (Int32) := (if s0 = 0 then (F_M_way_l22_145 fl f13 rc S x1 x2 x3 x6) else (if (F_M_isMet 86 S x2 (S (f13 + 4) (x6).toNatClampNeg) (S (f13 + 5) (x6).toNatClampNeg)) = 0 then (F_M_way_l22_145 fl f13 rc S x1 x2 x3 x6) else (rc x6 (x6 + 1))))
def Sf_M_way_l22_105 (fl : Nat → Nat) (f13 : Nat) (rc : Int32 → Int32 → (Int32)) (sr : Int32 → Int32 → Prop) (S : (Nat → Nat → Int32)) (x1 : Int32) (x2 : Int32) (x3 : Int32) (x6 : Int32) (s0 : Int32) : Prop := (if s0 = 0 then (Sf_M_way_l22_145 fl f13 rc sr S x1 x2 x3 x6) else ((vp_in x6 8) ∧ ((vp_in x6 8) ∧ (Sf_M_isMet 86 S x2 (S (f13 + 4) (x6).toNatClampNeg) (S (f13 + 5) (x6).toNatClampNeg) ∧ (if (F_M_isMet 86 S x2 (S (f13 + 4) (x6).toNatClampNeg) (S (f13 + 5) (x6).toNatClampNeg)) = 0 then (Sf_M_way_l22_145 fl f13 rc sr S x1 x2 x3 x6) else (sr x6 (x6 + 1)))))))
theorem t_M_way_l22_105 {X : z_X} {Post : Option z_V → z_W → Prop} (M : z_M X zm_M_way rm_M_way Post) {T' : Nat → Nat × Nat} {G' : Nat → Nat → Option Nat} {n : Nat} (fl : Nat → Nat) (hfl : zOK T' G' fl n) (f13 : Nat) (hf13 : zFo T' G' f13) {Q : (Int32) → Prop} (rc : Int32 → Int32 → (Int32)) (sr : Int32 → Int32 → Prop) (S : (Nat → Nat → Int32)) (x1 : Int32) (x2 : Int32) (x3 : Int32) (x6 : Int32) (s0 : Int32) (hE : ∀ (y5 : Int32), Q y5 → z_G X zm_M_way (154, [(5, .inl y5)], [], zW T' G' S n, 0, 0)) (hC : ∀ (x5 : Int32) (x6 : Int32), Q (rc x5 x6) → sr x5 x6 → z_G X zm_M_way (22, [(0, z_r 78), (1, .inl x1), (2, .inl x2), (3, .inl x3), (4, z_r f13), (5, .inl x5), (6, .inl x6)], [], zW T' G' S n, 0, 0)) (K : Q (F_M_way_l22_105 fl f13 rc S x1 x2 x3 x6 s0)) (hs : Sf_M_way_l22_105 fl f13 rc sr S x1 x2 x3 x6 s0) : z_G X zm_M_way (105, [(0, z_r 78), (1, .inl x1), (2, .inl x2), (3, .inl x3), (4, z_r f13), (6, .inl x6)], [.inl s0], zW T' G' S n, 0, 0) := by
  unfold F_M_way_l22_105 at K
  unfold Sf_M_way_l22_105 at hs
  refine z_go2 M.1 105 [(.istore 7, 2), (.iload 7, 2)] (109, [(7, .inl s0), (0, z_r 78), (1, .inl x1), (2, .inl x2), (3, .inl x3), (4, z_r f13), (6, .inl x6)], [.inl s0], zW T' G' S n, 0, 0) (by decide +kernel) rfl ⟨trivial, trivial, trivial⟩ ?_
  refine z_if_eq 145 M.1 (off := 36) (by decide +kernel) (by decide) (fun c109 => ?_) (fun c109 => ?_)
  · rw [if_pos c109] at K hs
    exact z_lvs (lv' := [(0, z_r 78), (1, .inl x1), (2, .inl x2), (3, .inl x3), (4, z_r f13), (6, .inl x6)]) [1, 2, 3, 4, 5, 6] rfl (t_M_way_l22_145 M fl hfl f13 hf13 rc sr S x1 x2 x3 x6 hE hC K hs)
  · rw [if_neg c109] at K hs
    refine z_go2 M.1 112 [(.aload_n 0, 1), (.aload_n 0, 1), (.getfield 34, 3), (.iload_n 2, 1), (.aload 4, 2)] (120, [(7, .inl s0), (0, z_r 78), (1, .inl x1), (2, .inl x2), (3, .inl x3), (4, z_r f13), (6, .inl x6)], [z_r f13, .inl x2, z_r 86, z_r 78], zW T' G' S n, 0, 0) (by decide +kernel) rfl ⟨trivial, trivial, rfl, trivial, trivial, trivial⟩ ?_
    refine z_getR M.1 (idx := 354) (ci := 12) (j := 5) (a := f13) (r := (f13 + 4)) (by decide +kernel) (by decide) hf13.t (hf13.g 5 (by decide) (by decide)) ?_
    refine z_go2 M.1 123 [(.iload 6, 2)] (125, [(7, .inl s0), (0, z_r 78), (1, .inl x1), (2, .inl x2), (3, .inl x3), (4, z_r f13), (6, .inl x6)], [.inl x6, z_r (f13 + 4), .inl x2, z_r 86, z_r 78], zW T' G' S n, 0, 0) (by decide +kernel) rfl ⟨trivial, trivial⟩ ?_
    refine z_ialD M.1 (a := (f13 + 4)) (len := 8) (x := (S (f13 + 4) (x6).toNatClampNeg)) (by decide +kernel) (hf13.a 4 (by decide) (by decide)) hs.1 rfl ?_
    replace hs := hs.2
    refine z_go2 M.1 126 [(.aload 4, 2)] (128, [(7, .inl s0), (0, z_r 78), (1, .inl x1), (2, .inl x2), (3, .inl x3), (4, z_r f13), (6, .inl x6)], [z_r f13, .inl (S (f13 + 4) (x6).toNatClampNeg), .inl x2, z_r 86, z_r 78], zW T' G' S n, 0, 0) (by decide +kernel) rfl ⟨trivial, trivial⟩ ?_
    refine z_getR M.1 (idx := 355) (ci := 12) (j := 6) (a := f13) (r := (f13 + 5)) (by decide +kernel) (by decide) hf13.t (hf13.g 6 (by decide) (by decide)) ?_
    refine z_go2 M.1 131 [(.iload 6, 2)] (133, [(7, .inl s0), (0, z_r 78), (1, .inl x1), (2, .inl x2), (3, .inl x3), (4, z_r f13), (6, .inl x6)], [.inl x6, z_r (f13 + 5), .inl (S (f13 + 4) (x6).toNatClampNeg), .inl x2, z_r 86, z_r 78], zW T' G' S n, 0, 0) (by decide +kernel) rfl ⟨trivial, trivial⟩ ?_
    refine z_ialD M.1 (a := (f13 + 5)) (len := 8) (x := (S (f13 + 5) (x6).toNatClampNeg)) (by decide +kernel) (hf13.a 5 (by decide) (by decide)) hs.1 rfl ?_
    replace hs := hs.2
    refine z_callV M.1 (av := [z_r 86, .inl x2, .inl (S (f13 + 4) (x6).toNatClampNeg), .inl (S (f13 + 5) (x6).toNatClampNeg)]) (st := []) (a := 78) (ci := 14) (by decide +kernel) (c_M_isMet_86 T' G' S n x2 (S (f13 + 4) (x6).toNatClampNeg) (S (f13 + 5) (x6).toNatClampNeg) hs.1) M.2.1 zl_M_253 zv_M_isMet rfl rfl rfl ⟨by decide, by decide, by decide, by decide⟩ rfl (Nat.le_of_ble_eq_true rfl) (fun v w' hv => ?_)
    obtain ⟨rfl, rfl⟩ := hv
    replace hs := hs.2
    show z_G X zm_M_way (137, [(7, .inl s0), (0, z_r 78), (1, .inl x1), (2, .inl x2), (3, .inl x3), (4, z_r f13), (6, .inl x6)], [.inl (F_M_isMet 86 S x2 (S (f13 + 4) (x6).toNatClampNeg) (S (f13 + 5) (x6).toNatClampNeg))], zW T' G' S n, 0, 0)
    refine z_if_eq 145 M.1 (off := 8) (by decide +kernel) (by decide) (fun c137 => ?_) (fun c137 => ?_)
    · rw [if_pos c137] at K hs
      exact z_lvs (lv' := [(0, z_r 78), (1, .inl x1), (2, .inl x2), (3, .inl x3), (4, z_r f13), (6, .inl x6)]) [1, 2, 3, 4, 5, 6] rfl (t_M_way_l22_145 M fl hfl f13 hf13 rc sr S x1 x2 x3 x6 hE hC K hs)
    · rw [if_neg c137] at K hs
      refine z_go2 M.1 140 [(.iload 6, 2), (.goto 4, 3), (.istore 5, 2), (.iinc 6 1, 3), (.goto (-129), 3)] (22, [(6, .inl (x6 + 1)), (5, .inl x6), (7, .inl s0), (0, z_r 78), (1, .inl x1), (2, .inl x2), (3, .inl x3), (4, z_r f13)], [], zW T' G' S n, 0, 0) (by decide +kernel) rfl ⟨trivial, trivial, trivial, trivial, trivial, trivial⟩ ?_
      exact z_lvs (lv' := [(0, z_r 78), (1, .inl x1), (2, .inl x2), (3, .inl x3), (4, z_r f13), (5, .inl x6), (6, .inl (x6 + 1))]) [3, 4, 5, 6, 7, 1, 0] rfl (hC x6 (x6 + 1) K hs)
def F_M_way_l22_104 (fl : Nat → Nat) (f13 : Nat) (rc : Int32 → Int32 → (Int32)) (S : (Nat → Nat → Int32)) (x1 : Int32) (x2 : Int32) (x3 : Int32) (x6 : Int32) : (Int32) := (F_M_way_l22_105 fl f13 rc S x1 x2 x3 x6 0)
def Sf_M_way_l22_104 (fl : Nat → Nat) (f13 : Nat) (rc : Int32 → Int32 → (Int32)) (sr : Int32 → Int32 → Prop) (S : (Nat → Nat → Int32)) (x1 : Int32) (x2 : Int32) (x3 : Int32) (x6 : Int32) : Prop := (Sf_M_way_l22_105 fl f13 rc sr S x1 x2 x3 x6 0)
theorem t_M_way_l22_104 {X : z_X} {Post : Option z_V → z_W → Prop} (M : z_M X zm_M_way rm_M_way Post) {T' : Nat → Nat × Nat} {G' : Nat → Nat → Option Nat} {n : Nat} (fl : Nat → Nat) (hfl : zOK T' G' fl n) (f13 : Nat) (hf13 : zFo T' G' f13) {Q : (Int32) → Prop} (rc : Int32 → Int32 → (Int32)) (sr : Int32 → Int32 → Prop) (S : (Nat → Nat → Int32)) (x1 : Int32) (x2 : Int32) (x3 : Int32) (x6 : Int32) (hE : ∀ (y5 : Int32), Q y5 → z_G X zm_M_way (154, [(5, .inl y5)], [], zW T' G' S n, 0, 0)) (hC : ∀ (x5 : Int32) (x6 : Int32), Q (rc x5 x6) → sr x5 x6 → z_G X zm_M_way (22, [(0, z_r 78), (1, .inl x1), (2, .inl x2), (3, .inl x3), (4, z_r f13), (5, .inl x5), (6, .inl x6)], [], zW T' G' S n, 0, 0)) (K : Q (F_M_way_l22_104 fl f13 rc S x1 x2 x3 x6)) (hs : Sf_M_way_l22_104 fl f13 rc sr S x1 x2 x3 x6) : z_G X zm_M_way (104, [(0, z_r 78), (1, .inl x1), (2, .inl x2), (3, .inl x3), (4, z_r f13), (6, .inl x6)], [], zW T' G' S n, 0, 0) := by
  unfold F_M_way_l22_104 at K
  unfold Sf_M_way_l22_104 at hs
  refine z_go2 M.1 104 [(.iconst 0, 1)] (105, [(0, z_r 78), (1, .inl x1), (2, .inl x2), (3, .inl x3), (4, z_r f13), (6, .inl x6)], [.inl 0], zW T' G' S n, 0, 0) (by decide +kernel) rfl ⟨trivial, trivial⟩ ?_
  exact z_lvs (lv' := [(0, z_r 78), (1, .inl x1), (2, .inl x2), (3, .inl x3), (4, z_r f13), (6, .inl x6)]) [0, 1, 2, 3, 4, 5] rfl (t_M_way_l22_105 M fl hfl f13 hf13 rc sr S x1 x2 x3 x6 0 hE hC K hs)
def F_M_way_L22 (fl : Nat → Nat) (f13 : Nat) (S : (Nat → Nat → Int32)) (x1 : Int32) (x2 : Int32) (x3 : Int32) : Nat → Int32 → Int32 → (Int32)
  | 0, x5, x6 => x5
  | f + 1, x5, x6 => (if (S f13 1) ≤ x6 then x5 else (if x5 = (-1) then (if (S (f13 + 1) (x6).toNatClampNeg) = (S 89 (x2).toNatClampNeg) then (if (S (f13 + 2) (x6).toNatClampNeg) = x3 then (if ((S (f13 + 3) (x6).toNatClampNeg) &&& (F_M_rolesOf 86 S x1 (S 87 (x2).toNatClampNeg))) = 0 then (F_M_way_l22_104 fl f13 (F_M_way_L22 fl f13 S x1 x2 x3 f) S x1 x2 x3 x6) else (F_M_way_l22_105 fl f13 (F_M_way_L22 fl f13 S x1 x2 x3 f) S x1 x2 x3 x6 1)) else (F_M_way_l22_104 fl f13 (F_M_way_L22 fl f13 S x1 x2 x3 f) S x1 x2 x3 x6)) else (F_M_way_l22_104 fl f13 (F_M_way_L22 fl f13 S x1 x2 x3 f) S x1 x2 x3 x6)) else x5))
def Sf_M_way_L22 (fl : Nat → Nat) (f13 : Nat) (S : (Nat → Nat → Int32)) (x1 : Int32) (x2 : Int32) (x3 : Int32) : Nat → Int32 → Int32 → Prop
  | 0, _, _ => False
  | f + 1, x5, x6 => (if (S f13 1) ≤ x6 then True else (if x5 = (-1) then ((vp_in x6 8) ∧ ((vp_in x2 30) ∧ (if (S (f13 + 1) (x6).toNatClampNeg) = (S 89 (x2).toNatClampNeg) then ((vp_in x6 8) ∧ (if (S (f13 + 2) (x6).toNatClampNeg) = x3 then ((vp_in x6 8) ∧ ((vp_in x2 30) ∧ (Sf_M_rolesOf 86 S x1 (S 87 (x2).toNatClampNeg) ∧ (if ((S (f13 + 3) (x6).toNatClampNeg) &&& (F_M_rolesOf 86 S x1 (S 87 (x2).toNatClampNeg))) = 0 then (Sf_M_way_l22_104 fl f13 (F_M_way_L22 fl f13 S x1 x2 x3 f) (Sf_M_way_L22 fl f13 S x1 x2 x3 f) S x1 x2 x3 x6) else (Sf_M_way_l22_105 fl f13 (F_M_way_L22 fl f13 S x1 x2 x3 f) (Sf_M_way_L22 fl f13 S x1 x2 x3 f) S x1 x2 x3 x6 1))))) else (Sf_M_way_l22_104 fl f13 (F_M_way_L22 fl f13 S x1 x2 x3 f) (Sf_M_way_L22 fl f13 S x1 x2 x3 f) S x1 x2 x3 x6))) else (Sf_M_way_l22_104 fl f13 (F_M_way_L22 fl f13 S x1 x2 x3 f) (Sf_M_way_L22 fl f13 S x1 x2 x3 f) S x1 x2 x3 x6)))) else True))
theorem t_M_way_L22 {X : z_X} {Post : Option z_V → z_W → Prop} (M : z_M X zm_M_way rm_M_way Post) {T' : Nat → Nat × Nat} {G' : Nat → Nat → Option Nat} {n : Nat} (fl : Nat → Nat) (hfl : zOK T' G' fl n) (f13 : Nat) (hf13 : zFo T' G' f13) {Q : (Int32) → Prop} (S : (Nat → Nat → Int32))  (x1 : Int32) (x2 : Int32) (x3 : Int32) (hE : ∀ (y5 : Int32), Q y5 → z_G X zm_M_way (154, [(5, .inl y5)], [], zW T' G' S n, 0, 0)) (f : Nat) : ∀ (x5 : Int32) (x6 : Int32), Q (F_M_way_L22 fl f13 S x1 x2 x3 f x5 x6) → Sf_M_way_L22 fl f13 S x1 x2 x3 f x5 x6 → z_G X zm_M_way (22, [(0, z_r 78), (1, .inl x1), (2, .inl x2), (3, .inl x3), (4, z_r f13), (5, .inl x5), (6, .inl x6)], [], zW T' G' S n, 0, 0) := by
  induction f with
  | zero => intro x5 x6 K hs; exact False.elim hs
  | succ f hC =>
    intro x5 x6 K hs
    rw [F_M_way_L22] at K
    rw [Sf_M_way_L22] at hs
    refine z_go2 M.1 22 [(.iload 6, 2), (.aload 4, 2)] (26, [(0, z_r 78), (1, .inl x1), (2, .inl x2), (3, .inl x3), (4, z_r f13), (5, .inl x5), (6, .inl x6)], [z_r f13, .inl x6], zW T' G' S n, 0, 0) (by decide +kernel) rfl ⟨trivial, trivial, trivial⟩ ?_
    refine z_getI M.1 (idx := 319) (ci := 12) (j := 1) (a := f13) (x := (S f13 1)) (by decide +kernel) (by decide) hf13.t rfl ?_
    refine z_icmp_ge 154 M.1 (off := 125) (by decide +kernel) (by decide) (fun c29 => ?_) (fun c29 => ?_)
    · rw [if_pos c29] at K hs
      exact z_lvs (lv' := [(5, .inl x5)]) [5] rfl (hE x5 K)
    · rw [if_neg c29] at K hs
      refine z_go2 M.1 32 [(.iload 5, 2), (.iconst (-1), 1)] (35, [(0, z_r 78), (1, .inl x1), (2, .inl x2), (3, .inl x3), (4, z_r f13), (5, .inl x5), (6, .inl x6)], [.inl (-1), .inl x5], zW T' G' S n, 0, 0) (by decide +kernel) rfl ⟨trivial, trivial, trivial⟩ ?_
      refine z_icmp_ne 154 M.1 (off := 119) (by decide +kernel) (by decide) (fun c35 => ?_) (fun c35 => ?_)
      · rw [if_neg c35] at K hs
        exact z_lvs (lv' := [(5, .inl x5)]) [5] rfl (hE x5 K)
      · rw [if_pos c35] at K hs
        refine z_go2 M.1 38 [(.aload 4, 2)] (40, [(0, z_r 78), (1, .inl x1), (2, .inl x2), (3, .inl x3), (4, z_r f13), (5, .inl x5), (6, .inl x6)], [z_r f13], zW T' G' S n, 0, 0) (by decide +kernel) rfl ⟨trivial, trivial⟩ ?_
        refine z_getR M.1 (idx := 347) (ci := 12) (j := 2) (a := f13) (r := (f13 + 1)) (by decide +kernel) (by decide) hf13.t (hf13.g 2 (by decide) (by decide)) ?_
        refine z_go2 M.1 43 [(.iload 6, 2)] (45, [(0, z_r 78), (1, .inl x1), (2, .inl x2), (3, .inl x3), (4, z_r f13), (5, .inl x5), (6, .inl x6)], [.inl x6, z_r (f13 + 1)], zW T' G' S n, 0, 0) (by decide +kernel) rfl ⟨trivial, trivial⟩ ?_
        refine z_ialD M.1 (a := (f13 + 1)) (len := 8) (x := (S (f13 + 1) (x6).toNatClampNeg)) (by decide +kernel) (hf13.a 1 (by decide) (by decide)) hs.1 rfl ?_
        replace hs := hs.2
        refine z_go2 M.1 46 [(.aload_n 0, 1), (.getfield 34, 3), (.getfield 198, 3), (.iload_n 2, 1), (.iaload, 1)] (55, [(0, z_r 78), (1, .inl x1), (2, .inl x2), (3, .inl x3), (4, z_r f13), (5, .inl x5), (6, .inl x6)], [.inl (S 89 (x2).toNatClampNeg), .inl (S (f13 + 1) (x6).toNatClampNeg)], zW T' G' S n, 0, 0) (by decide +kernel) rfl ⟨trivial, rfl, rfl, trivial, ⟨rfl, hs.1⟩, trivial⟩ ?_
        replace hs := hs.2
        refine z_icmp_ne 104 M.1 (off := 49) (by decide +kernel) (by decide) (fun c55 => ?_) (fun c55 => ?_)
        · rw [if_neg c55] at K hs
          exact z_lvs (lv' := [(0, z_r 78), (1, .inl x1), (2, .inl x2), (3, .inl x3), (4, z_r f13), (6, .inl x6)]) [0, 1, 2, 3, 4, 6] rfl (t_M_way_l22_104 M fl hfl f13 hf13 (F_M_way_L22 fl f13 S x1 x2 x3 f) (Sf_M_way_L22 fl f13 S x1 x2 x3 f) S x1 x2 x3 x6 hE hC K hs)
        · rw [if_pos c55] at K hs
          refine z_go2 M.1 58 [(.aload 4, 2)] (60, [(0, z_r 78), (1, .inl x1), (2, .inl x2), (3, .inl x3), (4, z_r f13), (5, .inl x5), (6, .inl x6)], [z_r f13], zW T' G' S n, 0, 0) (by decide +kernel) rfl ⟨trivial, trivial⟩ ?_
          refine z_getR M.1 (idx := 350) (ci := 12) (j := 3) (a := f13) (r := (f13 + 2)) (by decide +kernel) (by decide) hf13.t (hf13.g 3 (by decide) (by decide)) ?_
          refine z_go2 M.1 63 [(.iload 6, 2)] (65, [(0, z_r 78), (1, .inl x1), (2, .inl x2), (3, .inl x3), (4, z_r f13), (5, .inl x5), (6, .inl x6)], [.inl x6, z_r (f13 + 2)], zW T' G' S n, 0, 0) (by decide +kernel) rfl ⟨trivial, trivial⟩ ?_
          refine z_ialD M.1 (a := (f13 + 2)) (len := 8) (x := (S (f13 + 2) (x6).toNatClampNeg)) (by decide +kernel) (hf13.a 2 (by decide) (by decide)) hs.1 rfl ?_
          replace hs := hs.2
          refine z_go2 M.1 66 [(.iload_n 3, 1)] (67, [(0, z_r 78), (1, .inl x1), (2, .inl x2), (3, .inl x3), (4, z_r f13), (5, .inl x5), (6, .inl x6)], [.inl x3, .inl (S (f13 + 2) (x6).toNatClampNeg)], zW T' G' S n, 0, 0) (by decide +kernel) rfl ⟨trivial, trivial⟩ ?_
          refine z_icmp_ne 104 M.1 (off := 37) (by decide +kernel) (by decide) (fun c67 => ?_) (fun c67 => ?_)
          · rw [if_neg c67] at K hs
            exact z_lvs (lv' := [(0, z_r 78), (1, .inl x1), (2, .inl x2), (3, .inl x3), (4, z_r f13), (6, .inl x6)]) [0, 1, 2, 3, 4, 6] rfl (t_M_way_l22_104 M fl hfl f13 hf13 (F_M_way_L22 fl f13 S x1 x2 x3 f) (Sf_M_way_L22 fl f13 S x1 x2 x3 f) S x1 x2 x3 x6 hE hC K hs)
          · rw [if_pos c67] at K hs
            refine z_go2 M.1 70 [(.aload 4, 2)] (72, [(0, z_r 78), (1, .inl x1), (2, .inl x2), (3, .inl x3), (4, z_r f13), (5, .inl x5), (6, .inl x6)], [z_r f13], zW T' G' S n, 0, 0) (by decide +kernel) rfl ⟨trivial, trivial⟩ ?_
            refine z_getR M.1 (idx := 353) (ci := 12) (j := 4) (a := f13) (r := (f13 + 3)) (by decide +kernel) (by decide) hf13.t (hf13.g 4 (by decide) (by decide)) ?_
            refine z_go2 M.1 75 [(.iload 6, 2)] (77, [(0, z_r 78), (1, .inl x1), (2, .inl x2), (3, .inl x3), (4, z_r f13), (5, .inl x5), (6, .inl x6)], [.inl x6, z_r (f13 + 3)], zW T' G' S n, 0, 0) (by decide +kernel) rfl ⟨trivial, trivial⟩ ?_
            refine z_ialD M.1 (a := (f13 + 3)) (len := 8) (x := (S (f13 + 3) (x6).toNatClampNeg)) (by decide +kernel) (hf13.a 3 (by decide) (by decide)) hs.1 rfl ?_
            replace hs := hs.2
            refine z_go2 M.1 78 [(.aload_n 0, 1), (.aload_n 0, 1), (.getfield 34, 3), (.iload_n 1, 1), (.aload_n 0, 1), (.getfield 34, 3), (.getfield 216, 3), (.iload_n 2, 1), (.iaload, 1)] (93, [(0, z_r 78), (1, .inl x1), (2, .inl x2), (3, .inl x3), (4, z_r f13), (5, .inl x5), (6, .inl x6)], [.inl (S 87 (x2).toNatClampNeg), .inl x1, z_r 86, z_r 78, .inl (S (f13 + 3) (x6).toNatClampNeg)], zW T' G' S n, 0, 0) (by decide +kernel) rfl ⟨trivial, trivial, rfl, trivial, trivial, rfl, rfl, trivial, ⟨rfl, hs.1⟩, trivial⟩ ?_
            replace hs := hs.2
            refine z_callV M.1 (av := [z_r 86, .inl x1, .inl (S 87 (x2).toNatClampNeg)]) (st := [.inl (S (f13 + 3) (x6).toNatClampNeg)]) (a := 78) (ci := 14) (by decide +kernel) (c_M_rolesOf_86 T' G' S n x1 (S 87 (x2).toNatClampNeg) hs.1) M.2.1 zl_M_229 zv_M_rolesOf rfl rfl rfl ⟨by decide, by decide, by decide, by decide⟩ rfl (Nat.le_of_ble_eq_true rfl) (fun v w' hv => ?_)
            obtain ⟨rfl, rfl⟩ := hv
            replace hs := hs.2
            show z_G X zm_M_way (96, [(0, z_r 78), (1, .inl x1), (2, .inl x2), (3, .inl x3), (4, z_r f13), (5, .inl x5), (6, .inl x6)], [.inl (F_M_rolesOf 86 S x1 (S 87 (x2).toNatClampNeg)), .inl (S (f13 + 3) (x6).toNatClampNeg)], zW T' G' S n, 0, 0)
            refine z_go2 M.1 96 [(.iand, 1)] (97, [(0, z_r 78), (1, .inl x1), (2, .inl x2), (3, .inl x3), (4, z_r f13), (5, .inl x5), (6, .inl x6)], [.inl ((S (f13 + 3) (x6).toNatClampNeg) &&& (F_M_rolesOf 86 S x1 (S 87 (x2).toNatClampNeg)))], zW T' G' S n, 0, 0) (by decide +kernel) rfl ⟨trivial, trivial⟩ ?_
            refine z_if_eq 104 M.1 (off := 7) (by decide +kernel) (by decide) (fun c97 => ?_) (fun c97 => ?_)
            · rw [if_pos c97] at K hs
              exact z_lvs (lv' := [(0, z_r 78), (1, .inl x1), (2, .inl x2), (3, .inl x3), (4, z_r f13), (6, .inl x6)]) [0, 1, 2, 3, 4, 6] rfl (t_M_way_l22_104 M fl hfl f13 hf13 (F_M_way_L22 fl f13 S x1 x2 x3 f) (Sf_M_way_L22 fl f13 S x1 x2 x3 f) S x1 x2 x3 x6 hE hC K hs)
            · rw [if_neg c97] at K hs
              refine z_go2 M.1 100 [(.iconst 1, 1), (.goto 4, 3)] (105, [(0, z_r 78), (1, .inl x1), (2, .inl x2), (3, .inl x3), (4, z_r f13), (5, .inl x5), (6, .inl x6)], [.inl 1], zW T' G' S n, 0, 0) (by decide +kernel) rfl ⟨trivial, trivial, trivial⟩ ?_
              exact z_lvs (lv' := [(0, z_r 78), (1, .inl x1), (2, .inl x2), (3, .inl x3), (4, z_r f13), (6, .inl x6)]) [0, 1, 2, 3, 4, 6] rfl (t_M_way_l22_105 M fl hfl f13 hf13 (F_M_way_L22 fl f13 S x1 x2 x3 f) (Sf_M_way_L22 fl f13 S x1 x2 x3 f) S x1 x2 x3 x6 1 hE hC K hs)
def F_M_way (fl : Nat → Nat) (S : (Nat → Nat → Int32)) (p1 : Int32) (p2 : Int32) (p3 : Int32) : Int32 := (z_letN (fl (S 88 (p2).toNatClampNeg).toNatClampNeg) (fun f13 => (match F_M_way_L22 fl f13 S p1 p2 p3 1300 (-1) 0 with | y5_22 => y5_22)))
def Sf_M_way (fl : Nat → Nat) (S : (Nat → Nat → Int32)) (p1 : Int32) (p2 : Int32) (p3 : Int32) : Prop := ((vp_in p2 30) ∧ (z_letN (fl (S 88 (p2).toNatClampNeg).toNatClampNeg) (fun f13 => ((vp_in (S 88 (p2).toNatClampNeg) 3) ∧ (Sf_M_way_L22 fl f13 S p1 p2 p3 1300 (-1) 0 ∧ True)))))
theorem c_M_way (T' : Nat → Nat × Nat) (G' : Nat → Nat → Option Nat) (n : Nat) (fl : Nat → Nat) (hfl : zOK T' G' fl n) (S : (Nat → Nat → Int32)) (p1 : Int32) (p2 : Int32) (p3 : Int32) (hs : Sf_M_way fl S p1 p2 p3) : z_Run rm_M_way zm_M_way [z_r 78, .inl p1, .inl p2, .inl p3] (zW T' G' S n) (zq (some (.inl (F_M_way fl S p1 p2 p3))) (zW T' G' S n)) := by
  refine z_body (by decide) zf_M_ok (Nat.le_of_ble_eq_true rfl) (fun X M => ?_)
  obtain ⟨Q, hQ, K⟩ : ∃ Q : Int32 → Prop, (∀ v, Q v → zq (some (.inl (F_M_way fl S p1 p2 p3))) (zW T' G' S n) (some (.inl v)) (zW T' G' S n)) ∧ Q (F_M_way fl S p1 p2 p3) := ⟨fun o => F_M_way fl S p1 p2 p3 = o, fun v h => ⟨by rw [h], rfl⟩, rfl⟩
  show z_G X zm_M_way (0, [(0, z_r 78), (1, .inl p1), (2, .inl p2), (3, .inl p3)], [], zW T' G' S n, 0, 0)
  unfold F_M_way at K
  unfold Sf_M_way at hs
  refine z_go2 M.1 0 [(.aload_n 0, 1), (.getfield 74, 3), (.aload_n 0, 1), (.getfield 34, 3), (.getfield 237, 3), (.iload_n 2, 1), (.iaload, 1)] (13, [(0, z_r 78), (1, .inl p1), (2, .inl p2), (3, .inl p3)], [.inl (S 88 (p2).toNatClampNeg), z_r 131], zW T' G' S n, 0, 0) (by decide +kernel) rfl ⟨trivial, rfl, trivial, rfl, rfl, trivial, ⟨rfl, hs.1⟩, trivial⟩ ?_
  replace hs := hs.2
  obtain ⟨f13, he13⟩ : ∃ y, fl (S 88 (p2).toNatClampNeg).toNatClampNeg = y := ⟨_, rfl⟩
  have hf13 : zFo T' G' f13 := he13 ▸ (hfl.fl (z_in3 hs.1)).2
  refine z_aalF M.1 (a := 131) (len := 3) (r := f13) (by decide +kernel) rfl hs.1 ((hfl.fl (z_in3 hs.1)).1.trans (congrArg some he13)) ?_
  rw [he13] at K hs
  try dsimp only [z_letN] at K hs
  replace hs := hs.2
  refine z_go2 M.1 14 [(.astore 4, 2), (.iconst (-1), 1), (.istore 5, 2), (.iconst 0, 1), (.istore 6, 2)] (22, [(6, .inl 0), (5, .inl (-1)), (4, z_r f13), (0, z_r 78), (1, .inl p1), (2, .inl p2), (3, .inl p3)], [], zW T' G' S n, 0, 0) (by decide +kernel) rfl ⟨trivial, trivial, trivial, trivial, trivial, trivial⟩ ?_
  refine z_lvs (lv' := [(0, z_r 78), (1, .inl p1), (2, .inl p2), (3, .inl p3), (4, z_r f13), (5, .inl (-1)), (6, .inl 0)]) [3, 4, 5, 6, 2, 1, 0] rfl ?_
  refine t_M_way_L22 M fl hfl f13 hf13 (Q := fun o => F_M_way_L22 fl f13 S p1 p2 p3 1300 (-1) 0 = o) S p1 p2 p3 (fun y5_22 hL22 => ?_) 1300 (-1) 0 rfl hs.1
  replace hs := hs.2
  rw [hL22] at K
  try dsimp only at K
  refine z_go2 M.1 154 [(.iload 5, 2)] (156, [(5, .inl y5_22)], [.inl y5_22], zW T' G' S n, 0, 0) (by decide +kernel) rfl ⟨trivial, trivial⟩ ?_
  exact z_iret M (by decide +kernel) .int rfl rfl (by decide) (by decide) (hQ _ K)

-- TrackHouseModel.move
abbrev rm_M_move : Room := zr 7
def F_M_move_j201 (fl : Nat → Nat) (S : (Nat → Nat → Int32)) (x4 : Int32) (s0 : Int32) : (Int32 × (Nat → Nat → Int32)) := (if s0 ≤ 0 then (x4, (z_uS S 78 0 s0)) else (0, (z_uS S 78 0 s0)))
theorem t_M_move_j201 {X : z_X} {Post : Option z_V → z_W → Prop} (M : z_M X zm_M_move rm_M_move Post) {T' : Nat → Nat × Nat} {G' : Nat → Nat → Option Nat} {n : Nat} (fl : Nat → Nat) (hfl : zOK T' G' fl n) {Q : (Int32 × (Nat → Nat → Int32)) → Prop} (S : (Nat → Nat → Int32)) (x4 : Int32) (s0 : Int32) (hQ : ∀ v S', Q (v, S') → Post (some (.inl v)) (zW T' G' S' n)) (K : Q (F_M_move_j201 fl S x4 s0)) : z_G X zm_M_move (201, [(0, z_r 78), (4, .inl x4)], [.inl s0, z_r 78], zW T' G' S n, 0, 0) := by
  unfold F_M_move_j201 at K
  refine z_go2 M.1 201 [(.putfield 175, 3), (.aload_n 0, 1), (.getfield 175, 3)] (208, [(0, z_r 78), (4, .inl x4)], [.inl s0], zW T' G' (z_uS S 78 0 s0) n, 0, 0) (by decide +kernel) rfl ⟨⟨rfl, trivial⟩, trivial, rfl, trivial⟩ ?_
  refine z_if_le 215 M.1 (off := 7) (by decide +kernel) (by decide) (fun c208 => ?_) (fun c208 => ?_)
  · rw [if_pos c208] at K
    refine z_go2 M.1 215 [(.iload 4, 2)] (217, [(0, z_r 78), (4, .inl x4)], [.inl x4], zW T' G' (z_uS S 78 0 s0) n, 0, 0) (by decide +kernel) rfl ⟨trivial, trivial⟩ ?_
    exact z_iret M (by decide +kernel) .int rfl rfl (by decide) (by decide) (hQ _ _ K)
  · rw [if_neg c208] at K
    refine z_go2 M.1 211 [(.iconst 0, 1), (.goto 5, 3)] (217, [(0, z_r 78), (4, .inl x4)], [.inl 0], zW T' G' (z_uS S 78 0 s0) n, 0, 0) (by decide +kernel) rfl ⟨trivial, trivial, trivial⟩ ?_
    exact z_iret M (by decide +kernel) .int rfl rfl (by decide) (by decide) (hQ _ _ K)
def F_M_move_j185 (fl : Nat → Nat) (S : (Nat → Nat → Int32)) (x4 : Int32) (x6 : Int32) : (Int32 × (Nat → Nat → Int32)) := (match F_M_stays fl S x6 1 with | (r190, S190) => (if r190 = 0 then (F_M_move_j201 fl S190 x4 3) else (F_M_move_j201 fl S190 x4 0)))
def Sf_M_move_j185 (fl : Nat → Nat) (S : (Nat → Nat → Int32)) (x4 : Int32) (x6 : Int32) : Prop := (Sf_M_stays fl S x6 1 ∧ True)
theorem t_M_move_j185 {X : z_X} {Post : Option z_V → z_W → Prop} (M : z_M X zm_M_move rm_M_move Post) {T' : Nat → Nat × Nat} {G' : Nat → Nat → Option Nat} {n : Nat} (fl : Nat → Nat) (hfl : zOK T' G' fl n) {Q : (Int32 × (Nat → Nat → Int32)) → Prop} (S : (Nat → Nat → Int32)) (x4 : Int32) (x6 : Int32) (hQ : ∀ v S', Q (v, S') → Post (some (.inl v)) (zW T' G' S' n)) (K : Q (F_M_move_j185 fl S x4 x6)) (hs : Sf_M_move_j185 fl S x4 x6) : z_G X zm_M_move (185, [(0, z_r 78), (4, .inl x4), (6, .inl x6)], [], zW T' G' S n, 0, 0) := by
  unfold F_M_move_j185 at K
  unfold Sf_M_move_j185 at hs
  refine z_go2 M.1 185 [(.aload_n 0, 1), (.aload_n 0, 1), (.iload 6, 2), (.iconst 1, 1)] (190, [(0, z_r 78), (4, .inl x4), (6, .inl x6)], [.inl 1, .inl x6, z_r 78, z_r 78], zW T' G' S n, 0, 0) (by decide +kernel) rfl ⟨trivial, trivial, trivial, trivial, trivial⟩ ?_
  refine z_callV M.1 (av := [.inl x6, .inl 1]) (st := [z_r 78]) (a := 78) (ci := 14) (by decide +kernel) (c_M_stays T' G' n fl hfl S x6 1 hs.1) M.2.1 zl_M_301 zv_M_stays rfl rfl rfl ⟨by decide, by decide, by decide, by decide⟩ rfl (Nat.le_of_ble_eq_true rfl) (fun v w' hv => ?_)
  replace hs := hs.2
  rcases hF190 : F_M_stays fl S x6 1 with ⟨r190, S190⟩
  rw [hF190] at K hv
  try dsimp only at K
  obtain ⟨rfl, rfl⟩ := hv
  show z_G X zm_M_move (193, [(0, z_r 78), (4, .inl x4), (6, .inl x6)], [.inl r190, z_r 78], zW T' G' S190 n, 0, 0)
  refine z_if_eq 200 M.1 (off := 7) (by decide +kernel) (by decide) (fun c193 => ?_) (fun c193 => ?_)
  · rw [if_pos c193] at K
    refine z_go2 M.1 200 [(.iconst 3, 1)] (201, [(0, z_r 78), (4, .inl x4), (6, .inl x6)], [.inl 3, z_r 78], zW T' G' S190 n, 0, 0) (by decide +kernel) rfl ⟨trivial, trivial⟩ ?_
    exact z_lvs (lv' := [(0, z_r 78), (4, .inl x4)]) [0, 1] rfl (t_M_move_j201 M fl hfl S190 x4 3 hQ K)
  · rw [if_neg c193] at K
    refine z_go2 M.1 196 [(.iconst 0, 1), (.goto 4, 3)] (201, [(0, z_r 78), (4, .inl x4), (6, .inl x6)], [.inl 0, z_r 78], zW T' G' S190 n, 0, 0) (by decide +kernel) rfl ⟨trivial, trivial, trivial⟩ ?_
    exact z_lvs (lv' := [(0, z_r 78), (4, .inl x4)]) [0, 1] rfl (t_M_move_j201 M fl hfl S190 x4 0 hQ K)
def F_M_move_j78 (fl : Nat → Nat) (S : (Nat → Nat → Int32)) (x1 : Int32) (x2 : Int32) (x3 : Int32) (x4 : Int32) (s0 : Int32) : (Int32 × (Nat → Nat → Int32)) := (if s0 ≤ 0 then (z_letN (fl (S 88 (x2).toNatClampNeg).toNatClampNeg) (fun f103 => (z_let (F_M_change 86 (z_uS S 78 0 s0) 2 x1 x2 0 x3) (fun S122 => (if (S122 (f103 + 6) (x4).toNatClampNeg) = 1 then (z_let (F_M_change 86 S122 4 x1 x2 0 x1) (fun S147 => (F_M_move_j185 fl S147 x4 (S 78 2)))) else (if (S122 (f103 + 6) (x4).toNatClampNeg) = 2 then (z_let (F_M_change 86 S122 3 x1 x2 (S122 (f103 + 4) (x4).toNatClampNeg) (-1)) (fun S182 => (match F_M_stays fl S182 (S 78 2) 1 with | (r190, S190) => (if r190 = 0 then (F_M_move_j201 fl S190 x4 3) else (F_M_move_j201 fl S190 x4 0))))) else (F_M_move_j185 fl S122 x4 (S 78 2)))))))) else (0, (z_uS S 78 0 s0)))
def Sf_M_move_j78 (fl : Nat → Nat) (S : (Nat → Nat → Int32)) (x1 : Int32) (x2 : Int32) (x3 : Int32) (x4 : Int32) (s0 : Int32) : Prop := (if s0 ≤ 0 then ((vp_in x2 30) ∧ (z_letN (fl (S 88 (x2).toNatClampNeg).toNatClampNeg) (fun f103 => ((vp_in (S 88 (x2).toNatClampNeg) 3) ∧ (Sf_M_change 86 (z_uS S 78 0 s0) 2 x1 x2 0 x3 ∧ (z_let (F_M_change 86 (z_uS S 78 0 s0) 2 x1 x2 0 x3) (fun S122 => ((vp_in x4 8) ∧ (if (S122 (f103 + 6) (x4).toNatClampNeg) = 1 then (Sf_M_change 86 S122 4 x1 x2 0 x1 ∧ (z_let (F_M_change 86 S122 4 x1 x2 0 x1) (fun S147 => (Sf_M_move_j185 fl S147 x4 (S 78 2))))) else ((vp_in x4 8) ∧ (if (S122 (f103 + 6) (x4).toNatClampNeg) = 2 then ((vp_in x4 8) ∧ (Sf_M_change 86 S122 3 x1 x2 (S122 (f103 + 4) (x4).toNatClampNeg) (-1) ∧ (z_let (F_M_change 86 S122 3 x1 x2 (S122 (f103 + 4) (x4).toNatClampNeg) (-1)) (fun S182 => (Sf_M_stays fl S182 (S 78 2) 1 ∧ True))))) else (Sf_M_move_j185 fl S122 x4 (S 78 2))))))))))))) else True)
theorem t_M_move_j78 {X : z_X} {Post : Option z_V → z_W → Prop} (M : z_M X zm_M_move rm_M_move Post) {T' : Nat → Nat × Nat} {G' : Nat → Nat → Option Nat} {n : Nat} (fl : Nat → Nat) (hfl : zOK T' G' fl n) {Q : (Int32 × (Nat → Nat → Int32)) → Prop} (S : (Nat → Nat → Int32)) (x1 : Int32) (x2 : Int32) (x3 : Int32) (x4 : Int32) (s0 : Int32) (hQ : ∀ v S', Q (v, S') → Post (some (.inl v)) (zW T' G' S' n)) (K : Q (F_M_move_j78 fl S x1 x2 x3 x4 s0)) (hs : Sf_M_move_j78 fl S x1 x2 x3 x4 s0) : z_G X zm_M_move (78, [(0, z_r 78), (1, .inl x1), (2, .inl x2), (3, .inl x3), (4, .inl x4)], [.inl s0, z_r 78], zW T' G' S n, 0, 0) := by
  unfold F_M_move_j78 at K
  unfold Sf_M_move_j78 at hs
  refine z_go2 M.1 78 [(.putfield 175, 3), (.aload_n 0, 1), (.getfield 175, 3)] (85, [(0, z_r 78), (1, .inl x1), (2, .inl x2), (3, .inl x3), (4, .inl x4)], [.inl s0], zW T' G' (z_uS S 78 0 s0) n, 0, 0) (by decide +kernel) rfl ⟨⟨rfl, trivial⟩, trivial, rfl, trivial⟩ ?_
  refine z_if_le 90 M.1 (off := 5) (by decide +kernel) (by decide) (fun c85 => ?_) (fun c85 => ?_)
  · rw [if_pos c85] at K hs
    refine z_go2 M.1 90 [(.aload_n 0, 1), (.getfield 74, 3), (.aload_n 0, 1), (.getfield 34, 3), (.getfield 237, 3), (.iload_n 2, 1), (.iaload, 1)] (103, [(0, z_r 78), (1, .inl x1), (2, .inl x2), (3, .inl x3), (4, .inl x4)], [.inl (S 88 (x2).toNatClampNeg), z_r 131], zW T' G' (z_uS S 78 0 s0) n, 0, 0) (by decide +kernel) rfl ⟨trivial, rfl, trivial, rfl, rfl, trivial, ⟨rfl, hs.1⟩, trivial⟩ ?_
    replace hs := hs.2
    obtain ⟨f103, he103⟩ : ∃ y, fl (S 88 (x2).toNatClampNeg).toNatClampNeg = y := ⟨_, rfl⟩
    have hf103 : zFo T' G' f103 := he103 ▸ (hfl.fl (z_in3 hs.1)).2
    refine z_aalF M.1 (a := 131) (len := 3) (r := f103) (by decide +kernel) rfl hs.1 ((hfl.fl (z_in3 hs.1)).1.trans (congrArg some he103)) ?_
    rw [he103] at K hs
    try dsimp only [z_letN] at K hs
    replace hs := hs.2
    refine z_go2 M.1 104 [(.astore 5, 2), (.aload_n 0, 1), (.getfield 182, 3), (.istore 6, 2), (.aload_n 0, 1), (.aload_n 0, 1), (.getfield 34, 3), (.iconst 2, 1), (.iload_n 1, 1), (.iload_n 2, 1), (.iconst 0, 1), (.iload_n 3, 1)] (122, [(6, .inl (S 78 2)), (5, z_r f103), (0, z_r 78), (1, .inl x1), (2, .inl x2), (3, .inl x3), (4, .inl x4)], [.inl x3, .inl 0, .inl x2, .inl x1, .inl 2, z_r 86, z_r 78], zW T' G' (z_uS S 78 0 s0) n, 0, 0) (by decide +kernel) rfl ⟨trivial, trivial, rfl, trivial, trivial, trivial, rfl, trivial, trivial, trivial, trivial, trivial, trivial⟩ ?_
    refine z_callV M.1 (av := [z_r 86, .inl 2, .inl x1, .inl x2, .inl 0, .inl x3]) (st := []) (a := 78) (ci := 14) (by decide +kernel) (c_M_change_86 T' G' (z_uS S 78 0 s0) n 2 x1 x2 0 x3 hs.1) M.2.1 zl_M_259 zv_M_change rfl rfl rfl ⟨by decide, by decide, by decide, by decide⟩ rfl (Nat.le_of_ble_eq_true rfl) (fun v w' hv => ?_)
    replace hs := hs.2
    obtain ⟨S122, hF122⟩ : ∃ y, F_M_change 86 (z_uS S 78 0 s0) 2 x1 x2 0 x3 = y := ⟨_, rfl⟩
    rw [hF122] at K hv
    try rw [hF122] at hs
    try dsimp only [z_let] at K hs
    obtain ⟨rfl, rfl⟩ := hv
    show z_G X zm_M_move (125, [(6, .inl (S 78 2)), (5, z_r f103), (0, z_r 78), (1, .inl x1), (2, .inl x2), (3, .inl x3), (4, .inl x4)], [], zW T' G' S122 n, 0, 0)
    refine z_go2 M.1 125 [(.aload 5, 2)] (127, [(6, .inl (S 78 2)), (5, z_r f103), (0, z_r 78), (1, .inl x1), (2, .inl x2), (3, .inl x3), (4, .inl x4)], [z_r f103], zW T' G' S122 n, 0, 0) (by decide +kernel) rfl ⟨trivial, trivial⟩ ?_
    refine z_getR M.1 (idx := 362) (ci := 12) (j := 7) (a := f103) (r := (f103 + 6)) (by decide +kernel) (by decide) hf103.t (hf103.g 7 (by decide) (by decide)) ?_
    refine z_go2 M.1 130 [(.iload 4, 2)] (132, [(6, .inl (S 78 2)), (5, z_r f103), (0, z_r 78), (1, .inl x1), (2, .inl x2), (3, .inl x3), (4, .inl x4)], [.inl x4, z_r (f103 + 6)], zW T' G' S122 n, 0, 0) (by decide +kernel) rfl ⟨trivial, trivial⟩ ?_
    refine z_ialD M.1 (a := (f103 + 6)) (len := 8) (x := (S122 (f103 + 6) (x4).toNatClampNeg)) (by decide +kernel) (hf103.a 6 (by decide) (by decide)) hs.1 rfl ?_
    replace hs := hs.2
    refine z_go2 M.1 133 [(.iconst 1, 1)] (134, [(6, .inl (S 78 2)), (5, z_r f103), (0, z_r 78), (1, .inl x1), (2, .inl x2), (3, .inl x3), (4, .inl x4)], [.inl 1, .inl (S122 (f103 + 6) (x4).toNatClampNeg)], zW T' G' S122 n, 0, 0) (by decide +kernel) rfl ⟨trivial, trivial⟩ ?_
    refine z_icmp_ne 153 M.1 (off := 19) (by decide +kernel) (by decide) (fun c134 => ?_) (fun c134 => ?_)
    · rw [if_neg c134] at K hs
      refine z_go2 M.1 153 [(.aload 5, 2)] (155, [(6, .inl (S 78 2)), (5, z_r f103), (0, z_r 78), (1, .inl x1), (2, .inl x2), (3, .inl x3), (4, .inl x4)], [z_r f103], zW T' G' S122 n, 0, 0) (by decide +kernel) rfl ⟨trivial, trivial⟩ ?_
      refine z_getR M.1 (idx := 362) (ci := 12) (j := 7) (a := f103) (r := (f103 + 6)) (by decide +kernel) (by decide) hf103.t (hf103.g 7 (by decide) (by decide)) ?_
      refine z_go2 M.1 158 [(.iload 4, 2)] (160, [(6, .inl (S 78 2)), (5, z_r f103), (0, z_r 78), (1, .inl x1), (2, .inl x2), (3, .inl x3), (4, .inl x4)], [.inl x4, z_r (f103 + 6)], zW T' G' S122 n, 0, 0) (by decide +kernel) rfl ⟨trivial, trivial⟩ ?_
      refine z_ialD M.1 (a := (f103 + 6)) (len := 8) (x := (S122 (f103 + 6) (x4).toNatClampNeg)) (by decide +kernel) (hf103.a 6 (by decide) (by decide)) hs.1 rfl ?_
      replace hs := hs.2
      refine z_go2 M.1 161 [(.iconst 2, 1)] (162, [(6, .inl (S 78 2)), (5, z_r f103), (0, z_r 78), (1, .inl x1), (2, .inl x2), (3, .inl x3), (4, .inl x4)], [.inl 2, .inl (S122 (f103 + 6) (x4).toNatClampNeg)], zW T' G' S122 n, 0, 0) (by decide +kernel) rfl ⟨trivial, trivial⟩ ?_
      refine z_icmp_ne 185 M.1 (off := 23) (by decide +kernel) (by decide) (fun c162 => ?_) (fun c162 => ?_)
      · rw [if_neg c162] at K hs
        exact z_lvs (lv' := [(0, z_r 78), (4, .inl x4), (6, .inl (S 78 2))]) [2, 6, 0] rfl (t_M_move_j185 M fl hfl S122 x4 (S 78 2) hQ K hs)
      · rw [if_pos c162] at K hs
        refine z_go2 M.1 165 [(.aload_n 0, 1), (.aload_n 0, 1), (.getfield 34, 3), (.iconst 3, 1), (.iload_n 1, 1), (.iload_n 2, 1), (.aload 5, 2)] (175, [(6, .inl (S 78 2)), (5, z_r f103), (0, z_r 78), (1, .inl x1), (2, .inl x2), (3, .inl x3), (4, .inl x4)], [z_r f103, .inl x2, .inl x1, .inl 3, z_r 86, z_r 78], zW T' G' S122 n, 0, 0) (by decide +kernel) rfl ⟨trivial, trivial, rfl, trivial, trivial, trivial, trivial, trivial⟩ ?_
        refine z_getR M.1 (idx := 354) (ci := 12) (j := 5) (a := f103) (r := (f103 + 4)) (by decide +kernel) (by decide) hf103.t (hf103.g 5 (by decide) (by decide)) ?_
        refine z_go2 M.1 178 [(.iload 4, 2)] (180, [(6, .inl (S 78 2)), (5, z_r f103), (0, z_r 78), (1, .inl x1), (2, .inl x2), (3, .inl x3), (4, .inl x4)], [.inl x4, z_r (f103 + 4), .inl x2, .inl x1, .inl 3, z_r 86, z_r 78], zW T' G' S122 n, 0, 0) (by decide +kernel) rfl ⟨trivial, trivial⟩ ?_
        refine z_ialD M.1 (a := (f103 + 4)) (len := 8) (x := (S122 (f103 + 4) (x4).toNatClampNeg)) (by decide +kernel) (hf103.a 4 (by decide) (by decide)) hs.1 rfl ?_
        replace hs := hs.2
        refine z_go2 M.1 181 [(.iconst (-1), 1)] (182, [(6, .inl (S 78 2)), (5, z_r f103), (0, z_r 78), (1, .inl x1), (2, .inl x2), (3, .inl x3), (4, .inl x4)], [.inl (-1), .inl (S122 (f103 + 4) (x4).toNatClampNeg), .inl x2, .inl x1, .inl 3, z_r 86, z_r 78], zW T' G' S122 n, 0, 0) (by decide +kernel) rfl ⟨trivial, trivial⟩ ?_
        refine z_callV M.1 (av := [z_r 86, .inl 3, .inl x1, .inl x2, .inl (S122 (f103 + 4) (x4).toNatClampNeg), .inl (-1)]) (st := []) (a := 78) (ci := 14) (by decide +kernel) (c_M_change_86 T' G' S122 n 3 x1 x2 (S122 (f103 + 4) (x4).toNatClampNeg) (-1) hs.1) M.2.1 zl_M_259 zv_M_change rfl rfl rfl ⟨by decide, by decide, by decide, by decide⟩ rfl (Nat.le_of_ble_eq_true rfl) (fun v w' hv => ?_)
        replace hs := hs.2
        obtain ⟨S182, hF182⟩ : ∃ y, F_M_change 86 S122 3 x1 x2 (S122 (f103 + 4) (x4).toNatClampNeg) (-1) = y := ⟨_, rfl⟩
        rw [hF182] at K hv
        try rw [hF182] at hs
        try dsimp only [z_let] at K hs
        obtain ⟨rfl, rfl⟩ := hv
        show z_G X zm_M_move (185, [(6, .inl (S 78 2)), (5, z_r f103), (0, z_r 78), (1, .inl x1), (2, .inl x2), (3, .inl x3), (4, .inl x4)], [], zW T' G' S182 n, 0, 0)
        refine z_go2 M.1 185 [(.aload_n 0, 1), (.aload_n 0, 1), (.iload 6, 2), (.iconst 1, 1)] (190, [(6, .inl (S 78 2)), (5, z_r f103), (0, z_r 78), (1, .inl x1), (2, .inl x2), (3, .inl x3), (4, .inl x4)], [.inl 1, .inl (S 78 2), z_r 78, z_r 78], zW T' G' S182 n, 0, 0) (by decide +kernel) rfl ⟨trivial, trivial, trivial, trivial, trivial⟩ ?_
        refine z_callV M.1 (av := [.inl (S 78 2), .inl 1]) (st := [z_r 78]) (a := 78) (ci := 14) (by decide +kernel) (c_M_stays T' G' n fl hfl S182 (S 78 2) 1 hs.1) M.2.1 zl_M_301 zv_M_stays rfl rfl rfl ⟨by decide, by decide, by decide, by decide⟩ rfl (Nat.le_of_ble_eq_true rfl) (fun v w' hv => ?_)
        replace hs := hs.2
        rcases hF190 : F_M_stays fl S182 (S 78 2) 1 with ⟨r190, S190⟩
        rw [hF190] at K hv
        try dsimp only at K
        obtain ⟨rfl, rfl⟩ := hv
        show z_G X zm_M_move (193, [(6, .inl (S 78 2)), (5, z_r f103), (0, z_r 78), (1, .inl x1), (2, .inl x2), (3, .inl x3), (4, .inl x4)], [.inl r190, z_r 78], zW T' G' S190 n, 0, 0)
        refine z_if_eq 200 M.1 (off := 7) (by decide +kernel) (by decide) (fun c193 => ?_) (fun c193 => ?_)
        · rw [if_pos c193] at K
          refine z_go2 M.1 200 [(.iconst 3, 1)] (201, [(6, .inl (S 78 2)), (5, z_r f103), (0, z_r 78), (1, .inl x1), (2, .inl x2), (3, .inl x3), (4, .inl x4)], [.inl 3, z_r 78], zW T' G' S190 n, 0, 0) (by decide +kernel) rfl ⟨trivial, trivial⟩ ?_
          exact z_lvs (lv' := [(0, z_r 78), (4, .inl x4)]) [2, 6] rfl (t_M_move_j201 M fl hfl S190 x4 3 hQ K)
        · rw [if_neg c193] at K
          refine z_go2 M.1 196 [(.iconst 0, 1), (.goto 4, 3)] (201, [(6, .inl (S 78 2)), (5, z_r f103), (0, z_r 78), (1, .inl x1), (2, .inl x2), (3, .inl x3), (4, .inl x4)], [.inl 0, z_r 78], zW T' G' S190 n, 0, 0) (by decide +kernel) rfl ⟨trivial, trivial, trivial⟩ ?_
          exact z_lvs (lv' := [(0, z_r 78), (4, .inl x4)]) [2, 6] rfl (t_M_move_j201 M fl hfl S190 x4 0 hQ K)
    · rw [if_pos c134] at K hs
      refine z_go2 M.1 137 [(.aload_n 0, 1), (.aload_n 0, 1), (.getfield 34, 3), (.iconst 4, 1), (.iload_n 1, 1), (.iload_n 2, 1), (.iconst 0, 1), (.iload_n 1, 1)] (147, [(6, .inl (S 78 2)), (5, z_r f103), (0, z_r 78), (1, .inl x1), (2, .inl x2), (3, .inl x3), (4, .inl x4)], [.inl x1, .inl 0, .inl x2, .inl x1, .inl 4, z_r 86, z_r 78], zW T' G' S122 n, 0, 0) (by decide +kernel) rfl ⟨trivial, trivial, rfl, trivial, trivial, trivial, trivial, trivial, trivial⟩ ?_
      refine z_callV M.1 (av := [z_r 86, .inl 4, .inl x1, .inl x2, .inl 0, .inl x1]) (st := []) (a := 78) (ci := 14) (by decide +kernel) (c_M_change_86 T' G' S122 n 4 x1 x2 0 x1 hs.1) M.2.1 zl_M_259 zv_M_change rfl rfl rfl ⟨by decide, by decide, by decide, by decide⟩ rfl (Nat.le_of_ble_eq_true rfl) (fun v w' hv => ?_)
      replace hs := hs.2
      obtain ⟨S147, hF147⟩ : ∃ y, F_M_change 86 S122 4 x1 x2 0 x1 = y := ⟨_, rfl⟩
      rw [hF147] at K hv
      try rw [hF147] at hs
      try dsimp only [z_let] at K hs
      obtain ⟨rfl, rfl⟩ := hv
      show z_G X zm_M_move (150, [(6, .inl (S 78 2)), (5, z_r f103), (0, z_r 78), (1, .inl x1), (2, .inl x2), (3, .inl x3), (4, .inl x4)], [], zW T' G' S147 n, 0, 0)
      refine z_go2 M.1 150 [(.goto 35, 3)] (185, [(6, .inl (S 78 2)), (5, z_r f103), (0, z_r 78), (1, .inl x1), (2, .inl x2), (3, .inl x3), (4, .inl x4)], [], zW T' G' S147 n, 0, 0) (by decide +kernel) rfl ⟨trivial, trivial⟩ ?_
      exact z_lvs (lv' := [(0, z_r 78), (4, .inl x4), (6, .inl (S 78 2))]) [2, 6, 0] rfl (t_M_move_j185 M fl hfl S147 x4 (S 78 2) hQ K hs)
  · rw [if_neg c85] at K hs
    refine z_go2 M.1 88 [(.iconst 0, 1)] (89, [(0, z_r 78), (1, .inl x1), (2, .inl x2), (3, .inl x3), (4, .inl x4)], [.inl 0], zW T' G' (z_uS S 78 0 s0) n, 0, 0) (by decide +kernel) rfl ⟨trivial, trivial⟩ ?_
    exact z_iret M (by decide +kernel) .int rfl rfl (by decide) (by decide) (hQ _ _ K)
def F_M_move_j64 (fl : Nat → Nat) (S : (Nat → Nat → Int32)) (x1 : Int32) (x2 : Int32) (x3 : Int32) (s0 : Int32) : (Int32 × (Nat → Nat → Int32)) := (if s0 = (-1) then (F_M_move_j78 fl S x1 x2 x3 s0 3) else (F_M_move_j78 fl S x1 x2 x3 s0 0))
def Sf_M_move_j64 (fl : Nat → Nat) (S : (Nat → Nat → Int32)) (x1 : Int32) (x2 : Int32) (x3 : Int32) (s0 : Int32) : Prop := (if s0 = (-1) then (Sf_M_move_j78 fl S x1 x2 x3 s0 3) else (Sf_M_move_j78 fl S x1 x2 x3 s0 0))
theorem t_M_move_j64 {X : z_X} {Post : Option z_V → z_W → Prop} (M : z_M X zm_M_move rm_M_move Post) {T' : Nat → Nat × Nat} {G' : Nat → Nat → Option Nat} {n : Nat} (fl : Nat → Nat) (hfl : zOK T' G' fl n) {Q : (Int32 × (Nat → Nat → Int32)) → Prop} (S : (Nat → Nat → Int32)) (x1 : Int32) (x2 : Int32) (x3 : Int32) (s0 : Int32) (hQ : ∀ v S', Q (v, S') → Post (some (.inl v)) (zW T' G' S' n)) (K : Q (F_M_move_j64 fl S x1 x2 x3 s0)) (hs : Sf_M_move_j64 fl S x1 x2 x3 s0) : z_G X zm_M_move (64, [(0, z_r 78), (1, .inl x1), (2, .inl x2), (3, .inl x3)], [.inl s0], zW T' G' S n, 0, 0) := by
  unfold F_M_move_j64 at K
  unfold Sf_M_move_j64 at hs
  refine z_go2 M.1 64 [(.istore 4, 2), (.aload_n 0, 1), (.iload 4, 2), (.iconst (-1), 1)] (70, [(4, .inl s0), (0, z_r 78), (1, .inl x1), (2, .inl x2), (3, .inl x3)], [.inl (-1), .inl s0, z_r 78], zW T' G' S n, 0, 0) (by decide +kernel) rfl ⟨trivial, trivial, trivial, trivial, trivial⟩ ?_
  refine z_icmp_ne 77 M.1 (off := 7) (by decide +kernel) (by decide) (fun c70 => ?_) (fun c70 => ?_)
  · rw [if_neg c70] at K hs
    refine z_go2 M.1 77 [(.iconst 0, 1)] (78, [(4, .inl s0), (0, z_r 78), (1, .inl x1), (2, .inl x2), (3, .inl x3)], [.inl 0, z_r 78], zW T' G' S n, 0, 0) (by decide +kernel) rfl ⟨trivial, trivial⟩ ?_
    exact z_lvs (lv' := [(0, z_r 78), (1, .inl x1), (2, .inl x2), (3, .inl x3), (4, .inl s0)]) [1, 2, 3, 4, 0] rfl (t_M_move_j78 M fl hfl S x1 x2 x3 s0 0 hQ K hs)
  · rw [if_pos c70] at K hs
    refine z_go2 M.1 73 [(.iconst 3, 1), (.goto 4, 3)] (78, [(4, .inl s0), (0, z_r 78), (1, .inl x1), (2, .inl x2), (3, .inl x3)], [.inl 3, z_r 78], zW T' G' S n, 0, 0) (by decide +kernel) rfl ⟨trivial, trivial, trivial⟩ ?_
    exact z_lvs (lv' := [(0, z_r 78), (1, .inl x1), (2, .inl x2), (3, .inl x3), (4, .inl s0)]) [1, 2, 3, 4, 0] rfl (t_M_move_j78 M fl hfl S x1 x2 x3 s0 3 hQ K hs)
def F_M_move_j28 (fl : Nat → Nat) (S : (Nat → Nat → Int32)) (x1 : Int32) (x2 : Int32) (x3 : Int32) (s0 : Int32) : (Int32 × (Nat → Nat → Int32)) := (if s0 ≤ 0 then (if (F_M_edits 86 (z_uS S 78 0 s0) x1 x2) = 0 then (F_M_move_j64 fl (z_uS S 78 0 s0) x1 x2 x3 (-1)) else (F_M_move_j64 fl (z_uS S 78 0 s0) x1 x2 x3 (F_M_way fl (z_uS S 78 0 s0) x1 x2 x3))) else (0, (z_uS S 78 0 s0)))
def Sf_M_move_j28 (fl : Nat → Nat) (S : (Nat → Nat → Int32)) (x1 : Int32) (x2 : Int32) (x3 : Int32) (s0 : Int32) : Prop := (if s0 ≤ 0 then (Sf_M_edits 86 (z_uS S 78 0 s0) x1 x2 ∧ (if (F_M_edits 86 (z_uS S 78 0 s0) x1 x2) = 0 then (Sf_M_move_j64 fl (z_uS S 78 0 s0) x1 x2 x3 (-1)) else (Sf_M_way fl (z_uS S 78 0 s0) x1 x2 x3 ∧ (Sf_M_move_j64 fl (z_uS S 78 0 s0) x1 x2 x3 (F_M_way fl (z_uS S 78 0 s0) x1 x2 x3))))) else True)
theorem t_M_move_j28 {X : z_X} {Post : Option z_V → z_W → Prop} (M : z_M X zm_M_move rm_M_move Post) {T' : Nat → Nat × Nat} {G' : Nat → Nat → Option Nat} {n : Nat} (fl : Nat → Nat) (hfl : zOK T' G' fl n) {Q : (Int32 × (Nat → Nat → Int32)) → Prop} (S : (Nat → Nat → Int32)) (x1 : Int32) (x2 : Int32) (x3 : Int32) (s0 : Int32) (hQ : ∀ v S', Q (v, S') → Post (some (.inl v)) (zW T' G' S' n)) (K : Q (F_M_move_j28 fl S x1 x2 x3 s0)) (hs : Sf_M_move_j28 fl S x1 x2 x3 s0) : z_G X zm_M_move (28, [(0, z_r 78), (1, .inl x1), (2, .inl x2), (3, .inl x3)], [.inl s0, z_r 78], zW T' G' S n, 0, 0) := by
  unfold F_M_move_j28 at K
  unfold Sf_M_move_j28 at hs
  refine z_go2 M.1 28 [(.putfield 175, 3), (.aload_n 0, 1), (.getfield 175, 3)] (35, [(0, z_r 78), (1, .inl x1), (2, .inl x2), (3, .inl x3)], [.inl s0], zW T' G' (z_uS S 78 0 s0) n, 0, 0) (by decide +kernel) rfl ⟨⟨rfl, trivial⟩, trivial, rfl, trivial⟩ ?_
  refine z_if_le 40 M.1 (off := 5) (by decide +kernel) (by decide) (fun c35 => ?_) (fun c35 => ?_)
  · rw [if_pos c35] at K hs
    refine z_go2 M.1 40 [(.aload_n 0, 1), (.aload_n 0, 1), (.getfield 34, 3), (.iload_n 1, 1), (.iload_n 2, 1)] (47, [(0, z_r 78), (1, .inl x1), (2, .inl x2), (3, .inl x3)], [.inl x2, .inl x1, z_r 86, z_r 78], zW T' G' (z_uS S 78 0 s0) n, 0, 0) (by decide +kernel) rfl ⟨trivial, trivial, rfl, trivial, trivial, trivial⟩ ?_
    refine z_callV M.1 (av := [z_r 86, .inl x1, .inl x2]) (st := []) (a := 78) (ci := 14) (by decide +kernel) (c_M_edits_86 T' G' (z_uS S 78 0 s0) n x1 x2 hs.1) M.2.1 zl_M_340 zv_M_edits rfl rfl rfl ⟨by decide, by decide, by decide, by decide⟩ rfl (Nat.le_of_ble_eq_true rfl) (fun v w' hv => ?_)
    obtain ⟨rfl, rfl⟩ := hv
    replace hs := hs.2
    show z_G X zm_M_move (50, [(0, z_r 78), (1, .inl x1), (2, .inl x2), (3, .inl x3)], [.inl (F_M_edits 86 (z_uS S 78 0 s0) x1 x2)], zW T' G' (z_uS S 78 0 s0) n, 0, 0)
    refine z_if_eq 63 M.1 (off := 13) (by decide +kernel) (by decide) (fun c50 => ?_) (fun c50 => ?_)
    · rw [if_pos c50] at K hs
      refine z_go2 M.1 63 [(.iconst (-1), 1)] (64, [(0, z_r 78), (1, .inl x1), (2, .inl x2), (3, .inl x3)], [.inl (-1)], zW T' G' (z_uS S 78 0 s0) n, 0, 0) (by decide +kernel) rfl ⟨trivial, trivial⟩ ?_
      exact z_lvs (lv' := [(0, z_r 78), (1, .inl x1), (2, .inl x2), (3, .inl x3)]) [0, 1, 2, 3] rfl (t_M_move_j64 M fl hfl (z_uS S 78 0 s0) x1 x2 x3 (-1) hQ K hs)
    · rw [if_neg c50] at K hs
      refine z_go2 M.1 53 [(.aload_n 0, 1), (.iload_n 1, 1), (.iload_n 2, 1), (.iload_n 3, 1)] (57, [(0, z_r 78), (1, .inl x1), (2, .inl x2), (3, .inl x3)], [.inl x3, .inl x2, .inl x1, z_r 78], zW T' G' (z_uS S 78 0 s0) n, 0, 0) (by decide +kernel) rfl ⟨trivial, trivial, trivial, trivial, trivial⟩ ?_
      refine z_callV M.1 (av := [.inl x1, .inl x2, .inl x3]) (st := []) (a := 78) (ci := 14) (by decide +kernel) (c_M_way T' G' n fl hfl (z_uS S 78 0 s0) x1 x2 x3 hs.1) M.2.1 zl_M_358 zv_M_way rfl rfl rfl ⟨by decide, by decide, by decide, by decide⟩ rfl (Nat.le_of_ble_eq_true rfl) (fun v w' hv => ?_)
      obtain ⟨rfl, rfl⟩ := hv
      replace hs := hs.2
      show z_G X zm_M_move (60, [(0, z_r 78), (1, .inl x1), (2, .inl x2), (3, .inl x3)], [.inl (F_M_way fl (z_uS S 78 0 s0) x1 x2 x3)], zW T' G' (z_uS S 78 0 s0) n, 0, 0)
      refine z_go2 M.1 60 [(.goto 4, 3)] (64, [(0, z_r 78), (1, .inl x1), (2, .inl x2), (3, .inl x3)], [.inl (F_M_way fl (z_uS S 78 0 s0) x1 x2 x3)], zW T' G' (z_uS S 78 0 s0) n, 0, 0) (by decide +kernel) rfl ⟨trivial, trivial⟩ ?_
      exact z_lvs (lv' := [(0, z_r 78), (1, .inl x1), (2, .inl x2), (3, .inl x3)]) [0, 1, 2, 3] rfl (t_M_move_j64 M fl hfl (z_uS S 78 0 s0) x1 x2 x3 (F_M_way fl (z_uS S 78 0 s0) x1 x2 x3) hQ K hs)
  · rw [if_neg c35] at K hs
    refine z_go2 M.1 38 [(.iconst 0, 1)] (39, [(0, z_r 78), (1, .inl x1), (2, .inl x2), (3, .inl x3)], [.inl 0], zW T' G' (z_uS S 78 0 s0) n, 0, 0) (by decide +kernel) rfl ⟨trivial, trivial⟩ ?_
    exact z_iret M (by decide +kernel) .int rfl rfl (by decide) (by decide) (hQ _ _ K)
def F_M_move (fl : Nat → Nat) (S : (Nat → Nat → Int32)) (p1 : Int32) (p2 : Int32) (p3 : Int32) : (Int32 × (Nat → Nat → Int32)) := (if (F_M_isSeen S p1 p2) = 0 then (F_M_move_j28 fl S p1 p2 p3 1) else (if (F_M_isIn S p3 0 5) = 0 then (F_M_move_j28 fl S p1 p2 p3 2) else (F_M_move_j28 fl S p1 p2 p3 0)))
def Sf_M_move (fl : Nat → Nat) (S : (Nat → Nat → Int32)) (p1 : Int32) (p2 : Int32) (p3 : Int32) : Prop := (Sf_M_isSeen S p1 p2 ∧ (if (F_M_isSeen S p1 p2) = 0 then (Sf_M_move_j28 fl S p1 p2 p3 1) else (if (F_M_isIn S p3 0 5) = 0 then (Sf_M_move_j28 fl S p1 p2 p3 2) else (Sf_M_move_j28 fl S p1 p2 p3 0))))
theorem c_M_move (T' : Nat → Nat × Nat) (G' : Nat → Nat → Option Nat) (n : Nat) (fl : Nat → Nat) (hfl : zOK T' G' fl n) (S : (Nat → Nat → Int32)) (p1 : Int32) (p2 : Int32) (p3 : Int32) (hs : Sf_M_move fl S p1 p2 p3) : z_Run rm_M_move zm_M_move [z_r 78, .inl p1, .inl p2, .inl p3] (zW T' G' S n) (zq (some (.inl (F_M_move fl S p1 p2 p3).1)) (zW T' G' (F_M_move fl S p1 p2 p3).2 n)) := by
  refine z_body (by decide) zf_M_ok (Nat.le_of_ble_eq_true rfl) (fun X M => ?_)
  obtain ⟨Q, hQ, K⟩ : ∃ Q : (Int32 × (Nat → Nat → Int32)) → Prop, (∀ v S', Q (v, S') → zq (some (.inl (F_M_move fl S p1 p2 p3).1)) (zW T' G' (F_M_move fl S p1 p2 p3).2 n) (some (.inl v)) (zW T' G' S' n)) ∧ Q (F_M_move fl S p1 p2 p3) := ⟨fun o => F_M_move fl S p1 p2 p3 = o, fun v S' h => ⟨by rw [h], by rw [h]⟩, rfl⟩
  show z_G X zm_M_move (0, [(0, z_r 78), (1, .inl p1), (2, .inl p2), (3, .inl p3)], [], zW T' G' S n, 0, 0)
  unfold F_M_move at K
  unfold Sf_M_move at hs
  refine z_go2 M.1 0 [(.aload_n 0, 1), (.aload_n 0, 1), (.iload_n 1, 1), (.iload_n 2, 1)] (4, [(0, z_r 78), (1, .inl p1), (2, .inl p2), (3, .inl p3)], [.inl p2, .inl p1, z_r 78, z_r 78], zW T' G' S n, 0, 0) (by decide +kernel) rfl ⟨trivial, trivial, trivial, trivial, trivial⟩ ?_
  refine z_callV M.1 (av := [.inl p1, .inl p2]) (st := [z_r 78]) (a := 78) (ci := 14) (by decide +kernel) (c_M_isSeen T' G' S n p1 p2 hs.1) M.2.1 zl_M_336 zv_M_isSeen rfl rfl rfl ⟨by decide, by decide, by decide, by decide⟩ rfl (Nat.le_of_ble_eq_true rfl) (fun v w' hv => ?_)
  obtain ⟨rfl, rfl⟩ := hv
  replace hs := hs.2
  show z_G X zm_M_move (7, [(0, z_r 78), (1, .inl p1), (2, .inl p2), (3, .inl p3)], [.inl (F_M_isSeen S p1 p2), z_r 78], zW T' G' S n, 0, 0)
  refine z_if_ne 14 M.1 (off := 7) (by decide +kernel) (by decide) (fun c7 => ?_) (fun c7 => ?_)
  · rw [if_neg c7] at K hs
    refine z_go2 M.1 14 [(.iload_n 3, 1), (.iconst 0, 1), (.iconst 5, 1)] (17, [(0, z_r 78), (1, .inl p1), (2, .inl p2), (3, .inl p3)], [.inl 5, .inl 0, .inl p3, z_r 78], zW T' G' S n, 0, 0) (by decide +kernel) rfl ⟨trivial, trivial, trivial, trivial⟩ ?_
    refine z_callS M.1 (av := [.inl p3, .inl 0, .inl 5]) (st := [z_r 78]) (by decide +kernel) (c_M_isIn T' G' S n p3 0 5) M.2.1 zl_M_178 zs_M_isIn ⟨by decide, by decide, by decide, by decide⟩ rfl (Nat.le_of_ble_eq_true rfl) (fun v w' hv => ?_)
    obtain ⟨rfl, rfl⟩ := hv
    show z_G X zm_M_move (20, [(0, z_r 78), (1, .inl p1), (2, .inl p2), (3, .inl p3)], [.inl (F_M_isIn S p3 0 5), z_r 78], zW T' G' S n, 0, 0)
    refine z_if_eq 27 M.1 (off := 7) (by decide +kernel) (by decide) (fun c20 => ?_) (fun c20 => ?_)
    · rw [if_pos c20] at K hs
      refine z_go2 M.1 27 [(.iconst 2, 1)] (28, [(0, z_r 78), (1, .inl p1), (2, .inl p2), (3, .inl p3)], [.inl 2, z_r 78], zW T' G' S n, 0, 0) (by decide +kernel) rfl ⟨trivial, trivial⟩ ?_
      exact z_lvs (lv' := [(0, z_r 78), (1, .inl p1), (2, .inl p2), (3, .inl p3)]) [0, 1, 2, 3] rfl (t_M_move_j28 M fl hfl S p1 p2 p3 2 hQ K hs)
    · rw [if_neg c20] at K hs
      refine z_go2 M.1 23 [(.iconst 0, 1), (.goto 4, 3)] (28, [(0, z_r 78), (1, .inl p1), (2, .inl p2), (3, .inl p3)], [.inl 0, z_r 78], zW T' G' S n, 0, 0) (by decide +kernel) rfl ⟨trivial, trivial, trivial⟩ ?_
      exact z_lvs (lv' := [(0, z_r 78), (1, .inl p1), (2, .inl p2), (3, .inl p3)]) [0, 1, 2, 3] rfl (t_M_move_j28 M fl hfl S p1 p2 p3 0 hQ K hs)
  · rw [if_pos c7] at K hs
    refine z_go2 M.1 10 [(.iconst 1, 1), (.goto 17, 3)] (28, [(0, z_r 78), (1, .inl p1), (2, .inl p2), (3, .inl p3)], [.inl 1, z_r 78], zW T' G' S n, 0, 0) (by decide +kernel) rfl ⟨trivial, trivial, trivial⟩ ?_
    exact z_lvs (lv' := [(0, z_r 78), (1, .inl p1), (2, .inl p2), (3, .inl p3)]) [0, 1, 2, 3] rfl (t_M_move_j28 M fl hfl S p1 p2 p3 1 hQ K hs)

-- TrackHouseModel.nest
abbrev rm_M_nest : Room := zr 8
def F_M_nest_L44 (fl : Nat → Nat) (x1 : Int32) (x2 : Int32) (x3 : Int32) : Nat → (Nat → Nat → Int32) → Int32 → (Int32 × (Nat → Nat → Int32))
  | 0, S, x4 => (x4, S)
  | f + 1, S, x4 => (if x4 = (-1) then (x4, S) else (if x4 = x2 then (x4, S) else ((F_M_nest_L44 fl x1 x2 x3 f) S (S 92 (x4).toNatClampNeg))))
def Sf_M_nest_L44 (fl : Nat → Nat) (x1 : Int32) (x2 : Int32) (x3 : Int32) : Nat → (Nat → Nat → Int32) → Int32 → Prop
  | 0, _, _ => False
  | f + 1, S, x4 => (if x4 = (-1) then True else (if x4 = x2 then True else ((vp_in x4 30) ∧ ((Sf_M_nest_L44 fl x1 x2 x3 f) S (S 92 (x4).toNatClampNeg)))))
theorem t_M_nest_L44 {X : z_X} {Post : Option z_V → z_W → Prop} (M : z_M X zm_M_nest rm_M_nest Post) {T' : Nat → Nat × Nat} {G' : Nat → Nat → Option Nat} {n : Nat} (fl : Nat → Nat) (hfl : zOK T' G' fl n) {Q : (Int32 × (Nat → Nat → Int32)) → Prop}  (x1 : Int32) (x2 : Int32) (x3 : Int32) (hE : ∀ (y4 : Int32) (S' : (Nat → Nat → Int32)), Q (y4, S') → z_G X zm_M_nest (71, [(0, z_r 78), (1, .inl x1), (2, .inl x2), (3, .inl x3), (4, .inl y4)], [], zW T' G' S' n, 0, 0)) (f : Nat) : ∀ (S : (Nat → Nat → Int32)) (x4 : Int32), Q (F_M_nest_L44 fl x1 x2 x3 f S x4) → Sf_M_nest_L44 fl x1 x2 x3 f S x4 → z_G X zm_M_nest (44, [(0, z_r 78), (1, .inl x1), (2, .inl x2), (3, .inl x3), (4, .inl x4)], [], zW T' G' S n, 0, 0) := by
  induction f with
  | zero => intro S x4 K hs; exact False.elim hs
  | succ f hC =>
    intro S x4 K hs
    rw [F_M_nest_L44] at K
    rw [Sf_M_nest_L44] at hs
    refine z_go2 M.1 44 [(.iload 4, 2), (.iconst (-1), 1)] (47, [(0, z_r 78), (1, .inl x1), (2, .inl x2), (3, .inl x3), (4, .inl x4)], [.inl (-1), .inl x4], zW T' G' S n, 0, 0) (by decide +kernel) rfl ⟨trivial, trivial, trivial⟩ ?_
    refine z_icmp_eq 71 M.1 (off := 24) (by decide +kernel) (by decide) (fun c47 => ?_) (fun c47 => ?_)
    · rw [if_pos c47] at K hs
      exact z_lvs (lv' := [(0, z_r 78), (1, .inl x1), (2, .inl x2), (3, .inl x3), (4, .inl x4)]) [0, 1, 2, 3, 4] rfl (hE x4 S K)
    · rw [if_neg c47] at K hs
      refine z_go2 M.1 50 [(.iload 4, 2), (.iload_n 2, 1)] (53, [(0, z_r 78), (1, .inl x1), (2, .inl x2), (3, .inl x3), (4, .inl x4)], [.inl x2, .inl x4], zW T' G' S n, 0, 0) (by decide +kernel) rfl ⟨trivial, trivial, trivial⟩ ?_
      refine z_icmp_eq 71 M.1 (off := 18) (by decide +kernel) (by decide) (fun c53 => ?_) (fun c53 => ?_)
      · rw [if_pos c53] at K hs
        exact z_lvs (lv' := [(0, z_r 78), (1, .inl x1), (2, .inl x2), (3, .inl x3), (4, .inl x4)]) [0, 1, 2, 3, 4] rfl (hE x4 S K)
      · rw [if_neg c53] at K hs
        refine z_go2 M.1 56 [(.aload_n 0, 1), (.getfield 34, 3), (.getfield 207, 3), (.iload 4, 2), (.iaload, 1), (.istore 4, 2), (.goto (-24), 3)] (44, [(4, .inl (S 92 (x4).toNatClampNeg)), (0, z_r 78), (1, .inl x1), (2, .inl x2), (3, .inl x3)], [], zW T' G' S n, 0, 0) (by decide +kernel) rfl ⟨trivial, rfl, rfl, trivial, ⟨rfl, hs.1⟩, trivial, trivial, trivial⟩ ?_
        replace hs := hs.2
        exact z_lvs (lv' := [(0, z_r 78), (1, .inl x1), (2, .inl x2), (3, .inl x3), (4, .inl (S 92 (x4).toNatClampNeg))]) [1, 2, 3, 4, 0] rfl (hC S (S 92 (x4).toNatClampNeg) K hs)
def F_M_nest_j120 (fl : Nat → Nat) (S : (Nat → Nat → Int32)) (x1 : Int32) (x2 : Int32) (x3 : Int32) (s0 : Int32) : (Int32 × (Nat → Nat → Int32)) := (if (S 78 0) ≤ 0 then (match F_M_turns fl S 5 x1 x2 x3 s0 2 with | (r141, S141) => (r141, S141)) else (0, S))
def Sf_M_nest_j120 (fl : Nat → Nat) (S : (Nat → Nat → Int32)) (x1 : Int32) (x2 : Int32) (x3 : Int32) (s0 : Int32) : Prop := (if (S 78 0) ≤ 0 then (Sf_M_turns fl S 5 x1 x2 x3 s0 2 ∧ True) else True)
theorem t_M_nest_j120 {X : z_X} {Post : Option z_V → z_W → Prop} (M : z_M X zm_M_nest rm_M_nest Post) {T' : Nat → Nat × Nat} {G' : Nat → Nat → Option Nat} {n : Nat} (fl : Nat → Nat) (hfl : zOK T' G' fl n) {Q : (Int32 × (Nat → Nat → Int32)) → Prop} (S : (Nat → Nat → Int32)) (x1 : Int32) (x2 : Int32) (x3 : Int32) (s0 : Int32) (hQ : ∀ v S', Q (v, S') → Post (some (.inl v)) (zW T' G' S' n)) (K : Q (F_M_nest_j120 fl S x1 x2 x3 s0)) (hs : Sf_M_nest_j120 fl S x1 x2 x3 s0) : z_G X zm_M_nest (120, [(0, z_r 78), (1, .inl x1), (2, .inl x2), (3, .inl x3)], [.inl s0], zW T' G' S n, 0, 0) := by
  unfold F_M_nest_j120 at K
  unfold Sf_M_nest_j120 at hs
  refine z_go2 M.1 120 [(.istore 5, 2), (.aload_n 0, 1), (.getfield 175, 3)] (126, [(5, .inl s0), (0, z_r 78), (1, .inl x1), (2, .inl x2), (3, .inl x3)], [.inl (S 78 0)], zW T' G' S n, 0, 0) (by decide +kernel) rfl ⟨trivial, trivial, rfl, trivial⟩ ?_
  refine z_if_le 133 M.1 (off := 7) (by decide +kernel) (by decide) (fun c126 => ?_) (fun c126 => ?_)
  · rw [if_pos c126] at K hs
    refine z_go2 M.1 133 [(.aload_n 0, 1), (.iconst 5, 1), (.iload_n 1, 1), (.iload_n 2, 1), (.iload_n 3, 1), (.iload 5, 2), (.iconst 2, 1)] (141, [(5, .inl s0), (0, z_r 78), (1, .inl x1), (2, .inl x2), (3, .inl x3)], [.inl 2, .inl s0, .inl x3, .inl x2, .inl x1, .inl 5, z_r 78], zW T' G' S n, 0, 0) (by decide +kernel) rfl ⟨trivial, trivial, trivial, trivial, trivial, trivial, trivial, trivial⟩ ?_
    refine z_callV M.1 (av := [.inl 5, .inl x1, .inl x2, .inl x3, .inl s0, .inl 2]) (st := []) (a := 78) (ci := 14) (by decide +kernel) (c_M_turns T' G' n fl hfl S 5 x1 x2 x3 s0 2 hs.1) M.2.1 zl_M_343 zv_M_turns rfl rfl rfl ⟨by decide, by decide, by decide, by decide⟩ rfl (Nat.le_of_ble_eq_true rfl) (fun v w' hv => ?_)
    replace hs := hs.2
    rcases hF141 : F_M_turns fl S 5 x1 x2 x3 s0 2 with ⟨r141, S141⟩
    rw [hF141] at K hv
    try dsimp only at K
    obtain ⟨rfl, rfl⟩ := hv
    show z_G X zm_M_nest (144, [(5, .inl s0), (0, z_r 78), (1, .inl x1), (2, .inl x2), (3, .inl x3)], [.inl r141], zW T' G' S141 n, 0, 0)
    exact z_iret M (by decide +kernel) .int rfl rfl (by decide) (by decide) (hQ _ _ K)
  · rw [if_neg c126] at K hs
    refine z_go2 M.1 129 [(.iconst 0, 1), (.goto 14, 3)] (144, [(5, .inl s0), (0, z_r 78), (1, .inl x1), (2, .inl x2), (3, .inl x3)], [.inl 0], zW T' G' S n, 0, 0) (by decide +kernel) rfl ⟨trivial, trivial, trivial⟩ ?_
    exact z_iret M (by decide +kernel) .int rfl rfl (by decide) (by decide) (hQ _ _ K)
def F_M_nest_j83 (fl : Nat → Nat) (S : (Nat → Nat → Int32)) (x1 : Int32) (x2 : Int32) (x3 : Int32) (s0 : Int32) : (Int32 × (Nat → Nat → Int32)) := (if (F_M_sees 86 (z_uS S 78 0 s0) x1 (S 92 (x2).toNatClampNeg)) = 0 then (F_M_nest_j120 fl (z_uS S 78 0 s0) x1 x2 x3 (-1)) else (F_M_nest_j120 fl (z_uS S 78 0 s0) x1 x2 x3 (S 92 (x2).toNatClampNeg)))
def Sf_M_nest_j83 (fl : Nat → Nat) (S : (Nat → Nat → Int32)) (x1 : Int32) (x2 : Int32) (x3 : Int32) (s0 : Int32) : Prop := ((vp_in x2 30) ∧ (Sf_M_sees 86 (z_uS S 78 0 s0) x1 (S 92 (x2).toNatClampNeg) ∧ (if (F_M_sees 86 (z_uS S 78 0 s0) x1 (S 92 (x2).toNatClampNeg)) = 0 then (Sf_M_nest_j120 fl (z_uS S 78 0 s0) x1 x2 x3 (-1)) else ((vp_in x2 30) ∧ (Sf_M_nest_j120 fl (z_uS S 78 0 s0) x1 x2 x3 (S 92 (x2).toNatClampNeg))))))
theorem t_M_nest_j83 {X : z_X} {Post : Option z_V → z_W → Prop} (M : z_M X zm_M_nest rm_M_nest Post) {T' : Nat → Nat × Nat} {G' : Nat → Nat → Option Nat} {n : Nat} (fl : Nat → Nat) (hfl : zOK T' G' fl n) {Q : (Int32 × (Nat → Nat → Int32)) → Prop} (S : (Nat → Nat → Int32)) (x1 : Int32) (x2 : Int32) (x3 : Int32) (s0 : Int32) (hQ : ∀ v S', Q (v, S') → Post (some (.inl v)) (zW T' G' S' n)) (K : Q (F_M_nest_j83 fl S x1 x2 x3 s0)) (hs : Sf_M_nest_j83 fl S x1 x2 x3 s0) : z_G X zm_M_nest (83, [(0, z_r 78), (1, .inl x1), (2, .inl x2), (3, .inl x3)], [.inl s0, z_r 78], zW T' G' S n, 0, 0) := by
  unfold F_M_nest_j83 at K
  unfold Sf_M_nest_j83 at hs
  refine z_go2 M.1 83 [(.putfield 175, 3), (.aload_n 0, 1), (.aload_n 0, 1), (.getfield 34, 3), (.iload_n 1, 1), (.aload_n 0, 1), (.getfield 34, 3), (.getfield 207, 3), (.iload_n 2, 1), (.iaload, 1)] (101, [(0, z_r 78), (1, .inl x1), (2, .inl x2), (3, .inl x3)], [.inl (S 92 (x2).toNatClampNeg), .inl x1, z_r 86, z_r 78], zW T' G' (z_uS S 78 0 s0) n, 0, 0) (by decide +kernel) rfl ⟨⟨rfl, trivial⟩, trivial, trivial, rfl, trivial, trivial, rfl, rfl, trivial, ⟨rfl, hs.1⟩, trivial⟩ ?_
  replace hs := hs.2
  refine z_callV M.1 (av := [z_r 86, .inl x1, .inl (S 92 (x2).toNatClampNeg)]) (st := []) (a := 78) (ci := 14) (by decide +kernel) (c_M_sees_86 T' G' (z_uS S 78 0 s0) n x1 (S 92 (x2).toNatClampNeg) hs.1) M.2.1 zl_M_233 zv_M_sees rfl rfl rfl ⟨by decide, by decide, by decide, by decide⟩ rfl (Nat.le_of_ble_eq_true rfl) (fun v w' hv => ?_)
  obtain ⟨rfl, rfl⟩ := hv
  replace hs := hs.2
  show z_G X zm_M_nest (104, [(0, z_r 78), (1, .inl x1), (2, .inl x2), (3, .inl x3)], [.inl (F_M_sees 86 (z_uS S 78 0 s0) x1 (S 92 (x2).toNatClampNeg))], zW T' G' (z_uS S 78 0 s0) n, 0, 0)
  refine z_if_eq 119 M.1 (off := 15) (by decide +kernel) (by decide) (fun c104 => ?_) (fun c104 => ?_)
  · rw [if_pos c104] at K hs
    refine z_go2 M.1 119 [(.iconst (-1), 1)] (120, [(0, z_r 78), (1, .inl x1), (2, .inl x2), (3, .inl x3)], [.inl (-1)], zW T' G' (z_uS S 78 0 s0) n, 0, 0) (by decide +kernel) rfl ⟨trivial, trivial⟩ ?_
    exact z_lvs (lv' := [(0, z_r 78), (1, .inl x1), (2, .inl x2), (3, .inl x3)]) [0, 1, 2, 3] rfl (t_M_nest_j120 M fl hfl (z_uS S 78 0 s0) x1 x2 x3 (-1) hQ K hs)
  · rw [if_neg c104] at K hs
    refine z_go2 M.1 107 [(.aload_n 0, 1), (.getfield 34, 3), (.getfield 207, 3), (.iload_n 2, 1), (.iaload, 1), (.goto 4, 3)] (120, [(0, z_r 78), (1, .inl x1), (2, .inl x2), (3, .inl x3)], [.inl (S 92 (x2).toNatClampNeg)], zW T' G' (z_uS S 78 0 s0) n, 0, 0) (by decide +kernel) rfl ⟨trivial, rfl, rfl, trivial, ⟨rfl, hs.1⟩, trivial, trivial⟩ ?_
    replace hs := hs.2
    exact z_lvs (lv' := [(0, z_r 78), (1, .inl x1), (2, .inl x2), (3, .inl x3)]) [0, 1, 2, 3] rfl (t_M_nest_j120 M fl hfl (z_uS S 78 0 s0) x1 x2 x3 (S 92 (x2).toNatClampNeg) hQ K hs)
def F_M_nest_j29 (fl : Nat → Nat) (S : (Nat → Nat → Int32)) (x1 : Int32) (x2 : Int32) (x3 : Int32) (s0 : Int32) : (Int32 × (Nat → Nat → Int32)) := (if s0 ≤ 0 then (match F_M_nest_L44 fl x1 x2 x3 1300 (z_uS S 78 0 s0) x3 with | (y4_44, S44) => (if y4_44 = x2 then (F_M_nest_j83 fl S44 x1 x2 x3 2) else (F_M_nest_j83 fl S44 x1 x2 x3 0))) else (0, (z_uS S 78 0 s0)))
def Sf_M_nest_j29 (fl : Nat → Nat) (S : (Nat → Nat → Int32)) (x1 : Int32) (x2 : Int32) (x3 : Int32) (s0 : Int32) : Prop := (if s0 ≤ 0 then (Sf_M_nest_L44 fl x1 x2 x3 1300 (z_uS S 78 0 s0) x3 ∧ (match F_M_nest_L44 fl x1 x2 x3 1300 (z_uS S 78 0 s0) x3 with | (y4_44, S44) => (if y4_44 = x2 then (Sf_M_nest_j83 fl S44 x1 x2 x3 2) else (Sf_M_nest_j83 fl S44 x1 x2 x3 0)))) else True)
theorem t_M_nest_j29 {X : z_X} {Post : Option z_V → z_W → Prop} (M : z_M X zm_M_nest rm_M_nest Post) {T' : Nat → Nat × Nat} {G' : Nat → Nat → Option Nat} {n : Nat} (fl : Nat → Nat) (hfl : zOK T' G' fl n) {Q : (Int32 × (Nat → Nat → Int32)) → Prop} (S : (Nat → Nat → Int32)) (x1 : Int32) (x2 : Int32) (x3 : Int32) (s0 : Int32) (hQ : ∀ v S', Q (v, S') → Post (some (.inl v)) (zW T' G' S' n)) (K : Q (F_M_nest_j29 fl S x1 x2 x3 s0)) (hs : Sf_M_nest_j29 fl S x1 x2 x3 s0) : z_G X zm_M_nest (29, [(0, z_r 78), (1, .inl x1), (2, .inl x2), (3, .inl x3)], [.inl s0, z_r 78], zW T' G' S n, 0, 0) := by
  unfold F_M_nest_j29 at K
  unfold Sf_M_nest_j29 at hs
  refine z_go2 M.1 29 [(.putfield 175, 3), (.aload_n 0, 1), (.getfield 175, 3)] (36, [(0, z_r 78), (1, .inl x1), (2, .inl x2), (3, .inl x3)], [.inl s0], zW T' G' (z_uS S 78 0 s0) n, 0, 0) (by decide +kernel) rfl ⟨⟨rfl, trivial⟩, trivial, rfl, trivial⟩ ?_
  refine z_if_le 41 M.1 (off := 5) (by decide +kernel) (by decide) (fun c36 => ?_) (fun c36 => ?_)
  · rw [if_pos c36] at K hs
    refine z_go2 M.1 41 [(.iload_n 3, 1), (.istore 4, 2)] (44, [(4, .inl x3), (0, z_r 78), (1, .inl x1), (2, .inl x2), (3, .inl x3)], [], zW T' G' (z_uS S 78 0 s0) n, 0, 0) (by decide +kernel) rfl ⟨trivial, trivial, trivial⟩ ?_
    refine z_lvs (lv' := [(0, z_r 78), (1, .inl x1), (2, .inl x2), (3, .inl x3), (4, .inl x3)]) [1, 2, 3, 4, 0] rfl ?_
    refine t_M_nest_L44 M fl hfl (Q := fun o => F_M_nest_L44 fl x1 x2 x3 1300 (z_uS S 78 0 s0) x3 = o) x1 x2 x3 (fun y4_44 S44 hL44 => ?_) 1300 (z_uS S 78 0 s0) x3 rfl hs.1
    replace hs := hs.2
    rw [hL44] at K
    try rw [hL44] at hs
    try dsimp only at K hs
    refine z_go2 M.1 71 [(.aload_n 0, 1), (.iload 4, 2), (.iload_n 2, 1)] (75, [(0, z_r 78), (1, .inl x1), (2, .inl x2), (3, .inl x3), (4, .inl y4_44)], [.inl x2, .inl y4_44, z_r 78], zW T' G' S44 n, 0, 0) (by decide +kernel) rfl ⟨trivial, trivial, trivial, trivial⟩ ?_
    refine z_icmp_ne 82 M.1 (off := 7) (by decide +kernel) (by decide) (fun c75 => ?_) (fun c75 => ?_)
    · rw [if_neg c75] at K hs
      refine z_go2 M.1 82 [(.iconst 0, 1)] (83, [(0, z_r 78), (1, .inl x1), (2, .inl x2), (3, .inl x3), (4, .inl y4_44)], [.inl 0, z_r 78], zW T' G' S44 n, 0, 0) (by decide +kernel) rfl ⟨trivial, trivial⟩ ?_
      exact z_lvs (lv' := [(0, z_r 78), (1, .inl x1), (2, .inl x2), (3, .inl x3)]) [0, 1, 2, 3] rfl (t_M_nest_j83 M fl hfl S44 x1 x2 x3 0 hQ K hs)
    · rw [if_pos c75] at K hs
      refine z_go2 M.1 78 [(.iconst 2, 1), (.goto 4, 3)] (83, [(0, z_r 78), (1, .inl x1), (2, .inl x2), (3, .inl x3), (4, .inl y4_44)], [.inl 2, z_r 78], zW T' G' S44 n, 0, 0) (by decide +kernel) rfl ⟨trivial, trivial, trivial⟩ ?_
      exact z_lvs (lv' := [(0, z_r 78), (1, .inl x1), (2, .inl x2), (3, .inl x3)]) [0, 1, 2, 3] rfl (t_M_nest_j83 M fl hfl S44 x1 x2 x3 2 hQ K hs)
  · rw [if_neg c36] at K hs
    refine z_go2 M.1 39 [(.iconst 0, 1)] (40, [(0, z_r 78), (1, .inl x1), (2, .inl x2), (3, .inl x3)], [.inl 0], zW T' G' (z_uS S 78 0 s0) n, 0, 0) (by decide +kernel) rfl ⟨trivial, trivial⟩ ?_
    exact z_iret M (by decide +kernel) .int rfl rfl (by decide) (by decide) (hQ _ _ K)
def F_M_nest_j28 (fl : Nat → Nat) (S : (Nat → Nat → Int32)) (x1 : Int32) (x2 : Int32) (x3 : Int32) : (Int32 × (Nat → Nat → Int32)) := (F_M_nest_j29 fl S x1 x2 x3 1)
def Sf_M_nest_j28 (fl : Nat → Nat) (S : (Nat → Nat → Int32)) (x1 : Int32) (x2 : Int32) (x3 : Int32) : Prop := (Sf_M_nest_j29 fl S x1 x2 x3 1)
theorem t_M_nest_j28 {X : z_X} {Post : Option z_V → z_W → Prop} (M : z_M X zm_M_nest rm_M_nest Post) {T' : Nat → Nat × Nat} {G' : Nat → Nat → Option Nat} {n : Nat} (fl : Nat → Nat) (hfl : zOK T' G' fl n) {Q : (Int32 × (Nat → Nat → Int32)) → Prop} (S : (Nat → Nat → Int32)) (x1 : Int32) (x2 : Int32) (x3 : Int32) (hQ : ∀ v S', Q (v, S') → Post (some (.inl v)) (zW T' G' S' n)) (K : Q (F_M_nest_j28 fl S x1 x2 x3)) (hs : Sf_M_nest_j28 fl S x1 x2 x3) : z_G X zm_M_nest (28, [(0, z_r 78), (1, .inl x1), (2, .inl x2), (3, .inl x3)], [z_r 78], zW T' G' S n, 0, 0) := by
  unfold F_M_nest_j28 at K
  unfold Sf_M_nest_j28 at hs
  refine z_go2 M.1 28 [(.iconst 1, 1)] (29, [(0, z_r 78), (1, .inl x1), (2, .inl x2), (3, .inl x3)], [.inl 1, z_r 78], zW T' G' S n, 0, 0) (by decide +kernel) rfl ⟨trivial, trivial⟩ ?_
  exact z_lvs (lv' := [(0, z_r 78), (1, .inl x1), (2, .inl x2), (3, .inl x3)]) [0, 1, 2, 3] rfl (t_M_nest_j29 M fl hfl S x1 x2 x3 1 hQ K hs)
def F_M_nest_j24 (fl : Nat → Nat) (S : (Nat → Nat → Int32)) (x1 : Int32) (x2 : Int32) (x3 : Int32) : (Int32 × (Nat → Nat → Int32)) := (F_M_nest_j29 fl S x1 x2 x3 0)
def Sf_M_nest_j24 (fl : Nat → Nat) (S : (Nat → Nat → Int32)) (x1 : Int32) (x2 : Int32) (x3 : Int32) : Prop := (Sf_M_nest_j29 fl S x1 x2 x3 0)
theorem t_M_nest_j24 {X : z_X} {Post : Option z_V → z_W → Prop} (M : z_M X zm_M_nest rm_M_nest Post) {T' : Nat → Nat × Nat} {G' : Nat → Nat → Option Nat} {n : Nat} (fl : Nat → Nat) (hfl : zOK T' G' fl n) {Q : (Int32 × (Nat → Nat → Int32)) → Prop} (S : (Nat → Nat → Int32)) (x1 : Int32) (x2 : Int32) (x3 : Int32) (hQ : ∀ v S', Q (v, S') → Post (some (.inl v)) (zW T' G' S' n)) (K : Q (F_M_nest_j24 fl S x1 x2 x3)) (hs : Sf_M_nest_j24 fl S x1 x2 x3) : z_G X zm_M_nest (24, [(0, z_r 78), (1, .inl x1), (2, .inl x2), (3, .inl x3)], [z_r 78], zW T' G' S n, 0, 0) := by
  unfold F_M_nest_j24 at K
  unfold Sf_M_nest_j24 at hs
  refine z_go2 M.1 24 [(.iconst 0, 1), (.goto 4, 3)] (29, [(0, z_r 78), (1, .inl x1), (2, .inl x2), (3, .inl x3)], [.inl 0, z_r 78], zW T' G' S n, 0, 0) (by decide +kernel) rfl ⟨trivial, trivial, trivial⟩ ?_
  exact z_lvs (lv' := [(0, z_r 78), (1, .inl x1), (2, .inl x2), (3, .inl x3)]) [0, 1, 2, 3] rfl (t_M_nest_j29 M fl hfl S x1 x2 x3 0 hQ K hs)
def F_M_nest (fl : Nat → Nat) (S : (Nat → Nat → Int32)) (p1 : Int32) (p2 : Int32) (p3 : Int32) : (Int32 × (Nat → Nat → Int32)) := (if (F_M_isSeen S p1 p2) = 0 then (F_M_nest_j28 fl S p1 p2 p3) else (if p3 = (-1) then (F_M_nest_j24 fl S p1 p2 p3) else (if (F_M_isSeen S p1 p3) = 0 then (F_M_nest_j28 fl S p1 p2 p3) else (F_M_nest_j24 fl S p1 p2 p3))))
def Sf_M_nest (fl : Nat → Nat) (S : (Nat → Nat → Int32)) (p1 : Int32) (p2 : Int32) (p3 : Int32) : Prop := (Sf_M_isSeen S p1 p2 ∧ (if (F_M_isSeen S p1 p2) = 0 then (Sf_M_nest_j28 fl S p1 p2 p3) else (if p3 = (-1) then (Sf_M_nest_j24 fl S p1 p2 p3) else (Sf_M_isSeen S p1 p3 ∧ (if (F_M_isSeen S p1 p3) = 0 then (Sf_M_nest_j28 fl S p1 p2 p3) else (Sf_M_nest_j24 fl S p1 p2 p3))))))
theorem c_M_nest (T' : Nat → Nat × Nat) (G' : Nat → Nat → Option Nat) (n : Nat) (fl : Nat → Nat) (hfl : zOK T' G' fl n) (S : (Nat → Nat → Int32)) (p1 : Int32) (p2 : Int32) (p3 : Int32) (hs : Sf_M_nest fl S p1 p2 p3) : z_Run rm_M_nest zm_M_nest [z_r 78, .inl p1, .inl p2, .inl p3] (zW T' G' S n) (zq (some (.inl (F_M_nest fl S p1 p2 p3).1)) (zW T' G' (F_M_nest fl S p1 p2 p3).2 n)) := by
  refine z_body (by decide) zf_M_ok (Nat.le_of_ble_eq_true rfl) (fun X M => ?_)
  obtain ⟨Q, hQ, K⟩ : ∃ Q : (Int32 × (Nat → Nat → Int32)) → Prop, (∀ v S', Q (v, S') → zq (some (.inl (F_M_nest fl S p1 p2 p3).1)) (zW T' G' (F_M_nest fl S p1 p2 p3).2 n) (some (.inl v)) (zW T' G' S' n)) ∧ Q (F_M_nest fl S p1 p2 p3) := ⟨fun o => F_M_nest fl S p1 p2 p3 = o, fun v S' h => ⟨by rw [h], by rw [h]⟩, rfl⟩
  show z_G X zm_M_nest (0, [(0, z_r 78), (1, .inl p1), (2, .inl p2), (3, .inl p3)], [], zW T' G' S n, 0, 0)
  unfold F_M_nest at K
  unfold Sf_M_nest at hs
  refine z_go2 M.1 0 [(.aload_n 0, 1), (.aload_n 0, 1), (.iload_n 1, 1), (.iload_n 2, 1)] (4, [(0, z_r 78), (1, .inl p1), (2, .inl p2), (3, .inl p3)], [.inl p2, .inl p1, z_r 78, z_r 78], zW T' G' S n, 0, 0) (by decide +kernel) rfl ⟨trivial, trivial, trivial, trivial, trivial⟩ ?_
  refine z_callV M.1 (av := [.inl p1, .inl p2]) (st := [z_r 78]) (a := 78) (ci := 14) (by decide +kernel) (c_M_isSeen T' G' S n p1 p2 hs.1) M.2.1 zl_M_336 zv_M_isSeen rfl rfl rfl ⟨by decide, by decide, by decide, by decide⟩ rfl (Nat.le_of_ble_eq_true rfl) (fun v w' hv => ?_)
  obtain ⟨rfl, rfl⟩ := hv
  replace hs := hs.2
  show z_G X zm_M_nest (7, [(0, z_r 78), (1, .inl p1), (2, .inl p2), (3, .inl p3)], [.inl (F_M_isSeen S p1 p2), z_r 78], zW T' G' S n, 0, 0)
  refine z_if_eq 28 M.1 (off := 21) (by decide +kernel) (by decide) (fun c7 => ?_) (fun c7 => ?_)
  · rw [if_pos c7] at K hs
    exact z_lvs (lv' := [(0, z_r 78), (1, .inl p1), (2, .inl p2), (3, .inl p3)]) [0, 1, 2, 3] rfl (t_M_nest_j28 M fl hfl S p1 p2 p3 hQ K hs)
  · rw [if_neg c7] at K hs
    refine z_go2 M.1 10 [(.iload_n 3, 1), (.iconst (-1), 1)] (12, [(0, z_r 78), (1, .inl p1), (2, .inl p2), (3, .inl p3)], [.inl (-1), .inl p3, z_r 78], zW T' G' S n, 0, 0) (by decide +kernel) rfl ⟨trivial, trivial, trivial⟩ ?_
    refine z_icmp_eq 24 M.1 (off := 12) (by decide +kernel) (by decide) (fun c12 => ?_) (fun c12 => ?_)
    · rw [if_pos c12] at K hs
      exact z_lvs (lv' := [(0, z_r 78), (1, .inl p1), (2, .inl p2), (3, .inl p3)]) [0, 1, 2, 3] rfl (t_M_nest_j24 M fl hfl S p1 p2 p3 hQ K hs)
    · rw [if_neg c12] at K hs
      refine z_go2 M.1 15 [(.aload_n 0, 1), (.iload_n 1, 1), (.iload_n 3, 1)] (18, [(0, z_r 78), (1, .inl p1), (2, .inl p2), (3, .inl p3)], [.inl p3, .inl p1, z_r 78, z_r 78], zW T' G' S n, 0, 0) (by decide +kernel) rfl ⟨trivial, trivial, trivial, trivial⟩ ?_
      refine z_callV M.1 (av := [.inl p1, .inl p3]) (st := [z_r 78]) (a := 78) (ci := 14) (by decide +kernel) (c_M_isSeen T' G' S n p1 p3 hs.1) M.2.1 zl_M_336 zv_M_isSeen rfl rfl rfl ⟨by decide, by decide, by decide, by decide⟩ rfl (Nat.le_of_ble_eq_true rfl) (fun v w' hv => ?_)
      obtain ⟨rfl, rfl⟩ := hv
      replace hs := hs.2
      show z_G X zm_M_nest (21, [(0, z_r 78), (1, .inl p1), (2, .inl p2), (3, .inl p3)], [.inl (F_M_isSeen S p1 p3), z_r 78], zW T' G' S n, 0, 0)
      refine z_if_eq 28 M.1 (off := 7) (by decide +kernel) (by decide) (fun c21 => ?_) (fun c21 => ?_)
      · rw [if_pos c21] at K hs
        exact z_lvs (lv' := [(0, z_r 78), (1, .inl p1), (2, .inl p2), (3, .inl p3)]) [0, 1, 2, 3] rfl (t_M_nest_j28 M fl hfl S p1 p2 p3 hQ K hs)
      · rw [if_neg c21] at K hs
        exact z_lvs (lv' := [(0, z_r 78), (1, .inl p1), (2, .inl p2), (3, .inl p3)]) [0, 1, 2, 3] rfl (t_M_nest_j24 M fl hfl S p1 p2 p3 hQ K hs)

-- TrackHouseModel.level
abbrev rm_M_level : Room := zr 8
def F_M_level_j28 (fl : Nat → Nat) (S : (Nat → Nat → Int32)) (x1 : Int32) (x2 : Int32) (x3 : Int32) (s0 : Int32) : (Int32 × (Nat → Nat → Int32)) := (if s0 ≤ 0 then (match F_M_turns fl (z_uS S 78 0 s0) 6 x1 x2 x3 0 3 with | (r48, S48) => (if (S48 78 0) = 0 then (if (F_M_sees 86 S48 x1 x2) = 0 then (0, S48) else (1, S48)) else (0, S48))) else (0, (z_uS S 78 0 s0)))
def Sf_M_level_j28 (fl : Nat → Nat) (S : (Nat → Nat → Int32)) (x1 : Int32) (x2 : Int32) (x3 : Int32) (s0 : Int32) : Prop := (if s0 ≤ 0 then (Sf_M_turns fl (z_uS S 78 0 s0) 6 x1 x2 x3 0 3 ∧ (match F_M_turns fl (z_uS S 78 0 s0) 6 x1 x2 x3 0 3 with | (r48, S48) => (if (S48 78 0) = 0 then (Sf_M_sees 86 S48 x1 x2 ∧ True) else True))) else True)
theorem t_M_level_j28 {X : z_X} {Post : Option z_V → z_W → Prop} (M : z_M X zm_M_level rm_M_level Post) {T' : Nat → Nat × Nat} {G' : Nat → Nat → Option Nat} {n : Nat} (fl : Nat → Nat) (hfl : zOK T' G' fl n) {Q : (Int32 × (Nat → Nat → Int32)) → Prop} (S : (Nat → Nat → Int32)) (x1 : Int32) (x2 : Int32) (x3 : Int32) (s0 : Int32) (hQ : ∀ v S', Q (v, S') → Post (some (.inl v)) (zW T' G' S' n)) (K : Q (F_M_level_j28 fl S x1 x2 x3 s0)) (hs : Sf_M_level_j28 fl S x1 x2 x3 s0) : z_G X zm_M_level (28, [(0, z_r 78), (1, .inl x1), (2, .inl x2), (3, .inl x3)], [.inl s0, z_r 78], zW T' G' S n, 0, 0) := by
  unfold F_M_level_j28 at K
  unfold Sf_M_level_j28 at hs
  refine z_go2 M.1 28 [(.putfield 175, 3), (.aload_n 0, 1), (.getfield 175, 3)] (35, [(0, z_r 78), (1, .inl x1), (2, .inl x2), (3, .inl x3)], [.inl s0], zW T' G' (z_uS S 78 0 s0) n, 0, 0) (by decide +kernel) rfl ⟨⟨rfl, trivial⟩, trivial, rfl, trivial⟩ ?_
  refine z_if_le 40 M.1 (off := 5) (by decide +kernel) (by decide) (fun c35 => ?_) (fun c35 => ?_)
  · rw [if_pos c35] at K hs
    refine z_go2 M.1 40 [(.aload_n 0, 1), (.bipush 6, 2), (.iload_n 1, 1), (.iload_n 2, 1), (.iload_n 3, 1), (.iconst 0, 1), (.iconst 3, 1)] (48, [(0, z_r 78), (1, .inl x1), (2, .inl x2), (3, .inl x3)], [.inl 3, .inl 0, .inl x3, .inl x2, .inl x1, .inl 6, z_r 78], zW T' G' (z_uS S 78 0 s0) n, 0, 0) (by decide +kernel) rfl ⟨trivial, trivial, trivial, trivial, trivial, trivial, trivial, trivial⟩ ?_
    refine z_callV M.1 (av := [.inl 6, .inl x1, .inl x2, .inl x3, .inl 0, .inl 3]) (st := []) (a := 78) (ci := 14) (by decide +kernel) (c_M_turns T' G' n fl hfl (z_uS S 78 0 s0) 6 x1 x2 x3 0 3 hs.1) M.2.1 zl_M_343 zv_M_turns rfl rfl rfl ⟨by decide, by decide, by decide, by decide⟩ rfl (Nat.le_of_ble_eq_true rfl) (fun v w' hv => ?_)
    replace hs := hs.2
    rcases hF48 : F_M_turns fl (z_uS S 78 0 s0) 6 x1 x2 x3 0 3 with ⟨r48, S48⟩
    rw [hF48] at K hv
    try rw [hF48] at hs
    try dsimp only at K hs
    obtain ⟨rfl, rfl⟩ := hv
    show z_G X zm_M_level (51, [(0, z_r 78), (1, .inl x1), (2, .inl x2), (3, .inl x3)], [.inl r48], zW T' G' S48 n, 0, 0)
    refine z_go2 M.1 51 [(.pop, 1), (.aload_n 0, 1), (.getfield 175, 3)] (56, [(0, z_r 78), (1, .inl x1), (2, .inl x2), (3, .inl x3)], [.inl (S48 78 0)], zW T' G' S48 n, 0, 0) (by decide +kernel) rfl ⟨rfl, trivial, rfl, trivial⟩ ?_
    refine z_if_ne 76 M.1 (off := 20) (by decide +kernel) (by decide) (fun c56 => ?_) (fun c56 => ?_)
    · rw [if_neg c56] at K hs
      refine z_go2 M.1 76 [(.iconst 0, 1)] (77, [(0, z_r 78), (1, .inl x1), (2, .inl x2), (3, .inl x3)], [.inl 0], zW T' G' S48 n, 0, 0) (by decide +kernel) rfl ⟨trivial, trivial⟩ ?_
      exact z_iret M (by decide +kernel) .boolean rfl rfl (by decide) (by decide) (hQ _ _ K)
    · rw [if_pos c56] at K hs
      refine z_go2 M.1 59 [(.aload_n 0, 1), (.aload_n 0, 1), (.getfield 34, 3), (.iload_n 1, 1), (.iload_n 2, 1)] (66, [(0, z_r 78), (1, .inl x1), (2, .inl x2), (3, .inl x3)], [.inl x2, .inl x1, z_r 86, z_r 78], zW T' G' S48 n, 0, 0) (by decide +kernel) rfl ⟨trivial, trivial, rfl, trivial, trivial, trivial⟩ ?_
      refine z_callV M.1 (av := [z_r 86, .inl x1, .inl x2]) (st := []) (a := 78) (ci := 14) (by decide +kernel) (c_M_sees_86 T' G' S48 n x1 x2 hs.1) M.2.1 zl_M_233 zv_M_sees rfl rfl rfl ⟨by decide, by decide, by decide, by decide⟩ rfl (Nat.le_of_ble_eq_true rfl) (fun v w' hv => ?_)
      obtain ⟨rfl, rfl⟩ := hv
      replace hs := hs.2
      show z_G X zm_M_level (69, [(0, z_r 78), (1, .inl x1), (2, .inl x2), (3, .inl x3)], [.inl (F_M_sees 86 S48 x1 x2)], zW T' G' S48 n, 0, 0)
      refine z_if_eq 76 M.1 (off := 7) (by decide +kernel) (by decide) (fun c69 => ?_) (fun c69 => ?_)
      · rw [if_pos c69] at K
        refine z_go2 M.1 76 [(.iconst 0, 1)] (77, [(0, z_r 78), (1, .inl x1), (2, .inl x2), (3, .inl x3)], [.inl 0], zW T' G' S48 n, 0, 0) (by decide +kernel) rfl ⟨trivial, trivial⟩ ?_
        exact z_iret M (by decide +kernel) .boolean rfl rfl (by decide) (by decide) (hQ _ _ K)
      · rw [if_neg c69] at K
        refine z_go2 M.1 72 [(.iconst 1, 1), (.goto 4, 3)] (77, [(0, z_r 78), (1, .inl x1), (2, .inl x2), (3, .inl x3)], [.inl 1], zW T' G' S48 n, 0, 0) (by decide +kernel) rfl ⟨trivial, trivial, trivial⟩ ?_
        exact z_iret M (by decide +kernel) .boolean rfl rfl (by decide) (by decide) (hQ _ _ K)
  · rw [if_neg c35] at K hs
    refine z_go2 M.1 38 [(.iconst 0, 1)] (39, [(0, z_r 78), (1, .inl x1), (2, .inl x2), (3, .inl x3)], [.inl 0], zW T' G' (z_uS S 78 0 s0) n, 0, 0) (by decide +kernel) rfl ⟨trivial, trivial⟩ ?_
    exact z_iret M (by decide +kernel) .boolean rfl rfl (by decide) (by decide) (hQ _ _ K)
def F_M_level (fl : Nat → Nat) (S : (Nat → Nat → Int32)) (p1 : Int32) (p2 : Int32) (p3 : Int32) : (Int32 × (Nat → Nat → Int32)) := (if (F_M_isSeen S p1 p2) = 0 then (F_M_level_j28 fl S p1 p2 p3 1) else (if (F_M_isIn S p3 0 2) = 0 then (F_M_level_j28 fl S p1 p2 p3 2) else (F_M_level_j28 fl S p1 p2 p3 0)))
def Sf_M_level (fl : Nat → Nat) (S : (Nat → Nat → Int32)) (p1 : Int32) (p2 : Int32) (p3 : Int32) : Prop := (Sf_M_isSeen S p1 p2 ∧ (if (F_M_isSeen S p1 p2) = 0 then (Sf_M_level_j28 fl S p1 p2 p3 1) else (if (F_M_isIn S p3 0 2) = 0 then (Sf_M_level_j28 fl S p1 p2 p3 2) else (Sf_M_level_j28 fl S p1 p2 p3 0))))
theorem c_M_level (T' : Nat → Nat × Nat) (G' : Nat → Nat → Option Nat) (n : Nat) (fl : Nat → Nat) (hfl : zOK T' G' fl n) (S : (Nat → Nat → Int32)) (p1 : Int32) (p2 : Int32) (p3 : Int32) (hs : Sf_M_level fl S p1 p2 p3) : z_Run rm_M_level zm_M_level [z_r 78, .inl p1, .inl p2, .inl p3] (zW T' G' S n) (zq (some (.inl (F_M_level fl S p1 p2 p3).1)) (zW T' G' (F_M_level fl S p1 p2 p3).2 n)) := by
  refine z_body (by decide) zf_M_ok (Nat.le_of_ble_eq_true rfl) (fun X M => ?_)
  obtain ⟨Q, hQ, K⟩ : ∃ Q : (Int32 × (Nat → Nat → Int32)) → Prop, (∀ v S', Q (v, S') → zq (some (.inl (F_M_level fl S p1 p2 p3).1)) (zW T' G' (F_M_level fl S p1 p2 p3).2 n) (some (.inl v)) (zW T' G' S' n)) ∧ Q (F_M_level fl S p1 p2 p3) := ⟨fun o => F_M_level fl S p1 p2 p3 = o, fun v S' h => ⟨by rw [h], by rw [h]⟩, rfl⟩
  show z_G X zm_M_level (0, [(0, z_r 78), (1, .inl p1), (2, .inl p2), (3, .inl p3)], [], zW T' G' S n, 0, 0)
  unfold F_M_level at K
  unfold Sf_M_level at hs
  refine z_go2 M.1 0 [(.aload_n 0, 1), (.aload_n 0, 1), (.iload_n 1, 1), (.iload_n 2, 1)] (4, [(0, z_r 78), (1, .inl p1), (2, .inl p2), (3, .inl p3)], [.inl p2, .inl p1, z_r 78, z_r 78], zW T' G' S n, 0, 0) (by decide +kernel) rfl ⟨trivial, trivial, trivial, trivial, trivial⟩ ?_
  refine z_callV M.1 (av := [.inl p1, .inl p2]) (st := [z_r 78]) (a := 78) (ci := 14) (by decide +kernel) (c_M_isSeen T' G' S n p1 p2 hs.1) M.2.1 zl_M_336 zv_M_isSeen rfl rfl rfl ⟨by decide, by decide, by decide, by decide⟩ rfl (Nat.le_of_ble_eq_true rfl) (fun v w' hv => ?_)
  obtain ⟨rfl, rfl⟩ := hv
  replace hs := hs.2
  show z_G X zm_M_level (7, [(0, z_r 78), (1, .inl p1), (2, .inl p2), (3, .inl p3)], [.inl (F_M_isSeen S p1 p2), z_r 78], zW T' G' S n, 0, 0)
  refine z_if_ne 14 M.1 (off := 7) (by decide +kernel) (by decide) (fun c7 => ?_) (fun c7 => ?_)
  · rw [if_neg c7] at K hs
    refine z_go2 M.1 14 [(.iload_n 3, 1), (.iconst 0, 1), (.iconst 2, 1)] (17, [(0, z_r 78), (1, .inl p1), (2, .inl p2), (3, .inl p3)], [.inl 2, .inl 0, .inl p3, z_r 78], zW T' G' S n, 0, 0) (by decide +kernel) rfl ⟨trivial, trivial, trivial, trivial⟩ ?_
    refine z_callS M.1 (av := [.inl p3, .inl 0, .inl 2]) (st := [z_r 78]) (by decide +kernel) (c_M_isIn T' G' S n p3 0 2) M.2.1 zl_M_178 zs_M_isIn ⟨by decide, by decide, by decide, by decide⟩ rfl (Nat.le_of_ble_eq_true rfl) (fun v w' hv => ?_)
    obtain ⟨rfl, rfl⟩ := hv
    show z_G X zm_M_level (20, [(0, z_r 78), (1, .inl p1), (2, .inl p2), (3, .inl p3)], [.inl (F_M_isIn S p3 0 2), z_r 78], zW T' G' S n, 0, 0)
    refine z_if_eq 27 M.1 (off := 7) (by decide +kernel) (by decide) (fun c20 => ?_) (fun c20 => ?_)
    · rw [if_pos c20] at K hs
      refine z_go2 M.1 27 [(.iconst 2, 1)] (28, [(0, z_r 78), (1, .inl p1), (2, .inl p2), (3, .inl p3)], [.inl 2, z_r 78], zW T' G' S n, 0, 0) (by decide +kernel) rfl ⟨trivial, trivial⟩ ?_
      exact z_lvs (lv' := [(0, z_r 78), (1, .inl p1), (2, .inl p2), (3, .inl p3)]) [0, 1, 2, 3] rfl (t_M_level_j28 M fl hfl S p1 p2 p3 2 hQ K hs)
    · rw [if_neg c20] at K hs
      refine z_go2 M.1 23 [(.iconst 0, 1), (.goto 4, 3)] (28, [(0, z_r 78), (1, .inl p1), (2, .inl p2), (3, .inl p3)], [.inl 0, z_r 78], zW T' G' S n, 0, 0) (by decide +kernel) rfl ⟨trivial, trivial, trivial⟩ ?_
      exact z_lvs (lv' := [(0, z_r 78), (1, .inl p1), (2, .inl p2), (3, .inl p3)]) [0, 1, 2, 3] rfl (t_M_level_j28 M fl hfl S p1 p2 p3 0 hQ K hs)
  · rw [if_pos c7] at K hs
    refine z_go2 M.1 10 [(.iconst 1, 1), (.goto 17, 3)] (28, [(0, z_r 78), (1, .inl p1), (2, .inl p2), (3, .inl p3)], [.inl 1, z_r 78], zW T' G' S n, 0, 0) (by decide +kernel) rfl ⟨trivial, trivial, trivial⟩ ?_
    exact z_lvs (lv' := [(0, z_r 78), (1, .inl p1), (2, .inl p2), (3, .inl p3)]) [0, 1, 2, 3] rfl (t_M_level_j28 M fl hfl S p1 p2 p3 1 hQ K hs)

-- TrackHouseModel.transfer
abbrev rm_M_transfer : Room := zr 7
def F_M_transfer_j240 (fl : Nat → Nat) (S : (Nat → Nat → Int32)) (x7 : Int32) (s0 : Int32) : (Int32 × (Nat → Nat → Int32)) := (if s0 ≤ 0 then (x7, (z_uS S 78 0 s0)) else (0, (z_uS S 78 0 s0)))
theorem t_M_transfer_j240 {X : z_X} {Post : Option z_V → z_W → Prop} (M : z_M X zm_M_transfer rm_M_transfer Post) {T' : Nat → Nat × Nat} {G' : Nat → Nat → Option Nat} {n : Nat} (fl : Nat → Nat) (hfl : zOK T' G' fl n) {Q : (Int32 × (Nat → Nat → Int32)) → Prop} (S : (Nat → Nat → Int32)) (x7 : Int32) (s0 : Int32) (hQ : ∀ v S', Q (v, S') → Post (some (.inl v)) (zW T' G' S' n)) (K : Q (F_M_transfer_j240 fl S x7 s0)) : z_G X zm_M_transfer (240, [(0, z_r 78), (7, .inl x7)], [.inl s0, z_r 78], zW T' G' S n, 0, 0) := by
  unfold F_M_transfer_j240 at K
  refine z_go2 M.1 240 [(.putfield 175, 3), (.aload_n 0, 1), (.getfield 175, 3)] (247, [(0, z_r 78), (7, .inl x7)], [.inl s0], zW T' G' (z_uS S 78 0 s0) n, 0, 0) (by decide +kernel) rfl ⟨⟨rfl, trivial⟩, trivial, rfl, trivial⟩ ?_
  refine z_if_le 254 M.1 (off := 7) (by decide +kernel) (by decide) (fun c247 => ?_) (fun c247 => ?_)
  · rw [if_pos c247] at K
    refine z_go2 M.1 254 [(.iload 7, 2)] (256, [(0, z_r 78), (7, .inl x7)], [.inl x7], zW T' G' (z_uS S 78 0 s0) n, 0, 0) (by decide +kernel) rfl ⟨trivial, trivial⟩ ?_
    exact z_iret M (by decide +kernel) .int rfl rfl (by decide) (by decide) (hQ _ _ K)
  · rw [if_neg c247] at K
    refine z_go2 M.1 250 [(.iconst 0, 1), (.goto 5, 3)] (256, [(0, z_r 78), (7, .inl x7)], [.inl 0], zW T' G' (z_uS S 78 0 s0) n, 0, 0) (by decide +kernel) rfl ⟨trivial, trivial, trivial⟩ ?_
    exact z_iret M (by decide +kernel) .int rfl rfl (by decide) (by decide) (hQ _ _ K)
def F_M_transfer_j201 (fl : Nat → Nat) (S : (Nat → Nat → Int32)) (x1 : Int32) (x2 : Int32) (x3 : Int32) (x5 : Int32) : (Int32 × (Nat → Nat → Int32)) := (z_let (F_M_change 86 S 8 x1 x2 0 x3) (fun S212 => (match F_M_stays fl S212 x5 1 with | (r229, S229) => (if r229 = 0 then (F_M_transfer_j240 fl S229 ((S212 78 2) - x5) 3) else (F_M_transfer_j240 fl S229 ((S212 78 2) - x5) 0)))))
def Sf_M_transfer_j201 (fl : Nat → Nat) (S : (Nat → Nat → Int32)) (x1 : Int32) (x2 : Int32) (x3 : Int32) (x5 : Int32) : Prop := (Sf_M_change 86 S 8 x1 x2 0 x3 ∧ (z_let (F_M_change 86 S 8 x1 x2 0 x3) (fun S212 => (Sf_M_stays fl S212 x5 1 ∧ True))))
theorem t_M_transfer_j201 {X : z_X} {Post : Option z_V → z_W → Prop} (M : z_M X zm_M_transfer rm_M_transfer Post) {T' : Nat → Nat × Nat} {G' : Nat → Nat → Option Nat} {n : Nat} (fl : Nat → Nat) (hfl : zOK T' G' fl n) {Q : (Int32 × (Nat → Nat → Int32)) → Prop} (S : (Nat → Nat → Int32)) (x1 : Int32) (x2 : Int32) (x3 : Int32) (x5 : Int32) (hQ : ∀ v S', Q (v, S') → Post (some (.inl v)) (zW T' G' S' n)) (K : Q (F_M_transfer_j201 fl S x1 x2 x3 x5)) (hs : Sf_M_transfer_j201 fl S x1 x2 x3 x5) : z_G X zm_M_transfer (201, [(0, z_r 78), (1, .inl x1), (2, .inl x2), (3, .inl x3), (5, .inl x5)], [], zW T' G' S n, 0, 0) := by
  unfold F_M_transfer_j201 at K
  unfold Sf_M_transfer_j201 at hs
  refine z_go2 M.1 201 [(.aload_n 0, 1), (.aload_n 0, 1), (.getfield 34, 3), (.bipush 8, 2), (.iload_n 1, 1), (.iload_n 2, 1), (.iconst 0, 1), (.iload_n 3, 1)] (212, [(0, z_r 78), (1, .inl x1), (2, .inl x2), (3, .inl x3), (5, .inl x5)], [.inl x3, .inl 0, .inl x2, .inl x1, .inl 8, z_r 86, z_r 78], zW T' G' S n, 0, 0) (by decide +kernel) rfl ⟨trivial, trivial, rfl, trivial, trivial, trivial, trivial, trivial, trivial⟩ ?_
  refine z_callV M.1 (av := [z_r 86, .inl 8, .inl x1, .inl x2, .inl 0, .inl x3]) (st := []) (a := 78) (ci := 14) (by decide +kernel) (c_M_change_86 T' G' S n 8 x1 x2 0 x3 hs.1) M.2.1 zl_M_259 zv_M_change rfl rfl rfl ⟨by decide, by decide, by decide, by decide⟩ rfl (Nat.le_of_ble_eq_true rfl) (fun v w' hv => ?_)
  replace hs := hs.2
  obtain ⟨S212, hF212⟩ : ∃ y, F_M_change 86 S 8 x1 x2 0 x3 = y := ⟨_, rfl⟩
  rw [hF212] at K hv
  try rw [hF212] at hs
  try dsimp only [z_let] at K hs
  obtain ⟨rfl, rfl⟩ := hv
  show z_G X zm_M_transfer (215, [(0, z_r 78), (1, .inl x1), (2, .inl x2), (3, .inl x3), (5, .inl x5)], [], zW T' G' S212 n, 0, 0)
  refine z_go2 M.1 215 [(.aload_n 0, 1), (.getfield 182, 3), (.iload 5, 2), (.isub, 1), (.istore 7, 2), (.aload_n 0, 1), (.aload_n 0, 1), (.iload 5, 2), (.iconst 1, 1)] (229, [(7, .inl ((S212 78 2) - x5)), (0, z_r 78), (1, .inl x1), (2, .inl x2), (3, .inl x3), (5, .inl x5)], [.inl 1, .inl x5, z_r 78, z_r 78], zW T' G' S212 n, 0, 0) (by decide +kernel) rfl ⟨trivial, rfl, trivial, trivial, trivial, trivial, trivial, trivial, trivial, trivial⟩ ?_
  refine z_callV M.1 (av := [.inl x5, .inl 1]) (st := [z_r 78]) (a := 78) (ci := 14) (by decide +kernel) (c_M_stays T' G' n fl hfl S212 x5 1 hs.1) M.2.1 zl_M_301 zv_M_stays rfl rfl rfl ⟨by decide, by decide, by decide, by decide⟩ rfl (Nat.le_of_ble_eq_true rfl) (fun v w' hv => ?_)
  replace hs := hs.2
  rcases hF229 : F_M_stays fl S212 x5 1 with ⟨r229, S229⟩
  rw [hF229] at K hv
  try dsimp only at K
  obtain ⟨rfl, rfl⟩ := hv
  show z_G X zm_M_transfer (232, [(7, .inl ((S212 78 2) - x5)), (0, z_r 78), (1, .inl x1), (2, .inl x2), (3, .inl x3), (5, .inl x5)], [.inl r229, z_r 78], zW T' G' S229 n, 0, 0)
  refine z_if_eq 239 M.1 (off := 7) (by decide +kernel) (by decide) (fun c232 => ?_) (fun c232 => ?_)
  · rw [if_pos c232] at K
    refine z_go2 M.1 239 [(.iconst 3, 1)] (240, [(7, .inl ((S212 78 2) - x5)), (0, z_r 78), (1, .inl x1), (2, .inl x2), (3, .inl x3), (5, .inl x5)], [.inl 3, z_r 78], zW T' G' S229 n, 0, 0) (by decide +kernel) rfl ⟨trivial, trivial⟩ ?_
    exact z_lvs (lv' := [(0, z_r 78), (7, .inl ((S212 78 2) - x5))]) [1, 0] rfl (t_M_transfer_j240 M fl hfl S229 ((S212 78 2) - x5) 3 hQ K)
  · rw [if_neg c232] at K
    refine z_go2 M.1 235 [(.iconst 0, 1), (.goto 4, 3)] (240, [(7, .inl ((S212 78 2) - x5)), (0, z_r 78), (1, .inl x1), (2, .inl x2), (3, .inl x3), (5, .inl x5)], [.inl 0, z_r 78], zW T' G' S229 n, 0, 0) (by decide +kernel) rfl ⟨trivial, trivial, trivial⟩ ?_
    exact z_lvs (lv' := [(0, z_r 78), (7, .inl ((S212 78 2) - x5))]) [1, 0] rfl (t_M_transfer_j240 M fl hfl S229 ((S212 78 2) - x5) 0 hQ K)
def F_M_transfer_j104 (fl : Nat → Nat) (S : (Nat → Nat → Int32)) (x1 : Int32) (x2 : Int32) (x3 : Int32) (s0 : Int32) : (Int32 × (Nat → Nat → Int32)) := (if s0 ≤ 0 then (z_let (F_M_change 86 (z_uS S 78 0 s0) 6 x1 x2 0 0) (fun S133 => (z_let (F_M_change 86 S133 7 x1 x2 0 (-1)) (fun S147 => (if (S147 91 (x2).toNatClampNeg) = (-1) then (F_M_transfer_j201 fl S147 x1 x2 x3 (S 78 2)) else (if ((F_M_rolesOf 86 S147 (S147 91 (x2).toNatClampNeg) x3) &&& (S147 124 (x3).toNatClampNeg)) = 0 then (z_let (F_M_change 86 S147 4 x1 x2 0 (-1)) (fun S198 => (z_let (F_M_change 86 S198 8 x1 x2 0 x3) (fun S212 => (match F_M_stays fl S212 (S 78 2) 1 with | (r229, S229) => (if r229 = 0 then (F_M_transfer_j240 fl S229 ((S212 78 2) - (S 78 2)) 3) else (F_M_transfer_j240 fl S229 ((S212 78 2) - (S 78 2)) 0))))))) else (F_M_transfer_j201 fl S147 x1 x2 x3 (S 78 2)))))))) else (0, (z_uS S 78 0 s0)))
def Sf_M_transfer_j104 (fl : Nat → Nat) (S : (Nat → Nat → Int32)) (x1 : Int32) (x2 : Int32) (x3 : Int32) (s0 : Int32) : Prop := (if s0 ≤ 0 then (Sf_M_change 86 (z_uS S 78 0 s0) 6 x1 x2 0 0 ∧ (z_let (F_M_change 86 (z_uS S 78 0 s0) 6 x1 x2 0 0) (fun S133 => (Sf_M_change 86 S133 7 x1 x2 0 (-1) ∧ (z_let (F_M_change 86 S133 7 x1 x2 0 (-1)) (fun S147 => ((vp_in x2 30) ∧ (if (S147 91 (x2).toNatClampNeg) = (-1) then (Sf_M_transfer_j201 fl S147 x1 x2 x3 (S 78 2)) else (Sf_M_rolesOf 86 S147 (S147 91 (x2).toNatClampNeg) x3 ∧ ((vp_in x3 3) ∧ (if ((F_M_rolesOf 86 S147 (S147 91 (x2).toNatClampNeg) x3) &&& (S147 124 (x3).toNatClampNeg)) = 0 then (Sf_M_change 86 S147 4 x1 x2 0 (-1) ∧ (z_let (F_M_change 86 S147 4 x1 x2 0 (-1)) (fun S198 => (Sf_M_change 86 S198 8 x1 x2 0 x3 ∧ (z_let (F_M_change 86 S198 8 x1 x2 0 x3) (fun S212 => (Sf_M_stays fl S212 (S 78 2) 1 ∧ True))))))) else (Sf_M_transfer_j201 fl S147 x1 x2 x3 (S 78 2))))))))))))) else True)
theorem t_M_transfer_j104 {X : z_X} {Post : Option z_V → z_W → Prop} (M : z_M X zm_M_transfer rm_M_transfer Post) {T' : Nat → Nat × Nat} {G' : Nat → Nat → Option Nat} {n : Nat} (fl : Nat → Nat) (hfl : zOK T' G' fl n) {Q : (Int32 × (Nat → Nat → Int32)) → Prop} (S : (Nat → Nat → Int32)) (x1 : Int32) (x2 : Int32) (x3 : Int32) (s0 : Int32) (hQ : ∀ v S', Q (v, S') → Post (some (.inl v)) (zW T' G' S' n)) (K : Q (F_M_transfer_j104 fl S x1 x2 x3 s0)) (hs : Sf_M_transfer_j104 fl S x1 x2 x3 s0) : z_G X zm_M_transfer (104, [(0, z_r 78), (1, .inl x1), (2, .inl x2), (3, .inl x3)], [.inl s0, z_r 78], zW T' G' S n, 0, 0) := by
  unfold F_M_transfer_j104 at K
  unfold Sf_M_transfer_j104 at hs
  refine z_go2 M.1 104 [(.putfield 175, 3), (.aload_n 0, 1), (.getfield 175, 3)] (111, [(0, z_r 78), (1, .inl x1), (2, .inl x2), (3, .inl x3)], [.inl s0], zW T' G' (z_uS S 78 0 s0) n, 0, 0) (by decide +kernel) rfl ⟨⟨rfl, trivial⟩, trivial, rfl, trivial⟩ ?_
  refine z_if_le 116 M.1 (off := 5) (by decide +kernel) (by decide) (fun c111 => ?_) (fun c111 => ?_)
  · rw [if_pos c111] at K hs
    refine z_go2 M.1 116 [(.aload_n 0, 1), (.getfield 182, 3), (.istore 5, 2), (.aload_n 0, 1), (.aload_n 0, 1), (.getfield 34, 3), (.bipush 6, 2), (.iload_n 1, 1), (.iload_n 2, 1), (.iconst 0, 1), (.iconst 0, 1)] (133, [(5, .inl (S 78 2)), (0, z_r 78), (1, .inl x1), (2, .inl x2), (3, .inl x3)], [.inl 0, .inl 0, .inl x2, .inl x1, .inl 6, z_r 86, z_r 78], zW T' G' (z_uS S 78 0 s0) n, 0, 0) (by decide +kernel) rfl ⟨trivial, rfl, trivial, trivial, trivial, rfl, trivial, trivial, trivial, trivial, trivial, trivial⟩ ?_
    refine z_callV M.1 (av := [z_r 86, .inl 6, .inl x1, .inl x2, .inl 0, .inl 0]) (st := []) (a := 78) (ci := 14) (by decide +kernel) (c_M_change_86 T' G' (z_uS S 78 0 s0) n 6 x1 x2 0 0 hs.1) M.2.1 zl_M_259 zv_M_change rfl rfl rfl ⟨by decide, by decide, by decide, by decide⟩ rfl (Nat.le_of_ble_eq_true rfl) (fun v w' hv => ?_)
    replace hs := hs.2
    obtain ⟨S133, hF133⟩ : ∃ y, F_M_change 86 (z_uS S 78 0 s0) 6 x1 x2 0 0 = y := ⟨_, rfl⟩
    rw [hF133] at K hv
    try rw [hF133] at hs
    try dsimp only [z_let] at K hs
    obtain ⟨rfl, rfl⟩ := hv
    show z_G X zm_M_transfer (136, [(5, .inl (S 78 2)), (0, z_r 78), (1, .inl x1), (2, .inl x2), (3, .inl x3)], [], zW T' G' S133 n, 0, 0)
    refine z_go2 M.1 136 [(.aload_n 0, 1), (.aload_n 0, 1), (.getfield 34, 3), (.bipush 7, 2), (.iload_n 1, 1), (.iload_n 2, 1), (.iconst 0, 1), (.iconst (-1), 1)] (147, [(5, .inl (S 78 2)), (0, z_r 78), (1, .inl x1), (2, .inl x2), (3, .inl x3)], [.inl (-1), .inl 0, .inl x2, .inl x1, .inl 7, z_r 86, z_r 78], zW T' G' S133 n, 0, 0) (by decide +kernel) rfl ⟨trivial, trivial, rfl, trivial, trivial, trivial, trivial, trivial, trivial⟩ ?_
    refine z_callV M.1 (av := [z_r 86, .inl 7, .inl x1, .inl x2, .inl 0, .inl (-1)]) (st := []) (a := 78) (ci := 14) (by decide +kernel) (c_M_change_86 T' G' S133 n 7 x1 x2 0 (-1) hs.1) M.2.1 zl_M_259 zv_M_change rfl rfl rfl ⟨by decide, by decide, by decide, by decide⟩ rfl (Nat.le_of_ble_eq_true rfl) (fun v w' hv => ?_)
    replace hs := hs.2
    obtain ⟨S147, hF147⟩ : ∃ y, F_M_change 86 S133 7 x1 x2 0 (-1) = y := ⟨_, rfl⟩
    rw [hF147] at K hv
    try rw [hF147] at hs
    try dsimp only [z_let] at K hs
    obtain ⟨rfl, rfl⟩ := hv
    show z_G X zm_M_transfer (150, [(5, .inl (S 78 2)), (0, z_r 78), (1, .inl x1), (2, .inl x2), (3, .inl x3)], [], zW T' G' S147 n, 0, 0)
    refine z_go2 M.1 150 [(.aload_n 0, 1), (.getfield 34, 3), (.getfield 204, 3), (.iload_n 2, 1), (.iaload, 1), (.istore 6, 2), (.iload 6, 2), (.iconst (-1), 1)] (164, [(6, .inl (S147 91 (x2).toNatClampNeg)), (5, .inl (S 78 2)), (0, z_r 78), (1, .inl x1), (2, .inl x2), (3, .inl x3)], [.inl (-1), .inl (S147 91 (x2).toNatClampNeg)], zW T' G' S147 n, 0, 0) (by decide +kernel) rfl ⟨trivial, rfl, rfl, trivial, ⟨rfl, hs.1⟩, trivial, trivial, trivial, trivial⟩ ?_
    replace hs := hs.2
    refine z_icmp_eq 201 M.1 (off := 37) (by decide +kernel) (by decide) (fun c164 => ?_) (fun c164 => ?_)
    · rw [if_pos c164] at K hs
      exact z_lvs (lv' := [(0, z_r 78), (1, .inl x1), (2, .inl x2), (3, .inl x3), (5, .inl (S 78 2))]) [2, 3, 4, 5, 1] rfl (t_M_transfer_j201 M fl hfl S147 x1 x2 x3 (S 78 2) hQ K hs)
    · rw [if_neg c164] at K hs
      refine z_go2 M.1 167 [(.aload_n 0, 1), (.aload_n 0, 1), (.getfield 34, 3), (.iload 6, 2), (.iload_n 3, 1)] (175, [(6, .inl (S147 91 (x2).toNatClampNeg)), (5, .inl (S 78 2)), (0, z_r 78), (1, .inl x1), (2, .inl x2), (3, .inl x3)], [.inl x3, .inl (S147 91 (x2).toNatClampNeg), z_r 86, z_r 78], zW T' G' S147 n, 0, 0) (by decide +kernel) rfl ⟨trivial, trivial, rfl, trivial, trivial, trivial⟩ ?_
      refine z_callV M.1 (av := [z_r 86, .inl (S147 91 (x2).toNatClampNeg), .inl x3]) (st := []) (a := 78) (ci := 14) (by decide +kernel) (c_M_rolesOf_86 T' G' S147 n (S147 91 (x2).toNatClampNeg) x3 hs.1) M.2.1 zl_M_229 zv_M_rolesOf rfl rfl rfl ⟨by decide, by decide, by decide, by decide⟩ rfl (Nat.le_of_ble_eq_true rfl) (fun v w' hv => ?_)
      obtain ⟨rfl, rfl⟩ := hv
      replace hs := hs.2
      show z_G X zm_M_transfer (178, [(6, .inl (S147 91 (x2).toNatClampNeg)), (5, .inl (S 78 2)), (0, z_r 78), (1, .inl x1), (2, .inl x2), (3, .inl x3)], [.inl (F_M_rolesOf 86 S147 (S147 91 (x2).toNatClampNeg) x3)], zW T' G' S147 n, 0, 0)
      refine z_go2 M.1 178 [(.aload_n 0, 1), (.getfield 50, 3), (.iload_n 3, 1), (.iaload, 1), (.iand, 1)] (185, [(6, .inl (S147 91 (x2).toNatClampNeg)), (5, .inl (S 78 2)), (0, z_r 78), (1, .inl x1), (2, .inl x2), (3, .inl x3)], [.inl ((F_M_rolesOf 86 S147 (S147 91 (x2).toNatClampNeg) x3) &&& (S147 124 (x3).toNatClampNeg))], zW T' G' S147 n, 0, 0) (by decide +kernel) rfl ⟨trivial, rfl, trivial, ⟨rfl, hs.1⟩, trivial, trivial⟩ ?_
      replace hs := hs.2
      refine z_if_ne 201 M.1 (off := 16) (by decide +kernel) (by decide) (fun c185 => ?_) (fun c185 => ?_)
      · rw [if_neg c185] at K hs
        exact z_lvs (lv' := [(0, z_r 78), (1, .inl x1), (2, .inl x2), (3, .inl x3), (5, .inl (S 78 2))]) [2, 3, 4, 5, 1] rfl (t_M_transfer_j201 M fl hfl S147 x1 x2 x3 (S 78 2) hQ K hs)
      · rw [if_pos c185] at K hs
        refine z_go2 M.1 188 [(.aload_n 0, 1), (.aload_n 0, 1), (.getfield 34, 3), (.iconst 4, 1), (.iload_n 1, 1), (.iload_n 2, 1), (.iconst 0, 1), (.iconst (-1), 1)] (198, [(6, .inl (S147 91 (x2).toNatClampNeg)), (5, .inl (S 78 2)), (0, z_r 78), (1, .inl x1), (2, .inl x2), (3, .inl x3)], [.inl (-1), .inl 0, .inl x2, .inl x1, .inl 4, z_r 86, z_r 78], zW T' G' S147 n, 0, 0) (by decide +kernel) rfl ⟨trivial, trivial, rfl, trivial, trivial, trivial, trivial, trivial, trivial⟩ ?_
        refine z_callV M.1 (av := [z_r 86, .inl 4, .inl x1, .inl x2, .inl 0, .inl (-1)]) (st := []) (a := 78) (ci := 14) (by decide +kernel) (c_M_change_86 T' G' S147 n 4 x1 x2 0 (-1) hs.1) M.2.1 zl_M_259 zv_M_change rfl rfl rfl ⟨by decide, by decide, by decide, by decide⟩ rfl (Nat.le_of_ble_eq_true rfl) (fun v w' hv => ?_)
        replace hs := hs.2
        obtain ⟨S198, hF198⟩ : ∃ y, F_M_change 86 S147 4 x1 x2 0 (-1) = y := ⟨_, rfl⟩
        rw [hF198] at K hv
        try rw [hF198] at hs
        try dsimp only [z_let] at K hs
        obtain ⟨rfl, rfl⟩ := hv
        show z_G X zm_M_transfer (201, [(6, .inl (S147 91 (x2).toNatClampNeg)), (5, .inl (S 78 2)), (0, z_r 78), (1, .inl x1), (2, .inl x2), (3, .inl x3)], [], zW T' G' S198 n, 0, 0)
        refine z_go2 M.1 201 [(.aload_n 0, 1), (.aload_n 0, 1), (.getfield 34, 3), (.bipush 8, 2), (.iload_n 1, 1), (.iload_n 2, 1), (.iconst 0, 1), (.iload_n 3, 1)] (212, [(6, .inl (S147 91 (x2).toNatClampNeg)), (5, .inl (S 78 2)), (0, z_r 78), (1, .inl x1), (2, .inl x2), (3, .inl x3)], [.inl x3, .inl 0, .inl x2, .inl x1, .inl 8, z_r 86, z_r 78], zW T' G' S198 n, 0, 0) (by decide +kernel) rfl ⟨trivial, trivial, rfl, trivial, trivial, trivial, trivial, trivial, trivial⟩ ?_
        refine z_callV M.1 (av := [z_r 86, .inl 8, .inl x1, .inl x2, .inl 0, .inl x3]) (st := []) (a := 78) (ci := 14) (by decide +kernel) (c_M_change_86 T' G' S198 n 8 x1 x2 0 x3 hs.1) M.2.1 zl_M_259 zv_M_change rfl rfl rfl ⟨by decide, by decide, by decide, by decide⟩ rfl (Nat.le_of_ble_eq_true rfl) (fun v w' hv => ?_)
        replace hs := hs.2
        obtain ⟨S212, hF212⟩ : ∃ y, F_M_change 86 S198 8 x1 x2 0 x3 = y := ⟨_, rfl⟩
        rw [hF212] at K hv
        try rw [hF212] at hs
        try dsimp only [z_let] at K hs
        obtain ⟨rfl, rfl⟩ := hv
        show z_G X zm_M_transfer (215, [(6, .inl (S147 91 (x2).toNatClampNeg)), (5, .inl (S 78 2)), (0, z_r 78), (1, .inl x1), (2, .inl x2), (3, .inl x3)], [], zW T' G' S212 n, 0, 0)
        refine z_go2 M.1 215 [(.aload_n 0, 1), (.getfield 182, 3), (.iload 5, 2), (.isub, 1), (.istore 7, 2), (.aload_n 0, 1), (.aload_n 0, 1), (.iload 5, 2), (.iconst 1, 1)] (229, [(7, .inl ((S212 78 2) - (S 78 2))), (6, .inl (S147 91 (x2).toNatClampNeg)), (5, .inl (S 78 2)), (0, z_r 78), (1, .inl x1), (2, .inl x2), (3, .inl x3)], [.inl 1, .inl (S 78 2), z_r 78, z_r 78], zW T' G' S212 n, 0, 0) (by decide +kernel) rfl ⟨trivial, rfl, trivial, trivial, trivial, trivial, trivial, trivial, trivial, trivial⟩ ?_
        refine z_callV M.1 (av := [.inl (S 78 2), .inl 1]) (st := [z_r 78]) (a := 78) (ci := 14) (by decide +kernel) (c_M_stays T' G' n fl hfl S212 (S 78 2) 1 hs.1) M.2.1 zl_M_301 zv_M_stays rfl rfl rfl ⟨by decide, by decide, by decide, by decide⟩ rfl (Nat.le_of_ble_eq_true rfl) (fun v w' hv => ?_)
        replace hs := hs.2
        rcases hF229 : F_M_stays fl S212 (S 78 2) 1 with ⟨r229, S229⟩
        rw [hF229] at K hv
        try dsimp only at K
        obtain ⟨rfl, rfl⟩ := hv
        show z_G X zm_M_transfer (232, [(7, .inl ((S212 78 2) - (S 78 2))), (6, .inl (S147 91 (x2).toNatClampNeg)), (5, .inl (S 78 2)), (0, z_r 78), (1, .inl x1), (2, .inl x2), (3, .inl x3)], [.inl r229, z_r 78], zW T' G' S229 n, 0, 0)
        refine z_if_eq 239 M.1 (off := 7) (by decide +kernel) (by decide) (fun c232 => ?_) (fun c232 => ?_)
        · rw [if_pos c232] at K
          refine z_go2 M.1 239 [(.iconst 3, 1)] (240, [(7, .inl ((S212 78 2) - (S 78 2))), (6, .inl (S147 91 (x2).toNatClampNeg)), (5, .inl (S 78 2)), (0, z_r 78), (1, .inl x1), (2, .inl x2), (3, .inl x3)], [.inl 3, z_r 78], zW T' G' S229 n, 0, 0) (by decide +kernel) rfl ⟨trivial, trivial⟩ ?_
          exact z_lvs (lv' := [(0, z_r 78), (7, .inl ((S212 78 2) - (S 78 2)))]) [3, 0] rfl (t_M_transfer_j240 M fl hfl S229 ((S212 78 2) - (S 78 2)) 3 hQ K)
        · rw [if_neg c232] at K
          refine z_go2 M.1 235 [(.iconst 0, 1), (.goto 4, 3)] (240, [(7, .inl ((S212 78 2) - (S 78 2))), (6, .inl (S147 91 (x2).toNatClampNeg)), (5, .inl (S 78 2)), (0, z_r 78), (1, .inl x1), (2, .inl x2), (3, .inl x3)], [.inl 0, z_r 78], zW T' G' S229 n, 0, 0) (by decide +kernel) rfl ⟨trivial, trivial, trivial⟩ ?_
          exact z_lvs (lv' := [(0, z_r 78), (7, .inl ((S212 78 2) - (S 78 2)))]) [3, 0] rfl (t_M_transfer_j240 M fl hfl S229 ((S212 78 2) - (S 78 2)) 0 hQ K)
  · rw [if_neg c111] at K hs
    refine z_go2 M.1 114 [(.iconst 0, 1)] (115, [(0, z_r 78), (1, .inl x1), (2, .inl x2), (3, .inl x3)], [.inl 0], zW T' G' (z_uS S 78 0 s0) n, 0, 0) (by decide +kernel) rfl ⟨trivial, trivial⟩ ?_
    exact z_iret M (by decide +kernel) .int rfl rfl (by decide) (by decide) (hQ _ _ K)
def F_M_transfer_j103 (fl : Nat → Nat) (S : (Nat → Nat → Int32)) (x1 : Int32) (x2 : Int32) (x3 : Int32) : (Int32 × (Nat → Nat → Int32)) := (F_M_transfer_j104 fl S x1 x2 x3 3)
def Sf_M_transfer_j103 (fl : Nat → Nat) (S : (Nat → Nat → Int32)) (x1 : Int32) (x2 : Int32) (x3 : Int32) : Prop := (Sf_M_transfer_j104 fl S x1 x2 x3 3)
theorem t_M_transfer_j103 {X : z_X} {Post : Option z_V → z_W → Prop} (M : z_M X zm_M_transfer rm_M_transfer Post) {T' : Nat → Nat × Nat} {G' : Nat → Nat → Option Nat} {n : Nat} (fl : Nat → Nat) (hfl : zOK T' G' fl n) {Q : (Int32 × (Nat → Nat → Int32)) → Prop} (S : (Nat → Nat → Int32)) (x1 : Int32) (x2 : Int32) (x3 : Int32) (hQ : ∀ v S', Q (v, S') → Post (some (.inl v)) (zW T' G' S' n)) (K : Q (F_M_transfer_j103 fl S x1 x2 x3)) (hs : Sf_M_transfer_j103 fl S x1 x2 x3) : z_G X zm_M_transfer (103, [(0, z_r 78), (1, .inl x1), (2, .inl x2), (3, .inl x3)], [z_r 78], zW T' G' S n, 0, 0) := by
  unfold F_M_transfer_j103 at K
  unfold Sf_M_transfer_j103 at hs
  refine z_go2 M.1 103 [(.iconst 3, 1)] (104, [(0, z_r 78), (1, .inl x1), (2, .inl x2), (3, .inl x3)], [.inl 3, z_r 78], zW T' G' S n, 0, 0) (by decide +kernel) rfl ⟨trivial, trivial⟩ ?_
  exact z_lvs (lv' := [(0, z_r 78), (1, .inl x1), (2, .inl x2), (3, .inl x3)]) [0, 1, 2, 3] rfl (t_M_transfer_j104 M fl hfl S x1 x2 x3 3 hQ K hs)
def F_M_transfer_j53 (fl : Nat → Nat) (S : (Nat → Nat → Int32)) (x1 : Int32) (x2 : Int32) (x3 : Int32) (s0 : Int32) : (Int32 × (Nat → Nat → Int32)) := (if s0 ≤ 0 then (if (F_M_edits 86 (z_uS S 78 0 s0) x1 x2) = 0 then (F_M_transfer_j103 fl (z_uS S 78 0 s0) x1 x2 x3) else (if ((F_M_rolesOf 86 (z_uS S 78 0 s0) x1 x3) &&& (S 125 (x3).toNatClampNeg)) = 0 then (F_M_transfer_j103 fl (z_uS S 78 0 s0) x1 x2 x3) else (F_M_transfer_j104 fl (z_uS S 78 0 s0) x1 x2 x3 0))) else (0, (z_uS S 78 0 s0)))
def Sf_M_transfer_j53 (fl : Nat → Nat) (S : (Nat → Nat → Int32)) (x1 : Int32) (x2 : Int32) (x3 : Int32) (s0 : Int32) : Prop := (if s0 ≤ 0 then (Sf_M_edits 86 (z_uS S 78 0 s0) x1 x2 ∧ (if (F_M_edits 86 (z_uS S 78 0 s0) x1 x2) = 0 then (Sf_M_transfer_j103 fl (z_uS S 78 0 s0) x1 x2 x3) else (Sf_M_rolesOf 86 (z_uS S 78 0 s0) x1 x3 ∧ ((vp_in x3 3) ∧ (if ((F_M_rolesOf 86 (z_uS S 78 0 s0) x1 x3) &&& (S 125 (x3).toNatClampNeg)) = 0 then (Sf_M_transfer_j103 fl (z_uS S 78 0 s0) x1 x2 x3) else (Sf_M_transfer_j104 fl (z_uS S 78 0 s0) x1 x2 x3 0)))))) else True)
theorem t_M_transfer_j53 {X : z_X} {Post : Option z_V → z_W → Prop} (M : z_M X zm_M_transfer rm_M_transfer Post) {T' : Nat → Nat × Nat} {G' : Nat → Nat → Option Nat} {n : Nat} (fl : Nat → Nat) (hfl : zOK T' G' fl n) {Q : (Int32 × (Nat → Nat → Int32)) → Prop} (S : (Nat → Nat → Int32)) (x1 : Int32) (x2 : Int32) (x3 : Int32) (s0 : Int32) (hQ : ∀ v S', Q (v, S') → Post (some (.inl v)) (zW T' G' S' n)) (K : Q (F_M_transfer_j53 fl S x1 x2 x3 s0)) (hs : Sf_M_transfer_j53 fl S x1 x2 x3 s0) : z_G X zm_M_transfer (53, [(0, z_r 78), (1, .inl x1), (2, .inl x2), (3, .inl x3)], [.inl s0, z_r 78], zW T' G' S n, 0, 0) := by
  unfold F_M_transfer_j53 at K
  unfold Sf_M_transfer_j53 at hs
  refine z_go2 M.1 53 [(.putfield 175, 3), (.aload_n 0, 1), (.getfield 175, 3)] (60, [(0, z_r 78), (1, .inl x1), (2, .inl x2), (3, .inl x3)], [.inl s0], zW T' G' (z_uS S 78 0 s0) n, 0, 0) (by decide +kernel) rfl ⟨⟨rfl, trivial⟩, trivial, rfl, trivial⟩ ?_
  refine z_if_le 65 M.1 (off := 5) (by decide +kernel) (by decide) (fun c60 => ?_) (fun c60 => ?_)
  · rw [if_pos c60] at K hs
    refine z_go2 M.1 65 [(.aload_n 0, 1), (.aload_n 0, 1), (.aload_n 0, 1), (.getfield 34, 3), (.iload_n 1, 1), (.iload_n 2, 1)] (73, [(0, z_r 78), (1, .inl x1), (2, .inl x2), (3, .inl x3)], [.inl x2, .inl x1, z_r 86, z_r 78, z_r 78], zW T' G' (z_uS S 78 0 s0) n, 0, 0) (by decide +kernel) rfl ⟨trivial, trivial, trivial, rfl, trivial, trivial, trivial⟩ ?_
    refine z_callV M.1 (av := [z_r 86, .inl x1, .inl x2]) (st := [z_r 78]) (a := 78) (ci := 14) (by decide +kernel) (c_M_edits_86 T' G' (z_uS S 78 0 s0) n x1 x2 hs.1) M.2.1 zl_M_340 zv_M_edits rfl rfl rfl ⟨by decide, by decide, by decide, by decide⟩ rfl (Nat.le_of_ble_eq_true rfl) (fun v w' hv => ?_)
    obtain ⟨rfl, rfl⟩ := hv
    replace hs := hs.2
    show z_G X zm_M_transfer (76, [(0, z_r 78), (1, .inl x1), (2, .inl x2), (3, .inl x3)], [.inl (F_M_edits 86 (z_uS S 78 0 s0) x1 x2), z_r 78], zW T' G' (z_uS S 78 0 s0) n, 0, 0)
    refine z_if_eq 103 M.1 (off := 27) (by decide +kernel) (by decide) (fun c76 => ?_) (fun c76 => ?_)
    · rw [if_pos c76] at K hs
      exact z_lvs (lv' := [(0, z_r 78), (1, .inl x1), (2, .inl x2), (3, .inl x3)]) [0, 1, 2, 3] rfl (t_M_transfer_j103 M fl hfl (z_uS S 78 0 s0) x1 x2 x3 hQ K hs)
    · rw [if_neg c76] at K hs
      refine z_go2 M.1 79 [(.aload_n 0, 1), (.aload_n 0, 1), (.getfield 34, 3), (.iload_n 1, 1), (.iload_n 3, 1)] (86, [(0, z_r 78), (1, .inl x1), (2, .inl x2), (3, .inl x3)], [.inl x3, .inl x1, z_r 86, z_r 78, z_r 78], zW T' G' (z_uS S 78 0 s0) n, 0, 0) (by decide +kernel) rfl ⟨trivial, trivial, rfl, trivial, trivial, trivial⟩ ?_
      refine z_callV M.1 (av := [z_r 86, .inl x1, .inl x3]) (st := [z_r 78]) (a := 78) (ci := 14) (by decide +kernel) (c_M_rolesOf_86 T' G' (z_uS S 78 0 s0) n x1 x3 hs.1) M.2.1 zl_M_229 zv_M_rolesOf rfl rfl rfl ⟨by decide, by decide, by decide, by decide⟩ rfl (Nat.le_of_ble_eq_true rfl) (fun v w' hv => ?_)
      obtain ⟨rfl, rfl⟩ := hv
      replace hs := hs.2
      show z_G X zm_M_transfer (89, [(0, z_r 78), (1, .inl x1), (2, .inl x2), (3, .inl x3)], [.inl (F_M_rolesOf 86 (z_uS S 78 0 s0) x1 x3), z_r 78], zW T' G' (z_uS S 78 0 s0) n, 0, 0)
      refine z_go2 M.1 89 [(.aload_n 0, 1), (.getfield 53, 3), (.iload_n 3, 1), (.iaload, 1), (.iand, 1)] (96, [(0, z_r 78), (1, .inl x1), (2, .inl x2), (3, .inl x3)], [.inl ((F_M_rolesOf 86 (z_uS S 78 0 s0) x1 x3) &&& (S 125 (x3).toNatClampNeg)), z_r 78], zW T' G' (z_uS S 78 0 s0) n, 0, 0) (by decide +kernel) rfl ⟨trivial, rfl, trivial, ⟨rfl, hs.1⟩, trivial, trivial⟩ ?_
      replace hs := hs.2
      refine z_if_eq 103 M.1 (off := 7) (by decide +kernel) (by decide) (fun c96 => ?_) (fun c96 => ?_)
      · rw [if_pos c96] at K hs
        exact z_lvs (lv' := [(0, z_r 78), (1, .inl x1), (2, .inl x2), (3, .inl x3)]) [0, 1, 2, 3] rfl (t_M_transfer_j103 M fl hfl (z_uS S 78 0 s0) x1 x2 x3 hQ K hs)
      · rw [if_neg c96] at K hs
        refine z_go2 M.1 99 [(.iconst 0, 1), (.goto 4, 3)] (104, [(0, z_r 78), (1, .inl x1), (2, .inl x2), (3, .inl x3)], [.inl 0, z_r 78], zW T' G' (z_uS S 78 0 s0) n, 0, 0) (by decide +kernel) rfl ⟨trivial, trivial, trivial⟩ ?_
        exact z_lvs (lv' := [(0, z_r 78), (1, .inl x1), (2, .inl x2), (3, .inl x3)]) [0, 1, 2, 3] rfl (t_M_transfer_j104 M fl hfl (z_uS S 78 0 s0) x1 x2 x3 0 hQ K hs)
  · rw [if_neg c60] at K hs
    refine z_go2 M.1 63 [(.iconst 0, 1)] (64, [(0, z_r 78), (1, .inl x1), (2, .inl x2), (3, .inl x3)], [.inl 0], zW T' G' (z_uS S 78 0 s0) n, 0, 0) (by decide +kernel) rfl ⟨trivial, trivial⟩ ?_
    exact z_iret M (by decide +kernel) .int rfl rfl (by decide) (by decide) (hQ _ _ K)
def F_M_transfer_j23 (fl : Nat → Nat) (S : (Nat → Nat → Int32)) (x1 : Int32) (x2 : Int32) (x3 : Int32) (s0 : Int32) : (Int32 × (Nat → Nat → Int32)) := (if s0 = 0 then (F_M_transfer_j53 fl S x1 x2 x3 1) else (if (S 87 (x2).toNatClampNeg) = x3 then (F_M_transfer_j53 fl S x1 x2 x3 2) else (F_M_transfer_j53 fl S x1 x2 x3 0)))
def Sf_M_transfer_j23 (fl : Nat → Nat) (S : (Nat → Nat → Int32)) (x1 : Int32) (x2 : Int32) (x3 : Int32) (s0 : Int32) : Prop := (if s0 = 0 then (Sf_M_transfer_j53 fl S x1 x2 x3 1) else ((vp_in x2 30) ∧ (if (S 87 (x2).toNatClampNeg) = x3 then (Sf_M_transfer_j53 fl S x1 x2 x3 2) else (Sf_M_transfer_j53 fl S x1 x2 x3 0))))
theorem t_M_transfer_j23 {X : z_X} {Post : Option z_V → z_W → Prop} (M : z_M X zm_M_transfer rm_M_transfer Post) {T' : Nat → Nat × Nat} {G' : Nat → Nat → Option Nat} {n : Nat} (fl : Nat → Nat) (hfl : zOK T' G' fl n) {Q : (Int32 × (Nat → Nat → Int32)) → Prop} (S : (Nat → Nat → Int32)) (x1 : Int32) (x2 : Int32) (x3 : Int32) (s0 : Int32) (hQ : ∀ v S', Q (v, S') → Post (some (.inl v)) (zW T' G' S' n)) (K : Q (F_M_transfer_j23 fl S x1 x2 x3 s0)) (hs : Sf_M_transfer_j23 fl S x1 x2 x3 s0) : z_G X zm_M_transfer (23, [(0, z_r 78), (1, .inl x1), (2, .inl x2), (3, .inl x3)], [.inl s0], zW T' G' S n, 0, 0) := by
  unfold F_M_transfer_j23 at K
  unfold Sf_M_transfer_j23 at hs
  refine z_go2 M.1 23 [(.istore 4, 2), (.aload_n 0, 1), (.iload 4, 2)] (28, [(4, .inl s0), (0, z_r 78), (1, .inl x1), (2, .inl x2), (3, .inl x3)], [.inl s0, z_r 78], zW T' G' S n, 0, 0) (by decide +kernel) rfl ⟨trivial, trivial, trivial, trivial⟩ ?_
  refine z_if_ne 35 M.1 (off := 7) (by decide +kernel) (by decide) (fun c28 => ?_) (fun c28 => ?_)
  · rw [if_neg c28] at K hs
    refine z_go2 M.1 35 [(.aload_n 0, 1), (.getfield 34, 3), (.getfield 216, 3), (.iload_n 2, 1), (.iaload, 1), (.iload_n 3, 1)] (45, [(4, .inl s0), (0, z_r 78), (1, .inl x1), (2, .inl x2), (3, .inl x3)], [.inl x3, .inl (S 87 (x2).toNatClampNeg), z_r 78], zW T' G' S n, 0, 0) (by decide +kernel) rfl ⟨trivial, rfl, rfl, trivial, ⟨rfl, hs.1⟩, trivial, trivial⟩ ?_
    replace hs := hs.2
    refine z_icmp_ne 52 M.1 (off := 7) (by decide +kernel) (by decide) (fun c45 => ?_) (fun c45 => ?_)
    · rw [if_neg c45] at K hs
      refine z_go2 M.1 52 [(.iconst 0, 1)] (53, [(4, .inl s0), (0, z_r 78), (1, .inl x1), (2, .inl x2), (3, .inl x3)], [.inl 0, z_r 78], zW T' G' S n, 0, 0) (by decide +kernel) rfl ⟨trivial, trivial⟩ ?_
      exact z_lvs (lv' := [(0, z_r 78), (1, .inl x1), (2, .inl x2), (3, .inl x3)]) [1, 2, 3, 4] rfl (t_M_transfer_j53 M fl hfl S x1 x2 x3 0 hQ K hs)
    · rw [if_pos c45] at K hs
      refine z_go2 M.1 48 [(.iconst 2, 1), (.goto 4, 3)] (53, [(4, .inl s0), (0, z_r 78), (1, .inl x1), (2, .inl x2), (3, .inl x3)], [.inl 2, z_r 78], zW T' G' S n, 0, 0) (by decide +kernel) rfl ⟨trivial, trivial, trivial⟩ ?_
      exact z_lvs (lv' := [(0, z_r 78), (1, .inl x1), (2, .inl x2), (3, .inl x3)]) [1, 2, 3, 4] rfl (t_M_transfer_j53 M fl hfl S x1 x2 x3 2 hQ K hs)
  · rw [if_pos c28] at K hs
    refine z_go2 M.1 31 [(.iconst 1, 1), (.goto 21, 3)] (53, [(4, .inl s0), (0, z_r 78), (1, .inl x1), (2, .inl x2), (3, .inl x3)], [.inl 1, z_r 78], zW T' G' S n, 0, 0) (by decide +kernel) rfl ⟨trivial, trivial, trivial⟩ ?_
    exact z_lvs (lv' := [(0, z_r 78), (1, .inl x1), (2, .inl x2), (3, .inl x3)]) [1, 2, 3, 4] rfl (t_M_transfer_j53 M fl hfl S x1 x2 x3 1 hQ K hs)
def F_M_transfer_j22 (fl : Nat → Nat) (S : (Nat → Nat → Int32)) (x1 : Int32) (x2 : Int32) (x3 : Int32) : (Int32 × (Nat → Nat → Int32)) := (F_M_transfer_j23 fl S x1 x2 x3 0)
def Sf_M_transfer_j22 (fl : Nat → Nat) (S : (Nat → Nat → Int32)) (x1 : Int32) (x2 : Int32) (x3 : Int32) : Prop := (Sf_M_transfer_j23 fl S x1 x2 x3 0)
theorem t_M_transfer_j22 {X : z_X} {Post : Option z_V → z_W → Prop} (M : z_M X zm_M_transfer rm_M_transfer Post) {T' : Nat → Nat × Nat} {G' : Nat → Nat → Option Nat} {n : Nat} (fl : Nat → Nat) (hfl : zOK T' G' fl n) {Q : (Int32 × (Nat → Nat → Int32)) → Prop} (S : (Nat → Nat → Int32)) (x1 : Int32) (x2 : Int32) (x3 : Int32) (hQ : ∀ v S', Q (v, S') → Post (some (.inl v)) (zW T' G' S' n)) (K : Q (F_M_transfer_j22 fl S x1 x2 x3)) (hs : Sf_M_transfer_j22 fl S x1 x2 x3) : z_G X zm_M_transfer (22, [(0, z_r 78), (1, .inl x1), (2, .inl x2), (3, .inl x3)], [], zW T' G' S n, 0, 0) := by
  unfold F_M_transfer_j22 at K
  unfold Sf_M_transfer_j22 at hs
  refine z_go2 M.1 22 [(.iconst 0, 1)] (23, [(0, z_r 78), (1, .inl x1), (2, .inl x2), (3, .inl x3)], [.inl 0], zW T' G' S n, 0, 0) (by decide +kernel) rfl ⟨trivial, trivial⟩ ?_
  exact z_lvs (lv' := [(0, z_r 78), (1, .inl x1), (2, .inl x2), (3, .inl x3)]) [0, 1, 2, 3] rfl (t_M_transfer_j23 M fl hfl S x1 x2 x3 0 hQ K hs)
def F_M_transfer (fl : Nat → Nat) (S : (Nat → Nat → Int32)) (p1 : Int32) (p2 : Int32) (p3 : Int32) : (Int32 × (Nat → Nat → Int32)) := (if (F_M_isSeen S p1 p2) = 0 then (F_M_transfer_j22 fl S p1 p2 p3) else (if (F_M_isIn S p3 0 2) = 0 then (F_M_transfer_j22 fl S p1 p2 p3) else (F_M_transfer_j23 fl S p1 p2 p3 1)))
def Sf_M_transfer (fl : Nat → Nat) (S : (Nat → Nat → Int32)) (p1 : Int32) (p2 : Int32) (p3 : Int32) : Prop := (Sf_M_isSeen S p1 p2 ∧ (if (F_M_isSeen S p1 p2) = 0 then (Sf_M_transfer_j22 fl S p1 p2 p3) else (if (F_M_isIn S p3 0 2) = 0 then (Sf_M_transfer_j22 fl S p1 p2 p3) else (Sf_M_transfer_j23 fl S p1 p2 p3 1))))
theorem c_M_transfer (T' : Nat → Nat × Nat) (G' : Nat → Nat → Option Nat) (n : Nat) (fl : Nat → Nat) (hfl : zOK T' G' fl n) (S : (Nat → Nat → Int32)) (p1 : Int32) (p2 : Int32) (p3 : Int32) (hs : Sf_M_transfer fl S p1 p2 p3) : z_Run rm_M_transfer zm_M_transfer [z_r 78, .inl p1, .inl p2, .inl p3] (zW T' G' S n) (zq (some (.inl (F_M_transfer fl S p1 p2 p3).1)) (zW T' G' (F_M_transfer fl S p1 p2 p3).2 n)) := by
  refine z_body (by decide) zf_M_ok (Nat.le_of_ble_eq_true rfl) (fun X M => ?_)
  obtain ⟨Q, hQ, K⟩ : ∃ Q : (Int32 × (Nat → Nat → Int32)) → Prop, (∀ v S', Q (v, S') → zq (some (.inl (F_M_transfer fl S p1 p2 p3).1)) (zW T' G' (F_M_transfer fl S p1 p2 p3).2 n) (some (.inl v)) (zW T' G' S' n)) ∧ Q (F_M_transfer fl S p1 p2 p3) := ⟨fun o => F_M_transfer fl S p1 p2 p3 = o, fun v S' h => ⟨by rw [h], by rw [h]⟩, rfl⟩
  show z_G X zm_M_transfer (0, [(0, z_r 78), (1, .inl p1), (2, .inl p2), (3, .inl p3)], [], zW T' G' S n, 0, 0)
  unfold F_M_transfer at K
  unfold Sf_M_transfer at hs
  refine z_go2 M.1 0 [(.aload_n 0, 1), (.iload_n 1, 1), (.iload_n 2, 1)] (3, [(0, z_r 78), (1, .inl p1), (2, .inl p2), (3, .inl p3)], [.inl p2, .inl p1, z_r 78], zW T' G' S n, 0, 0) (by decide +kernel) rfl ⟨trivial, trivial, trivial, trivial⟩ ?_
  refine z_callV M.1 (av := [.inl p1, .inl p2]) (st := []) (a := 78) (ci := 14) (by decide +kernel) (c_M_isSeen T' G' S n p1 p2 hs.1) M.2.1 zl_M_336 zv_M_isSeen rfl rfl rfl ⟨by decide, by decide, by decide, by decide⟩ rfl (Nat.le_of_ble_eq_true rfl) (fun v w' hv => ?_)
  obtain ⟨rfl, rfl⟩ := hv
  replace hs := hs.2
  show z_G X zm_M_transfer (6, [(0, z_r 78), (1, .inl p1), (2, .inl p2), (3, .inl p3)], [.inl (F_M_isSeen S p1 p2)], zW T' G' S n, 0, 0)
  refine z_if_eq 22 M.1 (off := 16) (by decide +kernel) (by decide) (fun c6 => ?_) (fun c6 => ?_)
  · rw [if_pos c6] at K hs
    exact z_lvs (lv' := [(0, z_r 78), (1, .inl p1), (2, .inl p2), (3, .inl p3)]) [0, 1, 2, 3] rfl (t_M_transfer_j22 M fl hfl S p1 p2 p3 hQ K hs)
  · rw [if_neg c6] at K hs
    refine z_go2 M.1 9 [(.iload_n 3, 1), (.iconst 0, 1), (.iconst 2, 1)] (12, [(0, z_r 78), (1, .inl p1), (2, .inl p2), (3, .inl p3)], [.inl 2, .inl 0, .inl p3], zW T' G' S n, 0, 0) (by decide +kernel) rfl ⟨trivial, trivial, trivial, trivial⟩ ?_
    refine z_callS M.1 (av := [.inl p3, .inl 0, .inl 2]) (st := []) (by decide +kernel) (c_M_isIn T' G' S n p3 0 2) M.2.1 zl_M_178 zs_M_isIn ⟨by decide, by decide, by decide, by decide⟩ rfl (Nat.le_of_ble_eq_true rfl) (fun v w' hv => ?_)
    obtain ⟨rfl, rfl⟩ := hv
    show z_G X zm_M_transfer (15, [(0, z_r 78), (1, .inl p1), (2, .inl p2), (3, .inl p3)], [.inl (F_M_isIn S p3 0 2)], zW T' G' S n, 0, 0)
    refine z_if_eq 22 M.1 (off := 7) (by decide +kernel) (by decide) (fun c15 => ?_) (fun c15 => ?_)
    · rw [if_pos c15] at K hs
      exact z_lvs (lv' := [(0, z_r 78), (1, .inl p1), (2, .inl p2), (3, .inl p3)]) [0, 1, 2, 3] rfl (t_M_transfer_j22 M fl hfl S p1 p2 p3 hQ K hs)
    · rw [if_neg c15] at K hs
      refine z_go2 M.1 18 [(.iconst 1, 1), (.goto 4, 3)] (23, [(0, z_r 78), (1, .inl p1), (2, .inl p2), (3, .inl p3)], [.inl 1], zW T' G' S n, 0, 0) (by decide +kernel) rfl ⟨trivial, trivial, trivial⟩ ?_
      exact z_lvs (lv' := [(0, z_r 78), (1, .inl p1), (2, .inl p2), (3, .inl p3)]) [0, 1, 2, 3] rfl (t_M_transfer_j23 M fl hfl S p1 p2 p3 1 hQ K hs)

-- TrackHouseModel.sprint
abbrev rm_M_sprint : Room := zr 8
def F_M_sprint_j28 (fl : Nat → Nat) (S : (Nat → Nat → Int32)) (x1 : Int32) (x2 : Int32) (x3 : Int32) (s0 : Int32) : (Int32 × (Nat → Nat → Int32)) := (if s0 ≤ 0 then (match F_M_turns fl (z_uS S 78 0 s0) 7 x1 x2 x3 (S 94 (x2).toNatClampNeg) 3 with | (r58, S58) => (r58, S58)) else (0, (z_uS S 78 0 s0)))
def Sf_M_sprint_j28 (fl : Nat → Nat) (S : (Nat → Nat → Int32)) (x1 : Int32) (x2 : Int32) (x3 : Int32) (s0 : Int32) : Prop := (if s0 ≤ 0 then ((vp_in x2 30) ∧ (Sf_M_turns fl (z_uS S 78 0 s0) 7 x1 x2 x3 (S 94 (x2).toNatClampNeg) 3 ∧ True)) else True)
theorem t_M_sprint_j28 {X : z_X} {Post : Option z_V → z_W → Prop} (M : z_M X zm_M_sprint rm_M_sprint Post) {T' : Nat → Nat × Nat} {G' : Nat → Nat → Option Nat} {n : Nat} (fl : Nat → Nat) (hfl : zOK T' G' fl n) {Q : (Int32 × (Nat → Nat → Int32)) → Prop} (S : (Nat → Nat → Int32)) (x1 : Int32) (x2 : Int32) (x3 : Int32) (s0 : Int32) (hQ : ∀ v S', Q (v, S') → Post (some (.inl v)) (zW T' G' S' n)) (K : Q (F_M_sprint_j28 fl S x1 x2 x3 s0)) (hs : Sf_M_sprint_j28 fl S x1 x2 x3 s0) : z_G X zm_M_sprint (28, [(0, z_r 78), (1, .inl x1), (2, .inl x2), (3, .inl x3)], [.inl s0, z_r 78], zW T' G' S n, 0, 0) := by
  unfold F_M_sprint_j28 at K
  unfold Sf_M_sprint_j28 at hs
  refine z_go2 M.1 28 [(.putfield 175, 3), (.aload_n 0, 1), (.getfield 175, 3)] (35, [(0, z_r 78), (1, .inl x1), (2, .inl x2), (3, .inl x3)], [.inl s0], zW T' G' (z_uS S 78 0 s0) n, 0, 0) (by decide +kernel) rfl ⟨⟨rfl, trivial⟩, trivial, rfl, trivial⟩ ?_
  refine z_if_le 42 M.1 (off := 7) (by decide +kernel) (by decide) (fun c35 => ?_) (fun c35 => ?_)
  · rw [if_pos c35] at K hs
    refine z_go2 M.1 42 [(.aload_n 0, 1), (.bipush 7, 2), (.iload_n 1, 1), (.iload_n 2, 1), (.iload_n 3, 1), (.aload_n 0, 1), (.getfield 34, 3), (.getfield 213, 3), (.iload_n 2, 1), (.iaload, 1), (.iconst 3, 1)] (58, [(0, z_r 78), (1, .inl x1), (2, .inl x2), (3, .inl x3)], [.inl 3, .inl (S 94 (x2).toNatClampNeg), .inl x3, .inl x2, .inl x1, .inl 7, z_r 78], zW T' G' (z_uS S 78 0 s0) n, 0, 0) (by decide +kernel) rfl ⟨trivial, trivial, trivial, trivial, trivial, trivial, rfl, rfl, trivial, ⟨rfl, hs.1⟩, trivial, trivial⟩ ?_
    replace hs := hs.2
    refine z_callV M.1 (av := [.inl 7, .inl x1, .inl x2, .inl x3, .inl (S 94 (x2).toNatClampNeg), .inl 3]) (st := []) (a := 78) (ci := 14) (by decide +kernel) (c_M_turns T' G' n fl hfl (z_uS S 78 0 s0) 7 x1 x2 x3 (S 94 (x2).toNatClampNeg) 3 hs.1) M.2.1 zl_M_343 zv_M_turns rfl rfl rfl ⟨by decide, by decide, by decide, by decide⟩ rfl (Nat.le_of_ble_eq_true rfl) (fun v w' hv => ?_)
    replace hs := hs.2
    rcases hF58 : F_M_turns fl (z_uS S 78 0 s0) 7 x1 x2 x3 (S 94 (x2).toNatClampNeg) 3 with ⟨r58, S58⟩
    rw [hF58] at K hv
    try dsimp only at K
    obtain ⟨rfl, rfl⟩ := hv
    show z_G X zm_M_sprint (61, [(0, z_r 78), (1, .inl x1), (2, .inl x2), (3, .inl x3)], [.inl r58], zW T' G' S58 n, 0, 0)
    exact z_iret M (by decide +kernel) .int rfl rfl (by decide) (by decide) (hQ _ _ K)
  · rw [if_neg c35] at K hs
    refine z_go2 M.1 38 [(.iconst 0, 1), (.goto 22, 3)] (61, [(0, z_r 78), (1, .inl x1), (2, .inl x2), (3, .inl x3)], [.inl 0], zW T' G' (z_uS S 78 0 s0) n, 0, 0) (by decide +kernel) rfl ⟨trivial, trivial, trivial⟩ ?_
    exact z_iret M (by decide +kernel) .int rfl rfl (by decide) (by decide) (hQ _ _ K)
def F_M_sprint (fl : Nat → Nat) (S : (Nat → Nat → Int32)) (p1 : Int32) (p2 : Int32) (p3 : Int32) : (Int32 × (Nat → Nat → Int32)) := (if (F_M_isSeen S p1 p2) = 0 then (F_M_sprint_j28 fl S p1 p2 p3 1) else (if (F_M_isIn S p3 (-1) 3) = 0 then (F_M_sprint_j28 fl S p1 p2 p3 2) else (F_M_sprint_j28 fl S p1 p2 p3 0)))
def Sf_M_sprint (fl : Nat → Nat) (S : (Nat → Nat → Int32)) (p1 : Int32) (p2 : Int32) (p3 : Int32) : Prop := (Sf_M_isSeen S p1 p2 ∧ (if (F_M_isSeen S p1 p2) = 0 then (Sf_M_sprint_j28 fl S p1 p2 p3 1) else (if (F_M_isIn S p3 (-1) 3) = 0 then (Sf_M_sprint_j28 fl S p1 p2 p3 2) else (Sf_M_sprint_j28 fl S p1 p2 p3 0))))
theorem c_M_sprint (T' : Nat → Nat × Nat) (G' : Nat → Nat → Option Nat) (n : Nat) (fl : Nat → Nat) (hfl : zOK T' G' fl n) (S : (Nat → Nat → Int32)) (p1 : Int32) (p2 : Int32) (p3 : Int32) (hs : Sf_M_sprint fl S p1 p2 p3) : z_Run rm_M_sprint zm_M_sprint [z_r 78, .inl p1, .inl p2, .inl p3] (zW T' G' S n) (zq (some (.inl (F_M_sprint fl S p1 p2 p3).1)) (zW T' G' (F_M_sprint fl S p1 p2 p3).2 n)) := by
  refine z_body (by decide) zf_M_ok (Nat.le_of_ble_eq_true rfl) (fun X M => ?_)
  obtain ⟨Q, hQ, K⟩ : ∃ Q : (Int32 × (Nat → Nat → Int32)) → Prop, (∀ v S', Q (v, S') → zq (some (.inl (F_M_sprint fl S p1 p2 p3).1)) (zW T' G' (F_M_sprint fl S p1 p2 p3).2 n) (some (.inl v)) (zW T' G' S' n)) ∧ Q (F_M_sprint fl S p1 p2 p3) := ⟨fun o => F_M_sprint fl S p1 p2 p3 = o, fun v S' h => ⟨by rw [h], by rw [h]⟩, rfl⟩
  show z_G X zm_M_sprint (0, [(0, z_r 78), (1, .inl p1), (2, .inl p2), (3, .inl p3)], [], zW T' G' S n, 0, 0)
  unfold F_M_sprint at K
  unfold Sf_M_sprint at hs
  refine z_go2 M.1 0 [(.aload_n 0, 1), (.aload_n 0, 1), (.iload_n 1, 1), (.iload_n 2, 1)] (4, [(0, z_r 78), (1, .inl p1), (2, .inl p2), (3, .inl p3)], [.inl p2, .inl p1, z_r 78, z_r 78], zW T' G' S n, 0, 0) (by decide +kernel) rfl ⟨trivial, trivial, trivial, trivial, trivial⟩ ?_
  refine z_callV M.1 (av := [.inl p1, .inl p2]) (st := [z_r 78]) (a := 78) (ci := 14) (by decide +kernel) (c_M_isSeen T' G' S n p1 p2 hs.1) M.2.1 zl_M_336 zv_M_isSeen rfl rfl rfl ⟨by decide, by decide, by decide, by decide⟩ rfl (Nat.le_of_ble_eq_true rfl) (fun v w' hv => ?_)
  obtain ⟨rfl, rfl⟩ := hv
  replace hs := hs.2
  show z_G X zm_M_sprint (7, [(0, z_r 78), (1, .inl p1), (2, .inl p2), (3, .inl p3)], [.inl (F_M_isSeen S p1 p2), z_r 78], zW T' G' S n, 0, 0)
  refine z_if_ne 14 M.1 (off := 7) (by decide +kernel) (by decide) (fun c7 => ?_) (fun c7 => ?_)
  · rw [if_neg c7] at K hs
    refine z_go2 M.1 14 [(.iload_n 3, 1), (.iconst (-1), 1), (.iconst 3, 1)] (17, [(0, z_r 78), (1, .inl p1), (2, .inl p2), (3, .inl p3)], [.inl 3, .inl (-1), .inl p3, z_r 78], zW T' G' S n, 0, 0) (by decide +kernel) rfl ⟨trivial, trivial, trivial, trivial⟩ ?_
    refine z_callS M.1 (av := [.inl p3, .inl (-1), .inl 3]) (st := [z_r 78]) (by decide +kernel) (c_M_isIn T' G' S n p3 (-1) 3) M.2.1 zl_M_178 zs_M_isIn ⟨by decide, by decide, by decide, by decide⟩ rfl (Nat.le_of_ble_eq_true rfl) (fun v w' hv => ?_)
    obtain ⟨rfl, rfl⟩ := hv
    show z_G X zm_M_sprint (20, [(0, z_r 78), (1, .inl p1), (2, .inl p2), (3, .inl p3)], [.inl (F_M_isIn S p3 (-1) 3), z_r 78], zW T' G' S n, 0, 0)
    refine z_if_eq 27 M.1 (off := 7) (by decide +kernel) (by decide) (fun c20 => ?_) (fun c20 => ?_)
    · rw [if_pos c20] at K hs
      refine z_go2 M.1 27 [(.iconst 2, 1)] (28, [(0, z_r 78), (1, .inl p1), (2, .inl p2), (3, .inl p3)], [.inl 2, z_r 78], zW T' G' S n, 0, 0) (by decide +kernel) rfl ⟨trivial, trivial⟩ ?_
      exact z_lvs (lv' := [(0, z_r 78), (1, .inl p1), (2, .inl p2), (3, .inl p3)]) [0, 1, 2, 3] rfl (t_M_sprint_j28 M fl hfl S p1 p2 p3 2 hQ K hs)
    · rw [if_neg c20] at K hs
      refine z_go2 M.1 23 [(.iconst 0, 1), (.goto 4, 3)] (28, [(0, z_r 78), (1, .inl p1), (2, .inl p2), (3, .inl p3)], [.inl 0, z_r 78], zW T' G' S n, 0, 0) (by decide +kernel) rfl ⟨trivial, trivial, trivial⟩ ?_
      exact z_lvs (lv' := [(0, z_r 78), (1, .inl p1), (2, .inl p2), (3, .inl p3)]) [0, 1, 2, 3] rfl (t_M_sprint_j28 M fl hfl S p1 p2 p3 0 hQ K hs)
  · rw [if_pos c7] at K hs
    refine z_go2 M.1 10 [(.iconst 1, 1), (.goto 17, 3)] (28, [(0, z_r 78), (1, .inl p1), (2, .inl p2), (3, .inl p3)], [.inl 1, z_r 78], zW T' G' S n, 0, 0) (by decide +kernel) rfl ⟨trivial, trivial, trivial⟩ ?_
    exact z_lvs (lv' := [(0, z_r 78), (1, .inl p1), (2, .inl p2), (3, .inl p3)]) [0, 1, 2, 3] rfl (t_M_sprint_j28 M fl hfl S p1 p2 p3 1 hQ K hs)

-- TrackHouseModel.between
abbrev rm_M_between : Room := zr 0
def F_M_between_l5_60 (rc : Int32 → Int32 → (Int32)) (S : (Nat → Nat → Int32)) (x1 : Int32) (x2 : Int32) (x3 : Int32) (x4 : Int32) : (Int32) := (rc x3 (x4 + 1))
def Sf_M_between_l5_60 (rc : Int32 → Int32 → (Int32)) (sr : Int32 → Int32 → Prop) (S : (Nat → Nat → Int32)) (x1 : Int32) (x2 : Int32) (x3 : Int32) (x4 : Int32) : Prop := (sr x3 (x4 + 1))
theorem t_M_between_l5_60 {X : z_X} {Post : Option z_V → z_W → Prop} (M : z_M X zm_M_between rm_M_between Post) {T' : Nat → Nat × Nat} {G' : Nat → Nat → Option Nat} {n : Nat} {Q : (Int32) → Prop} (rc : Int32 → Int32 → (Int32)) (sr : Int32 → Int32 → Prop) (S : (Nat → Nat → Int32)) (x1 : Int32) (x2 : Int32) (x3 : Int32) (x4 : Int32) (hE : ∀ (y3 : Int32), Q y3 → z_G X zm_M_between (68, [(0, z_r 78), (1, .inl x1), (3, .inl y3)], [], zW T' G' S n, 0, 0)) (hC : ∀ (x3 : Int32) (x4 : Int32), Q (rc x3 x4) → sr x3 x4 → z_G X zm_M_between (5, [(0, z_r 78), (1, .inl x1), (2, .inl x2), (3, .inl x3), (4, .inl x4)], [], zW T' G' S n, 0, 0)) (K : Q (F_M_between_l5_60 rc S x1 x2 x3 x4)) (hs : Sf_M_between_l5_60 rc sr S x1 x2 x3 x4) : z_G X zm_M_between (60, [(0, z_r 78), (1, .inl x1), (2, .inl x2), (3, .inl x3), (4, .inl x4)], [], zW T' G' S n, 0, 0) := by
  unfold F_M_between_l5_60 at K
  unfold Sf_M_between_l5_60 at hs
  refine z_go2 M.1 60 [(.iload_n 3, 1), (.istore_n 3, 1), (.iinc 4 1, 3), (.goto (-60), 3)] (5, [(4, .inl (x4 + 1)), (3, .inl x3), (0, z_r 78), (1, .inl x1), (2, .inl x2)], [], zW T' G' S n, 0, 0) (by decide +kernel) rfl ⟨trivial, trivial, trivial, trivial, trivial⟩ ?_
  exact z_lvs (lv' := [(0, z_r 78), (1, .inl x1), (2, .inl x2), (3, .inl x3), (4, .inl (x4 + 1))]) [2, 3, 4, 1, 0] rfl (hC x3 (x4 + 1) K hs)
def F_M_between_L5 (S : (Nat → Nat → Int32)) (x1 : Int32) (x2 : Int32) : Nat → Int32 → Int32 → (Int32)
  | 0, x3, x4 => x3
  | f + 1, x3, x4 => (if (S 86 0) ≤ x4 then x3 else (if x4 = x2 then (F_M_between_l5_60 (F_M_between_L5 S x1 x2 f) S x1 x2 x3 x4) else (if (S 167 (x1).toNatClampNeg) ≤ (S 167 (x4).toNatClampNeg) then (F_M_between_l5_60 (F_M_between_L5 S x1 x2 f) S x1 x2 x3 x4) else (if (S 167 (x4).toNatClampNeg) ≤ x3 then (F_M_between_l5_60 (F_M_between_L5 S x1 x2 f) S x1 x2 x3 x4) else ((F_M_between_L5 S x1 x2 f) (S 167 (x4).toNatClampNeg) (x4 + 1))))))
def Sf_M_between_L5 (S : (Nat → Nat → Int32)) (x1 : Int32) (x2 : Int32) : Nat → Int32 → Int32 → Prop
  | 0, _, _ => False
  | f + 1, x3, x4 => (if (S 86 0) ≤ x4 then True else (if x4 = x2 then (Sf_M_between_l5_60 (F_M_between_L5 S x1 x2 f) (Sf_M_between_L5 S x1 x2 f) S x1 x2 x3 x4) else ((vp_in x4 30) ∧ ((vp_in x1 30) ∧ (if (S 167 (x1).toNatClampNeg) ≤ (S 167 (x4).toNatClampNeg) then (Sf_M_between_l5_60 (F_M_between_L5 S x1 x2 f) (Sf_M_between_L5 S x1 x2 f) S x1 x2 x3 x4) else ((vp_in x4 30) ∧ (if (S 167 (x4).toNatClampNeg) ≤ x3 then (Sf_M_between_l5_60 (F_M_between_L5 S x1 x2 f) (Sf_M_between_L5 S x1 x2 f) S x1 x2 x3 x4) else ((vp_in x4 30) ∧ ((Sf_M_between_L5 S x1 x2 f) (S 167 (x4).toNatClampNeg) (x4 + 1))))))))))
theorem t_M_between_L5 {X : z_X} {Post : Option z_V → z_W → Prop} (M : z_M X zm_M_between rm_M_between Post) {T' : Nat → Nat × Nat} {G' : Nat → Nat → Option Nat} {n : Nat} {Q : (Int32) → Prop} (S : (Nat → Nat → Int32))  (x1 : Int32) (x2 : Int32) (hE : ∀ (y3 : Int32), Q y3 → z_G X zm_M_between (68, [(0, z_r 78), (1, .inl x1), (3, .inl y3)], [], zW T' G' S n, 0, 0)) (f : Nat) : ∀ (x3 : Int32) (x4 : Int32), Q (F_M_between_L5 S x1 x2 f x3 x4) → Sf_M_between_L5 S x1 x2 f x3 x4 → z_G X zm_M_between (5, [(0, z_r 78), (1, .inl x1), (2, .inl x2), (3, .inl x3), (4, .inl x4)], [], zW T' G' S n, 0, 0) := by
  induction f with
  | zero => intro x3 x4 K hs; exact False.elim hs
  | succ f hC =>
    intro x3 x4 K hs
    rw [F_M_between_L5] at K
    rw [Sf_M_between_L5] at hs
    refine z_go2 M.1 5 [(.iload 4, 2), (.aload_n 0, 1), (.getfield 34, 3), (.getfield 330, 3)] (14, [(0, z_r 78), (1, .inl x1), (2, .inl x2), (3, .inl x3), (4, .inl x4)], [.inl (S 86 0), .inl x4], zW T' G' S n, 0, 0) (by decide +kernel) rfl ⟨trivial, trivial, rfl, rfl, trivial⟩ ?_
    refine z_icmp_ge 68 M.1 (off := 54) (by decide +kernel) (by decide) (fun c14 => ?_) (fun c14 => ?_)
    · rw [if_pos c14] at K hs
      exact z_lvs (lv' := [(0, z_r 78), (1, .inl x1), (3, .inl x3)]) [0, 1, 3] rfl (hE x3 K)
    · rw [if_neg c14] at K hs
      refine z_go2 M.1 17 [(.iload 4, 2), (.iload_n 2, 1)] (20, [(0, z_r 78), (1, .inl x1), (2, .inl x2), (3, .inl x3), (4, .inl x4)], [.inl x2, .inl x4], zW T' G' S n, 0, 0) (by decide +kernel) rfl ⟨trivial, trivial, trivial⟩ ?_
      refine z_icmp_eq 60 M.1 (off := 40) (by decide +kernel) (by decide) (fun c20 => ?_) (fun c20 => ?_)
      · rw [if_pos c20] at K hs
        exact z_lvs (lv' := [(0, z_r 78), (1, .inl x1), (2, .inl x2), (3, .inl x3), (4, .inl x4)]) [0, 1, 2, 3, 4] rfl (t_M_between_l5_60 M (F_M_between_L5 S x1 x2 f) (Sf_M_between_L5 S x1 x2 f) S x1 x2 x3 x4 hE hC K hs)
      · rw [if_neg c20] at K hs
        refine z_go2 M.1 23 [(.aload_n 0, 1), (.getfield 95, 3), (.iload 4, 2), (.iaload, 1), (.aload_n 0, 1), (.getfield 95, 3), (.iload_n 1, 1), (.iaload, 1)] (36, [(0, z_r 78), (1, .inl x1), (2, .inl x2), (3, .inl x3), (4, .inl x4)], [.inl (S 167 (x1).toNatClampNeg), .inl (S 167 (x4).toNatClampNeg)], zW T' G' S n, 0, 0) (by decide +kernel) rfl ⟨trivial, rfl, trivial, ⟨rfl, hs.1⟩, trivial, rfl, trivial, ⟨rfl, hs.2.1⟩, trivial⟩ ?_
        replace hs := hs.2.2
        refine z_icmp_ge 60 M.1 (off := 24) (by decide +kernel) (by decide) (fun c36 => ?_) (fun c36 => ?_)
        · rw [if_pos c36] at K hs
          exact z_lvs (lv' := [(0, z_r 78), (1, .inl x1), (2, .inl x2), (3, .inl x3), (4, .inl x4)]) [0, 1, 2, 3, 4] rfl (t_M_between_l5_60 M (F_M_between_L5 S x1 x2 f) (Sf_M_between_L5 S x1 x2 f) S x1 x2 x3 x4 hE hC K hs)
        · rw [if_neg c36] at K hs
          refine z_go2 M.1 39 [(.aload_n 0, 1), (.getfield 95, 3), (.iload 4, 2), (.iaload, 1), (.iload_n 3, 1)] (47, [(0, z_r 78), (1, .inl x1), (2, .inl x2), (3, .inl x3), (4, .inl x4)], [.inl x3, .inl (S 167 (x4).toNatClampNeg)], zW T' G' S n, 0, 0) (by decide +kernel) rfl ⟨trivial, rfl, trivial, ⟨rfl, hs.1⟩, trivial, trivial⟩ ?_
          replace hs := hs.2
          refine z_icmp_le 60 M.1 (off := 13) (by decide +kernel) (by decide) (fun c47 => ?_) (fun c47 => ?_)
          · rw [if_pos c47] at K hs
            exact z_lvs (lv' := [(0, z_r 78), (1, .inl x1), (2, .inl x2), (3, .inl x3), (4, .inl x4)]) [0, 1, 2, 3, 4] rfl (t_M_between_l5_60 M (F_M_between_L5 S x1 x2 f) (Sf_M_between_L5 S x1 x2 f) S x1 x2 x3 x4 hE hC K hs)
          · rw [if_neg c47] at K hs
            refine z_go2 M.1 50 [(.aload_n 0, 1), (.getfield 95, 3), (.iload 4, 2), (.iaload, 1), (.goto 4, 3), (.istore_n 3, 1), (.iinc 4 1, 3), (.goto (-60), 3)] (5, [(4, .inl (x4 + 1)), (3, .inl (S 167 (x4).toNatClampNeg)), (0, z_r 78), (1, .inl x1), (2, .inl x2)], [], zW T' G' S n, 0, 0) (by decide +kernel) rfl ⟨trivial, rfl, trivial, ⟨rfl, hs.1⟩, trivial, trivial, trivial, trivial, trivial⟩ ?_
            replace hs := hs.2
            exact z_lvs (lv' := [(0, z_r 78), (1, .inl x1), (2, .inl x2), (3, .inl (S 167 (x4).toNatClampNeg)), (4, .inl (x4 + 1))]) [2, 3, 4, 1, 0] rfl (hC (S 167 (x4).toNatClampNeg) (x4 + 1) K hs)
def F_M_between_j102 (S : (Nat → Nat → Int32)) : Int32 := 0
theorem t_M_between_j102 {X : z_X} {Post : Option z_V → z_W → Prop} (M : z_M X zm_M_between rm_M_between Post) {T' : Nat → Nat × Nat} {G' : Nat → Nat → Option Nat} {n : Nat} {Q : Int32 → Prop} (S : (Nat → Nat → Int32)) (hQ : ∀ v, Q v → Post (some (.inl v)) (zW T' G' S n)) (K : Q (F_M_between_j102 S)) : z_G X zm_M_between (102, [], [], zW T' G' S n, 0, 0) := by
  unfold F_M_between_j102 at K
  refine z_go2 M.1 102 [(.iconst 0, 1)] (103, [], [.inl 0], zW T' G' S n, 0, 0) (by decide +kernel) rfl ⟨trivial, trivial⟩ ?_
  exact z_iret M (by decide +kernel) .int rfl rfl (by decide) (by decide) (hQ _ K)
def F_M_between (S : (Nat → Nat → Int32)) (p1 : Int32) (p2 : Int32) : Int32 := (match F_M_between_L5 S p1 p2 1300 0 0 with | y3_5 => (if ((y3_5 + (S 167 (p1).toNatClampNeg)) / 2) ≤ y3_5 then (F_M_between_j102 S) else (if (S 167 (p1).toNatClampNeg) ≤ ((y3_5 + (S 167 (p1).toNatClampNeg)) / 2) then (F_M_between_j102 S) else ((y3_5 + (S 167 (p1).toNatClampNeg)) / 2))))
def Sf_M_between (S : (Nat → Nat → Int32)) (p1 : Int32) (p2 : Int32) : Prop := (Sf_M_between_L5 S p1 p2 1300 0 0 ∧ (match F_M_between_L5 S p1 p2 1300 0 0 with | y3_5 => ((vp_in p1 30) ∧ (if ((y3_5 + (S 167 (p1).toNatClampNeg)) / 2) ≤ y3_5 then True else ((vp_in p1 30) ∧ True)))))
theorem c_M_between (T' : Nat → Nat × Nat) (G' : Nat → Nat → Option Nat) (S : (Nat → Nat → Int32)) (n : Nat) (p1 : Int32) (p2 : Int32) (hs : Sf_M_between S p1 p2) : z_Run rm_M_between zm_M_between [z_r 78, .inl p1, .inl p2] (zW T' G' S n) (zq (some (.inl (F_M_between S p1 p2))) (zW T' G' S n)) := by
  refine z_body (by decide) zf_M_ok (Nat.le_of_ble_eq_true rfl) (fun X M => ?_)
  obtain ⟨Q, hQ, K⟩ : ∃ Q : Int32 → Prop, (∀ v, Q v → zq (some (.inl (F_M_between S p1 p2))) (zW T' G' S n) (some (.inl v)) (zW T' G' S n)) ∧ Q (F_M_between S p1 p2) := ⟨fun o => F_M_between S p1 p2 = o, fun v h => ⟨by rw [h], rfl⟩, rfl⟩
  show z_G X zm_M_between (0, [(0, z_r 78), (1, .inl p1), (2, .inl p2)], [], zW T' G' S n, 0, 0)
  unfold F_M_between at K
  unfold Sf_M_between at hs
  refine z_go2 M.1 0 [(.iconst 0, 1), (.istore_n 3, 1), (.iconst 0, 1), (.istore 4, 2)] (5, [(4, .inl 0), (3, .inl 0), (0, z_r 78), (1, .inl p1), (2, .inl p2)], [], zW T' G' S n, 0, 0) (by decide +kernel) rfl ⟨trivial, trivial, trivial, trivial, trivial⟩ ?_
  refine z_lvs (lv' := [(0, z_r 78), (1, .inl p1), (2, .inl p2), (3, .inl 0), (4, .inl 0)]) [2, 3, 4, 1, 0] rfl ?_
  refine t_M_between_L5 M (Q := fun o => F_M_between_L5 S p1 p2 1300 0 0 = o) S p1 p2 (fun y3_5 hL5 => ?_) 1300 0 0 rfl hs.1
  replace hs := hs.2
  rw [hL5] at K
  try rw [hL5] at hs
  try dsimp only at K hs
  refine z_go2 M.1 68 [(.iload_n 3, 1), (.aload_n 0, 1), (.getfield 95, 3), (.iload_n 1, 1), (.iaload, 1), (.iadd, 1), (.iconst 2, 1), (.idiv, 1), (.istore 4, 2), (.iload 4, 2), (.iload_n 3, 1)] (83, [(4, .inl ((y3_5 + (S 167 (p1).toNatClampNeg)) / 2)), (0, z_r 78), (1, .inl p1), (3, .inl y3_5)], [.inl y3_5, .inl ((y3_5 + (S 167 (p1).toNatClampNeg)) / 2)], zW T' G' S n, 0, 0) (by decide +kernel) rfl ⟨trivial, trivial, rfl, trivial, ⟨rfl, hs.1⟩, trivial, trivial, (by decide), trivial, trivial, trivial, trivial⟩ ?_
  replace hs := hs.2
  refine z_icmp_le 102 M.1 (off := 19) (by decide +kernel) (by decide) (fun c83 => ?_) (fun c83 => ?_)
  · rw [if_pos c83] at K hs
    exact z_lvs (lv' := []) [] rfl (t_M_between_j102 M S hQ K)
  · rw [if_neg c83] at K hs
    refine z_go2 M.1 86 [(.iload 4, 2), (.aload_n 0, 1), (.getfield 95, 3), (.iload_n 1, 1), (.iaload, 1)] (94, [(4, .inl ((y3_5 + (S 167 (p1).toNatClampNeg)) / 2)), (0, z_r 78), (1, .inl p1), (3, .inl y3_5)], [.inl (S 167 (p1).toNatClampNeg), .inl ((y3_5 + (S 167 (p1).toNatClampNeg)) / 2)], zW T' G' S n, 0, 0) (by decide +kernel) rfl ⟨trivial, trivial, rfl, trivial, ⟨rfl, hs.1⟩, trivial⟩ ?_
    replace hs := hs.2
    refine z_icmp_ge 102 M.1 (off := 8) (by decide +kernel) (by decide) (fun c94 => ?_) (fun c94 => ?_)
    · rw [if_pos c94] at K
      exact z_lvs (lv' := []) [] rfl (t_M_between_j102 M S hQ K)
    · rw [if_neg c94] at K
      refine z_go2 M.1 97 [(.iload 4, 2), (.goto 4, 3)] (103, [(4, .inl ((y3_5 + (S 167 (p1).toNatClampNeg)) / 2)), (0, z_r 78), (1, .inl p1), (3, .inl y3_5)], [.inl ((y3_5 + (S 167 (p1).toNatClampNeg)) / 2)], zW T' G' S n, 0, 0) (by decide +kernel) rfl ⟨trivial, trivial, trivial⟩ ?_
      exact z_iret M (by decide +kernel) .int rfl rfl (by decide) (by decide) (hQ _ K)

