-- TrackHouseModel.isIn
abbrev rm_M_isIn : Room := zr 0
def F_M_isIn_j14 (S : (Nat → Nat → Int32)) : Int32 := 0
theorem t_M_isIn_j14 {X : z_X} {Post : Option z_V → z_W → Prop} (M : z_M X zm_M_isIn rm_M_isIn Post) {T' : Nat → Nat × Nat} {G' : Nat → Nat → Option Nat} {n : Nat} {Q : Int32 → Prop} (S : (Nat → Nat → Int32)) (hQ : ∀ v, Q v → Post (some (.inl v)) (zW T' G' S n)) (K : Q (F_M_isIn_j14 S)) : z_G X zm_M_isIn (14, [], [], zW T' G' S n, 0, 0) := by
  unfold F_M_isIn_j14 at K
  refine z_go2 M.1 14 [(.iconst 0, 1)] (15, [], [.inl 0], zW T' G' S n, 0, 0) (by decide +kernel) rfl ⟨trivial, trivial⟩ ?_
  exact z_iret M (by decide +kernel) .boolean rfl rfl (by decide) (by decide) (hQ _ K)
def F_M_isIn (S : (Nat → Nat → Int32)) (p0 : Int32) (p1 : Int32) (p2 : Int32) : Int32 := (if p0 < p1 then (F_M_isIn_j14 S) else (if p2 < p0 then (F_M_isIn_j14 S) else 1))
theorem c_M_isIn (T' : Nat → Nat × Nat) (G' : Nat → Nat → Option Nat) (S : (Nat → Nat → Int32)) (n : Nat) (p0 : Int32) (p1 : Int32) (p2 : Int32) : z_Run rm_M_isIn zm_M_isIn [.inl p0, .inl p1, .inl p2] (zW T' G' S n) (zq (some (.inl (F_M_isIn S p0 p1 p2))) (zW T' G' S n)) := by
  refine z_body (by decide) zf_M_ok (Nat.le_of_ble_eq_true rfl) (fun X M => ?_)
  obtain ⟨Q, hQ, K⟩ : ∃ Q : Int32 → Prop, (∀ v, Q v → zq (some (.inl (F_M_isIn S p0 p1 p2))) (zW T' G' S n) (some (.inl v)) (zW T' G' S n)) ∧ Q (F_M_isIn S p0 p1 p2) := ⟨fun o => F_M_isIn S p0 p1 p2 = o, fun v h => ⟨by rw [h], rfl⟩, rfl⟩
  show z_G X zm_M_isIn (0, [(0, .inl p0), (1, .inl p1), (2, .inl p2)], [], zW T' G' S n, 0, 0)
  unfold F_M_isIn at K
  refine z_go2 M.1 0 [(.iload_n 0, 1), (.iload_n 1, 1)] (2, [(0, .inl p0), (1, .inl p1), (2, .inl p2)], [.inl p1, .inl p0], zW T' G' S n, 0, 0) (by decide +kernel) rfl ⟨trivial, trivial, trivial⟩ ?_
  refine z_icmp_lt 14 M.1 (off := 12) (by decide +kernel) (by decide) (fun c2 => ?_) (fun c2 => ?_)
  · rw [if_pos c2] at K
    exact z_lvs (lv' := []) [] rfl (t_M_isIn_j14 M S hQ K)
  · rw [if_neg c2] at K
    refine z_go2 M.1 5 [(.iload_n 0, 1), (.iload_n 2, 1)] (7, [(0, .inl p0), (1, .inl p1), (2, .inl p2)], [.inl p2, .inl p0], zW T' G' S n, 0, 0) (by decide +kernel) rfl ⟨trivial, trivial, trivial⟩ ?_
    refine z_icmp_gt 14 M.1 (off := 7) (by decide +kernel) (by decide) (fun c7 => ?_) (fun c7 => ?_)
    · rw [if_pos c7] at K
      exact z_lvs (lv' := []) [] rfl (t_M_isIn_j14 M S hQ K)
    · rw [if_neg c7] at K
      refine z_go2 M.1 10 [(.iconst 1, 1), (.goto 4, 3)] (15, [(0, .inl p0), (1, .inl p1), (2, .inl p2)], [.inl 1], zW T' G' S n, 0, 0) (by decide +kernel) rfl ⟨trivial, trivial, trivial⟩ ?_
      exact z_iret M (by decide +kernel) .boolean rfl rfl (by decide) (by decide) (hQ _ K)

-- TrackHouseModel.isPerson
abbrev rm_M_isPerson : Room := zr 1
def F_M_isPerson (S : (Nat → Nat → Int32)) (p0 : Int32) : Int32 := (F_M_isIn S p0 0 7)
def Sf_M_isPerson (S : (Nat → Nat → Int32)) (p0 : Int32) : Prop := (narrow .boolean (.int (F_M_isIn S p0 0 7)) = .int (F_M_isIn S p0 0 7) ∧ True)
theorem c_M_isPerson (T' : Nat → Nat × Nat) (G' : Nat → Nat → Option Nat) (S : (Nat → Nat → Int32)) (n : Nat) (p0 : Int32) (hs : Sf_M_isPerson S p0) : z_Run rm_M_isPerson zm_M_isPerson [.inl p0] (zW T' G' S n) (zq (some (.inl (F_M_isPerson S p0))) (zW T' G' S n)) := by
  refine z_body (by decide) zf_M_ok (Nat.le_of_ble_eq_true rfl) (fun X M => ?_)
  obtain ⟨Q, hQ, K⟩ : ∃ Q : Int32 → Prop, (∀ v, Q v → zq (some (.inl (F_M_isPerson S p0))) (zW T' G' S n) (some (.inl v)) (zW T' G' S n)) ∧ Q (F_M_isPerson S p0) := ⟨fun o => F_M_isPerson S p0 = o, fun v h => ⟨by rw [h], rfl⟩, rfl⟩
  show z_G X zm_M_isPerson (0, [(0, .inl p0)], [], zW T' G' S n, 0, 0)
  unfold F_M_isPerson at K
  unfold Sf_M_isPerson at hs
  refine z_go2 M.1 0 [(.iload_n 0, 1), (.iconst 0, 1), (.bipush 7, 2)] (4, [(0, .inl p0)], [.inl 7, .inl 0, .inl p0], zW T' G' S n, 0, 0) (by decide +kernel) rfl ⟨trivial, trivial, trivial, trivial⟩ ?_
  refine z_callS M.1 (av := [.inl p0, .inl 0, .inl 7]) (st := []) (by decide +kernel) (c_M_isIn T' G' S n p0 0 7) M.2.1 zl_M_178 zs_M_isIn ⟨by decide, by decide, by decide, by decide⟩ rfl (Nat.le_of_ble_eq_true rfl) (fun v w' hv => ?_)
  obtain ⟨rfl, rfl⟩ := hv
  show z_G X zm_M_isPerson (7, [(0, .inl p0)], [.inl (F_M_isIn S p0 0 7)], zW T' G' S n, 0, 0)
  exact z_iret M (by decide +kernel) .boolean rfl hs.1 (by decide) (by decide) (hQ _ K)

-- TrackHouseModel$World.begins
abbrev rm_MW_begins : Room := zr 0
def F_MW_begins_L53 (w : Nat) (x1 : Int32) : Nat → (Nat → Nat → Int32) → Int32 → ((Nat → Nat → Int32))
  | 0, S, x4 => S
  | f + 1, S, x4 => (if (3 : Int32) ≤ x4 then S else ((F_MW_begins_L53 w x1 f) (z_uS S (w + 4) (((3 : Int32) * x1) + x4).toNatClampNeg (-1)) (x4 + 1)))
def Sf_MW_begins_L53 (w : Nat) (x1 : Int32) : Nat → (Nat → Nat → Int32) → Int32 → Prop
  | 0, _, _ => False
  | f + 1, S, x4 => (if (3 : Int32) ≤ x4 then True else ((vp_in (((3 : Int32) * x1) + x4) 90) ∧ ((Sf_MW_begins_L53 w x1 f) (z_uS S (w + 4) (((3 : Int32) * x1) + x4).toNatClampNeg (-1)) (x4 + 1))))
theorem t_MW_begins_L53_86 {X : z_X} {Post : Option z_V → z_W → Prop} (M : z_M X zm_MW_begins rm_MW_begins Post) {T' : Nat → Nat × Nat} {G' : Nat → Nat → Option Nat} {n : Nat} {Q : ((Nat → Nat → Int32)) → Prop}  (x1 : Int32) (hE : ∀ (S' : (Nat → Nat → Int32)), Q S' → z_G X zm_MW_begins (77, [(0, z_r 86), (1, .inl x1)], [], zW T' G' S' n, 0, 0)) (f : Nat) : ∀ (S : (Nat → Nat → Int32)) (x4 : Int32), Q (F_MW_begins_L53 86 x1 f S x4) → Sf_MW_begins_L53 86 x1 f S x4 → z_G X zm_MW_begins (53, [(0, z_r 86), (1, .inl x1), (4, .inl x4)], [], zW T' G' S n, 0, 0) := by
  induction f with
  | zero => intro S x4 K hs; exact False.elim hs
  | succ f hC =>
    intro S x4 K hs
    rw [F_MW_begins_L53] at K
    rw [Sf_MW_begins_L53] at hs
    try simp only [Nat.reduceAdd] at K hs
    refine z_go2 M.1 53 [(.iload 4, 2), (.iconst 3, 1)] (56, [(0, z_r 86), (1, .inl x1), (4, .inl x4)], [.inl 3, .inl x4], zW T' G' S n, 0, 0) (by decide +kernel) rfl ⟨trivial, trivial, trivial⟩ ?_
    refine z_icmp_ge 77 M.1 (off := 21) (by decide +kernel) (by decide) (fun c56 => ?_) (fun c56 => ?_)
    · rw [if_pos c56] at K hs
      exact z_lvs (lv' := [(0, z_r 86), (1, .inl x1)]) [0, 1] rfl (hE S K)
    · rw [if_neg c56] at K hs
      refine z_go2 M.1 59 [(.aload_n 0, 1), (.getfield 21, 3), (.iconst 3, 1), (.iload_n 1, 1), (.imul, 1), (.iload 4, 2), (.iadd, 1), (.iconst (-1), 1), (.iastore, 1), (.iinc 4 1, 3), (.goto (-21), 3)] (53, [(4, .inl (x4 + 1)), (0, z_r 86), (1, .inl x1)], [], zW T' G' (z_uS S 90 (((3 : Int32) * x1) + x4).toNatClampNeg (-1)) n, 0, 0) (by decide +kernel) rfl ⟨trivial, rfl, trivial, trivial, trivial, trivial, trivial, trivial, ⟨rfl, hs.1⟩, trivial, trivial, trivial⟩ ?_
      replace hs := hs.2
      exact z_lvs (lv' := [(0, z_r 86), (1, .inl x1), (4, .inl (x4 + 1))]) [1, 2, 0] rfl (hC (z_uS S 90 (((3 : Int32) * x1) + x4).toNatClampNeg (-1)) (x4 + 1) K hs)
theorem t_MW_begins_L53_98 {X : z_X} {Post : Option z_V → z_W → Prop} (M : z_M X zm_MW_begins rm_MW_begins Post) {T' : Nat → Nat × Nat} {G' : Nat → Nat → Option Nat} {n : Nat} {Q : ((Nat → Nat → Int32)) → Prop}  (x1 : Int32) (hE : ∀ (S' : (Nat → Nat → Int32)), Q S' → z_G X zm_MW_begins (77, [(0, z_r 98), (1, .inl x1)], [], zW T' G' S' n, 0, 0)) (f : Nat) : ∀ (S : (Nat → Nat → Int32)) (x4 : Int32), Q (F_MW_begins_L53 98 x1 f S x4) → Sf_MW_begins_L53 98 x1 f S x4 → z_G X zm_MW_begins (53, [(0, z_r 98), (1, .inl x1), (4, .inl x4)], [], zW T' G' S n, 0, 0) := by
  induction f with
  | zero => intro S x4 K hs; exact False.elim hs
  | succ f hC =>
    intro S x4 K hs
    rw [F_MW_begins_L53] at K
    rw [Sf_MW_begins_L53] at hs
    try simp only [Nat.reduceAdd] at K hs
    refine z_go2 M.1 53 [(.iload 4, 2), (.iconst 3, 1)] (56, [(0, z_r 98), (1, .inl x1), (4, .inl x4)], [.inl 3, .inl x4], zW T' G' S n, 0, 0) (by decide +kernel) rfl ⟨trivial, trivial, trivial⟩ ?_
    refine z_icmp_ge 77 M.1 (off := 21) (by decide +kernel) (by decide) (fun c56 => ?_) (fun c56 => ?_)
    · rw [if_pos c56] at K hs
      exact z_lvs (lv' := [(0, z_r 98), (1, .inl x1)]) [0, 1] rfl (hE S K)
    · rw [if_neg c56] at K hs
      refine z_go2 M.1 59 [(.aload_n 0, 1), (.getfield 21, 3), (.iconst 3, 1), (.iload_n 1, 1), (.imul, 1), (.iload 4, 2), (.iadd, 1), (.iconst (-1), 1), (.iastore, 1), (.iinc 4 1, 3), (.goto (-21), 3)] (53, [(4, .inl (x4 + 1)), (0, z_r 98), (1, .inl x1)], [], zW T' G' (z_uS S 102 (((3 : Int32) * x1) + x4).toNatClampNeg (-1)) n, 0, 0) (by decide +kernel) rfl ⟨trivial, rfl, trivial, trivial, trivial, trivial, trivial, trivial, ⟨rfl, hs.1⟩, trivial, trivial, trivial⟩ ?_
      replace hs := hs.2
      exact z_lvs (lv' := [(0, z_r 98), (1, .inl x1), (4, .inl (x4 + 1))]) [1, 2, 0] rfl (hC (z_uS S 102 (((3 : Int32) * x1) + x4).toNatClampNeg (-1)) (x4 + 1) K hs)
theorem t_MW_begins_L53_110 {X : z_X} {Post : Option z_V → z_W → Prop} (M : z_M X zm_MW_begins rm_MW_begins Post) {T' : Nat → Nat × Nat} {G' : Nat → Nat → Option Nat} {n : Nat} {Q : ((Nat → Nat → Int32)) → Prop}  (x1 : Int32) (hE : ∀ (S' : (Nat → Nat → Int32)), Q S' → z_G X zm_MW_begins (77, [(0, z_r 110), (1, .inl x1)], [], zW T' G' S' n, 0, 0)) (f : Nat) : ∀ (S : (Nat → Nat → Int32)) (x4 : Int32), Q (F_MW_begins_L53 110 x1 f S x4) → Sf_MW_begins_L53 110 x1 f S x4 → z_G X zm_MW_begins (53, [(0, z_r 110), (1, .inl x1), (4, .inl x4)], [], zW T' G' S n, 0, 0) := by
  induction f with
  | zero => intro S x4 K hs; exact False.elim hs
  | succ f hC =>
    intro S x4 K hs
    rw [F_MW_begins_L53] at K
    rw [Sf_MW_begins_L53] at hs
    try simp only [Nat.reduceAdd] at K hs
    refine z_go2 M.1 53 [(.iload 4, 2), (.iconst 3, 1)] (56, [(0, z_r 110), (1, .inl x1), (4, .inl x4)], [.inl 3, .inl x4], zW T' G' S n, 0, 0) (by decide +kernel) rfl ⟨trivial, trivial, trivial⟩ ?_
    refine z_icmp_ge 77 M.1 (off := 21) (by decide +kernel) (by decide) (fun c56 => ?_) (fun c56 => ?_)
    · rw [if_pos c56] at K hs
      exact z_lvs (lv' := [(0, z_r 110), (1, .inl x1)]) [0, 1] rfl (hE S K)
    · rw [if_neg c56] at K hs
      refine z_go2 M.1 59 [(.aload_n 0, 1), (.getfield 21, 3), (.iconst 3, 1), (.iload_n 1, 1), (.imul, 1), (.iload 4, 2), (.iadd, 1), (.iconst (-1), 1), (.iastore, 1), (.iinc 4 1, 3), (.goto (-21), 3)] (53, [(4, .inl (x4 + 1)), (0, z_r 110), (1, .inl x1)], [], zW T' G' (z_uS S 114 (((3 : Int32) * x1) + x4).toNatClampNeg (-1)) n, 0, 0) (by decide +kernel) rfl ⟨trivial, rfl, trivial, trivial, trivial, trivial, trivial, trivial, ⟨rfl, hs.1⟩, trivial, trivial, trivial⟩ ?_
      replace hs := hs.2
      exact z_lvs (lv' := [(0, z_r 110), (1, .inl x1), (4, .inl (x4 + 1))]) [1, 2, 0] rfl (hC (z_uS S 114 (((3 : Int32) * x1) + x4).toNatClampNeg (-1)) (x4 + 1) K hs)
def F_MW_begins_j26 (w : Nat) (S : (Nat → Nat → Int32)) (x1 : Int32) (x2 : Int32) (x3 : Int32) (s0 : Int32) : (Nat → Nat → Int32) := (match F_MW_begins_L53 w x1 1300 (z_uS (z_uS (z_uS (z_uS S w 0 s0) (w + 1) (x1).toNatClampNeg x2) (w + 2) (x1).toNatClampNeg x3) (w + 3) (x1).toNatClampNeg 0) 0 with | S53 => (z_uS (z_uS (z_uS (z_uS S53 (w + 5) (x1).toNatClampNeg (-1)) (w + 6) (x1).toNatClampNeg (-1)) (w + 7) (x1).toNatClampNeg 0) (w + 8) (x1).toNatClampNeg (-1)))
def Sf_MW_begins_j26 (w : Nat) (S : (Nat → Nat → Int32)) (x1 : Int32) (x2 : Int32) (x3 : Int32) (s0 : Int32) : Prop := ((vp_in x1 30) ∧ ((vp_in x1 30) ∧ ((vp_in x1 30) ∧ (Sf_MW_begins_L53 w x1 1300 (z_uS (z_uS (z_uS (z_uS S w 0 s0) (w + 1) (x1).toNatClampNeg x2) (w + 2) (x1).toNatClampNeg x3) (w + 3) (x1).toNatClampNeg 0) 0 ∧ (match F_MW_begins_L53 w x1 1300 (z_uS (z_uS (z_uS (z_uS S w 0 s0) (w + 1) (x1).toNatClampNeg x2) (w + 2) (x1).toNatClampNeg x3) (w + 3) (x1).toNatClampNeg 0) 0 with | S53 => ((vp_in x1 30) ∧ ((vp_in x1 30) ∧ ((vp_in x1 30) ∧ ((vp_in x1 30) ∧ True)))))))))
theorem t_MW_begins_j26_86 {X : z_X} {Post : Option z_V → z_W → Prop} (M : z_M X zm_MW_begins rm_MW_begins Post) {T' : Nat → Nat × Nat} {G' : Nat → Nat → Option Nat} {n : Nat} {Q : (Nat → Nat → Int32) → Prop} (S : (Nat → Nat → Int32)) (x1 : Int32) (x2 : Int32) (x3 : Int32) (s0 : Int32) (hQ : ∀ S', Q S' → Post none (zW T' G' S' n)) (K : Q (F_MW_begins_j26 86 S x1 x2 x3 s0)) (hs : Sf_MW_begins_j26 86 S x1 x2 x3 s0) : z_G X zm_MW_begins (26, [(0, z_r 86), (1, .inl x1), (2, .inl x2), (3, .inl x3)], [.inl s0, z_r 86], zW T' G' S n, 0, 0) := by
  unfold F_MW_begins_j26 at K
  unfold Sf_MW_begins_j26 at hs
  try simp only [Nat.reduceAdd] at K hs
  refine z_go2 M.1 26 [(.putfield 46, 3), (.aload_n 0, 1), (.getfield 9, 3), (.iload_n 1, 1), (.iload_n 2, 1), (.iastore, 1), (.aload_n 0, 1), (.getfield 15, 3), (.iload_n 1, 1), (.iload_n 3, 1), (.iastore, 1), (.aload_n 0, 1), (.getfield 18, 3), (.iload_n 1, 1), (.iconst 0, 1), (.iastore, 1), (.iconst 0, 1), (.istore 4, 2)] (53, [(4, .inl 0), (0, z_r 86), (1, .inl x1), (2, .inl x2), (3, .inl x3)], [], zW T' G' (z_uS (z_uS (z_uS (z_uS S 86 0 s0) 87 (x1).toNatClampNeg x2) 88 (x1).toNatClampNeg x3) 89 (x1).toNatClampNeg 0) n, 0, 0) (by decide +kernel) rfl ⟨⟨rfl, trivial⟩, trivial, rfl, trivial, trivial, ⟨rfl, hs.1⟩, trivial, rfl, trivial, trivial, ⟨rfl, hs.2.1⟩, trivial, rfl, trivial, trivial, ⟨rfl, hs.2.2.1⟩, trivial, trivial, trivial⟩ ?_
  replace hs := hs.2.2.2
  refine z_lvs (lv' := [(0, z_r 86), (1, .inl x1), (4, .inl 0)]) [1, 2, 0] rfl ?_
  refine t_MW_begins_L53_86 M (Q := fun o => F_MW_begins_L53 86 x1 1300 (z_uS (z_uS (z_uS (z_uS S 86 0 s0) 87 (x1).toNatClampNeg x2) 88 (x1).toNatClampNeg x3) 89 (x1).toNatClampNeg 0) 0 = o) x1 (fun S53 hL53 => ?_) 1300 (z_uS (z_uS (z_uS (z_uS S 86 0 s0) 87 (x1).toNatClampNeg x2) 88 (x1).toNatClampNeg x3) 89 (x1).toNatClampNeg 0) 0 rfl hs.1
  replace hs := hs.2
  rw [hL53] at K
  try rw [hL53] at hs
  try dsimp only at K hs
  refine z_go2 M.1 77 [(.aload_n 0, 1), (.getfield 24, 3), (.iload_n 1, 1), (.iconst (-1), 1), (.iastore, 1), (.aload_n 0, 1), (.getfield 27, 3), (.iload_n 1, 1), (.iconst (-1), 1), (.iastore, 1), (.aload_n 0, 1), (.getfield 30, 3), (.iload_n 1, 1), (.iconst 0, 1), (.iastore, 1), (.aload_n 0, 1), (.getfield 33, 3), (.iload_n 1, 1), (.iconst (-1), 1), (.iastore, 1)] (105, [(0, z_r 86), (1, .inl x1)], [], zW T' G' (z_uS (z_uS (z_uS (z_uS S53 91 (x1).toNatClampNeg (-1)) 92 (x1).toNatClampNeg (-1)) 93 (x1).toNatClampNeg 0) 94 (x1).toNatClampNeg (-1)) n, 0, 0) (by decide +kernel) rfl ⟨trivial, rfl, trivial, trivial, ⟨rfl, hs.1⟩, trivial, rfl, trivial, trivial, ⟨rfl, hs.2.1⟩, trivial, rfl, trivial, trivial, ⟨rfl, hs.2.2.1⟩, trivial, rfl, trivial, trivial, ⟨rfl, hs.2.2.2.1⟩, trivial⟩ ?_
  replace hs := hs.2.2.2.2
  exact z_vret M (by decide +kernel) rfl (by decide) (by decide) (hQ _ K)
theorem t_MW_begins_j26_98 {X : z_X} {Post : Option z_V → z_W → Prop} (M : z_M X zm_MW_begins rm_MW_begins Post) {T' : Nat → Nat × Nat} {G' : Nat → Nat → Option Nat} {n : Nat} {Q : (Nat → Nat → Int32) → Prop} (S : (Nat → Nat → Int32)) (x1 : Int32) (x2 : Int32) (x3 : Int32) (s0 : Int32) (hQ : ∀ S', Q S' → Post none (zW T' G' S' n)) (K : Q (F_MW_begins_j26 98 S x1 x2 x3 s0)) (hs : Sf_MW_begins_j26 98 S x1 x2 x3 s0) : z_G X zm_MW_begins (26, [(0, z_r 98), (1, .inl x1), (2, .inl x2), (3, .inl x3)], [.inl s0, z_r 98], zW T' G' S n, 0, 0) := by
  unfold F_MW_begins_j26 at K
  unfold Sf_MW_begins_j26 at hs
  try simp only [Nat.reduceAdd] at K hs
  refine z_go2 M.1 26 [(.putfield 46, 3), (.aload_n 0, 1), (.getfield 9, 3), (.iload_n 1, 1), (.iload_n 2, 1), (.iastore, 1), (.aload_n 0, 1), (.getfield 15, 3), (.iload_n 1, 1), (.iload_n 3, 1), (.iastore, 1), (.aload_n 0, 1), (.getfield 18, 3), (.iload_n 1, 1), (.iconst 0, 1), (.iastore, 1), (.iconst 0, 1), (.istore 4, 2)] (53, [(4, .inl 0), (0, z_r 98), (1, .inl x1), (2, .inl x2), (3, .inl x3)], [], zW T' G' (z_uS (z_uS (z_uS (z_uS S 98 0 s0) 99 (x1).toNatClampNeg x2) 100 (x1).toNatClampNeg x3) 101 (x1).toNatClampNeg 0) n, 0, 0) (by decide +kernel) rfl ⟨⟨rfl, trivial⟩, trivial, rfl, trivial, trivial, ⟨rfl, hs.1⟩, trivial, rfl, trivial, trivial, ⟨rfl, hs.2.1⟩, trivial, rfl, trivial, trivial, ⟨rfl, hs.2.2.1⟩, trivial, trivial, trivial⟩ ?_
  replace hs := hs.2.2.2
  refine z_lvs (lv' := [(0, z_r 98), (1, .inl x1), (4, .inl 0)]) [1, 2, 0] rfl ?_
  refine t_MW_begins_L53_98 M (Q := fun o => F_MW_begins_L53 98 x1 1300 (z_uS (z_uS (z_uS (z_uS S 98 0 s0) 99 (x1).toNatClampNeg x2) 100 (x1).toNatClampNeg x3) 101 (x1).toNatClampNeg 0) 0 = o) x1 (fun S53 hL53 => ?_) 1300 (z_uS (z_uS (z_uS (z_uS S 98 0 s0) 99 (x1).toNatClampNeg x2) 100 (x1).toNatClampNeg x3) 101 (x1).toNatClampNeg 0) 0 rfl hs.1
  replace hs := hs.2
  rw [hL53] at K
  try rw [hL53] at hs
  try dsimp only at K hs
  refine z_go2 M.1 77 [(.aload_n 0, 1), (.getfield 24, 3), (.iload_n 1, 1), (.iconst (-1), 1), (.iastore, 1), (.aload_n 0, 1), (.getfield 27, 3), (.iload_n 1, 1), (.iconst (-1), 1), (.iastore, 1), (.aload_n 0, 1), (.getfield 30, 3), (.iload_n 1, 1), (.iconst 0, 1), (.iastore, 1), (.aload_n 0, 1), (.getfield 33, 3), (.iload_n 1, 1), (.iconst (-1), 1), (.iastore, 1)] (105, [(0, z_r 98), (1, .inl x1)], [], zW T' G' (z_uS (z_uS (z_uS (z_uS S53 103 (x1).toNatClampNeg (-1)) 104 (x1).toNatClampNeg (-1)) 105 (x1).toNatClampNeg 0) 106 (x1).toNatClampNeg (-1)) n, 0, 0) (by decide +kernel) rfl ⟨trivial, rfl, trivial, trivial, ⟨rfl, hs.1⟩, trivial, rfl, trivial, trivial, ⟨rfl, hs.2.1⟩, trivial, rfl, trivial, trivial, ⟨rfl, hs.2.2.1⟩, trivial, rfl, trivial, trivial, ⟨rfl, hs.2.2.2.1⟩, trivial⟩ ?_
  replace hs := hs.2.2.2.2
  exact z_vret M (by decide +kernel) rfl (by decide) (by decide) (hQ _ K)
theorem t_MW_begins_j26_110 {X : z_X} {Post : Option z_V → z_W → Prop} (M : z_M X zm_MW_begins rm_MW_begins Post) {T' : Nat → Nat × Nat} {G' : Nat → Nat → Option Nat} {n : Nat} {Q : (Nat → Nat → Int32) → Prop} (S : (Nat → Nat → Int32)) (x1 : Int32) (x2 : Int32) (x3 : Int32) (s0 : Int32) (hQ : ∀ S', Q S' → Post none (zW T' G' S' n)) (K : Q (F_MW_begins_j26 110 S x1 x2 x3 s0)) (hs : Sf_MW_begins_j26 110 S x1 x2 x3 s0) : z_G X zm_MW_begins (26, [(0, z_r 110), (1, .inl x1), (2, .inl x2), (3, .inl x3)], [.inl s0, z_r 110], zW T' G' S n, 0, 0) := by
  unfold F_MW_begins_j26 at K
  unfold Sf_MW_begins_j26 at hs
  try simp only [Nat.reduceAdd] at K hs
  refine z_go2 M.1 26 [(.putfield 46, 3), (.aload_n 0, 1), (.getfield 9, 3), (.iload_n 1, 1), (.iload_n 2, 1), (.iastore, 1), (.aload_n 0, 1), (.getfield 15, 3), (.iload_n 1, 1), (.iload_n 3, 1), (.iastore, 1), (.aload_n 0, 1), (.getfield 18, 3), (.iload_n 1, 1), (.iconst 0, 1), (.iastore, 1), (.iconst 0, 1), (.istore 4, 2)] (53, [(4, .inl 0), (0, z_r 110), (1, .inl x1), (2, .inl x2), (3, .inl x3)], [], zW T' G' (z_uS (z_uS (z_uS (z_uS S 110 0 s0) 111 (x1).toNatClampNeg x2) 112 (x1).toNatClampNeg x3) 113 (x1).toNatClampNeg 0) n, 0, 0) (by decide +kernel) rfl ⟨⟨rfl, trivial⟩, trivial, rfl, trivial, trivial, ⟨rfl, hs.1⟩, trivial, rfl, trivial, trivial, ⟨rfl, hs.2.1⟩, trivial, rfl, trivial, trivial, ⟨rfl, hs.2.2.1⟩, trivial, trivial, trivial⟩ ?_
  replace hs := hs.2.2.2
  refine z_lvs (lv' := [(0, z_r 110), (1, .inl x1), (4, .inl 0)]) [1, 2, 0] rfl ?_
  refine t_MW_begins_L53_110 M (Q := fun o => F_MW_begins_L53 110 x1 1300 (z_uS (z_uS (z_uS (z_uS S 110 0 s0) 111 (x1).toNatClampNeg x2) 112 (x1).toNatClampNeg x3) 113 (x1).toNatClampNeg 0) 0 = o) x1 (fun S53 hL53 => ?_) 1300 (z_uS (z_uS (z_uS (z_uS S 110 0 s0) 111 (x1).toNatClampNeg x2) 112 (x1).toNatClampNeg x3) 113 (x1).toNatClampNeg 0) 0 rfl hs.1
  replace hs := hs.2
  rw [hL53] at K
  try rw [hL53] at hs
  try dsimp only at K hs
  refine z_go2 M.1 77 [(.aload_n 0, 1), (.getfield 24, 3), (.iload_n 1, 1), (.iconst (-1), 1), (.iastore, 1), (.aload_n 0, 1), (.getfield 27, 3), (.iload_n 1, 1), (.iconst (-1), 1), (.iastore, 1), (.aload_n 0, 1), (.getfield 30, 3), (.iload_n 1, 1), (.iconst 0, 1), (.iastore, 1), (.aload_n 0, 1), (.getfield 33, 3), (.iload_n 1, 1), (.iconst (-1), 1), (.iastore, 1)] (105, [(0, z_r 110), (1, .inl x1)], [], zW T' G' (z_uS (z_uS (z_uS (z_uS S53 115 (x1).toNatClampNeg (-1)) 116 (x1).toNatClampNeg (-1)) 117 (x1).toNatClampNeg 0) 118 (x1).toNatClampNeg (-1)) n, 0, 0) (by decide +kernel) rfl ⟨trivial, rfl, trivial, trivial, ⟨rfl, hs.1⟩, trivial, rfl, trivial, trivial, ⟨rfl, hs.2.1⟩, trivial, rfl, trivial, trivial, ⟨rfl, hs.2.2.1⟩, trivial, rfl, trivial, trivial, ⟨rfl, hs.2.2.2.1⟩, trivial⟩ ?_
  replace hs := hs.2.2.2.2
  exact z_vret M (by decide +kernel) rfl (by decide) (by decide) (hQ _ K)
def F_MW_begins (w : Nat) (S : (Nat → Nat → Int32)) (p1 : Int32) (p2 : Int32) (p3 : Int32) : (Nat → Nat → Int32) := (if p1 < (S w 0) then (F_MW_begins_j26 w (z_uS S (w + 9) (p1).toNatClampNeg (vp_nar .boolean 1)) p1 p2 p3 (S w 0)) else (F_MW_begins_j26 w (z_uS S (w + 9) (p1).toNatClampNeg (vp_nar .boolean 1)) p1 p2 p3 (p1 + 1)))
def Sf_MW_begins (w : Nat) (S : (Nat → Nat → Int32)) (p1 : Int32) (p2 : Int32) (p3 : Int32) : Prop := ((vp_in p1 30) ∧ (if p1 < (S w 0) then (Sf_MW_begins_j26 w (z_uS S (w + 9) (p1).toNatClampNeg (vp_nar .boolean 1)) p1 p2 p3 (S w 0)) else (Sf_MW_begins_j26 w (z_uS S (w + 9) (p1).toNatClampNeg (vp_nar .boolean 1)) p1 p2 p3 (p1 + 1))))
theorem c_MW_begins_86 (T' : Nat → Nat × Nat) (G' : Nat → Nat → Option Nat) (S : (Nat → Nat → Int32)) (n : Nat) (p1 : Int32) (p2 : Int32) (p3 : Int32) (hs : Sf_MW_begins 86 S p1 p2 p3) : z_Run rm_MW_begins zm_MW_begins [z_r 86, .inl p1, .inl p2, .inl p3] (zW T' G' S n) (zq none (zW T' G' (F_MW_begins 86 S p1 p2 p3) n)) := by
  refine z_body (by decide) zf_MW_ok (Nat.le_of_ble_eq_true rfl) (fun X M => ?_)
  obtain ⟨Q, hQ, K⟩ : ∃ Q : (Nat → Nat → Int32) → Prop, (∀ S', Q S' → zq none (zW T' G' (F_MW_begins 86 S p1 p2 p3) n) none (zW T' G' S' n)) ∧ Q (F_MW_begins 86 S p1 p2 p3) := ⟨fun o => F_MW_begins 86 S p1 p2 p3 = o, fun S' h => ⟨rfl, by rw [h]⟩, rfl⟩
  show z_G X zm_MW_begins (0, [(0, z_r 86), (1, .inl p1), (2, .inl p2), (3, .inl p3)], [], zW T' G' S n, 0, 0)
  unfold F_MW_begins at K
  unfold Sf_MW_begins at hs
  try simp only [Nat.reduceAdd] at K hs
  refine z_go2 M.1 0 [(.aload_n 0, 1), (.getfield 36, 3), (.iload_n 1, 1), (.iconst 1, 1), (.bastore, 1), (.aload_n 0, 1), (.iload_n 1, 1), (.aload_n 0, 1), (.getfield 46, 3)] (13, [(0, z_r 86), (1, .inl p1), (2, .inl p2), (3, .inl p3)], [.inl (S 86 0), .inl p1, z_r 86], zW T' G' (z_uS S 95 (p1).toNatClampNeg (vp_nar .boolean 1)) n, 0, 0) (by decide +kernel) rfl ⟨trivial, rfl, trivial, trivial, ⟨rfl, hs.1⟩, trivial, trivial, trivial, rfl, trivial⟩ ?_
  replace hs := hs.2
  refine z_icmp_lt 22 M.1 (off := 9) (by decide +kernel) (by decide) (fun c13 => ?_) (fun c13 => ?_)
  · rw [if_pos c13] at K hs
    refine z_go2 M.1 22 [(.aload_n 0, 1), (.getfield 46, 3)] (26, [(0, z_r 86), (1, .inl p1), (2, .inl p2), (3, .inl p3)], [.inl (S 86 0), z_r 86], zW T' G' (z_uS S 95 (p1).toNatClampNeg (vp_nar .boolean 1)) n, 0, 0) (by decide +kernel) rfl ⟨trivial, rfl, trivial⟩ ?_
    exact z_lvs (lv' := [(0, z_r 86), (1, .inl p1), (2, .inl p2), (3, .inl p3)]) [0, 1, 2, 3] rfl (t_MW_begins_j26_86 M (z_uS S 95 (p1).toNatClampNeg (vp_nar .boolean 1)) p1 p2 p3 (S 86 0) hQ K hs)
  · rw [if_neg c13] at K hs
    refine z_go2 M.1 16 [(.iload_n 1, 1), (.iconst 1, 1), (.iadd, 1), (.goto 7, 3)] (26, [(0, z_r 86), (1, .inl p1), (2, .inl p2), (3, .inl p3)], [.inl (p1 + 1), z_r 86], zW T' G' (z_uS S 95 (p1).toNatClampNeg (vp_nar .boolean 1)) n, 0, 0) (by decide +kernel) rfl ⟨trivial, trivial, trivial, trivial, trivial⟩ ?_
    exact z_lvs (lv' := [(0, z_r 86), (1, .inl p1), (2, .inl p2), (3, .inl p3)]) [0, 1, 2, 3] rfl (t_MW_begins_j26_86 M (z_uS S 95 (p1).toNatClampNeg (vp_nar .boolean 1)) p1 p2 p3 (p1 + 1) hQ K hs)
theorem c_MW_begins_98 (T' : Nat → Nat × Nat) (G' : Nat → Nat → Option Nat) (S : (Nat → Nat → Int32)) (n : Nat) (p1 : Int32) (p2 : Int32) (p3 : Int32) (hs : Sf_MW_begins 98 S p1 p2 p3) : z_Run rm_MW_begins zm_MW_begins [z_r 98, .inl p1, .inl p2, .inl p3] (zW T' G' S n) (zq none (zW T' G' (F_MW_begins 98 S p1 p2 p3) n)) := by
  refine z_body (by decide) zf_MW_ok (Nat.le_of_ble_eq_true rfl) (fun X M => ?_)
  obtain ⟨Q, hQ, K⟩ : ∃ Q : (Nat → Nat → Int32) → Prop, (∀ S', Q S' → zq none (zW T' G' (F_MW_begins 98 S p1 p2 p3) n) none (zW T' G' S' n)) ∧ Q (F_MW_begins 98 S p1 p2 p3) := ⟨fun o => F_MW_begins 98 S p1 p2 p3 = o, fun S' h => ⟨rfl, by rw [h]⟩, rfl⟩
  show z_G X zm_MW_begins (0, [(0, z_r 98), (1, .inl p1), (2, .inl p2), (3, .inl p3)], [], zW T' G' S n, 0, 0)
  unfold F_MW_begins at K
  unfold Sf_MW_begins at hs
  try simp only [Nat.reduceAdd] at K hs
  refine z_go2 M.1 0 [(.aload_n 0, 1), (.getfield 36, 3), (.iload_n 1, 1), (.iconst 1, 1), (.bastore, 1), (.aload_n 0, 1), (.iload_n 1, 1), (.aload_n 0, 1), (.getfield 46, 3)] (13, [(0, z_r 98), (1, .inl p1), (2, .inl p2), (3, .inl p3)], [.inl (S 98 0), .inl p1, z_r 98], zW T' G' (z_uS S 107 (p1).toNatClampNeg (vp_nar .boolean 1)) n, 0, 0) (by decide +kernel) rfl ⟨trivial, rfl, trivial, trivial, ⟨rfl, hs.1⟩, trivial, trivial, trivial, rfl, trivial⟩ ?_
  replace hs := hs.2
  refine z_icmp_lt 22 M.1 (off := 9) (by decide +kernel) (by decide) (fun c13 => ?_) (fun c13 => ?_)
  · rw [if_pos c13] at K hs
    refine z_go2 M.1 22 [(.aload_n 0, 1), (.getfield 46, 3)] (26, [(0, z_r 98), (1, .inl p1), (2, .inl p2), (3, .inl p3)], [.inl (S 98 0), z_r 98], zW T' G' (z_uS S 107 (p1).toNatClampNeg (vp_nar .boolean 1)) n, 0, 0) (by decide +kernel) rfl ⟨trivial, rfl, trivial⟩ ?_
    exact z_lvs (lv' := [(0, z_r 98), (1, .inl p1), (2, .inl p2), (3, .inl p3)]) [0, 1, 2, 3] rfl (t_MW_begins_j26_98 M (z_uS S 107 (p1).toNatClampNeg (vp_nar .boolean 1)) p1 p2 p3 (S 98 0) hQ K hs)
  · rw [if_neg c13] at K hs
    refine z_go2 M.1 16 [(.iload_n 1, 1), (.iconst 1, 1), (.iadd, 1), (.goto 7, 3)] (26, [(0, z_r 98), (1, .inl p1), (2, .inl p2), (3, .inl p3)], [.inl (p1 + 1), z_r 98], zW T' G' (z_uS S 107 (p1).toNatClampNeg (vp_nar .boolean 1)) n, 0, 0) (by decide +kernel) rfl ⟨trivial, trivial, trivial, trivial, trivial⟩ ?_
    exact z_lvs (lv' := [(0, z_r 98), (1, .inl p1), (2, .inl p2), (3, .inl p3)]) [0, 1, 2, 3] rfl (t_MW_begins_j26_98 M (z_uS S 107 (p1).toNatClampNeg (vp_nar .boolean 1)) p1 p2 p3 (p1 + 1) hQ K hs)
theorem c_MW_begins_110 (T' : Nat → Nat × Nat) (G' : Nat → Nat → Option Nat) (S : (Nat → Nat → Int32)) (n : Nat) (p1 : Int32) (p2 : Int32) (p3 : Int32) (hs : Sf_MW_begins 110 S p1 p2 p3) : z_Run rm_MW_begins zm_MW_begins [z_r 110, .inl p1, .inl p2, .inl p3] (zW T' G' S n) (zq none (zW T' G' (F_MW_begins 110 S p1 p2 p3) n)) := by
  refine z_body (by decide) zf_MW_ok (Nat.le_of_ble_eq_true rfl) (fun X M => ?_)
  obtain ⟨Q, hQ, K⟩ : ∃ Q : (Nat → Nat → Int32) → Prop, (∀ S', Q S' → zq none (zW T' G' (F_MW_begins 110 S p1 p2 p3) n) none (zW T' G' S' n)) ∧ Q (F_MW_begins 110 S p1 p2 p3) := ⟨fun o => F_MW_begins 110 S p1 p2 p3 = o, fun S' h => ⟨rfl, by rw [h]⟩, rfl⟩
  show z_G X zm_MW_begins (0, [(0, z_r 110), (1, .inl p1), (2, .inl p2), (3, .inl p3)], [], zW T' G' S n, 0, 0)
  unfold F_MW_begins at K
  unfold Sf_MW_begins at hs
  try simp only [Nat.reduceAdd] at K hs
  refine z_go2 M.1 0 [(.aload_n 0, 1), (.getfield 36, 3), (.iload_n 1, 1), (.iconst 1, 1), (.bastore, 1), (.aload_n 0, 1), (.iload_n 1, 1), (.aload_n 0, 1), (.getfield 46, 3)] (13, [(0, z_r 110), (1, .inl p1), (2, .inl p2), (3, .inl p3)], [.inl (S 110 0), .inl p1, z_r 110], zW T' G' (z_uS S 119 (p1).toNatClampNeg (vp_nar .boolean 1)) n, 0, 0) (by decide +kernel) rfl ⟨trivial, rfl, trivial, trivial, ⟨rfl, hs.1⟩, trivial, trivial, trivial, rfl, trivial⟩ ?_
  replace hs := hs.2
  refine z_icmp_lt 22 M.1 (off := 9) (by decide +kernel) (by decide) (fun c13 => ?_) (fun c13 => ?_)
  · rw [if_pos c13] at K hs
    refine z_go2 M.1 22 [(.aload_n 0, 1), (.getfield 46, 3)] (26, [(0, z_r 110), (1, .inl p1), (2, .inl p2), (3, .inl p3)], [.inl (S 110 0), z_r 110], zW T' G' (z_uS S 119 (p1).toNatClampNeg (vp_nar .boolean 1)) n, 0, 0) (by decide +kernel) rfl ⟨trivial, rfl, trivial⟩ ?_
    exact z_lvs (lv' := [(0, z_r 110), (1, .inl p1), (2, .inl p2), (3, .inl p3)]) [0, 1, 2, 3] rfl (t_MW_begins_j26_110 M (z_uS S 119 (p1).toNatClampNeg (vp_nar .boolean 1)) p1 p2 p3 (S 110 0) hQ K hs)
  · rw [if_neg c13] at K hs
    refine z_go2 M.1 16 [(.iload_n 1, 1), (.iconst 1, 1), (.iadd, 1), (.goto 7, 3)] (26, [(0, z_r 110), (1, .inl p1), (2, .inl p2), (3, .inl p3)], [.inl (p1 + 1), z_r 110], zW T' G' (z_uS S 119 (p1).toNatClampNeg (vp_nar .boolean 1)) n, 0, 0) (by decide +kernel) rfl ⟨trivial, trivial, trivial, trivial, trivial⟩ ?_
    exact z_lvs (lv' := [(0, z_r 110), (1, .inl p1), (2, .inl p2), (3, .inl p3)]) [0, 1, 2, 3] rfl (t_MW_begins_j26_110 M (z_uS S 119 (p1).toNatClampNeg (vp_nar .boolean 1)) p1 p2 p3 (p1 + 1) hQ K hs)

-- TrackHouseModel$World.isLinked
abbrev rm_MW_isLinked : Room := zr 0
def F_MW_isLinked (w : Nat) (S : (Nat → Nat → Int32)) (p1 : Int32) (p2 : Int32) (p3 : Int32) : Int32 := (S (w + 10) ((((900 : Int32) * p1) + ((30 : Int32) * p2)) + p3).toNatClampNeg)
def Sf_MW_isLinked (w : Nat) (S : (Nat → Nat → Int32)) (p1 : Int32) (p2 : Int32) (p3 : Int32) : Prop := ((vp_in ((((900 : Int32) * p1) + ((30 : Int32) * p2)) + p3) 2700) ∧ (narrow .boolean (.int (S (w + 10) ((((900 : Int32) * p1) + ((30 : Int32) * p2)) + p3).toNatClampNeg)) = .int (S (w + 10) ((((900 : Int32) * p1) + ((30 : Int32) * p2)) + p3).toNatClampNeg) ∧ True))
theorem c_MW_isLinked_86 (T' : Nat → Nat × Nat) (G' : Nat → Nat → Option Nat) (S : (Nat → Nat → Int32)) (n : Nat) (p1 : Int32) (p2 : Int32) (p3 : Int32) (hs : Sf_MW_isLinked 86 S p1 p2 p3) : z_Run rm_MW_isLinked zm_MW_isLinked [z_r 86, .inl p1, .inl p2, .inl p3] (zW T' G' S n) (zq (some (.inl (F_MW_isLinked 86 S p1 p2 p3))) (zW T' G' S n)) := by
  refine z_body (by decide) zf_MW_ok (Nat.le_of_ble_eq_true rfl) (fun X M => ?_)
  obtain ⟨Q, hQ, K⟩ : ∃ Q : Int32 → Prop, (∀ v, Q v → zq (some (.inl (F_MW_isLinked 86 S p1 p2 p3))) (zW T' G' S n) (some (.inl v)) (zW T' G' S n)) ∧ Q (F_MW_isLinked 86 S p1 p2 p3) := ⟨fun o => F_MW_isLinked 86 S p1 p2 p3 = o, fun v h => ⟨by rw [h], rfl⟩, rfl⟩
  show z_G X zm_MW_isLinked (0, [(0, z_r 86), (1, .inl p1), (2, .inl p2), (3, .inl p3)], [], zW T' G' S n, 0, 0)
  unfold F_MW_isLinked at K
  unfold Sf_MW_isLinked at hs
  try simp only [Nat.reduceAdd] at K hs
  refine z_go2 M.1 0 [(.aload_n 0, 1), (.getfield 40, 3), (.sipush 900, 3), (.iload_n 1, 1), (.imul, 1), (.bipush 30, 2), (.iload_n 2, 1), (.imul, 1), (.iadd, 1), (.iload_n 3, 1), (.iadd, 1), (.baload, 1)] (17, [(0, z_r 86), (1, .inl p1), (2, .inl p2), (3, .inl p3)], [.inl (S 96 ((((900 : Int32) * p1) + ((30 : Int32) * p2)) + p3).toNatClampNeg)], zW T' G' S n, 0, 0) (by decide +kernel) rfl ⟨trivial, rfl, trivial, trivial, trivial, trivial, trivial, trivial, trivial, trivial, trivial, ⟨rfl, hs.1⟩, trivial⟩ ?_
  replace hs := hs.2
  exact z_iret M (by decide +kernel) .boolean rfl hs.1 (by decide) (by decide) (hQ _ K)
theorem c_MW_isLinked_98 (T' : Nat → Nat × Nat) (G' : Nat → Nat → Option Nat) (S : (Nat → Nat → Int32)) (n : Nat) (p1 : Int32) (p2 : Int32) (p3 : Int32) (hs : Sf_MW_isLinked 98 S p1 p2 p3) : z_Run rm_MW_isLinked zm_MW_isLinked [z_r 98, .inl p1, .inl p2, .inl p3] (zW T' G' S n) (zq (some (.inl (F_MW_isLinked 98 S p1 p2 p3))) (zW T' G' S n)) := by
  refine z_body (by decide) zf_MW_ok (Nat.le_of_ble_eq_true rfl) (fun X M => ?_)
  obtain ⟨Q, hQ, K⟩ : ∃ Q : Int32 → Prop, (∀ v, Q v → zq (some (.inl (F_MW_isLinked 98 S p1 p2 p3))) (zW T' G' S n) (some (.inl v)) (zW T' G' S n)) ∧ Q (F_MW_isLinked 98 S p1 p2 p3) := ⟨fun o => F_MW_isLinked 98 S p1 p2 p3 = o, fun v h => ⟨by rw [h], rfl⟩, rfl⟩
  show z_G X zm_MW_isLinked (0, [(0, z_r 98), (1, .inl p1), (2, .inl p2), (3, .inl p3)], [], zW T' G' S n, 0, 0)
  unfold F_MW_isLinked at K
  unfold Sf_MW_isLinked at hs
  try simp only [Nat.reduceAdd] at K hs
  refine z_go2 M.1 0 [(.aload_n 0, 1), (.getfield 40, 3), (.sipush 900, 3), (.iload_n 1, 1), (.imul, 1), (.bipush 30, 2), (.iload_n 2, 1), (.imul, 1), (.iadd, 1), (.iload_n 3, 1), (.iadd, 1), (.baload, 1)] (17, [(0, z_r 98), (1, .inl p1), (2, .inl p2), (3, .inl p3)], [.inl (S 108 ((((900 : Int32) * p1) + ((30 : Int32) * p2)) + p3).toNatClampNeg)], zW T' G' S n, 0, 0) (by decide +kernel) rfl ⟨trivial, rfl, trivial, trivial, trivial, trivial, trivial, trivial, trivial, trivial, trivial, ⟨rfl, hs.1⟩, trivial⟩ ?_
  replace hs := hs.2
  exact z_iret M (by decide +kernel) .boolean rfl hs.1 (by decide) (by decide) (hQ _ K)
theorem c_MW_isLinked_110 (T' : Nat → Nat × Nat) (G' : Nat → Nat → Option Nat) (S : (Nat → Nat → Int32)) (n : Nat) (p1 : Int32) (p2 : Int32) (p3 : Int32) (hs : Sf_MW_isLinked 110 S p1 p2 p3) : z_Run rm_MW_isLinked zm_MW_isLinked [z_r 110, .inl p1, .inl p2, .inl p3] (zW T' G' S n) (zq (some (.inl (F_MW_isLinked 110 S p1 p2 p3))) (zW T' G' S n)) := by
  refine z_body (by decide) zf_MW_ok (Nat.le_of_ble_eq_true rfl) (fun X M => ?_)
  obtain ⟨Q, hQ, K⟩ : ∃ Q : Int32 → Prop, (∀ v, Q v → zq (some (.inl (F_MW_isLinked 110 S p1 p2 p3))) (zW T' G' S n) (some (.inl v)) (zW T' G' S n)) ∧ Q (F_MW_isLinked 110 S p1 p2 p3) := ⟨fun o => F_MW_isLinked 110 S p1 p2 p3 = o, fun v h => ⟨by rw [h], rfl⟩, rfl⟩
  show z_G X zm_MW_isLinked (0, [(0, z_r 110), (1, .inl p1), (2, .inl p2), (3, .inl p3)], [], zW T' G' S n, 0, 0)
  unfold F_MW_isLinked at K
  unfold Sf_MW_isLinked at hs
  try simp only [Nat.reduceAdd] at K hs
  refine z_go2 M.1 0 [(.aload_n 0, 1), (.getfield 40, 3), (.sipush 900, 3), (.iload_n 1, 1), (.imul, 1), (.bipush 30, 2), (.iload_n 2, 1), (.imul, 1), (.iadd, 1), (.iload_n 3, 1), (.iadd, 1), (.baload, 1)] (17, [(0, z_r 110), (1, .inl p1), (2, .inl p2), (3, .inl p3)], [.inl (S 120 ((((900 : Int32) * p1) + ((30 : Int32) * p2)) + p3).toNatClampNeg)], zW T' G' S n, 0, 0) (by decide +kernel) rfl ⟨trivial, rfl, trivial, trivial, trivial, trivial, trivial, trivial, trivial, trivial, trivial, ⟨rfl, hs.1⟩, trivial⟩ ?_
  replace hs := hs.2
  exact z_iret M (by decide +kernel) .boolean rfl hs.1 (by decide) (by decide) (hQ _ K)

-- TrackHouseModel$World.link
abbrev rm_MW_link : Room := zr 0
def F_MW_link (w : Nat) (S : (Nat → Nat → Int32)) (p1 : Int32) (p2 : Int32) (p3 : Int32) (p4 : Int32) : (Nat → Nat → Int32) := (if p1 = 1 then (z_uS (z_uS S (w + 10) ((((900 : Int32) * p1) + ((30 : Int32) * p2)) + p3).toNatClampNeg (vp_nar .boolean p4)) (w + 10) ((((900 : Int32) * p1) + ((30 : Int32) * p3)) + p2).toNatClampNeg (vp_nar .boolean p4)) else (z_uS S (w + 10) ((((900 : Int32) * p1) + ((30 : Int32) * p2)) + p3).toNatClampNeg (vp_nar .boolean p4)))
def Sf_MW_link (w : Nat) (S : (Nat → Nat → Int32)) (p1 : Int32) (p2 : Int32) (p3 : Int32) (p4 : Int32) : Prop := ((vp_in ((((900 : Int32) * p1) + ((30 : Int32) * p2)) + p3) 2700) ∧ (if p1 = 1 then ((vp_in ((((900 : Int32) * p1) + ((30 : Int32) * p3)) + p2) 2700) ∧ True) else True))
theorem c_MW_link_86 (T' : Nat → Nat × Nat) (G' : Nat → Nat → Option Nat) (S : (Nat → Nat → Int32)) (n : Nat) (p1 : Int32) (p2 : Int32) (p3 : Int32) (p4 : Int32) (hs : Sf_MW_link 86 S p1 p2 p3 p4) : z_Run rm_MW_link zm_MW_link [z_r 86, .inl p1, .inl p2, .inl p3, .inl p4] (zW T' G' S n) (zq none (zW T' G' (F_MW_link 86 S p1 p2 p3 p4) n)) := by
  refine z_body (by decide) zf_MW_ok (Nat.le_of_ble_eq_true rfl) (fun X M => ?_)
  obtain ⟨Q, hQ, K⟩ : ∃ Q : (Nat → Nat → Int32) → Prop, (∀ S', Q S' → zq none (zW T' G' (F_MW_link 86 S p1 p2 p3 p4) n) none (zW T' G' S' n)) ∧ Q (F_MW_link 86 S p1 p2 p3 p4) := ⟨fun o => F_MW_link 86 S p1 p2 p3 p4 = o, fun S' h => ⟨rfl, by rw [h]⟩, rfl⟩
  show z_G X zm_MW_link (0, [(0, z_r 86), (1, .inl p1), (2, .inl p2), (3, .inl p3), (4, .inl p4)], [], zW T' G' S n, 0, 0)
  unfold F_MW_link at K
  unfold Sf_MW_link at hs
  try simp only [Nat.reduceAdd] at K hs
  refine z_go2 M.1 0 [(.aload_n 0, 1), (.getfield 40, 3), (.sipush 900, 3), (.iload_n 1, 1), (.imul, 1), (.bipush 30, 2), (.iload_n 2, 1), (.imul, 1), (.iadd, 1), (.iload_n 3, 1), (.iadd, 1), (.iload 4, 2), (.bastore, 1), (.iload_n 1, 1), (.iconst 1, 1)] (21, [(0, z_r 86), (1, .inl p1), (2, .inl p2), (3, .inl p3), (4, .inl p4)], [.inl 1, .inl p1], zW T' G' (z_uS S 96 ((((900 : Int32) * p1) + ((30 : Int32) * p2)) + p3).toNatClampNeg (vp_nar .boolean p4)) n, 0, 0) (by decide +kernel) rfl ⟨trivial, rfl, trivial, trivial, trivial, trivial, trivial, trivial, trivial, trivial, trivial, trivial, ⟨rfl, hs.1⟩, trivial, trivial, trivial⟩ ?_
  replace hs := hs.2
  refine z_icmp_ne 43 M.1 (off := 22) (by decide +kernel) (by decide) (fun c21 => ?_) (fun c21 => ?_)
  · rw [if_neg c21] at K hs
    exact z_vret M (by decide +kernel) rfl (by decide) (by decide) (hQ _ K)
  · rw [if_pos c21] at K hs
    refine z_go2 M.1 24 [(.aload_n 0, 1), (.getfield 40, 3), (.sipush 900, 3), (.iload_n 1, 1), (.imul, 1), (.bipush 30, 2), (.iload_n 3, 1), (.imul, 1), (.iadd, 1), (.iload_n 2, 1), (.iadd, 1), (.iload 4, 2), (.bastore, 1)] (43, [(0, z_r 86), (1, .inl p1), (2, .inl p2), (3, .inl p3), (4, .inl p4)], [], zW T' G' (z_uS (z_uS S 96 ((((900 : Int32) * p1) + ((30 : Int32) * p2)) + p3).toNatClampNeg (vp_nar .boolean p4)) 96 ((((900 : Int32) * p1) + ((30 : Int32) * p3)) + p2).toNatClampNeg (vp_nar .boolean p4)) n, 0, 0) (by decide +kernel) rfl ⟨trivial, rfl, trivial, trivial, trivial, trivial, trivial, trivial, trivial, trivial, trivial, trivial, ⟨rfl, hs.1⟩, trivial⟩ ?_
    replace hs := hs.2
    exact z_vret M (by decide +kernel) rfl (by decide) (by decide) (hQ _ K)
theorem c_MW_link_98 (T' : Nat → Nat × Nat) (G' : Nat → Nat → Option Nat) (S : (Nat → Nat → Int32)) (n : Nat) (p1 : Int32) (p2 : Int32) (p3 : Int32) (p4 : Int32) (hs : Sf_MW_link 98 S p1 p2 p3 p4) : z_Run rm_MW_link zm_MW_link [z_r 98, .inl p1, .inl p2, .inl p3, .inl p4] (zW T' G' S n) (zq none (zW T' G' (F_MW_link 98 S p1 p2 p3 p4) n)) := by
  refine z_body (by decide) zf_MW_ok (Nat.le_of_ble_eq_true rfl) (fun X M => ?_)
  obtain ⟨Q, hQ, K⟩ : ∃ Q : (Nat → Nat → Int32) → Prop, (∀ S', Q S' → zq none (zW T' G' (F_MW_link 98 S p1 p2 p3 p4) n) none (zW T' G' S' n)) ∧ Q (F_MW_link 98 S p1 p2 p3 p4) := ⟨fun o => F_MW_link 98 S p1 p2 p3 p4 = o, fun S' h => ⟨rfl, by rw [h]⟩, rfl⟩
  show z_G X zm_MW_link (0, [(0, z_r 98), (1, .inl p1), (2, .inl p2), (3, .inl p3), (4, .inl p4)], [], zW T' G' S n, 0, 0)
  unfold F_MW_link at K
  unfold Sf_MW_link at hs
  try simp only [Nat.reduceAdd] at K hs
  refine z_go2 M.1 0 [(.aload_n 0, 1), (.getfield 40, 3), (.sipush 900, 3), (.iload_n 1, 1), (.imul, 1), (.bipush 30, 2), (.iload_n 2, 1), (.imul, 1), (.iadd, 1), (.iload_n 3, 1), (.iadd, 1), (.iload 4, 2), (.bastore, 1), (.iload_n 1, 1), (.iconst 1, 1)] (21, [(0, z_r 98), (1, .inl p1), (2, .inl p2), (3, .inl p3), (4, .inl p4)], [.inl 1, .inl p1], zW T' G' (z_uS S 108 ((((900 : Int32) * p1) + ((30 : Int32) * p2)) + p3).toNatClampNeg (vp_nar .boolean p4)) n, 0, 0) (by decide +kernel) rfl ⟨trivial, rfl, trivial, trivial, trivial, trivial, trivial, trivial, trivial, trivial, trivial, trivial, ⟨rfl, hs.1⟩, trivial, trivial, trivial⟩ ?_
  replace hs := hs.2
  refine z_icmp_ne 43 M.1 (off := 22) (by decide +kernel) (by decide) (fun c21 => ?_) (fun c21 => ?_)
  · rw [if_neg c21] at K hs
    exact z_vret M (by decide +kernel) rfl (by decide) (by decide) (hQ _ K)
  · rw [if_pos c21] at K hs
    refine z_go2 M.1 24 [(.aload_n 0, 1), (.getfield 40, 3), (.sipush 900, 3), (.iload_n 1, 1), (.imul, 1), (.bipush 30, 2), (.iload_n 3, 1), (.imul, 1), (.iadd, 1), (.iload_n 2, 1), (.iadd, 1), (.iload 4, 2), (.bastore, 1)] (43, [(0, z_r 98), (1, .inl p1), (2, .inl p2), (3, .inl p3), (4, .inl p4)], [], zW T' G' (z_uS (z_uS S 108 ((((900 : Int32) * p1) + ((30 : Int32) * p2)) + p3).toNatClampNeg (vp_nar .boolean p4)) 108 ((((900 : Int32) * p1) + ((30 : Int32) * p3)) + p2).toNatClampNeg (vp_nar .boolean p4)) n, 0, 0) (by decide +kernel) rfl ⟨trivial, rfl, trivial, trivial, trivial, trivial, trivial, trivial, trivial, trivial, trivial, trivial, ⟨rfl, hs.1⟩, trivial⟩ ?_
    replace hs := hs.2
    exact z_vret M (by decide +kernel) rfl (by decide) (by decide) (hQ _ K)
theorem c_MW_link_110 (T' : Nat → Nat × Nat) (G' : Nat → Nat → Option Nat) (S : (Nat → Nat → Int32)) (n : Nat) (p1 : Int32) (p2 : Int32) (p3 : Int32) (p4 : Int32) (hs : Sf_MW_link 110 S p1 p2 p3 p4) : z_Run rm_MW_link zm_MW_link [z_r 110, .inl p1, .inl p2, .inl p3, .inl p4] (zW T' G' S n) (zq none (zW T' G' (F_MW_link 110 S p1 p2 p3 p4) n)) := by
  refine z_body (by decide) zf_MW_ok (Nat.le_of_ble_eq_true rfl) (fun X M => ?_)
  obtain ⟨Q, hQ, K⟩ : ∃ Q : (Nat → Nat → Int32) → Prop, (∀ S', Q S' → zq none (zW T' G' (F_MW_link 110 S p1 p2 p3 p4) n) none (zW T' G' S' n)) ∧ Q (F_MW_link 110 S p1 p2 p3 p4) := ⟨fun o => F_MW_link 110 S p1 p2 p3 p4 = o, fun S' h => ⟨rfl, by rw [h]⟩, rfl⟩
  show z_G X zm_MW_link (0, [(0, z_r 110), (1, .inl p1), (2, .inl p2), (3, .inl p3), (4, .inl p4)], [], zW T' G' S n, 0, 0)
  unfold F_MW_link at K
  unfold Sf_MW_link at hs
  try simp only [Nat.reduceAdd] at K hs
  refine z_go2 M.1 0 [(.aload_n 0, 1), (.getfield 40, 3), (.sipush 900, 3), (.iload_n 1, 1), (.imul, 1), (.bipush 30, 2), (.iload_n 2, 1), (.imul, 1), (.iadd, 1), (.iload_n 3, 1), (.iadd, 1), (.iload 4, 2), (.bastore, 1), (.iload_n 1, 1), (.iconst 1, 1)] (21, [(0, z_r 110), (1, .inl p1), (2, .inl p2), (3, .inl p3), (4, .inl p4)], [.inl 1, .inl p1], zW T' G' (z_uS S 120 ((((900 : Int32) * p1) + ((30 : Int32) * p2)) + p3).toNatClampNeg (vp_nar .boolean p4)) n, 0, 0) (by decide +kernel) rfl ⟨trivial, rfl, trivial, trivial, trivial, trivial, trivial, trivial, trivial, trivial, trivial, trivial, ⟨rfl, hs.1⟩, trivial, trivial, trivial⟩ ?_
  replace hs := hs.2
  refine z_icmp_ne 43 M.1 (off := 22) (by decide +kernel) (by decide) (fun c21 => ?_) (fun c21 => ?_)
  · rw [if_neg c21] at K hs
    exact z_vret M (by decide +kernel) rfl (by decide) (by decide) (hQ _ K)
  · rw [if_pos c21] at K hs
    refine z_go2 M.1 24 [(.aload_n 0, 1), (.getfield 40, 3), (.sipush 900, 3), (.iload_n 1, 1), (.imul, 1), (.bipush 30, 2), (.iload_n 3, 1), (.imul, 1), (.iadd, 1), (.iload_n 2, 1), (.iadd, 1), (.iload 4, 2), (.bastore, 1)] (43, [(0, z_r 110), (1, .inl p1), (2, .inl p2), (3, .inl p3), (4, .inl p4)], [], zW T' G' (z_uS (z_uS S 120 ((((900 : Int32) * p1) + ((30 : Int32) * p2)) + p3).toNatClampNeg (vp_nar .boolean p4)) 120 ((((900 : Int32) * p1) + ((30 : Int32) * p3)) + p2).toNatClampNeg (vp_nar .boolean p4)) n, 0, 0) (by decide +kernel) rfl ⟨trivial, rfl, trivial, trivial, trivial, trivial, trivial, trivial, trivial, trivial, trivial, trivial, ⟨rfl, hs.1⟩, trivial⟩ ?_
    replace hs := hs.2
    exact z_vret M (by decide +kernel) rfl (by decide) (by decide) (hQ _ K)

-- TrackHouseModel$World.does
abbrev rm_MW_does : Room := zr 1
def F_MW_does_j170 (w : Nat) (S : (Nat → Nat → Int32)) (s0 : Int32) (s1 : Int32) (s2 : Int32) (s3 : Int32) : (Nat → Nat → Int32) := (z_let (F_MW_link w S s3 s2 s1 s0) (fun S170 => S170))
def Sf_MW_does_j170 (w : Nat) (S : (Nat → Nat → Int32)) (s0 : Int32) (s1 : Int32) (s2 : Int32) (s3 : Int32) : Prop := (Sf_MW_link w S s3 s2 s1 s0 ∧ True)
theorem t_MW_does_j170_86 {X : z_X} {Post : Option z_V → z_W → Prop} (M : z_M X zm_MW_does rm_MW_does Post) {T' : Nat → Nat × Nat} {G' : Nat → Nat → Option Nat} {n : Nat} {Q : (Nat → Nat → Int32) → Prop} (S : (Nat → Nat → Int32)) (s0 : Int32) (s1 : Int32) (s2 : Int32) (s3 : Int32) (hQ : ∀ S', Q S' → Post none (zW T' G' S' n)) (K : Q (F_MW_does_j170 86 S s0 s1 s2 s3)) (hs : Sf_MW_does_j170 86 S s0 s1 s2 s3) : z_G X zm_MW_does (170, [], [.inl s0, .inl s1, .inl s2, .inl s3, z_r 86], zW T' G' S n, 0, 0) := by
  unfold F_MW_does_j170 at K
  unfold Sf_MW_does_j170 at hs
  try simp only [Nat.reduceAdd] at K hs
  refine z_callV M.1 (av := [.inl s3, .inl s2, .inl s1, .inl s0]) (st := []) (a := 86) (ci := 13) (by decide +kernel) (c_MW_link_86 T' G' S n s3 s2 s1 s0 hs.1) M.2.1 zl_MW_54 zv_MW_link rfl rfl rfl ⟨by decide, by decide, by decide, by decide⟩ rfl (Nat.le_of_ble_eq_true rfl) (fun v w' hv => ?_)
  replace hs := hs.2
  obtain ⟨S170, hF170⟩ : ∃ y, F_MW_link 86 S s3 s2 s1 s0 = y := ⟨_, rfl⟩
  rw [hF170] at K hv
  try dsimp only [z_let] at K
  obtain ⟨rfl, rfl⟩ := hv
  show z_G X zm_MW_does (173, [], [], zW T' G' S170 n, 0, 0)
  exact z_vret M (by decide +kernel) rfl (by decide) (by decide) (hQ _ K)
theorem t_MW_does_j170_98 {X : z_X} {Post : Option z_V → z_W → Prop} (M : z_M X zm_MW_does rm_MW_does Post) {T' : Nat → Nat × Nat} {G' : Nat → Nat → Option Nat} {n : Nat} {Q : (Nat → Nat → Int32) → Prop} (S : (Nat → Nat → Int32)) (s0 : Int32) (s1 : Int32) (s2 : Int32) (s3 : Int32) (hQ : ∀ S', Q S' → Post none (zW T' G' S' n)) (K : Q (F_MW_does_j170 98 S s0 s1 s2 s3)) (hs : Sf_MW_does_j170 98 S s0 s1 s2 s3) : z_G X zm_MW_does (170, [], [.inl s0, .inl s1, .inl s2, .inl s3, z_r 98], zW T' G' S n, 0, 0) := by
  unfold F_MW_does_j170 at K
  unfold Sf_MW_does_j170 at hs
  try simp only [Nat.reduceAdd] at K hs
  refine z_callV M.1 (av := [.inl s3, .inl s2, .inl s1, .inl s0]) (st := []) (a := 98) (ci := 13) (by decide +kernel) (c_MW_link_98 T' G' S n s3 s2 s1 s0 hs.1) M.2.1 zl_MW_54 zv_MW_link rfl rfl rfl ⟨by decide, by decide, by decide, by decide⟩ rfl (Nat.le_of_ble_eq_true rfl) (fun v w' hv => ?_)
  replace hs := hs.2
  obtain ⟨S170, hF170⟩ : ∃ y, F_MW_link 98 S s3 s2 s1 s0 = y := ⟨_, rfl⟩
  rw [hF170] at K hv
  try dsimp only [z_let] at K
  obtain ⟨rfl, rfl⟩ := hv
  show z_G X zm_MW_does (173, [], [], zW T' G' S170 n, 0, 0)
  exact z_vret M (by decide +kernel) rfl (by decide) (by decide) (hQ _ K)
theorem t_MW_does_j170_110 {X : z_X} {Post : Option z_V → z_W → Prop} (M : z_M X zm_MW_does rm_MW_does Post) {T' : Nat → Nat × Nat} {G' : Nat → Nat → Option Nat} {n : Nat} {Q : (Nat → Nat → Int32) → Prop} (S : (Nat → Nat → Int32)) (s0 : Int32) (s1 : Int32) (s2 : Int32) (s3 : Int32) (hQ : ∀ S', Q S' → Post none (zW T' G' S' n)) (K : Q (F_MW_does_j170 110 S s0 s1 s2 s3)) (hs : Sf_MW_does_j170 110 S s0 s1 s2 s3) : z_G X zm_MW_does (170, [], [.inl s0, .inl s1, .inl s2, .inl s3, z_r 110], zW T' G' S n, 0, 0) := by
  unfold F_MW_does_j170 at K
  unfold Sf_MW_does_j170 at hs
  try simp only [Nat.reduceAdd] at K hs
  refine z_callV M.1 (av := [.inl s3, .inl s2, .inl s1, .inl s0]) (st := []) (a := 110) (ci := 13) (by decide +kernel) (c_MW_link_110 T' G' S n s3 s2 s1 s0 hs.1) M.2.1 zl_MW_54 zv_MW_link rfl rfl rfl ⟨by decide, by decide, by decide, by decide⟩ rfl (Nat.le_of_ble_eq_true rfl) (fun v w' hv => ?_)
  replace hs := hs.2
  obtain ⟨S170, hF170⟩ : ∃ y, F_MW_link 110 S s3 s2 s1 s0 = y := ⟨_, rfl⟩
  rw [hF170] at K hv
  try dsimp only [z_let] at K
  obtain ⟨rfl, rfl⟩ := hv
  show z_G X zm_MW_does (173, [], [], zW T' G' S170 n, 0, 0)
  exact z_vret M (by decide +kernel) rfl (by decide) (by decide) (hQ _ K)
def F_MW_does (w : Nat) (S : (Nat → Nat → Int32)) (p1 : Int32) (p2 : Int32) (p3 : Int32) (p4 : Int32) (p5 : Int32) : (Nat → Nat → Int32) := (if p1 = 0 then (z_uS S (w + 11) (((3 : Int32) * p2) + p3).toNatClampNeg p5) else (if p1 = 1 then (z_let (F_MW_begins w S p2 p3 p5) (fun S29 => S29)) else (if p1 = 2 then (z_uS S (w + 3) (p2).toNatClampNeg p5) else (if p1 = 3 then (z_uS S (w + 4) (((3 : Int32) * p2) + p3).toNatClampNeg p5) else (if p1 = 4 then (z_uS S (w + 5) (p2).toNatClampNeg p5) else (if p1 = 5 then (z_uS S (w + 6) (p2).toNatClampNeg p5) else (if p1 = 6 then (z_uS S (w + 7) (p2).toNatClampNeg p5) else (if p1 = 7 then (z_uS S (w + 8) (p2).toNatClampNeg p5) else (if p1 = 8 then (z_uS S (w + 1) (p2).toNatClampNeg p5) else (if p5 = 1 then (F_MW_does_j170 w S 1 p4 p2 p3) else (F_MW_does_j170 w S 0 p4 p2 p3)))))))))))
def Sf_MW_does (w : Nat) (S : (Nat → Nat → Int32)) (p1 : Int32) (p2 : Int32) (p3 : Int32) (p4 : Int32) (p5 : Int32) : Prop := (if p1 = 0 then ((vp_in (((3 : Int32) * p2) + p3) 24) ∧ True) else (if p1 = 1 then (Sf_MW_begins w S p2 p3 p5 ∧ True) else (if p1 = 2 then ((vp_in p2 30) ∧ True) else (if p1 = 3 then ((vp_in (((3 : Int32) * p2) + p3) 90) ∧ True) else (if p1 = 4 then ((vp_in p2 30) ∧ True) else (if p1 = 5 then ((vp_in p2 30) ∧ True) else (if p1 = 6 then ((vp_in p2 30) ∧ True) else (if p1 = 7 then ((vp_in p2 30) ∧ True) else (if p1 = 8 then ((vp_in p2 30) ∧ True) else (if p5 = 1 then (Sf_MW_does_j170 w S 1 p4 p2 p3) else (Sf_MW_does_j170 w S 0 p4 p2 p3)))))))))))
theorem c_MW_does_86 (T' : Nat → Nat × Nat) (G' : Nat → Nat → Option Nat) (S : (Nat → Nat → Int32)) (n : Nat) (p1 : Int32) (p2 : Int32) (p3 : Int32) (p4 : Int32) (p5 : Int32) (hs : Sf_MW_does 86 S p1 p2 p3 p4 p5) : z_Run rm_MW_does zm_MW_does [z_r 86, .inl p1, .inl p2, .inl p3, .inl p4, .inl p5] (zW T' G' S n) (zq none (zW T' G' (F_MW_does 86 S p1 p2 p3 p4 p5) n)) := by
  refine z_body (by decide) zf_MW_ok (Nat.le_of_ble_eq_true rfl) (fun X M => ?_)
  obtain ⟨Q, hQ, K⟩ : ∃ Q : (Nat → Nat → Int32) → Prop, (∀ S', Q S' → zq none (zW T' G' (F_MW_does 86 S p1 p2 p3 p4 p5) n) none (zW T' G' S' n)) ∧ Q (F_MW_does 86 S p1 p2 p3 p4 p5) := ⟨fun o => F_MW_does 86 S p1 p2 p3 p4 p5 = o, fun S' h => ⟨rfl, by rw [h]⟩, rfl⟩
  show z_G X zm_MW_does (0, [(0, z_r 86), (1, .inl p1), (2, .inl p2), (3, .inl p3), (4, .inl p4), (5, .inl p5)], [], zW T' G' S n, 0, 0)
  unfold F_MW_does at K
  unfold Sf_MW_does at hs
  try simp only [Nat.reduceAdd] at K hs
  refine z_go2 M.1 0 [(.iload_n 1, 1)] (1, [(0, z_r 86), (1, .inl p1), (2, .inl p2), (3, .inl p3), (4, .inl p4), (5, .inl p5)], [.inl p1], zW T' G' S n, 0, 0) (by decide +kernel) rfl ⟨trivial, trivial⟩ ?_
  refine z_if_ne 19 M.1 (off := 18) (by decide +kernel) (by decide) (fun c1 => ?_) (fun c1 => ?_)
  · rw [if_neg c1] at K hs
    refine z_go2 M.1 19 [(.iload_n 1, 1), (.iconst 1, 1)] (21, [(0, z_r 86), (1, .inl p1), (2, .inl p2), (3, .inl p3), (4, .inl p4), (5, .inl p5)], [.inl 1, .inl p1], zW T' G' S n, 0, 0) (by decide +kernel) rfl ⟨trivial, trivial, trivial⟩ ?_
    refine z_icmp_ne 35 M.1 (off := 14) (by decide +kernel) (by decide) (fun c21 => ?_) (fun c21 => ?_)
    · rw [if_neg c21] at K hs
      refine z_go2 M.1 35 [(.iload_n 1, 1), (.iconst 2, 1)] (37, [(0, z_r 86), (1, .inl p1), (2, .inl p2), (3, .inl p3), (4, .inl p4), (5, .inl p5)], [.inl 2, .inl p1], zW T' G' S n, 0, 0) (by decide +kernel) rfl ⟨trivial, trivial, trivial⟩ ?_
      refine z_icmp_ne 51 M.1 (off := 14) (by decide +kernel) (by decide) (fun c37 => ?_) (fun c37 => ?_)
      · rw [if_neg c37] at K hs
        refine z_go2 M.1 51 [(.iload_n 1, 1), (.iconst 3, 1)] (53, [(0, z_r 86), (1, .inl p1), (2, .inl p2), (3, .inl p3), (4, .inl p4), (5, .inl p5)], [.inl 3, .inl p1], zW T' G' S n, 0, 0) (by decide +kernel) rfl ⟨trivial, trivial, trivial⟩ ?_
        refine z_icmp_ne 71 M.1 (off := 18) (by decide +kernel) (by decide) (fun c53 => ?_) (fun c53 => ?_)
        · rw [if_neg c53] at K hs
          refine z_go2 M.1 71 [(.iload_n 1, 1), (.iconst 4, 1)] (73, [(0, z_r 86), (1, .inl p1), (2, .inl p2), (3, .inl p3), (4, .inl p4), (5, .inl p5)], [.inl 4, .inl p1], zW T' G' S n, 0, 0) (by decide +kernel) rfl ⟨trivial, trivial, trivial⟩ ?_
          refine z_icmp_ne 87 M.1 (off := 14) (by decide +kernel) (by decide) (fun c73 => ?_) (fun c73 => ?_)
          · rw [if_neg c73] at K hs
            refine z_go2 M.1 87 [(.iload_n 1, 1), (.iconst 5, 1)] (89, [(0, z_r 86), (1, .inl p1), (2, .inl p2), (3, .inl p3), (4, .inl p4), (5, .inl p5)], [.inl 5, .inl p1], zW T' G' S n, 0, 0) (by decide +kernel) rfl ⟨trivial, trivial, trivial⟩ ?_
            refine z_icmp_ne 103 M.1 (off := 14) (by decide +kernel) (by decide) (fun c89 => ?_) (fun c89 => ?_)
            · rw [if_neg c89] at K hs
              refine z_go2 M.1 103 [(.iload_n 1, 1), (.bipush 6, 2)] (106, [(0, z_r 86), (1, .inl p1), (2, .inl p2), (3, .inl p3), (4, .inl p4), (5, .inl p5)], [.inl 6, .inl p1], zW T' G' S n, 0, 0) (by decide +kernel) rfl ⟨trivial, trivial, trivial⟩ ?_
              refine z_icmp_ne 120 M.1 (off := 14) (by decide +kernel) (by decide) (fun c106 => ?_) (fun c106 => ?_)
              · rw [if_neg c106] at K hs
                refine z_go2 M.1 120 [(.iload_n 1, 1), (.bipush 7, 2)] (123, [(0, z_r 86), (1, .inl p1), (2, .inl p2), (3, .inl p3), (4, .inl p4), (5, .inl p5)], [.inl 7, .inl p1], zW T' G' S n, 0, 0) (by decide +kernel) rfl ⟨trivial, trivial, trivial⟩ ?_
                refine z_icmp_ne 137 M.1 (off := 14) (by decide +kernel) (by decide) (fun c123 => ?_) (fun c123 => ?_)
                · rw [if_neg c123] at K hs
                  refine z_go2 M.1 137 [(.iload_n 1, 1), (.bipush 8, 2)] (140, [(0, z_r 86), (1, .inl p1), (2, .inl p2), (3, .inl p3), (4, .inl p4), (5, .inl p5)], [.inl 8, .inl p1], zW T' G' S n, 0, 0) (by decide +kernel) rfl ⟨trivial, trivial, trivial⟩ ?_
                  refine z_icmp_ne 154 M.1 (off := 14) (by decide +kernel) (by decide) (fun c140 => ?_) (fun c140 => ?_)
                  · rw [if_neg c140] at K hs
                    refine z_go2 M.1 154 [(.aload_n 0, 1), (.iload_n 3, 1), (.iload_n 2, 1), (.iload 4, 2), (.iload 5, 2), (.iconst 1, 1)] (162, [(0, z_r 86), (1, .inl p1), (2, .inl p2), (3, .inl p3), (4, .inl p4), (5, .inl p5)], [.inl 1, .inl p5, .inl p4, .inl p2, .inl p3, z_r 86], zW T' G' S n, 0, 0) (by decide +kernel) rfl ⟨trivial, trivial, trivial, trivial, trivial, trivial, trivial⟩ ?_
                    refine z_icmp_ne 169 M.1 (off := 7) (by decide +kernel) (by decide) (fun c162 => ?_) (fun c162 => ?_)
                    · rw [if_neg c162] at K hs
                      refine z_go2 M.1 169 [(.iconst 0, 1)] (170, [(0, z_r 86), (1, .inl p1), (2, .inl p2), (3, .inl p3), (4, .inl p4), (5, .inl p5)], [.inl 0, .inl p4, .inl p2, .inl p3, z_r 86], zW T' G' S n, 0, 0) (by decide +kernel) rfl ⟨trivial, trivial⟩ ?_
                      exact z_lvs (lv' := []) [] rfl (t_MW_does_j170_86 M S 0 p4 p2 p3 hQ K hs)
                    · rw [if_pos c162] at K hs
                      refine z_go2 M.1 165 [(.iconst 1, 1), (.goto 4, 3)] (170, [(0, z_r 86), (1, .inl p1), (2, .inl p2), (3, .inl p3), (4, .inl p4), (5, .inl p5)], [.inl 1, .inl p4, .inl p2, .inl p3, z_r 86], zW T' G' S n, 0, 0) (by decide +kernel) rfl ⟨trivial, trivial, trivial⟩ ?_
                      exact z_lvs (lv' := []) [] rfl (t_MW_does_j170_86 M S 1 p4 p2 p3 hQ K hs)
                  · rw [if_pos c140] at K hs
                    refine z_go2 M.1 143 [(.aload_n 0, 1), (.getfield 9, 3), (.iload_n 2, 1), (.iload 5, 2), (.iastore, 1), (.goto 22, 3)] (173, [(0, z_r 86), (1, .inl p1), (2, .inl p2), (3, .inl p3), (4, .inl p4), (5, .inl p5)], [], zW T' G' (z_uS S 87 (p2).toNatClampNeg p5) n, 0, 0) (by decide +kernel) rfl ⟨trivial, rfl, trivial, trivial, ⟨rfl, hs.1⟩, trivial, trivial⟩ ?_
                    replace hs := hs.2
                    exact z_vret M (by decide +kernel) rfl (by decide) (by decide) (hQ _ K)
                · rw [if_pos c123] at K hs
                  refine z_go2 M.1 126 [(.aload_n 0, 1), (.getfield 33, 3), (.iload_n 2, 1), (.iload 5, 2), (.iastore, 1), (.goto 39, 3)] (173, [(0, z_r 86), (1, .inl p1), (2, .inl p2), (3, .inl p3), (4, .inl p4), (5, .inl p5)], [], zW T' G' (z_uS S 94 (p2).toNatClampNeg p5) n, 0, 0) (by decide +kernel) rfl ⟨trivial, rfl, trivial, trivial, ⟨rfl, hs.1⟩, trivial, trivial⟩ ?_
                  replace hs := hs.2
                  exact z_vret M (by decide +kernel) rfl (by decide) (by decide) (hQ _ K)
              · rw [if_pos c106] at K hs
                refine z_go2 M.1 109 [(.aload_n 0, 1), (.getfield 30, 3), (.iload_n 2, 1), (.iload 5, 2), (.iastore, 1), (.goto 56, 3)] (173, [(0, z_r 86), (1, .inl p1), (2, .inl p2), (3, .inl p3), (4, .inl p4), (5, .inl p5)], [], zW T' G' (z_uS S 93 (p2).toNatClampNeg p5) n, 0, 0) (by decide +kernel) rfl ⟨trivial, rfl, trivial, trivial, ⟨rfl, hs.1⟩, trivial, trivial⟩ ?_
                replace hs := hs.2
                exact z_vret M (by decide +kernel) rfl (by decide) (by decide) (hQ _ K)
            · rw [if_pos c89] at K hs
              refine z_go2 M.1 92 [(.aload_n 0, 1), (.getfield 27, 3), (.iload_n 2, 1), (.iload 5, 2), (.iastore, 1), (.goto 73, 3)] (173, [(0, z_r 86), (1, .inl p1), (2, .inl p2), (3, .inl p3), (4, .inl p4), (5, .inl p5)], [], zW T' G' (z_uS S 92 (p2).toNatClampNeg p5) n, 0, 0) (by decide +kernel) rfl ⟨trivial, rfl, trivial, trivial, ⟨rfl, hs.1⟩, trivial, trivial⟩ ?_
              replace hs := hs.2
              exact z_vret M (by decide +kernel) rfl (by decide) (by decide) (hQ _ K)
          · rw [if_pos c73] at K hs
            refine z_go2 M.1 76 [(.aload_n 0, 1), (.getfield 24, 3), (.iload_n 2, 1), (.iload 5, 2), (.iastore, 1), (.goto 89, 3)] (173, [(0, z_r 86), (1, .inl p1), (2, .inl p2), (3, .inl p3), (4, .inl p4), (5, .inl p5)], [], zW T' G' (z_uS S 91 (p2).toNatClampNeg p5) n, 0, 0) (by decide +kernel) rfl ⟨trivial, rfl, trivial, trivial, ⟨rfl, hs.1⟩, trivial, trivial⟩ ?_
            replace hs := hs.2
            exact z_vret M (by decide +kernel) rfl (by decide) (by decide) (hQ _ K)
        · rw [if_pos c53] at K hs
          refine z_go2 M.1 56 [(.aload_n 0, 1), (.getfield 21, 3), (.iconst 3, 1), (.iload_n 2, 1), (.imul, 1), (.iload_n 3, 1), (.iadd, 1), (.iload 5, 2), (.iastore, 1), (.goto 105, 3)] (173, [(0, z_r 86), (1, .inl p1), (2, .inl p2), (3, .inl p3), (4, .inl p4), (5, .inl p5)], [], zW T' G' (z_uS S 90 (((3 : Int32) * p2) + p3).toNatClampNeg p5) n, 0, 0) (by decide +kernel) rfl ⟨trivial, rfl, trivial, trivial, trivial, trivial, trivial, trivial, ⟨rfl, hs.1⟩, trivial, trivial⟩ ?_
          replace hs := hs.2
          exact z_vret M (by decide +kernel) rfl (by decide) (by decide) (hQ _ K)
      · rw [if_pos c37] at K hs
        refine z_go2 M.1 40 [(.aload_n 0, 1), (.getfield 18, 3), (.iload_n 2, 1), (.iload 5, 2), (.iastore, 1), (.goto 125, 3)] (173, [(0, z_r 86), (1, .inl p1), (2, .inl p2), (3, .inl p3), (4, .inl p4), (5, .inl p5)], [], zW T' G' (z_uS S 89 (p2).toNatClampNeg p5) n, 0, 0) (by decide +kernel) rfl ⟨trivial, rfl, trivial, trivial, ⟨rfl, hs.1⟩, trivial, trivial⟩ ?_
        replace hs := hs.2
        exact z_vret M (by decide +kernel) rfl (by decide) (by decide) (hQ _ K)
    · rw [if_pos c21] at K hs
      refine z_go2 M.1 24 [(.aload_n 0, 1), (.iload_n 2, 1), (.iload_n 3, 1), (.iload 5, 2)] (29, [(0, z_r 86), (1, .inl p1), (2, .inl p2), (3, .inl p3), (4, .inl p4), (5, .inl p5)], [.inl p5, .inl p3, .inl p2, z_r 86], zW T' G' S n, 0, 0) (by decide +kernel) rfl ⟨trivial, trivial, trivial, trivial, trivial⟩ ?_
      refine z_callV M.1 (av := [.inl p2, .inl p3, .inl p5]) (st := []) (a := 86) (ci := 13) (by decide +kernel) (c_MW_begins_86 T' G' S n p2 p3 p5 hs.1) M.2.1 zl_MW_50 zv_MW_begins rfl rfl rfl ⟨by decide, by decide, by decide, by decide⟩ rfl (Nat.le_of_ble_eq_true rfl) (fun v w' hv => ?_)
      replace hs := hs.2
      obtain ⟨S29, hF29⟩ : ∃ y, F_MW_begins 86 S p2 p3 p5 = y := ⟨_, rfl⟩
      rw [hF29] at K hv
      try dsimp only [z_let] at K
      obtain ⟨rfl, rfl⟩ := hv
      show z_G X zm_MW_does (32, [(0, z_r 86), (1, .inl p1), (2, .inl p2), (3, .inl p3), (4, .inl p4), (5, .inl p5)], [], zW T' G' S29 n, 0, 0)
      refine z_go2 M.1 32 [(.goto 141, 3)] (173, [(0, z_r 86), (1, .inl p1), (2, .inl p2), (3, .inl p3), (4, .inl p4), (5, .inl p5)], [], zW T' G' S29 n, 0, 0) (by decide +kernel) rfl ⟨trivial, trivial⟩ ?_
      exact z_vret M (by decide +kernel) rfl (by decide) (by decide) (hQ _ K)
  · rw [if_pos c1] at K hs
    refine z_go2 M.1 4 [(.aload_n 0, 1), (.getfield 43, 3), (.iconst 3, 1), (.iload_n 2, 1), (.imul, 1), (.iload_n 3, 1), (.iadd, 1), (.iload 5, 2), (.iastore, 1), (.goto 157, 3)] (173, [(0, z_r 86), (1, .inl p1), (2, .inl p2), (3, .inl p3), (4, .inl p4), (5, .inl p5)], [], zW T' G' (z_uS S 97 (((3 : Int32) * p2) + p3).toNatClampNeg p5) n, 0, 0) (by decide +kernel) rfl ⟨trivial, rfl, trivial, trivial, trivial, trivial, trivial, trivial, ⟨rfl, hs.1⟩, trivial, trivial⟩ ?_
    replace hs := hs.2
    exact z_vret M (by decide +kernel) rfl (by decide) (by decide) (hQ _ K)
theorem c_MW_does_98 (T' : Nat → Nat × Nat) (G' : Nat → Nat → Option Nat) (S : (Nat → Nat → Int32)) (n : Nat) (p1 : Int32) (p2 : Int32) (p3 : Int32) (p4 : Int32) (p5 : Int32) (hs : Sf_MW_does 98 S p1 p2 p3 p4 p5) : z_Run rm_MW_does zm_MW_does [z_r 98, .inl p1, .inl p2, .inl p3, .inl p4, .inl p5] (zW T' G' S n) (zq none (zW T' G' (F_MW_does 98 S p1 p2 p3 p4 p5) n)) := by
  refine z_body (by decide) zf_MW_ok (Nat.le_of_ble_eq_true rfl) (fun X M => ?_)
  obtain ⟨Q, hQ, K⟩ : ∃ Q : (Nat → Nat → Int32) → Prop, (∀ S', Q S' → zq none (zW T' G' (F_MW_does 98 S p1 p2 p3 p4 p5) n) none (zW T' G' S' n)) ∧ Q (F_MW_does 98 S p1 p2 p3 p4 p5) := ⟨fun o => F_MW_does 98 S p1 p2 p3 p4 p5 = o, fun S' h => ⟨rfl, by rw [h]⟩, rfl⟩
  show z_G X zm_MW_does (0, [(0, z_r 98), (1, .inl p1), (2, .inl p2), (3, .inl p3), (4, .inl p4), (5, .inl p5)], [], zW T' G' S n, 0, 0)
  unfold F_MW_does at K
  unfold Sf_MW_does at hs
  try simp only [Nat.reduceAdd] at K hs
  refine z_go2 M.1 0 [(.iload_n 1, 1)] (1, [(0, z_r 98), (1, .inl p1), (2, .inl p2), (3, .inl p3), (4, .inl p4), (5, .inl p5)], [.inl p1], zW T' G' S n, 0, 0) (by decide +kernel) rfl ⟨trivial, trivial⟩ ?_
  refine z_if_ne 19 M.1 (off := 18) (by decide +kernel) (by decide) (fun c1 => ?_) (fun c1 => ?_)
  · rw [if_neg c1] at K hs
    refine z_go2 M.1 19 [(.iload_n 1, 1), (.iconst 1, 1)] (21, [(0, z_r 98), (1, .inl p1), (2, .inl p2), (3, .inl p3), (4, .inl p4), (5, .inl p5)], [.inl 1, .inl p1], zW T' G' S n, 0, 0) (by decide +kernel) rfl ⟨trivial, trivial, trivial⟩ ?_
    refine z_icmp_ne 35 M.1 (off := 14) (by decide +kernel) (by decide) (fun c21 => ?_) (fun c21 => ?_)
    · rw [if_neg c21] at K hs
      refine z_go2 M.1 35 [(.iload_n 1, 1), (.iconst 2, 1)] (37, [(0, z_r 98), (1, .inl p1), (2, .inl p2), (3, .inl p3), (4, .inl p4), (5, .inl p5)], [.inl 2, .inl p1], zW T' G' S n, 0, 0) (by decide +kernel) rfl ⟨trivial, trivial, trivial⟩ ?_
      refine z_icmp_ne 51 M.1 (off := 14) (by decide +kernel) (by decide) (fun c37 => ?_) (fun c37 => ?_)
      · rw [if_neg c37] at K hs
        refine z_go2 M.1 51 [(.iload_n 1, 1), (.iconst 3, 1)] (53, [(0, z_r 98), (1, .inl p1), (2, .inl p2), (3, .inl p3), (4, .inl p4), (5, .inl p5)], [.inl 3, .inl p1], zW T' G' S n, 0, 0) (by decide +kernel) rfl ⟨trivial, trivial, trivial⟩ ?_
        refine z_icmp_ne 71 M.1 (off := 18) (by decide +kernel) (by decide) (fun c53 => ?_) (fun c53 => ?_)
        · rw [if_neg c53] at K hs
          refine z_go2 M.1 71 [(.iload_n 1, 1), (.iconst 4, 1)] (73, [(0, z_r 98), (1, .inl p1), (2, .inl p2), (3, .inl p3), (4, .inl p4), (5, .inl p5)], [.inl 4, .inl p1], zW T' G' S n, 0, 0) (by decide +kernel) rfl ⟨trivial, trivial, trivial⟩ ?_
          refine z_icmp_ne 87 M.1 (off := 14) (by decide +kernel) (by decide) (fun c73 => ?_) (fun c73 => ?_)
          · rw [if_neg c73] at K hs
            refine z_go2 M.1 87 [(.iload_n 1, 1), (.iconst 5, 1)] (89, [(0, z_r 98), (1, .inl p1), (2, .inl p2), (3, .inl p3), (4, .inl p4), (5, .inl p5)], [.inl 5, .inl p1], zW T' G' S n, 0, 0) (by decide +kernel) rfl ⟨trivial, trivial, trivial⟩ ?_
            refine z_icmp_ne 103 M.1 (off := 14) (by decide +kernel) (by decide) (fun c89 => ?_) (fun c89 => ?_)
            · rw [if_neg c89] at K hs
              refine z_go2 M.1 103 [(.iload_n 1, 1), (.bipush 6, 2)] (106, [(0, z_r 98), (1, .inl p1), (2, .inl p2), (3, .inl p3), (4, .inl p4), (5, .inl p5)], [.inl 6, .inl p1], zW T' G' S n, 0, 0) (by decide +kernel) rfl ⟨trivial, trivial, trivial⟩ ?_
              refine z_icmp_ne 120 M.1 (off := 14) (by decide +kernel) (by decide) (fun c106 => ?_) (fun c106 => ?_)
              · rw [if_neg c106] at K hs
                refine z_go2 M.1 120 [(.iload_n 1, 1), (.bipush 7, 2)] (123, [(0, z_r 98), (1, .inl p1), (2, .inl p2), (3, .inl p3), (4, .inl p4), (5, .inl p5)], [.inl 7, .inl p1], zW T' G' S n, 0, 0) (by decide +kernel) rfl ⟨trivial, trivial, trivial⟩ ?_
                refine z_icmp_ne 137 M.1 (off := 14) (by decide +kernel) (by decide) (fun c123 => ?_) (fun c123 => ?_)
                · rw [if_neg c123] at K hs
                  refine z_go2 M.1 137 [(.iload_n 1, 1), (.bipush 8, 2)] (140, [(0, z_r 98), (1, .inl p1), (2, .inl p2), (3, .inl p3), (4, .inl p4), (5, .inl p5)], [.inl 8, .inl p1], zW T' G' S n, 0, 0) (by decide +kernel) rfl ⟨trivial, trivial, trivial⟩ ?_
                  refine z_icmp_ne 154 M.1 (off := 14) (by decide +kernel) (by decide) (fun c140 => ?_) (fun c140 => ?_)
                  · rw [if_neg c140] at K hs
                    refine z_go2 M.1 154 [(.aload_n 0, 1), (.iload_n 3, 1), (.iload_n 2, 1), (.iload 4, 2), (.iload 5, 2), (.iconst 1, 1)] (162, [(0, z_r 98), (1, .inl p1), (2, .inl p2), (3, .inl p3), (4, .inl p4), (5, .inl p5)], [.inl 1, .inl p5, .inl p4, .inl p2, .inl p3, z_r 98], zW T' G' S n, 0, 0) (by decide +kernel) rfl ⟨trivial, trivial, trivial, trivial, trivial, trivial, trivial⟩ ?_
                    refine z_icmp_ne 169 M.1 (off := 7) (by decide +kernel) (by decide) (fun c162 => ?_) (fun c162 => ?_)
                    · rw [if_neg c162] at K hs
                      refine z_go2 M.1 169 [(.iconst 0, 1)] (170, [(0, z_r 98), (1, .inl p1), (2, .inl p2), (3, .inl p3), (4, .inl p4), (5, .inl p5)], [.inl 0, .inl p4, .inl p2, .inl p3, z_r 98], zW T' G' S n, 0, 0) (by decide +kernel) rfl ⟨trivial, trivial⟩ ?_
                      exact z_lvs (lv' := []) [] rfl (t_MW_does_j170_98 M S 0 p4 p2 p3 hQ K hs)
                    · rw [if_pos c162] at K hs
                      refine z_go2 M.1 165 [(.iconst 1, 1), (.goto 4, 3)] (170, [(0, z_r 98), (1, .inl p1), (2, .inl p2), (3, .inl p3), (4, .inl p4), (5, .inl p5)], [.inl 1, .inl p4, .inl p2, .inl p3, z_r 98], zW T' G' S n, 0, 0) (by decide +kernel) rfl ⟨trivial, trivial, trivial⟩ ?_
                      exact z_lvs (lv' := []) [] rfl (t_MW_does_j170_98 M S 1 p4 p2 p3 hQ K hs)
                  · rw [if_pos c140] at K hs
                    refine z_go2 M.1 143 [(.aload_n 0, 1), (.getfield 9, 3), (.iload_n 2, 1), (.iload 5, 2), (.iastore, 1), (.goto 22, 3)] (173, [(0, z_r 98), (1, .inl p1), (2, .inl p2), (3, .inl p3), (4, .inl p4), (5, .inl p5)], [], zW T' G' (z_uS S 99 (p2).toNatClampNeg p5) n, 0, 0) (by decide +kernel) rfl ⟨trivial, rfl, trivial, trivial, ⟨rfl, hs.1⟩, trivial, trivial⟩ ?_
                    replace hs := hs.2
                    exact z_vret M (by decide +kernel) rfl (by decide) (by decide) (hQ _ K)
                · rw [if_pos c123] at K hs
                  refine z_go2 M.1 126 [(.aload_n 0, 1), (.getfield 33, 3), (.iload_n 2, 1), (.iload 5, 2), (.iastore, 1), (.goto 39, 3)] (173, [(0, z_r 98), (1, .inl p1), (2, .inl p2), (3, .inl p3), (4, .inl p4), (5, .inl p5)], [], zW T' G' (z_uS S 106 (p2).toNatClampNeg p5) n, 0, 0) (by decide +kernel) rfl ⟨trivial, rfl, trivial, trivial, ⟨rfl, hs.1⟩, trivial, trivial⟩ ?_
                  replace hs := hs.2
                  exact z_vret M (by decide +kernel) rfl (by decide) (by decide) (hQ _ K)
              · rw [if_pos c106] at K hs
                refine z_go2 M.1 109 [(.aload_n 0, 1), (.getfield 30, 3), (.iload_n 2, 1), (.iload 5, 2), (.iastore, 1), (.goto 56, 3)] (173, [(0, z_r 98), (1, .inl p1), (2, .inl p2), (3, .inl p3), (4, .inl p4), (5, .inl p5)], [], zW T' G' (z_uS S 105 (p2).toNatClampNeg p5) n, 0, 0) (by decide +kernel) rfl ⟨trivial, rfl, trivial, trivial, ⟨rfl, hs.1⟩, trivial, trivial⟩ ?_
                replace hs := hs.2
                exact z_vret M (by decide +kernel) rfl (by decide) (by decide) (hQ _ K)
            · rw [if_pos c89] at K hs
              refine z_go2 M.1 92 [(.aload_n 0, 1), (.getfield 27, 3), (.iload_n 2, 1), (.iload 5, 2), (.iastore, 1), (.goto 73, 3)] (173, [(0, z_r 98), (1, .inl p1), (2, .inl p2), (3, .inl p3), (4, .inl p4), (5, .inl p5)], [], zW T' G' (z_uS S 104 (p2).toNatClampNeg p5) n, 0, 0) (by decide +kernel) rfl ⟨trivial, rfl, trivial, trivial, ⟨rfl, hs.1⟩, trivial, trivial⟩ ?_
              replace hs := hs.2
              exact z_vret M (by decide +kernel) rfl (by decide) (by decide) (hQ _ K)
          · rw [if_pos c73] at K hs
            refine z_go2 M.1 76 [(.aload_n 0, 1), (.getfield 24, 3), (.iload_n 2, 1), (.iload 5, 2), (.iastore, 1), (.goto 89, 3)] (173, [(0, z_r 98), (1, .inl p1), (2, .inl p2), (3, .inl p3), (4, .inl p4), (5, .inl p5)], [], zW T' G' (z_uS S 103 (p2).toNatClampNeg p5) n, 0, 0) (by decide +kernel) rfl ⟨trivial, rfl, trivial, trivial, ⟨rfl, hs.1⟩, trivial, trivial⟩ ?_
            replace hs := hs.2
            exact z_vret M (by decide +kernel) rfl (by decide) (by decide) (hQ _ K)
        · rw [if_pos c53] at K hs
          refine z_go2 M.1 56 [(.aload_n 0, 1), (.getfield 21, 3), (.iconst 3, 1), (.iload_n 2, 1), (.imul, 1), (.iload_n 3, 1), (.iadd, 1), (.iload 5, 2), (.iastore, 1), (.goto 105, 3)] (173, [(0, z_r 98), (1, .inl p1), (2, .inl p2), (3, .inl p3), (4, .inl p4), (5, .inl p5)], [], zW T' G' (z_uS S 102 (((3 : Int32) * p2) + p3).toNatClampNeg p5) n, 0, 0) (by decide +kernel) rfl ⟨trivial, rfl, trivial, trivial, trivial, trivial, trivial, trivial, ⟨rfl, hs.1⟩, trivial, trivial⟩ ?_
          replace hs := hs.2
          exact z_vret M (by decide +kernel) rfl (by decide) (by decide) (hQ _ K)
      · rw [if_pos c37] at K hs
        refine z_go2 M.1 40 [(.aload_n 0, 1), (.getfield 18, 3), (.iload_n 2, 1), (.iload 5, 2), (.iastore, 1), (.goto 125, 3)] (173, [(0, z_r 98), (1, .inl p1), (2, .inl p2), (3, .inl p3), (4, .inl p4), (5, .inl p5)], [], zW T' G' (z_uS S 101 (p2).toNatClampNeg p5) n, 0, 0) (by decide +kernel) rfl ⟨trivial, rfl, trivial, trivial, ⟨rfl, hs.1⟩, trivial, trivial⟩ ?_
        replace hs := hs.2
        exact z_vret M (by decide +kernel) rfl (by decide) (by decide) (hQ _ K)
    · rw [if_pos c21] at K hs
      refine z_go2 M.1 24 [(.aload_n 0, 1), (.iload_n 2, 1), (.iload_n 3, 1), (.iload 5, 2)] (29, [(0, z_r 98), (1, .inl p1), (2, .inl p2), (3, .inl p3), (4, .inl p4), (5, .inl p5)], [.inl p5, .inl p3, .inl p2, z_r 98], zW T' G' S n, 0, 0) (by decide +kernel) rfl ⟨trivial, trivial, trivial, trivial, trivial⟩ ?_
      refine z_callV M.1 (av := [.inl p2, .inl p3, .inl p5]) (st := []) (a := 98) (ci := 13) (by decide +kernel) (c_MW_begins_98 T' G' S n p2 p3 p5 hs.1) M.2.1 zl_MW_50 zv_MW_begins rfl rfl rfl ⟨by decide, by decide, by decide, by decide⟩ rfl (Nat.le_of_ble_eq_true rfl) (fun v w' hv => ?_)
      replace hs := hs.2
      obtain ⟨S29, hF29⟩ : ∃ y, F_MW_begins 98 S p2 p3 p5 = y := ⟨_, rfl⟩
      rw [hF29] at K hv
      try dsimp only [z_let] at K
      obtain ⟨rfl, rfl⟩ := hv
      show z_G X zm_MW_does (32, [(0, z_r 98), (1, .inl p1), (2, .inl p2), (3, .inl p3), (4, .inl p4), (5, .inl p5)], [], zW T' G' S29 n, 0, 0)
      refine z_go2 M.1 32 [(.goto 141, 3)] (173, [(0, z_r 98), (1, .inl p1), (2, .inl p2), (3, .inl p3), (4, .inl p4), (5, .inl p5)], [], zW T' G' S29 n, 0, 0) (by decide +kernel) rfl ⟨trivial, trivial⟩ ?_
      exact z_vret M (by decide +kernel) rfl (by decide) (by decide) (hQ _ K)
  · rw [if_pos c1] at K hs
    refine z_go2 M.1 4 [(.aload_n 0, 1), (.getfield 43, 3), (.iconst 3, 1), (.iload_n 2, 1), (.imul, 1), (.iload_n 3, 1), (.iadd, 1), (.iload 5, 2), (.iastore, 1), (.goto 157, 3)] (173, [(0, z_r 98), (1, .inl p1), (2, .inl p2), (3, .inl p3), (4, .inl p4), (5, .inl p5)], [], zW T' G' (z_uS S 109 (((3 : Int32) * p2) + p3).toNatClampNeg p5) n, 0, 0) (by decide +kernel) rfl ⟨trivial, rfl, trivial, trivial, trivial, trivial, trivial, trivial, ⟨rfl, hs.1⟩, trivial, trivial⟩ ?_
    replace hs := hs.2
    exact z_vret M (by decide +kernel) rfl (by decide) (by decide) (hQ _ K)
theorem c_MW_does_110 (T' : Nat → Nat × Nat) (G' : Nat → Nat → Option Nat) (S : (Nat → Nat → Int32)) (n : Nat) (p1 : Int32) (p2 : Int32) (p3 : Int32) (p4 : Int32) (p5 : Int32) (hs : Sf_MW_does 110 S p1 p2 p3 p4 p5) : z_Run rm_MW_does zm_MW_does [z_r 110, .inl p1, .inl p2, .inl p3, .inl p4, .inl p5] (zW T' G' S n) (zq none (zW T' G' (F_MW_does 110 S p1 p2 p3 p4 p5) n)) := by
  refine z_body (by decide) zf_MW_ok (Nat.le_of_ble_eq_true rfl) (fun X M => ?_)
  obtain ⟨Q, hQ, K⟩ : ∃ Q : (Nat → Nat → Int32) → Prop, (∀ S', Q S' → zq none (zW T' G' (F_MW_does 110 S p1 p2 p3 p4 p5) n) none (zW T' G' S' n)) ∧ Q (F_MW_does 110 S p1 p2 p3 p4 p5) := ⟨fun o => F_MW_does 110 S p1 p2 p3 p4 p5 = o, fun S' h => ⟨rfl, by rw [h]⟩, rfl⟩
  show z_G X zm_MW_does (0, [(0, z_r 110), (1, .inl p1), (2, .inl p2), (3, .inl p3), (4, .inl p4), (5, .inl p5)], [], zW T' G' S n, 0, 0)
  unfold F_MW_does at K
  unfold Sf_MW_does at hs
  try simp only [Nat.reduceAdd] at K hs
  refine z_go2 M.1 0 [(.iload_n 1, 1)] (1, [(0, z_r 110), (1, .inl p1), (2, .inl p2), (3, .inl p3), (4, .inl p4), (5, .inl p5)], [.inl p1], zW T' G' S n, 0, 0) (by decide +kernel) rfl ⟨trivial, trivial⟩ ?_
  refine z_if_ne 19 M.1 (off := 18) (by decide +kernel) (by decide) (fun c1 => ?_) (fun c1 => ?_)
  · rw [if_neg c1] at K hs
    refine z_go2 M.1 19 [(.iload_n 1, 1), (.iconst 1, 1)] (21, [(0, z_r 110), (1, .inl p1), (2, .inl p2), (3, .inl p3), (4, .inl p4), (5, .inl p5)], [.inl 1, .inl p1], zW T' G' S n, 0, 0) (by decide +kernel) rfl ⟨trivial, trivial, trivial⟩ ?_
    refine z_icmp_ne 35 M.1 (off := 14) (by decide +kernel) (by decide) (fun c21 => ?_) (fun c21 => ?_)
    · rw [if_neg c21] at K hs
      refine z_go2 M.1 35 [(.iload_n 1, 1), (.iconst 2, 1)] (37, [(0, z_r 110), (1, .inl p1), (2, .inl p2), (3, .inl p3), (4, .inl p4), (5, .inl p5)], [.inl 2, .inl p1], zW T' G' S n, 0, 0) (by decide +kernel) rfl ⟨trivial, trivial, trivial⟩ ?_
      refine z_icmp_ne 51 M.1 (off := 14) (by decide +kernel) (by decide) (fun c37 => ?_) (fun c37 => ?_)
      · rw [if_neg c37] at K hs
        refine z_go2 M.1 51 [(.iload_n 1, 1), (.iconst 3, 1)] (53, [(0, z_r 110), (1, .inl p1), (2, .inl p2), (3, .inl p3), (4, .inl p4), (5, .inl p5)], [.inl 3, .inl p1], zW T' G' S n, 0, 0) (by decide +kernel) rfl ⟨trivial, trivial, trivial⟩ ?_
        refine z_icmp_ne 71 M.1 (off := 18) (by decide +kernel) (by decide) (fun c53 => ?_) (fun c53 => ?_)
        · rw [if_neg c53] at K hs
          refine z_go2 M.1 71 [(.iload_n 1, 1), (.iconst 4, 1)] (73, [(0, z_r 110), (1, .inl p1), (2, .inl p2), (3, .inl p3), (4, .inl p4), (5, .inl p5)], [.inl 4, .inl p1], zW T' G' S n, 0, 0) (by decide +kernel) rfl ⟨trivial, trivial, trivial⟩ ?_
          refine z_icmp_ne 87 M.1 (off := 14) (by decide +kernel) (by decide) (fun c73 => ?_) (fun c73 => ?_)
          · rw [if_neg c73] at K hs
            refine z_go2 M.1 87 [(.iload_n 1, 1), (.iconst 5, 1)] (89, [(0, z_r 110), (1, .inl p1), (2, .inl p2), (3, .inl p3), (4, .inl p4), (5, .inl p5)], [.inl 5, .inl p1], zW T' G' S n, 0, 0) (by decide +kernel) rfl ⟨trivial, trivial, trivial⟩ ?_
            refine z_icmp_ne 103 M.1 (off := 14) (by decide +kernel) (by decide) (fun c89 => ?_) (fun c89 => ?_)
            · rw [if_neg c89] at K hs
              refine z_go2 M.1 103 [(.iload_n 1, 1), (.bipush 6, 2)] (106, [(0, z_r 110), (1, .inl p1), (2, .inl p2), (3, .inl p3), (4, .inl p4), (5, .inl p5)], [.inl 6, .inl p1], zW T' G' S n, 0, 0) (by decide +kernel) rfl ⟨trivial, trivial, trivial⟩ ?_
              refine z_icmp_ne 120 M.1 (off := 14) (by decide +kernel) (by decide) (fun c106 => ?_) (fun c106 => ?_)
              · rw [if_neg c106] at K hs
                refine z_go2 M.1 120 [(.iload_n 1, 1), (.bipush 7, 2)] (123, [(0, z_r 110), (1, .inl p1), (2, .inl p2), (3, .inl p3), (4, .inl p4), (5, .inl p5)], [.inl 7, .inl p1], zW T' G' S n, 0, 0) (by decide +kernel) rfl ⟨trivial, trivial, trivial⟩ ?_
                refine z_icmp_ne 137 M.1 (off := 14) (by decide +kernel) (by decide) (fun c123 => ?_) (fun c123 => ?_)
                · rw [if_neg c123] at K hs
                  refine z_go2 M.1 137 [(.iload_n 1, 1), (.bipush 8, 2)] (140, [(0, z_r 110), (1, .inl p1), (2, .inl p2), (3, .inl p3), (4, .inl p4), (5, .inl p5)], [.inl 8, .inl p1], zW T' G' S n, 0, 0) (by decide +kernel) rfl ⟨trivial, trivial, trivial⟩ ?_
                  refine z_icmp_ne 154 M.1 (off := 14) (by decide +kernel) (by decide) (fun c140 => ?_) (fun c140 => ?_)
                  · rw [if_neg c140] at K hs
                    refine z_go2 M.1 154 [(.aload_n 0, 1), (.iload_n 3, 1), (.iload_n 2, 1), (.iload 4, 2), (.iload 5, 2), (.iconst 1, 1)] (162, [(0, z_r 110), (1, .inl p1), (2, .inl p2), (3, .inl p3), (4, .inl p4), (5, .inl p5)], [.inl 1, .inl p5, .inl p4, .inl p2, .inl p3, z_r 110], zW T' G' S n, 0, 0) (by decide +kernel) rfl ⟨trivial, trivial, trivial, trivial, trivial, trivial, trivial⟩ ?_
                    refine z_icmp_ne 169 M.1 (off := 7) (by decide +kernel) (by decide) (fun c162 => ?_) (fun c162 => ?_)
                    · rw [if_neg c162] at K hs
                      refine z_go2 M.1 169 [(.iconst 0, 1)] (170, [(0, z_r 110), (1, .inl p1), (2, .inl p2), (3, .inl p3), (4, .inl p4), (5, .inl p5)], [.inl 0, .inl p4, .inl p2, .inl p3, z_r 110], zW T' G' S n, 0, 0) (by decide +kernel) rfl ⟨trivial, trivial⟩ ?_
                      exact z_lvs (lv' := []) [] rfl (t_MW_does_j170_110 M S 0 p4 p2 p3 hQ K hs)
                    · rw [if_pos c162] at K hs
                      refine z_go2 M.1 165 [(.iconst 1, 1), (.goto 4, 3)] (170, [(0, z_r 110), (1, .inl p1), (2, .inl p2), (3, .inl p3), (4, .inl p4), (5, .inl p5)], [.inl 1, .inl p4, .inl p2, .inl p3, z_r 110], zW T' G' S n, 0, 0) (by decide +kernel) rfl ⟨trivial, trivial, trivial⟩ ?_
                      exact z_lvs (lv' := []) [] rfl (t_MW_does_j170_110 M S 1 p4 p2 p3 hQ K hs)
                  · rw [if_pos c140] at K hs
                    refine z_go2 M.1 143 [(.aload_n 0, 1), (.getfield 9, 3), (.iload_n 2, 1), (.iload 5, 2), (.iastore, 1), (.goto 22, 3)] (173, [(0, z_r 110), (1, .inl p1), (2, .inl p2), (3, .inl p3), (4, .inl p4), (5, .inl p5)], [], zW T' G' (z_uS S 111 (p2).toNatClampNeg p5) n, 0, 0) (by decide +kernel) rfl ⟨trivial, rfl, trivial, trivial, ⟨rfl, hs.1⟩, trivial, trivial⟩ ?_
                    replace hs := hs.2
                    exact z_vret M (by decide +kernel) rfl (by decide) (by decide) (hQ _ K)
                · rw [if_pos c123] at K hs
                  refine z_go2 M.1 126 [(.aload_n 0, 1), (.getfield 33, 3), (.iload_n 2, 1), (.iload 5, 2), (.iastore, 1), (.goto 39, 3)] (173, [(0, z_r 110), (1, .inl p1), (2, .inl p2), (3, .inl p3), (4, .inl p4), (5, .inl p5)], [], zW T' G' (z_uS S 118 (p2).toNatClampNeg p5) n, 0, 0) (by decide +kernel) rfl ⟨trivial, rfl, trivial, trivial, ⟨rfl, hs.1⟩, trivial, trivial⟩ ?_
                  replace hs := hs.2
                  exact z_vret M (by decide +kernel) rfl (by decide) (by decide) (hQ _ K)
              · rw [if_pos c106] at K hs
                refine z_go2 M.1 109 [(.aload_n 0, 1), (.getfield 30, 3), (.iload_n 2, 1), (.iload 5, 2), (.iastore, 1), (.goto 56, 3)] (173, [(0, z_r 110), (1, .inl p1), (2, .inl p2), (3, .inl p3), (4, .inl p4), (5, .inl p5)], [], zW T' G' (z_uS S 117 (p2).toNatClampNeg p5) n, 0, 0) (by decide +kernel) rfl ⟨trivial, rfl, trivial, trivial, ⟨rfl, hs.1⟩, trivial, trivial⟩ ?_
                replace hs := hs.2
                exact z_vret M (by decide +kernel) rfl (by decide) (by decide) (hQ _ K)
            · rw [if_pos c89] at K hs
              refine z_go2 M.1 92 [(.aload_n 0, 1), (.getfield 27, 3), (.iload_n 2, 1), (.iload 5, 2), (.iastore, 1), (.goto 73, 3)] (173, [(0, z_r 110), (1, .inl p1), (2, .inl p2), (3, .inl p3), (4, .inl p4), (5, .inl p5)], [], zW T' G' (z_uS S 116 (p2).toNatClampNeg p5) n, 0, 0) (by decide +kernel) rfl ⟨trivial, rfl, trivial, trivial, ⟨rfl, hs.1⟩, trivial, trivial⟩ ?_
              replace hs := hs.2
              exact z_vret M (by decide +kernel) rfl (by decide) (by decide) (hQ _ K)
          · rw [if_pos c73] at K hs
            refine z_go2 M.1 76 [(.aload_n 0, 1), (.getfield 24, 3), (.iload_n 2, 1), (.iload 5, 2), (.iastore, 1), (.goto 89, 3)] (173, [(0, z_r 110), (1, .inl p1), (2, .inl p2), (3, .inl p3), (4, .inl p4), (5, .inl p5)], [], zW T' G' (z_uS S 115 (p2).toNatClampNeg p5) n, 0, 0) (by decide +kernel) rfl ⟨trivial, rfl, trivial, trivial, ⟨rfl, hs.1⟩, trivial, trivial⟩ ?_
            replace hs := hs.2
            exact z_vret M (by decide +kernel) rfl (by decide) (by decide) (hQ _ K)
        · rw [if_pos c53] at K hs
          refine z_go2 M.1 56 [(.aload_n 0, 1), (.getfield 21, 3), (.iconst 3, 1), (.iload_n 2, 1), (.imul, 1), (.iload_n 3, 1), (.iadd, 1), (.iload 5, 2), (.iastore, 1), (.goto 105, 3)] (173, [(0, z_r 110), (1, .inl p1), (2, .inl p2), (3, .inl p3), (4, .inl p4), (5, .inl p5)], [], zW T' G' (z_uS S 114 (((3 : Int32) * p2) + p3).toNatClampNeg p5) n, 0, 0) (by decide +kernel) rfl ⟨trivial, rfl, trivial, trivial, trivial, trivial, trivial, trivial, ⟨rfl, hs.1⟩, trivial, trivial⟩ ?_
          replace hs := hs.2
          exact z_vret M (by decide +kernel) rfl (by decide) (by decide) (hQ _ K)
      · rw [if_pos c37] at K hs
        refine z_go2 M.1 40 [(.aload_n 0, 1), (.getfield 18, 3), (.iload_n 2, 1), (.iload 5, 2), (.iastore, 1), (.goto 125, 3)] (173, [(0, z_r 110), (1, .inl p1), (2, .inl p2), (3, .inl p3), (4, .inl p4), (5, .inl p5)], [], zW T' G' (z_uS S 113 (p2).toNatClampNeg p5) n, 0, 0) (by decide +kernel) rfl ⟨trivial, rfl, trivial, trivial, ⟨rfl, hs.1⟩, trivial, trivial⟩ ?_
        replace hs := hs.2
        exact z_vret M (by decide +kernel) rfl (by decide) (by decide) (hQ _ K)
    · rw [if_pos c21] at K hs
      refine z_go2 M.1 24 [(.aload_n 0, 1), (.iload_n 2, 1), (.iload_n 3, 1), (.iload 5, 2)] (29, [(0, z_r 110), (1, .inl p1), (2, .inl p2), (3, .inl p3), (4, .inl p4), (5, .inl p5)], [.inl p5, .inl p3, .inl p2, z_r 110], zW T' G' S n, 0, 0) (by decide +kernel) rfl ⟨trivial, trivial, trivial, trivial, trivial⟩ ?_
      refine z_callV M.1 (av := [.inl p2, .inl p3, .inl p5]) (st := []) (a := 110) (ci := 13) (by decide +kernel) (c_MW_begins_110 T' G' S n p2 p3 p5 hs.1) M.2.1 zl_MW_50 zv_MW_begins rfl rfl rfl ⟨by decide, by decide, by decide, by decide⟩ rfl (Nat.le_of_ble_eq_true rfl) (fun v w' hv => ?_)
      replace hs := hs.2
      obtain ⟨S29, hF29⟩ : ∃ y, F_MW_begins 110 S p2 p3 p5 = y := ⟨_, rfl⟩
      rw [hF29] at K hv
      try dsimp only [z_let] at K
      obtain ⟨rfl, rfl⟩ := hv
      show z_G X zm_MW_does (32, [(0, z_r 110), (1, .inl p1), (2, .inl p2), (3, .inl p3), (4, .inl p4), (5, .inl p5)], [], zW T' G' S29 n, 0, 0)
      refine z_go2 M.1 32 [(.goto 141, 3)] (173, [(0, z_r 110), (1, .inl p1), (2, .inl p2), (3, .inl p3), (4, .inl p4), (5, .inl p5)], [], zW T' G' S29 n, 0, 0) (by decide +kernel) rfl ⟨trivial, trivial⟩ ?_
      exact z_vret M (by decide +kernel) rfl (by decide) (by decide) (hQ _ K)
  · rw [if_pos c1] at K hs
    refine z_go2 M.1 4 [(.aload_n 0, 1), (.getfield 43, 3), (.iconst 3, 1), (.iload_n 2, 1), (.imul, 1), (.iload_n 3, 1), (.iadd, 1), (.iload 5, 2), (.iastore, 1), (.goto 157, 3)] (173, [(0, z_r 110), (1, .inl p1), (2, .inl p2), (3, .inl p3), (4, .inl p4), (5, .inl p5)], [], zW T' G' (z_uS S 121 (((3 : Int32) * p2) + p3).toNatClampNeg p5) n, 0, 0) (by decide +kernel) rfl ⟨trivial, rfl, trivial, trivial, trivial, trivial, trivial, trivial, ⟨rfl, hs.1⟩, trivial, trivial⟩ ?_
    replace hs := hs.2
    exact z_vret M (by decide +kernel) rfl (by decide) (by decide) (hQ _ K)

-- TrackHouseModel$World.empty
abbrev rm_MW_empty : Room := zr 0
def F_MW_empty_L7 (w : Nat) : Nat → (Nat → Nat → Int32) → Int32 → ((Nat → Nat → Int32))
  | 0, S, x1 => S
  | f + 1, S, x1 => (if (30 : Int32) ≤ x1 then S else ((F_MW_empty_L7 w f) (z_uS S (w + 9) (x1).toNatClampNeg (vp_nar .boolean 0)) (x1 + 1)))
def Sf_MW_empty_L7 (w : Nat) : Nat → (Nat → Nat → Int32) → Int32 → Prop
  | 0, _, _ => False
  | f + 1, S, x1 => (if (30 : Int32) ≤ x1 then True else ((vp_in x1 30) ∧ ((Sf_MW_empty_L7 w f) (z_uS S (w + 9) (x1).toNatClampNeg (vp_nar .boolean 0)) (x1 + 1))))
theorem t_MW_empty_L7_86 {X : z_X} {Post : Option z_V → z_W → Prop} (M : z_M X zm_MW_empty rm_MW_empty Post) {T' : Nat → Nat × Nat} {G' : Nat → Nat → Option Nat} {n : Nat} {Q : ((Nat → Nat → Int32)) → Prop}  (hE : ∀ (S' : (Nat → Nat → Int32)), Q S' → z_G X zm_MW_empty (26, [(0, z_r 86)], [], zW T' G' S' n, 0, 0)) (f : Nat) : ∀ (S : (Nat → Nat → Int32)) (x1 : Int32), Q (F_MW_empty_L7 86 f S x1) → Sf_MW_empty_L7 86 f S x1 → z_G X zm_MW_empty (7, [(0, z_r 86), (1, .inl x1)], [], zW T' G' S n, 0, 0) := by
  induction f with
  | zero => intro S x1 K hs; exact False.elim hs
  | succ f hC =>
    intro S x1 K hs
    rw [F_MW_empty_L7] at K
    rw [Sf_MW_empty_L7] at hs
    try simp only [Nat.reduceAdd] at K hs
    refine z_go2 M.1 7 [(.iload_n 1, 1), (.bipush 30, 2)] (10, [(0, z_r 86), (1, .inl x1)], [.inl 30, .inl x1], zW T' G' S n, 0, 0) (by decide +kernel) rfl ⟨trivial, trivial, trivial⟩ ?_
    refine z_icmp_ge 26 M.1 (off := 16) (by decide +kernel) (by decide) (fun c10 => ?_) (fun c10 => ?_)
    · rw [if_pos c10] at K hs
      exact z_lvs (lv' := [(0, z_r 86)]) [0] rfl (hE S K)
    · rw [if_neg c10] at K hs
      refine z_go2 M.1 13 [(.aload_n 0, 1), (.getfield 36, 3), (.iload_n 1, 1), (.iconst 0, 1), (.bastore, 1), (.iinc 1 1, 3), (.goto (-16), 3)] (7, [(1, .inl (x1 + 1)), (0, z_r 86)], [], zW T' G' (z_uS S 95 (x1).toNatClampNeg (vp_nar .boolean 0)) n, 0, 0) (by decide +kernel) rfl ⟨trivial, rfl, trivial, trivial, ⟨rfl, hs.1⟩, trivial, trivial, trivial⟩ ?_
      replace hs := hs.2
      exact z_lvs (lv' := [(0, z_r 86), (1, .inl (x1 + 1))]) [1, 0] rfl (hC (z_uS S 95 (x1).toNatClampNeg (vp_nar .boolean 0)) (x1 + 1) K hs)
theorem t_MW_empty_L7_98 {X : z_X} {Post : Option z_V → z_W → Prop} (M : z_M X zm_MW_empty rm_MW_empty Post) {T' : Nat → Nat × Nat} {G' : Nat → Nat → Option Nat} {n : Nat} {Q : ((Nat → Nat → Int32)) → Prop}  (hE : ∀ (S' : (Nat → Nat → Int32)), Q S' → z_G X zm_MW_empty (26, [(0, z_r 98)], [], zW T' G' S' n, 0, 0)) (f : Nat) : ∀ (S : (Nat → Nat → Int32)) (x1 : Int32), Q (F_MW_empty_L7 98 f S x1) → Sf_MW_empty_L7 98 f S x1 → z_G X zm_MW_empty (7, [(0, z_r 98), (1, .inl x1)], [], zW T' G' S n, 0, 0) := by
  induction f with
  | zero => intro S x1 K hs; exact False.elim hs
  | succ f hC =>
    intro S x1 K hs
    rw [F_MW_empty_L7] at K
    rw [Sf_MW_empty_L7] at hs
    try simp only [Nat.reduceAdd] at K hs
    refine z_go2 M.1 7 [(.iload_n 1, 1), (.bipush 30, 2)] (10, [(0, z_r 98), (1, .inl x1)], [.inl 30, .inl x1], zW T' G' S n, 0, 0) (by decide +kernel) rfl ⟨trivial, trivial, trivial⟩ ?_
    refine z_icmp_ge 26 M.1 (off := 16) (by decide +kernel) (by decide) (fun c10 => ?_) (fun c10 => ?_)
    · rw [if_pos c10] at K hs
      exact z_lvs (lv' := [(0, z_r 98)]) [0] rfl (hE S K)
    · rw [if_neg c10] at K hs
      refine z_go2 M.1 13 [(.aload_n 0, 1), (.getfield 36, 3), (.iload_n 1, 1), (.iconst 0, 1), (.bastore, 1), (.iinc 1 1, 3), (.goto (-16), 3)] (7, [(1, .inl (x1 + 1)), (0, z_r 98)], [], zW T' G' (z_uS S 107 (x1).toNatClampNeg (vp_nar .boolean 0)) n, 0, 0) (by decide +kernel) rfl ⟨trivial, rfl, trivial, trivial, ⟨rfl, hs.1⟩, trivial, trivial, trivial⟩ ?_
      replace hs := hs.2
      exact z_lvs (lv' := [(0, z_r 98), (1, .inl (x1 + 1))]) [1, 0] rfl (hC (z_uS S 107 (x1).toNatClampNeg (vp_nar .boolean 0)) (x1 + 1) K hs)
theorem t_MW_empty_L7_110 {X : z_X} {Post : Option z_V → z_W → Prop} (M : z_M X zm_MW_empty rm_MW_empty Post) {T' : Nat → Nat × Nat} {G' : Nat → Nat → Option Nat} {n : Nat} {Q : ((Nat → Nat → Int32)) → Prop}  (hE : ∀ (S' : (Nat → Nat → Int32)), Q S' → z_G X zm_MW_empty (26, [(0, z_r 110)], [], zW T' G' S' n, 0, 0)) (f : Nat) : ∀ (S : (Nat → Nat → Int32)) (x1 : Int32), Q (F_MW_empty_L7 110 f S x1) → Sf_MW_empty_L7 110 f S x1 → z_G X zm_MW_empty (7, [(0, z_r 110), (1, .inl x1)], [], zW T' G' S n, 0, 0) := by
  induction f with
  | zero => intro S x1 K hs; exact False.elim hs
  | succ f hC =>
    intro S x1 K hs
    rw [F_MW_empty_L7] at K
    rw [Sf_MW_empty_L7] at hs
    try simp only [Nat.reduceAdd] at K hs
    refine z_go2 M.1 7 [(.iload_n 1, 1), (.bipush 30, 2)] (10, [(0, z_r 110), (1, .inl x1)], [.inl 30, .inl x1], zW T' G' S n, 0, 0) (by decide +kernel) rfl ⟨trivial, trivial, trivial⟩ ?_
    refine z_icmp_ge 26 M.1 (off := 16) (by decide +kernel) (by decide) (fun c10 => ?_) (fun c10 => ?_)
    · rw [if_pos c10] at K hs
      exact z_lvs (lv' := [(0, z_r 110)]) [0] rfl (hE S K)
    · rw [if_neg c10] at K hs
      refine z_go2 M.1 13 [(.aload_n 0, 1), (.getfield 36, 3), (.iload_n 1, 1), (.iconst 0, 1), (.bastore, 1), (.iinc 1 1, 3), (.goto (-16), 3)] (7, [(1, .inl (x1 + 1)), (0, z_r 110)], [], zW T' G' (z_uS S 119 (x1).toNatClampNeg (vp_nar .boolean 0)) n, 0, 0) (by decide +kernel) rfl ⟨trivial, rfl, trivial, trivial, ⟨rfl, hs.1⟩, trivial, trivial, trivial⟩ ?_
      replace hs := hs.2
      exact z_lvs (lv' := [(0, z_r 110), (1, .inl (x1 + 1))]) [1, 0] rfl (hC (z_uS S 119 (x1).toNatClampNeg (vp_nar .boolean 0)) (x1 + 1) K hs)
def F_MW_empty_L28 (w : Nat) : Nat → (Nat → Nat → Int32) → Int32 → ((Nat → Nat → Int32))
  | 0, S, x1 => S
  | f + 1, S, x1 => (if (2700 : Int32) ≤ x1 then S else ((F_MW_empty_L28 w f) (z_uS S (w + 10) (x1).toNatClampNeg (vp_nar .boolean 0)) (x1 + 1)))
def Sf_MW_empty_L28 (w : Nat) : Nat → (Nat → Nat → Int32) → Int32 → Prop
  | 0, _, _ => False
  | f + 1, S, x1 => (if (2700 : Int32) ≤ x1 then True else ((vp_in x1 2700) ∧ ((Sf_MW_empty_L28 w f) (z_uS S (w + 10) (x1).toNatClampNeg (vp_nar .boolean 0)) (x1 + 1))))
theorem t_MW_empty_L28_86 {X : z_X} {Post : Option z_V → z_W → Prop} (M : z_M X zm_MW_empty rm_MW_empty Post) {T' : Nat → Nat × Nat} {G' : Nat → Nat → Option Nat} {n : Nat} {Q : ((Nat → Nat → Int32)) → Prop}  (hE : ∀ (S' : (Nat → Nat → Int32)), Q S' → z_G X zm_MW_empty (48, [(0, z_r 86)], [], zW T' G' S' n, 0, 0)) (f : Nat) : ∀ (S : (Nat → Nat → Int32)) (x1 : Int32), Q (F_MW_empty_L28 86 f S x1) → Sf_MW_empty_L28 86 f S x1 → z_G X zm_MW_empty (28, [(0, z_r 86), (1, .inl x1)], [], zW T' G' S n, 0, 0) := by
  induction f with
  | zero => intro S x1 K hs; exact False.elim hs
  | succ f hC =>
    intro S x1 K hs
    rw [F_MW_empty_L28] at K
    rw [Sf_MW_empty_L28] at hs
    try simp only [Nat.reduceAdd] at K hs
    refine z_go2 M.1 28 [(.iload_n 1, 1), (.sipush 2700, 3)] (32, [(0, z_r 86), (1, .inl x1)], [.inl 2700, .inl x1], zW T' G' S n, 0, 0) (by decide +kernel) rfl ⟨trivial, trivial, trivial⟩ ?_
    refine z_icmp_ge 48 M.1 (off := 16) (by decide +kernel) (by decide) (fun c32 => ?_) (fun c32 => ?_)
    · rw [if_pos c32] at K hs
      exact z_lvs (lv' := [(0, z_r 86)]) [0] rfl (hE S K)
    · rw [if_neg c32] at K hs
      refine z_go2 M.1 35 [(.aload_n 0, 1), (.getfield 40, 3), (.iload_n 1, 1), (.iconst 0, 1), (.bastore, 1), (.iinc 1 1, 3), (.goto (-17), 3)] (28, [(1, .inl (x1 + 1)), (0, z_r 86)], [], zW T' G' (z_uS S 96 (x1).toNatClampNeg (vp_nar .boolean 0)) n, 0, 0) (by decide +kernel) rfl ⟨trivial, rfl, trivial, trivial, ⟨rfl, hs.1⟩, trivial, trivial, trivial⟩ ?_
      replace hs := hs.2
      exact z_lvs (lv' := [(0, z_r 86), (1, .inl (x1 + 1))]) [1, 0] rfl (hC (z_uS S 96 (x1).toNatClampNeg (vp_nar .boolean 0)) (x1 + 1) K hs)
theorem t_MW_empty_L28_98 {X : z_X} {Post : Option z_V → z_W → Prop} (M : z_M X zm_MW_empty rm_MW_empty Post) {T' : Nat → Nat × Nat} {G' : Nat → Nat → Option Nat} {n : Nat} {Q : ((Nat → Nat → Int32)) → Prop}  (hE : ∀ (S' : (Nat → Nat → Int32)), Q S' → z_G X zm_MW_empty (48, [(0, z_r 98)], [], zW T' G' S' n, 0, 0)) (f : Nat) : ∀ (S : (Nat → Nat → Int32)) (x1 : Int32), Q (F_MW_empty_L28 98 f S x1) → Sf_MW_empty_L28 98 f S x1 → z_G X zm_MW_empty (28, [(0, z_r 98), (1, .inl x1)], [], zW T' G' S n, 0, 0) := by
  induction f with
  | zero => intro S x1 K hs; exact False.elim hs
  | succ f hC =>
    intro S x1 K hs
    rw [F_MW_empty_L28] at K
    rw [Sf_MW_empty_L28] at hs
    try simp only [Nat.reduceAdd] at K hs
    refine z_go2 M.1 28 [(.iload_n 1, 1), (.sipush 2700, 3)] (32, [(0, z_r 98), (1, .inl x1)], [.inl 2700, .inl x1], zW T' G' S n, 0, 0) (by decide +kernel) rfl ⟨trivial, trivial, trivial⟩ ?_
    refine z_icmp_ge 48 M.1 (off := 16) (by decide +kernel) (by decide) (fun c32 => ?_) (fun c32 => ?_)
    · rw [if_pos c32] at K hs
      exact z_lvs (lv' := [(0, z_r 98)]) [0] rfl (hE S K)
    · rw [if_neg c32] at K hs
      refine z_go2 M.1 35 [(.aload_n 0, 1), (.getfield 40, 3), (.iload_n 1, 1), (.iconst 0, 1), (.bastore, 1), (.iinc 1 1, 3), (.goto (-17), 3)] (28, [(1, .inl (x1 + 1)), (0, z_r 98)], [], zW T' G' (z_uS S 108 (x1).toNatClampNeg (vp_nar .boolean 0)) n, 0, 0) (by decide +kernel) rfl ⟨trivial, rfl, trivial, trivial, ⟨rfl, hs.1⟩, trivial, trivial, trivial⟩ ?_
      replace hs := hs.2
      exact z_lvs (lv' := [(0, z_r 98), (1, .inl (x1 + 1))]) [1, 0] rfl (hC (z_uS S 108 (x1).toNatClampNeg (vp_nar .boolean 0)) (x1 + 1) K hs)
theorem t_MW_empty_L28_110 {X : z_X} {Post : Option z_V → z_W → Prop} (M : z_M X zm_MW_empty rm_MW_empty Post) {T' : Nat → Nat × Nat} {G' : Nat → Nat → Option Nat} {n : Nat} {Q : ((Nat → Nat → Int32)) → Prop}  (hE : ∀ (S' : (Nat → Nat → Int32)), Q S' → z_G X zm_MW_empty (48, [(0, z_r 110)], [], zW T' G' S' n, 0, 0)) (f : Nat) : ∀ (S : (Nat → Nat → Int32)) (x1 : Int32), Q (F_MW_empty_L28 110 f S x1) → Sf_MW_empty_L28 110 f S x1 → z_G X zm_MW_empty (28, [(0, z_r 110), (1, .inl x1)], [], zW T' G' S n, 0, 0) := by
  induction f with
  | zero => intro S x1 K hs; exact False.elim hs
  | succ f hC =>
    intro S x1 K hs
    rw [F_MW_empty_L28] at K
    rw [Sf_MW_empty_L28] at hs
    try simp only [Nat.reduceAdd] at K hs
    refine z_go2 M.1 28 [(.iload_n 1, 1), (.sipush 2700, 3)] (32, [(0, z_r 110), (1, .inl x1)], [.inl 2700, .inl x1], zW T' G' S n, 0, 0) (by decide +kernel) rfl ⟨trivial, trivial, trivial⟩ ?_
    refine z_icmp_ge 48 M.1 (off := 16) (by decide +kernel) (by decide) (fun c32 => ?_) (fun c32 => ?_)
    · rw [if_pos c32] at K hs
      exact z_lvs (lv' := [(0, z_r 110)]) [0] rfl (hE S K)
    · rw [if_neg c32] at K hs
      refine z_go2 M.1 35 [(.aload_n 0, 1), (.getfield 40, 3), (.iload_n 1, 1), (.iconst 0, 1), (.bastore, 1), (.iinc 1 1, 3), (.goto (-17), 3)] (28, [(1, .inl (x1 + 1)), (0, z_r 110)], [], zW T' G' (z_uS S 120 (x1).toNatClampNeg (vp_nar .boolean 0)) n, 0, 0) (by decide +kernel) rfl ⟨trivial, rfl, trivial, trivial, ⟨rfl, hs.1⟩, trivial, trivial, trivial⟩ ?_
      replace hs := hs.2
      exact z_lvs (lv' := [(0, z_r 110), (1, .inl (x1 + 1))]) [1, 0] rfl (hC (z_uS S 120 (x1).toNatClampNeg (vp_nar .boolean 0)) (x1 + 1) K hs)
def F_MW_empty_L50 (w : Nat) : Nat → (Nat → Nat → Int32) → Int32 → ((Nat → Nat → Int32))
  | 0, S, x1 => S
  | f + 1, S, x1 => (if (24 : Int32) ≤ x1 then S else ((F_MW_empty_L50 w f) (z_uS S (w + 11) (x1).toNatClampNeg 0) (x1 + 1)))
def Sf_MW_empty_L50 (w : Nat) : Nat → (Nat → Nat → Int32) → Int32 → Prop
  | 0, _, _ => False
  | f + 1, S, x1 => (if (24 : Int32) ≤ x1 then True else ((vp_in x1 24) ∧ ((Sf_MW_empty_L50 w f) (z_uS S (w + 11) (x1).toNatClampNeg 0) (x1 + 1))))
theorem t_MW_empty_L50_86 {X : z_X} {Post : Option z_V → z_W → Prop} (M : z_M X zm_MW_empty rm_MW_empty Post) {T' : Nat → Nat × Nat} {G' : Nat → Nat → Option Nat} {n : Nat} {Q : ((Nat → Nat → Int32)) → Prop}  (hE : ∀ (S' : (Nat → Nat → Int32)), Q S' → z_G X zm_MW_empty (69, [], [], zW T' G' S' n, 0, 0)) (f : Nat) : ∀ (S : (Nat → Nat → Int32)) (x1 : Int32), Q (F_MW_empty_L50 86 f S x1) → Sf_MW_empty_L50 86 f S x1 → z_G X zm_MW_empty (50, [(0, z_r 86), (1, .inl x1)], [], zW T' G' S n, 0, 0) := by
  induction f with
  | zero => intro S x1 K hs; exact False.elim hs
  | succ f hC =>
    intro S x1 K hs
    rw [F_MW_empty_L50] at K
    rw [Sf_MW_empty_L50] at hs
    try simp only [Nat.reduceAdd] at K hs
    refine z_go2 M.1 50 [(.iload_n 1, 1), (.bipush 24, 2)] (53, [(0, z_r 86), (1, .inl x1)], [.inl 24, .inl x1], zW T' G' S n, 0, 0) (by decide +kernel) rfl ⟨trivial, trivial, trivial⟩ ?_
    refine z_icmp_ge 69 M.1 (off := 16) (by decide +kernel) (by decide) (fun c53 => ?_) (fun c53 => ?_)
    · rw [if_pos c53] at K hs
      exact z_lvs (lv' := []) [] rfl (hE S K)
    · rw [if_neg c53] at K hs
      refine z_go2 M.1 56 [(.aload_n 0, 1), (.getfield 43, 3), (.iload_n 1, 1), (.iconst 0, 1), (.iastore, 1), (.iinc 1 1, 3), (.goto (-16), 3)] (50, [(1, .inl (x1 + 1)), (0, z_r 86)], [], zW T' G' (z_uS S 97 (x1).toNatClampNeg 0) n, 0, 0) (by decide +kernel) rfl ⟨trivial, rfl, trivial, trivial, ⟨rfl, hs.1⟩, trivial, trivial, trivial⟩ ?_
      replace hs := hs.2
      exact z_lvs (lv' := [(0, z_r 86), (1, .inl (x1 + 1))]) [1, 0] rfl (hC (z_uS S 97 (x1).toNatClampNeg 0) (x1 + 1) K hs)
theorem t_MW_empty_L50_98 {X : z_X} {Post : Option z_V → z_W → Prop} (M : z_M X zm_MW_empty rm_MW_empty Post) {T' : Nat → Nat × Nat} {G' : Nat → Nat → Option Nat} {n : Nat} {Q : ((Nat → Nat → Int32)) → Prop}  (hE : ∀ (S' : (Nat → Nat → Int32)), Q S' → z_G X zm_MW_empty (69, [], [], zW T' G' S' n, 0, 0)) (f : Nat) : ∀ (S : (Nat → Nat → Int32)) (x1 : Int32), Q (F_MW_empty_L50 98 f S x1) → Sf_MW_empty_L50 98 f S x1 → z_G X zm_MW_empty (50, [(0, z_r 98), (1, .inl x1)], [], zW T' G' S n, 0, 0) := by
  induction f with
  | zero => intro S x1 K hs; exact False.elim hs
  | succ f hC =>
    intro S x1 K hs
    rw [F_MW_empty_L50] at K
    rw [Sf_MW_empty_L50] at hs
    try simp only [Nat.reduceAdd] at K hs
    refine z_go2 M.1 50 [(.iload_n 1, 1), (.bipush 24, 2)] (53, [(0, z_r 98), (1, .inl x1)], [.inl 24, .inl x1], zW T' G' S n, 0, 0) (by decide +kernel) rfl ⟨trivial, trivial, trivial⟩ ?_
    refine z_icmp_ge 69 M.1 (off := 16) (by decide +kernel) (by decide) (fun c53 => ?_) (fun c53 => ?_)
    · rw [if_pos c53] at K hs
      exact z_lvs (lv' := []) [] rfl (hE S K)
    · rw [if_neg c53] at K hs
      refine z_go2 M.1 56 [(.aload_n 0, 1), (.getfield 43, 3), (.iload_n 1, 1), (.iconst 0, 1), (.iastore, 1), (.iinc 1 1, 3), (.goto (-16), 3)] (50, [(1, .inl (x1 + 1)), (0, z_r 98)], [], zW T' G' (z_uS S 109 (x1).toNatClampNeg 0) n, 0, 0) (by decide +kernel) rfl ⟨trivial, rfl, trivial, trivial, ⟨rfl, hs.1⟩, trivial, trivial, trivial⟩ ?_
      replace hs := hs.2
      exact z_lvs (lv' := [(0, z_r 98), (1, .inl (x1 + 1))]) [1, 0] rfl (hC (z_uS S 109 (x1).toNatClampNeg 0) (x1 + 1) K hs)
theorem t_MW_empty_L50_110 {X : z_X} {Post : Option z_V → z_W → Prop} (M : z_M X zm_MW_empty rm_MW_empty Post) {T' : Nat → Nat × Nat} {G' : Nat → Nat → Option Nat} {n : Nat} {Q : ((Nat → Nat → Int32)) → Prop}  (hE : ∀ (S' : (Nat → Nat → Int32)), Q S' → z_G X zm_MW_empty (69, [], [], zW T' G' S' n, 0, 0)) (f : Nat) : ∀ (S : (Nat → Nat → Int32)) (x1 : Int32), Q (F_MW_empty_L50 110 f S x1) → Sf_MW_empty_L50 110 f S x1 → z_G X zm_MW_empty (50, [(0, z_r 110), (1, .inl x1)], [], zW T' G' S n, 0, 0) := by
  induction f with
  | zero => intro S x1 K hs; exact False.elim hs
  | succ f hC =>
    intro S x1 K hs
    rw [F_MW_empty_L50] at K
    rw [Sf_MW_empty_L50] at hs
    try simp only [Nat.reduceAdd] at K hs
    refine z_go2 M.1 50 [(.iload_n 1, 1), (.bipush 24, 2)] (53, [(0, z_r 110), (1, .inl x1)], [.inl 24, .inl x1], zW T' G' S n, 0, 0) (by decide +kernel) rfl ⟨trivial, trivial, trivial⟩ ?_
    refine z_icmp_ge 69 M.1 (off := 16) (by decide +kernel) (by decide) (fun c53 => ?_) (fun c53 => ?_)
    · rw [if_pos c53] at K hs
      exact z_lvs (lv' := []) [] rfl (hE S K)
    · rw [if_neg c53] at K hs
      refine z_go2 M.1 56 [(.aload_n 0, 1), (.getfield 43, 3), (.iload_n 1, 1), (.iconst 0, 1), (.iastore, 1), (.iinc 1 1, 3), (.goto (-16), 3)] (50, [(1, .inl (x1 + 1)), (0, z_r 110)], [], zW T' G' (z_uS S 121 (x1).toNatClampNeg 0) n, 0, 0) (by decide +kernel) rfl ⟨trivial, rfl, trivial, trivial, ⟨rfl, hs.1⟩, trivial, trivial, trivial⟩ ?_
      replace hs := hs.2
      exact z_lvs (lv' := [(0, z_r 110), (1, .inl (x1 + 1))]) [1, 0] rfl (hC (z_uS S 121 (x1).toNatClampNeg 0) (x1 + 1) K hs)
def F_MW_empty (w : Nat) (S : (Nat → Nat → Int32)) : (Nat → Nat → Int32) := (match F_MW_empty_L7 w 3000 (z_uS S w 0 0) 0 with | S7 => (match F_MW_empty_L28 w 3000 S7 0 with | S28 => (match F_MW_empty_L50 w 3000 S28 0 with | S50 => S50)))
def Sf_MW_empty (w : Nat) (S : (Nat → Nat → Int32)) : Prop := (Sf_MW_empty_L7 w 3000 (z_uS S w 0 0) 0 ∧ (match F_MW_empty_L7 w 3000 (z_uS S w 0 0) 0 with | S7 => (Sf_MW_empty_L28 w 3000 S7 0 ∧ (match F_MW_empty_L28 w 3000 S7 0 with | S28 => (Sf_MW_empty_L50 w 3000 S28 0 ∧ True)))))
theorem c_MW_empty_86 (T' : Nat → Nat × Nat) (G' : Nat → Nat → Option Nat) (S : (Nat → Nat → Int32)) (n : Nat) (hs : Sf_MW_empty 86 S) : z_Run rm_MW_empty zm_MW_empty [z_r 86] (zW T' G' S n) (zq none (zW T' G' (F_MW_empty 86 S) n)) := by
  refine z_body (by decide) zf_MW_ok (Nat.le_of_ble_eq_true rfl) (fun X M => ?_)
  obtain ⟨Q, hQ, K⟩ : ∃ Q : (Nat → Nat → Int32) → Prop, (∀ S', Q S' → zq none (zW T' G' (F_MW_empty 86 S) n) none (zW T' G' S' n)) ∧ Q (F_MW_empty 86 S) := ⟨fun o => F_MW_empty 86 S = o, fun S' h => ⟨rfl, by rw [h]⟩, rfl⟩
  show z_G X zm_MW_empty (0, [(0, z_r 86)], [], zW T' G' S n, 0, 0)
  unfold F_MW_empty at K
  unfold Sf_MW_empty at hs
  try simp only [Nat.reduceAdd] at K hs
  refine z_go2 M.1 0 [(.aload_n 0, 1), (.iconst 0, 1), (.putfield 46, 3), (.iconst 0, 1), (.istore_n 1, 1)] (7, [(1, .inl 0), (0, z_r 86)], [], zW T' G' (z_uS S 86 0 0) n, 0, 0) (by decide +kernel) rfl ⟨trivial, trivial, ⟨rfl, trivial⟩, trivial, trivial, trivial⟩ ?_
  refine z_lvs (lv' := [(0, z_r 86), (1, .inl 0)]) [1, 0] rfl ?_
  refine t_MW_empty_L7_86 M (Q := fun o => F_MW_empty_L7 86 3000 (z_uS S 86 0 0) 0 = o) (fun S7 hL7 => ?_) 3000 (z_uS S 86 0 0) 0 rfl hs.1
  replace hs := hs.2
  rw [hL7] at K
  try rw [hL7] at hs
  try dsimp only at K hs
  refine z_go2 M.1 26 [(.iconst 0, 1), (.istore_n 1, 1)] (28, [(1, .inl 0), (0, z_r 86)], [], zW T' G' S7 n, 0, 0) (by decide +kernel) rfl ⟨trivial, trivial, trivial⟩ ?_
  refine z_lvs (lv' := [(0, z_r 86), (1, .inl 0)]) [1, 0] rfl ?_
  refine t_MW_empty_L28_86 M (Q := fun o => F_MW_empty_L28 86 3000 S7 0 = o) (fun S28 hL28 => ?_) 3000 S7 0 rfl hs.1
  replace hs := hs.2
  rw [hL28] at K
  try rw [hL28] at hs
  try dsimp only at K hs
  refine z_go2 M.1 48 [(.iconst 0, 1), (.istore_n 1, 1)] (50, [(1, .inl 0), (0, z_r 86)], [], zW T' G' S28 n, 0, 0) (by decide +kernel) rfl ⟨trivial, trivial, trivial⟩ ?_
  refine z_lvs (lv' := [(0, z_r 86), (1, .inl 0)]) [1, 0] rfl ?_
  refine t_MW_empty_L50_86 M (Q := fun o => F_MW_empty_L50 86 3000 S28 0 = o) (fun S50 hL50 => ?_) 3000 S28 0 rfl hs.1
  replace hs := hs.2
  rw [hL50] at K
  try dsimp only at K
  exact z_vret M (by decide +kernel) rfl (by decide) (by decide) (hQ _ K)
theorem c_MW_empty_98 (T' : Nat → Nat × Nat) (G' : Nat → Nat → Option Nat) (S : (Nat → Nat → Int32)) (n : Nat) (hs : Sf_MW_empty 98 S) : z_Run rm_MW_empty zm_MW_empty [z_r 98] (zW T' G' S n) (zq none (zW T' G' (F_MW_empty 98 S) n)) := by
  refine z_body (by decide) zf_MW_ok (Nat.le_of_ble_eq_true rfl) (fun X M => ?_)
  obtain ⟨Q, hQ, K⟩ : ∃ Q : (Nat → Nat → Int32) → Prop, (∀ S', Q S' → zq none (zW T' G' (F_MW_empty 98 S) n) none (zW T' G' S' n)) ∧ Q (F_MW_empty 98 S) := ⟨fun o => F_MW_empty 98 S = o, fun S' h => ⟨rfl, by rw [h]⟩, rfl⟩
  show z_G X zm_MW_empty (0, [(0, z_r 98)], [], zW T' G' S n, 0, 0)
  unfold F_MW_empty at K
  unfold Sf_MW_empty at hs
  try simp only [Nat.reduceAdd] at K hs
  refine z_go2 M.1 0 [(.aload_n 0, 1), (.iconst 0, 1), (.putfield 46, 3), (.iconst 0, 1), (.istore_n 1, 1)] (7, [(1, .inl 0), (0, z_r 98)], [], zW T' G' (z_uS S 98 0 0) n, 0, 0) (by decide +kernel) rfl ⟨trivial, trivial, ⟨rfl, trivial⟩, trivial, trivial, trivial⟩ ?_
  refine z_lvs (lv' := [(0, z_r 98), (1, .inl 0)]) [1, 0] rfl ?_
  refine t_MW_empty_L7_98 M (Q := fun o => F_MW_empty_L7 98 3000 (z_uS S 98 0 0) 0 = o) (fun S7 hL7 => ?_) 3000 (z_uS S 98 0 0) 0 rfl hs.1
  replace hs := hs.2
  rw [hL7] at K
  try rw [hL7] at hs
  try dsimp only at K hs
  refine z_go2 M.1 26 [(.iconst 0, 1), (.istore_n 1, 1)] (28, [(1, .inl 0), (0, z_r 98)], [], zW T' G' S7 n, 0, 0) (by decide +kernel) rfl ⟨trivial, trivial, trivial⟩ ?_
  refine z_lvs (lv' := [(0, z_r 98), (1, .inl 0)]) [1, 0] rfl ?_
  refine t_MW_empty_L28_98 M (Q := fun o => F_MW_empty_L28 98 3000 S7 0 = o) (fun S28 hL28 => ?_) 3000 S7 0 rfl hs.1
  replace hs := hs.2
  rw [hL28] at K
  try rw [hL28] at hs
  try dsimp only at K hs
  refine z_go2 M.1 48 [(.iconst 0, 1), (.istore_n 1, 1)] (50, [(1, .inl 0), (0, z_r 98)], [], zW T' G' S28 n, 0, 0) (by decide +kernel) rfl ⟨trivial, trivial, trivial⟩ ?_
  refine z_lvs (lv' := [(0, z_r 98), (1, .inl 0)]) [1, 0] rfl ?_
  refine t_MW_empty_L50_98 M (Q := fun o => F_MW_empty_L50 98 3000 S28 0 = o) (fun S50 hL50 => ?_) 3000 S28 0 rfl hs.1
  replace hs := hs.2
  rw [hL50] at K
  try dsimp only at K
  exact z_vret M (by decide +kernel) rfl (by decide) (by decide) (hQ _ K)
theorem c_MW_empty_110 (T' : Nat → Nat × Nat) (G' : Nat → Nat → Option Nat) (S : (Nat → Nat → Int32)) (n : Nat) (hs : Sf_MW_empty 110 S) : z_Run rm_MW_empty zm_MW_empty [z_r 110] (zW T' G' S n) (zq none (zW T' G' (F_MW_empty 110 S) n)) := by
  refine z_body (by decide) zf_MW_ok (Nat.le_of_ble_eq_true rfl) (fun X M => ?_)
  obtain ⟨Q, hQ, K⟩ : ∃ Q : (Nat → Nat → Int32) → Prop, (∀ S', Q S' → zq none (zW T' G' (F_MW_empty 110 S) n) none (zW T' G' S' n)) ∧ Q (F_MW_empty 110 S) := ⟨fun o => F_MW_empty 110 S = o, fun S' h => ⟨rfl, by rw [h]⟩, rfl⟩
  show z_G X zm_MW_empty (0, [(0, z_r 110)], [], zW T' G' S n, 0, 0)
  unfold F_MW_empty at K
  unfold Sf_MW_empty at hs
  try simp only [Nat.reduceAdd] at K hs
  refine z_go2 M.1 0 [(.aload_n 0, 1), (.iconst 0, 1), (.putfield 46, 3), (.iconst 0, 1), (.istore_n 1, 1)] (7, [(1, .inl 0), (0, z_r 110)], [], zW T' G' (z_uS S 110 0 0) n, 0, 0) (by decide +kernel) rfl ⟨trivial, trivial, ⟨rfl, trivial⟩, trivial, trivial, trivial⟩ ?_
  refine z_lvs (lv' := [(0, z_r 110), (1, .inl 0)]) [1, 0] rfl ?_
  refine t_MW_empty_L7_110 M (Q := fun o => F_MW_empty_L7 110 3000 (z_uS S 110 0 0) 0 = o) (fun S7 hL7 => ?_) 3000 (z_uS S 110 0 0) 0 rfl hs.1
  replace hs := hs.2
  rw [hL7] at K
  try rw [hL7] at hs
  try dsimp only at K hs
  refine z_go2 M.1 26 [(.iconst 0, 1), (.istore_n 1, 1)] (28, [(1, .inl 0), (0, z_r 110)], [], zW T' G' S7 n, 0, 0) (by decide +kernel) rfl ⟨trivial, trivial, trivial⟩ ?_
  refine z_lvs (lv' := [(0, z_r 110), (1, .inl 0)]) [1, 0] rfl ?_
  refine t_MW_empty_L28_110 M (Q := fun o => F_MW_empty_L28 110 3000 S7 0 = o) (fun S28 hL28 => ?_) 3000 S7 0 rfl hs.1
  replace hs := hs.2
  rw [hL28] at K
  try rw [hL28] at hs
  try dsimp only at K hs
  refine z_go2 M.1 48 [(.iconst 0, 1), (.istore_n 1, 1)] (50, [(1, .inl 0), (0, z_r 110)], [], zW T' G' S28 n, 0, 0) (by decide +kernel) rfl ⟨trivial, trivial, trivial⟩ ?_
  refine z_lvs (lv' := [(0, z_r 110), (1, .inl 0)]) [1, 0] rfl ?_
  refine t_MW_empty_L50_110 M (Q := fun o => F_MW_empty_L50 110 3000 S28 0 = o) (fun S50 hL50 => ?_) 3000 S28 0 rfl hs.1
  replace hs := hs.2
  rw [hL50] at K
  try dsimp only at K
  exact z_vret M (by decide +kernel) rfl (by decide) (by decide) (hQ _ K)

-- TrackHouseModel$World.isSame
abbrev rm_MW_isSame : Room := zr 0
def F_MW_isSame_l39_78 (rc : Int32 → Int32 → (Int32)) (S : (Nat → Nat → Int32)) (x2 : Int32) (x4 : Int32) : (Int32) := (rc 0 (x4 + 1))
def Sf_MW_isSame_l39_78 (rc : Int32 → Int32 → (Int32)) (sr : Int32 → Int32 → Prop) (S : (Nat → Nat → Int32)) (x2 : Int32) (x4 : Int32) : Prop := (sr 0 (x4 + 1))
theorem t_MW_isSame_l39_78 {X : z_X} {Post : Option z_V → z_W → Prop} (M : z_M X zm_MW_isSame rm_MW_isSame Post) {T' : Nat → Nat × Nat} {G' : Nat → Nat → Option Nat} {n : Nat} {Q : (Int32) → Prop} (rc : Int32 → Int32 → (Int32)) (sr : Int32 → Int32 → Prop) (S : (Nat → Nat → Int32)) (x2 : Int32) (x4 : Int32) (hE : ∀ (y3 : Int32), Q y3 → z_G X zm_MW_isSame (86, [(0, z_r 86), (1, z_r 110), (2, .inl x2), (3, .inl y3)], [], zW T' G' S n, 0, 0)) (hC : ∀ (x3 : Int32) (x4 : Int32), Q (rc x3 x4) → sr x3 x4 → z_G X zm_MW_isSame (39, [(0, z_r 86), (1, z_r 110), (2, .inl x2), (3, .inl x3), (4, .inl x4)], [], zW T' G' S n, 0, 0)) (K : Q (F_MW_isSame_l39_78 rc S x2 x4)) (hs : Sf_MW_isSame_l39_78 rc sr S x2 x4) : z_G X zm_MW_isSame (78, [(0, z_r 86), (1, z_r 110), (2, .inl x2), (4, .inl x4)], [], zW T' G' S n, 0, 0) := by
  unfold F_MW_isSame_l39_78 at K
  unfold Sf_MW_isSame_l39_78 at hs
  refine z_go2 M.1 78 [(.iconst 0, 1), (.istore_n 3, 1), (.iinc 4 1, 3), (.goto (-44), 3)] (39, [(4, .inl (x4 + 1)), (3, .inl 0), (0, z_r 86), (1, z_r 110), (2, .inl x2)], [], zW T' G' S n, 0, 0) (by decide +kernel) rfl ⟨trivial, trivial, trivial, trivial, trivial⟩ ?_
  exact z_lvs (lv' := [(0, z_r 86), (1, z_r 110), (2, .inl x2), (3, .inl 0), (4, .inl (x4 + 1))]) [2, 3, 4, 1, 0] rfl (hC 0 (x4 + 1) K hs)
def F_MW_isSame_L39 (S : (Nat → Nat → Int32)) (x2 : Int32) : Nat → Int32 → Int32 → (Int32)
  | 0, x3, x4 => x3
  | f + 1, x3, x4 => (if (3 : Int32) ≤ x4 then x3 else (if x3 = 0 then (F_MW_isSame_l39_78 (F_MW_isSame_L39 S x2 f) S x2 x4) else (if (S 90 (((3 : Int32) * x2) + x4).toNatClampNeg) = (S 114 (((3 : Int32) * x2) + x4).toNatClampNeg) then ((F_MW_isSame_L39 S x2 f) 1 (x4 + 1)) else (F_MW_isSame_l39_78 (F_MW_isSame_L39 S x2 f) S x2 x4))))
def Sf_MW_isSame_L39 (S : (Nat → Nat → Int32)) (x2 : Int32) : Nat → Int32 → Int32 → Prop
  | 0, _, _ => False
  | f + 1, x3, x4 => (if (3 : Int32) ≤ x4 then True else (if x3 = 0 then (Sf_MW_isSame_l39_78 (F_MW_isSame_L39 S x2 f) (Sf_MW_isSame_L39 S x2 f) S x2 x4) else ((vp_in (((3 : Int32) * x2) + x4) 90) ∧ ((vp_in (((3 : Int32) * x2) + x4) 90) ∧ (if (S 90 (((3 : Int32) * x2) + x4).toNatClampNeg) = (S 114 (((3 : Int32) * x2) + x4).toNatClampNeg) then ((Sf_MW_isSame_L39 S x2 f) 1 (x4 + 1)) else (Sf_MW_isSame_l39_78 (F_MW_isSame_L39 S x2 f) (Sf_MW_isSame_L39 S x2 f) S x2 x4))))))
theorem t_MW_isSame_L39 {X : z_X} {Post : Option z_V → z_W → Prop} (M : z_M X zm_MW_isSame rm_MW_isSame Post) {T' : Nat → Nat × Nat} {G' : Nat → Nat → Option Nat} {n : Nat} {Q : (Int32) → Prop} (S : (Nat → Nat → Int32))  (x2 : Int32) (hE : ∀ (y3 : Int32), Q y3 → z_G X zm_MW_isSame (86, [(0, z_r 86), (1, z_r 110), (2, .inl x2), (3, .inl y3)], [], zW T' G' S n, 0, 0)) (f : Nat) : ∀ (x3 : Int32) (x4 : Int32), Q (F_MW_isSame_L39 S x2 f x3 x4) → Sf_MW_isSame_L39 S x2 f x3 x4 → z_G X zm_MW_isSame (39, [(0, z_r 86), (1, z_r 110), (2, .inl x2), (3, .inl x3), (4, .inl x4)], [], zW T' G' S n, 0, 0) := by
  induction f with
  | zero => intro x3 x4 K hs; exact False.elim hs
  | succ f hC =>
    intro x3 x4 K hs
    rw [F_MW_isSame_L39] at K
    rw [Sf_MW_isSame_L39] at hs
    refine z_go2 M.1 39 [(.iload 4, 2), (.iconst 3, 1)] (42, [(0, z_r 86), (1, z_r 110), (2, .inl x2), (3, .inl x3), (4, .inl x4)], [.inl 3, .inl x4], zW T' G' S n, 0, 0) (by decide +kernel) rfl ⟨trivial, trivial, trivial⟩ ?_
    refine z_icmp_ge 86 M.1 (off := 44) (by decide +kernel) (by decide) (fun c42 => ?_) (fun c42 => ?_)
    · rw [if_pos c42] at K hs
      exact z_lvs (lv' := [(0, z_r 86), (1, z_r 110), (2, .inl x2), (3, .inl x3)]) [0, 1, 2, 3] rfl (hE x3 K)
    · rw [if_neg c42] at K hs
      refine z_go2 M.1 45 [(.iload_n 3, 1)] (46, [(0, z_r 86), (1, z_r 110), (2, .inl x2), (3, .inl x3), (4, .inl x4)], [.inl x3], zW T' G' S n, 0, 0) (by decide +kernel) rfl ⟨trivial, trivial⟩ ?_
      refine z_if_eq 78 M.1 (off := 32) (by decide +kernel) (by decide) (fun c46 => ?_) (fun c46 => ?_)
      · rw [if_pos c46] at K hs
        exact z_lvs (lv' := [(0, z_r 86), (1, z_r 110), (2, .inl x2), (4, .inl x4)]) [0, 1, 2, 4] rfl (t_MW_isSame_l39_78 M (F_MW_isSame_L39 S x2 f) (Sf_MW_isSame_L39 S x2 f) S x2 x4 hE hC K hs)
      · rw [if_neg c46] at K hs
        refine z_go2 M.1 49 [(.aload_n 0, 1), (.getfield 21, 3), (.iconst 3, 1), (.iload_n 2, 1), (.imul, 1), (.iload 4, 2), (.iadd, 1), (.iaload, 1), (.aload_n 1, 1), (.getfield 21, 3), (.iconst 3, 1), (.iload_n 2, 1), (.imul, 1), (.iload 4, 2), (.iadd, 1), (.iaload, 1)] (71, [(0, z_r 86), (1, z_r 110), (2, .inl x2), (3, .inl x3), (4, .inl x4)], [.inl (S 114 (((3 : Int32) * x2) + x4).toNatClampNeg), .inl (S 90 (((3 : Int32) * x2) + x4).toNatClampNeg)], zW T' G' S n, 0, 0) (by decide +kernel) rfl ⟨trivial, rfl, trivial, trivial, trivial, trivial, trivial, ⟨rfl, hs.1⟩, trivial, rfl, trivial, trivial, trivial, trivial, trivial, ⟨rfl, hs.2.1⟩, trivial⟩ ?_
        replace hs := hs.2.2
        refine z_icmp_ne 78 M.1 (off := 7) (by decide +kernel) (by decide) (fun c71 => ?_) (fun c71 => ?_)
        · rw [if_neg c71] at K hs
          exact z_lvs (lv' := [(0, z_r 86), (1, z_r 110), (2, .inl x2), (4, .inl x4)]) [0, 1, 2, 4] rfl (t_MW_isSame_l39_78 M (F_MW_isSame_L39 S x2 f) (Sf_MW_isSame_L39 S x2 f) S x2 x4 hE hC K hs)
        · rw [if_pos c71] at K hs
          refine z_go2 M.1 74 [(.iconst 1, 1), (.goto 4, 3), (.istore_n 3, 1), (.iinc 4 1, 3), (.goto (-44), 3)] (39, [(4, .inl (x4 + 1)), (3, .inl 1), (0, z_r 86), (1, z_r 110), (2, .inl x2)], [], zW T' G' S n, 0, 0) (by decide +kernel) rfl ⟨trivial, trivial, trivial, trivial, trivial, trivial⟩ ?_
          exact z_lvs (lv' := [(0, z_r 86), (1, z_r 110), (2, .inl x2), (3, .inl 1), (4, .inl (x4 + 1))]) [2, 3, 4, 1, 0] rfl (hC 1 (x4 + 1) K hs)
def F_MW_isSame_j209 (S : (Nat → Nat → Int32)) : Int32 := 0
theorem t_MW_isSame_j209 {X : z_X} {Post : Option z_V → z_W → Prop} (M : z_M X zm_MW_isSame rm_MW_isSame Post) {T' : Nat → Nat × Nat} {G' : Nat → Nat → Option Nat} {n : Nat} {Q : Int32 → Prop} (S : (Nat → Nat → Int32)) (hQ : ∀ v, Q v → Post (some (.inl v)) (zW T' G' S n)) (K : Q (F_MW_isSame_j209 S)) : z_G X zm_MW_isSame (209, [], [], zW T' G' S n, 0, 0) := by
  unfold F_MW_isSame_j209 at K
  refine z_go2 M.1 209 [(.iconst 0, 1)] (210, [], [.inl 0], zW T' G' S n, 0, 0) (by decide +kernel) rfl ⟨trivial, trivial⟩ ?_
  exact z_iret M (by decide +kernel) .boolean rfl rfl (by decide) (by decide) (hQ _ K)
def F_MW_isSame_j140 (S : (Nat → Nat → Int32)) (x2 : Int32) (s0 : Int32) : Int32 := (if s0 = 0 then (F_MW_isSame_j209 S) else (if (S 91 (x2).toNatClampNeg) = (S 115 (x2).toNatClampNeg) then (if (S 92 (x2).toNatClampNeg) = (S 116 (x2).toNatClampNeg) then (if (S 93 (x2).toNatClampNeg) = (S 117 (x2).toNatClampNeg) then (if (S 94 (x2).toNatClampNeg) = (S 118 (x2).toNatClampNeg) then 1 else (F_MW_isSame_j209 S)) else (F_MW_isSame_j209 S)) else (F_MW_isSame_j209 S)) else (F_MW_isSame_j209 S)))
def Sf_MW_isSame_j140 (S : (Nat → Nat → Int32)) (x2 : Int32) (s0 : Int32) : Prop := (if s0 = 0 then True else ((vp_in x2 30) ∧ ((vp_in x2 30) ∧ (if (S 91 (x2).toNatClampNeg) = (S 115 (x2).toNatClampNeg) then ((vp_in x2 30) ∧ ((vp_in x2 30) ∧ (if (S 92 (x2).toNatClampNeg) = (S 116 (x2).toNatClampNeg) then ((vp_in x2 30) ∧ ((vp_in x2 30) ∧ (if (S 93 (x2).toNatClampNeg) = (S 117 (x2).toNatClampNeg) then ((vp_in x2 30) ∧ ((vp_in x2 30) ∧ True)) else True))) else True))) else True))))
theorem t_MW_isSame_j140 {X : z_X} {Post : Option z_V → z_W → Prop} (M : z_M X zm_MW_isSame rm_MW_isSame Post) {T' : Nat → Nat × Nat} {G' : Nat → Nat → Option Nat} {n : Nat} {Q : Int32 → Prop} (S : (Nat → Nat → Int32)) (x2 : Int32) (s0 : Int32) (hQ : ∀ v, Q v → Post (some (.inl v)) (zW T' G' S n)) (K : Q (F_MW_isSame_j140 S x2 s0)) (hs : Sf_MW_isSame_j140 S x2 s0) : z_G X zm_MW_isSame (140, [(0, z_r 86), (1, z_r 110), (2, .inl x2)], [.inl s0], zW T' G' S n, 0, 0) := by
  unfold F_MW_isSame_j140 at K
  unfold Sf_MW_isSame_j140 at hs
  refine z_go2 M.1 140 [(.istore_n 3, 1), (.iload_n 3, 1)] (142, [(3, .inl s0), (0, z_r 86), (1, z_r 110), (2, .inl x2)], [.inl s0], zW T' G' S n, 0, 0) (by decide +kernel) rfl ⟨trivial, trivial, trivial⟩ ?_
  refine z_if_eq 209 M.1 (off := 67) (by decide +kernel) (by decide) (fun c142 => ?_) (fun c142 => ?_)
  · rw [if_pos c142] at K hs
    exact z_lvs (lv' := []) [] rfl (t_MW_isSame_j209 M S hQ K)
  · rw [if_neg c142] at K hs
    refine z_go2 M.1 145 [(.aload_n 0, 1), (.getfield 24, 3), (.iload_n 2, 1), (.iaload, 1), (.aload_n 1, 1), (.getfield 24, 3), (.iload_n 2, 1), (.iaload, 1)] (157, [(3, .inl s0), (0, z_r 86), (1, z_r 110), (2, .inl x2)], [.inl (S 115 (x2).toNatClampNeg), .inl (S 91 (x2).toNatClampNeg)], zW T' G' S n, 0, 0) (by decide +kernel) rfl ⟨trivial, rfl, trivial, ⟨rfl, hs.1⟩, trivial, rfl, trivial, ⟨rfl, hs.2.1⟩, trivial⟩ ?_
    replace hs := hs.2.2
    refine z_icmp_ne 209 M.1 (off := 52) (by decide +kernel) (by decide) (fun c157 => ?_) (fun c157 => ?_)
    · rw [if_neg c157] at K hs
      exact z_lvs (lv' := []) [] rfl (t_MW_isSame_j209 M S hQ K)
    · rw [if_pos c157] at K hs
      refine z_go2 M.1 160 [(.aload_n 0, 1), (.getfield 27, 3), (.iload_n 2, 1), (.iaload, 1), (.aload_n 1, 1), (.getfield 27, 3), (.iload_n 2, 1), (.iaload, 1)] (172, [(3, .inl s0), (0, z_r 86), (1, z_r 110), (2, .inl x2)], [.inl (S 116 (x2).toNatClampNeg), .inl (S 92 (x2).toNatClampNeg)], zW T' G' S n, 0, 0) (by decide +kernel) rfl ⟨trivial, rfl, trivial, ⟨rfl, hs.1⟩, trivial, rfl, trivial, ⟨rfl, hs.2.1⟩, trivial⟩ ?_
      replace hs := hs.2.2
      refine z_icmp_ne 209 M.1 (off := 37) (by decide +kernel) (by decide) (fun c172 => ?_) (fun c172 => ?_)
      · rw [if_neg c172] at K hs
        exact z_lvs (lv' := []) [] rfl (t_MW_isSame_j209 M S hQ K)
      · rw [if_pos c172] at K hs
        refine z_go2 M.1 175 [(.aload_n 0, 1), (.getfield 30, 3), (.iload_n 2, 1), (.iaload, 1), (.aload_n 1, 1), (.getfield 30, 3), (.iload_n 2, 1), (.iaload, 1)] (187, [(3, .inl s0), (0, z_r 86), (1, z_r 110), (2, .inl x2)], [.inl (S 117 (x2).toNatClampNeg), .inl (S 93 (x2).toNatClampNeg)], zW T' G' S n, 0, 0) (by decide +kernel) rfl ⟨trivial, rfl, trivial, ⟨rfl, hs.1⟩, trivial, rfl, trivial, ⟨rfl, hs.2.1⟩, trivial⟩ ?_
        replace hs := hs.2.2
        refine z_icmp_ne 209 M.1 (off := 22) (by decide +kernel) (by decide) (fun c187 => ?_) (fun c187 => ?_)
        · rw [if_neg c187] at K hs
          exact z_lvs (lv' := []) [] rfl (t_MW_isSame_j209 M S hQ K)
        · rw [if_pos c187] at K hs
          refine z_go2 M.1 190 [(.aload_n 0, 1), (.getfield 33, 3), (.iload_n 2, 1), (.iaload, 1), (.aload_n 1, 1), (.getfield 33, 3), (.iload_n 2, 1), (.iaload, 1)] (202, [(3, .inl s0), (0, z_r 86), (1, z_r 110), (2, .inl x2)], [.inl (S 118 (x2).toNatClampNeg), .inl (S 94 (x2).toNatClampNeg)], zW T' G' S n, 0, 0) (by decide +kernel) rfl ⟨trivial, rfl, trivial, ⟨rfl, hs.1⟩, trivial, rfl, trivial, ⟨rfl, hs.2.1⟩, trivial⟩ ?_
          replace hs := hs.2.2
          refine z_icmp_ne 209 M.1 (off := 7) (by decide +kernel) (by decide) (fun c202 => ?_) (fun c202 => ?_)
          · rw [if_neg c202] at K
            exact z_lvs (lv' := []) [] rfl (t_MW_isSame_j209 M S hQ K)
          · rw [if_pos c202] at K
            refine z_go2 M.1 205 [(.iconst 1, 1), (.goto 4, 3)] (210, [(3, .inl s0), (0, z_r 86), (1, z_r 110), (2, .inl x2)], [.inl 1], zW T' G' S n, 0, 0) (by decide +kernel) rfl ⟨trivial, trivial, trivial⟩ ?_
            exact z_iret M (by decide +kernel) .boolean rfl rfl (by decide) (by decide) (hQ _ K)
def F_MW_isSame_j139 (S : (Nat → Nat → Int32)) (x2 : Int32) : Int32 := (F_MW_isSame_j140 S x2 0)
def Sf_MW_isSame_j139 (S : (Nat → Nat → Int32)) (x2 : Int32) : Prop := (Sf_MW_isSame_j140 S x2 0)
theorem t_MW_isSame_j139 {X : z_X} {Post : Option z_V → z_W → Prop} (M : z_M X zm_MW_isSame rm_MW_isSame Post) {T' : Nat → Nat × Nat} {G' : Nat → Nat → Option Nat} {n : Nat} {Q : Int32 → Prop} (S : (Nat → Nat → Int32)) (x2 : Int32) (hQ : ∀ v, Q v → Post (some (.inl v)) (zW T' G' S n)) (K : Q (F_MW_isSame_j139 S x2)) (hs : Sf_MW_isSame_j139 S x2) : z_G X zm_MW_isSame (139, [(0, z_r 86), (1, z_r 110), (2, .inl x2)], [], zW T' G' S n, 0, 0) := by
  unfold F_MW_isSame_j139 at K
  unfold Sf_MW_isSame_j139 at hs
  refine z_go2 M.1 139 [(.iconst 0, 1)] (140, [(0, z_r 86), (1, z_r 110), (2, .inl x2)], [.inl 0], zW T' G' S n, 0, 0) (by decide +kernel) rfl ⟨trivial, trivial⟩ ?_
  exact z_lvs (lv' := [(0, z_r 86), (1, z_r 110), (2, .inl x2)]) [0, 1, 2] rfl (t_MW_isSame_j140 M S x2 0 hQ K hs)
def F_MW_isSame_j20 (S : (Nat → Nat → Int32)) (x2 : Int32) (s0 : Int32) : Int32 := (if s0 = 0 then s0 else (if (S 95 (x2).toNatClampNeg) = 0 then s0 else (match F_MW_isSame_L39 S x2 1300 s0 0 with | y3_39 => (if y3_39 = 0 then (F_MW_isSame_j139 S x2) else (if (S 87 (x2).toNatClampNeg) = (S 111 (x2).toNatClampNeg) then (if (S 88 (x2).toNatClampNeg) = (S 112 (x2).toNatClampNeg) then (if (S 89 (x2).toNatClampNeg) = (S 113 (x2).toNatClampNeg) then (F_MW_isSame_j140 S x2 1) else (F_MW_isSame_j139 S x2)) else (F_MW_isSame_j139 S x2)) else (F_MW_isSame_j139 S x2))))))
def Sf_MW_isSame_j20 (S : (Nat → Nat → Int32)) (x2 : Int32) (s0 : Int32) : Prop := (if s0 = 0 then (narrow .boolean (.int s0) = .int s0 ∧ True) else ((vp_in x2 30) ∧ (if (S 95 (x2).toNatClampNeg) = 0 then (narrow .boolean (.int s0) = .int s0 ∧ True) else (Sf_MW_isSame_L39 S x2 1300 s0 0 ∧ (match F_MW_isSame_L39 S x2 1300 s0 0 with | y3_39 => (if y3_39 = 0 then (Sf_MW_isSame_j139 S x2) else ((vp_in x2 30) ∧ ((vp_in x2 30) ∧ (if (S 87 (x2).toNatClampNeg) = (S 111 (x2).toNatClampNeg) then ((vp_in x2 30) ∧ ((vp_in x2 30) ∧ (if (S 88 (x2).toNatClampNeg) = (S 112 (x2).toNatClampNeg) then ((vp_in x2 30) ∧ ((vp_in x2 30) ∧ (if (S 89 (x2).toNatClampNeg) = (S 113 (x2).toNatClampNeg) then (Sf_MW_isSame_j140 S x2 1) else (Sf_MW_isSame_j139 S x2)))) else (Sf_MW_isSame_j139 S x2)))) else (Sf_MW_isSame_j139 S x2))))))))))
theorem t_MW_isSame_j20 {X : z_X} {Post : Option z_V → z_W → Prop} (M : z_M X zm_MW_isSame rm_MW_isSame Post) {T' : Nat → Nat × Nat} {G' : Nat → Nat → Option Nat} {n : Nat} {Q : Int32 → Prop} (S : (Nat → Nat → Int32)) (x2 : Int32) (s0 : Int32) (hQ : ∀ v, Q v → Post (some (.inl v)) (zW T' G' S n)) (K : Q (F_MW_isSame_j20 S x2 s0)) (hs : Sf_MW_isSame_j20 S x2 s0) : z_G X zm_MW_isSame (20, [(0, z_r 86), (1, z_r 110), (2, .inl x2)], [.inl s0], zW T' G' S n, 0, 0) := by
  unfold F_MW_isSame_j20 at K
  unfold Sf_MW_isSame_j20 at hs
  refine z_go2 M.1 20 [(.istore_n 3, 1), (.iload_n 3, 1)] (22, [(3, .inl s0), (0, z_r 86), (1, z_r 110), (2, .inl x2)], [.inl s0], zW T' G' S n, 0, 0) (by decide +kernel) rfl ⟨trivial, trivial, trivial⟩ ?_
  refine z_if_eq 34 M.1 (off := 12) (by decide +kernel) (by decide) (fun c22 => ?_) (fun c22 => ?_)
  · rw [if_pos c22] at K hs
    refine z_go2 M.1 34 [(.iload_n 3, 1)] (35, [(3, .inl s0), (0, z_r 86), (1, z_r 110), (2, .inl x2)], [.inl s0], zW T' G' S n, 0, 0) (by decide +kernel) rfl ⟨trivial, trivial⟩ ?_
    exact z_iret M (by decide +kernel) .boolean rfl hs.1 (by decide) (by decide) (hQ _ K)
  · rw [if_neg c22] at K hs
    refine z_go2 M.1 25 [(.aload_n 0, 1), (.getfield 36, 3), (.iload_n 2, 1), (.baload, 1)] (31, [(3, .inl s0), (0, z_r 86), (1, z_r 110), (2, .inl x2)], [.inl (S 95 (x2).toNatClampNeg)], zW T' G' S n, 0, 0) (by decide +kernel) rfl ⟨trivial, rfl, trivial, ⟨rfl, hs.1⟩, trivial⟩ ?_
    replace hs := hs.2
    refine z_if_ne 36 M.1 (off := 5) (by decide +kernel) (by decide) (fun c31 => ?_) (fun c31 => ?_)
    · rw [if_neg c31] at K hs
      refine z_go2 M.1 36 [(.iconst 0, 1), (.istore 4, 2)] (39, [(4, .inl 0), (3, .inl s0), (0, z_r 86), (1, z_r 110), (2, .inl x2)], [], zW T' G' S n, 0, 0) (by decide +kernel) rfl ⟨trivial, trivial, trivial⟩ ?_
      refine z_lvs (lv' := [(0, z_r 86), (1, z_r 110), (2, .inl x2), (3, .inl s0), (4, .inl 0)]) [2, 3, 4, 1, 0] rfl ?_
      refine t_MW_isSame_L39 M (Q := fun o => F_MW_isSame_L39 S x2 1300 s0 0 = o) S x2 (fun y3_39 hL39 => ?_) 1300 s0 0 rfl hs.1
      replace hs := hs.2
      rw [hL39] at K
      try rw [hL39] at hs
      try dsimp only at K hs
      refine z_go2 M.1 86 [(.iload_n 3, 1)] (87, [(0, z_r 86), (1, z_r 110), (2, .inl x2), (3, .inl y3_39)], [.inl y3_39], zW T' G' S n, 0, 0) (by decide +kernel) rfl ⟨trivial, trivial⟩ ?_
      refine z_if_eq 139 M.1 (off := 52) (by decide +kernel) (by decide) (fun c87 => ?_) (fun c87 => ?_)
      · rw [if_pos c87] at K hs
        exact z_lvs (lv' := [(0, z_r 86), (1, z_r 110), (2, .inl x2)]) [0, 1, 2] rfl (t_MW_isSame_j139 M S x2 hQ K hs)
      · rw [if_neg c87] at K hs
        refine z_go2 M.1 90 [(.aload_n 0, 1), (.getfield 9, 3), (.iload_n 2, 1), (.iaload, 1), (.aload_n 1, 1), (.getfield 9, 3), (.iload_n 2, 1), (.iaload, 1)] (102, [(0, z_r 86), (1, z_r 110), (2, .inl x2), (3, .inl y3_39)], [.inl (S 111 (x2).toNatClampNeg), .inl (S 87 (x2).toNatClampNeg)], zW T' G' S n, 0, 0) (by decide +kernel) rfl ⟨trivial, rfl, trivial, ⟨rfl, hs.1⟩, trivial, rfl, trivial, ⟨rfl, hs.2.1⟩, trivial⟩ ?_
        replace hs := hs.2.2
        refine z_icmp_ne 139 M.1 (off := 37) (by decide +kernel) (by decide) (fun c102 => ?_) (fun c102 => ?_)
        · rw [if_neg c102] at K hs
          exact z_lvs (lv' := [(0, z_r 86), (1, z_r 110), (2, .inl x2)]) [0, 1, 2] rfl (t_MW_isSame_j139 M S x2 hQ K hs)
        · rw [if_pos c102] at K hs
          refine z_go2 M.1 105 [(.aload_n 0, 1), (.getfield 15, 3), (.iload_n 2, 1), (.iaload, 1), (.aload_n 1, 1), (.getfield 15, 3), (.iload_n 2, 1), (.iaload, 1)] (117, [(0, z_r 86), (1, z_r 110), (2, .inl x2), (3, .inl y3_39)], [.inl (S 112 (x2).toNatClampNeg), .inl (S 88 (x2).toNatClampNeg)], zW T' G' S n, 0, 0) (by decide +kernel) rfl ⟨trivial, rfl, trivial, ⟨rfl, hs.1⟩, trivial, rfl, trivial, ⟨rfl, hs.2.1⟩, trivial⟩ ?_
          replace hs := hs.2.2
          refine z_icmp_ne 139 M.1 (off := 22) (by decide +kernel) (by decide) (fun c117 => ?_) (fun c117 => ?_)
          · rw [if_neg c117] at K hs
            exact z_lvs (lv' := [(0, z_r 86), (1, z_r 110), (2, .inl x2)]) [0, 1, 2] rfl (t_MW_isSame_j139 M S x2 hQ K hs)
          · rw [if_pos c117] at K hs
            refine z_go2 M.1 120 [(.aload_n 0, 1), (.getfield 18, 3), (.iload_n 2, 1), (.iaload, 1), (.aload_n 1, 1), (.getfield 18, 3), (.iload_n 2, 1), (.iaload, 1)] (132, [(0, z_r 86), (1, z_r 110), (2, .inl x2), (3, .inl y3_39)], [.inl (S 113 (x2).toNatClampNeg), .inl (S 89 (x2).toNatClampNeg)], zW T' G' S n, 0, 0) (by decide +kernel) rfl ⟨trivial, rfl, trivial, ⟨rfl, hs.1⟩, trivial, rfl, trivial, ⟨rfl, hs.2.1⟩, trivial⟩ ?_
            replace hs := hs.2.2
            refine z_icmp_ne 139 M.1 (off := 7) (by decide +kernel) (by decide) (fun c132 => ?_) (fun c132 => ?_)
            · rw [if_neg c132] at K hs
              exact z_lvs (lv' := [(0, z_r 86), (1, z_r 110), (2, .inl x2)]) [0, 1, 2] rfl (t_MW_isSame_j139 M S x2 hQ K hs)
            · rw [if_pos c132] at K hs
              refine z_go2 M.1 135 [(.iconst 1, 1), (.goto 4, 3)] (140, [(0, z_r 86), (1, z_r 110), (2, .inl x2), (3, .inl y3_39)], [.inl 1], zW T' G' S n, 0, 0) (by decide +kernel) rfl ⟨trivial, trivial, trivial⟩ ?_
              exact z_lvs (lv' := [(0, z_r 86), (1, z_r 110), (2, .inl x2)]) [0, 1, 2] rfl (t_MW_isSame_j140 M S x2 1 hQ K hs)
    · rw [if_pos c31] at K hs
      refine z_go2 M.1 34 [(.iload_n 3, 1)] (35, [(3, .inl s0), (0, z_r 86), (1, z_r 110), (2, .inl x2)], [.inl s0], zW T' G' S n, 0, 0) (by decide +kernel) rfl ⟨trivial, trivial⟩ ?_
      exact z_iret M (by decide +kernel) .boolean rfl hs.1 (by decide) (by decide) (hQ _ K)
def F_MW_isSame (S : (Nat → Nat → Int32)) (p2 : Int32) : Int32 := (if (S 95 (p2).toNatClampNeg) = (S 119 (p2).toNatClampNeg) then (F_MW_isSame_j20 S p2 1) else (F_MW_isSame_j20 S p2 0))
def Sf_MW_isSame (S : (Nat → Nat → Int32)) (p2 : Int32) : Prop := ((vp_in p2 30) ∧ ((vp_in p2 30) ∧ (if (S 95 (p2).toNatClampNeg) = (S 119 (p2).toNatClampNeg) then (Sf_MW_isSame_j20 S p2 1) else (Sf_MW_isSame_j20 S p2 0))))
theorem c_MW_isSame (T' : Nat → Nat × Nat) (G' : Nat → Nat → Option Nat) (S : (Nat → Nat → Int32)) (n : Nat) (p2 : Int32) (hs : Sf_MW_isSame S p2) : z_Run rm_MW_isSame zm_MW_isSame [z_r 86, z_r 110, .inl p2] (zW T' G' S n) (zq (some (.inl (F_MW_isSame S p2))) (zW T' G' S n)) := by
  refine z_body (by decide) zf_MW_ok (Nat.le_of_ble_eq_true rfl) (fun X M => ?_)
  obtain ⟨Q, hQ, K⟩ : ∃ Q : Int32 → Prop, (∀ v, Q v → zq (some (.inl (F_MW_isSame S p2))) (zW T' G' S n) (some (.inl v)) (zW T' G' S n)) ∧ Q (F_MW_isSame S p2) := ⟨fun o => F_MW_isSame S p2 = o, fun v h => ⟨by rw [h], rfl⟩, rfl⟩
  show z_G X zm_MW_isSame (0, [(0, z_r 86), (1, z_r 110), (2, .inl p2)], [], zW T' G' S n, 0, 0)
  unfold F_MW_isSame at K
  unfold Sf_MW_isSame at hs
  refine z_go2 M.1 0 [(.aload_n 0, 1), (.getfield 36, 3), (.iload_n 2, 1), (.baload, 1), (.aload_n 1, 1), (.getfield 36, 3), (.iload_n 2, 1), (.baload, 1)] (12, [(0, z_r 86), (1, z_r 110), (2, .inl p2)], [.inl (S 119 (p2).toNatClampNeg), .inl (S 95 (p2).toNatClampNeg)], zW T' G' S n, 0, 0) (by decide +kernel) rfl ⟨trivial, rfl, trivial, ⟨rfl, hs.1⟩, trivial, rfl, trivial, ⟨rfl, hs.2.1⟩, trivial⟩ ?_
  replace hs := hs.2.2
  refine z_icmp_ne 19 M.1 (off := 7) (by decide +kernel) (by decide) (fun c12 => ?_) (fun c12 => ?_)
  · rw [if_neg c12] at K hs
    refine z_go2 M.1 19 [(.iconst 0, 1)] (20, [(0, z_r 86), (1, z_r 110), (2, .inl p2)], [.inl 0], zW T' G' S n, 0, 0) (by decide +kernel) rfl ⟨trivial, trivial⟩ ?_
    exact z_lvs (lv' := [(0, z_r 86), (1, z_r 110), (2, .inl p2)]) [0, 1, 2] rfl (t_MW_isSame_j20 M S p2 0 hQ K hs)
  · rw [if_pos c12] at K hs
    refine z_go2 M.1 15 [(.iconst 1, 1), (.goto 4, 3)] (20, [(0, z_r 86), (1, z_r 110), (2, .inl p2)], [.inl 1], zW T' G' S n, 0, 0) (by decide +kernel) rfl ⟨trivial, trivial, trivial⟩ ?_
    exact z_lvs (lv' := [(0, z_r 86), (1, z_r 110), (2, .inl p2)]) [0, 1, 2] rfl (t_MW_isSame_j20 M S p2 1 hQ K hs)

-- TrackHouseModel$World.isAs
abbrev rm_MW_isAs : Room := zr 1
def F_MW_isAs_l4_27 (rc : Int32 → Int32 → (Int32)) (S : (Nat → Nat → Int32)) (x3 : Int32) : (Int32) := (rc 0 (x3 + 1))
def Sf_MW_isAs_l4_27 (rc : Int32 → Int32 → (Int32)) (sr : Int32 → Int32 → Prop) (S : (Nat → Nat → Int32)) (x3 : Int32) : Prop := (sr 0 (x3 + 1))
theorem t_MW_isAs_l4_27 {X : z_X} {Post : Option z_V → z_W → Prop} (M : z_M X zm_MW_isAs rm_MW_isAs Post) {T' : Nat → Nat × Nat} {G' : Nat → Nat → Option Nat} {n : Nat} {Q : (Int32) → Prop} (rc : Int32 → Int32 → (Int32)) (sr : Int32 → Int32 → Prop) (S : (Nat → Nat → Int32)) (x3 : Int32) (hE : ∀ (y2 : Int32), Q y2 → z_G X zm_MW_isAs (35, [(0, z_r 86), (1, z_r 110), (2, .inl y2)], [], zW T' G' S n, 0, 0)) (hC : ∀ (x2 : Int32) (x3 : Int32), Q (rc x2 x3) → sr x2 x3 → z_G X zm_MW_isAs (4, [(0, z_r 86), (1, z_r 110), (2, .inl x2), (3, .inl x3)], [], zW T' G' S n, 0, 0)) (K : Q (F_MW_isAs_l4_27 rc S x3)) (hs : Sf_MW_isAs_l4_27 rc sr S x3) : z_G X zm_MW_isAs (27, [(0, z_r 86), (1, z_r 110), (3, .inl x3)], [], zW T' G' S n, 0, 0) := by
  unfold F_MW_isAs_l4_27 at K
  unfold Sf_MW_isAs_l4_27 at hs
  refine z_go2 M.1 27 [(.iconst 0, 1), (.istore_n 2, 1), (.iinc 3 1, 3), (.goto (-28), 3)] (4, [(3, .inl (x3 + 1)), (2, .inl 0), (0, z_r 86), (1, z_r 110)], [], zW T' G' S n, 0, 0) (by decide +kernel) rfl ⟨trivial, trivial, trivial, trivial, trivial⟩ ?_
  exact z_lvs (lv' := [(0, z_r 86), (1, z_r 110), (2, .inl 0), (3, .inl (x3 + 1))]) [2, 3, 1, 0] rfl (hC 0 (x3 + 1) K hs)
def F_MW_isAs_L4 (S : (Nat → Nat → Int32)) : Nat → Int32 → Int32 → (Int32)
  | 0, x2, x3 => x2
  | f + 1, x2, x3 => (if (30 : Int32) ≤ x3 then x2 else (if x2 = 0 then (F_MW_isAs_l4_27 (F_MW_isAs_L4 S f) S x3) else (if (F_MW_isSame S x3) = 0 then (F_MW_isAs_l4_27 (F_MW_isAs_L4 S f) S x3) else ((F_MW_isAs_L4 S f) 1 (x3 + 1)))))
def Sf_MW_isAs_L4 (S : (Nat → Nat → Int32)) : Nat → Int32 → Int32 → Prop
  | 0, _, _ => False
  | f + 1, x2, x3 => (if (30 : Int32) ≤ x3 then True else (if x2 = 0 then (Sf_MW_isAs_l4_27 (F_MW_isAs_L4 S f) (Sf_MW_isAs_L4 S f) S x3) else (Sf_MW_isSame S x3 ∧ (if (F_MW_isSame S x3) = 0 then (Sf_MW_isAs_l4_27 (F_MW_isAs_L4 S f) (Sf_MW_isAs_L4 S f) S x3) else ((Sf_MW_isAs_L4 S f) 1 (x3 + 1))))))
theorem t_MW_isAs_L4 {X : z_X} {Post : Option z_V → z_W → Prop} (M : z_M X zm_MW_isAs rm_MW_isAs Post) {T' : Nat → Nat × Nat} {G' : Nat → Nat → Option Nat} {n : Nat} {Q : (Int32) → Prop} (S : (Nat → Nat → Int32))  (hE : ∀ (y2 : Int32), Q y2 → z_G X zm_MW_isAs (35, [(0, z_r 86), (1, z_r 110), (2, .inl y2)], [], zW T' G' S n, 0, 0)) (f : Nat) : ∀ (x2 : Int32) (x3 : Int32), Q (F_MW_isAs_L4 S f x2 x3) → Sf_MW_isAs_L4 S f x2 x3 → z_G X zm_MW_isAs (4, [(0, z_r 86), (1, z_r 110), (2, .inl x2), (3, .inl x3)], [], zW T' G' S n, 0, 0) := by
  induction f with
  | zero => intro x2 x3 K hs; exact False.elim hs
  | succ f hC =>
    intro x2 x3 K hs
    rw [F_MW_isAs_L4] at K
    rw [Sf_MW_isAs_L4] at hs
    refine z_go2 M.1 4 [(.iload_n 3, 1), (.bipush 30, 2)] (7, [(0, z_r 86), (1, z_r 110), (2, .inl x2), (3, .inl x3)], [.inl 30, .inl x3], zW T' G' S n, 0, 0) (by decide +kernel) rfl ⟨trivial, trivial, trivial⟩ ?_
    refine z_icmp_ge 35 M.1 (off := 28) (by decide +kernel) (by decide) (fun c7 => ?_) (fun c7 => ?_)
    · rw [if_pos c7] at K hs
      exact z_lvs (lv' := [(0, z_r 86), (1, z_r 110), (2, .inl x2)]) [0, 1, 2] rfl (hE x2 K)
    · rw [if_neg c7] at K hs
      refine z_go2 M.1 10 [(.iload_n 2, 1)] (11, [(0, z_r 86), (1, z_r 110), (2, .inl x2), (3, .inl x3)], [.inl x2], zW T' G' S n, 0, 0) (by decide +kernel) rfl ⟨trivial, trivial⟩ ?_
      refine z_if_eq 27 M.1 (off := 16) (by decide +kernel) (by decide) (fun c11 => ?_) (fun c11 => ?_)
      · rw [if_pos c11] at K hs
        exact z_lvs (lv' := [(0, z_r 86), (1, z_r 110), (3, .inl x3)]) [0, 1, 3] rfl (t_MW_isAs_l4_27 M (F_MW_isAs_L4 S f) (Sf_MW_isAs_L4 S f) S x3 hE hC K hs)
      · rw [if_neg c11] at K hs
        refine z_go2 M.1 14 [(.aload_n 0, 1), (.aload_n 1, 1), (.iload_n 3, 1)] (17, [(0, z_r 86), (1, z_r 110), (2, .inl x2), (3, .inl x3)], [.inl x3, z_r 110, z_r 86], zW T' G' S n, 0, 0) (by decide +kernel) rfl ⟨trivial, trivial, trivial, trivial⟩ ?_
        refine z_callV M.1 (av := [z_r 110, .inl x3]) (st := []) (a := 86) (ci := 13) (by decide +kernel) (c_MW_isSame T' G' S n x3 hs.1) M.2.1 zl_MW_58 zv_MW_isSame rfl rfl rfl ⟨by decide, by decide, by decide, by decide⟩ rfl (Nat.le_of_ble_eq_true rfl) (fun v w' hv => ?_)
        obtain ⟨rfl, rfl⟩ := hv
        replace hs := hs.2
        show z_G X zm_MW_isAs (20, [(0, z_r 86), (1, z_r 110), (2, .inl x2), (3, .inl x3)], [.inl (F_MW_isSame S x3)], zW T' G' S n, 0, 0)
        refine z_if_eq 27 M.1 (off := 7) (by decide +kernel) (by decide) (fun c20 => ?_) (fun c20 => ?_)
        · rw [if_pos c20] at K hs
          exact z_lvs (lv' := [(0, z_r 86), (1, z_r 110), (3, .inl x3)]) [0, 1, 3] rfl (t_MW_isAs_l4_27 M (F_MW_isAs_L4 S f) (Sf_MW_isAs_L4 S f) S x3 hE hC K hs)
        · rw [if_neg c20] at K hs
          refine z_go2 M.1 23 [(.iconst 1, 1), (.goto 4, 3), (.istore_n 2, 1), (.iinc 3 1, 3), (.goto (-28), 3)] (4, [(3, .inl (x3 + 1)), (2, .inl 1), (0, z_r 86), (1, z_r 110)], [], zW T' G' S n, 0, 0) (by decide +kernel) rfl ⟨trivial, trivial, trivial, trivial, trivial, trivial⟩ ?_
          exact z_lvs (lv' := [(0, z_r 86), (1, z_r 110), (2, .inl 1), (3, .inl (x3 + 1))]) [2, 3, 1, 0] rfl (hC 1 (x3 + 1) K hs)
def F_MW_isAs_l37_67 (rc : Int32 → Int32 → (Int32)) (S : (Nat → Nat → Int32)) (x3 : Int32) : (Int32) := (rc 0 (x3 + 1))
def Sf_MW_isAs_l37_67 (rc : Int32 → Int32 → (Int32)) (sr : Int32 → Int32 → Prop) (S : (Nat → Nat → Int32)) (x3 : Int32) : Prop := (sr 0 (x3 + 1))
theorem t_MW_isAs_l37_67 {X : z_X} {Post : Option z_V → z_W → Prop} (M : z_M X zm_MW_isAs rm_MW_isAs Post) {T' : Nat → Nat × Nat} {G' : Nat → Nat → Option Nat} {n : Nat} {Q : (Int32) → Prop} (rc : Int32 → Int32 → (Int32)) (sr : Int32 → Int32 → Prop) (S : (Nat → Nat → Int32)) (x3 : Int32) (hE : ∀ (y2 : Int32), Q y2 → z_G X zm_MW_isAs (75, [(0, z_r 86), (1, z_r 110), (2, .inl y2)], [], zW T' G' S n, 0, 0)) (hC : ∀ (x2 : Int32) (x3 : Int32), Q (rc x2 x3) → sr x2 x3 → z_G X zm_MW_isAs (37, [(0, z_r 86), (1, z_r 110), (2, .inl x2), (3, .inl x3)], [], zW T' G' S n, 0, 0)) (K : Q (F_MW_isAs_l37_67 rc S x3)) (hs : Sf_MW_isAs_l37_67 rc sr S x3) : z_G X zm_MW_isAs (67, [(0, z_r 86), (1, z_r 110), (3, .inl x3)], [], zW T' G' S n, 0, 0) := by
  unfold F_MW_isAs_l37_67 at K
  unfold Sf_MW_isAs_l37_67 at hs
  refine z_go2 M.1 67 [(.iconst 0, 1), (.istore_n 2, 1), (.iinc 3 1, 3), (.goto (-35), 3)] (37, [(3, .inl (x3 + 1)), (2, .inl 0), (0, z_r 86), (1, z_r 110)], [], zW T' G' S n, 0, 0) (by decide +kernel) rfl ⟨trivial, trivial, trivial, trivial, trivial⟩ ?_
  exact z_lvs (lv' := [(0, z_r 86), (1, z_r 110), (2, .inl 0), (3, .inl (x3 + 1))]) [2, 3, 1, 0] rfl (hC 0 (x3 + 1) K hs)
def F_MW_isAs_L37 (S : (Nat → Nat → Int32)) : Nat → Int32 → Int32 → (Int32)
  | 0, x2, x3 => x2
  | f + 1, x2, x3 => (if (2700 : Int32) ≤ x3 then x2 else (if x2 = 0 then (F_MW_isAs_l37_67 (F_MW_isAs_L37 S f) S x3) else (if (S 96 (x3).toNatClampNeg) = (S 120 (x3).toNatClampNeg) then ((F_MW_isAs_L37 S f) 1 (x3 + 1)) else (F_MW_isAs_l37_67 (F_MW_isAs_L37 S f) S x3))))
def Sf_MW_isAs_L37 (S : (Nat → Nat → Int32)) : Nat → Int32 → Int32 → Prop
  | 0, _, _ => False
  | f + 1, x2, x3 => (if (2700 : Int32) ≤ x3 then True else (if x2 = 0 then (Sf_MW_isAs_l37_67 (F_MW_isAs_L37 S f) (Sf_MW_isAs_L37 S f) S x3) else ((vp_in x3 2700) ∧ ((vp_in x3 2700) ∧ (if (S 96 (x3).toNatClampNeg) = (S 120 (x3).toNatClampNeg) then ((Sf_MW_isAs_L37 S f) 1 (x3 + 1)) else (Sf_MW_isAs_l37_67 (F_MW_isAs_L37 S f) (Sf_MW_isAs_L37 S f) S x3))))))
theorem t_MW_isAs_L37 {X : z_X} {Post : Option z_V → z_W → Prop} (M : z_M X zm_MW_isAs rm_MW_isAs Post) {T' : Nat → Nat × Nat} {G' : Nat → Nat → Option Nat} {n : Nat} {Q : (Int32) → Prop} (S : (Nat → Nat → Int32))  (hE : ∀ (y2 : Int32), Q y2 → z_G X zm_MW_isAs (75, [(0, z_r 86), (1, z_r 110), (2, .inl y2)], [], zW T' G' S n, 0, 0)) (f : Nat) : ∀ (x2 : Int32) (x3 : Int32), Q (F_MW_isAs_L37 S f x2 x3) → Sf_MW_isAs_L37 S f x2 x3 → z_G X zm_MW_isAs (37, [(0, z_r 86), (1, z_r 110), (2, .inl x2), (3, .inl x3)], [], zW T' G' S n, 0, 0) := by
  induction f with
  | zero => intro x2 x3 K hs; exact False.elim hs
  | succ f hC =>
    intro x2 x3 K hs
    rw [F_MW_isAs_L37] at K
    rw [Sf_MW_isAs_L37] at hs
    refine z_go2 M.1 37 [(.iload_n 3, 1), (.sipush 2700, 3)] (41, [(0, z_r 86), (1, z_r 110), (2, .inl x2), (3, .inl x3)], [.inl 2700, .inl x3], zW T' G' S n, 0, 0) (by decide +kernel) rfl ⟨trivial, trivial, trivial⟩ ?_
    refine z_icmp_ge 75 M.1 (off := 34) (by decide +kernel) (by decide) (fun c41 => ?_) (fun c41 => ?_)
    · rw [if_pos c41] at K hs
      exact z_lvs (lv' := [(0, z_r 86), (1, z_r 110), (2, .inl x2)]) [0, 1, 2] rfl (hE x2 K)
    · rw [if_neg c41] at K hs
      refine z_go2 M.1 44 [(.iload_n 2, 1)] (45, [(0, z_r 86), (1, z_r 110), (2, .inl x2), (3, .inl x3)], [.inl x2], zW T' G' S n, 0, 0) (by decide +kernel) rfl ⟨trivial, trivial⟩ ?_
      refine z_if_eq 67 M.1 (off := 22) (by decide +kernel) (by decide) (fun c45 => ?_) (fun c45 => ?_)
      · rw [if_pos c45] at K hs
        exact z_lvs (lv' := [(0, z_r 86), (1, z_r 110), (3, .inl x3)]) [0, 1, 3] rfl (t_MW_isAs_l37_67 M (F_MW_isAs_L37 S f) (Sf_MW_isAs_L37 S f) S x3 hE hC K hs)
      · rw [if_neg c45] at K hs
        refine z_go2 M.1 48 [(.aload_n 0, 1), (.getfield 40, 3), (.iload_n 3, 1), (.baload, 1), (.aload_n 1, 1), (.getfield 40, 3), (.iload_n 3, 1), (.baload, 1)] (60, [(0, z_r 86), (1, z_r 110), (2, .inl x2), (3, .inl x3)], [.inl (S 120 (x3).toNatClampNeg), .inl (S 96 (x3).toNatClampNeg)], zW T' G' S n, 0, 0) (by decide +kernel) rfl ⟨trivial, rfl, trivial, ⟨rfl, hs.1⟩, trivial, rfl, trivial, ⟨rfl, hs.2.1⟩, trivial⟩ ?_
        replace hs := hs.2.2
        refine z_icmp_ne 67 M.1 (off := 7) (by decide +kernel) (by decide) (fun c60 => ?_) (fun c60 => ?_)
        · rw [if_neg c60] at K hs
          exact z_lvs (lv' := [(0, z_r 86), (1, z_r 110), (3, .inl x3)]) [0, 1, 3] rfl (t_MW_isAs_l37_67 M (F_MW_isAs_L37 S f) (Sf_MW_isAs_L37 S f) S x3 hE hC K hs)
        · rw [if_pos c60] at K hs
          refine z_go2 M.1 63 [(.iconst 1, 1), (.goto 4, 3), (.istore_n 2, 1), (.iinc 3 1, 3), (.goto (-35), 3)] (37, [(3, .inl (x3 + 1)), (2, .inl 1), (0, z_r 86), (1, z_r 110)], [], zW T' G' S n, 0, 0) (by decide +kernel) rfl ⟨trivial, trivial, trivial, trivial, trivial, trivial⟩ ?_
          exact z_lvs (lv' := [(0, z_r 86), (1, z_r 110), (2, .inl 1), (3, .inl (x3 + 1))]) [2, 3, 1, 0] rfl (hC 1 (x3 + 1) K hs)
def F_MW_isAs_l77_106 (rc : Int32 → Int32 → (Int32)) (S : (Nat → Nat → Int32)) (x3 : Int32) : (Int32) := (rc 0 (x3 + 1))
def Sf_MW_isAs_l77_106 (rc : Int32 → Int32 → (Int32)) (sr : Int32 → Int32 → Prop) (S : (Nat → Nat → Int32)) (x3 : Int32) : Prop := (sr 0 (x3 + 1))
theorem t_MW_isAs_l77_106 {X : z_X} {Post : Option z_V → z_W → Prop} (M : z_M X zm_MW_isAs rm_MW_isAs Post) {T' : Nat → Nat × Nat} {G' : Nat → Nat → Option Nat} {n : Nat} {Q : (Int32) → Prop} (rc : Int32 → Int32 → (Int32)) (sr : Int32 → Int32 → Prop) (S : (Nat → Nat → Int32)) (x3 : Int32) (hE : ∀ (y2 : Int32), Q y2 → z_G X zm_MW_isAs (114, [(2, .inl y2)], [], zW T' G' S n, 0, 0)) (hC : ∀ (x2 : Int32) (x3 : Int32), Q (rc x2 x3) → sr x2 x3 → z_G X zm_MW_isAs (77, [(0, z_r 86), (1, z_r 110), (2, .inl x2), (3, .inl x3)], [], zW T' G' S n, 0, 0)) (K : Q (F_MW_isAs_l77_106 rc S x3)) (hs : Sf_MW_isAs_l77_106 rc sr S x3) : z_G X zm_MW_isAs (106, [(0, z_r 86), (1, z_r 110), (3, .inl x3)], [], zW T' G' S n, 0, 0) := by
  unfold F_MW_isAs_l77_106 at K
  unfold Sf_MW_isAs_l77_106 at hs
  refine z_go2 M.1 106 [(.iconst 0, 1), (.istore_n 2, 1), (.iinc 3 1, 3), (.goto (-34), 3)] (77, [(3, .inl (x3 + 1)), (2, .inl 0), (0, z_r 86), (1, z_r 110)], [], zW T' G' S n, 0, 0) (by decide +kernel) rfl ⟨trivial, trivial, trivial, trivial, trivial⟩ ?_
  exact z_lvs (lv' := [(0, z_r 86), (1, z_r 110), (2, .inl 0), (3, .inl (x3 + 1))]) [2, 3, 1, 0] rfl (hC 0 (x3 + 1) K hs)
def F_MW_isAs_L77 (S : (Nat → Nat → Int32)) : Nat → Int32 → Int32 → (Int32)
  | 0, x2, x3 => x2
  | f + 1, x2, x3 => (if (24 : Int32) ≤ x3 then x2 else (if x2 = 0 then (F_MW_isAs_l77_106 (F_MW_isAs_L77 S f) S x3) else (if (S 97 (x3).toNatClampNeg) = (S 121 (x3).toNatClampNeg) then ((F_MW_isAs_L77 S f) 1 (x3 + 1)) else (F_MW_isAs_l77_106 (F_MW_isAs_L77 S f) S x3))))
def Sf_MW_isAs_L77 (S : (Nat → Nat → Int32)) : Nat → Int32 → Int32 → Prop
  | 0, _, _ => False
  | f + 1, x2, x3 => (if (24 : Int32) ≤ x3 then True else (if x2 = 0 then (Sf_MW_isAs_l77_106 (F_MW_isAs_L77 S f) (Sf_MW_isAs_L77 S f) S x3) else ((vp_in x3 24) ∧ ((vp_in x3 24) ∧ (if (S 97 (x3).toNatClampNeg) = (S 121 (x3).toNatClampNeg) then ((Sf_MW_isAs_L77 S f) 1 (x3 + 1)) else (Sf_MW_isAs_l77_106 (F_MW_isAs_L77 S f) (Sf_MW_isAs_L77 S f) S x3))))))
theorem t_MW_isAs_L77 {X : z_X} {Post : Option z_V → z_W → Prop} (M : z_M X zm_MW_isAs rm_MW_isAs Post) {T' : Nat → Nat × Nat} {G' : Nat → Nat → Option Nat} {n : Nat} {Q : (Int32) → Prop} (S : (Nat → Nat → Int32))  (hE : ∀ (y2 : Int32), Q y2 → z_G X zm_MW_isAs (114, [(2, .inl y2)], [], zW T' G' S n, 0, 0)) (f : Nat) : ∀ (x2 : Int32) (x3 : Int32), Q (F_MW_isAs_L77 S f x2 x3) → Sf_MW_isAs_L77 S f x2 x3 → z_G X zm_MW_isAs (77, [(0, z_r 86), (1, z_r 110), (2, .inl x2), (3, .inl x3)], [], zW T' G' S n, 0, 0) := by
  induction f with
  | zero => intro x2 x3 K hs; exact False.elim hs
  | succ f hC =>
    intro x2 x3 K hs
    rw [F_MW_isAs_L77] at K
    rw [Sf_MW_isAs_L77] at hs
    refine z_go2 M.1 77 [(.iload_n 3, 1), (.bipush 24, 2)] (80, [(0, z_r 86), (1, z_r 110), (2, .inl x2), (3, .inl x3)], [.inl 24, .inl x3], zW T' G' S n, 0, 0) (by decide +kernel) rfl ⟨trivial, trivial, trivial⟩ ?_
    refine z_icmp_ge 114 M.1 (off := 34) (by decide +kernel) (by decide) (fun c80 => ?_) (fun c80 => ?_)
    · rw [if_pos c80] at K hs
      exact z_lvs (lv' := [(2, .inl x2)]) [2] rfl (hE x2 K)
    · rw [if_neg c80] at K hs
      refine z_go2 M.1 83 [(.iload_n 2, 1)] (84, [(0, z_r 86), (1, z_r 110), (2, .inl x2), (3, .inl x3)], [.inl x2], zW T' G' S n, 0, 0) (by decide +kernel) rfl ⟨trivial, trivial⟩ ?_
      refine z_if_eq 106 M.1 (off := 22) (by decide +kernel) (by decide) (fun c84 => ?_) (fun c84 => ?_)
      · rw [if_pos c84] at K hs
        exact z_lvs (lv' := [(0, z_r 86), (1, z_r 110), (3, .inl x3)]) [0, 1, 3] rfl (t_MW_isAs_l77_106 M (F_MW_isAs_L77 S f) (Sf_MW_isAs_L77 S f) S x3 hE hC K hs)
      · rw [if_neg c84] at K hs
        refine z_go2 M.1 87 [(.aload_n 0, 1), (.getfield 43, 3), (.iload_n 3, 1), (.iaload, 1), (.aload_n 1, 1), (.getfield 43, 3), (.iload_n 3, 1), (.iaload, 1)] (99, [(0, z_r 86), (1, z_r 110), (2, .inl x2), (3, .inl x3)], [.inl (S 121 (x3).toNatClampNeg), .inl (S 97 (x3).toNatClampNeg)], zW T' G' S n, 0, 0) (by decide +kernel) rfl ⟨trivial, rfl, trivial, ⟨rfl, hs.1⟩, trivial, rfl, trivial, ⟨rfl, hs.2.1⟩, trivial⟩ ?_
        replace hs := hs.2.2
        refine z_icmp_ne 106 M.1 (off := 7) (by decide +kernel) (by decide) (fun c99 => ?_) (fun c99 => ?_)
        · rw [if_neg c99] at K hs
          exact z_lvs (lv' := [(0, z_r 86), (1, z_r 110), (3, .inl x3)]) [0, 1, 3] rfl (t_MW_isAs_l77_106 M (F_MW_isAs_L77 S f) (Sf_MW_isAs_L77 S f) S x3 hE hC K hs)
        · rw [if_pos c99] at K hs
          refine z_go2 M.1 102 [(.iconst 1, 1), (.goto 4, 3), (.istore_n 2, 1), (.iinc 3 1, 3), (.goto (-34), 3)] (77, [(3, .inl (x3 + 1)), (2, .inl 1), (0, z_r 86), (1, z_r 110)], [], zW T' G' S n, 0, 0) (by decide +kernel) rfl ⟨trivial, trivial, trivial, trivial, trivial, trivial⟩ ?_
          exact z_lvs (lv' := [(0, z_r 86), (1, z_r 110), (2, .inl 1), (3, .inl (x3 + 1))]) [2, 3, 1, 0] rfl (hC 1 (x3 + 1) K hs)
def F_MW_isAs (S : (Nat → Nat → Int32)) : Int32 := (match F_MW_isAs_L4 S 3000 1 0 with | y2_4 => (match F_MW_isAs_L37 S 3000 y2_4 0 with | y2_37 => (match F_MW_isAs_L77 S 3000 y2_37 0 with | y2_77 => y2_77)))
def Sf_MW_isAs (S : (Nat → Nat → Int32)) : Prop := (Sf_MW_isAs_L4 S 3000 1 0 ∧ (match F_MW_isAs_L4 S 3000 1 0 with | y2_4 => (Sf_MW_isAs_L37 S 3000 y2_4 0 ∧ (match F_MW_isAs_L37 S 3000 y2_4 0 with | y2_37 => (Sf_MW_isAs_L77 S 3000 y2_37 0 ∧ (match F_MW_isAs_L77 S 3000 y2_37 0 with | y2_77 => (narrow .boolean (.int y2_77) = .int y2_77 ∧ True)))))))
theorem c_MW_isAs (T' : Nat → Nat × Nat) (G' : Nat → Nat → Option Nat) (S : (Nat → Nat → Int32)) (n : Nat) (hs : Sf_MW_isAs S) : z_Run rm_MW_isAs zm_MW_isAs [z_r 86, z_r 110] (zW T' G' S n) (zq (some (.inl (F_MW_isAs S))) (zW T' G' S n)) := by
  refine z_body (by decide) zf_MW_ok (Nat.le_of_ble_eq_true rfl) (fun X M => ?_)
  obtain ⟨Q, hQ, K⟩ : ∃ Q : Int32 → Prop, (∀ v, Q v → zq (some (.inl (F_MW_isAs S))) (zW T' G' S n) (some (.inl v)) (zW T' G' S n)) ∧ Q (F_MW_isAs S) := ⟨fun o => F_MW_isAs S = o, fun v h => ⟨by rw [h], rfl⟩, rfl⟩
  show z_G X zm_MW_isAs (0, [(0, z_r 86), (1, z_r 110)], [], zW T' G' S n, 0, 0)
  unfold F_MW_isAs at K
  unfold Sf_MW_isAs at hs
  refine z_go2 M.1 0 [(.iconst 1, 1), (.istore_n 2, 1), (.iconst 0, 1), (.istore_n 3, 1)] (4, [(3, .inl 0), (2, .inl 1), (0, z_r 86), (1, z_r 110)], [], zW T' G' S n, 0, 0) (by decide +kernel) rfl ⟨trivial, trivial, trivial, trivial, trivial⟩ ?_
  refine z_lvs (lv' := [(0, z_r 86), (1, z_r 110), (2, .inl 1), (3, .inl 0)]) [2, 3, 1, 0] rfl ?_
  refine t_MW_isAs_L4 M (Q := fun o => F_MW_isAs_L4 S 3000 1 0 = o) S (fun y2_4 hL4 => ?_) 3000 1 0 rfl hs.1
  replace hs := hs.2
  rw [hL4] at K
  try rw [hL4] at hs
  try dsimp only at K hs
  refine z_go2 M.1 35 [(.iconst 0, 1), (.istore_n 3, 1)] (37, [(3, .inl 0), (0, z_r 86), (1, z_r 110), (2, .inl y2_4)], [], zW T' G' S n, 0, 0) (by decide +kernel) rfl ⟨trivial, trivial, trivial⟩ ?_
  refine z_lvs (lv' := [(0, z_r 86), (1, z_r 110), (2, .inl y2_4), (3, .inl 0)]) [1, 2, 3, 0] rfl ?_
  refine t_MW_isAs_L37 M (Q := fun o => F_MW_isAs_L37 S 3000 y2_4 0 = o) S (fun y2_37 hL37 => ?_) 3000 y2_4 0 rfl hs.1
  replace hs := hs.2
  rw [hL37] at K
  try rw [hL37] at hs
  try dsimp only at K hs
  refine z_go2 M.1 75 [(.iconst 0, 1), (.istore_n 3, 1)] (77, [(3, .inl 0), (0, z_r 86), (1, z_r 110), (2, .inl y2_37)], [], zW T' G' S n, 0, 0) (by decide +kernel) rfl ⟨trivial, trivial, trivial⟩ ?_
  refine z_lvs (lv' := [(0, z_r 86), (1, z_r 110), (2, .inl y2_37), (3, .inl 0)]) [1, 2, 3, 0] rfl ?_
  refine t_MW_isAs_L77 M (Q := fun o => F_MW_isAs_L77 S 3000 y2_37 0 = o) S (fun y2_77 hL77 => ?_) 3000 y2_37 0 rfl hs.1
  replace hs := hs.2
  rw [hL77] at K
  try rw [hL77] at hs
  try dsimp only at K hs
  refine z_go2 M.1 114 [(.iload_n 2, 1)] (115, [(2, .inl y2_77)], [.inl y2_77], zW T' G' S n, 0, 0) (by decide +kernel) rfl ⟨trivial, trivial⟩ ?_
  exact z_iret M (by decide +kernel) .boolean rfl hs.1 (by decide) (by decide) (hQ _ K)

-- TrackHouseModel$Flow.has
abbrev rm_MF_has : Room := zr 0
def F_MF_has (fa : Nat) (S : (Nat → Nat → Int32)) (p1 : Int32) : Int32 := (if (((S fa 0) >>> (p1 &&& 31)) &&& 1) = 1 then 1 else 0)
theorem c_MF_has (T' : Nat → Nat × Nat) (G' : Nat → Nat → Option Nat) (n : Nat) (fa : Nat) (hfa : zFo T' G' fa) (S : (Nat → Nat → Int32)) (p1 : Int32) : z_Run rm_MF_has zm_MF_has [z_r fa, .inl p1] (zW T' G' S n) (zq (some (.inl (F_MF_has fa S p1))) (zW T' G' S n)) := by
  refine z_body (by decide) zf_MF_ok (Nat.le_of_ble_eq_true rfl) (fun X M => ?_)
  obtain ⟨Q, hQ, K⟩ : ∃ Q : Int32 → Prop, (∀ v, Q v → zq (some (.inl (F_MF_has fa S p1))) (zW T' G' S n) (some (.inl v)) (zW T' G' S n)) ∧ Q (F_MF_has fa S p1) := ⟨fun o => F_MF_has fa S p1 = o, fun v h => ⟨by rw [h], rfl⟩, rfl⟩
  show z_G X zm_MF_has (0, [(0, z_r fa), (1, .inl p1)], [], zW T' G' S n, 0, 0)
  unfold F_MF_has at K
  refine z_go2 M.1 0 [(.aload_n 0, 1)] (1, [(0, z_r fa), (1, .inl p1)], [z_r fa], zW T' G' S n, 0, 0) (by decide +kernel) rfl ⟨trivial, trivial⟩ ?_
  refine z_getI M.1 (idx := 7) (ci := 12) (j := 0) (a := fa) (x := (S fa 0)) (by decide +kernel) (by decide) hfa.t rfl ?_
  refine z_go2 M.1 4 [(.iload_n 1, 1), (.ishr, 1), (.iconst 1, 1), (.iand, 1), (.iconst 1, 1)] (9, [(0, z_r fa), (1, .inl p1)], [.inl 1, .inl (((S fa 0) >>> (p1 &&& 31)) &&& 1)], zW T' G' S n, 0, 0) (by decide +kernel) rfl ⟨trivial, trivial, trivial, trivial, trivial, trivial⟩ ?_
  refine z_icmp_ne 16 M.1 (off := 7) (by decide +kernel) (by decide) (fun c9 => ?_) (fun c9 => ?_)
  · rw [if_neg c9] at K
    refine z_go2 M.1 16 [(.iconst 0, 1)] (17, [(0, z_r fa), (1, .inl p1)], [.inl 0], zW T' G' S n, 0, 0) (by decide +kernel) rfl ⟨trivial, trivial⟩ ?_
    exact z_iret M (by decide +kernel) .boolean rfl rfl (by decide) (by decide) (hQ _ K)
  · rw [if_pos c9] at K
    refine z_go2 M.1 12 [(.iconst 1, 1), (.goto 4, 3)] (17, [(0, z_r fa), (1, .inl p1)], [.inl 1], zW T' G' S n, 0, 0) (by decide +kernel) rfl ⟨trivial, trivial, trivial⟩ ?_
    exact z_iret M (by decide +kernel) .boolean rfl rfl (by decide) (by decide) (hQ _ K)

-- TrackHouseModel$Flow.add
abbrev rm_MF_add : Room := zr 0
def F_MF_add (fa : Nat) (S : (Nat → Nat → Int32)) (p1 : Int32) (p2 : Int32) (p3 : Int32) (p4 : Int32) (p5 : Int32) (p6 : Int32) : (Nat → Nat → Int32) := (z_uS (z_uS (z_uS (z_uS (z_uS (z_uS (z_uS S (fa + 1) (S fa 1).toNatClampNeg p1) (fa + 2) ((z_uS S (fa + 1) (S fa 1).toNatClampNeg p1) fa 1).toNatClampNeg p2) (fa + 3) ((z_uS (z_uS S (fa + 1) (S fa 1).toNatClampNeg p1) (fa + 2) ((z_uS S (fa + 1) (S fa 1).toNatClampNeg p1) fa 1).toNatClampNeg p2) fa 1).toNatClampNeg p3) (fa + 4) ((z_uS (z_uS (z_uS S (fa + 1) (S fa 1).toNatClampNeg p1) (fa + 2) ((z_uS S (fa + 1) (S fa 1).toNatClampNeg p1) fa 1).toNatClampNeg p2) (fa + 3) ((z_uS (z_uS S (fa + 1) (S fa 1).toNatClampNeg p1) (fa + 2) ((z_uS S (fa + 1) (S fa 1).toNatClampNeg p1) fa 1).toNatClampNeg p2) fa 1).toNatClampNeg p3) fa 1).toNatClampNeg p4) (fa + 5) ((z_uS (z_uS (z_uS (z_uS S (fa + 1) (S fa 1).toNatClampNeg p1) (fa + 2) ((z_uS S (fa + 1) (S fa 1).toNatClampNeg p1) fa 1).toNatClampNeg p2) (fa + 3) ((z_uS (z_uS S (fa + 1) (S fa 1).toNatClampNeg p1) (fa + 2) ((z_uS S (fa + 1) (S fa 1).toNatClampNeg p1) fa 1).toNatClampNeg p2) fa 1).toNatClampNeg p3) (fa + 4) ((z_uS (z_uS (z_uS S (fa + 1) (S fa 1).toNatClampNeg p1) (fa + 2) ((z_uS S (fa + 1) (S fa 1).toNatClampNeg p1) fa 1).toNatClampNeg p2) (fa + 3) ((z_uS (z_uS S (fa + 1) (S fa 1).toNatClampNeg p1) (fa + 2) ((z_uS S (fa + 1) (S fa 1).toNatClampNeg p1) fa 1).toNatClampNeg p2) fa 1).toNatClampNeg p3) fa 1).toNatClampNeg p4) fa 1).toNatClampNeg p5) (fa + 6) ((z_uS (z_uS (z_uS (z_uS (z_uS S (fa + 1) (S fa 1).toNatClampNeg p1) (fa + 2) ((z_uS S (fa + 1) (S fa 1).toNatClampNeg p1) fa 1).toNatClampNeg p2) (fa + 3) ((z_uS (z_uS S (fa + 1) (S fa 1).toNatClampNeg p1) (fa + 2) ((z_uS S (fa + 1) (S fa 1).toNatClampNeg p1) fa 1).toNatClampNeg p2) fa 1).toNatClampNeg p3) (fa + 4) ((z_uS (z_uS (z_uS S (fa + 1) (S fa 1).toNatClampNeg p1) (fa + 2) ((z_uS S (fa + 1) (S fa 1).toNatClampNeg p1) fa 1).toNatClampNeg p2) (fa + 3) ((z_uS (z_uS S (fa + 1) (S fa 1).toNatClampNeg p1) (fa + 2) ((z_uS S (fa + 1) (S fa 1).toNatClampNeg p1) fa 1).toNatClampNeg p2) fa 1).toNatClampNeg p3) fa 1).toNatClampNeg p4) (fa + 5) ((z_uS (z_uS (z_uS (z_uS S (fa + 1) (S fa 1).toNatClampNeg p1) (fa + 2) ((z_uS S (fa + 1) (S fa 1).toNatClampNeg p1) fa 1).toNatClampNeg p2) (fa + 3) ((z_uS (z_uS S (fa + 1) (S fa 1).toNatClampNeg p1) (fa + 2) ((z_uS S (fa + 1) (S fa 1).toNatClampNeg p1) fa 1).toNatClampNeg p2) fa 1).toNatClampNeg p3) (fa + 4) ((z_uS (z_uS (z_uS S (fa + 1) (S fa 1).toNatClampNeg p1) (fa + 2) ((z_uS S (fa + 1) (S fa 1).toNatClampNeg p1) fa 1).toNatClampNeg p2) (fa + 3) ((z_uS (z_uS S (fa + 1) (S fa 1).toNatClampNeg p1) (fa + 2) ((z_uS S (fa + 1) (S fa 1).toNatClampNeg p1) fa 1).toNatClampNeg p2) fa 1).toNatClampNeg p3) fa 1).toNatClampNeg p4) fa 1).toNatClampNeg p5) fa 1).toNatClampNeg p6) fa 1 (((z_uS (z_uS (z_uS (z_uS (z_uS (z_uS S (fa + 1) (S fa 1).toNatClampNeg p1) (fa + 2) ((z_uS S (fa + 1) (S fa 1).toNatClampNeg p1) fa 1).toNatClampNeg p2) (fa + 3) ((z_uS (z_uS S (fa + 1) (S fa 1).toNatClampNeg p1) (fa + 2) ((z_uS S (fa + 1) (S fa 1).toNatClampNeg p1) fa 1).toNatClampNeg p2) fa 1).toNatClampNeg p3) (fa + 4) ((z_uS (z_uS (z_uS S (fa + 1) (S fa 1).toNatClampNeg p1) (fa + 2) ((z_uS S (fa + 1) (S fa 1).toNatClampNeg p1) fa 1).toNatClampNeg p2) (fa + 3) ((z_uS (z_uS S (fa + 1) (S fa 1).toNatClampNeg p1) (fa + 2) ((z_uS S (fa + 1) (S fa 1).toNatClampNeg p1) fa 1).toNatClampNeg p2) fa 1).toNatClampNeg p3) fa 1).toNatClampNeg p4) (fa + 5) ((z_uS (z_uS (z_uS (z_uS S (fa + 1) (S fa 1).toNatClampNeg p1) (fa + 2) ((z_uS S (fa + 1) (S fa 1).toNatClampNeg p1) fa 1).toNatClampNeg p2) (fa + 3) ((z_uS (z_uS S (fa + 1) (S fa 1).toNatClampNeg p1) (fa + 2) ((z_uS S (fa + 1) (S fa 1).toNatClampNeg p1) fa 1).toNatClampNeg p2) fa 1).toNatClampNeg p3) (fa + 4) ((z_uS (z_uS (z_uS S (fa + 1) (S fa 1).toNatClampNeg p1) (fa + 2) ((z_uS S (fa + 1) (S fa 1).toNatClampNeg p1) fa 1).toNatClampNeg p2) (fa + 3) ((z_uS (z_uS S (fa + 1) (S fa 1).toNatClampNeg p1) (fa + 2) ((z_uS S (fa + 1) (S fa 1).toNatClampNeg p1) fa 1).toNatClampNeg p2) fa 1).toNatClampNeg p3) fa 1).toNatClampNeg p4) fa 1).toNatClampNeg p5) (fa + 6) ((z_uS (z_uS (z_uS (z_uS (z_uS S (fa + 1) (S fa 1).toNatClampNeg p1) (fa + 2) ((z_uS S (fa + 1) (S fa 1).toNatClampNeg p1) fa 1).toNatClampNeg p2) (fa + 3) ((z_uS (z_uS S (fa + 1) (S fa 1).toNatClampNeg p1) (fa + 2) ((z_uS S (fa + 1) (S fa 1).toNatClampNeg p1) fa 1).toNatClampNeg p2) fa 1).toNatClampNeg p3) (fa + 4) ((z_uS (z_uS (z_uS S (fa + 1) (S fa 1).toNatClampNeg p1) (fa + 2) ((z_uS S (fa + 1) (S fa 1).toNatClampNeg p1) fa 1).toNatClampNeg p2) (fa + 3) ((z_uS (z_uS S (fa + 1) (S fa 1).toNatClampNeg p1) (fa + 2) ((z_uS S (fa + 1) (S fa 1).toNatClampNeg p1) fa 1).toNatClampNeg p2) fa 1).toNatClampNeg p3) fa 1).toNatClampNeg p4) (fa + 5) ((z_uS (z_uS (z_uS (z_uS S (fa + 1) (S fa 1).toNatClampNeg p1) (fa + 2) ((z_uS S (fa + 1) (S fa 1).toNatClampNeg p1) fa 1).toNatClampNeg p2) (fa + 3) ((z_uS (z_uS S (fa + 1) (S fa 1).toNatClampNeg p1) (fa + 2) ((z_uS S (fa + 1) (S fa 1).toNatClampNeg p1) fa 1).toNatClampNeg p2) fa 1).toNatClampNeg p3) (fa + 4) ((z_uS (z_uS (z_uS S (fa + 1) (S fa 1).toNatClampNeg p1) (fa + 2) ((z_uS S (fa + 1) (S fa 1).toNatClampNeg p1) fa 1).toNatClampNeg p2) (fa + 3) ((z_uS (z_uS S (fa + 1) (S fa 1).toNatClampNeg p1) (fa + 2) ((z_uS S (fa + 1) (S fa 1).toNatClampNeg p1) fa 1).toNatClampNeg p2) fa 1).toNatClampNeg p3) fa 1).toNatClampNeg p4) fa 1).toNatClampNeg p5) fa 1).toNatClampNeg p6) fa 1) + 1))
def Sf_MF_add (fa : Nat) (S : (Nat → Nat → Int32)) (p1 : Int32) (p2 : Int32) (p3 : Int32) (p4 : Int32) (p5 : Int32) (p6 : Int32) : Prop := ((vp_in (S fa 1) 8) ∧ ((vp_in ((z_uS S (fa + 1) (S fa 1).toNatClampNeg p1) fa 1) 8) ∧ ((vp_in ((z_uS (z_uS S (fa + 1) (S fa 1).toNatClampNeg p1) (fa + 2) ((z_uS S (fa + 1) (S fa 1).toNatClampNeg p1) fa 1).toNatClampNeg p2) fa 1) 8) ∧ ((vp_in ((z_uS (z_uS (z_uS S (fa + 1) (S fa 1).toNatClampNeg p1) (fa + 2) ((z_uS S (fa + 1) (S fa 1).toNatClampNeg p1) fa 1).toNatClampNeg p2) (fa + 3) ((z_uS (z_uS S (fa + 1) (S fa 1).toNatClampNeg p1) (fa + 2) ((z_uS S (fa + 1) (S fa 1).toNatClampNeg p1) fa 1).toNatClampNeg p2) fa 1).toNatClampNeg p3) fa 1) 8) ∧ ((vp_in ((z_uS (z_uS (z_uS (z_uS S (fa + 1) (S fa 1).toNatClampNeg p1) (fa + 2) ((z_uS S (fa + 1) (S fa 1).toNatClampNeg p1) fa 1).toNatClampNeg p2) (fa + 3) ((z_uS (z_uS S (fa + 1) (S fa 1).toNatClampNeg p1) (fa + 2) ((z_uS S (fa + 1) (S fa 1).toNatClampNeg p1) fa 1).toNatClampNeg p2) fa 1).toNatClampNeg p3) (fa + 4) ((z_uS (z_uS (z_uS S (fa + 1) (S fa 1).toNatClampNeg p1) (fa + 2) ((z_uS S (fa + 1) (S fa 1).toNatClampNeg p1) fa 1).toNatClampNeg p2) (fa + 3) ((z_uS (z_uS S (fa + 1) (S fa 1).toNatClampNeg p1) (fa + 2) ((z_uS S (fa + 1) (S fa 1).toNatClampNeg p1) fa 1).toNatClampNeg p2) fa 1).toNatClampNeg p3) fa 1).toNatClampNeg p4) fa 1) 8) ∧ ((vp_in ((z_uS (z_uS (z_uS (z_uS (z_uS S (fa + 1) (S fa 1).toNatClampNeg p1) (fa + 2) ((z_uS S (fa + 1) (S fa 1).toNatClampNeg p1) fa 1).toNatClampNeg p2) (fa + 3) ((z_uS (z_uS S (fa + 1) (S fa 1).toNatClampNeg p1) (fa + 2) ((z_uS S (fa + 1) (S fa 1).toNatClampNeg p1) fa 1).toNatClampNeg p2) fa 1).toNatClampNeg p3) (fa + 4) ((z_uS (z_uS (z_uS S (fa + 1) (S fa 1).toNatClampNeg p1) (fa + 2) ((z_uS S (fa + 1) (S fa 1).toNatClampNeg p1) fa 1).toNatClampNeg p2) (fa + 3) ((z_uS (z_uS S (fa + 1) (S fa 1).toNatClampNeg p1) (fa + 2) ((z_uS S (fa + 1) (S fa 1).toNatClampNeg p1) fa 1).toNatClampNeg p2) fa 1).toNatClampNeg p3) fa 1).toNatClampNeg p4) (fa + 5) ((z_uS (z_uS (z_uS (z_uS S (fa + 1) (S fa 1).toNatClampNeg p1) (fa + 2) ((z_uS S (fa + 1) (S fa 1).toNatClampNeg p1) fa 1).toNatClampNeg p2) (fa + 3) ((z_uS (z_uS S (fa + 1) (S fa 1).toNatClampNeg p1) (fa + 2) ((z_uS S (fa + 1) (S fa 1).toNatClampNeg p1) fa 1).toNatClampNeg p2) fa 1).toNatClampNeg p3) (fa + 4) ((z_uS (z_uS (z_uS S (fa + 1) (S fa 1).toNatClampNeg p1) (fa + 2) ((z_uS S (fa + 1) (S fa 1).toNatClampNeg p1) fa 1).toNatClampNeg p2) (fa + 3) ((z_uS (z_uS S (fa + 1) (S fa 1).toNatClampNeg p1) (fa + 2) ((z_uS S (fa + 1) (S fa 1).toNatClampNeg p1) fa 1).toNatClampNeg p2) fa 1).toNatClampNeg p3) fa 1).toNatClampNeg p4) fa 1).toNatClampNeg p5) fa 1) 8) ∧ True))))))
theorem c_MF_add (T' : Nat → Nat × Nat) (G' : Nat → Nat → Option Nat) (n : Nat) (fa : Nat) (hfa : zFo T' G' fa) (S : (Nat → Nat → Int32)) (p1 : Int32) (p2 : Int32) (p3 : Int32) (p4 : Int32) (p5 : Int32) (p6 : Int32) (hs : Sf_MF_add fa S p1 p2 p3 p4 p5 p6) : z_Run rm_MF_add zm_MF_add [z_r fa, .inl p1, .inl p2, .inl p3, .inl p4, .inl p5, .inl p6] (zW T' G' S n) (zq none (zW T' G' (F_MF_add fa S p1 p2 p3 p4 p5 p6) n)) := by
  refine z_body (by decide) zf_MF_ok (Nat.le_of_ble_eq_true rfl) (fun X M => ?_)
  obtain ⟨Q, hQ, K⟩ : ∃ Q : (Nat → Nat → Int32) → Prop, (∀ S', Q S' → zq none (zW T' G' (F_MF_add fa S p1 p2 p3 p4 p5 p6) n) none (zW T' G' S' n)) ∧ Q (F_MF_add fa S p1 p2 p3 p4 p5 p6) := ⟨fun o => F_MF_add fa S p1 p2 p3 p4 p5 p6 = o, fun S' h => ⟨rfl, by rw [h]⟩, rfl⟩
  show z_G X zm_MF_add (0, [(0, z_r fa), (1, .inl p1), (2, .inl p2), (3, .inl p3), (4, .inl p4), (5, .inl p5), (6, .inl p6)], [], zW T' G' S n, 0, 0)
  unfold F_MF_add at K
  unfold Sf_MF_add at hs
  refine z_go2 M.1 0 [(.aload_n 0, 1)] (1, [(0, z_r fa), (1, .inl p1), (2, .inl p2), (3, .inl p3), (4, .inl p4), (5, .inl p5), (6, .inl p6)], [z_r fa], zW T' G' S n, 0, 0) (by decide +kernel) rfl ⟨trivial, trivial⟩ ?_
  refine z_getR M.1 (idx := 13) (ci := 12) (j := 2) (a := fa) (r := (fa + 1)) (by decide +kernel) (by decide) hfa.t (hfa.g 2 (by decide) (by decide)) ?_
  refine z_go2 M.1 4 [(.aload_n 0, 1)] (5, [(0, z_r fa), (1, .inl p1), (2, .inl p2), (3, .inl p3), (4, .inl p4), (5, .inl p5), (6, .inl p6)], [z_r fa, z_r (fa + 1)], zW T' G' S n, 0, 0) (by decide +kernel) rfl ⟨trivial, trivial⟩ ?_
  refine z_getI M.1 (idx := 35) (ci := 12) (j := 1) (a := fa) (x := (S fa 1)) (by decide +kernel) (by decide) hfa.t rfl ?_
  refine z_go2 M.1 8 [(.iload_n 1, 1)] (9, [(0, z_r fa), (1, .inl p1), (2, .inl p2), (3, .inl p3), (4, .inl p4), (5, .inl p5), (6, .inl p6)], [.inl p1, .inl (S fa 1), z_r (fa + 1)], zW T' G' S n, 0, 0) (by decide +kernel) rfl ⟨trivial, trivial⟩ ?_
  refine z_iast M.1 (a := (fa + 1)) (len := 8) (by decide +kernel) (hfa.a 1 (by decide) (by decide)) hs.1 ?_
  show z_G X zm_MF_add (10, [(0, z_r fa), (1, .inl p1), (2, .inl p2), (3, .inl p3), (4, .inl p4), (5, .inl p5), (6, .inl p6)], [], zW T' G' (z_uS S (fa + 1) (S fa 1).toNatClampNeg p1) n, 0, 0)
  replace hs := hs.2
  refine z_go2 M.1 10 [(.aload_n 0, 1)] (11, [(0, z_r fa), (1, .inl p1), (2, .inl p2), (3, .inl p3), (4, .inl p4), (5, .inl p5), (6, .inl p6)], [z_r fa], zW T' G' (z_uS S (fa + 1) (S fa 1).toNatClampNeg p1) n, 0, 0) (by decide +kernel) rfl ⟨trivial, trivial⟩ ?_
  refine z_getR M.1 (idx := 17) (ci := 12) (j := 3) (a := fa) (r := (fa + 2)) (by decide +kernel) (by decide) hfa.t (hfa.g 3 (by decide) (by decide)) ?_
  refine z_go2 M.1 14 [(.aload_n 0, 1)] (15, [(0, z_r fa), (1, .inl p1), (2, .inl p2), (3, .inl p3), (4, .inl p4), (5, .inl p5), (6, .inl p6)], [z_r fa, z_r (fa + 2)], zW T' G' (z_uS S (fa + 1) (S fa 1).toNatClampNeg p1) n, 0, 0) (by decide +kernel) rfl ⟨trivial, trivial⟩ ?_
  refine z_getI M.1 (idx := 35) (ci := 12) (j := 1) (a := fa) (x := ((z_uS S (fa + 1) (S fa 1).toNatClampNeg p1) fa 1)) (by decide +kernel) (by decide) hfa.t rfl ?_
  refine z_go2 M.1 18 [(.iload_n 2, 1)] (19, [(0, z_r fa), (1, .inl p1), (2, .inl p2), (3, .inl p3), (4, .inl p4), (5, .inl p5), (6, .inl p6)], [.inl p2, .inl ((z_uS S (fa + 1) (S fa 1).toNatClampNeg p1) fa 1), z_r (fa + 2)], zW T' G' (z_uS S (fa + 1) (S fa 1).toNatClampNeg p1) n, 0, 0) (by decide +kernel) rfl ⟨trivial, trivial⟩ ?_
  refine z_iast M.1 (a := (fa + 2)) (len := 8) (by decide +kernel) (hfa.a 2 (by decide) (by decide)) hs.1 ?_
  show z_G X zm_MF_add (20, [(0, z_r fa), (1, .inl p1), (2, .inl p2), (3, .inl p3), (4, .inl p4), (5, .inl p5), (6, .inl p6)], [], zW T' G' (z_uS (z_uS S (fa + 1) (S fa 1).toNatClampNeg p1) (fa + 2) ((z_uS S (fa + 1) (S fa 1).toNatClampNeg p1) fa 1).toNatClampNeg p2) n, 0, 0)
  replace hs := hs.2
  refine z_go2 M.1 20 [(.aload_n 0, 1)] (21, [(0, z_r fa), (1, .inl p1), (2, .inl p2), (3, .inl p3), (4, .inl p4), (5, .inl p5), (6, .inl p6)], [z_r fa], zW T' G' (z_uS (z_uS S (fa + 1) (S fa 1).toNatClampNeg p1) (fa + 2) ((z_uS S (fa + 1) (S fa 1).toNatClampNeg p1) fa 1).toNatClampNeg p2) n, 0, 0) (by decide +kernel) rfl ⟨trivial, trivial⟩ ?_
  refine z_getR M.1 (idx := 20) (ci := 12) (j := 4) (a := fa) (r := (fa + 3)) (by decide +kernel) (by decide) hfa.t (hfa.g 4 (by decide) (by decide)) ?_
  refine z_go2 M.1 24 [(.aload_n 0, 1)] (25, [(0, z_r fa), (1, .inl p1), (2, .inl p2), (3, .inl p3), (4, .inl p4), (5, .inl p5), (6, .inl p6)], [z_r fa, z_r (fa + 3)], zW T' G' (z_uS (z_uS S (fa + 1) (S fa 1).toNatClampNeg p1) (fa + 2) ((z_uS S (fa + 1) (S fa 1).toNatClampNeg p1) fa 1).toNatClampNeg p2) n, 0, 0) (by decide +kernel) rfl ⟨trivial, trivial⟩ ?_
  refine z_getI M.1 (idx := 35) (ci := 12) (j := 1) (a := fa) (x := ((z_uS (z_uS S (fa + 1) (S fa 1).toNatClampNeg p1) (fa + 2) ((z_uS S (fa + 1) (S fa 1).toNatClampNeg p1) fa 1).toNatClampNeg p2) fa 1)) (by decide +kernel) (by decide) hfa.t rfl ?_
  refine z_go2 M.1 28 [(.iload_n 3, 1)] (29, [(0, z_r fa), (1, .inl p1), (2, .inl p2), (3, .inl p3), (4, .inl p4), (5, .inl p5), (6, .inl p6)], [.inl p3, .inl ((z_uS (z_uS S (fa + 1) (S fa 1).toNatClampNeg p1) (fa + 2) ((z_uS S (fa + 1) (S fa 1).toNatClampNeg p1) fa 1).toNatClampNeg p2) fa 1), z_r (fa + 3)], zW T' G' (z_uS (z_uS S (fa + 1) (S fa 1).toNatClampNeg p1) (fa + 2) ((z_uS S (fa + 1) (S fa 1).toNatClampNeg p1) fa 1).toNatClampNeg p2) n, 0, 0) (by decide +kernel) rfl ⟨trivial, trivial⟩ ?_
  refine z_iast M.1 (a := (fa + 3)) (len := 8) (by decide +kernel) (hfa.a 3 (by decide) (by decide)) hs.1 ?_
  show z_G X zm_MF_add (30, [(0, z_r fa), (1, .inl p1), (2, .inl p2), (3, .inl p3), (4, .inl p4), (5, .inl p5), (6, .inl p6)], [], zW T' G' (z_uS (z_uS (z_uS S (fa + 1) (S fa 1).toNatClampNeg p1) (fa + 2) ((z_uS S (fa + 1) (S fa 1).toNatClampNeg p1) fa 1).toNatClampNeg p2) (fa + 3) ((z_uS (z_uS S (fa + 1) (S fa 1).toNatClampNeg p1) (fa + 2) ((z_uS S (fa + 1) (S fa 1).toNatClampNeg p1) fa 1).toNatClampNeg p2) fa 1).toNatClampNeg p3) n, 0, 0)
  replace hs := hs.2
  refine z_go2 M.1 30 [(.aload_n 0, 1)] (31, [(0, z_r fa), (1, .inl p1), (2, .inl p2), (3, .inl p3), (4, .inl p4), (5, .inl p5), (6, .inl p6)], [z_r fa], zW T' G' (z_uS (z_uS (z_uS S (fa + 1) (S fa 1).toNatClampNeg p1) (fa + 2) ((z_uS S (fa + 1) (S fa 1).toNatClampNeg p1) fa 1).toNatClampNeg p2) (fa + 3) ((z_uS (z_uS S (fa + 1) (S fa 1).toNatClampNeg p1) (fa + 2) ((z_uS S (fa + 1) (S fa 1).toNatClampNeg p1) fa 1).toNatClampNeg p2) fa 1).toNatClampNeg p3) n, 0, 0) (by decide +kernel) rfl ⟨trivial, trivial⟩ ?_
  refine z_getR M.1 (idx := 23) (ci := 12) (j := 5) (a := fa) (r := (fa + 4)) (by decide +kernel) (by decide) hfa.t (hfa.g 5 (by decide) (by decide)) ?_
  refine z_go2 M.1 34 [(.aload_n 0, 1)] (35, [(0, z_r fa), (1, .inl p1), (2, .inl p2), (3, .inl p3), (4, .inl p4), (5, .inl p5), (6, .inl p6)], [z_r fa, z_r (fa + 4)], zW T' G' (z_uS (z_uS (z_uS S (fa + 1) (S fa 1).toNatClampNeg p1) (fa + 2) ((z_uS S (fa + 1) (S fa 1).toNatClampNeg p1) fa 1).toNatClampNeg p2) (fa + 3) ((z_uS (z_uS S (fa + 1) (S fa 1).toNatClampNeg p1) (fa + 2) ((z_uS S (fa + 1) (S fa 1).toNatClampNeg p1) fa 1).toNatClampNeg p2) fa 1).toNatClampNeg p3) n, 0, 0) (by decide +kernel) rfl ⟨trivial, trivial⟩ ?_
  refine z_getI M.1 (idx := 35) (ci := 12) (j := 1) (a := fa) (x := ((z_uS (z_uS (z_uS S (fa + 1) (S fa 1).toNatClampNeg p1) (fa + 2) ((z_uS S (fa + 1) (S fa 1).toNatClampNeg p1) fa 1).toNatClampNeg p2) (fa + 3) ((z_uS (z_uS S (fa + 1) (S fa 1).toNatClampNeg p1) (fa + 2) ((z_uS S (fa + 1) (S fa 1).toNatClampNeg p1) fa 1).toNatClampNeg p2) fa 1).toNatClampNeg p3) fa 1)) (by decide +kernel) (by decide) hfa.t rfl ?_
  refine z_go2 M.1 38 [(.iload 4, 2)] (40, [(0, z_r fa), (1, .inl p1), (2, .inl p2), (3, .inl p3), (4, .inl p4), (5, .inl p5), (6, .inl p6)], [.inl p4, .inl ((z_uS (z_uS (z_uS S (fa + 1) (S fa 1).toNatClampNeg p1) (fa + 2) ((z_uS S (fa + 1) (S fa 1).toNatClampNeg p1) fa 1).toNatClampNeg p2) (fa + 3) ((z_uS (z_uS S (fa + 1) (S fa 1).toNatClampNeg p1) (fa + 2) ((z_uS S (fa + 1) (S fa 1).toNatClampNeg p1) fa 1).toNatClampNeg p2) fa 1).toNatClampNeg p3) fa 1), z_r (fa + 4)], zW T' G' (z_uS (z_uS (z_uS S (fa + 1) (S fa 1).toNatClampNeg p1) (fa + 2) ((z_uS S (fa + 1) (S fa 1).toNatClampNeg p1) fa 1).toNatClampNeg p2) (fa + 3) ((z_uS (z_uS S (fa + 1) (S fa 1).toNatClampNeg p1) (fa + 2) ((z_uS S (fa + 1) (S fa 1).toNatClampNeg p1) fa 1).toNatClampNeg p2) fa 1).toNatClampNeg p3) n, 0, 0) (by decide +kernel) rfl ⟨trivial, trivial⟩ ?_
  refine z_iast M.1 (a := (fa + 4)) (len := 8) (by decide +kernel) (hfa.a 4 (by decide) (by decide)) hs.1 ?_
  show z_G X zm_MF_add (41, [(0, z_r fa), (1, .inl p1), (2, .inl p2), (3, .inl p3), (4, .inl p4), (5, .inl p5), (6, .inl p6)], [], zW T' G' (z_uS (z_uS (z_uS (z_uS S (fa + 1) (S fa 1).toNatClampNeg p1) (fa + 2) ((z_uS S (fa + 1) (S fa 1).toNatClampNeg p1) fa 1).toNatClampNeg p2) (fa + 3) ((z_uS (z_uS S (fa + 1) (S fa 1).toNatClampNeg p1) (fa + 2) ((z_uS S (fa + 1) (S fa 1).toNatClampNeg p1) fa 1).toNatClampNeg p2) fa 1).toNatClampNeg p3) (fa + 4) ((z_uS (z_uS (z_uS S (fa + 1) (S fa 1).toNatClampNeg p1) (fa + 2) ((z_uS S (fa + 1) (S fa 1).toNatClampNeg p1) fa 1).toNatClampNeg p2) (fa + 3) ((z_uS (z_uS S (fa + 1) (S fa 1).toNatClampNeg p1) (fa + 2) ((z_uS S (fa + 1) (S fa 1).toNatClampNeg p1) fa 1).toNatClampNeg p2) fa 1).toNatClampNeg p3) fa 1).toNatClampNeg p4) n, 0, 0)
  replace hs := hs.2
  refine z_go2 M.1 41 [(.aload_n 0, 1)] (42, [(0, z_r fa), (1, .inl p1), (2, .inl p2), (3, .inl p3), (4, .inl p4), (5, .inl p5), (6, .inl p6)], [z_r fa], zW T' G' (z_uS (z_uS (z_uS (z_uS S (fa + 1) (S fa 1).toNatClampNeg p1) (fa + 2) ((z_uS S (fa + 1) (S fa 1).toNatClampNeg p1) fa 1).toNatClampNeg p2) (fa + 3) ((z_uS (z_uS S (fa + 1) (S fa 1).toNatClampNeg p1) (fa + 2) ((z_uS S (fa + 1) (S fa 1).toNatClampNeg p1) fa 1).toNatClampNeg p2) fa 1).toNatClampNeg p3) (fa + 4) ((z_uS (z_uS (z_uS S (fa + 1) (S fa 1).toNatClampNeg p1) (fa + 2) ((z_uS S (fa + 1) (S fa 1).toNatClampNeg p1) fa 1).toNatClampNeg p2) (fa + 3) ((z_uS (z_uS S (fa + 1) (S fa 1).toNatClampNeg p1) (fa + 2) ((z_uS S (fa + 1) (S fa 1).toNatClampNeg p1) fa 1).toNatClampNeg p2) fa 1).toNatClampNeg p3) fa 1).toNatClampNeg p4) n, 0, 0) (by decide +kernel) rfl ⟨trivial, trivial⟩ ?_
  refine z_getR M.1 (idx := 26) (ci := 12) (j := 6) (a := fa) (r := (fa + 5)) (by decide +kernel) (by decide) hfa.t (hfa.g 6 (by decide) (by decide)) ?_
  refine z_go2 M.1 45 [(.aload_n 0, 1)] (46, [(0, z_r fa), (1, .inl p1), (2, .inl p2), (3, .inl p3), (4, .inl p4), (5, .inl p5), (6, .inl p6)], [z_r fa, z_r (fa + 5)], zW T' G' (z_uS (z_uS (z_uS (z_uS S (fa + 1) (S fa 1).toNatClampNeg p1) (fa + 2) ((z_uS S (fa + 1) (S fa 1).toNatClampNeg p1) fa 1).toNatClampNeg p2) (fa + 3) ((z_uS (z_uS S (fa + 1) (S fa 1).toNatClampNeg p1) (fa + 2) ((z_uS S (fa + 1) (S fa 1).toNatClampNeg p1) fa 1).toNatClampNeg p2) fa 1).toNatClampNeg p3) (fa + 4) ((z_uS (z_uS (z_uS S (fa + 1) (S fa 1).toNatClampNeg p1) (fa + 2) ((z_uS S (fa + 1) (S fa 1).toNatClampNeg p1) fa 1).toNatClampNeg p2) (fa + 3) ((z_uS (z_uS S (fa + 1) (S fa 1).toNatClampNeg p1) (fa + 2) ((z_uS S (fa + 1) (S fa 1).toNatClampNeg p1) fa 1).toNatClampNeg p2) fa 1).toNatClampNeg p3) fa 1).toNatClampNeg p4) n, 0, 0) (by decide +kernel) rfl ⟨trivial, trivial⟩ ?_
  refine z_getI M.1 (idx := 35) (ci := 12) (j := 1) (a := fa) (x := ((z_uS (z_uS (z_uS (z_uS S (fa + 1) (S fa 1).toNatClampNeg p1) (fa + 2) ((z_uS S (fa + 1) (S fa 1).toNatClampNeg p1) fa 1).toNatClampNeg p2) (fa + 3) ((z_uS (z_uS S (fa + 1) (S fa 1).toNatClampNeg p1) (fa + 2) ((z_uS S (fa + 1) (S fa 1).toNatClampNeg p1) fa 1).toNatClampNeg p2) fa 1).toNatClampNeg p3) (fa + 4) ((z_uS (z_uS (z_uS S (fa + 1) (S fa 1).toNatClampNeg p1) (fa + 2) ((z_uS S (fa + 1) (S fa 1).toNatClampNeg p1) fa 1).toNatClampNeg p2) (fa + 3) ((z_uS (z_uS S (fa + 1) (S fa 1).toNatClampNeg p1) (fa + 2) ((z_uS S (fa + 1) (S fa 1).toNatClampNeg p1) fa 1).toNatClampNeg p2) fa 1).toNatClampNeg p3) fa 1).toNatClampNeg p4) fa 1)) (by decide +kernel) (by decide) hfa.t rfl ?_
  refine z_go2 M.1 49 [(.iload 5, 2)] (51, [(0, z_r fa), (1, .inl p1), (2, .inl p2), (3, .inl p3), (4, .inl p4), (5, .inl p5), (6, .inl p6)], [.inl p5, .inl ((z_uS (z_uS (z_uS (z_uS S (fa + 1) (S fa 1).toNatClampNeg p1) (fa + 2) ((z_uS S (fa + 1) (S fa 1).toNatClampNeg p1) fa 1).toNatClampNeg p2) (fa + 3) ((z_uS (z_uS S (fa + 1) (S fa 1).toNatClampNeg p1) (fa + 2) ((z_uS S (fa + 1) (S fa 1).toNatClampNeg p1) fa 1).toNatClampNeg p2) fa 1).toNatClampNeg p3) (fa + 4) ((z_uS (z_uS (z_uS S (fa + 1) (S fa 1).toNatClampNeg p1) (fa + 2) ((z_uS S (fa + 1) (S fa 1).toNatClampNeg p1) fa 1).toNatClampNeg p2) (fa + 3) ((z_uS (z_uS S (fa + 1) (S fa 1).toNatClampNeg p1) (fa + 2) ((z_uS S (fa + 1) (S fa 1).toNatClampNeg p1) fa 1).toNatClampNeg p2) fa 1).toNatClampNeg p3) fa 1).toNatClampNeg p4) fa 1), z_r (fa + 5)], zW T' G' (z_uS (z_uS (z_uS (z_uS S (fa + 1) (S fa 1).toNatClampNeg p1) (fa + 2) ((z_uS S (fa + 1) (S fa 1).toNatClampNeg p1) fa 1).toNatClampNeg p2) (fa + 3) ((z_uS (z_uS S (fa + 1) (S fa 1).toNatClampNeg p1) (fa + 2) ((z_uS S (fa + 1) (S fa 1).toNatClampNeg p1) fa 1).toNatClampNeg p2) fa 1).toNatClampNeg p3) (fa + 4) ((z_uS (z_uS (z_uS S (fa + 1) (S fa 1).toNatClampNeg p1) (fa + 2) ((z_uS S (fa + 1) (S fa 1).toNatClampNeg p1) fa 1).toNatClampNeg p2) (fa + 3) ((z_uS (z_uS S (fa + 1) (S fa 1).toNatClampNeg p1) (fa + 2) ((z_uS S (fa + 1) (S fa 1).toNatClampNeg p1) fa 1).toNatClampNeg p2) fa 1).toNatClampNeg p3) fa 1).toNatClampNeg p4) n, 0, 0) (by decide +kernel) rfl ⟨trivial, trivial⟩ ?_
  refine z_iast M.1 (a := (fa + 5)) (len := 8) (by decide +kernel) (hfa.a 5 (by decide) (by decide)) hs.1 ?_
  show z_G X zm_MF_add (52, [(0, z_r fa), (1, .inl p1), (2, .inl p2), (3, .inl p3), (4, .inl p4), (5, .inl p5), (6, .inl p6)], [], zW T' G' (z_uS (z_uS (z_uS (z_uS (z_uS S (fa + 1) (S fa 1).toNatClampNeg p1) (fa + 2) ((z_uS S (fa + 1) (S fa 1).toNatClampNeg p1) fa 1).toNatClampNeg p2) (fa + 3) ((z_uS (z_uS S (fa + 1) (S fa 1).toNatClampNeg p1) (fa + 2) ((z_uS S (fa + 1) (S fa 1).toNatClampNeg p1) fa 1).toNatClampNeg p2) fa 1).toNatClampNeg p3) (fa + 4) ((z_uS (z_uS (z_uS S (fa + 1) (S fa 1).toNatClampNeg p1) (fa + 2) ((z_uS S (fa + 1) (S fa 1).toNatClampNeg p1) fa 1).toNatClampNeg p2) (fa + 3) ((z_uS (z_uS S (fa + 1) (S fa 1).toNatClampNeg p1) (fa + 2) ((z_uS S (fa + 1) (S fa 1).toNatClampNeg p1) fa 1).toNatClampNeg p2) fa 1).toNatClampNeg p3) fa 1).toNatClampNeg p4) (fa + 5) ((z_uS (z_uS (z_uS (z_uS S (fa + 1) (S fa 1).toNatClampNeg p1) (fa + 2) ((z_uS S (fa + 1) (S fa 1).toNatClampNeg p1) fa 1).toNatClampNeg p2) (fa + 3) ((z_uS (z_uS S (fa + 1) (S fa 1).toNatClampNeg p1) (fa + 2) ((z_uS S (fa + 1) (S fa 1).toNatClampNeg p1) fa 1).toNatClampNeg p2) fa 1).toNatClampNeg p3) (fa + 4) ((z_uS (z_uS (z_uS S (fa + 1) (S fa 1).toNatClampNeg p1) (fa + 2) ((z_uS S (fa + 1) (S fa 1).toNatClampNeg p1) fa 1).toNatClampNeg p2) (fa + 3) ((z_uS (z_uS S (fa + 1) (S fa 1).toNatClampNeg p1) (fa + 2) ((z_uS S (fa + 1) (S fa 1).toNatClampNeg p1) fa 1).toNatClampNeg p2) fa 1).toNatClampNeg p3) fa 1).toNatClampNeg p4) fa 1).toNatClampNeg p5) n, 0, 0)
  replace hs := hs.2
  refine z_go2 M.1 52 [(.aload_n 0, 1)] (53, [(0, z_r fa), (1, .inl p1), (2, .inl p2), (3, .inl p3), (4, .inl p4), (5, .inl p5), (6, .inl p6)], [z_r fa], zW T' G' (z_uS (z_uS (z_uS (z_uS (z_uS S (fa + 1) (S fa 1).toNatClampNeg p1) (fa + 2) ((z_uS S (fa + 1) (S fa 1).toNatClampNeg p1) fa 1).toNatClampNeg p2) (fa + 3) ((z_uS (z_uS S (fa + 1) (S fa 1).toNatClampNeg p1) (fa + 2) ((z_uS S (fa + 1) (S fa 1).toNatClampNeg p1) fa 1).toNatClampNeg p2) fa 1).toNatClampNeg p3) (fa + 4) ((z_uS (z_uS (z_uS S (fa + 1) (S fa 1).toNatClampNeg p1) (fa + 2) ((z_uS S (fa + 1) (S fa 1).toNatClampNeg p1) fa 1).toNatClampNeg p2) (fa + 3) ((z_uS (z_uS S (fa + 1) (S fa 1).toNatClampNeg p1) (fa + 2) ((z_uS S (fa + 1) (S fa 1).toNatClampNeg p1) fa 1).toNatClampNeg p2) fa 1).toNatClampNeg p3) fa 1).toNatClampNeg p4) (fa + 5) ((z_uS (z_uS (z_uS (z_uS S (fa + 1) (S fa 1).toNatClampNeg p1) (fa + 2) ((z_uS S (fa + 1) (S fa 1).toNatClampNeg p1) fa 1).toNatClampNeg p2) (fa + 3) ((z_uS (z_uS S (fa + 1) (S fa 1).toNatClampNeg p1) (fa + 2) ((z_uS S (fa + 1) (S fa 1).toNatClampNeg p1) fa 1).toNatClampNeg p2) fa 1).toNatClampNeg p3) (fa + 4) ((z_uS (z_uS (z_uS S (fa + 1) (S fa 1).toNatClampNeg p1) (fa + 2) ((z_uS S (fa + 1) (S fa 1).toNatClampNeg p1) fa 1).toNatClampNeg p2) (fa + 3) ((z_uS (z_uS S (fa + 1) (S fa 1).toNatClampNeg p1) (fa + 2) ((z_uS S (fa + 1) (S fa 1).toNatClampNeg p1) fa 1).toNatClampNeg p2) fa 1).toNatClampNeg p3) fa 1).toNatClampNeg p4) fa 1).toNatClampNeg p5) n, 0, 0) (by decide +kernel) rfl ⟨trivial, trivial⟩ ?_
  refine z_getR M.1 (idx := 29) (ci := 12) (j := 7) (a := fa) (r := (fa + 6)) (by decide +kernel) (by decide) hfa.t (hfa.g 7 (by decide) (by decide)) ?_
  refine z_go2 M.1 56 [(.aload_n 0, 1)] (57, [(0, z_r fa), (1, .inl p1), (2, .inl p2), (3, .inl p3), (4, .inl p4), (5, .inl p5), (6, .inl p6)], [z_r fa, z_r (fa + 6)], zW T' G' (z_uS (z_uS (z_uS (z_uS (z_uS S (fa + 1) (S fa 1).toNatClampNeg p1) (fa + 2) ((z_uS S (fa + 1) (S fa 1).toNatClampNeg p1) fa 1).toNatClampNeg p2) (fa + 3) ((z_uS (z_uS S (fa + 1) (S fa 1).toNatClampNeg p1) (fa + 2) ((z_uS S (fa + 1) (S fa 1).toNatClampNeg p1) fa 1).toNatClampNeg p2) fa 1).toNatClampNeg p3) (fa + 4) ((z_uS (z_uS (z_uS S (fa + 1) (S fa 1).toNatClampNeg p1) (fa + 2) ((z_uS S (fa + 1) (S fa 1).toNatClampNeg p1) fa 1).toNatClampNeg p2) (fa + 3) ((z_uS (z_uS S (fa + 1) (S fa 1).toNatClampNeg p1) (fa + 2) ((z_uS S (fa + 1) (S fa 1).toNatClampNeg p1) fa 1).toNatClampNeg p2) fa 1).toNatClampNeg p3) fa 1).toNatClampNeg p4) (fa + 5) ((z_uS (z_uS (z_uS (z_uS S (fa + 1) (S fa 1).toNatClampNeg p1) (fa + 2) ((z_uS S (fa + 1) (S fa 1).toNatClampNeg p1) fa 1).toNatClampNeg p2) (fa + 3) ((z_uS (z_uS S (fa + 1) (S fa 1).toNatClampNeg p1) (fa + 2) ((z_uS S (fa + 1) (S fa 1).toNatClampNeg p1) fa 1).toNatClampNeg p2) fa 1).toNatClampNeg p3) (fa + 4) ((z_uS (z_uS (z_uS S (fa + 1) (S fa 1).toNatClampNeg p1) (fa + 2) ((z_uS S (fa + 1) (S fa 1).toNatClampNeg p1) fa 1).toNatClampNeg p2) (fa + 3) ((z_uS (z_uS S (fa + 1) (S fa 1).toNatClampNeg p1) (fa + 2) ((z_uS S (fa + 1) (S fa 1).toNatClampNeg p1) fa 1).toNatClampNeg p2) fa 1).toNatClampNeg p3) fa 1).toNatClampNeg p4) fa 1).toNatClampNeg p5) n, 0, 0) (by decide +kernel) rfl ⟨trivial, trivial⟩ ?_
  refine z_getI M.1 (idx := 35) (ci := 12) (j := 1) (a := fa) (x := ((z_uS (z_uS (z_uS (z_uS (z_uS S (fa + 1) (S fa 1).toNatClampNeg p1) (fa + 2) ((z_uS S (fa + 1) (S fa 1).toNatClampNeg p1) fa 1).toNatClampNeg p2) (fa + 3) ((z_uS (z_uS S (fa + 1) (S fa 1).toNatClampNeg p1) (fa + 2) ((z_uS S (fa + 1) (S fa 1).toNatClampNeg p1) fa 1).toNatClampNeg p2) fa 1).toNatClampNeg p3) (fa + 4) ((z_uS (z_uS (z_uS S (fa + 1) (S fa 1).toNatClampNeg p1) (fa + 2) ((z_uS S (fa + 1) (S fa 1).toNatClampNeg p1) fa 1).toNatClampNeg p2) (fa + 3) ((z_uS (z_uS S (fa + 1) (S fa 1).toNatClampNeg p1) (fa + 2) ((z_uS S (fa + 1) (S fa 1).toNatClampNeg p1) fa 1).toNatClampNeg p2) fa 1).toNatClampNeg p3) fa 1).toNatClampNeg p4) (fa + 5) ((z_uS (z_uS (z_uS (z_uS S (fa + 1) (S fa 1).toNatClampNeg p1) (fa + 2) ((z_uS S (fa + 1) (S fa 1).toNatClampNeg p1) fa 1).toNatClampNeg p2) (fa + 3) ((z_uS (z_uS S (fa + 1) (S fa 1).toNatClampNeg p1) (fa + 2) ((z_uS S (fa + 1) (S fa 1).toNatClampNeg p1) fa 1).toNatClampNeg p2) fa 1).toNatClampNeg p3) (fa + 4) ((z_uS (z_uS (z_uS S (fa + 1) (S fa 1).toNatClampNeg p1) (fa + 2) ((z_uS S (fa + 1) (S fa 1).toNatClampNeg p1) fa 1).toNatClampNeg p2) (fa + 3) ((z_uS (z_uS S (fa + 1) (S fa 1).toNatClampNeg p1) (fa + 2) ((z_uS S (fa + 1) (S fa 1).toNatClampNeg p1) fa 1).toNatClampNeg p2) fa 1).toNatClampNeg p3) fa 1).toNatClampNeg p4) fa 1).toNatClampNeg p5) fa 1)) (by decide +kernel) (by decide) hfa.t rfl ?_
  refine z_go2 M.1 60 [(.iload 6, 2)] (62, [(0, z_r fa), (1, .inl p1), (2, .inl p2), (3, .inl p3), (4, .inl p4), (5, .inl p5), (6, .inl p6)], [.inl p6, .inl ((z_uS (z_uS (z_uS (z_uS (z_uS S (fa + 1) (S fa 1).toNatClampNeg p1) (fa + 2) ((z_uS S (fa + 1) (S fa 1).toNatClampNeg p1) fa 1).toNatClampNeg p2) (fa + 3) ((z_uS (z_uS S (fa + 1) (S fa 1).toNatClampNeg p1) (fa + 2) ((z_uS S (fa + 1) (S fa 1).toNatClampNeg p1) fa 1).toNatClampNeg p2) fa 1).toNatClampNeg p3) (fa + 4) ((z_uS (z_uS (z_uS S (fa + 1) (S fa 1).toNatClampNeg p1) (fa + 2) ((z_uS S (fa + 1) (S fa 1).toNatClampNeg p1) fa 1).toNatClampNeg p2) (fa + 3) ((z_uS (z_uS S (fa + 1) (S fa 1).toNatClampNeg p1) (fa + 2) ((z_uS S (fa + 1) (S fa 1).toNatClampNeg p1) fa 1).toNatClampNeg p2) fa 1).toNatClampNeg p3) fa 1).toNatClampNeg p4) (fa + 5) ((z_uS (z_uS (z_uS (z_uS S (fa + 1) (S fa 1).toNatClampNeg p1) (fa + 2) ((z_uS S (fa + 1) (S fa 1).toNatClampNeg p1) fa 1).toNatClampNeg p2) (fa + 3) ((z_uS (z_uS S (fa + 1) (S fa 1).toNatClampNeg p1) (fa + 2) ((z_uS S (fa + 1) (S fa 1).toNatClampNeg p1) fa 1).toNatClampNeg p2) fa 1).toNatClampNeg p3) (fa + 4) ((z_uS (z_uS (z_uS S (fa + 1) (S fa 1).toNatClampNeg p1) (fa + 2) ((z_uS S (fa + 1) (S fa 1).toNatClampNeg p1) fa 1).toNatClampNeg p2) (fa + 3) ((z_uS (z_uS S (fa + 1) (S fa 1).toNatClampNeg p1) (fa + 2) ((z_uS S (fa + 1) (S fa 1).toNatClampNeg p1) fa 1).toNatClampNeg p2) fa 1).toNatClampNeg p3) fa 1).toNatClampNeg p4) fa 1).toNatClampNeg p5) fa 1), z_r (fa + 6)], zW T' G' (z_uS (z_uS (z_uS (z_uS (z_uS S (fa + 1) (S fa 1).toNatClampNeg p1) (fa + 2) ((z_uS S (fa + 1) (S fa 1).toNatClampNeg p1) fa 1).toNatClampNeg p2) (fa + 3) ((z_uS (z_uS S (fa + 1) (S fa 1).toNatClampNeg p1) (fa + 2) ((z_uS S (fa + 1) (S fa 1).toNatClampNeg p1) fa 1).toNatClampNeg p2) fa 1).toNatClampNeg p3) (fa + 4) ((z_uS (z_uS (z_uS S (fa + 1) (S fa 1).toNatClampNeg p1) (fa + 2) ((z_uS S (fa + 1) (S fa 1).toNatClampNeg p1) fa 1).toNatClampNeg p2) (fa + 3) ((z_uS (z_uS S (fa + 1) (S fa 1).toNatClampNeg p1) (fa + 2) ((z_uS S (fa + 1) (S fa 1).toNatClampNeg p1) fa 1).toNatClampNeg p2) fa 1).toNatClampNeg p3) fa 1).toNatClampNeg p4) (fa + 5) ((z_uS (z_uS (z_uS (z_uS S (fa + 1) (S fa 1).toNatClampNeg p1) (fa + 2) ((z_uS S (fa + 1) (S fa 1).toNatClampNeg p1) fa 1).toNatClampNeg p2) (fa + 3) ((z_uS (z_uS S (fa + 1) (S fa 1).toNatClampNeg p1) (fa + 2) ((z_uS S (fa + 1) (S fa 1).toNatClampNeg p1) fa 1).toNatClampNeg p2) fa 1).toNatClampNeg p3) (fa + 4) ((z_uS (z_uS (z_uS S (fa + 1) (S fa 1).toNatClampNeg p1) (fa + 2) ((z_uS S (fa + 1) (S fa 1).toNatClampNeg p1) fa 1).toNatClampNeg p2) (fa + 3) ((z_uS (z_uS S (fa + 1) (S fa 1).toNatClampNeg p1) (fa + 2) ((z_uS S (fa + 1) (S fa 1).toNatClampNeg p1) fa 1).toNatClampNeg p2) fa 1).toNatClampNeg p3) fa 1).toNatClampNeg p4) fa 1).toNatClampNeg p5) n, 0, 0) (by decide +kernel) rfl ⟨trivial, trivial⟩ ?_
  refine z_iast M.1 (a := (fa + 6)) (len := 8) (by decide +kernel) (hfa.a 6 (by decide) (by decide)) hs.1 ?_
  show z_G X zm_MF_add (63, [(0, z_r fa), (1, .inl p1), (2, .inl p2), (3, .inl p3), (4, .inl p4), (5, .inl p5), (6, .inl p6)], [], zW T' G' (z_uS (z_uS (z_uS (z_uS (z_uS (z_uS S (fa + 1) (S fa 1).toNatClampNeg p1) (fa + 2) ((z_uS S (fa + 1) (S fa 1).toNatClampNeg p1) fa 1).toNatClampNeg p2) (fa + 3) ((z_uS (z_uS S (fa + 1) (S fa 1).toNatClampNeg p1) (fa + 2) ((z_uS S (fa + 1) (S fa 1).toNatClampNeg p1) fa 1).toNatClampNeg p2) fa 1).toNatClampNeg p3) (fa + 4) ((z_uS (z_uS (z_uS S (fa + 1) (S fa 1).toNatClampNeg p1) (fa + 2) ((z_uS S (fa + 1) (S fa 1).toNatClampNeg p1) fa 1).toNatClampNeg p2) (fa + 3) ((z_uS (z_uS S (fa + 1) (S fa 1).toNatClampNeg p1) (fa + 2) ((z_uS S (fa + 1) (S fa 1).toNatClampNeg p1) fa 1).toNatClampNeg p2) fa 1).toNatClampNeg p3) fa 1).toNatClampNeg p4) (fa + 5) ((z_uS (z_uS (z_uS (z_uS S (fa + 1) (S fa 1).toNatClampNeg p1) (fa + 2) ((z_uS S (fa + 1) (S fa 1).toNatClampNeg p1) fa 1).toNatClampNeg p2) (fa + 3) ((z_uS (z_uS S (fa + 1) (S fa 1).toNatClampNeg p1) (fa + 2) ((z_uS S (fa + 1) (S fa 1).toNatClampNeg p1) fa 1).toNatClampNeg p2) fa 1).toNatClampNeg p3) (fa + 4) ((z_uS (z_uS (z_uS S (fa + 1) (S fa 1).toNatClampNeg p1) (fa + 2) ((z_uS S (fa + 1) (S fa 1).toNatClampNeg p1) fa 1).toNatClampNeg p2) (fa + 3) ((z_uS (z_uS S (fa + 1) (S fa 1).toNatClampNeg p1) (fa + 2) ((z_uS S (fa + 1) (S fa 1).toNatClampNeg p1) fa 1).toNatClampNeg p2) fa 1).toNatClampNeg p3) fa 1).toNatClampNeg p4) fa 1).toNatClampNeg p5) (fa + 6) ((z_uS (z_uS (z_uS (z_uS (z_uS S (fa + 1) (S fa 1).toNatClampNeg p1) (fa + 2) ((z_uS S (fa + 1) (S fa 1).toNatClampNeg p1) fa 1).toNatClampNeg p2) (fa + 3) ((z_uS (z_uS S (fa + 1) (S fa 1).toNatClampNeg p1) (fa + 2) ((z_uS S (fa + 1) (S fa 1).toNatClampNeg p1) fa 1).toNatClampNeg p2) fa 1).toNatClampNeg p3) (fa + 4) ((z_uS (z_uS (z_uS S (fa + 1) (S fa 1).toNatClampNeg p1) (fa + 2) ((z_uS S (fa + 1) (S fa 1).toNatClampNeg p1) fa 1).toNatClampNeg p2) (fa + 3) ((z_uS (z_uS S (fa + 1) (S fa 1).toNatClampNeg p1) (fa + 2) ((z_uS S (fa + 1) (S fa 1).toNatClampNeg p1) fa 1).toNatClampNeg p2) fa 1).toNatClampNeg p3) fa 1).toNatClampNeg p4) (fa + 5) ((z_uS (z_uS (z_uS (z_uS S (fa + 1) (S fa 1).toNatClampNeg p1) (fa + 2) ((z_uS S (fa + 1) (S fa 1).toNatClampNeg p1) fa 1).toNatClampNeg p2) (fa + 3) ((z_uS (z_uS S (fa + 1) (S fa 1).toNatClampNeg p1) (fa + 2) ((z_uS S (fa + 1) (S fa 1).toNatClampNeg p1) fa 1).toNatClampNeg p2) fa 1).toNatClampNeg p3) (fa + 4) ((z_uS (z_uS (z_uS S (fa + 1) (S fa 1).toNatClampNeg p1) (fa + 2) ((z_uS S (fa + 1) (S fa 1).toNatClampNeg p1) fa 1).toNatClampNeg p2) (fa + 3) ((z_uS (z_uS S (fa + 1) (S fa 1).toNatClampNeg p1) (fa + 2) ((z_uS S (fa + 1) (S fa 1).toNatClampNeg p1) fa 1).toNatClampNeg p2) fa 1).toNatClampNeg p3) fa 1).toNatClampNeg p4) fa 1).toNatClampNeg p5) fa 1).toNatClampNeg p6) n, 0, 0)
  replace hs := hs.2
  refine z_go2 M.1 63 [(.aload_n 0, 1), (.dup, 1)] (65, [(0, z_r fa), (1, .inl p1), (2, .inl p2), (3, .inl p3), (4, .inl p4), (5, .inl p5), (6, .inl p6)], [z_r fa, z_r fa], zW T' G' (z_uS (z_uS (z_uS (z_uS (z_uS (z_uS S (fa + 1) (S fa 1).toNatClampNeg p1) (fa + 2) ((z_uS S (fa + 1) (S fa 1).toNatClampNeg p1) fa 1).toNatClampNeg p2) (fa + 3) ((z_uS (z_uS S (fa + 1) (S fa 1).toNatClampNeg p1) (fa + 2) ((z_uS S (fa + 1) (S fa 1).toNatClampNeg p1) fa 1).toNatClampNeg p2) fa 1).toNatClampNeg p3) (fa + 4) ((z_uS (z_uS (z_uS S (fa + 1) (S fa 1).toNatClampNeg p1) (fa + 2) ((z_uS S (fa + 1) (S fa 1).toNatClampNeg p1) fa 1).toNatClampNeg p2) (fa + 3) ((z_uS (z_uS S (fa + 1) (S fa 1).toNatClampNeg p1) (fa + 2) ((z_uS S (fa + 1) (S fa 1).toNatClampNeg p1) fa 1).toNatClampNeg p2) fa 1).toNatClampNeg p3) fa 1).toNatClampNeg p4) (fa + 5) ((z_uS (z_uS (z_uS (z_uS S (fa + 1) (S fa 1).toNatClampNeg p1) (fa + 2) ((z_uS S (fa + 1) (S fa 1).toNatClampNeg p1) fa 1).toNatClampNeg p2) (fa + 3) ((z_uS (z_uS S (fa + 1) (S fa 1).toNatClampNeg p1) (fa + 2) ((z_uS S (fa + 1) (S fa 1).toNatClampNeg p1) fa 1).toNatClampNeg p2) fa 1).toNatClampNeg p3) (fa + 4) ((z_uS (z_uS (z_uS S (fa + 1) (S fa 1).toNatClampNeg p1) (fa + 2) ((z_uS S (fa + 1) (S fa 1).toNatClampNeg p1) fa 1).toNatClampNeg p2) (fa + 3) ((z_uS (z_uS S (fa + 1) (S fa 1).toNatClampNeg p1) (fa + 2) ((z_uS S (fa + 1) (S fa 1).toNatClampNeg p1) fa 1).toNatClampNeg p2) fa 1).toNatClampNeg p3) fa 1).toNatClampNeg p4) fa 1).toNatClampNeg p5) (fa + 6) ((z_uS (z_uS (z_uS (z_uS (z_uS S (fa + 1) (S fa 1).toNatClampNeg p1) (fa + 2) ((z_uS S (fa + 1) (S fa 1).toNatClampNeg p1) fa 1).toNatClampNeg p2) (fa + 3) ((z_uS (z_uS S (fa + 1) (S fa 1).toNatClampNeg p1) (fa + 2) ((z_uS S (fa + 1) (S fa 1).toNatClampNeg p1) fa 1).toNatClampNeg p2) fa 1).toNatClampNeg p3) (fa + 4) ((z_uS (z_uS (z_uS S (fa + 1) (S fa 1).toNatClampNeg p1) (fa + 2) ((z_uS S (fa + 1) (S fa 1).toNatClampNeg p1) fa 1).toNatClampNeg p2) (fa + 3) ((z_uS (z_uS S (fa + 1) (S fa 1).toNatClampNeg p1) (fa + 2) ((z_uS S (fa + 1) (S fa 1).toNatClampNeg p1) fa 1).toNatClampNeg p2) fa 1).toNatClampNeg p3) fa 1).toNatClampNeg p4) (fa + 5) ((z_uS (z_uS (z_uS (z_uS S (fa + 1) (S fa 1).toNatClampNeg p1) (fa + 2) ((z_uS S (fa + 1) (S fa 1).toNatClampNeg p1) fa 1).toNatClampNeg p2) (fa + 3) ((z_uS (z_uS S (fa + 1) (S fa 1).toNatClampNeg p1) (fa + 2) ((z_uS S (fa + 1) (S fa 1).toNatClampNeg p1) fa 1).toNatClampNeg p2) fa 1).toNatClampNeg p3) (fa + 4) ((z_uS (z_uS (z_uS S (fa + 1) (S fa 1).toNatClampNeg p1) (fa + 2) ((z_uS S (fa + 1) (S fa 1).toNatClampNeg p1) fa 1).toNatClampNeg p2) (fa + 3) ((z_uS (z_uS S (fa + 1) (S fa 1).toNatClampNeg p1) (fa + 2) ((z_uS S (fa + 1) (S fa 1).toNatClampNeg p1) fa 1).toNatClampNeg p2) fa 1).toNatClampNeg p3) fa 1).toNatClampNeg p4) fa 1).toNatClampNeg p5) fa 1).toNatClampNeg p6) n, 0, 0) (by decide +kernel) rfl ⟨trivial, rfl, trivial⟩ ?_
  refine z_getI M.1 (idx := 35) (ci := 12) (j := 1) (a := fa) (x := ((z_uS (z_uS (z_uS (z_uS (z_uS (z_uS S (fa + 1) (S fa 1).toNatClampNeg p1) (fa + 2) ((z_uS S (fa + 1) (S fa 1).toNatClampNeg p1) fa 1).toNatClampNeg p2) (fa + 3) ((z_uS (z_uS S (fa + 1) (S fa 1).toNatClampNeg p1) (fa + 2) ((z_uS S (fa + 1) (S fa 1).toNatClampNeg p1) fa 1).toNatClampNeg p2) fa 1).toNatClampNeg p3) (fa + 4) ((z_uS (z_uS (z_uS S (fa + 1) (S fa 1).toNatClampNeg p1) (fa + 2) ((z_uS S (fa + 1) (S fa 1).toNatClampNeg p1) fa 1).toNatClampNeg p2) (fa + 3) ((z_uS (z_uS S (fa + 1) (S fa 1).toNatClampNeg p1) (fa + 2) ((z_uS S (fa + 1) (S fa 1).toNatClampNeg p1) fa 1).toNatClampNeg p2) fa 1).toNatClampNeg p3) fa 1).toNatClampNeg p4) (fa + 5) ((z_uS (z_uS (z_uS (z_uS S (fa + 1) (S fa 1).toNatClampNeg p1) (fa + 2) ((z_uS S (fa + 1) (S fa 1).toNatClampNeg p1) fa 1).toNatClampNeg p2) (fa + 3) ((z_uS (z_uS S (fa + 1) (S fa 1).toNatClampNeg p1) (fa + 2) ((z_uS S (fa + 1) (S fa 1).toNatClampNeg p1) fa 1).toNatClampNeg p2) fa 1).toNatClampNeg p3) (fa + 4) ((z_uS (z_uS (z_uS S (fa + 1) (S fa 1).toNatClampNeg p1) (fa + 2) ((z_uS S (fa + 1) (S fa 1).toNatClampNeg p1) fa 1).toNatClampNeg p2) (fa + 3) ((z_uS (z_uS S (fa + 1) (S fa 1).toNatClampNeg p1) (fa + 2) ((z_uS S (fa + 1) (S fa 1).toNatClampNeg p1) fa 1).toNatClampNeg p2) fa 1).toNatClampNeg p3) fa 1).toNatClampNeg p4) fa 1).toNatClampNeg p5) (fa + 6) ((z_uS (z_uS (z_uS (z_uS (z_uS S (fa + 1) (S fa 1).toNatClampNeg p1) (fa + 2) ((z_uS S (fa + 1) (S fa 1).toNatClampNeg p1) fa 1).toNatClampNeg p2) (fa + 3) ((z_uS (z_uS S (fa + 1) (S fa 1).toNatClampNeg p1) (fa + 2) ((z_uS S (fa + 1) (S fa 1).toNatClampNeg p1) fa 1).toNatClampNeg p2) fa 1).toNatClampNeg p3) (fa + 4) ((z_uS (z_uS (z_uS S (fa + 1) (S fa 1).toNatClampNeg p1) (fa + 2) ((z_uS S (fa + 1) (S fa 1).toNatClampNeg p1) fa 1).toNatClampNeg p2) (fa + 3) ((z_uS (z_uS S (fa + 1) (S fa 1).toNatClampNeg p1) (fa + 2) ((z_uS S (fa + 1) (S fa 1).toNatClampNeg p1) fa 1).toNatClampNeg p2) fa 1).toNatClampNeg p3) fa 1).toNatClampNeg p4) (fa + 5) ((z_uS (z_uS (z_uS (z_uS S (fa + 1) (S fa 1).toNatClampNeg p1) (fa + 2) ((z_uS S (fa + 1) (S fa 1).toNatClampNeg p1) fa 1).toNatClampNeg p2) (fa + 3) ((z_uS (z_uS S (fa + 1) (S fa 1).toNatClampNeg p1) (fa + 2) ((z_uS S (fa + 1) (S fa 1).toNatClampNeg p1) fa 1).toNatClampNeg p2) fa 1).toNatClampNeg p3) (fa + 4) ((z_uS (z_uS (z_uS S (fa + 1) (S fa 1).toNatClampNeg p1) (fa + 2) ((z_uS S (fa + 1) (S fa 1).toNatClampNeg p1) fa 1).toNatClampNeg p2) (fa + 3) ((z_uS (z_uS S (fa + 1) (S fa 1).toNatClampNeg p1) (fa + 2) ((z_uS S (fa + 1) (S fa 1).toNatClampNeg p1) fa 1).toNatClampNeg p2) fa 1).toNatClampNeg p3) fa 1).toNatClampNeg p4) fa 1).toNatClampNeg p5) fa 1).toNatClampNeg p6) fa 1)) (by decide +kernel) (by decide) hfa.t rfl ?_
  refine z_go2 M.1 68 [(.iconst 1, 1), (.iadd, 1)] (70, [(0, z_r fa), (1, .inl p1), (2, .inl p2), (3, .inl p3), (4, .inl p4), (5, .inl p5), (6, .inl p6)], [.inl (((z_uS (z_uS (z_uS (z_uS (z_uS (z_uS S (fa + 1) (S fa 1).toNatClampNeg p1) (fa + 2) ((z_uS S (fa + 1) (S fa 1).toNatClampNeg p1) fa 1).toNatClampNeg p2) (fa + 3) ((z_uS (z_uS S (fa + 1) (S fa 1).toNatClampNeg p1) (fa + 2) ((z_uS S (fa + 1) (S fa 1).toNatClampNeg p1) fa 1).toNatClampNeg p2) fa 1).toNatClampNeg p3) (fa + 4) ((z_uS (z_uS (z_uS S (fa + 1) (S fa 1).toNatClampNeg p1) (fa + 2) ((z_uS S (fa + 1) (S fa 1).toNatClampNeg p1) fa 1).toNatClampNeg p2) (fa + 3) ((z_uS (z_uS S (fa + 1) (S fa 1).toNatClampNeg p1) (fa + 2) ((z_uS S (fa + 1) (S fa 1).toNatClampNeg p1) fa 1).toNatClampNeg p2) fa 1).toNatClampNeg p3) fa 1).toNatClampNeg p4) (fa + 5) ((z_uS (z_uS (z_uS (z_uS S (fa + 1) (S fa 1).toNatClampNeg p1) (fa + 2) ((z_uS S (fa + 1) (S fa 1).toNatClampNeg p1) fa 1).toNatClampNeg p2) (fa + 3) ((z_uS (z_uS S (fa + 1) (S fa 1).toNatClampNeg p1) (fa + 2) ((z_uS S (fa + 1) (S fa 1).toNatClampNeg p1) fa 1).toNatClampNeg p2) fa 1).toNatClampNeg p3) (fa + 4) ((z_uS (z_uS (z_uS S (fa + 1) (S fa 1).toNatClampNeg p1) (fa + 2) ((z_uS S (fa + 1) (S fa 1).toNatClampNeg p1) fa 1).toNatClampNeg p2) (fa + 3) ((z_uS (z_uS S (fa + 1) (S fa 1).toNatClampNeg p1) (fa + 2) ((z_uS S (fa + 1) (S fa 1).toNatClampNeg p1) fa 1).toNatClampNeg p2) fa 1).toNatClampNeg p3) fa 1).toNatClampNeg p4) fa 1).toNatClampNeg p5) (fa + 6) ((z_uS (z_uS (z_uS (z_uS (z_uS S (fa + 1) (S fa 1).toNatClampNeg p1) (fa + 2) ((z_uS S (fa + 1) (S fa 1).toNatClampNeg p1) fa 1).toNatClampNeg p2) (fa + 3) ((z_uS (z_uS S (fa + 1) (S fa 1).toNatClampNeg p1) (fa + 2) ((z_uS S (fa + 1) (S fa 1).toNatClampNeg p1) fa 1).toNatClampNeg p2) fa 1).toNatClampNeg p3) (fa + 4) ((z_uS (z_uS (z_uS S (fa + 1) (S fa 1).toNatClampNeg p1) (fa + 2) ((z_uS S (fa + 1) (S fa 1).toNatClampNeg p1) fa 1).toNatClampNeg p2) (fa + 3) ((z_uS (z_uS S (fa + 1) (S fa 1).toNatClampNeg p1) (fa + 2) ((z_uS S (fa + 1) (S fa 1).toNatClampNeg p1) fa 1).toNatClampNeg p2) fa 1).toNatClampNeg p3) fa 1).toNatClampNeg p4) (fa + 5) ((z_uS (z_uS (z_uS (z_uS S (fa + 1) (S fa 1).toNatClampNeg p1) (fa + 2) ((z_uS S (fa + 1) (S fa 1).toNatClampNeg p1) fa 1).toNatClampNeg p2) (fa + 3) ((z_uS (z_uS S (fa + 1) (S fa 1).toNatClampNeg p1) (fa + 2) ((z_uS S (fa + 1) (S fa 1).toNatClampNeg p1) fa 1).toNatClampNeg p2) fa 1).toNatClampNeg p3) (fa + 4) ((z_uS (z_uS (z_uS S (fa + 1) (S fa 1).toNatClampNeg p1) (fa + 2) ((z_uS S (fa + 1) (S fa 1).toNatClampNeg p1) fa 1).toNatClampNeg p2) (fa + 3) ((z_uS (z_uS S (fa + 1) (S fa 1).toNatClampNeg p1) (fa + 2) ((z_uS S (fa + 1) (S fa 1).toNatClampNeg p1) fa 1).toNatClampNeg p2) fa 1).toNatClampNeg p3) fa 1).toNatClampNeg p4) fa 1).toNatClampNeg p5) fa 1).toNatClampNeg p6) fa 1) + 1), z_r fa], zW T' G' (z_uS (z_uS (z_uS (z_uS (z_uS (z_uS S (fa + 1) (S fa 1).toNatClampNeg p1) (fa + 2) ((z_uS S (fa + 1) (S fa 1).toNatClampNeg p1) fa 1).toNatClampNeg p2) (fa + 3) ((z_uS (z_uS S (fa + 1) (S fa 1).toNatClampNeg p1) (fa + 2) ((z_uS S (fa + 1) (S fa 1).toNatClampNeg p1) fa 1).toNatClampNeg p2) fa 1).toNatClampNeg p3) (fa + 4) ((z_uS (z_uS (z_uS S (fa + 1) (S fa 1).toNatClampNeg p1) (fa + 2) ((z_uS S (fa + 1) (S fa 1).toNatClampNeg p1) fa 1).toNatClampNeg p2) (fa + 3) ((z_uS (z_uS S (fa + 1) (S fa 1).toNatClampNeg p1) (fa + 2) ((z_uS S (fa + 1) (S fa 1).toNatClampNeg p1) fa 1).toNatClampNeg p2) fa 1).toNatClampNeg p3) fa 1).toNatClampNeg p4) (fa + 5) ((z_uS (z_uS (z_uS (z_uS S (fa + 1) (S fa 1).toNatClampNeg p1) (fa + 2) ((z_uS S (fa + 1) (S fa 1).toNatClampNeg p1) fa 1).toNatClampNeg p2) (fa + 3) ((z_uS (z_uS S (fa + 1) (S fa 1).toNatClampNeg p1) (fa + 2) ((z_uS S (fa + 1) (S fa 1).toNatClampNeg p1) fa 1).toNatClampNeg p2) fa 1).toNatClampNeg p3) (fa + 4) ((z_uS (z_uS (z_uS S (fa + 1) (S fa 1).toNatClampNeg p1) (fa + 2) ((z_uS S (fa + 1) (S fa 1).toNatClampNeg p1) fa 1).toNatClampNeg p2) (fa + 3) ((z_uS (z_uS S (fa + 1) (S fa 1).toNatClampNeg p1) (fa + 2) ((z_uS S (fa + 1) (S fa 1).toNatClampNeg p1) fa 1).toNatClampNeg p2) fa 1).toNatClampNeg p3) fa 1).toNatClampNeg p4) fa 1).toNatClampNeg p5) (fa + 6) ((z_uS (z_uS (z_uS (z_uS (z_uS S (fa + 1) (S fa 1).toNatClampNeg p1) (fa + 2) ((z_uS S (fa + 1) (S fa 1).toNatClampNeg p1) fa 1).toNatClampNeg p2) (fa + 3) ((z_uS (z_uS S (fa + 1) (S fa 1).toNatClampNeg p1) (fa + 2) ((z_uS S (fa + 1) (S fa 1).toNatClampNeg p1) fa 1).toNatClampNeg p2) fa 1).toNatClampNeg p3) (fa + 4) ((z_uS (z_uS (z_uS S (fa + 1) (S fa 1).toNatClampNeg p1) (fa + 2) ((z_uS S (fa + 1) (S fa 1).toNatClampNeg p1) fa 1).toNatClampNeg p2) (fa + 3) ((z_uS (z_uS S (fa + 1) (S fa 1).toNatClampNeg p1) (fa + 2) ((z_uS S (fa + 1) (S fa 1).toNatClampNeg p1) fa 1).toNatClampNeg p2) fa 1).toNatClampNeg p3) fa 1).toNatClampNeg p4) (fa + 5) ((z_uS (z_uS (z_uS (z_uS S (fa + 1) (S fa 1).toNatClampNeg p1) (fa + 2) ((z_uS S (fa + 1) (S fa 1).toNatClampNeg p1) fa 1).toNatClampNeg p2) (fa + 3) ((z_uS (z_uS S (fa + 1) (S fa 1).toNatClampNeg p1) (fa + 2) ((z_uS S (fa + 1) (S fa 1).toNatClampNeg p1) fa 1).toNatClampNeg p2) fa 1).toNatClampNeg p3) (fa + 4) ((z_uS (z_uS (z_uS S (fa + 1) (S fa 1).toNatClampNeg p1) (fa + 2) ((z_uS S (fa + 1) (S fa 1).toNatClampNeg p1) fa 1).toNatClampNeg p2) (fa + 3) ((z_uS (z_uS S (fa + 1) (S fa 1).toNatClampNeg p1) (fa + 2) ((z_uS S (fa + 1) (S fa 1).toNatClampNeg p1) fa 1).toNatClampNeg p2) fa 1).toNatClampNeg p3) fa 1).toNatClampNeg p4) fa 1).toNatClampNeg p5) fa 1).toNatClampNeg p6) n, 0, 0) (by decide +kernel) rfl ⟨trivial, trivial, trivial⟩ ?_
  refine z_putI M.1 (idx := 35) (ci := 12) (j := 1) (a := fa) (by decide +kernel) (by decide) hfa.t ?_
  show z_G X zm_MF_add (73, [(0, z_r fa), (1, .inl p1), (2, .inl p2), (3, .inl p3), (4, .inl p4), (5, .inl p5), (6, .inl p6)], [], zW T' G' (z_uS (z_uS (z_uS (z_uS (z_uS (z_uS (z_uS S (fa + 1) (S fa 1).toNatClampNeg p1) (fa + 2) ((z_uS S (fa + 1) (S fa 1).toNatClampNeg p1) fa 1).toNatClampNeg p2) (fa + 3) ((z_uS (z_uS S (fa + 1) (S fa 1).toNatClampNeg p1) (fa + 2) ((z_uS S (fa + 1) (S fa 1).toNatClampNeg p1) fa 1).toNatClampNeg p2) fa 1).toNatClampNeg p3) (fa + 4) ((z_uS (z_uS (z_uS S (fa + 1) (S fa 1).toNatClampNeg p1) (fa + 2) ((z_uS S (fa + 1) (S fa 1).toNatClampNeg p1) fa 1).toNatClampNeg p2) (fa + 3) ((z_uS (z_uS S (fa + 1) (S fa 1).toNatClampNeg p1) (fa + 2) ((z_uS S (fa + 1) (S fa 1).toNatClampNeg p1) fa 1).toNatClampNeg p2) fa 1).toNatClampNeg p3) fa 1).toNatClampNeg p4) (fa + 5) ((z_uS (z_uS (z_uS (z_uS S (fa + 1) (S fa 1).toNatClampNeg p1) (fa + 2) ((z_uS S (fa + 1) (S fa 1).toNatClampNeg p1) fa 1).toNatClampNeg p2) (fa + 3) ((z_uS (z_uS S (fa + 1) (S fa 1).toNatClampNeg p1) (fa + 2) ((z_uS S (fa + 1) (S fa 1).toNatClampNeg p1) fa 1).toNatClampNeg p2) fa 1).toNatClampNeg p3) (fa + 4) ((z_uS (z_uS (z_uS S (fa + 1) (S fa 1).toNatClampNeg p1) (fa + 2) ((z_uS S (fa + 1) (S fa 1).toNatClampNeg p1) fa 1).toNatClampNeg p2) (fa + 3) ((z_uS (z_uS S (fa + 1) (S fa 1).toNatClampNeg p1) (fa + 2) ((z_uS S (fa + 1) (S fa 1).toNatClampNeg p1) fa 1).toNatClampNeg p2) fa 1).toNatClampNeg p3) fa 1).toNatClampNeg p4) fa 1).toNatClampNeg p5) (fa + 6) ((z_uS (z_uS (z_uS (z_uS (z_uS S (fa + 1) (S fa 1).toNatClampNeg p1) (fa + 2) ((z_uS S (fa + 1) (S fa 1).toNatClampNeg p1) fa 1).toNatClampNeg p2) (fa + 3) ((z_uS (z_uS S (fa + 1) (S fa 1).toNatClampNeg p1) (fa + 2) ((z_uS S (fa + 1) (S fa 1).toNatClampNeg p1) fa 1).toNatClampNeg p2) fa 1).toNatClampNeg p3) (fa + 4) ((z_uS (z_uS (z_uS S (fa + 1) (S fa 1).toNatClampNeg p1) (fa + 2) ((z_uS S (fa + 1) (S fa 1).toNatClampNeg p1) fa 1).toNatClampNeg p2) (fa + 3) ((z_uS (z_uS S (fa + 1) (S fa 1).toNatClampNeg p1) (fa + 2) ((z_uS S (fa + 1) (S fa 1).toNatClampNeg p1) fa 1).toNatClampNeg p2) fa 1).toNatClampNeg p3) fa 1).toNatClampNeg p4) (fa + 5) ((z_uS (z_uS (z_uS (z_uS S (fa + 1) (S fa 1).toNatClampNeg p1) (fa + 2) ((z_uS S (fa + 1) (S fa 1).toNatClampNeg p1) fa 1).toNatClampNeg p2) (fa + 3) ((z_uS (z_uS S (fa + 1) (S fa 1).toNatClampNeg p1) (fa + 2) ((z_uS S (fa + 1) (S fa 1).toNatClampNeg p1) fa 1).toNatClampNeg p2) fa 1).toNatClampNeg p3) (fa + 4) ((z_uS (z_uS (z_uS S (fa + 1) (S fa 1).toNatClampNeg p1) (fa + 2) ((z_uS S (fa + 1) (S fa 1).toNatClampNeg p1) fa 1).toNatClampNeg p2) (fa + 3) ((z_uS (z_uS S (fa + 1) (S fa 1).toNatClampNeg p1) (fa + 2) ((z_uS S (fa + 1) (S fa 1).toNatClampNeg p1) fa 1).toNatClampNeg p2) fa 1).toNatClampNeg p3) fa 1).toNatClampNeg p4) fa 1).toNatClampNeg p5) fa 1).toNatClampNeg p6) fa 1 (((z_uS (z_uS (z_uS (z_uS (z_uS (z_uS S (fa + 1) (S fa 1).toNatClampNeg p1) (fa + 2) ((z_uS S (fa + 1) (S fa 1).toNatClampNeg p1) fa 1).toNatClampNeg p2) (fa + 3) ((z_uS (z_uS S (fa + 1) (S fa 1).toNatClampNeg p1) (fa + 2) ((z_uS S (fa + 1) (S fa 1).toNatClampNeg p1) fa 1).toNatClampNeg p2) fa 1).toNatClampNeg p3) (fa + 4) ((z_uS (z_uS (z_uS S (fa + 1) (S fa 1).toNatClampNeg p1) (fa + 2) ((z_uS S (fa + 1) (S fa 1).toNatClampNeg p1) fa 1).toNatClampNeg p2) (fa + 3) ((z_uS (z_uS S (fa + 1) (S fa 1).toNatClampNeg p1) (fa + 2) ((z_uS S (fa + 1) (S fa 1).toNatClampNeg p1) fa 1).toNatClampNeg p2) fa 1).toNatClampNeg p3) fa 1).toNatClampNeg p4) (fa + 5) ((z_uS (z_uS (z_uS (z_uS S (fa + 1) (S fa 1).toNatClampNeg p1) (fa + 2) ((z_uS S (fa + 1) (S fa 1).toNatClampNeg p1) fa 1).toNatClampNeg p2) (fa + 3) ((z_uS (z_uS S (fa + 1) (S fa 1).toNatClampNeg p1) (fa + 2) ((z_uS S (fa + 1) (S fa 1).toNatClampNeg p1) fa 1).toNatClampNeg p2) fa 1).toNatClampNeg p3) (fa + 4) ((z_uS (z_uS (z_uS S (fa + 1) (S fa 1).toNatClampNeg p1) (fa + 2) ((z_uS S (fa + 1) (S fa 1).toNatClampNeg p1) fa 1).toNatClampNeg p2) (fa + 3) ((z_uS (z_uS S (fa + 1) (S fa 1).toNatClampNeg p1) (fa + 2) ((z_uS S (fa + 1) (S fa 1).toNatClampNeg p1) fa 1).toNatClampNeg p2) fa 1).toNatClampNeg p3) fa 1).toNatClampNeg p4) fa 1).toNatClampNeg p5) (fa + 6) ((z_uS (z_uS (z_uS (z_uS (z_uS S (fa + 1) (S fa 1).toNatClampNeg p1) (fa + 2) ((z_uS S (fa + 1) (S fa 1).toNatClampNeg p1) fa 1).toNatClampNeg p2) (fa + 3) ((z_uS (z_uS S (fa + 1) (S fa 1).toNatClampNeg p1) (fa + 2) ((z_uS S (fa + 1) (S fa 1).toNatClampNeg p1) fa 1).toNatClampNeg p2) fa 1).toNatClampNeg p3) (fa + 4) ((z_uS (z_uS (z_uS S (fa + 1) (S fa 1).toNatClampNeg p1) (fa + 2) ((z_uS S (fa + 1) (S fa 1).toNatClampNeg p1) fa 1).toNatClampNeg p2) (fa + 3) ((z_uS (z_uS S (fa + 1) (S fa 1).toNatClampNeg p1) (fa + 2) ((z_uS S (fa + 1) (S fa 1).toNatClampNeg p1) fa 1).toNatClampNeg p2) fa 1).toNatClampNeg p3) fa 1).toNatClampNeg p4) (fa + 5) ((z_uS (z_uS (z_uS (z_uS S (fa + 1) (S fa 1).toNatClampNeg p1) (fa + 2) ((z_uS S (fa + 1) (S fa 1).toNatClampNeg p1) fa 1).toNatClampNeg p2) (fa + 3) ((z_uS (z_uS S (fa + 1) (S fa 1).toNatClampNeg p1) (fa + 2) ((z_uS S (fa + 1) (S fa 1).toNatClampNeg p1) fa 1).toNatClampNeg p2) fa 1).toNatClampNeg p3) (fa + 4) ((z_uS (z_uS (z_uS S (fa + 1) (S fa 1).toNatClampNeg p1) (fa + 2) ((z_uS S (fa + 1) (S fa 1).toNatClampNeg p1) fa 1).toNatClampNeg p2) (fa + 3) ((z_uS (z_uS S (fa + 1) (S fa 1).toNatClampNeg p1) (fa + 2) ((z_uS S (fa + 1) (S fa 1).toNatClampNeg p1) fa 1).toNatClampNeg p2) fa 1).toNatClampNeg p3) fa 1).toNatClampNeg p4) fa 1).toNatClampNeg p5) fa 1).toNatClampNeg p6) fa 1) + 1)) n, 0, 0)
  exact z_vret M (by decide +kernel) rfl (by decide) (by decide) (hQ _ K)

-- TrackHouseModel$Flow.copy
abbrev rm_MF_copy : Room := zr 1
def F_MF_copy_L15 (fa : Nat) (fb : Nat) : Nat → (Nat → Nat → Int32) → Int32 → ((Nat → Nat → Int32))
  | 0, S, x2 => S
  | f + 1, S, x2 => (if (S fb 1) ≤ x2 then S else (z_let (F_MF_add fa S (S (fb + 1) (x2).toNatClampNeg) (S (fb + 2) (x2).toNatClampNeg) (S (fb + 3) (x2).toNatClampNeg) (S (fb + 4) (x2).toNatClampNeg) (S (fb + 5) (x2).toNatClampNeg) (S (fb + 6) (x2).toNatClampNeg)) (fun S60 => ((F_MF_copy_L15 fa fb f) S60 (x2 + 1)))))
def Sf_MF_copy_L15 (fa : Nat) (fb : Nat) : Nat → (Nat → Nat → Int32) → Int32 → Prop
  | 0, _, _ => False
  | f + 1, S, x2 => (if (S fb 1) ≤ x2 then True else ((vp_in x2 8) ∧ ((vp_in x2 8) ∧ ((vp_in x2 8) ∧ ((vp_in x2 8) ∧ ((vp_in x2 8) ∧ ((vp_in x2 8) ∧ (Sf_MF_add fa S (S (fb + 1) (x2).toNatClampNeg) (S (fb + 2) (x2).toNatClampNeg) (S (fb + 3) (x2).toNatClampNeg) (S (fb + 4) (x2).toNatClampNeg) (S (fb + 5) (x2).toNatClampNeg) (S (fb + 6) (x2).toNatClampNeg) ∧ (z_let (F_MF_add fa S (S (fb + 1) (x2).toNatClampNeg) (S (fb + 2) (x2).toNatClampNeg) (S (fb + 3) (x2).toNatClampNeg) (S (fb + 4) (x2).toNatClampNeg) (S (fb + 5) (x2).toNatClampNeg) (S (fb + 6) (x2).toNatClampNeg)) (fun S60 => ((Sf_MF_copy_L15 fa fb f) S60 (x2 + 1))))))))))))
theorem t_MF_copy_L15 {X : z_X} {Post : Option z_V → z_W → Prop} (M : z_M X zm_MF_copy rm_MF_copy Post) {T' : Nat → Nat × Nat} {G' : Nat → Nat → Option Nat} {n : Nat} (fa : Nat) (hfa : zFo T' G' fa) (fb : Nat) (hfb : zFo T' G' fb) {Q : ((Nat → Nat → Int32)) → Prop}  (hE : ∀ (S' : (Nat → Nat → Int32)), Q S' → z_G X zm_MF_copy (69, [], [], zW T' G' S' n, 0, 0)) (f : Nat) : ∀ (S : (Nat → Nat → Int32)) (x2 : Int32), Q (F_MF_copy_L15 fa fb f S x2) → Sf_MF_copy_L15 fa fb f S x2 → z_G X zm_MF_copy (15, [(0, z_r fa), (1, z_r fb), (2, .inl x2)], [], zW T' G' S n, 0, 0) := by
  induction f with
  | zero => intro S x2 K hs; exact False.elim hs
  | succ f hC =>
    intro S x2 K hs
    rw [F_MF_copy_L15] at K
    rw [Sf_MF_copy_L15] at hs
    refine z_go2 M.1 15 [(.iload_n 2, 1), (.aload_n 1, 1)] (17, [(0, z_r fa), (1, z_r fb), (2, .inl x2)], [z_r fb, .inl x2], zW T' G' S n, 0, 0) (by decide +kernel) rfl ⟨trivial, trivial, trivial⟩ ?_
    refine z_getI M.1 (idx := 35) (ci := 12) (j := 1) (a := fb) (x := (S fb 1)) (by decide +kernel) (by decide) hfb.t rfl ?_
    refine z_icmp_ge 69 M.1 (off := 49) (by decide +kernel) (by decide) (fun c20 => ?_) (fun c20 => ?_)
    · rw [if_pos c20] at K hs
      exact z_lvs (lv' := []) [] rfl (hE S K)
    · rw [if_neg c20] at K hs
      refine z_go2 M.1 23 [(.aload_n 0, 1), (.aload_n 1, 1)] (25, [(0, z_r fa), (1, z_r fb), (2, .inl x2)], [z_r fb, z_r fa], zW T' G' S n, 0, 0) (by decide +kernel) rfl ⟨trivial, trivial, trivial⟩ ?_
      refine z_getR M.1 (idx := 13) (ci := 12) (j := 2) (a := fb) (r := (fb + 1)) (by decide +kernel) (by decide) hfb.t (hfb.g 2 (by decide) (by decide)) ?_
      refine z_go2 M.1 28 [(.iload_n 2, 1)] (29, [(0, z_r fa), (1, z_r fb), (2, .inl x2)], [.inl x2, z_r (fb + 1), z_r fa], zW T' G' S n, 0, 0) (by decide +kernel) rfl ⟨trivial, trivial⟩ ?_
      refine z_ialD M.1 (a := (fb + 1)) (len := 8) (x := (S (fb + 1) (x2).toNatClampNeg)) (by decide +kernel) (hfb.a 1 (by decide) (by decide)) hs.1 rfl ?_
      replace hs := hs.2
      refine z_go2 M.1 30 [(.aload_n 1, 1)] (31, [(0, z_r fa), (1, z_r fb), (2, .inl x2)], [z_r fb, .inl (S (fb + 1) (x2).toNatClampNeg), z_r fa], zW T' G' S n, 0, 0) (by decide +kernel) rfl ⟨trivial, trivial⟩ ?_
      refine z_getR M.1 (idx := 17) (ci := 12) (j := 3) (a := fb) (r := (fb + 2)) (by decide +kernel) (by decide) hfb.t (hfb.g 3 (by decide) (by decide)) ?_
      refine z_go2 M.1 34 [(.iload_n 2, 1)] (35, [(0, z_r fa), (1, z_r fb), (2, .inl x2)], [.inl x2, z_r (fb + 2), .inl (S (fb + 1) (x2).toNatClampNeg), z_r fa], zW T' G' S n, 0, 0) (by decide +kernel) rfl ⟨trivial, trivial⟩ ?_
      refine z_ialD M.1 (a := (fb + 2)) (len := 8) (x := (S (fb + 2) (x2).toNatClampNeg)) (by decide +kernel) (hfb.a 2 (by decide) (by decide)) hs.1 rfl ?_
      replace hs := hs.2
      refine z_go2 M.1 36 [(.aload_n 1, 1)] (37, [(0, z_r fa), (1, z_r fb), (2, .inl x2)], [z_r fb, .inl (S (fb + 2) (x2).toNatClampNeg), .inl (S (fb + 1) (x2).toNatClampNeg), z_r fa], zW T' G' S n, 0, 0) (by decide +kernel) rfl ⟨trivial, trivial⟩ ?_
      refine z_getR M.1 (idx := 20) (ci := 12) (j := 4) (a := fb) (r := (fb + 3)) (by decide +kernel) (by decide) hfb.t (hfb.g 4 (by decide) (by decide)) ?_
      refine z_go2 M.1 40 [(.iload_n 2, 1)] (41, [(0, z_r fa), (1, z_r fb), (2, .inl x2)], [.inl x2, z_r (fb + 3), .inl (S (fb + 2) (x2).toNatClampNeg), .inl (S (fb + 1) (x2).toNatClampNeg), z_r fa], zW T' G' S n, 0, 0) (by decide +kernel) rfl ⟨trivial, trivial⟩ ?_
      refine z_ialD M.1 (a := (fb + 3)) (len := 8) (x := (S (fb + 3) (x2).toNatClampNeg)) (by decide +kernel) (hfb.a 3 (by decide) (by decide)) hs.1 rfl ?_
      replace hs := hs.2
      refine z_go2 M.1 42 [(.aload_n 1, 1)] (43, [(0, z_r fa), (1, z_r fb), (2, .inl x2)], [z_r fb, .inl (S (fb + 3) (x2).toNatClampNeg), .inl (S (fb + 2) (x2).toNatClampNeg), .inl (S (fb + 1) (x2).toNatClampNeg), z_r fa], zW T' G' S n, 0, 0) (by decide +kernel) rfl ⟨trivial, trivial⟩ ?_
      refine z_getR M.1 (idx := 23) (ci := 12) (j := 5) (a := fb) (r := (fb + 4)) (by decide +kernel) (by decide) hfb.t (hfb.g 5 (by decide) (by decide)) ?_
      refine z_go2 M.1 46 [(.iload_n 2, 1)] (47, [(0, z_r fa), (1, z_r fb), (2, .inl x2)], [.inl x2, z_r (fb + 4), .inl (S (fb + 3) (x2).toNatClampNeg), .inl (S (fb + 2) (x2).toNatClampNeg), .inl (S (fb + 1) (x2).toNatClampNeg), z_r fa], zW T' G' S n, 0, 0) (by decide +kernel) rfl ⟨trivial, trivial⟩ ?_
      refine z_ialD M.1 (a := (fb + 4)) (len := 8) (x := (S (fb + 4) (x2).toNatClampNeg)) (by decide +kernel) (hfb.a 4 (by decide) (by decide)) hs.1 rfl ?_
      replace hs := hs.2
      refine z_go2 M.1 48 [(.aload_n 1, 1)] (49, [(0, z_r fa), (1, z_r fb), (2, .inl x2)], [z_r fb, .inl (S (fb + 4) (x2).toNatClampNeg), .inl (S (fb + 3) (x2).toNatClampNeg), .inl (S (fb + 2) (x2).toNatClampNeg), .inl (S (fb + 1) (x2).toNatClampNeg), z_r fa], zW T' G' S n, 0, 0) (by decide +kernel) rfl ⟨trivial, trivial⟩ ?_
      refine z_getR M.1 (idx := 26) (ci := 12) (j := 6) (a := fb) (r := (fb + 5)) (by decide +kernel) (by decide) hfb.t (hfb.g 6 (by decide) (by decide)) ?_
      refine z_go2 M.1 52 [(.iload_n 2, 1)] (53, [(0, z_r fa), (1, z_r fb), (2, .inl x2)], [.inl x2, z_r (fb + 5), .inl (S (fb + 4) (x2).toNatClampNeg), .inl (S (fb + 3) (x2).toNatClampNeg), .inl (S (fb + 2) (x2).toNatClampNeg), .inl (S (fb + 1) (x2).toNatClampNeg), z_r fa], zW T' G' S n, 0, 0) (by decide +kernel) rfl ⟨trivial, trivial⟩ ?_
      refine z_ialD M.1 (a := (fb + 5)) (len := 8) (x := (S (fb + 5) (x2).toNatClampNeg)) (by decide +kernel) (hfb.a 5 (by decide) (by decide)) hs.1 rfl ?_
      replace hs := hs.2
      refine z_go2 M.1 54 [(.aload_n 1, 1)] (55, [(0, z_r fa), (1, z_r fb), (2, .inl x2)], [z_r fb, .inl (S (fb + 5) (x2).toNatClampNeg), .inl (S (fb + 4) (x2).toNatClampNeg), .inl (S (fb + 3) (x2).toNatClampNeg), .inl (S (fb + 2) (x2).toNatClampNeg), .inl (S (fb + 1) (x2).toNatClampNeg), z_r fa], zW T' G' S n, 0, 0) (by decide +kernel) rfl ⟨trivial, trivial⟩ ?_
      refine z_getR M.1 (idx := 29) (ci := 12) (j := 7) (a := fb) (r := (fb + 6)) (by decide +kernel) (by decide) hfb.t (hfb.g 7 (by decide) (by decide)) ?_
      refine z_go2 M.1 58 [(.iload_n 2, 1)] (59, [(0, z_r fa), (1, z_r fb), (2, .inl x2)], [.inl x2, z_r (fb + 6), .inl (S (fb + 5) (x2).toNatClampNeg), .inl (S (fb + 4) (x2).toNatClampNeg), .inl (S (fb + 3) (x2).toNatClampNeg), .inl (S (fb + 2) (x2).toNatClampNeg), .inl (S (fb + 1) (x2).toNatClampNeg), z_r fa], zW T' G' S n, 0, 0) (by decide +kernel) rfl ⟨trivial, trivial⟩ ?_
      refine z_ialD M.1 (a := (fb + 6)) (len := 8) (x := (S (fb + 6) (x2).toNatClampNeg)) (by decide +kernel) (hfb.a 6 (by decide) (by decide)) hs.1 rfl ?_
      replace hs := hs.2
      refine z_callV M.1 (av := [.inl (S (fb + 1) (x2).toNatClampNeg), .inl (S (fb + 2) (x2).toNatClampNeg), .inl (S (fb + 3) (x2).toNatClampNeg), .inl (S (fb + 4) (x2).toNatClampNeg), .inl (S (fb + 5) (x2).toNatClampNeg), .inl (S (fb + 6) (x2).toNatClampNeg)]) (st := []) (a := fa) (ci := 12) (by decide +kernel) (c_MF_add T' G' n fa hfa S (S (fb + 1) (x2).toNatClampNeg) (S (fb + 2) (x2).toNatClampNeg) (S (fb + 3) (x2).toNatClampNeg) (S (fb + 4) (x2).toNatClampNeg) (S (fb + 5) (x2).toNatClampNeg) (S (fb + 6) (x2).toNatClampNeg) hs.1) M.2.1 zl_MF_38 zv_MF_add hfa.t rfl rfl ⟨by decide, by decide, by decide, by decide⟩ rfl (Nat.le_of_ble_eq_true rfl) (fun v w' hv => ?_)
      replace hs := hs.2
      obtain ⟨S60, hF60⟩ : ∃ y, F_MF_add fa S (S (fb + 1) (x2).toNatClampNeg) (S (fb + 2) (x2).toNatClampNeg) (S (fb + 3) (x2).toNatClampNeg) (S (fb + 4) (x2).toNatClampNeg) (S (fb + 5) (x2).toNatClampNeg) (S (fb + 6) (x2).toNatClampNeg) = y := ⟨_, rfl⟩
      rw [hF60] at K hv
      try rw [hF60] at hs
      try dsimp only [z_let] at K hs
      obtain ⟨rfl, rfl⟩ := hv
      show z_G X zm_MF_copy (63, [(0, z_r fa), (1, z_r fb), (2, .inl x2)], [], zW T' G' S60 n, 0, 0)
      refine z_go2 M.1 63 [(.iinc 2 1, 3), (.goto (-51), 3)] (15, [(2, .inl (x2 + 1)), (0, z_r fa), (1, z_r fb)], [], zW T' G' S60 n, 0, 0) (by decide +kernel) rfl ⟨trivial, trivial, trivial⟩ ?_
      exact z_lvs (lv' := [(0, z_r fa), (1, z_r fb), (2, .inl (x2 + 1))]) [1, 2, 0] rfl (hC S60 (x2 + 1) K hs)
def F_MF_copy (fa : Nat) (fb : Nat) (S : (Nat → Nat → Int32)) : (Nat → Nat → Int32) := (match F_MF_copy_L15 fa fb 1300 (z_uS (z_uS S fa 0 (S fb 0)) fa 1 0) 0 with | S15 => S15)
def Sf_MF_copy (fa : Nat) (fb : Nat) (S : (Nat → Nat → Int32)) : Prop := (Sf_MF_copy_L15 fa fb 1300 (z_uS (z_uS S fa 0 (S fb 0)) fa 1 0) 0 ∧ True)
theorem c_MF_copy (T' : Nat → Nat × Nat) (G' : Nat → Nat → Option Nat) (n : Nat) (fa : Nat) (hfa : zFo T' G' fa) (fb : Nat) (hfb : zFo T' G' fb) (S : (Nat → Nat → Int32)) (hs : Sf_MF_copy fa fb S) : z_Run rm_MF_copy zm_MF_copy [z_r fa, z_r fb] (zW T' G' S n) (zq none (zW T' G' (F_MF_copy fa fb S) n)) := by
  refine z_body (by decide) zf_MF_ok (Nat.le_of_ble_eq_true rfl) (fun X M => ?_)
  obtain ⟨Q, hQ, K⟩ : ∃ Q : (Nat → Nat → Int32) → Prop, (∀ S', Q S' → zq none (zW T' G' (F_MF_copy fa fb S) n) none (zW T' G' S' n)) ∧ Q (F_MF_copy fa fb S) := ⟨fun o => F_MF_copy fa fb S = o, fun S' h => ⟨rfl, by rw [h]⟩, rfl⟩
  show z_G X zm_MF_copy (0, [(0, z_r fa), (1, z_r fb)], [], zW T' G' S n, 0, 0)
  unfold F_MF_copy at K
  unfold Sf_MF_copy at hs
  refine z_go2 M.1 0 [(.aload_n 0, 1), (.aload_n 1, 1)] (2, [(0, z_r fa), (1, z_r fb)], [z_r fb, z_r fa], zW T' G' S n, 0, 0) (by decide +kernel) rfl ⟨trivial, trivial, trivial⟩ ?_
  refine z_getI M.1 (idx := 7) (ci := 12) (j := 0) (a := fb) (x := (S fb 0)) (by decide +kernel) (by decide) hfb.t rfl ?_
  refine z_putI M.1 (idx := 7) (ci := 12) (j := 0) (a := fa) (by decide +kernel) (by decide) hfa.t ?_
  show z_G X zm_MF_copy (8, [(0, z_r fa), (1, z_r fb)], [], zW T' G' (z_uS S fa 0 (S fb 0)) n, 0, 0)
  refine z_go2 M.1 8 [(.aload_n 0, 1), (.iconst 0, 1)] (10, [(0, z_r fa), (1, z_r fb)], [.inl 0, z_r fa], zW T' G' (z_uS S fa 0 (S fb 0)) n, 0, 0) (by decide +kernel) rfl ⟨trivial, trivial, trivial⟩ ?_
  refine z_putI M.1 (idx := 35) (ci := 12) (j := 1) (a := fa) (by decide +kernel) (by decide) hfa.t ?_
  show z_G X zm_MF_copy (13, [(0, z_r fa), (1, z_r fb)], [], zW T' G' (z_uS (z_uS S fa 0 (S fb 0)) fa 1 0) n, 0, 0)
  refine z_go2 M.1 13 [(.iconst 0, 1), (.istore_n 2, 1)] (15, [(2, .inl 0), (0, z_r fa), (1, z_r fb)], [], zW T' G' (z_uS (z_uS S fa 0 (S fb 0)) fa 1 0) n, 0, 0) (by decide +kernel) rfl ⟨trivial, trivial, trivial⟩ ?_
  refine z_lvs (lv' := [(0, z_r fa), (1, z_r fb), (2, .inl 0)]) [1, 2, 0] rfl ?_
  refine t_MF_copy_L15 M fa hfa fb hfb (Q := fun o => F_MF_copy_L15 fa fb 1300 (z_uS (z_uS S fa 0 (S fb 0)) fa 1 0) 0 = o) (fun S15 hL15 => ?_) 1300 (z_uS (z_uS S fa 0 (S fb 0)) fa 1 0) 0 rfl hs.1
  replace hs := hs.2
  rw [hL15] at K
  try dsimp only at K
  exact z_vret M (by decide +kernel) rfl (by decide) (by decide) (hQ _ K)

-- TrackHouseModel$Flow.drop
abbrev rm_MF_drop : Room := zr 1
def F_MF_drop_L13 (fa : Nat) (x1 : Int32) (x2 : Int32) (x3 : Int32) : Nat → (Nat → Nat → Int32) → Int32 → ((Nat → Nat → Int32))
  | 0, S, x4 => S
  | f + 1, S, x4 => (if x3 ≤ x4 then S else (if (S (fa + 1) (x4).toNatClampNeg) = x1 then ((F_MF_drop_L13 fa x1 x2 x3 f) S (x4 + 1)) else (if (S (fa + 2) (x4).toNatClampNeg) = x1 then ((F_MF_drop_L13 fa x1 x2 x3 f) S (x4 + 1)) else (z_let (F_MF_add fa S (S (fa + 1) (x4).toNatClampNeg) (S (fa + 2) (x4).toNatClampNeg) (S (fa + 3) (x4).toNatClampNeg) (S (fa + 4) (x4).toNatClampNeg) (S (fa + 5) (x4).toNatClampNeg) (S (fa + 6) (x4).toNatClampNeg)) (fun S84 => ((F_MF_drop_L13 fa x1 x2 x3 f) S84 (x4 + 1)))))))
def Sf_MF_drop_L13 (fa : Nat) (x1 : Int32) (x2 : Int32) (x3 : Int32) : Nat → (Nat → Nat → Int32) → Int32 → Prop
  | 0, _, _ => False
  | f + 1, S, x4 => (if x3 ≤ x4 then True else ((vp_in x4 8) ∧ (if (S (fa + 1) (x4).toNatClampNeg) = x1 then ((Sf_MF_drop_L13 fa x1 x2 x3 f) S (x4 + 1)) else ((vp_in x4 8) ∧ (if (S (fa + 2) (x4).toNatClampNeg) = x1 then ((Sf_MF_drop_L13 fa x1 x2 x3 f) S (x4 + 1)) else ((vp_in x4 8) ∧ ((vp_in x4 8) ∧ ((vp_in x4 8) ∧ ((vp_in x4 8) ∧ ((vp_in x4 8) ∧ ((vp_in x4 8) ∧ (Sf_MF_add fa S (S (fa + 1) (x4).toNatClampNeg) (S (fa + 2) (x4).toNatClampNeg) (S (fa + 3) (x4).toNatClampNeg) (S (fa + 4) (x4).toNatClampNeg) (S (fa + 5) (x4).toNatClampNeg) (S (fa + 6) (x4).toNatClampNeg) ∧ (z_let (F_MF_add fa S (S (fa + 1) (x4).toNatClampNeg) (S (fa + 2) (x4).toNatClampNeg) (S (fa + 3) (x4).toNatClampNeg) (S (fa + 4) (x4).toNatClampNeg) (S (fa + 5) (x4).toNatClampNeg) (S (fa + 6) (x4).toNatClampNeg)) (fun S84 => ((Sf_MF_drop_L13 fa x1 x2 x3 f) S84 (x4 + 1))))))))))))))))
theorem t_MF_drop_L13 {X : z_X} {Post : Option z_V → z_W → Prop} (M : z_M X zm_MF_drop rm_MF_drop Post) {T' : Nat → Nat × Nat} {G' : Nat → Nat → Option Nat} {n : Nat} (fa : Nat) (hfa : zFo T' G' fa) {Q : ((Nat → Nat → Int32)) → Prop}  (x1 : Int32) (x2 : Int32) (x3 : Int32) (hE : ∀ (S' : (Nat → Nat → Int32)), Q S' → z_G X zm_MF_drop (93, [(0, z_r fa), (1, .inl x1), (2, .inl x2), (3, .inl x3)], [], zW T' G' S' n, 0, 0)) (f : Nat) : ∀ (S : (Nat → Nat → Int32)) (x4 : Int32), Q (F_MF_drop_L13 fa x1 x2 x3 f S x4) → Sf_MF_drop_L13 fa x1 x2 x3 f S x4 → z_G X zm_MF_drop (13, [(0, z_r fa), (1, .inl x1), (2, .inl x2), (3, .inl x3), (4, .inl x4)], [], zW T' G' S n, 0, 0) := by
  induction f with
  | zero => intro S x4 K hs; exact False.elim hs
  | succ f hC =>
    intro S x4 K hs
    rw [F_MF_drop_L13] at K
    rw [Sf_MF_drop_L13] at hs
    refine z_go2 M.1 13 [(.iload 4, 2), (.iload_n 3, 1)] (16, [(0, z_r fa), (1, .inl x1), (2, .inl x2), (3, .inl x3), (4, .inl x4)], [.inl x3, .inl x4], zW T' G' S n, 0, 0) (by decide +kernel) rfl ⟨trivial, trivial, trivial⟩ ?_
    refine z_icmp_ge 93 M.1 (off := 77) (by decide +kernel) (by decide) (fun c16 => ?_) (fun c16 => ?_)
    · rw [if_pos c16] at K hs
      exact z_lvs (lv' := [(0, z_r fa), (1, .inl x1), (2, .inl x2), (3, .inl x3)]) [0, 1, 2, 3] rfl (hE S K)
    · rw [if_neg c16] at K hs
      refine z_go2 M.1 19 [(.aload_n 0, 1)] (20, [(0, z_r fa), (1, .inl x1), (2, .inl x2), (3, .inl x3), (4, .inl x4)], [z_r fa], zW T' G' S n, 0, 0) (by decide +kernel) rfl ⟨trivial, trivial⟩ ?_
      refine z_getR M.1 (idx := 13) (ci := 12) (j := 2) (a := fa) (r := (fa + 1)) (by decide +kernel) (by decide) hfa.t (hfa.g 2 (by decide) (by decide)) ?_
      refine z_go2 M.1 23 [(.iload 4, 2)] (25, [(0, z_r fa), (1, .inl x1), (2, .inl x2), (3, .inl x3), (4, .inl x4)], [.inl x4, z_r (fa + 1)], zW T' G' S n, 0, 0) (by decide +kernel) rfl ⟨trivial, trivial⟩ ?_
      refine z_ialD M.1 (a := (fa + 1)) (len := 8) (x := (S (fa + 1) (x4).toNatClampNeg)) (by decide +kernel) (hfa.a 1 (by decide) (by decide)) hs.1 rfl ?_
      replace hs := hs.2
      refine z_go2 M.1 26 [(.iload_n 1, 1)] (27, [(0, z_r fa), (1, .inl x1), (2, .inl x2), (3, .inl x3), (4, .inl x4)], [.inl x1, .inl (S (fa + 1) (x4).toNatClampNeg)], zW T' G' S n, 0, 0) (by decide +kernel) rfl ⟨trivial, trivial⟩ ?_
      refine z_icmp_eq 87 M.1 (off := 60) (by decide +kernel) (by decide) (fun c27 => ?_) (fun c27 => ?_)
      · rw [if_pos c27] at K hs
        refine z_go2 M.1 87 [(.iinc 4 1, 3), (.goto (-77), 3)] (13, [(4, .inl (x4 + 1)), (0, z_r fa), (1, .inl x1), (2, .inl x2), (3, .inl x3)], [], zW T' G' S n, 0, 0) (by decide +kernel) rfl ⟨trivial, trivial, trivial⟩ ?_
        exact z_lvs (lv' := [(0, z_r fa), (1, .inl x1), (2, .inl x2), (3, .inl x3), (4, .inl (x4 + 1))]) [1, 2, 3, 4, 0] rfl (hC S (x4 + 1) K hs)
      · rw [if_neg c27] at K hs
        refine z_go2 M.1 30 [(.aload_n 0, 1)] (31, [(0, z_r fa), (1, .inl x1), (2, .inl x2), (3, .inl x3), (4, .inl x4)], [z_r fa], zW T' G' S n, 0, 0) (by decide +kernel) rfl ⟨trivial, trivial⟩ ?_
        refine z_getR M.1 (idx := 17) (ci := 12) (j := 3) (a := fa) (r := (fa + 2)) (by decide +kernel) (by decide) hfa.t (hfa.g 3 (by decide) (by decide)) ?_
        refine z_go2 M.1 34 [(.iload 4, 2)] (36, [(0, z_r fa), (1, .inl x1), (2, .inl x2), (3, .inl x3), (4, .inl x4)], [.inl x4, z_r (fa + 2)], zW T' G' S n, 0, 0) (by decide +kernel) rfl ⟨trivial, trivial⟩ ?_
        refine z_ialD M.1 (a := (fa + 2)) (len := 8) (x := (S (fa + 2) (x4).toNatClampNeg)) (by decide +kernel) (hfa.a 2 (by decide) (by decide)) hs.1 rfl ?_
        replace hs := hs.2
        refine z_go2 M.1 37 [(.iload_n 1, 1)] (38, [(0, z_r fa), (1, .inl x1), (2, .inl x2), (3, .inl x3), (4, .inl x4)], [.inl x1, .inl (S (fa + 2) (x4).toNatClampNeg)], zW T' G' S n, 0, 0) (by decide +kernel) rfl ⟨trivial, trivial⟩ ?_
        refine z_icmp_eq 87 M.1 (off := 49) (by decide +kernel) (by decide) (fun c38 => ?_) (fun c38 => ?_)
        · rw [if_pos c38] at K hs
          refine z_go2 M.1 87 [(.iinc 4 1, 3), (.goto (-77), 3)] (13, [(4, .inl (x4 + 1)), (0, z_r fa), (1, .inl x1), (2, .inl x2), (3, .inl x3)], [], zW T' G' S n, 0, 0) (by decide +kernel) rfl ⟨trivial, trivial, trivial⟩ ?_
          exact z_lvs (lv' := [(0, z_r fa), (1, .inl x1), (2, .inl x2), (3, .inl x3), (4, .inl (x4 + 1))]) [1, 2, 3, 4, 0] rfl (hC S (x4 + 1) K hs)
        · rw [if_neg c38] at K hs
          refine z_go2 M.1 41 [(.aload_n 0, 1), (.aload_n 0, 1)] (43, [(0, z_r fa), (1, .inl x1), (2, .inl x2), (3, .inl x3), (4, .inl x4)], [z_r fa, z_r fa], zW T' G' S n, 0, 0) (by decide +kernel) rfl ⟨trivial, trivial, trivial⟩ ?_
          refine z_getR M.1 (idx := 13) (ci := 12) (j := 2) (a := fa) (r := (fa + 1)) (by decide +kernel) (by decide) hfa.t (hfa.g 2 (by decide) (by decide)) ?_
          refine z_go2 M.1 46 [(.iload 4, 2)] (48, [(0, z_r fa), (1, .inl x1), (2, .inl x2), (3, .inl x3), (4, .inl x4)], [.inl x4, z_r (fa + 1), z_r fa], zW T' G' S n, 0, 0) (by decide +kernel) rfl ⟨trivial, trivial⟩ ?_
          refine z_ialD M.1 (a := (fa + 1)) (len := 8) (x := (S (fa + 1) (x4).toNatClampNeg)) (by decide +kernel) (hfa.a 1 (by decide) (by decide)) hs.1 rfl ?_
          replace hs := hs.2
          refine z_go2 M.1 49 [(.aload_n 0, 1)] (50, [(0, z_r fa), (1, .inl x1), (2, .inl x2), (3, .inl x3), (4, .inl x4)], [z_r fa, .inl (S (fa + 1) (x4).toNatClampNeg), z_r fa], zW T' G' S n, 0, 0) (by decide +kernel) rfl ⟨trivial, trivial⟩ ?_
          refine z_getR M.1 (idx := 17) (ci := 12) (j := 3) (a := fa) (r := (fa + 2)) (by decide +kernel) (by decide) hfa.t (hfa.g 3 (by decide) (by decide)) ?_
          refine z_go2 M.1 53 [(.iload 4, 2)] (55, [(0, z_r fa), (1, .inl x1), (2, .inl x2), (3, .inl x3), (4, .inl x4)], [.inl x4, z_r (fa + 2), .inl (S (fa + 1) (x4).toNatClampNeg), z_r fa], zW T' G' S n, 0, 0) (by decide +kernel) rfl ⟨trivial, trivial⟩ ?_
          refine z_ialD M.1 (a := (fa + 2)) (len := 8) (x := (S (fa + 2) (x4).toNatClampNeg)) (by decide +kernel) (hfa.a 2 (by decide) (by decide)) hs.1 rfl ?_
          replace hs := hs.2
          refine z_go2 M.1 56 [(.aload_n 0, 1)] (57, [(0, z_r fa), (1, .inl x1), (2, .inl x2), (3, .inl x3), (4, .inl x4)], [z_r fa, .inl (S (fa + 2) (x4).toNatClampNeg), .inl (S (fa + 1) (x4).toNatClampNeg), z_r fa], zW T' G' S n, 0, 0) (by decide +kernel) rfl ⟨trivial, trivial⟩ ?_
          refine z_getR M.1 (idx := 20) (ci := 12) (j := 4) (a := fa) (r := (fa + 3)) (by decide +kernel) (by decide) hfa.t (hfa.g 4 (by decide) (by decide)) ?_
          refine z_go2 M.1 60 [(.iload 4, 2)] (62, [(0, z_r fa), (1, .inl x1), (2, .inl x2), (3, .inl x3), (4, .inl x4)], [.inl x4, z_r (fa + 3), .inl (S (fa + 2) (x4).toNatClampNeg), .inl (S (fa + 1) (x4).toNatClampNeg), z_r fa], zW T' G' S n, 0, 0) (by decide +kernel) rfl ⟨trivial, trivial⟩ ?_
          refine z_ialD M.1 (a := (fa + 3)) (len := 8) (x := (S (fa + 3) (x4).toNatClampNeg)) (by decide +kernel) (hfa.a 3 (by decide) (by decide)) hs.1 rfl ?_
          replace hs := hs.2
          refine z_go2 M.1 63 [(.aload_n 0, 1)] (64, [(0, z_r fa), (1, .inl x1), (2, .inl x2), (3, .inl x3), (4, .inl x4)], [z_r fa, .inl (S (fa + 3) (x4).toNatClampNeg), .inl (S (fa + 2) (x4).toNatClampNeg), .inl (S (fa + 1) (x4).toNatClampNeg), z_r fa], zW T' G' S n, 0, 0) (by decide +kernel) rfl ⟨trivial, trivial⟩ ?_
          refine z_getR M.1 (idx := 23) (ci := 12) (j := 5) (a := fa) (r := (fa + 4)) (by decide +kernel) (by decide) hfa.t (hfa.g 5 (by decide) (by decide)) ?_
          refine z_go2 M.1 67 [(.iload 4, 2)] (69, [(0, z_r fa), (1, .inl x1), (2, .inl x2), (3, .inl x3), (4, .inl x4)], [.inl x4, z_r (fa + 4), .inl (S (fa + 3) (x4).toNatClampNeg), .inl (S (fa + 2) (x4).toNatClampNeg), .inl (S (fa + 1) (x4).toNatClampNeg), z_r fa], zW T' G' S n, 0, 0) (by decide +kernel) rfl ⟨trivial, trivial⟩ ?_
          refine z_ialD M.1 (a := (fa + 4)) (len := 8) (x := (S (fa + 4) (x4).toNatClampNeg)) (by decide +kernel) (hfa.a 4 (by decide) (by decide)) hs.1 rfl ?_
          replace hs := hs.2
          refine z_go2 M.1 70 [(.aload_n 0, 1)] (71, [(0, z_r fa), (1, .inl x1), (2, .inl x2), (3, .inl x3), (4, .inl x4)], [z_r fa, .inl (S (fa + 4) (x4).toNatClampNeg), .inl (S (fa + 3) (x4).toNatClampNeg), .inl (S (fa + 2) (x4).toNatClampNeg), .inl (S (fa + 1) (x4).toNatClampNeg), z_r fa], zW T' G' S n, 0, 0) (by decide +kernel) rfl ⟨trivial, trivial⟩ ?_
          refine z_getR M.1 (idx := 26) (ci := 12) (j := 6) (a := fa) (r := (fa + 5)) (by decide +kernel) (by decide) hfa.t (hfa.g 6 (by decide) (by decide)) ?_
          refine z_go2 M.1 74 [(.iload 4, 2)] (76, [(0, z_r fa), (1, .inl x1), (2, .inl x2), (3, .inl x3), (4, .inl x4)], [.inl x4, z_r (fa + 5), .inl (S (fa + 4) (x4).toNatClampNeg), .inl (S (fa + 3) (x4).toNatClampNeg), .inl (S (fa + 2) (x4).toNatClampNeg), .inl (S (fa + 1) (x4).toNatClampNeg), z_r fa], zW T' G' S n, 0, 0) (by decide +kernel) rfl ⟨trivial, trivial⟩ ?_
          refine z_ialD M.1 (a := (fa + 5)) (len := 8) (x := (S (fa + 5) (x4).toNatClampNeg)) (by decide +kernel) (hfa.a 5 (by decide) (by decide)) hs.1 rfl ?_
          replace hs := hs.2
          refine z_go2 M.1 77 [(.aload_n 0, 1)] (78, [(0, z_r fa), (1, .inl x1), (2, .inl x2), (3, .inl x3), (4, .inl x4)], [z_r fa, .inl (S (fa + 5) (x4).toNatClampNeg), .inl (S (fa + 4) (x4).toNatClampNeg), .inl (S (fa + 3) (x4).toNatClampNeg), .inl (S (fa + 2) (x4).toNatClampNeg), .inl (S (fa + 1) (x4).toNatClampNeg), z_r fa], zW T' G' S n, 0, 0) (by decide +kernel) rfl ⟨trivial, trivial⟩ ?_
          refine z_getR M.1 (idx := 29) (ci := 12) (j := 7) (a := fa) (r := (fa + 6)) (by decide +kernel) (by decide) hfa.t (hfa.g 7 (by decide) (by decide)) ?_
          refine z_go2 M.1 81 [(.iload 4, 2)] (83, [(0, z_r fa), (1, .inl x1), (2, .inl x2), (3, .inl x3), (4, .inl x4)], [.inl x4, z_r (fa + 6), .inl (S (fa + 5) (x4).toNatClampNeg), .inl (S (fa + 4) (x4).toNatClampNeg), .inl (S (fa + 3) (x4).toNatClampNeg), .inl (S (fa + 2) (x4).toNatClampNeg), .inl (S (fa + 1) (x4).toNatClampNeg), z_r fa], zW T' G' S n, 0, 0) (by decide +kernel) rfl ⟨trivial, trivial⟩ ?_
          refine z_ialD M.1 (a := (fa + 6)) (len := 8) (x := (S (fa + 6) (x4).toNatClampNeg)) (by decide +kernel) (hfa.a 6 (by decide) (by decide)) hs.1 rfl ?_
          replace hs := hs.2
          refine z_callV M.1 (av := [.inl (S (fa + 1) (x4).toNatClampNeg), .inl (S (fa + 2) (x4).toNatClampNeg), .inl (S (fa + 3) (x4).toNatClampNeg), .inl (S (fa + 4) (x4).toNatClampNeg), .inl (S (fa + 5) (x4).toNatClampNeg), .inl (S (fa + 6) (x4).toNatClampNeg)]) (st := []) (a := fa) (ci := 12) (by decide +kernel) (c_MF_add T' G' n fa hfa S (S (fa + 1) (x4).toNatClampNeg) (S (fa + 2) (x4).toNatClampNeg) (S (fa + 3) (x4).toNatClampNeg) (S (fa + 4) (x4).toNatClampNeg) (S (fa + 5) (x4).toNatClampNeg) (S (fa + 6) (x4).toNatClampNeg) hs.1) M.2.1 zl_MF_38 zv_MF_add hfa.t rfl rfl ⟨by decide, by decide, by decide, by decide⟩ rfl (Nat.le_of_ble_eq_true rfl) (fun v w' hv => ?_)
          replace hs := hs.2
          obtain ⟨S84, hF84⟩ : ∃ y, F_MF_add fa S (S (fa + 1) (x4).toNatClampNeg) (S (fa + 2) (x4).toNatClampNeg) (S (fa + 3) (x4).toNatClampNeg) (S (fa + 4) (x4).toNatClampNeg) (S (fa + 5) (x4).toNatClampNeg) (S (fa + 6) (x4).toNatClampNeg) = y := ⟨_, rfl⟩
          rw [hF84] at K hv
          try rw [hF84] at hs
          try dsimp only [z_let] at K hs
          obtain ⟨rfl, rfl⟩ := hv
          show z_G X zm_MF_drop (87, [(0, z_r fa), (1, .inl x1), (2, .inl x2), (3, .inl x3), (4, .inl x4)], [], zW T' G' S84 n, 0, 0)
          refine z_go2 M.1 87 [(.iinc 4 1, 3), (.goto (-77), 3)] (13, [(4, .inl (x4 + 1)), (0, z_r fa), (1, .inl x1), (2, .inl x2), (3, .inl x3)], [], zW T' G' S84 n, 0, 0) (by decide +kernel) rfl ⟨trivial, trivial, trivial⟩ ?_
          exact z_lvs (lv' := [(0, z_r fa), (1, .inl x1), (2, .inl x2), (3, .inl x3), (4, .inl (x4 + 1))]) [1, 2, 3, 4, 0] rfl (hC S84 (x4 + 1) K hs)
def F_MF_drop (fa : Nat) (S : (Nat → Nat → Int32)) (p1 : Int32) (p2 : Int32) : (Int32 × (Nat → Nat → Int32)) := (match F_MF_drop_L13 fa p1 p2 (S fa 1) 1300 (z_uS S fa 1 0) 0 with | S13 => (((S fa 1) - ((z_uS (z_uS S13 fa 0 ((S13 fa 0) - ((1 : Int32) <<< (p1 &&& 31)))) (fa + 7) (p1).toNatClampNeg p2) fa 1)), (z_uS (z_uS S13 fa 0 ((S13 fa 0) - ((1 : Int32) <<< (p1 &&& 31)))) (fa + 7) (p1).toNatClampNeg p2)))
def Sf_MF_drop (fa : Nat) (S : (Nat → Nat → Int32)) (p1 : Int32) (p2 : Int32) : Prop := (Sf_MF_drop_L13 fa p1 p2 (S fa 1) 1300 (z_uS S fa 1 0) 0 ∧ (match F_MF_drop_L13 fa p1 p2 (S fa 1) 1300 (z_uS S fa 1 0) 0 with | S13 => ((vp_in p1 6) ∧ True)))
theorem c_MF_drop (T' : Nat → Nat × Nat) (G' : Nat → Nat → Option Nat) (n : Nat) (fa : Nat) (hfa : zFo T' G' fa) (S : (Nat → Nat → Int32)) (p1 : Int32) (p2 : Int32) (hs : Sf_MF_drop fa S p1 p2) : z_Run rm_MF_drop zm_MF_drop [z_r fa, .inl p1, .inl p2] (zW T' G' S n) (zq (some (.inl (F_MF_drop fa S p1 p2).1)) (zW T' G' (F_MF_drop fa S p1 p2).2 n)) := by
  refine z_body (by decide) zf_MF_ok (Nat.le_of_ble_eq_true rfl) (fun X M => ?_)
  obtain ⟨Q, hQ, K⟩ : ∃ Q : (Int32 × (Nat → Nat → Int32)) → Prop, (∀ v S', Q (v, S') → zq (some (.inl (F_MF_drop fa S p1 p2).1)) (zW T' G' (F_MF_drop fa S p1 p2).2 n) (some (.inl v)) (zW T' G' S' n)) ∧ Q (F_MF_drop fa S p1 p2) := ⟨fun o => F_MF_drop fa S p1 p2 = o, fun v S' h => ⟨by rw [h], by rw [h]⟩, rfl⟩
  show z_G X zm_MF_drop (0, [(0, z_r fa), (1, .inl p1), (2, .inl p2)], [], zW T' G' S n, 0, 0)
  unfold F_MF_drop at K
  unfold Sf_MF_drop at hs
  refine z_go2 M.1 0 [(.aload_n 0, 1)] (1, [(0, z_r fa), (1, .inl p1), (2, .inl p2)], [z_r fa], zW T' G' S n, 0, 0) (by decide +kernel) rfl ⟨trivial, trivial⟩ ?_
  refine z_getI M.1 (idx := 35) (ci := 12) (j := 1) (a := fa) (x := (S fa 1)) (by decide +kernel) (by decide) hfa.t rfl ?_
  refine z_go2 M.1 4 [(.istore_n 3, 1), (.aload_n 0, 1), (.iconst 0, 1)] (7, [(3, .inl (S fa 1)), (0, z_r fa), (1, .inl p1), (2, .inl p2)], [.inl 0, z_r fa], zW T' G' S n, 0, 0) (by decide +kernel) rfl ⟨trivial, trivial, trivial, trivial⟩ ?_
  refine z_putI M.1 (idx := 35) (ci := 12) (j := 1) (a := fa) (by decide +kernel) (by decide) hfa.t ?_
  show z_G X zm_MF_drop (10, [(3, .inl (S fa 1)), (0, z_r fa), (1, .inl p1), (2, .inl p2)], [], zW T' G' (z_uS S fa 1 0) n, 0, 0)
  refine z_go2 M.1 10 [(.iconst 0, 1), (.istore 4, 2)] (13, [(4, .inl 0), (3, .inl (S fa 1)), (0, z_r fa), (1, .inl p1), (2, .inl p2)], [], zW T' G' (z_uS S fa 1 0) n, 0, 0) (by decide +kernel) rfl ⟨trivial, trivial, trivial⟩ ?_
  refine z_lvs (lv' := [(0, z_r fa), (1, .inl p1), (2, .inl p2), (3, .inl (S fa 1)), (4, .inl 0)]) [2, 3, 4, 1, 0] rfl ?_
  refine t_MF_drop_L13 M fa hfa (Q := fun o => F_MF_drop_L13 fa p1 p2 (S fa 1) 1300 (z_uS S fa 1 0) 0 = o) p1 p2 (S fa 1) (fun S13 hL13 => ?_) 1300 (z_uS S fa 1 0) 0 rfl hs.1
  replace hs := hs.2
  rw [hL13] at K
  try rw [hL13] at hs
  try dsimp only at K hs
  refine z_go2 M.1 93 [(.aload_n 0, 1), (.dup, 1)] (95, [(0, z_r fa), (1, .inl p1), (2, .inl p2), (3, .inl (S fa 1))], [z_r fa, z_r fa], zW T' G' S13 n, 0, 0) (by decide +kernel) rfl ⟨trivial, rfl, trivial⟩ ?_
  refine z_getI M.1 (idx := 7) (ci := 12) (j := 0) (a := fa) (x := (S13 fa 0)) (by decide +kernel) (by decide) hfa.t rfl ?_
  refine z_go2 M.1 98 [(.iconst 1, 1), (.iload_n 1, 1), (.ishl, 1), (.isub, 1)] (102, [(0, z_r fa), (1, .inl p1), (2, .inl p2), (3, .inl (S fa 1))], [.inl ((S13 fa 0) - ((1 : Int32) <<< (p1 &&& 31))), z_r fa], zW T' G' S13 n, 0, 0) (by decide +kernel) rfl ⟨trivial, trivial, trivial, trivial, trivial⟩ ?_
  refine z_putI M.1 (idx := 7) (ci := 12) (j := 0) (a := fa) (by decide +kernel) (by decide) hfa.t ?_
  show z_G X zm_MF_drop (105, [(0, z_r fa), (1, .inl p1), (2, .inl p2), (3, .inl (S fa 1))], [], zW T' G' (z_uS S13 fa 0 ((S13 fa 0) - ((1 : Int32) <<< (p1 &&& 31)))) n, 0, 0)
  refine z_go2 M.1 105 [(.aload_n 0, 1)] (106, [(0, z_r fa), (1, .inl p1), (2, .inl p2), (3, .inl (S fa 1))], [z_r fa], zW T' G' (z_uS S13 fa 0 ((S13 fa 0) - ((1 : Int32) <<< (p1 &&& 31)))) n, 0, 0) (by decide +kernel) rfl ⟨trivial, trivial⟩ ?_
  refine z_getR M.1 (idx := 32) (ci := 12) (j := 8) (a := fa) (r := (fa + 7)) (by decide +kernel) (by decide) hfa.t (hfa.g 8 (by decide) (by decide)) ?_
  refine z_go2 M.1 109 [(.iload_n 1, 1), (.iload_n 2, 1)] (111, [(0, z_r fa), (1, .inl p1), (2, .inl p2), (3, .inl (S fa 1))], [.inl p2, .inl p1, z_r (fa + 7)], zW T' G' (z_uS S13 fa 0 ((S13 fa 0) - ((1 : Int32) <<< (p1 &&& 31)))) n, 0, 0) (by decide +kernel) rfl ⟨trivial, trivial, trivial⟩ ?_
  refine z_iast M.1 (a := (fa + 7)) (len := 6) (by decide +kernel) hfa.m hs.1 ?_
  show z_G X zm_MF_drop (112, [(0, z_r fa), (1, .inl p1), (2, .inl p2), (3, .inl (S fa 1))], [], zW T' G' (z_uS (z_uS S13 fa 0 ((S13 fa 0) - ((1 : Int32) <<< (p1 &&& 31)))) (fa + 7) (p1).toNatClampNeg p2) n, 0, 0)
  replace hs := hs.2
  refine z_go2 M.1 112 [(.iload_n 3, 1), (.aload_n 0, 1)] (114, [(0, z_r fa), (1, .inl p1), (2, .inl p2), (3, .inl (S fa 1))], [z_r fa, .inl (S fa 1)], zW T' G' (z_uS (z_uS S13 fa 0 ((S13 fa 0) - ((1 : Int32) <<< (p1 &&& 31)))) (fa + 7) (p1).toNatClampNeg p2) n, 0, 0) (by decide +kernel) rfl ⟨trivial, trivial, trivial⟩ ?_
  refine z_getI M.1 (idx := 35) (ci := 12) (j := 1) (a := fa) (x := ((z_uS (z_uS S13 fa 0 ((S13 fa 0) - ((1 : Int32) <<< (p1 &&& 31)))) (fa + 7) (p1).toNatClampNeg p2) fa 1)) (by decide +kernel) (by decide) hfa.t rfl ?_
  refine z_go2 M.1 117 [(.isub, 1)] (118, [(0, z_r fa), (1, .inl p1), (2, .inl p2), (3, .inl (S fa 1))], [.inl ((S fa 1) - ((z_uS (z_uS S13 fa 0 ((S13 fa 0) - ((1 : Int32) <<< (p1 &&& 31)))) (fa + 7) (p1).toNatClampNeg p2) fa 1))], zW T' G' (z_uS (z_uS S13 fa 0 ((S13 fa 0) - ((1 : Int32) <<< (p1 &&& 31)))) (fa + 7) (p1).toNatClampNeg p2) n, 0, 0) (by decide +kernel) rfl ⟨trivial, trivial⟩ ?_
  exact z_iret M (by decide +kernel) .int rfl rfl (by decide) (by decide) (hQ _ _ K)

-- TrackHouseModel$Flow.mapped
abbrev rm_MF_mapped : Room := zr 1
def F_MF_mapped_L2 (fa : Nat) (S : (Nat → Nat → Int32)) : Nat → Int32 → (Int32)
  | 0, x2 => x2
  | f + 1, x2 => (if (F_MF_has fa S x2) = 0 then ((F_MF_mapped_L2 fa S f) (S (fa + 7) (x2).toNatClampNeg)) else x2)
def Sf_MF_mapped_L2 (fa : Nat) (S : (Nat → Nat → Int32)) : Nat → Int32 → Prop
  | 0, _ => False
  | f + 1, x2 => (if (F_MF_has fa S x2) = 0 then ((vp_in x2 6) ∧ ((Sf_MF_mapped_L2 fa S f) (S (fa + 7) (x2).toNatClampNeg))) else True)
theorem t_MF_mapped_L2 {X : z_X} {Post : Option z_V → z_W → Prop} (M : z_M X zm_MF_mapped rm_MF_mapped Post) {T' : Nat → Nat × Nat} {G' : Nat → Nat → Option Nat} {n : Nat} (fa : Nat) (hfa : zFo T' G' fa) {Q : (Int32) → Prop} (S : (Nat → Nat → Int32))  (hE : ∀ (y2 : Int32), Q y2 → z_G X zm_MF_mapped (20, [(2, .inl y2)], [], zW T' G' S n, 0, 0)) (f : Nat) : ∀ (x2 : Int32), Q (F_MF_mapped_L2 fa S f x2) → Sf_MF_mapped_L2 fa S f x2 → z_G X zm_MF_mapped (2, [(0, z_r fa), (2, .inl x2)], [], zW T' G' S n, 0, 0) := by
  induction f with
  | zero => intro x2 K hs; exact False.elim hs
  | succ f hC =>
    intro x2 K hs
    rw [F_MF_mapped_L2] at K
    rw [Sf_MF_mapped_L2] at hs
    refine z_go2 M.1 2 [(.aload_n 0, 1), (.iload_n 2, 1)] (4, [(0, z_r fa), (2, .inl x2)], [.inl x2, z_r fa], zW T' G' S n, 0, 0) (by decide +kernel) rfl ⟨trivial, trivial, trivial⟩ ?_
    refine z_callV M.1 (av := [.inl x2]) (st := []) (a := fa) (ci := 12) (by decide +kernel) (c_MF_has T' G' n fa hfa S x2) M.2.1 zl_MF_42 zv_MF_has hfa.t rfl rfl ⟨by decide, by decide, by decide, by decide⟩ rfl (Nat.le_of_ble_eq_true rfl) (fun v w' hv => ?_)
    obtain ⟨rfl, rfl⟩ := hv
    show z_G X zm_MF_mapped (7, [(0, z_r fa), (2, .inl x2)], [.inl (F_MF_has fa S x2)], zW T' G' S n, 0, 0)
    refine z_if_ne 20 M.1 (off := 13) (by decide +kernel) (by decide) (fun c7 => ?_) (fun c7 => ?_)
    · rw [if_neg c7] at K hs
      exact z_lvs (lv' := [(2, .inl x2)]) [1] rfl (hE x2 K)
    · rw [if_pos c7] at K hs
      refine z_go2 M.1 10 [(.aload_n 0, 1)] (11, [(0, z_r fa), (2, .inl x2)], [z_r fa], zW T' G' S n, 0, 0) (by decide +kernel) rfl ⟨trivial, trivial⟩ ?_
      refine z_getR M.1 (idx := 32) (ci := 12) (j := 8) (a := fa) (r := (fa + 7)) (by decide +kernel) (by decide) hfa.t (hfa.g 8 (by decide) (by decide)) ?_
      refine z_go2 M.1 14 [(.iload_n 2, 1)] (15, [(0, z_r fa), (2, .inl x2)], [.inl x2, z_r (fa + 7)], zW T' G' S n, 0, 0) (by decide +kernel) rfl ⟨trivial, trivial⟩ ?_
      refine z_ialD M.1 (a := (fa + 7)) (len := 6) (x := (S (fa + 7) (x2).toNatClampNeg)) (by decide +kernel) hfa.m hs.1 rfl ?_
      replace hs := hs.2
      refine z_go2 M.1 16 [(.istore_n 2, 1), (.goto (-15), 3)] (2, [(2, .inl (S (fa + 7) (x2).toNatClampNeg)), (0, z_r fa)], [], zW T' G' S n, 0, 0) (by decide +kernel) rfl ⟨trivial, trivial, trivial⟩ ?_
      exact z_lvs (lv' := [(0, z_r fa), (2, .inl (S (fa + 7) (x2).toNatClampNeg))]) [1, 0] rfl (hC (S (fa + 7) (x2).toNatClampNeg) K hs)
def F_MF_mapped (fa : Nat) (S : (Nat → Nat → Int32)) (p1 : Int32) : Int32 := (match F_MF_mapped_L2 fa S 1300 p1 with | y2_2 => y2_2)
def Sf_MF_mapped (fa : Nat) (S : (Nat → Nat → Int32)) (p1 : Int32) : Prop := (Sf_MF_mapped_L2 fa S 1300 p1 ∧ True)
theorem c_MF_mapped (T' : Nat → Nat × Nat) (G' : Nat → Nat → Option Nat) (n : Nat) (fa : Nat) (hfa : zFo T' G' fa) (S : (Nat → Nat → Int32)) (p1 : Int32) (hs : Sf_MF_mapped fa S p1) : z_Run rm_MF_mapped zm_MF_mapped [z_r fa, .inl p1] (zW T' G' S n) (zq (some (.inl (F_MF_mapped fa S p1))) (zW T' G' S n)) := by
  refine z_body (by decide) zf_MF_ok (Nat.le_of_ble_eq_true rfl) (fun X M => ?_)
  obtain ⟨Q, hQ, K⟩ : ∃ Q : Int32 → Prop, (∀ v, Q v → zq (some (.inl (F_MF_mapped fa S p1))) (zW T' G' S n) (some (.inl v)) (zW T' G' S n)) ∧ Q (F_MF_mapped fa S p1) := ⟨fun o => F_MF_mapped fa S p1 = o, fun v h => ⟨by rw [h], rfl⟩, rfl⟩
  show z_G X zm_MF_mapped (0, [(0, z_r fa), (1, .inl p1)], [], zW T' G' S n, 0, 0)
  unfold F_MF_mapped at K
  unfold Sf_MF_mapped at hs
  refine z_go2 M.1 0 [(.iload_n 1, 1), (.istore_n 2, 1)] (2, [(2, .inl p1), (0, z_r fa), (1, .inl p1)], [], zW T' G' S n, 0, 0) (by decide +kernel) rfl ⟨trivial, trivial, trivial⟩ ?_
  refine z_lvs (lv' := [(0, z_r fa), (2, .inl p1)]) [1, 0] rfl ?_
  refine t_MF_mapped_L2 M fa hfa (Q := fun o => F_MF_mapped_L2 fa S 1300 p1 = o) S (fun y2_2 hL2 => ?_) 1300 p1 rfl hs.1
  replace hs := hs.2
  rw [hL2] at K
  try dsimp only at K
  refine z_go2 M.1 20 [(.iload_n 2, 1)] (21, [(2, .inl y2_2)], [.inl y2_2], zW T' G' S n, 0, 0) (by decide +kernel) rfl ⟨trivial, trivial⟩ ?_
  exact z_iret M (by decide +kernel) .int rfl rfl (by decide) (by decide) (hQ _ K)

-- TrackHouseModel.make
abbrev rm_M_make : Room := zr 2
def F_M_make (w : Nat) (S : (Nat → Nat → Int32)) (p2 : Int32) (p3 : Int32) (p4 : Int32) (p5 : Int32) (p6 : Int32) (p7 : Int32) : (Nat → Nat → Int32) := (z_let (F_MW_does w (z_uS (z_uS (z_uS (z_uS (z_uS (z_uS (z_uS (z_uS S 79 (S 78 2).toNatClampNeg p2) 80 (S 78 2).toNatClampNeg (S 78 1)) 81 (S 78 2).toNatClampNeg p3) 82 (S 78 2).toNatClampNeg p4) 83 (S 78 2).toNatClampNeg p5) 84 (S 78 2).toNatClampNeg p6) 85 (S 78 2).toNatClampNeg p7) 78 2 ((S 78 2) + 1)) p2 p4 p5 p6 p7) (fun S97 => S97))
def Sf_M_make (w : Nat) (S : (Nat → Nat → Int32)) (p2 : Int32) (p3 : Int32) (p4 : Int32) (p5 : Int32) (p6 : Int32) (p7 : Int32) : Prop := ((vp_in (S 78 2) 1200) ∧ ((vp_in (S 78 2) 1200) ∧ ((vp_in (S 78 2) 1200) ∧ ((vp_in (S 78 2) 1200) ∧ ((vp_in (S 78 2) 1200) ∧ ((vp_in (S 78 2) 1200) ∧ ((vp_in (S 78 2) 1200) ∧ (Sf_MW_does w (z_uS (z_uS (z_uS (z_uS (z_uS (z_uS (z_uS (z_uS S 79 (S 78 2).toNatClampNeg p2) 80 (S 78 2).toNatClampNeg (S 78 1)) 81 (S 78 2).toNatClampNeg p3) 82 (S 78 2).toNatClampNeg p4) 83 (S 78 2).toNatClampNeg p5) 84 (S 78 2).toNatClampNeg p6) 85 (S 78 2).toNatClampNeg p7) 78 2 ((S 78 2) + 1)) p2 p4 p5 p6 p7 ∧ True))))))))
theorem c_M_make_86 (T' : Nat → Nat × Nat) (G' : Nat → Nat → Option Nat) (S : (Nat → Nat → Int32)) (n : Nat) (p2 : Int32) (p3 : Int32) (p4 : Int32) (p5 : Int32) (p6 : Int32) (p7 : Int32) (hs : Sf_M_make 86 S p2 p3 p4 p5 p6 p7) : z_Run rm_M_make zm_M_make [z_r 78, z_r 86, .inl p2, .inl p3, .inl p4, .inl p5, .inl p6, .inl p7] (zW T' G' S n) (zq none (zW T' G' (F_M_make 86 S p2 p3 p4 p5 p6 p7) n)) := by
  refine z_body (by decide) zf_M_ok (Nat.le_of_ble_eq_true rfl) (fun X M => ?_)
  obtain ⟨Q, hQ, K⟩ : ∃ Q : (Nat → Nat → Int32) → Prop, (∀ S', Q S' → zq none (zW T' G' (F_M_make 86 S p2 p3 p4 p5 p6 p7) n) none (zW T' G' S' n)) ∧ Q (F_M_make 86 S p2 p3 p4 p5 p6 p7) := ⟨fun o => F_M_make 86 S p2 p3 p4 p5 p6 p7 = o, fun S' h => ⟨rfl, by rw [h]⟩, rfl⟩
  show z_G X zm_M_make (0, [(0, z_r 78), (1, z_r 86), (2, .inl p2), (3, .inl p3), (4, .inl p4), (5, .inl p5), (6, .inl p6), (7, .inl p7)], [], zW T' G' S n, 0, 0)
  unfold F_M_make at K
  unfold Sf_M_make at hs
  try simp only [Nat.reduceAdd] at K hs
  refine z_go2 M.1 0 [(.aload_n 0, 1), (.getfield 7, 3), (.aload_n 0, 1), (.getfield 182, 3), (.iload_n 2, 1), (.iastore, 1), (.aload_n 0, 1), (.getfield 13, 3), (.aload_n 0, 1), (.getfield 182, 3), (.aload_n 0, 1), (.getfield 185, 3), (.iastore, 1), (.aload_n 0, 1), (.getfield 16, 3), (.aload_n 0, 1), (.getfield 182, 3), (.iload_n 3, 1), (.iastore, 1), (.aload_n 0, 1), (.getfield 19, 3), (.aload_n 0, 1), (.getfield 182, 3), (.iload 4, 2), (.iastore, 1), (.aload_n 0, 1), (.getfield 22, 3), (.aload_n 0, 1), (.getfield 182, 3), (.iload 5, 2), (.iastore, 1), (.aload_n 0, 1), (.getfield 25, 3), (.aload_n 0, 1), (.getfield 182, 3), (.iload 6, 2), (.iastore, 1), (.aload_n 0, 1), (.getfield 28, 3), (.aload_n 0, 1), (.getfield 182, 3), (.iload 7, 2), (.iastore, 1), (.aload_n 0, 1), (.dup, 1), (.getfield 182, 3), (.iconst 1, 1), (.iadd, 1), (.putfield 182, 3), (.aload_n 1, 1), (.iload_n 2, 1), (.iload 4, 2), (.iload 5, 2), (.iload 6, 2), (.iload 7, 2)] (97, [(0, z_r 78), (1, z_r 86), (2, .inl p2), (3, .inl p3), (4, .inl p4), (5, .inl p5), (6, .inl p6), (7, .inl p7)], [.inl p7, .inl p6, .inl p5, .inl p4, .inl p2, z_r 86], zW T' G' (z_uS (z_uS (z_uS (z_uS (z_uS (z_uS (z_uS (z_uS S 79 (S 78 2).toNatClampNeg p2) 80 (S 78 2).toNatClampNeg (S 78 1)) 81 (S 78 2).toNatClampNeg p3) 82 (S 78 2).toNatClampNeg p4) 83 (S 78 2).toNatClampNeg p5) 84 (S 78 2).toNatClampNeg p6) 85 (S 78 2).toNatClampNeg p7) 78 2 ((S 78 2) + 1)) n, 0, 0) (by decide +kernel) rfl ⟨trivial, rfl, trivial, rfl, trivial, ⟨rfl, hs.1⟩, trivial, rfl, trivial, rfl, trivial, rfl, ⟨rfl, hs.2.1⟩, trivial, rfl, trivial, rfl, trivial, ⟨rfl, hs.2.2.1⟩, trivial, rfl, trivial, rfl, trivial, ⟨rfl, hs.2.2.2.1⟩, trivial, rfl, trivial, rfl, trivial, ⟨rfl, hs.2.2.2.2.1⟩, trivial, rfl, trivial, rfl, trivial, ⟨rfl, hs.2.2.2.2.2.1⟩, trivial, rfl, trivial, rfl, trivial, ⟨rfl, hs.2.2.2.2.2.2.1⟩, trivial, rfl, rfl, trivial, trivial, ⟨rfl, trivial⟩, trivial, trivial, trivial, trivial, trivial, trivial, trivial⟩ ?_
  replace hs := hs.2.2.2.2.2.2.2
  refine z_callV M.1 (av := [.inl p2, .inl p4, .inl p5, .inl p6, .inl p7]) (st := []) (a := 86) (ci := 13) (by decide +kernel) (c_MW_does_86 T' G' (z_uS (z_uS (z_uS (z_uS (z_uS (z_uS (z_uS (z_uS S 79 (S 78 2).toNatClampNeg p2) 80 (S 78 2).toNatClampNeg (S 78 1)) 81 (S 78 2).toNatClampNeg p3) 82 (S 78 2).toNatClampNeg p4) 83 (S 78 2).toNatClampNeg p5) 84 (S 78 2).toNatClampNeg p6) 85 (S 78 2).toNatClampNeg p7) 78 2 ((S 78 2) + 1)) n p2 p4 p5 p6 p7 hs.1) M.2.1 zl_M_188 zv_MW_does rfl rfl rfl ⟨by decide, by decide, by decide, by decide⟩ rfl (Nat.le_of_ble_eq_true rfl) (fun v w' hv => ?_)
  replace hs := hs.2
  obtain ⟨S97, hF97⟩ : ∃ y, F_MW_does 86 (z_uS (z_uS (z_uS (z_uS (z_uS (z_uS (z_uS (z_uS S 79 (S 78 2).toNatClampNeg p2) 80 (S 78 2).toNatClampNeg (S 78 1)) 81 (S 78 2).toNatClampNeg p3) 82 (S 78 2).toNatClampNeg p4) 83 (S 78 2).toNatClampNeg p5) 84 (S 78 2).toNatClampNeg p6) 85 (S 78 2).toNatClampNeg p7) 78 2 ((S 78 2) + 1)) p2 p4 p5 p6 p7 = y := ⟨_, rfl⟩
  rw [hF97] at K hv
  try dsimp only [z_let] at K
  obtain ⟨rfl, rfl⟩ := hv
  show z_G X zm_M_make (100, [(0, z_r 78), (1, z_r 86), (2, .inl p2), (3, .inl p3), (4, .inl p4), (5, .inl p5), (6, .inl p6), (7, .inl p7)], [], zW T' G' S97 n, 0, 0)
  exact z_vret M (by decide +kernel) rfl (by decide) (by decide) (hQ _ K)
theorem c_M_make_110 (T' : Nat → Nat × Nat) (G' : Nat → Nat → Option Nat) (S : (Nat → Nat → Int32)) (n : Nat) (p2 : Int32) (p3 : Int32) (p4 : Int32) (p5 : Int32) (p6 : Int32) (p7 : Int32) (hs : Sf_M_make 110 S p2 p3 p4 p5 p6 p7) : z_Run rm_M_make zm_M_make [z_r 78, z_r 110, .inl p2, .inl p3, .inl p4, .inl p5, .inl p6, .inl p7] (zW T' G' S n) (zq none (zW T' G' (F_M_make 110 S p2 p3 p4 p5 p6 p7) n)) := by
  refine z_body (by decide) zf_M_ok (Nat.le_of_ble_eq_true rfl) (fun X M => ?_)
  obtain ⟨Q, hQ, K⟩ : ∃ Q : (Nat → Nat → Int32) → Prop, (∀ S', Q S' → zq none (zW T' G' (F_M_make 110 S p2 p3 p4 p5 p6 p7) n) none (zW T' G' S' n)) ∧ Q (F_M_make 110 S p2 p3 p4 p5 p6 p7) := ⟨fun o => F_M_make 110 S p2 p3 p4 p5 p6 p7 = o, fun S' h => ⟨rfl, by rw [h]⟩, rfl⟩
  show z_G X zm_M_make (0, [(0, z_r 78), (1, z_r 110), (2, .inl p2), (3, .inl p3), (4, .inl p4), (5, .inl p5), (6, .inl p6), (7, .inl p7)], [], zW T' G' S n, 0, 0)
  unfold F_M_make at K
  unfold Sf_M_make at hs
  try simp only [Nat.reduceAdd] at K hs
  refine z_go2 M.1 0 [(.aload_n 0, 1), (.getfield 7, 3), (.aload_n 0, 1), (.getfield 182, 3), (.iload_n 2, 1), (.iastore, 1), (.aload_n 0, 1), (.getfield 13, 3), (.aload_n 0, 1), (.getfield 182, 3), (.aload_n 0, 1), (.getfield 185, 3), (.iastore, 1), (.aload_n 0, 1), (.getfield 16, 3), (.aload_n 0, 1), (.getfield 182, 3), (.iload_n 3, 1), (.iastore, 1), (.aload_n 0, 1), (.getfield 19, 3), (.aload_n 0, 1), (.getfield 182, 3), (.iload 4, 2), (.iastore, 1), (.aload_n 0, 1), (.getfield 22, 3), (.aload_n 0, 1), (.getfield 182, 3), (.iload 5, 2), (.iastore, 1), (.aload_n 0, 1), (.getfield 25, 3), (.aload_n 0, 1), (.getfield 182, 3), (.iload 6, 2), (.iastore, 1), (.aload_n 0, 1), (.getfield 28, 3), (.aload_n 0, 1), (.getfield 182, 3), (.iload 7, 2), (.iastore, 1), (.aload_n 0, 1), (.dup, 1), (.getfield 182, 3), (.iconst 1, 1), (.iadd, 1), (.putfield 182, 3), (.aload_n 1, 1), (.iload_n 2, 1), (.iload 4, 2), (.iload 5, 2), (.iload 6, 2), (.iload 7, 2)] (97, [(0, z_r 78), (1, z_r 110), (2, .inl p2), (3, .inl p3), (4, .inl p4), (5, .inl p5), (6, .inl p6), (7, .inl p7)], [.inl p7, .inl p6, .inl p5, .inl p4, .inl p2, z_r 110], zW T' G' (z_uS (z_uS (z_uS (z_uS (z_uS (z_uS (z_uS (z_uS S 79 (S 78 2).toNatClampNeg p2) 80 (S 78 2).toNatClampNeg (S 78 1)) 81 (S 78 2).toNatClampNeg p3) 82 (S 78 2).toNatClampNeg p4) 83 (S 78 2).toNatClampNeg p5) 84 (S 78 2).toNatClampNeg p6) 85 (S 78 2).toNatClampNeg p7) 78 2 ((S 78 2) + 1)) n, 0, 0) (by decide +kernel) rfl ⟨trivial, rfl, trivial, rfl, trivial, ⟨rfl, hs.1⟩, trivial, rfl, trivial, rfl, trivial, rfl, ⟨rfl, hs.2.1⟩, trivial, rfl, trivial, rfl, trivial, ⟨rfl, hs.2.2.1⟩, trivial, rfl, trivial, rfl, trivial, ⟨rfl, hs.2.2.2.1⟩, trivial, rfl, trivial, rfl, trivial, ⟨rfl, hs.2.2.2.2.1⟩, trivial, rfl, trivial, rfl, trivial, ⟨rfl, hs.2.2.2.2.2.1⟩, trivial, rfl, trivial, rfl, trivial, ⟨rfl, hs.2.2.2.2.2.2.1⟩, trivial, rfl, rfl, trivial, trivial, ⟨rfl, trivial⟩, trivial, trivial, trivial, trivial, trivial, trivial, trivial⟩ ?_
  replace hs := hs.2.2.2.2.2.2.2
  refine z_callV M.1 (av := [.inl p2, .inl p4, .inl p5, .inl p6, .inl p7]) (st := []) (a := 110) (ci := 13) (by decide +kernel) (c_MW_does_110 T' G' (z_uS (z_uS (z_uS (z_uS (z_uS (z_uS (z_uS (z_uS S 79 (S 78 2).toNatClampNeg p2) 80 (S 78 2).toNatClampNeg (S 78 1)) 81 (S 78 2).toNatClampNeg p3) 82 (S 78 2).toNatClampNeg p4) 83 (S 78 2).toNatClampNeg p5) 84 (S 78 2).toNatClampNeg p6) 85 (S 78 2).toNatClampNeg p7) 78 2 ((S 78 2) + 1)) n p2 p4 p5 p6 p7 hs.1) M.2.1 zl_M_188 zv_MW_does rfl rfl rfl ⟨by decide, by decide, by decide, by decide⟩ rfl (Nat.le_of_ble_eq_true rfl) (fun v w' hv => ?_)
  replace hs := hs.2
  obtain ⟨S97, hF97⟩ : ∃ y, F_MW_does 110 (z_uS (z_uS (z_uS (z_uS (z_uS (z_uS (z_uS (z_uS S 79 (S 78 2).toNatClampNeg p2) 80 (S 78 2).toNatClampNeg (S 78 1)) 81 (S 78 2).toNatClampNeg p3) 82 (S 78 2).toNatClampNeg p4) 83 (S 78 2).toNatClampNeg p5) 84 (S 78 2).toNatClampNeg p6) 85 (S 78 2).toNatClampNeg p7) 78 2 ((S 78 2) + 1)) p2 p4 p5 p6 p7 = y := ⟨_, rfl⟩
  rw [hF97] at K hv
  try dsimp only [z_let] at K
  obtain ⟨rfl, rfl⟩ := hv
  show z_G X zm_M_make (100, [(0, z_r 78), (1, z_r 110), (2, .inl p2), (3, .inl p3), (4, .inl p4), (5, .inl p5), (6, .inl p6), (7, .inl p7)], [], zW T' G' S97 n, 0, 0)
  exact z_vret M (by decide +kernel) rfl (by decide) (by decide) (hQ _ K)

-- TrackHouseModel.does
abbrev rm_M_does : Room := zr 2
def F_M_does (w : Nat) (S : (Nat → Nat → Int32)) (p2 : Int32) : (Nat → Nat → Int32) := (z_let (F_MW_does w S (S 79 (p2).toNatClampNeg) (S 82 (p2).toNatClampNeg) (S 83 (p2).toNatClampNeg) (S 84 (p2).toNatClampNeg) (S 85 (p2).toNatClampNeg)) (fun S31 => S31))
def Sf_M_does (w : Nat) (S : (Nat → Nat → Int32)) (p2 : Int32) : Prop := ((vp_in p2 1200) ∧ ((vp_in p2 1200) ∧ ((vp_in p2 1200) ∧ ((vp_in p2 1200) ∧ ((vp_in p2 1200) ∧ (Sf_MW_does w S (S 79 (p2).toNatClampNeg) (S 82 (p2).toNatClampNeg) (S 83 (p2).toNatClampNeg) (S 84 (p2).toNatClampNeg) (S 85 (p2).toNatClampNeg) ∧ True))))))
theorem c_M_does_86 (T' : Nat → Nat × Nat) (G' : Nat → Nat → Option Nat) (S : (Nat → Nat → Int32)) (n : Nat) (p2 : Int32) (hs : Sf_M_does 86 S p2) : z_Run rm_M_does zm_M_does [z_r 78, z_r 86, .inl p2] (zW T' G' S n) (zq none (zW T' G' (F_M_does 86 S p2) n)) := by
  refine z_body (by decide) zf_M_ok (Nat.le_of_ble_eq_true rfl) (fun X M => ?_)
  obtain ⟨Q, hQ, K⟩ : ∃ Q : (Nat → Nat → Int32) → Prop, (∀ S', Q S' → zq none (zW T' G' (F_M_does 86 S p2) n) none (zW T' G' S' n)) ∧ Q (F_M_does 86 S p2) := ⟨fun o => F_M_does 86 S p2 = o, fun S' h => ⟨rfl, by rw [h]⟩, rfl⟩
  show z_G X zm_M_does (0, [(0, z_r 78), (1, z_r 86), (2, .inl p2)], [], zW T' G' S n, 0, 0)
  unfold F_M_does at K
  unfold Sf_M_does at hs
  try simp only [Nat.reduceAdd] at K hs
  refine z_go2 M.1 0 [(.aload_n 1, 1), (.aload_n 0, 1), (.getfield 7, 3), (.iload_n 2, 1), (.iaload, 1), (.aload_n 0, 1), (.getfield 19, 3), (.iload_n 2, 1), (.iaload, 1), (.aload_n 0, 1), (.getfield 22, 3), (.iload_n 2, 1), (.iaload, 1), (.aload_n 0, 1), (.getfield 25, 3), (.iload_n 2, 1), (.iaload, 1), (.aload_n 0, 1), (.getfield 28, 3), (.iload_n 2, 1), (.iaload, 1)] (31, [(0, z_r 78), (1, z_r 86), (2, .inl p2)], [.inl (S 85 (p2).toNatClampNeg), .inl (S 84 (p2).toNatClampNeg), .inl (S 83 (p2).toNatClampNeg), .inl (S 82 (p2).toNatClampNeg), .inl (S 79 (p2).toNatClampNeg), z_r 86], zW T' G' S n, 0, 0) (by decide +kernel) rfl ⟨trivial, trivial, rfl, trivial, ⟨rfl, hs.1⟩, trivial, rfl, trivial, ⟨rfl, hs.2.1⟩, trivial, rfl, trivial, ⟨rfl, hs.2.2.1⟩, trivial, rfl, trivial, ⟨rfl, hs.2.2.2.1⟩, trivial, rfl, trivial, ⟨rfl, hs.2.2.2.2.1⟩, trivial⟩ ?_
  replace hs := hs.2.2.2.2.2
  refine z_callV M.1 (av := [.inl (S 79 (p2).toNatClampNeg), .inl (S 82 (p2).toNatClampNeg), .inl (S 83 (p2).toNatClampNeg), .inl (S 84 (p2).toNatClampNeg), .inl (S 85 (p2).toNatClampNeg)]) (st := []) (a := 86) (ci := 13) (by decide +kernel) (c_MW_does_86 T' G' S n (S 79 (p2).toNatClampNeg) (S 82 (p2).toNatClampNeg) (S 83 (p2).toNatClampNeg) (S 84 (p2).toNatClampNeg) (S 85 (p2).toNatClampNeg) hs.1) M.2.1 zl_M_188 zv_MW_does rfl rfl rfl ⟨by decide, by decide, by decide, by decide⟩ rfl (Nat.le_of_ble_eq_true rfl) (fun v w' hv => ?_)
  replace hs := hs.2
  obtain ⟨S31, hF31⟩ : ∃ y, F_MW_does 86 S (S 79 (p2).toNatClampNeg) (S 82 (p2).toNatClampNeg) (S 83 (p2).toNatClampNeg) (S 84 (p2).toNatClampNeg) (S 85 (p2).toNatClampNeg) = y := ⟨_, rfl⟩
  rw [hF31] at K hv
  try dsimp only [z_let] at K
  obtain ⟨rfl, rfl⟩ := hv
  show z_G X zm_M_does (34, [(0, z_r 78), (1, z_r 86), (2, .inl p2)], [], zW T' G' S31 n, 0, 0)
  exact z_vret M (by decide +kernel) rfl (by decide) (by decide) (hQ _ K)
theorem c_M_does_98 (T' : Nat → Nat × Nat) (G' : Nat → Nat → Option Nat) (S : (Nat → Nat → Int32)) (n : Nat) (p2 : Int32) (hs : Sf_M_does 98 S p2) : z_Run rm_M_does zm_M_does [z_r 78, z_r 98, .inl p2] (zW T' G' S n) (zq none (zW T' G' (F_M_does 98 S p2) n)) := by
  refine z_body (by decide) zf_M_ok (Nat.le_of_ble_eq_true rfl) (fun X M => ?_)
  obtain ⟨Q, hQ, K⟩ : ∃ Q : (Nat → Nat → Int32) → Prop, (∀ S', Q S' → zq none (zW T' G' (F_M_does 98 S p2) n) none (zW T' G' S' n)) ∧ Q (F_M_does 98 S p2) := ⟨fun o => F_M_does 98 S p2 = o, fun S' h => ⟨rfl, by rw [h]⟩, rfl⟩
  show z_G X zm_M_does (0, [(0, z_r 78), (1, z_r 98), (2, .inl p2)], [], zW T' G' S n, 0, 0)
  unfold F_M_does at K
  unfold Sf_M_does at hs
  try simp only [Nat.reduceAdd] at K hs
  refine z_go2 M.1 0 [(.aload_n 1, 1), (.aload_n 0, 1), (.getfield 7, 3), (.iload_n 2, 1), (.iaload, 1), (.aload_n 0, 1), (.getfield 19, 3), (.iload_n 2, 1), (.iaload, 1), (.aload_n 0, 1), (.getfield 22, 3), (.iload_n 2, 1), (.iaload, 1), (.aload_n 0, 1), (.getfield 25, 3), (.iload_n 2, 1), (.iaload, 1), (.aload_n 0, 1), (.getfield 28, 3), (.iload_n 2, 1), (.iaload, 1)] (31, [(0, z_r 78), (1, z_r 98), (2, .inl p2)], [.inl (S 85 (p2).toNatClampNeg), .inl (S 84 (p2).toNatClampNeg), .inl (S 83 (p2).toNatClampNeg), .inl (S 82 (p2).toNatClampNeg), .inl (S 79 (p2).toNatClampNeg), z_r 98], zW T' G' S n, 0, 0) (by decide +kernel) rfl ⟨trivial, trivial, rfl, trivial, ⟨rfl, hs.1⟩, trivial, rfl, trivial, ⟨rfl, hs.2.1⟩, trivial, rfl, trivial, ⟨rfl, hs.2.2.1⟩, trivial, rfl, trivial, ⟨rfl, hs.2.2.2.1⟩, trivial, rfl, trivial, ⟨rfl, hs.2.2.2.2.1⟩, trivial⟩ ?_
  replace hs := hs.2.2.2.2.2
  refine z_callV M.1 (av := [.inl (S 79 (p2).toNatClampNeg), .inl (S 82 (p2).toNatClampNeg), .inl (S 83 (p2).toNatClampNeg), .inl (S 84 (p2).toNatClampNeg), .inl (S 85 (p2).toNatClampNeg)]) (st := []) (a := 98) (ci := 13) (by decide +kernel) (c_MW_does_98 T' G' S n (S 79 (p2).toNatClampNeg) (S 82 (p2).toNatClampNeg) (S 83 (p2).toNatClampNeg) (S 84 (p2).toNatClampNeg) (S 85 (p2).toNatClampNeg) hs.1) M.2.1 zl_M_188 zv_MW_does rfl rfl rfl ⟨by decide, by decide, by decide, by decide⟩ rfl (Nat.le_of_ble_eq_true rfl) (fun v w' hv => ?_)
  replace hs := hs.2
  obtain ⟨S31, hF31⟩ : ∃ y, F_MW_does 98 S (S 79 (p2).toNatClampNeg) (S 82 (p2).toNatClampNeg) (S 83 (p2).toNatClampNeg) (S 84 (p2).toNatClampNeg) (S 85 (p2).toNatClampNeg) = y := ⟨_, rfl⟩
  rw [hF31] at K hv
  try dsimp only [z_let] at K
  obtain ⟨rfl, rfl⟩ := hv
  show z_G X zm_M_does (34, [(0, z_r 78), (1, z_r 98), (2, .inl p2)], [], zW T' G' S31 n, 0, 0)
  exact z_vret M (by decide +kernel) rfl (by decide) (by decide) (hQ _ K)
theorem c_M_does_110 (T' : Nat → Nat × Nat) (G' : Nat → Nat → Option Nat) (S : (Nat → Nat → Int32)) (n : Nat) (p2 : Int32) (hs : Sf_M_does 110 S p2) : z_Run rm_M_does zm_M_does [z_r 78, z_r 110, .inl p2] (zW T' G' S n) (zq none (zW T' G' (F_M_does 110 S p2) n)) := by
  refine z_body (by decide) zf_M_ok (Nat.le_of_ble_eq_true rfl) (fun X M => ?_)
  obtain ⟨Q, hQ, K⟩ : ∃ Q : (Nat → Nat → Int32) → Prop, (∀ S', Q S' → zq none (zW T' G' (F_M_does 110 S p2) n) none (zW T' G' S' n)) ∧ Q (F_M_does 110 S p2) := ⟨fun o => F_M_does 110 S p2 = o, fun S' h => ⟨rfl, by rw [h]⟩, rfl⟩
  show z_G X zm_M_does (0, [(0, z_r 78), (1, z_r 110), (2, .inl p2)], [], zW T' G' S n, 0, 0)
  unfold F_M_does at K
  unfold Sf_M_does at hs
  try simp only [Nat.reduceAdd] at K hs
  refine z_go2 M.1 0 [(.aload_n 1, 1), (.aload_n 0, 1), (.getfield 7, 3), (.iload_n 2, 1), (.iaload, 1), (.aload_n 0, 1), (.getfield 19, 3), (.iload_n 2, 1), (.iaload, 1), (.aload_n 0, 1), (.getfield 22, 3), (.iload_n 2, 1), (.iaload, 1), (.aload_n 0, 1), (.getfield 25, 3), (.iload_n 2, 1), (.iaload, 1), (.aload_n 0, 1), (.getfield 28, 3), (.iload_n 2, 1), (.iaload, 1)] (31, [(0, z_r 78), (1, z_r 110), (2, .inl p2)], [.inl (S 85 (p2).toNatClampNeg), .inl (S 84 (p2).toNatClampNeg), .inl (S 83 (p2).toNatClampNeg), .inl (S 82 (p2).toNatClampNeg), .inl (S 79 (p2).toNatClampNeg), z_r 110], zW T' G' S n, 0, 0) (by decide +kernel) rfl ⟨trivial, trivial, rfl, trivial, ⟨rfl, hs.1⟩, trivial, rfl, trivial, ⟨rfl, hs.2.1⟩, trivial, rfl, trivial, ⟨rfl, hs.2.2.1⟩, trivial, rfl, trivial, ⟨rfl, hs.2.2.2.1⟩, trivial, rfl, trivial, ⟨rfl, hs.2.2.2.2.1⟩, trivial⟩ ?_
  replace hs := hs.2.2.2.2.2
  refine z_callV M.1 (av := [.inl (S 79 (p2).toNatClampNeg), .inl (S 82 (p2).toNatClampNeg), .inl (S 83 (p2).toNatClampNeg), .inl (S 84 (p2).toNatClampNeg), .inl (S 85 (p2).toNatClampNeg)]) (st := []) (a := 110) (ci := 13) (by decide +kernel) (c_MW_does_110 T' G' S n (S 79 (p2).toNatClampNeg) (S 82 (p2).toNatClampNeg) (S 83 (p2).toNatClampNeg) (S 84 (p2).toNatClampNeg) (S 85 (p2).toNatClampNeg) hs.1) M.2.1 zl_M_188 zv_MW_does rfl rfl rfl ⟨by decide, by decide, by decide, by decide⟩ rfl (Nat.le_of_ble_eq_true rfl) (fun v w' hv => ?_)
  replace hs := hs.2
  obtain ⟨S31, hF31⟩ : ∃ y, F_MW_does 110 S (S 79 (p2).toNatClampNeg) (S 82 (p2).toNatClampNeg) (S 83 (p2).toNatClampNeg) (S 84 (p2).toNatClampNeg) (S 85 (p2).toNatClampNeg) = y := ⟨_, rfl⟩
  rw [hF31] at K hv
  try dsimp only [z_let] at K
  obtain ⟨rfl, rfl⟩ := hv
  show z_G X zm_M_does (34, [(0, z_r 78), (1, z_r 110), (2, .inl p2)], [], zW T' G' S31 n, 0, 0)
  exact z_vret M (by decide +kernel) rfl (by decide) (by decide) (hQ _ K)

-- TrackHouseModel.remake
abbrev rm_M_remake : Room := zr 3
def F_M_remake_L6 (w : Nat) (x2 : Int32) : Nat → (Nat → Nat → Int32) → Int32 → ((Nat → Nat → Int32))
  | 0, S, x3 => S
  | f + 1, S, x3 => (if x2 ≤ x3 then S else (z_let (F_M_does w S x3) (fun S14 => ((F_M_remake_L6 w x2 f) S14 (x3 + 1)))))
def Sf_M_remake_L6 (w : Nat) (x2 : Int32) : Nat → (Nat → Nat → Int32) → Int32 → Prop
  | 0, _, _ => False
  | f + 1, S, x3 => (if x2 ≤ x3 then True else (Sf_M_does w S x3 ∧ (z_let (F_M_does w S x3) (fun S14 => ((Sf_M_remake_L6 w x2 f) S14 (x3 + 1))))))
theorem t_M_remake_L6_86 {X : z_X} {Post : Option z_V → z_W → Prop} (M : z_M X zm_M_remake rm_M_remake Post) {T' : Nat → Nat × Nat} {G' : Nat → Nat → Option Nat} {n : Nat} {Q : ((Nat → Nat → Int32)) → Prop}  (x2 : Int32) (hE : ∀ (S' : (Nat → Nat → Int32)), Q S' → z_G X zm_M_remake (23, [], [], zW T' G' S' n, 0, 0)) (f : Nat) : ∀ (S : (Nat → Nat → Int32)) (x3 : Int32), Q (F_M_remake_L6 86 x2 f S x3) → Sf_M_remake_L6 86 x2 f S x3 → z_G X zm_M_remake (6, [(0, z_r 78), (1, z_r 86), (2, .inl x2), (3, .inl x3)], [], zW T' G' S n, 0, 0) := by
  induction f with
  | zero => intro S x3 K hs; exact False.elim hs
  | succ f hC =>
    intro S x3 K hs
    rw [F_M_remake_L6] at K
    rw [Sf_M_remake_L6] at hs
    try simp only [Nat.reduceAdd] at K hs
    refine z_go2 M.1 6 [(.iload_n 3, 1), (.iload_n 2, 1)] (8, [(0, z_r 78), (1, z_r 86), (2, .inl x2), (3, .inl x3)], [.inl x2, .inl x3], zW T' G' S n, 0, 0) (by decide +kernel) rfl ⟨trivial, trivial, trivial⟩ ?_
    refine z_icmp_ge 23 M.1 (off := 15) (by decide +kernel) (by decide) (fun c8 => ?_) (fun c8 => ?_)
    · rw [if_pos c8] at K hs
      exact z_lvs (lv' := []) [] rfl (hE S K)
    · rw [if_neg c8] at K hs
      refine z_go2 M.1 11 [(.aload_n 0, 1), (.aload_n 1, 1), (.iload_n 3, 1)] (14, [(0, z_r 78), (1, z_r 86), (2, .inl x2), (3, .inl x3)], [.inl x3, z_r 86, z_r 78], zW T' G' S n, 0, 0) (by decide +kernel) rfl ⟨trivial, trivial, trivial, trivial⟩ ?_
      refine z_callV M.1 (av := [z_r 86, .inl x3]) (st := []) (a := 78) (ci := 14) (by decide +kernel) (c_M_does_86 T' G' S n x3 hs.1) M.2.1 zl_M_195 zv_M_does rfl rfl rfl ⟨by decide, by decide, by decide, by decide⟩ rfl (Nat.le_of_ble_eq_true rfl) (fun v w' hv => ?_)
      replace hs := hs.2
      obtain ⟨S14, hF14⟩ : ∃ y, F_M_does 86 S x3 = y := ⟨_, rfl⟩
      rw [hF14] at K hv
      try rw [hF14] at hs
      try dsimp only [z_let] at K hs
      obtain ⟨rfl, rfl⟩ := hv
      show z_G X zm_M_remake (17, [(0, z_r 78), (1, z_r 86), (2, .inl x2), (3, .inl x3)], [], zW T' G' S14 n, 0, 0)
      refine z_go2 M.1 17 [(.iinc 3 1, 3), (.goto (-14), 3)] (6, [(3, .inl (x3 + 1)), (0, z_r 78), (1, z_r 86), (2, .inl x2)], [], zW T' G' S14 n, 0, 0) (by decide +kernel) rfl ⟨trivial, trivial, trivial⟩ ?_
      exact z_lvs (lv' := [(0, z_r 78), (1, z_r 86), (2, .inl x2), (3, .inl (x3 + 1))]) [1, 2, 3, 0] rfl (hC S14 (x3 + 1) K hs)
theorem t_M_remake_L6_110 {X : z_X} {Post : Option z_V → z_W → Prop} (M : z_M X zm_M_remake rm_M_remake Post) {T' : Nat → Nat × Nat} {G' : Nat → Nat → Option Nat} {n : Nat} {Q : ((Nat → Nat → Int32)) → Prop}  (x2 : Int32) (hE : ∀ (S' : (Nat → Nat → Int32)), Q S' → z_G X zm_M_remake (23, [], [], zW T' G' S' n, 0, 0)) (f : Nat) : ∀ (S : (Nat → Nat → Int32)) (x3 : Int32), Q (F_M_remake_L6 110 x2 f S x3) → Sf_M_remake_L6 110 x2 f S x3 → z_G X zm_M_remake (6, [(0, z_r 78), (1, z_r 110), (2, .inl x2), (3, .inl x3)], [], zW T' G' S n, 0, 0) := by
  induction f with
  | zero => intro S x3 K hs; exact False.elim hs
  | succ f hC =>
    intro S x3 K hs
    rw [F_M_remake_L6] at K
    rw [Sf_M_remake_L6] at hs
    try simp only [Nat.reduceAdd] at K hs
    refine z_go2 M.1 6 [(.iload_n 3, 1), (.iload_n 2, 1)] (8, [(0, z_r 78), (1, z_r 110), (2, .inl x2), (3, .inl x3)], [.inl x2, .inl x3], zW T' G' S n, 0, 0) (by decide +kernel) rfl ⟨trivial, trivial, trivial⟩ ?_
    refine z_icmp_ge 23 M.1 (off := 15) (by decide +kernel) (by decide) (fun c8 => ?_) (fun c8 => ?_)
    · rw [if_pos c8] at K hs
      exact z_lvs (lv' := []) [] rfl (hE S K)
    · rw [if_neg c8] at K hs
      refine z_go2 M.1 11 [(.aload_n 0, 1), (.aload_n 1, 1), (.iload_n 3, 1)] (14, [(0, z_r 78), (1, z_r 110), (2, .inl x2), (3, .inl x3)], [.inl x3, z_r 110, z_r 78], zW T' G' S n, 0, 0) (by decide +kernel) rfl ⟨trivial, trivial, trivial, trivial⟩ ?_
      refine z_callV M.1 (av := [z_r 110, .inl x3]) (st := []) (a := 78) (ci := 14) (by decide +kernel) (c_M_does_110 T' G' S n x3 hs.1) M.2.1 zl_M_195 zv_M_does rfl rfl rfl ⟨by decide, by decide, by decide, by decide⟩ rfl (Nat.le_of_ble_eq_true rfl) (fun v w' hv => ?_)
      replace hs := hs.2
      obtain ⟨S14, hF14⟩ : ∃ y, F_M_does 110 S x3 = y := ⟨_, rfl⟩
      rw [hF14] at K hv
      try rw [hF14] at hs
      try dsimp only [z_let] at K hs
      obtain ⟨rfl, rfl⟩ := hv
      show z_G X zm_M_remake (17, [(0, z_r 78), (1, z_r 110), (2, .inl x2), (3, .inl x3)], [], zW T' G' S14 n, 0, 0)
      refine z_go2 M.1 17 [(.iinc 3 1, 3), (.goto (-14), 3)] (6, [(3, .inl (x3 + 1)), (0, z_r 78), (1, z_r 110), (2, .inl x2)], [], zW T' G' S14 n, 0, 0) (by decide +kernel) rfl ⟨trivial, trivial, trivial⟩ ?_
      exact z_lvs (lv' := [(0, z_r 78), (1, z_r 110), (2, .inl x2), (3, .inl (x3 + 1))]) [1, 2, 3, 0] rfl (hC S14 (x3 + 1) K hs)
def F_M_remake (w : Nat) (S : (Nat → Nat → Int32)) (p2 : Int32) : (Nat → Nat → Int32) := (z_let (F_MW_empty w S) (fun S1 => (match F_M_remake_L6 w p2 1300 S1 0 with | S6 => S6)))
def Sf_M_remake (w : Nat) (S : (Nat → Nat → Int32)) (p2 : Int32) : Prop := (Sf_MW_empty w S ∧ (z_let (F_MW_empty w S) (fun S1 => (Sf_M_remake_L6 w p2 1300 S1 0 ∧ True))))
theorem c_M_remake_86 (T' : Nat → Nat × Nat) (G' : Nat → Nat → Option Nat) (S : (Nat → Nat → Int32)) (n : Nat) (p2 : Int32) (hs : Sf_M_remake 86 S p2) : z_Run rm_M_remake zm_M_remake [z_r 78, z_r 86, .inl p2] (zW T' G' S n) (zq none (zW T' G' (F_M_remake 86 S p2) n)) := by
  refine z_body (by decide) zf_M_ok (Nat.le_of_ble_eq_true rfl) (fun X M => ?_)
  obtain ⟨Q, hQ, K⟩ : ∃ Q : (Nat → Nat → Int32) → Prop, (∀ S', Q S' → zq none (zW T' G' (F_M_remake 86 S p2) n) none (zW T' G' S' n)) ∧ Q (F_M_remake 86 S p2) := ⟨fun o => F_M_remake 86 S p2 = o, fun S' h => ⟨rfl, by rw [h]⟩, rfl⟩
  show z_G X zm_M_remake (0, [(0, z_r 78), (1, z_r 86), (2, .inl p2)], [], zW T' G' S n, 0, 0)
  unfold F_M_remake at K
  unfold Sf_M_remake at hs
  try simp only [Nat.reduceAdd] at K hs
  refine z_go2 M.1 0 [(.aload_n 1, 1)] (1, [(0, z_r 78), (1, z_r 86), (2, .inl p2)], [z_r 86], zW T' G' S n, 0, 0) (by decide +kernel) rfl ⟨trivial, trivial⟩ ?_
  refine z_callV M.1 (av := []) (st := []) (a := 86) (ci := 13) (by decide +kernel) (c_MW_empty_86 T' G' S n hs.1) M.2.1 zl_M_192 zv_MW_empty rfl rfl rfl ⟨by decide, by decide, by decide, by decide⟩ rfl (Nat.le_of_ble_eq_true rfl) (fun v w' hv => ?_)
  replace hs := hs.2
  obtain ⟨S1, hF1⟩ : ∃ y, F_MW_empty 86 S = y := ⟨_, rfl⟩
  rw [hF1] at K hv
  try rw [hF1] at hs
  try dsimp only [z_let] at K hs
  obtain ⟨rfl, rfl⟩ := hv
  show z_G X zm_M_remake (4, [(0, z_r 78), (1, z_r 86), (2, .inl p2)], [], zW T' G' S1 n, 0, 0)
  refine z_go2 M.1 4 [(.iconst 0, 1), (.istore_n 3, 1)] (6, [(3, .inl 0), (0, z_r 78), (1, z_r 86), (2, .inl p2)], [], zW T' G' S1 n, 0, 0) (by decide +kernel) rfl ⟨trivial, trivial, trivial⟩ ?_
  refine z_lvs (lv' := [(0, z_r 78), (1, z_r 86), (2, .inl p2), (3, .inl 0)]) [1, 2, 3, 0] rfl ?_
  refine t_M_remake_L6_86 M (Q := fun o => F_M_remake_L6 86 p2 1300 S1 0 = o) p2 (fun S6 hL6 => ?_) 1300 S1 0 rfl hs.1
  replace hs := hs.2
  rw [hL6] at K
  try dsimp only at K
  exact z_vret M (by decide +kernel) rfl (by decide) (by decide) (hQ _ K)
theorem c_M_remake_110 (T' : Nat → Nat × Nat) (G' : Nat → Nat → Option Nat) (S : (Nat → Nat → Int32)) (n : Nat) (p2 : Int32) (hs : Sf_M_remake 110 S p2) : z_Run rm_M_remake zm_M_remake [z_r 78, z_r 110, .inl p2] (zW T' G' S n) (zq none (zW T' G' (F_M_remake 110 S p2) n)) := by
  refine z_body (by decide) zf_M_ok (Nat.le_of_ble_eq_true rfl) (fun X M => ?_)
  obtain ⟨Q, hQ, K⟩ : ∃ Q : (Nat → Nat → Int32) → Prop, (∀ S', Q S' → zq none (zW T' G' (F_M_remake 110 S p2) n) none (zW T' G' S' n)) ∧ Q (F_M_remake 110 S p2) := ⟨fun o => F_M_remake 110 S p2 = o, fun S' h => ⟨rfl, by rw [h]⟩, rfl⟩
  show z_G X zm_M_remake (0, [(0, z_r 78), (1, z_r 110), (2, .inl p2)], [], zW T' G' S n, 0, 0)
  unfold F_M_remake at K
  unfold Sf_M_remake at hs
  try simp only [Nat.reduceAdd] at K hs
  refine z_go2 M.1 0 [(.aload_n 1, 1)] (1, [(0, z_r 78), (1, z_r 110), (2, .inl p2)], [z_r 110], zW T' G' S n, 0, 0) (by decide +kernel) rfl ⟨trivial, trivial⟩ ?_
  refine z_callV M.1 (av := []) (st := []) (a := 110) (ci := 13) (by decide +kernel) (c_MW_empty_110 T' G' S n hs.1) M.2.1 zl_M_192 zv_MW_empty rfl rfl rfl ⟨by decide, by decide, by decide, by decide⟩ rfl (Nat.le_of_ble_eq_true rfl) (fun v w' hv => ?_)
  replace hs := hs.2
  obtain ⟨S1, hF1⟩ : ∃ y, F_MW_empty 110 S = y := ⟨_, rfl⟩
  rw [hF1] at K hv
  try rw [hF1] at hs
  try dsimp only [z_let] at K hs
  obtain ⟨rfl, rfl⟩ := hv
  show z_G X zm_M_remake (4, [(0, z_r 78), (1, z_r 110), (2, .inl p2)], [], zW T' G' S1 n, 0, 0)
  refine z_go2 M.1 4 [(.iconst 0, 1), (.istore_n 3, 1)] (6, [(3, .inl 0), (0, z_r 78), (1, z_r 110), (2, .inl p2)], [], zW T' G' S1 n, 0, 0) (by decide +kernel) rfl ⟨trivial, trivial, trivial⟩ ?_
  refine z_lvs (lv' := [(0, z_r 78), (1, z_r 110), (2, .inl p2), (3, .inl 0)]) [1, 2, 3, 0] rfl ?_
  refine t_M_remake_L6_110 M (Q := fun o => F_M_remake_L6 110 p2 1300 S1 0 = o) p2 (fun S6 hL6 => ?_) 1300 S1 0 rfl hs.1
  replace hs := hs.2
  rw [hL6] at K
  try dsimp only at K
  exact z_vret M (by decide +kernel) rfl (by decide) (by decide) (hQ _ K)

-- TrackHouseModel.change
abbrev rm_M_change : Room := zr 3
def F_M_change_j104 (w : Nat) (S : (Nat → Nat → Int32)) (x2 : Int32) (x3 : Int32) (x4 : Int32) (x5 : Int32) (x6 : Int32) (s0 : Int32) : (Nat → Nat → Int32) := (if s0 = x6 then S else (z_let (F_M_make w S x2 x3 x4 x5 s0 x6) (fun S125 => S125)))
def Sf_M_change_j104 (w : Nat) (S : (Nat → Nat → Int32)) (x2 : Int32) (x3 : Int32) (x4 : Int32) (x5 : Int32) (x6 : Int32) (s0 : Int32) : Prop := (if s0 = x6 then True else (Sf_M_make w S x2 x3 x4 x5 s0 x6 ∧ True))
theorem t_M_change_j104_86 {X : z_X} {Post : Option z_V → z_W → Prop} (M : z_M X zm_M_change rm_M_change Post) {T' : Nat → Nat × Nat} {G' : Nat → Nat → Option Nat} {n : Nat} {Q : (Nat → Nat → Int32) → Prop} (S : (Nat → Nat → Int32)) (x2 : Int32) (x3 : Int32) (x4 : Int32) (x5 : Int32) (x6 : Int32) (s0 : Int32) (hQ : ∀ S', Q S' → Post none (zW T' G' S' n)) (K : Q (F_M_change_j104 86 S x2 x3 x4 x5 x6 s0)) (hs : Sf_M_change_j104 86 S x2 x3 x4 x5 x6 s0) : z_G X zm_M_change (104, [(0, z_r 78), (1, z_r 86), (2, .inl x2), (3, .inl x3), (4, .inl x4), (5, .inl x5), (6, .inl x6)], [.inl s0], zW T' G' S n, 0, 0) := by
  unfold F_M_change_j104 at K
  unfold Sf_M_change_j104 at hs
  try simp only [Nat.reduceAdd] at K hs
  refine z_go2 M.1 104 [(.istore 7, 2), (.iload 7, 2), (.iload 6, 2)] (110, [(7, .inl s0), (0, z_r 78), (1, z_r 86), (2, .inl x2), (3, .inl x3), (4, .inl x4), (5, .inl x5), (6, .inl x6)], [.inl x6, .inl s0], zW T' G' S n, 0, 0) (by decide +kernel) rfl ⟨trivial, trivial, trivial, trivial⟩ ?_
  refine z_icmp_eq 128 M.1 (off := 18) (by decide +kernel) (by decide) (fun c110 => ?_) (fun c110 => ?_)
  · rw [if_pos c110] at K hs
    exact z_vret M (by decide +kernel) rfl (by decide) (by decide) (hQ _ K)
  · rw [if_neg c110] at K hs
    refine z_go2 M.1 113 [(.aload_n 0, 1), (.aload_n 1, 1), (.iload_n 2, 1), (.iload_n 3, 1), (.iload 4, 2), (.iload 5, 2), (.iload 7, 2), (.iload 6, 2)] (125, [(7, .inl s0), (0, z_r 78), (1, z_r 86), (2, .inl x2), (3, .inl x3), (4, .inl x4), (5, .inl x5), (6, .inl x6)], [.inl x6, .inl s0, .inl x5, .inl x4, .inl x3, .inl x2, z_r 86, z_r 78], zW T' G' S n, 0, 0) (by decide +kernel) rfl ⟨trivial, trivial, trivial, trivial, trivial, trivial, trivial, trivial, trivial⟩ ?_
    refine z_callV M.1 (av := [z_r 86, .inl x2, .inl x3, .inl x4, .inl x5, .inl s0, .inl x6]) (st := []) (a := 78) (ci := 14) (by decide +kernel) (c_M_make_86 T' G' S n x2 x3 x4 x5 s0 x6 hs.1) M.2.1 zl_M_219 zv_M_make rfl rfl rfl ⟨by decide, by decide, by decide, by decide⟩ rfl (Nat.le_of_ble_eq_true rfl) (fun v w' hv => ?_)
    replace hs := hs.2
    obtain ⟨S125, hF125⟩ : ∃ y, F_M_make 86 S x2 x3 x4 x5 s0 x6 = y := ⟨_, rfl⟩
    rw [hF125] at K hv
    try dsimp only [z_let] at K
    obtain ⟨rfl, rfl⟩ := hv
    show z_G X zm_M_change (128, [(7, .inl s0), (0, z_r 78), (1, z_r 86), (2, .inl x2), (3, .inl x3), (4, .inl x4), (5, .inl x5), (6, .inl x6)], [], zW T' G' S125 n, 0, 0)
    exact z_vret M (by decide +kernel) rfl (by decide) (by decide) (hQ _ K)
theorem t_M_change_j104_110 {X : z_X} {Post : Option z_V → z_W → Prop} (M : z_M X zm_M_change rm_M_change Post) {T' : Nat → Nat × Nat} {G' : Nat → Nat → Option Nat} {n : Nat} {Q : (Nat → Nat → Int32) → Prop} (S : (Nat → Nat → Int32)) (x2 : Int32) (x3 : Int32) (x4 : Int32) (x5 : Int32) (x6 : Int32) (s0 : Int32) (hQ : ∀ S', Q S' → Post none (zW T' G' S' n)) (K : Q (F_M_change_j104 110 S x2 x3 x4 x5 x6 s0)) (hs : Sf_M_change_j104 110 S x2 x3 x4 x5 x6 s0) : z_G X zm_M_change (104, [(0, z_r 78), (1, z_r 110), (2, .inl x2), (3, .inl x3), (4, .inl x4), (5, .inl x5), (6, .inl x6)], [.inl s0], zW T' G' S n, 0, 0) := by
  unfold F_M_change_j104 at K
  unfold Sf_M_change_j104 at hs
  try simp only [Nat.reduceAdd] at K hs
  refine z_go2 M.1 104 [(.istore 7, 2), (.iload 7, 2), (.iload 6, 2)] (110, [(7, .inl s0), (0, z_r 78), (1, z_r 110), (2, .inl x2), (3, .inl x3), (4, .inl x4), (5, .inl x5), (6, .inl x6)], [.inl x6, .inl s0], zW T' G' S n, 0, 0) (by decide +kernel) rfl ⟨trivial, trivial, trivial, trivial⟩ ?_
  refine z_icmp_eq 128 M.1 (off := 18) (by decide +kernel) (by decide) (fun c110 => ?_) (fun c110 => ?_)
  · rw [if_pos c110] at K hs
    exact z_vret M (by decide +kernel) rfl (by decide) (by decide) (hQ _ K)
  · rw [if_neg c110] at K hs
    refine z_go2 M.1 113 [(.aload_n 0, 1), (.aload_n 1, 1), (.iload_n 2, 1), (.iload_n 3, 1), (.iload 4, 2), (.iload 5, 2), (.iload 7, 2), (.iload 6, 2)] (125, [(7, .inl s0), (0, z_r 78), (1, z_r 110), (2, .inl x2), (3, .inl x3), (4, .inl x4), (5, .inl x5), (6, .inl x6)], [.inl x6, .inl s0, .inl x5, .inl x4, .inl x3, .inl x2, z_r 110, z_r 78], zW T' G' S n, 0, 0) (by decide +kernel) rfl ⟨trivial, trivial, trivial, trivial, trivial, trivial, trivial, trivial, trivial⟩ ?_
    refine z_callV M.1 (av := [z_r 110, .inl x2, .inl x3, .inl x4, .inl x5, .inl s0, .inl x6]) (st := []) (a := 78) (ci := 14) (by decide +kernel) (c_M_make_110 T' G' S n x2 x3 x4 x5 s0 x6 hs.1) M.2.1 zl_M_219 zv_M_make rfl rfl rfl ⟨by decide, by decide, by decide, by decide⟩ rfl (Nat.le_of_ble_eq_true rfl) (fun v w' hv => ?_)
    replace hs := hs.2
    obtain ⟨S125, hF125⟩ : ∃ y, F_M_make 110 S x2 x3 x4 x5 s0 x6 = y := ⟨_, rfl⟩
    rw [hF125] at K hv
    try dsimp only [z_let] at K
    obtain ⟨rfl, rfl⟩ := hv
    show z_G X zm_M_change (128, [(7, .inl s0), (0, z_r 78), (1, z_r 110), (2, .inl x2), (3, .inl x3), (4, .inl x4), (5, .inl x5), (6, .inl x6)], [], zW T' G' S125 n, 0, 0)
    exact z_vret M (by decide +kernel) rfl (by decide) (by decide) (hQ _ K)
def F_M_change (w : Nat) (S : (Nat → Nat → Int32)) (p2 : Int32) (p3 : Int32) (p4 : Int32) (p5 : Int32) (p6 : Int32) : (Nat → Nat → Int32) := (if p2 = 2 then (F_M_change_j104 w S p2 p3 p4 p5 p6 (S (w + 3) (p4).toNatClampNeg)) else (if p2 = 3 then (F_M_change_j104 w S p2 p3 p4 p5 p6 (S (w + 4) (((3 : Int32) * p4) + p5).toNatClampNeg)) else (if p2 = 4 then (F_M_change_j104 w S p2 p3 p4 p5 p6 (S (w + 5) (p4).toNatClampNeg)) else (if p2 = 5 then (F_M_change_j104 w S p2 p3 p4 p5 p6 (S (w + 6) (p4).toNatClampNeg)) else (if p2 = 6 then (F_M_change_j104 w S p2 p3 p4 p5 p6 (S (w + 7) (p4).toNatClampNeg)) else (if p2 = 7 then (F_M_change_j104 w S p2 p3 p4 p5 p6 (S (w + 8) (p4).toNatClampNeg)) else (F_M_change_j104 w S p2 p3 p4 p5 p6 (S (w + 1) (p4).toNatClampNeg))))))))
def Sf_M_change (w : Nat) (S : (Nat → Nat → Int32)) (p2 : Int32) (p3 : Int32) (p4 : Int32) (p5 : Int32) (p6 : Int32) : Prop := (if p2 = 2 then ((vp_in p4 30) ∧ (Sf_M_change_j104 w S p2 p3 p4 p5 p6 (S (w + 3) (p4).toNatClampNeg))) else (if p2 = 3 then ((vp_in (((3 : Int32) * p4) + p5) 90) ∧ (Sf_M_change_j104 w S p2 p3 p4 p5 p6 (S (w + 4) (((3 : Int32) * p4) + p5).toNatClampNeg))) else (if p2 = 4 then ((vp_in p4 30) ∧ (Sf_M_change_j104 w S p2 p3 p4 p5 p6 (S (w + 5) (p4).toNatClampNeg))) else (if p2 = 5 then ((vp_in p4 30) ∧ (Sf_M_change_j104 w S p2 p3 p4 p5 p6 (S (w + 6) (p4).toNatClampNeg))) else (if p2 = 6 then ((vp_in p4 30) ∧ (Sf_M_change_j104 w S p2 p3 p4 p5 p6 (S (w + 7) (p4).toNatClampNeg))) else (if p2 = 7 then ((vp_in p4 30) ∧ (Sf_M_change_j104 w S p2 p3 p4 p5 p6 (S (w + 8) (p4).toNatClampNeg))) else ((vp_in p4 30) ∧ (Sf_M_change_j104 w S p2 p3 p4 p5 p6 (S (w + 1) (p4).toNatClampNeg)))))))))
theorem c_M_change_86 (T' : Nat → Nat × Nat) (G' : Nat → Nat → Option Nat) (S : (Nat → Nat → Int32)) (n : Nat) (p2 : Int32) (p3 : Int32) (p4 : Int32) (p5 : Int32) (p6 : Int32) (hs : Sf_M_change 86 S p2 p3 p4 p5 p6) : z_Run rm_M_change zm_M_change [z_r 78, z_r 86, .inl p2, .inl p3, .inl p4, .inl p5, .inl p6] (zW T' G' S n) (zq none (zW T' G' (F_M_change 86 S p2 p3 p4 p5 p6) n)) := by
  refine z_body (by decide) zf_M_ok (Nat.le_of_ble_eq_true rfl) (fun X M => ?_)
  obtain ⟨Q, hQ, K⟩ : ∃ Q : (Nat → Nat → Int32) → Prop, (∀ S', Q S' → zq none (zW T' G' (F_M_change 86 S p2 p3 p4 p5 p6) n) none (zW T' G' S' n)) ∧ Q (F_M_change 86 S p2 p3 p4 p5 p6) := ⟨fun o => F_M_change 86 S p2 p3 p4 p5 p6 = o, fun S' h => ⟨rfl, by rw [h]⟩, rfl⟩
  show z_G X zm_M_change (0, [(0, z_r 78), (1, z_r 86), (2, .inl p2), (3, .inl p3), (4, .inl p4), (5, .inl p5), (6, .inl p6)], [], zW T' G' S n, 0, 0)
  unfold F_M_change at K
  unfold Sf_M_change at hs
  try simp only [Nat.reduceAdd] at K hs
  refine z_go2 M.1 0 [(.iload_n 2, 1), (.iconst 2, 1)] (2, [(0, z_r 78), (1, z_r 86), (2, .inl p2), (3, .inl p3), (4, .inl p4), (5, .inl p5), (6, .inl p6)], [.inl 2, .inl p2], zW T' G' S n, 0, 0) (by decide +kernel) rfl ⟨trivial, trivial, trivial⟩ ?_
  refine z_icmp_ne 15 M.1 (off := 13) (by decide +kernel) (by decide) (fun c2 => ?_) (fun c2 => ?_)
  · rw [if_neg c2] at K hs
    refine z_go2 M.1 15 [(.iload_n 2, 1), (.iconst 3, 1)] (17, [(0, z_r 78), (1, z_r 86), (2, .inl p2), (3, .inl p3), (4, .inl p4), (5, .inl p5), (6, .inl p6)], [.inl 3, .inl p2], zW T' G' S n, 0, 0) (by decide +kernel) rfl ⟨trivial, trivial, trivial⟩ ?_
    refine z_icmp_ne 35 M.1 (off := 18) (by decide +kernel) (by decide) (fun c17 => ?_) (fun c17 => ?_)
    · rw [if_neg c17] at K hs
      refine z_go2 M.1 35 [(.iload_n 2, 1), (.iconst 4, 1)] (37, [(0, z_r 78), (1, z_r 86), (2, .inl p2), (3, .inl p3), (4, .inl p4), (5, .inl p5), (6, .inl p6)], [.inl 4, .inl p2], zW T' G' S n, 0, 0) (by decide +kernel) rfl ⟨trivial, trivial, trivial⟩ ?_
      refine z_icmp_ne 50 M.1 (off := 13) (by decide +kernel) (by decide) (fun c37 => ?_) (fun c37 => ?_)
      · rw [if_neg c37] at K hs
        refine z_go2 M.1 50 [(.iload_n 2, 1), (.iconst 5, 1)] (52, [(0, z_r 78), (1, z_r 86), (2, .inl p2), (3, .inl p3), (4, .inl p4), (5, .inl p5), (6, .inl p6)], [.inl 5, .inl p2], zW T' G' S n, 0, 0) (by decide +kernel) rfl ⟨trivial, trivial, trivial⟩ ?_
        refine z_icmp_ne 65 M.1 (off := 13) (by decide +kernel) (by decide) (fun c52 => ?_) (fun c52 => ?_)
        · rw [if_neg c52] at K hs
          refine z_go2 M.1 65 [(.iload_n 2, 1), (.bipush 6, 2)] (68, [(0, z_r 78), (1, z_r 86), (2, .inl p2), (3, .inl p3), (4, .inl p4), (5, .inl p5), (6, .inl p6)], [.inl 6, .inl p2], zW T' G' S n, 0, 0) (by decide +kernel) rfl ⟨trivial, trivial, trivial⟩ ?_
          refine z_icmp_ne 81 M.1 (off := 13) (by decide +kernel) (by decide) (fun c68 => ?_) (fun c68 => ?_)
          · rw [if_neg c68] at K hs
            refine z_go2 M.1 81 [(.iload_n 2, 1), (.bipush 7, 2)] (84, [(0, z_r 78), (1, z_r 86), (2, .inl p2), (3, .inl p3), (4, .inl p4), (5, .inl p5), (6, .inl p6)], [.inl 7, .inl p2], zW T' G' S n, 0, 0) (by decide +kernel) rfl ⟨trivial, trivial, trivial⟩ ?_
            refine z_icmp_ne 97 M.1 (off := 13) (by decide +kernel) (by decide) (fun c84 => ?_) (fun c84 => ?_)
            · rw [if_neg c84] at K hs
              refine z_go2 M.1 97 [(.aload_n 1, 1), (.getfield 216, 3), (.iload 4, 2), (.iaload, 1)] (104, [(0, z_r 78), (1, z_r 86), (2, .inl p2), (3, .inl p3), (4, .inl p4), (5, .inl p5), (6, .inl p6)], [.inl (S 87 (p4).toNatClampNeg)], zW T' G' S n, 0, 0) (by decide +kernel) rfl ⟨trivial, rfl, trivial, ⟨rfl, hs.1⟩, trivial⟩ ?_
              replace hs := hs.2
              exact z_lvs (lv' := [(0, z_r 78), (1, z_r 86), (2, .inl p2), (3, .inl p3), (4, .inl p4), (5, .inl p5), (6, .inl p6)]) [0, 1, 2, 3, 4, 5, 6] rfl (t_M_change_j104_86 M S p2 p3 p4 p5 p6 (S 87 (p4).toNatClampNeg) hQ K hs)
            · rw [if_pos c84] at K hs
              refine z_go2 M.1 87 [(.aload_n 1, 1), (.getfield 213, 3), (.iload 4, 2), (.iaload, 1), (.goto 10, 3)] (104, [(0, z_r 78), (1, z_r 86), (2, .inl p2), (3, .inl p3), (4, .inl p4), (5, .inl p5), (6, .inl p6)], [.inl (S 94 (p4).toNatClampNeg)], zW T' G' S n, 0, 0) (by decide +kernel) rfl ⟨trivial, rfl, trivial, ⟨rfl, hs.1⟩, trivial, trivial⟩ ?_
              replace hs := hs.2
              exact z_lvs (lv' := [(0, z_r 78), (1, z_r 86), (2, .inl p2), (3, .inl p3), (4, .inl p4), (5, .inl p5), (6, .inl p6)]) [0, 1, 2, 3, 4, 5, 6] rfl (t_M_change_j104_86 M S p2 p3 p4 p5 p6 (S 94 (p4).toNatClampNeg) hQ K hs)
          · rw [if_pos c68] at K hs
            refine z_go2 M.1 71 [(.aload_n 1, 1), (.getfield 210, 3), (.iload 4, 2), (.iaload, 1), (.goto 26, 3)] (104, [(0, z_r 78), (1, z_r 86), (2, .inl p2), (3, .inl p3), (4, .inl p4), (5, .inl p5), (6, .inl p6)], [.inl (S 93 (p4).toNatClampNeg)], zW T' G' S n, 0, 0) (by decide +kernel) rfl ⟨trivial, rfl, trivial, ⟨rfl, hs.1⟩, trivial, trivial⟩ ?_
            replace hs := hs.2
            exact z_lvs (lv' := [(0, z_r 78), (1, z_r 86), (2, .inl p2), (3, .inl p3), (4, .inl p4), (5, .inl p5), (6, .inl p6)]) [0, 1, 2, 3, 4, 5, 6] rfl (t_M_change_j104_86 M S p2 p3 p4 p5 p6 (S 93 (p4).toNatClampNeg) hQ K hs)
        · rw [if_pos c52] at K hs
          refine z_go2 M.1 55 [(.aload_n 1, 1), (.getfield 207, 3), (.iload 4, 2), (.iaload, 1), (.goto 42, 3)] (104, [(0, z_r 78), (1, z_r 86), (2, .inl p2), (3, .inl p3), (4, .inl p4), (5, .inl p5), (6, .inl p6)], [.inl (S 92 (p4).toNatClampNeg)], zW T' G' S n, 0, 0) (by decide +kernel) rfl ⟨trivial, rfl, trivial, ⟨rfl, hs.1⟩, trivial, trivial⟩ ?_
          replace hs := hs.2
          exact z_lvs (lv' := [(0, z_r 78), (1, z_r 86), (2, .inl p2), (3, .inl p3), (4, .inl p4), (5, .inl p5), (6, .inl p6)]) [0, 1, 2, 3, 4, 5, 6] rfl (t_M_change_j104_86 M S p2 p3 p4 p5 p6 (S 92 (p4).toNatClampNeg) hQ K hs)
      · rw [if_pos c37] at K hs
        refine z_go2 M.1 40 [(.aload_n 1, 1), (.getfield 204, 3), (.iload 4, 2), (.iaload, 1), (.goto 57, 3)] (104, [(0, z_r 78), (1, z_r 86), (2, .inl p2), (3, .inl p3), (4, .inl p4), (5, .inl p5), (6, .inl p6)], [.inl (S 91 (p4).toNatClampNeg)], zW T' G' S n, 0, 0) (by decide +kernel) rfl ⟨trivial, rfl, trivial, ⟨rfl, hs.1⟩, trivial, trivial⟩ ?_
        replace hs := hs.2
        exact z_lvs (lv' := [(0, z_r 78), (1, z_r 86), (2, .inl p2), (3, .inl p3), (4, .inl p4), (5, .inl p5), (6, .inl p6)]) [0, 1, 2, 3, 4, 5, 6] rfl (t_M_change_j104_86 M S p2 p3 p4 p5 p6 (S 91 (p4).toNatClampNeg) hQ K hs)
    · rw [if_pos c17] at K hs
      refine z_go2 M.1 20 [(.aload_n 1, 1), (.getfield 201, 3), (.iconst 3, 1), (.iload 4, 2), (.imul, 1), (.iload 5, 2), (.iadd, 1), (.iaload, 1), (.goto 72, 3)] (104, [(0, z_r 78), (1, z_r 86), (2, .inl p2), (3, .inl p3), (4, .inl p4), (5, .inl p5), (6, .inl p6)], [.inl (S 90 (((3 : Int32) * p4) + p5).toNatClampNeg)], zW T' G' S n, 0, 0) (by decide +kernel) rfl ⟨trivial, rfl, trivial, trivial, trivial, trivial, trivial, ⟨rfl, hs.1⟩, trivial, trivial⟩ ?_
      replace hs := hs.2
      exact z_lvs (lv' := [(0, z_r 78), (1, z_r 86), (2, .inl p2), (3, .inl p3), (4, .inl p4), (5, .inl p5), (6, .inl p6)]) [0, 1, 2, 3, 4, 5, 6] rfl (t_M_change_j104_86 M S p2 p3 p4 p5 p6 (S 90 (((3 : Int32) * p4) + p5).toNatClampNeg) hQ K hs)
  · rw [if_pos c2] at K hs
    refine z_go2 M.1 5 [(.aload_n 1, 1), (.getfield 198, 3), (.iload 4, 2), (.iaload, 1), (.goto 92, 3)] (104, [(0, z_r 78), (1, z_r 86), (2, .inl p2), (3, .inl p3), (4, .inl p4), (5, .inl p5), (6, .inl p6)], [.inl (S 89 (p4).toNatClampNeg)], zW T' G' S n, 0, 0) (by decide +kernel) rfl ⟨trivial, rfl, trivial, ⟨rfl, hs.1⟩, trivial, trivial⟩ ?_
    replace hs := hs.2
    exact z_lvs (lv' := [(0, z_r 78), (1, z_r 86), (2, .inl p2), (3, .inl p3), (4, .inl p4), (5, .inl p5), (6, .inl p6)]) [0, 1, 2, 3, 4, 5, 6] rfl (t_M_change_j104_86 M S p2 p3 p4 p5 p6 (S 89 (p4).toNatClampNeg) hQ K hs)
theorem c_M_change_110 (T' : Nat → Nat × Nat) (G' : Nat → Nat → Option Nat) (S : (Nat → Nat → Int32)) (n : Nat) (p2 : Int32) (p3 : Int32) (p4 : Int32) (p5 : Int32) (p6 : Int32) (hs : Sf_M_change 110 S p2 p3 p4 p5 p6) : z_Run rm_M_change zm_M_change [z_r 78, z_r 110, .inl p2, .inl p3, .inl p4, .inl p5, .inl p6] (zW T' G' S n) (zq none (zW T' G' (F_M_change 110 S p2 p3 p4 p5 p6) n)) := by
  refine z_body (by decide) zf_M_ok (Nat.le_of_ble_eq_true rfl) (fun X M => ?_)
  obtain ⟨Q, hQ, K⟩ : ∃ Q : (Nat → Nat → Int32) → Prop, (∀ S', Q S' → zq none (zW T' G' (F_M_change 110 S p2 p3 p4 p5 p6) n) none (zW T' G' S' n)) ∧ Q (F_M_change 110 S p2 p3 p4 p5 p6) := ⟨fun o => F_M_change 110 S p2 p3 p4 p5 p6 = o, fun S' h => ⟨rfl, by rw [h]⟩, rfl⟩
  show z_G X zm_M_change (0, [(0, z_r 78), (1, z_r 110), (2, .inl p2), (3, .inl p3), (4, .inl p4), (5, .inl p5), (6, .inl p6)], [], zW T' G' S n, 0, 0)
  unfold F_M_change at K
  unfold Sf_M_change at hs
  try simp only [Nat.reduceAdd] at K hs
  refine z_go2 M.1 0 [(.iload_n 2, 1), (.iconst 2, 1)] (2, [(0, z_r 78), (1, z_r 110), (2, .inl p2), (3, .inl p3), (4, .inl p4), (5, .inl p5), (6, .inl p6)], [.inl 2, .inl p2], zW T' G' S n, 0, 0) (by decide +kernel) rfl ⟨trivial, trivial, trivial⟩ ?_
  refine z_icmp_ne 15 M.1 (off := 13) (by decide +kernel) (by decide) (fun c2 => ?_) (fun c2 => ?_)
  · rw [if_neg c2] at K hs
    refine z_go2 M.1 15 [(.iload_n 2, 1), (.iconst 3, 1)] (17, [(0, z_r 78), (1, z_r 110), (2, .inl p2), (3, .inl p3), (4, .inl p4), (5, .inl p5), (6, .inl p6)], [.inl 3, .inl p2], zW T' G' S n, 0, 0) (by decide +kernel) rfl ⟨trivial, trivial, trivial⟩ ?_
    refine z_icmp_ne 35 M.1 (off := 18) (by decide +kernel) (by decide) (fun c17 => ?_) (fun c17 => ?_)
    · rw [if_neg c17] at K hs
      refine z_go2 M.1 35 [(.iload_n 2, 1), (.iconst 4, 1)] (37, [(0, z_r 78), (1, z_r 110), (2, .inl p2), (3, .inl p3), (4, .inl p4), (5, .inl p5), (6, .inl p6)], [.inl 4, .inl p2], zW T' G' S n, 0, 0) (by decide +kernel) rfl ⟨trivial, trivial, trivial⟩ ?_
      refine z_icmp_ne 50 M.1 (off := 13) (by decide +kernel) (by decide) (fun c37 => ?_) (fun c37 => ?_)
      · rw [if_neg c37] at K hs
        refine z_go2 M.1 50 [(.iload_n 2, 1), (.iconst 5, 1)] (52, [(0, z_r 78), (1, z_r 110), (2, .inl p2), (3, .inl p3), (4, .inl p4), (5, .inl p5), (6, .inl p6)], [.inl 5, .inl p2], zW T' G' S n, 0, 0) (by decide +kernel) rfl ⟨trivial, trivial, trivial⟩ ?_
        refine z_icmp_ne 65 M.1 (off := 13) (by decide +kernel) (by decide) (fun c52 => ?_) (fun c52 => ?_)
        · rw [if_neg c52] at K hs
          refine z_go2 M.1 65 [(.iload_n 2, 1), (.bipush 6, 2)] (68, [(0, z_r 78), (1, z_r 110), (2, .inl p2), (3, .inl p3), (4, .inl p4), (5, .inl p5), (6, .inl p6)], [.inl 6, .inl p2], zW T' G' S n, 0, 0) (by decide +kernel) rfl ⟨trivial, trivial, trivial⟩ ?_
          refine z_icmp_ne 81 M.1 (off := 13) (by decide +kernel) (by decide) (fun c68 => ?_) (fun c68 => ?_)
          · rw [if_neg c68] at K hs
            refine z_go2 M.1 81 [(.iload_n 2, 1), (.bipush 7, 2)] (84, [(0, z_r 78), (1, z_r 110), (2, .inl p2), (3, .inl p3), (4, .inl p4), (5, .inl p5), (6, .inl p6)], [.inl 7, .inl p2], zW T' G' S n, 0, 0) (by decide +kernel) rfl ⟨trivial, trivial, trivial⟩ ?_
            refine z_icmp_ne 97 M.1 (off := 13) (by decide +kernel) (by decide) (fun c84 => ?_) (fun c84 => ?_)
            · rw [if_neg c84] at K hs
              refine z_go2 M.1 97 [(.aload_n 1, 1), (.getfield 216, 3), (.iload 4, 2), (.iaload, 1)] (104, [(0, z_r 78), (1, z_r 110), (2, .inl p2), (3, .inl p3), (4, .inl p4), (5, .inl p5), (6, .inl p6)], [.inl (S 111 (p4).toNatClampNeg)], zW T' G' S n, 0, 0) (by decide +kernel) rfl ⟨trivial, rfl, trivial, ⟨rfl, hs.1⟩, trivial⟩ ?_
              replace hs := hs.2
              exact z_lvs (lv' := [(0, z_r 78), (1, z_r 110), (2, .inl p2), (3, .inl p3), (4, .inl p4), (5, .inl p5), (6, .inl p6)]) [0, 1, 2, 3, 4, 5, 6] rfl (t_M_change_j104_110 M S p2 p3 p4 p5 p6 (S 111 (p4).toNatClampNeg) hQ K hs)
            · rw [if_pos c84] at K hs
              refine z_go2 M.1 87 [(.aload_n 1, 1), (.getfield 213, 3), (.iload 4, 2), (.iaload, 1), (.goto 10, 3)] (104, [(0, z_r 78), (1, z_r 110), (2, .inl p2), (3, .inl p3), (4, .inl p4), (5, .inl p5), (6, .inl p6)], [.inl (S 118 (p4).toNatClampNeg)], zW T' G' S n, 0, 0) (by decide +kernel) rfl ⟨trivial, rfl, trivial, ⟨rfl, hs.1⟩, trivial, trivial⟩ ?_
              replace hs := hs.2
              exact z_lvs (lv' := [(0, z_r 78), (1, z_r 110), (2, .inl p2), (3, .inl p3), (4, .inl p4), (5, .inl p5), (6, .inl p6)]) [0, 1, 2, 3, 4, 5, 6] rfl (t_M_change_j104_110 M S p2 p3 p4 p5 p6 (S 118 (p4).toNatClampNeg) hQ K hs)
          · rw [if_pos c68] at K hs
            refine z_go2 M.1 71 [(.aload_n 1, 1), (.getfield 210, 3), (.iload 4, 2), (.iaload, 1), (.goto 26, 3)] (104, [(0, z_r 78), (1, z_r 110), (2, .inl p2), (3, .inl p3), (4, .inl p4), (5, .inl p5), (6, .inl p6)], [.inl (S 117 (p4).toNatClampNeg)], zW T' G' S n, 0, 0) (by decide +kernel) rfl ⟨trivial, rfl, trivial, ⟨rfl, hs.1⟩, trivial, trivial⟩ ?_
            replace hs := hs.2
            exact z_lvs (lv' := [(0, z_r 78), (1, z_r 110), (2, .inl p2), (3, .inl p3), (4, .inl p4), (5, .inl p5), (6, .inl p6)]) [0, 1, 2, 3, 4, 5, 6] rfl (t_M_change_j104_110 M S p2 p3 p4 p5 p6 (S 117 (p4).toNatClampNeg) hQ K hs)
        · rw [if_pos c52] at K hs
          refine z_go2 M.1 55 [(.aload_n 1, 1), (.getfield 207, 3), (.iload 4, 2), (.iaload, 1), (.goto 42, 3)] (104, [(0, z_r 78), (1, z_r 110), (2, .inl p2), (3, .inl p3), (4, .inl p4), (5, .inl p5), (6, .inl p6)], [.inl (S 116 (p4).toNatClampNeg)], zW T' G' S n, 0, 0) (by decide +kernel) rfl ⟨trivial, rfl, trivial, ⟨rfl, hs.1⟩, trivial, trivial⟩ ?_
          replace hs := hs.2
          exact z_lvs (lv' := [(0, z_r 78), (1, z_r 110), (2, .inl p2), (3, .inl p3), (4, .inl p4), (5, .inl p5), (6, .inl p6)]) [0, 1, 2, 3, 4, 5, 6] rfl (t_M_change_j104_110 M S p2 p3 p4 p5 p6 (S 116 (p4).toNatClampNeg) hQ K hs)
      · rw [if_pos c37] at K hs
        refine z_go2 M.1 40 [(.aload_n 1, 1), (.getfield 204, 3), (.iload 4, 2), (.iaload, 1), (.goto 57, 3)] (104, [(0, z_r 78), (1, z_r 110), (2, .inl p2), (3, .inl p3), (4, .inl p4), (5, .inl p5), (6, .inl p6)], [.inl (S 115 (p4).toNatClampNeg)], zW T' G' S n, 0, 0) (by decide +kernel) rfl ⟨trivial, rfl, trivial, ⟨rfl, hs.1⟩, trivial, trivial⟩ ?_
        replace hs := hs.2
        exact z_lvs (lv' := [(0, z_r 78), (1, z_r 110), (2, .inl p2), (3, .inl p3), (4, .inl p4), (5, .inl p5), (6, .inl p6)]) [0, 1, 2, 3, 4, 5, 6] rfl (t_M_change_j104_110 M S p2 p3 p4 p5 p6 (S 115 (p4).toNatClampNeg) hQ K hs)
    · rw [if_pos c17] at K hs
      refine z_go2 M.1 20 [(.aload_n 1, 1), (.getfield 201, 3), (.iconst 3, 1), (.iload 4, 2), (.imul, 1), (.iload 5, 2), (.iadd, 1), (.iaload, 1), (.goto 72, 3)] (104, [(0, z_r 78), (1, z_r 110), (2, .inl p2), (3, .inl p3), (4, .inl p4), (5, .inl p5), (6, .inl p6)], [.inl (S 114 (((3 : Int32) * p4) + p5).toNatClampNeg)], zW T' G' S n, 0, 0) (by decide +kernel) rfl ⟨trivial, rfl, trivial, trivial, trivial, trivial, trivial, ⟨rfl, hs.1⟩, trivial, trivial⟩ ?_
      replace hs := hs.2
      exact z_lvs (lv' := [(0, z_r 78), (1, z_r 110), (2, .inl p2), (3, .inl p3), (4, .inl p4), (5, .inl p5), (6, .inl p6)]) [0, 1, 2, 3, 4, 5, 6] rfl (t_M_change_j104_110 M S p2 p3 p4 p5 p6 (S 114 (((3 : Int32) * p4) + p5).toNatClampNeg) hQ K hs)
  · rw [if_pos c2] at K hs
    refine z_go2 M.1 5 [(.aload_n 1, 1), (.getfield 198, 3), (.iload 4, 2), (.iaload, 1), (.goto 92, 3)] (104, [(0, z_r 78), (1, z_r 110), (2, .inl p2), (3, .inl p3), (4, .inl p4), (5, .inl p5), (6, .inl p6)], [.inl (S 113 (p4).toNatClampNeg)], zW T' G' S n, 0, 0) (by decide +kernel) rfl ⟨trivial, rfl, trivial, ⟨rfl, hs.1⟩, trivial, trivial⟩ ?_
    replace hs := hs.2
    exact z_lvs (lv' := [(0, z_r 78), (1, z_r 110), (2, .inl p2), (3, .inl p3), (4, .inl p4), (5, .inl p5), (6, .inl p6)]) [0, 1, 2, 3, 4, 5, 6] rfl (t_M_change_j104_110 M S p2 p3 p4 p5 p6 (S 113 (p4).toNatClampNeg) hQ K hs)

-- TrackHouseModel.roles
abbrev rm_M_roles : Room := zr 3
def F_M_roles (S : (Nat → Nat → Int32)) (p1 : Int32) (p2 : Int32) (p3 : Int32) (p4 : Int32) : (Nat → Nat → Int32) := (if (S 97 (((3 : Int32) * p2) + p3).toNatClampNeg) = p4 then S else (z_let (F_M_make 86 S 0 p1 p2 p3 (S 97 (((3 : Int32) * p2) + p3).toNatClampNeg) p4) (fun S42 => S42)))
def Sf_M_roles (S : (Nat → Nat → Int32)) (p1 : Int32) (p2 : Int32) (p3 : Int32) (p4 : Int32) : Prop := ((vp_in (((3 : Int32) * p2) + p3) 24) ∧ (if (S 97 (((3 : Int32) * p2) + p3).toNatClampNeg) = p4 then True else ((vp_in (((3 : Int32) * p2) + p3) 24) ∧ (Sf_M_make 86 S 0 p1 p2 p3 (S 97 (((3 : Int32) * p2) + p3).toNatClampNeg) p4 ∧ True))))
theorem c_M_roles (T' : Nat → Nat × Nat) (G' : Nat → Nat → Option Nat) (S : (Nat → Nat → Int32)) (n : Nat) (p1 : Int32) (p2 : Int32) (p3 : Int32) (p4 : Int32) (hs : Sf_M_roles S p1 p2 p3 p4) : z_Run rm_M_roles zm_M_roles [z_r 78, .inl p1, .inl p2, .inl p3, .inl p4] (zW T' G' S n) (zq none (zW T' G' (F_M_roles S p1 p2 p3 p4) n)) := by
  refine z_body (by decide) zf_M_ok (Nat.le_of_ble_eq_true rfl) (fun X M => ?_)
  obtain ⟨Q, hQ, K⟩ : ∃ Q : (Nat → Nat → Int32) → Prop, (∀ S', Q S' → zq none (zW T' G' (F_M_roles S p1 p2 p3 p4) n) none (zW T' G' S' n)) ∧ Q (F_M_roles S p1 p2 p3 p4) := ⟨fun o => F_M_roles S p1 p2 p3 p4 = o, fun S' h => ⟨rfl, by rw [h]⟩, rfl⟩
  show z_G X zm_M_roles (0, [(0, z_r 78), (1, .inl p1), (2, .inl p2), (3, .inl p3), (4, .inl p4)], [], zW T' G' S n, 0, 0)
  unfold F_M_roles at K
  unfold Sf_M_roles at hs
  refine z_go2 M.1 0 [(.aload_n 0, 1), (.getfield 34, 3), (.getfield 223, 3), (.iconst 3, 1), (.iload_n 2, 1), (.imul, 1), (.iload_n 3, 1), (.iadd, 1), (.iaload, 1), (.iload 4, 2)] (15, [(0, z_r 78), (1, .inl p1), (2, .inl p2), (3, .inl p3), (4, .inl p4)], [.inl p4, .inl (S 97 (((3 : Int32) * p2) + p3).toNatClampNeg)], zW T' G' S n, 0, 0) (by decide +kernel) rfl ⟨trivial, rfl, rfl, trivial, trivial, trivial, trivial, trivial, ⟨rfl, hs.1⟩, trivial, trivial⟩ ?_
  replace hs := hs.2
  refine z_icmp_eq 45 M.1 (off := 30) (by decide +kernel) (by decide) (fun c15 => ?_) (fun c15 => ?_)
  · rw [if_pos c15] at K hs
    exact z_vret M (by decide +kernel) rfl (by decide) (by decide) (hQ _ K)
  · rw [if_neg c15] at K hs
    refine z_go2 M.1 18 [(.aload_n 0, 1), (.aload_n 0, 1), (.getfield 34, 3), (.iconst 0, 1), (.iload_n 1, 1), (.iload_n 2, 1), (.iload_n 3, 1), (.aload_n 0, 1), (.getfield 34, 3), (.getfield 223, 3), (.iconst 3, 1), (.iload_n 2, 1), (.imul, 1), (.iload_n 3, 1), (.iadd, 1), (.iaload, 1), (.iload 4, 2)] (42, [(0, z_r 78), (1, .inl p1), (2, .inl p2), (3, .inl p3), (4, .inl p4)], [.inl p4, .inl (S 97 (((3 : Int32) * p2) + p3).toNatClampNeg), .inl p3, .inl p2, .inl p1, .inl 0, z_r 86, z_r 78], zW T' G' S n, 0, 0) (by decide +kernel) rfl ⟨trivial, trivial, rfl, trivial, trivial, trivial, trivial, trivial, rfl, rfl, trivial, trivial, trivial, trivial, trivial, ⟨rfl, hs.1⟩, trivial, trivial⟩ ?_
    replace hs := hs.2
    refine z_callV M.1 (av := [z_r 86, .inl 0, .inl p1, .inl p2, .inl p3, .inl (S 97 (((3 : Int32) * p2) + p3).toNatClampNeg), .inl p4]) (st := []) (a := 78) (ci := 14) (by decide +kernel) (c_M_make_86 T' G' S n 0 p1 p2 p3 (S 97 (((3 : Int32) * p2) + p3).toNatClampNeg) p4 hs.1) M.2.1 zl_M_219 zv_M_make rfl rfl rfl ⟨by decide, by decide, by decide, by decide⟩ rfl (Nat.le_of_ble_eq_true rfl) (fun v w' hv => ?_)
    replace hs := hs.2
    obtain ⟨S42, hF42⟩ : ∃ y, F_M_make 86 S 0 p1 p2 p3 (S 97 (((3 : Int32) * p2) + p3).toNatClampNeg) p4 = y := ⟨_, rfl⟩
    rw [hF42] at K hv
    try dsimp only [z_let] at K
    obtain ⟨rfl, rfl⟩ := hv
    show z_G X zm_M_roles (45, [(0, z_r 78), (1, .inl p1), (2, .inl p2), (3, .inl p3), (4, .inl p4)], [], zW T' G' S42 n, 0, 0)
    exact z_vret M (by decide +kernel) rfl (by decide) (by decide) (hQ _ K)

-- TrackHouseModel.rolesOf
abbrev rm_M_rolesOf : Room := zr 0
def F_M_rolesOf (w : Nat) (S : (Nat → Nat → Int32)) (p2 : Int32) (p3 : Int32) : Int32 := (S (w + 11) (((3 : Int32) * p2) + p3).toNatClampNeg)
def Sf_M_rolesOf (w : Nat) (S : (Nat → Nat → Int32)) (p2 : Int32) (p3 : Int32) : Prop := ((vp_in (((3 : Int32) * p2) + p3) 24) ∧ True)
theorem c_M_rolesOf_86 (T' : Nat → Nat × Nat) (G' : Nat → Nat → Option Nat) (S : (Nat → Nat → Int32)) (n : Nat) (p2 : Int32) (p3 : Int32) (hs : Sf_M_rolesOf 86 S p2 p3) : z_Run rm_M_rolesOf zm_M_rolesOf [z_r 78, z_r 86, .inl p2, .inl p3] (zW T' G' S n) (zq (some (.inl (F_M_rolesOf 86 S p2 p3))) (zW T' G' S n)) := by
  refine z_body (by decide) zf_M_ok (Nat.le_of_ble_eq_true rfl) (fun X M => ?_)
  obtain ⟨Q, hQ, K⟩ : ∃ Q : Int32 → Prop, (∀ v, Q v → zq (some (.inl (F_M_rolesOf 86 S p2 p3))) (zW T' G' S n) (some (.inl v)) (zW T' G' S n)) ∧ Q (F_M_rolesOf 86 S p2 p3) := ⟨fun o => F_M_rolesOf 86 S p2 p3 = o, fun v h => ⟨by rw [h], rfl⟩, rfl⟩
  show z_G X zm_M_rolesOf (0, [(0, z_r 78), (1, z_r 86), (2, .inl p2), (3, .inl p3)], [], zW T' G' S n, 0, 0)
  unfold F_M_rolesOf at K
  unfold Sf_M_rolesOf at hs
  try simp only [Nat.reduceAdd] at K hs
  refine z_go2 M.1 0 [(.aload_n 1, 1), (.getfield 223, 3), (.iconst 3, 1), (.iload_n 2, 1), (.imul, 1), (.iload_n 3, 1), (.iadd, 1), (.iaload, 1)] (10, [(0, z_r 78), (1, z_r 86), (2, .inl p2), (3, .inl p3)], [.inl (S 97 (((3 : Int32) * p2) + p3).toNatClampNeg)], zW T' G' S n, 0, 0) (by decide +kernel) rfl ⟨trivial, rfl, trivial, trivial, trivial, trivial, trivial, ⟨rfl, hs.1⟩, trivial⟩ ?_
  replace hs := hs.2
  exact z_iret M (by decide +kernel) .int rfl rfl (by decide) (by decide) (hQ _ K)
theorem c_M_rolesOf_98 (T' : Nat → Nat × Nat) (G' : Nat → Nat → Option Nat) (S : (Nat → Nat → Int32)) (n : Nat) (p2 : Int32) (p3 : Int32) (hs : Sf_M_rolesOf 98 S p2 p3) : z_Run rm_M_rolesOf zm_M_rolesOf [z_r 78, z_r 98, .inl p2, .inl p3] (zW T' G' S n) (zq (some (.inl (F_M_rolesOf 98 S p2 p3))) (zW T' G' S n)) := by
  refine z_body (by decide) zf_M_ok (Nat.le_of_ble_eq_true rfl) (fun X M => ?_)
  obtain ⟨Q, hQ, K⟩ : ∃ Q : Int32 → Prop, (∀ v, Q v → zq (some (.inl (F_M_rolesOf 98 S p2 p3))) (zW T' G' S n) (some (.inl v)) (zW T' G' S n)) ∧ Q (F_M_rolesOf 98 S p2 p3) := ⟨fun o => F_M_rolesOf 98 S p2 p3 = o, fun v h => ⟨by rw [h], rfl⟩, rfl⟩
  show z_G X zm_M_rolesOf (0, [(0, z_r 78), (1, z_r 98), (2, .inl p2), (3, .inl p3)], [], zW T' G' S n, 0, 0)
  unfold F_M_rolesOf at K
  unfold Sf_M_rolesOf at hs
  try simp only [Nat.reduceAdd] at K hs
  refine z_go2 M.1 0 [(.aload_n 1, 1), (.getfield 223, 3), (.iconst 3, 1), (.iload_n 2, 1), (.imul, 1), (.iload_n 3, 1), (.iadd, 1), (.iaload, 1)] (10, [(0, z_r 78), (1, z_r 98), (2, .inl p2), (3, .inl p3)], [.inl (S 109 (((3 : Int32) * p2) + p3).toNatClampNeg)], zW T' G' S n, 0, 0) (by decide +kernel) rfl ⟨trivial, rfl, trivial, trivial, trivial, trivial, trivial, ⟨rfl, hs.1⟩, trivial⟩ ?_
  replace hs := hs.2
  exact z_iret M (by decide +kernel) .int rfl rfl (by decide) (by decide) (hQ _ K)

-- TrackHouseModel.sees
abbrev rm_M_sees : Room := zr 1
def F_M_sees (w : Nat) (S : (Nat → Nat → Int32)) (p2 : Int32) (p3 : Int32) : Int32 := (if p3 = (-1) then 0 else (if (30 : Int32) ≤ p3 then 0 else (if p3 < 0 then 0 else (if (S (w + 9) (p3).toNatClampNeg) = 0 then 0 else (if ((F_M_rolesOf w S p2 (S (w + 1) (p3).toNatClampNeg)) &&& (S 124 (S (w + 1) (p3).toNatClampNeg).toNatClampNeg)) = 0 then 0 else (if (S (w + 7) (p3).toNatClampNeg) = 0 then 1 else (if ((F_M_rolesOf w S p2 (S (w + 1) (p3).toNatClampNeg)) &&& (S 126 (S (w + 7) (p3).toNatClampNeg).toNatClampNeg)) = 0 then 0 else 1)))))))
def Sf_M_sees (w : Nat) (S : (Nat → Nat → Int32)) (p2 : Int32) (p3 : Int32) : Prop := (if p3 = (-1) then True else (if (30 : Int32) ≤ p3 then True else (if p3 < 0 then True else ((vp_in p3 30) ∧ (if (S (w + 9) (p3).toNatClampNeg) = 0 then True else ((vp_in p3 30) ∧ (Sf_M_rolesOf w S p2 (S (w + 1) (p3).toNatClampNeg) ∧ ((vp_in p3 30) ∧ ((vp_in (S (w + 1) (p3).toNatClampNeg) 3) ∧ (if ((F_M_rolesOf w S p2 (S (w + 1) (p3).toNatClampNeg)) &&& (S 124 (S (w + 1) (p3).toNatClampNeg).toNatClampNeg)) = 0 then True else ((vp_in p3 30) ∧ (if (S (w + 7) (p3).toNatClampNeg) = 0 then True else ((vp_in p3 30) ∧ ((vp_in (S (w + 7) (p3).toNatClampNeg) 3) ∧ True))))))))))))))
theorem c_M_sees_86 (T' : Nat → Nat × Nat) (G' : Nat → Nat → Option Nat) (S : (Nat → Nat → Int32)) (n : Nat) (p2 : Int32) (p3 : Int32) (hs : Sf_M_sees 86 S p2 p3) : z_Run rm_M_sees zm_M_sees [z_r 78, z_r 86, .inl p2, .inl p3] (zW T' G' S n) (zq (some (.inl (F_M_sees 86 S p2 p3))) (zW T' G' S n)) := by
  refine z_body (by decide) zf_M_ok (Nat.le_of_ble_eq_true rfl) (fun X M => ?_)
  obtain ⟨Q, hQ, K⟩ : ∃ Q : Int32 → Prop, (∀ v, Q v → zq (some (.inl (F_M_sees 86 S p2 p3))) (zW T' G' S n) (some (.inl v)) (zW T' G' S n)) ∧ Q (F_M_sees 86 S p2 p3) := ⟨fun o => F_M_sees 86 S p2 p3 = o, fun v h => ⟨by rw [h], rfl⟩, rfl⟩
  show z_G X zm_M_sees (0, [(0, z_r 78), (1, z_r 86), (2, .inl p2), (3, .inl p3)], [], zW T' G' S n, 0, 0)
  unfold F_M_sees at K
  unfold Sf_M_sees at hs
  try simp only [Nat.reduceAdd] at K hs
  refine z_go2 M.1 0 [(.iload_n 3, 1), (.iconst (-1), 1)] (2, [(0, z_r 78), (1, z_r 86), (2, .inl p2), (3, .inl p3)], [.inl (-1), .inl p3], zW T' G' S n, 0, 0) (by decide +kernel) rfl ⟨trivial, trivial, trivial⟩ ?_
  refine z_icmp_eq 24 M.1 (off := 22) (by decide +kernel) (by decide) (fun c2 => ?_) (fun c2 => ?_)
  · rw [if_pos c2] at K hs
    refine z_go2 M.1 24 [(.iconst 0, 1)] (25, [(0, z_r 78), (1, z_r 86), (2, .inl p2), (3, .inl p3)], [.inl 0], zW T' G' S n, 0, 0) (by decide +kernel) rfl ⟨trivial, trivial⟩ ?_
    exact z_iret M (by decide +kernel) .boolean rfl rfl (by decide) (by decide) (hQ _ K)
  · rw [if_neg c2] at K hs
    refine z_go2 M.1 5 [(.iload_n 3, 1), (.bipush 30, 2)] (8, [(0, z_r 78), (1, z_r 86), (2, .inl p2), (3, .inl p3)], [.inl 30, .inl p3], zW T' G' S n, 0, 0) (by decide +kernel) rfl ⟨trivial, trivial, trivial⟩ ?_
    refine z_icmp_ge 24 M.1 (off := 16) (by decide +kernel) (by decide) (fun c8 => ?_) (fun c8 => ?_)
    · rw [if_pos c8] at K hs
      refine z_go2 M.1 24 [(.iconst 0, 1)] (25, [(0, z_r 78), (1, z_r 86), (2, .inl p2), (3, .inl p3)], [.inl 0], zW T' G' S n, 0, 0) (by decide +kernel) rfl ⟨trivial, trivial⟩ ?_
      exact z_iret M (by decide +kernel) .boolean rfl rfl (by decide) (by decide) (hQ _ K)
    · rw [if_neg c8] at K hs
      refine z_go2 M.1 11 [(.iload_n 3, 1)] (12, [(0, z_r 78), (1, z_r 86), (2, .inl p2), (3, .inl p3)], [.inl p3], zW T' G' S n, 0, 0) (by decide +kernel) rfl ⟨trivial, trivial⟩ ?_
      refine z_if_lt 24 M.1 (off := 12) (by decide +kernel) (by decide) (fun c12 => ?_) (fun c12 => ?_)
      · rw [if_pos c12] at K hs
        refine z_go2 M.1 24 [(.iconst 0, 1)] (25, [(0, z_r 78), (1, z_r 86), (2, .inl p2), (3, .inl p3)], [.inl 0], zW T' G' S n, 0, 0) (by decide +kernel) rfl ⟨trivial, trivial⟩ ?_
        exact z_iret M (by decide +kernel) .boolean rfl rfl (by decide) (by decide) (hQ _ K)
      · rw [if_neg c12] at K hs
        refine z_go2 M.1 15 [(.aload_n 1, 1), (.getfield 226, 3), (.iload_n 3, 1), (.baload, 1)] (21, [(0, z_r 78), (1, z_r 86), (2, .inl p2), (3, .inl p3)], [.inl (S 95 (p3).toNatClampNeg)], zW T' G' S n, 0, 0) (by decide +kernel) rfl ⟨trivial, rfl, trivial, ⟨rfl, hs.1⟩, trivial⟩ ?_
        replace hs := hs.2
        refine z_if_ne 26 M.1 (off := 5) (by decide +kernel) (by decide) (fun c21 => ?_) (fun c21 => ?_)
        · rw [if_neg c21] at K hs
          refine z_go2 M.1 26 [(.aload_n 0, 1), (.aload_n 1, 1), (.iload_n 2, 1), (.aload_n 1, 1), (.getfield 216, 3), (.iload_n 3, 1), (.iaload, 1)] (35, [(0, z_r 78), (1, z_r 86), (2, .inl p2), (3, .inl p3)], [.inl (S 87 (p3).toNatClampNeg), .inl p2, z_r 86, z_r 78], zW T' G' S n, 0, 0) (by decide +kernel) rfl ⟨trivial, trivial, trivial, trivial, rfl, trivial, ⟨rfl, hs.1⟩, trivial⟩ ?_
          replace hs := hs.2
          refine z_callV M.1 (av := [z_r 86, .inl p2, .inl (S 87 (p3).toNatClampNeg)]) (st := []) (a := 78) (ci := 14) (by decide +kernel) (c_M_rolesOf_86 T' G' S n p2 (S 87 (p3).toNatClampNeg) hs.1) M.2.1 zl_M_229 zv_M_rolesOf rfl rfl rfl ⟨by decide, by decide, by decide, by decide⟩ rfl (Nat.le_of_ble_eq_true rfl) (fun v w' hv => ?_)
          obtain ⟨rfl, rfl⟩ := hv
          replace hs := hs.2
          show z_G X zm_M_sees (38, [(0, z_r 78), (1, z_r 86), (2, .inl p2), (3, .inl p3)], [.inl (F_M_rolesOf 86 S p2 (S 87 (p3).toNatClampNeg))], zW T' G' S n, 0, 0)
          refine z_go2 M.1 38 [(.istore 4, 2), (.iload 4, 2), (.aload_n 0, 1), (.getfield 50, 3), (.aload_n 1, 1), (.getfield 216, 3), (.iload_n 3, 1), (.iaload, 1), (.iaload, 1), (.iand, 1)] (54, [(4, .inl (F_M_rolesOf 86 S p2 (S 87 (p3).toNatClampNeg))), (0, z_r 78), (1, z_r 86), (2, .inl p2), (3, .inl p3)], [.inl ((F_M_rolesOf 86 S p2 (S 87 (p3).toNatClampNeg)) &&& (S 124 (S 87 (p3).toNatClampNeg).toNatClampNeg))], zW T' G' S n, 0, 0) (by decide +kernel) rfl ⟨trivial, trivial, trivial, rfl, trivial, rfl, trivial, ⟨rfl, hs.1⟩, ⟨rfl, hs.2.1⟩, trivial, trivial⟩ ?_
          replace hs := hs.2.2
          refine z_if_eq 87 M.1 (off := 33) (by decide +kernel) (by decide) (fun c54 => ?_) (fun c54 => ?_)
          · rw [if_pos c54] at K hs
            refine z_go2 M.1 87 [(.iconst 0, 1)] (88, [(4, .inl (F_M_rolesOf 86 S p2 (S 87 (p3).toNatClampNeg))), (0, z_r 78), (1, z_r 86), (2, .inl p2), (3, .inl p3)], [.inl 0], zW T' G' S n, 0, 0) (by decide +kernel) rfl ⟨trivial, trivial⟩ ?_
            exact z_iret M (by decide +kernel) .boolean rfl rfl (by decide) (by decide) (hQ _ K)
          · rw [if_neg c54] at K hs
            refine z_go2 M.1 57 [(.aload_n 1, 1), (.getfield 210, 3), (.iload_n 3, 1), (.iaload, 1)] (63, [(4, .inl (F_M_rolesOf 86 S p2 (S 87 (p3).toNatClampNeg))), (0, z_r 78), (1, z_r 86), (2, .inl p2), (3, .inl p3)], [.inl (S 93 (p3).toNatClampNeg)], zW T' G' S n, 0, 0) (by decide +kernel) rfl ⟨trivial, rfl, trivial, ⟨rfl, hs.1⟩, trivial⟩ ?_
            replace hs := hs.2
            refine z_if_eq 83 M.1 (off := 20) (by decide +kernel) (by decide) (fun c63 => ?_) (fun c63 => ?_)
            · rw [if_pos c63] at K hs
              refine z_go2 M.1 83 [(.iconst 1, 1), (.goto 4, 3)] (88, [(4, .inl (F_M_rolesOf 86 S p2 (S 87 (p3).toNatClampNeg))), (0, z_r 78), (1, z_r 86), (2, .inl p2), (3, .inl p3)], [.inl 1], zW T' G' S n, 0, 0) (by decide +kernel) rfl ⟨trivial, trivial, trivial⟩ ?_
              exact z_iret M (by decide +kernel) .boolean rfl rfl (by decide) (by decide) (hQ _ K)
            · rw [if_neg c63] at K hs
              refine z_go2 M.1 66 [(.iload 4, 2), (.aload_n 0, 1), (.getfield 56, 3), (.aload_n 1, 1), (.getfield 210, 3), (.iload_n 3, 1), (.iaload, 1), (.iaload, 1), (.iand, 1)] (80, [(4, .inl (F_M_rolesOf 86 S p2 (S 87 (p3).toNatClampNeg))), (0, z_r 78), (1, z_r 86), (2, .inl p2), (3, .inl p3)], [.inl ((F_M_rolesOf 86 S p2 (S 87 (p3).toNatClampNeg)) &&& (S 126 (S 93 (p3).toNatClampNeg).toNatClampNeg))], zW T' G' S n, 0, 0) (by decide +kernel) rfl ⟨trivial, trivial, rfl, trivial, rfl, trivial, ⟨rfl, hs.1⟩, ⟨rfl, hs.2.1⟩, trivial, trivial⟩ ?_
              replace hs := hs.2.2
              refine z_if_eq 87 M.1 (off := 7) (by decide +kernel) (by decide) (fun c80 => ?_) (fun c80 => ?_)
              · rw [if_pos c80] at K
                refine z_go2 M.1 87 [(.iconst 0, 1)] (88, [(4, .inl (F_M_rolesOf 86 S p2 (S 87 (p3).toNatClampNeg))), (0, z_r 78), (1, z_r 86), (2, .inl p2), (3, .inl p3)], [.inl 0], zW T' G' S n, 0, 0) (by decide +kernel) rfl ⟨trivial, trivial⟩ ?_
                exact z_iret M (by decide +kernel) .boolean rfl rfl (by decide) (by decide) (hQ _ K)
              · rw [if_neg c80] at K
                refine z_go2 M.1 83 [(.iconst 1, 1), (.goto 4, 3)] (88, [(4, .inl (F_M_rolesOf 86 S p2 (S 87 (p3).toNatClampNeg))), (0, z_r 78), (1, z_r 86), (2, .inl p2), (3, .inl p3)], [.inl 1], zW T' G' S n, 0, 0) (by decide +kernel) rfl ⟨trivial, trivial, trivial⟩ ?_
                exact z_iret M (by decide +kernel) .boolean rfl rfl (by decide) (by decide) (hQ _ K)
        · rw [if_pos c21] at K hs
          refine z_go2 M.1 24 [(.iconst 0, 1)] (25, [(0, z_r 78), (1, z_r 86), (2, .inl p2), (3, .inl p3)], [.inl 0], zW T' G' S n, 0, 0) (by decide +kernel) rfl ⟨trivial, trivial⟩ ?_
          exact z_iret M (by decide +kernel) .boolean rfl rfl (by decide) (by decide) (hQ _ K)
theorem c_M_sees_98 (T' : Nat → Nat × Nat) (G' : Nat → Nat → Option Nat) (S : (Nat → Nat → Int32)) (n : Nat) (p2 : Int32) (p3 : Int32) (hs : Sf_M_sees 98 S p2 p3) : z_Run rm_M_sees zm_M_sees [z_r 78, z_r 98, .inl p2, .inl p3] (zW T' G' S n) (zq (some (.inl (F_M_sees 98 S p2 p3))) (zW T' G' S n)) := by
  refine z_body (by decide) zf_M_ok (Nat.le_of_ble_eq_true rfl) (fun X M => ?_)
  obtain ⟨Q, hQ, K⟩ : ∃ Q : Int32 → Prop, (∀ v, Q v → zq (some (.inl (F_M_sees 98 S p2 p3))) (zW T' G' S n) (some (.inl v)) (zW T' G' S n)) ∧ Q (F_M_sees 98 S p2 p3) := ⟨fun o => F_M_sees 98 S p2 p3 = o, fun v h => ⟨by rw [h], rfl⟩, rfl⟩
  show z_G X zm_M_sees (0, [(0, z_r 78), (1, z_r 98), (2, .inl p2), (3, .inl p3)], [], zW T' G' S n, 0, 0)
  unfold F_M_sees at K
  unfold Sf_M_sees at hs
  try simp only [Nat.reduceAdd] at K hs
  refine z_go2 M.1 0 [(.iload_n 3, 1), (.iconst (-1), 1)] (2, [(0, z_r 78), (1, z_r 98), (2, .inl p2), (3, .inl p3)], [.inl (-1), .inl p3], zW T' G' S n, 0, 0) (by decide +kernel) rfl ⟨trivial, trivial, trivial⟩ ?_
  refine z_icmp_eq 24 M.1 (off := 22) (by decide +kernel) (by decide) (fun c2 => ?_) (fun c2 => ?_)
  · rw [if_pos c2] at K hs
    refine z_go2 M.1 24 [(.iconst 0, 1)] (25, [(0, z_r 78), (1, z_r 98), (2, .inl p2), (3, .inl p3)], [.inl 0], zW T' G' S n, 0, 0) (by decide +kernel) rfl ⟨trivial, trivial⟩ ?_
    exact z_iret M (by decide +kernel) .boolean rfl rfl (by decide) (by decide) (hQ _ K)
  · rw [if_neg c2] at K hs
    refine z_go2 M.1 5 [(.iload_n 3, 1), (.bipush 30, 2)] (8, [(0, z_r 78), (1, z_r 98), (2, .inl p2), (3, .inl p3)], [.inl 30, .inl p3], zW T' G' S n, 0, 0) (by decide +kernel) rfl ⟨trivial, trivial, trivial⟩ ?_
    refine z_icmp_ge 24 M.1 (off := 16) (by decide +kernel) (by decide) (fun c8 => ?_) (fun c8 => ?_)
    · rw [if_pos c8] at K hs
      refine z_go2 M.1 24 [(.iconst 0, 1)] (25, [(0, z_r 78), (1, z_r 98), (2, .inl p2), (3, .inl p3)], [.inl 0], zW T' G' S n, 0, 0) (by decide +kernel) rfl ⟨trivial, trivial⟩ ?_
      exact z_iret M (by decide +kernel) .boolean rfl rfl (by decide) (by decide) (hQ _ K)
    · rw [if_neg c8] at K hs
      refine z_go2 M.1 11 [(.iload_n 3, 1)] (12, [(0, z_r 78), (1, z_r 98), (2, .inl p2), (3, .inl p3)], [.inl p3], zW T' G' S n, 0, 0) (by decide +kernel) rfl ⟨trivial, trivial⟩ ?_
      refine z_if_lt 24 M.1 (off := 12) (by decide +kernel) (by decide) (fun c12 => ?_) (fun c12 => ?_)
      · rw [if_pos c12] at K hs
        refine z_go2 M.1 24 [(.iconst 0, 1)] (25, [(0, z_r 78), (1, z_r 98), (2, .inl p2), (3, .inl p3)], [.inl 0], zW T' G' S n, 0, 0) (by decide +kernel) rfl ⟨trivial, trivial⟩ ?_
        exact z_iret M (by decide +kernel) .boolean rfl rfl (by decide) (by decide) (hQ _ K)
      · rw [if_neg c12] at K hs
        refine z_go2 M.1 15 [(.aload_n 1, 1), (.getfield 226, 3), (.iload_n 3, 1), (.baload, 1)] (21, [(0, z_r 78), (1, z_r 98), (2, .inl p2), (3, .inl p3)], [.inl (S 107 (p3).toNatClampNeg)], zW T' G' S n, 0, 0) (by decide +kernel) rfl ⟨trivial, rfl, trivial, ⟨rfl, hs.1⟩, trivial⟩ ?_
        replace hs := hs.2
        refine z_if_ne 26 M.1 (off := 5) (by decide +kernel) (by decide) (fun c21 => ?_) (fun c21 => ?_)
        · rw [if_neg c21] at K hs
          refine z_go2 M.1 26 [(.aload_n 0, 1), (.aload_n 1, 1), (.iload_n 2, 1), (.aload_n 1, 1), (.getfield 216, 3), (.iload_n 3, 1), (.iaload, 1)] (35, [(0, z_r 78), (1, z_r 98), (2, .inl p2), (3, .inl p3)], [.inl (S 99 (p3).toNatClampNeg), .inl p2, z_r 98, z_r 78], zW T' G' S n, 0, 0) (by decide +kernel) rfl ⟨trivial, trivial, trivial, trivial, rfl, trivial, ⟨rfl, hs.1⟩, trivial⟩ ?_
          replace hs := hs.2
          refine z_callV M.1 (av := [z_r 98, .inl p2, .inl (S 99 (p3).toNatClampNeg)]) (st := []) (a := 78) (ci := 14) (by decide +kernel) (c_M_rolesOf_98 T' G' S n p2 (S 99 (p3).toNatClampNeg) hs.1) M.2.1 zl_M_229 zv_M_rolesOf rfl rfl rfl ⟨by decide, by decide, by decide, by decide⟩ rfl (Nat.le_of_ble_eq_true rfl) (fun v w' hv => ?_)
          obtain ⟨rfl, rfl⟩ := hv
          replace hs := hs.2
          show z_G X zm_M_sees (38, [(0, z_r 78), (1, z_r 98), (2, .inl p2), (3, .inl p3)], [.inl (F_M_rolesOf 98 S p2 (S 99 (p3).toNatClampNeg))], zW T' G' S n, 0, 0)
          refine z_go2 M.1 38 [(.istore 4, 2), (.iload 4, 2), (.aload_n 0, 1), (.getfield 50, 3), (.aload_n 1, 1), (.getfield 216, 3), (.iload_n 3, 1), (.iaload, 1), (.iaload, 1), (.iand, 1)] (54, [(4, .inl (F_M_rolesOf 98 S p2 (S 99 (p3).toNatClampNeg))), (0, z_r 78), (1, z_r 98), (2, .inl p2), (3, .inl p3)], [.inl ((F_M_rolesOf 98 S p2 (S 99 (p3).toNatClampNeg)) &&& (S 124 (S 99 (p3).toNatClampNeg).toNatClampNeg))], zW T' G' S n, 0, 0) (by decide +kernel) rfl ⟨trivial, trivial, trivial, rfl, trivial, rfl, trivial, ⟨rfl, hs.1⟩, ⟨rfl, hs.2.1⟩, trivial, trivial⟩ ?_
          replace hs := hs.2.2
          refine z_if_eq 87 M.1 (off := 33) (by decide +kernel) (by decide) (fun c54 => ?_) (fun c54 => ?_)
          · rw [if_pos c54] at K hs
            refine z_go2 M.1 87 [(.iconst 0, 1)] (88, [(4, .inl (F_M_rolesOf 98 S p2 (S 99 (p3).toNatClampNeg))), (0, z_r 78), (1, z_r 98), (2, .inl p2), (3, .inl p3)], [.inl 0], zW T' G' S n, 0, 0) (by decide +kernel) rfl ⟨trivial, trivial⟩ ?_
            exact z_iret M (by decide +kernel) .boolean rfl rfl (by decide) (by decide) (hQ _ K)
          · rw [if_neg c54] at K hs
            refine z_go2 M.1 57 [(.aload_n 1, 1), (.getfield 210, 3), (.iload_n 3, 1), (.iaload, 1)] (63, [(4, .inl (F_M_rolesOf 98 S p2 (S 99 (p3).toNatClampNeg))), (0, z_r 78), (1, z_r 98), (2, .inl p2), (3, .inl p3)], [.inl (S 105 (p3).toNatClampNeg)], zW T' G' S n, 0, 0) (by decide +kernel) rfl ⟨trivial, rfl, trivial, ⟨rfl, hs.1⟩, trivial⟩ ?_
            replace hs := hs.2
            refine z_if_eq 83 M.1 (off := 20) (by decide +kernel) (by decide) (fun c63 => ?_) (fun c63 => ?_)
            · rw [if_pos c63] at K hs
              refine z_go2 M.1 83 [(.iconst 1, 1), (.goto 4, 3)] (88, [(4, .inl (F_M_rolesOf 98 S p2 (S 99 (p3).toNatClampNeg))), (0, z_r 78), (1, z_r 98), (2, .inl p2), (3, .inl p3)], [.inl 1], zW T' G' S n, 0, 0) (by decide +kernel) rfl ⟨trivial, trivial, trivial⟩ ?_
              exact z_iret M (by decide +kernel) .boolean rfl rfl (by decide) (by decide) (hQ _ K)
            · rw [if_neg c63] at K hs
              refine z_go2 M.1 66 [(.iload 4, 2), (.aload_n 0, 1), (.getfield 56, 3), (.aload_n 1, 1), (.getfield 210, 3), (.iload_n 3, 1), (.iaload, 1), (.iaload, 1), (.iand, 1)] (80, [(4, .inl (F_M_rolesOf 98 S p2 (S 99 (p3).toNatClampNeg))), (0, z_r 78), (1, z_r 98), (2, .inl p2), (3, .inl p3)], [.inl ((F_M_rolesOf 98 S p2 (S 99 (p3).toNatClampNeg)) &&& (S 126 (S 105 (p3).toNatClampNeg).toNatClampNeg))], zW T' G' S n, 0, 0) (by decide +kernel) rfl ⟨trivial, trivial, rfl, trivial, rfl, trivial, ⟨rfl, hs.1⟩, ⟨rfl, hs.2.1⟩, trivial, trivial⟩ ?_
              replace hs := hs.2.2
              refine z_if_eq 87 M.1 (off := 7) (by decide +kernel) (by decide) (fun c80 => ?_) (fun c80 => ?_)
              · rw [if_pos c80] at K
                refine z_go2 M.1 87 [(.iconst 0, 1)] (88, [(4, .inl (F_M_rolesOf 98 S p2 (S 99 (p3).toNatClampNeg))), (0, z_r 78), (1, z_r 98), (2, .inl p2), (3, .inl p3)], [.inl 0], zW T' G' S n, 0, 0) (by decide +kernel) rfl ⟨trivial, trivial⟩ ?_
                exact z_iret M (by decide +kernel) .boolean rfl rfl (by decide) (by decide) (hQ _ K)
              · rw [if_neg c80] at K
                refine z_go2 M.1 83 [(.iconst 1, 1), (.goto 4, 3)] (88, [(4, .inl (F_M_rolesOf 98 S p2 (S 99 (p3).toNatClampNeg))), (0, z_r 78), (1, z_r 98), (2, .inl p2), (3, .inl p3)], [.inl 1], zW T' G' S n, 0, 0) (by decide +kernel) rfl ⟨trivial, trivial, trivial⟩ ?_
                exact z_iret M (by decide +kernel) .boolean rfl rfl (by decide) (by decide) (hQ _ K)
        · rw [if_pos c21] at K hs
          refine z_go2 M.1 24 [(.iconst 0, 1)] (25, [(0, z_r 78), (1, z_r 98), (2, .inl p2), (3, .inl p3)], [.inl 0], zW T' G' S n, 0, 0) (by decide +kernel) rfl ⟨trivial, trivial⟩ ?_
          exact z_iret M (by decide +kernel) .boolean rfl rfl (by decide) (by decide) (hQ _ K)

-- TrackHouseModel.edits
abbrev rm_M_edits : Room := zr 2
def F_M_edits_j41 (w : Nat) (S : (Nat → Nat → Int32)) : Int32 := 0
theorem t_M_edits_j41_86 {X : z_X} {Post : Option z_V → z_W → Prop} (M : z_M X zm_M_edits rm_M_edits Post) {T' : Nat → Nat × Nat} {G' : Nat → Nat → Option Nat} {n : Nat} {Q : Int32 → Prop} (S : (Nat → Nat → Int32)) (hQ : ∀ v, Q v → Post (some (.inl v)) (zW T' G' S n)) (K : Q (F_M_edits_j41 86 S)) : z_G X zm_M_edits (41, [], [], zW T' G' S n, 0, 0) := by
  unfold F_M_edits_j41 at K
  try simp only [Nat.reduceAdd] at K
  refine z_go2 M.1 41 [(.iconst 0, 1)] (42, [], [.inl 0], zW T' G' S n, 0, 0) (by decide +kernel) rfl ⟨trivial, trivial⟩ ?_
  exact z_iret M (by decide +kernel) .boolean rfl rfl (by decide) (by decide) (hQ _ K)
theorem t_M_edits_j41_98 {X : z_X} {Post : Option z_V → z_W → Prop} (M : z_M X zm_M_edits rm_M_edits Post) {T' : Nat → Nat × Nat} {G' : Nat → Nat → Option Nat} {n : Nat} {Q : Int32 → Prop} (S : (Nat → Nat → Int32)) (hQ : ∀ v, Q v → Post (some (.inl v)) (zW T' G' S n)) (K : Q (F_M_edits_j41 98 S)) : z_G X zm_M_edits (41, [], [], zW T' G' S n, 0, 0) := by
  unfold F_M_edits_j41 at K
  try simp only [Nat.reduceAdd] at K
  refine z_go2 M.1 41 [(.iconst 0, 1)] (42, [], [.inl 0], zW T' G' S n, 0, 0) (by decide +kernel) rfl ⟨trivial, trivial⟩ ?_
  exact z_iret M (by decide +kernel) .boolean rfl rfl (by decide) (by decide) (hQ _ K)
def F_M_edits (w : Nat) (S : (Nat → Nat → Int32)) (p2 : Int32) (p3 : Int32) : Int32 := (if (F_M_sees w S p2 p3) = 0 then (F_M_edits_j41 w S) else (if ((F_M_rolesOf w S p2 (S (w + 1) (p3).toNatClampNeg)) &&& (S 125 (S (w + 1) (p3).toNatClampNeg).toNatClampNeg)) = 0 then (F_M_edits_j41 w S) else 1))
def Sf_M_edits (w : Nat) (S : (Nat → Nat → Int32)) (p2 : Int32) (p3 : Int32) : Prop := (Sf_M_sees w S p2 p3 ∧ (if (F_M_sees w S p2 p3) = 0 then True else ((vp_in p3 30) ∧ (Sf_M_rolesOf w S p2 (S (w + 1) (p3).toNatClampNeg) ∧ ((vp_in p3 30) ∧ ((vp_in (S (w + 1) (p3).toNatClampNeg) 3) ∧ True))))))
theorem c_M_edits_86 (T' : Nat → Nat × Nat) (G' : Nat → Nat → Option Nat) (S : (Nat → Nat → Int32)) (n : Nat) (p2 : Int32) (p3 : Int32) (hs : Sf_M_edits 86 S p2 p3) : z_Run rm_M_edits zm_M_edits [z_r 78, z_r 86, .inl p2, .inl p3] (zW T' G' S n) (zq (some (.inl (F_M_edits 86 S p2 p3))) (zW T' G' S n)) := by
  refine z_body (by decide) zf_M_ok (Nat.le_of_ble_eq_true rfl) (fun X M => ?_)
  obtain ⟨Q, hQ, K⟩ : ∃ Q : Int32 → Prop, (∀ v, Q v → zq (some (.inl (F_M_edits 86 S p2 p3))) (zW T' G' S n) (some (.inl v)) (zW T' G' S n)) ∧ Q (F_M_edits 86 S p2 p3) := ⟨fun o => F_M_edits 86 S p2 p3 = o, fun v h => ⟨by rw [h], rfl⟩, rfl⟩
  show z_G X zm_M_edits (0, [(0, z_r 78), (1, z_r 86), (2, .inl p2), (3, .inl p3)], [], zW T' G' S n, 0, 0)
  unfold F_M_edits at K
  unfold Sf_M_edits at hs
  try simp only [Nat.reduceAdd] at K hs
  refine z_go2 M.1 0 [(.aload_n 0, 1), (.aload_n 1, 1), (.iload_n 2, 1), (.iload_n 3, 1)] (4, [(0, z_r 78), (1, z_r 86), (2, .inl p2), (3, .inl p3)], [.inl p3, .inl p2, z_r 86, z_r 78], zW T' G' S n, 0, 0) (by decide +kernel) rfl ⟨trivial, trivial, trivial, trivial, trivial⟩ ?_
  refine z_callV M.1 (av := [z_r 86, .inl p2, .inl p3]) (st := []) (a := 78) (ci := 14) (by decide +kernel) (c_M_sees_86 T' G' S n p2 p3 hs.1) M.2.1 zl_M_233 zv_M_sees rfl rfl rfl ⟨by decide, by decide, by decide, by decide⟩ rfl (Nat.le_of_ble_eq_true rfl) (fun v w' hv => ?_)
  obtain ⟨rfl, rfl⟩ := hv
  replace hs := hs.2
  show z_G X zm_M_edits (7, [(0, z_r 78), (1, z_r 86), (2, .inl p2), (3, .inl p3)], [.inl (F_M_sees 86 S p2 p3)], zW T' G' S n, 0, 0)
  refine z_if_eq 41 M.1 (off := 34) (by decide +kernel) (by decide) (fun c7 => ?_) (fun c7 => ?_)
  · rw [if_pos c7] at K hs
    exact z_lvs (lv' := []) [] rfl (t_M_edits_j41_86 M S hQ K)
  · rw [if_neg c7] at K hs
    refine z_go2 M.1 10 [(.aload_n 0, 1), (.aload_n 1, 1), (.iload_n 2, 1), (.aload_n 1, 1), (.getfield 216, 3), (.iload_n 3, 1), (.iaload, 1)] (19, [(0, z_r 78), (1, z_r 86), (2, .inl p2), (3, .inl p3)], [.inl (S 87 (p3).toNatClampNeg), .inl p2, z_r 86, z_r 78], zW T' G' S n, 0, 0) (by decide +kernel) rfl ⟨trivial, trivial, trivial, trivial, rfl, trivial, ⟨rfl, hs.1⟩, trivial⟩ ?_
    replace hs := hs.2
    refine z_callV M.1 (av := [z_r 86, .inl p2, .inl (S 87 (p3).toNatClampNeg)]) (st := []) (a := 78) (ci := 14) (by decide +kernel) (c_M_rolesOf_86 T' G' S n p2 (S 87 (p3).toNatClampNeg) hs.1) M.2.1 zl_M_229 zv_M_rolesOf rfl rfl rfl ⟨by decide, by decide, by decide, by decide⟩ rfl (Nat.le_of_ble_eq_true rfl) (fun v w' hv => ?_)
    obtain ⟨rfl, rfl⟩ := hv
    replace hs := hs.2
    show z_G X zm_M_edits (22, [(0, z_r 78), (1, z_r 86), (2, .inl p2), (3, .inl p3)], [.inl (F_M_rolesOf 86 S p2 (S 87 (p3).toNatClampNeg))], zW T' G' S n, 0, 0)
    refine z_go2 M.1 22 [(.aload_n 0, 1), (.getfield 53, 3), (.aload_n 1, 1), (.getfield 216, 3), (.iload_n 3, 1), (.iaload, 1), (.iaload, 1), (.iand, 1)] (34, [(0, z_r 78), (1, z_r 86), (2, .inl p2), (3, .inl p3)], [.inl ((F_M_rolesOf 86 S p2 (S 87 (p3).toNatClampNeg)) &&& (S 125 (S 87 (p3).toNatClampNeg).toNatClampNeg))], zW T' G' S n, 0, 0) (by decide +kernel) rfl ⟨trivial, rfl, trivial, rfl, trivial, ⟨rfl, hs.1⟩, ⟨rfl, hs.2.1⟩, trivial, trivial⟩ ?_
    replace hs := hs.2.2
    refine z_if_eq 41 M.1 (off := 7) (by decide +kernel) (by decide) (fun c34 => ?_) (fun c34 => ?_)
    · rw [if_pos c34] at K
      exact z_lvs (lv' := []) [] rfl (t_M_edits_j41_86 M S hQ K)
    · rw [if_neg c34] at K
      refine z_go2 M.1 37 [(.iconst 1, 1), (.goto 4, 3)] (42, [(0, z_r 78), (1, z_r 86), (2, .inl p2), (3, .inl p3)], [.inl 1], zW T' G' S n, 0, 0) (by decide +kernel) rfl ⟨trivial, trivial, trivial⟩ ?_
      exact z_iret M (by decide +kernel) .boolean rfl rfl (by decide) (by decide) (hQ _ K)
theorem c_M_edits_98 (T' : Nat → Nat × Nat) (G' : Nat → Nat → Option Nat) (S : (Nat → Nat → Int32)) (n : Nat) (p2 : Int32) (p3 : Int32) (hs : Sf_M_edits 98 S p2 p3) : z_Run rm_M_edits zm_M_edits [z_r 78, z_r 98, .inl p2, .inl p3] (zW T' G' S n) (zq (some (.inl (F_M_edits 98 S p2 p3))) (zW T' G' S n)) := by
  refine z_body (by decide) zf_M_ok (Nat.le_of_ble_eq_true rfl) (fun X M => ?_)
  obtain ⟨Q, hQ, K⟩ : ∃ Q : Int32 → Prop, (∀ v, Q v → zq (some (.inl (F_M_edits 98 S p2 p3))) (zW T' G' S n) (some (.inl v)) (zW T' G' S n)) ∧ Q (F_M_edits 98 S p2 p3) := ⟨fun o => F_M_edits 98 S p2 p3 = o, fun v h => ⟨by rw [h], rfl⟩, rfl⟩
  show z_G X zm_M_edits (0, [(0, z_r 78), (1, z_r 98), (2, .inl p2), (3, .inl p3)], [], zW T' G' S n, 0, 0)
  unfold F_M_edits at K
  unfold Sf_M_edits at hs
  try simp only [Nat.reduceAdd] at K hs
  refine z_go2 M.1 0 [(.aload_n 0, 1), (.aload_n 1, 1), (.iload_n 2, 1), (.iload_n 3, 1)] (4, [(0, z_r 78), (1, z_r 98), (2, .inl p2), (3, .inl p3)], [.inl p3, .inl p2, z_r 98, z_r 78], zW T' G' S n, 0, 0) (by decide +kernel) rfl ⟨trivial, trivial, trivial, trivial, trivial⟩ ?_
  refine z_callV M.1 (av := [z_r 98, .inl p2, .inl p3]) (st := []) (a := 78) (ci := 14) (by decide +kernel) (c_M_sees_98 T' G' S n p2 p3 hs.1) M.2.1 zl_M_233 zv_M_sees rfl rfl rfl ⟨by decide, by decide, by decide, by decide⟩ rfl (Nat.le_of_ble_eq_true rfl) (fun v w' hv => ?_)
  obtain ⟨rfl, rfl⟩ := hv
  replace hs := hs.2
  show z_G X zm_M_edits (7, [(0, z_r 78), (1, z_r 98), (2, .inl p2), (3, .inl p3)], [.inl (F_M_sees 98 S p2 p3)], zW T' G' S n, 0, 0)
  refine z_if_eq 41 M.1 (off := 34) (by decide +kernel) (by decide) (fun c7 => ?_) (fun c7 => ?_)
  · rw [if_pos c7] at K hs
    exact z_lvs (lv' := []) [] rfl (t_M_edits_j41_98 M S hQ K)
  · rw [if_neg c7] at K hs
    refine z_go2 M.1 10 [(.aload_n 0, 1), (.aload_n 1, 1), (.iload_n 2, 1), (.aload_n 1, 1), (.getfield 216, 3), (.iload_n 3, 1), (.iaload, 1)] (19, [(0, z_r 78), (1, z_r 98), (2, .inl p2), (3, .inl p3)], [.inl (S 99 (p3).toNatClampNeg), .inl p2, z_r 98, z_r 78], zW T' G' S n, 0, 0) (by decide +kernel) rfl ⟨trivial, trivial, trivial, trivial, rfl, trivial, ⟨rfl, hs.1⟩, trivial⟩ ?_
    replace hs := hs.2
    refine z_callV M.1 (av := [z_r 98, .inl p2, .inl (S 99 (p3).toNatClampNeg)]) (st := []) (a := 78) (ci := 14) (by decide +kernel) (c_M_rolesOf_98 T' G' S n p2 (S 99 (p3).toNatClampNeg) hs.1) M.2.1 zl_M_229 zv_M_rolesOf rfl rfl rfl ⟨by decide, by decide, by decide, by decide⟩ rfl (Nat.le_of_ble_eq_true rfl) (fun v w' hv => ?_)
    obtain ⟨rfl, rfl⟩ := hv
    replace hs := hs.2
    show z_G X zm_M_edits (22, [(0, z_r 78), (1, z_r 98), (2, .inl p2), (3, .inl p3)], [.inl (F_M_rolesOf 98 S p2 (S 99 (p3).toNatClampNeg))], zW T' G' S n, 0, 0)
    refine z_go2 M.1 22 [(.aload_n 0, 1), (.getfield 53, 3), (.aload_n 1, 1), (.getfield 216, 3), (.iload_n 3, 1), (.iaload, 1), (.iaload, 1), (.iand, 1)] (34, [(0, z_r 78), (1, z_r 98), (2, .inl p2), (3, .inl p3)], [.inl ((F_M_rolesOf 98 S p2 (S 99 (p3).toNatClampNeg)) &&& (S 125 (S 99 (p3).toNatClampNeg).toNatClampNeg))], zW T' G' S n, 0, 0) (by decide +kernel) rfl ⟨trivial, rfl, trivial, rfl, trivial, ⟨rfl, hs.1⟩, ⟨rfl, hs.2.1⟩, trivial, trivial⟩ ?_
    replace hs := hs.2.2
    refine z_if_eq 41 M.1 (off := 7) (by decide +kernel) (by decide) (fun c34 => ?_) (fun c34 => ?_)
    · rw [if_pos c34] at K
      exact z_lvs (lv' := []) [] rfl (t_M_edits_j41_98 M S hQ K)
    · rw [if_neg c34] at K
      refine z_go2 M.1 37 [(.iconst 1, 1), (.goto 4, 3)] (42, [(0, z_r 78), (1, z_r 98), (2, .inl p2), (3, .inl p3)], [.inl 1], zW T' G' S n, 0, 0) (by decide +kernel) rfl ⟨trivial, trivial, trivial⟩ ?_
      exact z_iret M (by decide +kernel) .boolean rfl rfl (by decide) (by decide) (hQ _ K)

-- TrackHouseModel.readsIt
abbrev rm_M_readsIt : Room := zr 2
def F_M_readsIt_j37 (w : Nat) (S : (Nat → Nat → Int32)) : Int32 := 0
theorem t_M_readsIt_j37_86 {X : z_X} {Post : Option z_V → z_W → Prop} (M : z_M X zm_M_readsIt rm_M_readsIt Post) {T' : Nat → Nat × Nat} {G' : Nat → Nat → Option Nat} {n : Nat} {Q : Int32 → Prop} (S : (Nat → Nat → Int32)) (hQ : ∀ v, Q v → Post (some (.inl v)) (zW T' G' S n)) (K : Q (F_M_readsIt_j37 86 S)) : z_G X zm_M_readsIt (37, [], [], zW T' G' S n, 0, 0) := by
  unfold F_M_readsIt_j37 at K
  try simp only [Nat.reduceAdd] at K
  refine z_go2 M.1 37 [(.iconst 0, 1)] (38, [], [.inl 0], zW T' G' S n, 0, 0) (by decide +kernel) rfl ⟨trivial, trivial⟩ ?_
  exact z_iret M (by decide +kernel) .boolean rfl rfl (by decide) (by decide) (hQ _ K)
theorem t_M_readsIt_j37_98 {X : z_X} {Post : Option z_V → z_W → Prop} (M : z_M X zm_M_readsIt rm_M_readsIt Post) {T' : Nat → Nat × Nat} {G' : Nat → Nat → Option Nat} {n : Nat} {Q : Int32 → Prop} (S : (Nat → Nat → Int32)) (hQ : ∀ v, Q v → Post (some (.inl v)) (zW T' G' S n)) (K : Q (F_M_readsIt_j37 98 S)) : z_G X zm_M_readsIt (37, [], [], zW T' G' S n, 0, 0) := by
  unfold F_M_readsIt_j37 at K
  try simp only [Nat.reduceAdd] at K
  refine z_go2 M.1 37 [(.iconst 0, 1)] (38, [], [.inl 0], zW T' G' S n, 0, 0) (by decide +kernel) rfl ⟨trivial, trivial⟩ ?_
  exact z_iret M (by decide +kernel) .boolean rfl rfl (by decide) (by decide) (hQ _ K)
def F_M_readsIt (w : Nat) (S : (Nat → Nat → Int32)) (p2 : Int32) (p3 : Int32) (p4 : Int32) : Int32 := (if (F_M_sees w S p2 p3) = 0 then (F_M_readsIt_j37 w S) else (if ((F_M_rolesOf w S p2 (S (w + 1) (p3).toNatClampNeg)) &&& (S 127 (p4).toNatClampNeg)) = 0 then (F_M_readsIt_j37 w S) else 1))
def Sf_M_readsIt (w : Nat) (S : (Nat → Nat → Int32)) (p2 : Int32) (p3 : Int32) (p4 : Int32) : Prop := (Sf_M_sees w S p2 p3 ∧ (if (F_M_sees w S p2 p3) = 0 then True else ((vp_in p3 30) ∧ (Sf_M_rolesOf w S p2 (S (w + 1) (p3).toNatClampNeg) ∧ ((vp_in p4 4) ∧ True)))))
theorem c_M_readsIt_86 (T' : Nat → Nat × Nat) (G' : Nat → Nat → Option Nat) (S : (Nat → Nat → Int32)) (n : Nat) (p2 : Int32) (p3 : Int32) (p4 : Int32) (hs : Sf_M_readsIt 86 S p2 p3 p4) : z_Run rm_M_readsIt zm_M_readsIt [z_r 78, z_r 86, .inl p2, .inl p3, .inl p4] (zW T' G' S n) (zq (some (.inl (F_M_readsIt 86 S p2 p3 p4))) (zW T' G' S n)) := by
  refine z_body (by decide) zf_M_ok (Nat.le_of_ble_eq_true rfl) (fun X M => ?_)
  obtain ⟨Q, hQ, K⟩ : ∃ Q : Int32 → Prop, (∀ v, Q v → zq (some (.inl (F_M_readsIt 86 S p2 p3 p4))) (zW T' G' S n) (some (.inl v)) (zW T' G' S n)) ∧ Q (F_M_readsIt 86 S p2 p3 p4) := ⟨fun o => F_M_readsIt 86 S p2 p3 p4 = o, fun v h => ⟨by rw [h], rfl⟩, rfl⟩
  show z_G X zm_M_readsIt (0, [(0, z_r 78), (1, z_r 86), (2, .inl p2), (3, .inl p3), (4, .inl p4)], [], zW T' G' S n, 0, 0)
  unfold F_M_readsIt at K
  unfold Sf_M_readsIt at hs
  try simp only [Nat.reduceAdd] at K hs
  refine z_go2 M.1 0 [(.aload_n 0, 1), (.aload_n 1, 1), (.iload_n 2, 1), (.iload_n 3, 1)] (4, [(0, z_r 78), (1, z_r 86), (2, .inl p2), (3, .inl p3), (4, .inl p4)], [.inl p3, .inl p2, z_r 86, z_r 78], zW T' G' S n, 0, 0) (by decide +kernel) rfl ⟨trivial, trivial, trivial, trivial, trivial⟩ ?_
  refine z_callV M.1 (av := [z_r 86, .inl p2, .inl p3]) (st := []) (a := 78) (ci := 14) (by decide +kernel) (c_M_sees_86 T' G' S n p2 p3 hs.1) M.2.1 zl_M_233 zv_M_sees rfl rfl rfl ⟨by decide, by decide, by decide, by decide⟩ rfl (Nat.le_of_ble_eq_true rfl) (fun v w' hv => ?_)
  obtain ⟨rfl, rfl⟩ := hv
  replace hs := hs.2
  show z_G X zm_M_readsIt (7, [(0, z_r 78), (1, z_r 86), (2, .inl p2), (3, .inl p3), (4, .inl p4)], [.inl (F_M_sees 86 S p2 p3)], zW T' G' S n, 0, 0)
  refine z_if_eq 37 M.1 (off := 30) (by decide +kernel) (by decide) (fun c7 => ?_) (fun c7 => ?_)
  · rw [if_pos c7] at K hs
    exact z_lvs (lv' := []) [] rfl (t_M_readsIt_j37_86 M S hQ K)
  · rw [if_neg c7] at K hs
    refine z_go2 M.1 10 [(.aload_n 0, 1), (.aload_n 1, 1), (.iload_n 2, 1), (.aload_n 1, 1), (.getfield 216, 3), (.iload_n 3, 1), (.iaload, 1)] (19, [(0, z_r 78), (1, z_r 86), (2, .inl p2), (3, .inl p3), (4, .inl p4)], [.inl (S 87 (p3).toNatClampNeg), .inl p2, z_r 86, z_r 78], zW T' G' S n, 0, 0) (by decide +kernel) rfl ⟨trivial, trivial, trivial, trivial, rfl, trivial, ⟨rfl, hs.1⟩, trivial⟩ ?_
    replace hs := hs.2
    refine z_callV M.1 (av := [z_r 86, .inl p2, .inl (S 87 (p3).toNatClampNeg)]) (st := []) (a := 78) (ci := 14) (by decide +kernel) (c_M_rolesOf_86 T' G' S n p2 (S 87 (p3).toNatClampNeg) hs.1) M.2.1 zl_M_229 zv_M_rolesOf rfl rfl rfl ⟨by decide, by decide, by decide, by decide⟩ rfl (Nat.le_of_ble_eq_true rfl) (fun v w' hv => ?_)
    obtain ⟨rfl, rfl⟩ := hv
    replace hs := hs.2
    show z_G X zm_M_readsIt (22, [(0, z_r 78), (1, z_r 86), (2, .inl p2), (3, .inl p3), (4, .inl p4)], [.inl (F_M_rolesOf 86 S p2 (S 87 (p3).toNatClampNeg))], zW T' G' S n, 0, 0)
    refine z_go2 M.1 22 [(.aload_n 0, 1), (.getfield 59, 3), (.iload 4, 2), (.iaload, 1), (.iand, 1)] (30, [(0, z_r 78), (1, z_r 86), (2, .inl p2), (3, .inl p3), (4, .inl p4)], [.inl ((F_M_rolesOf 86 S p2 (S 87 (p3).toNatClampNeg)) &&& (S 127 (p4).toNatClampNeg))], zW T' G' S n, 0, 0) (by decide +kernel) rfl ⟨trivial, rfl, trivial, ⟨rfl, hs.1⟩, trivial, trivial⟩ ?_
    replace hs := hs.2
    refine z_if_eq 37 M.1 (off := 7) (by decide +kernel) (by decide) (fun c30 => ?_) (fun c30 => ?_)
    · rw [if_pos c30] at K
      exact z_lvs (lv' := []) [] rfl (t_M_readsIt_j37_86 M S hQ K)
    · rw [if_neg c30] at K
      refine z_go2 M.1 33 [(.iconst 1, 1), (.goto 4, 3)] (38, [(0, z_r 78), (1, z_r 86), (2, .inl p2), (3, .inl p3), (4, .inl p4)], [.inl 1], zW T' G' S n, 0, 0) (by decide +kernel) rfl ⟨trivial, trivial, trivial⟩ ?_
      exact z_iret M (by decide +kernel) .boolean rfl rfl (by decide) (by decide) (hQ _ K)
theorem c_M_readsIt_98 (T' : Nat → Nat × Nat) (G' : Nat → Nat → Option Nat) (S : (Nat → Nat → Int32)) (n : Nat) (p2 : Int32) (p3 : Int32) (p4 : Int32) (hs : Sf_M_readsIt 98 S p2 p3 p4) : z_Run rm_M_readsIt zm_M_readsIt [z_r 78, z_r 98, .inl p2, .inl p3, .inl p4] (zW T' G' S n) (zq (some (.inl (F_M_readsIt 98 S p2 p3 p4))) (zW T' G' S n)) := by
  refine z_body (by decide) zf_M_ok (Nat.le_of_ble_eq_true rfl) (fun X M => ?_)
  obtain ⟨Q, hQ, K⟩ : ∃ Q : Int32 → Prop, (∀ v, Q v → zq (some (.inl (F_M_readsIt 98 S p2 p3 p4))) (zW T' G' S n) (some (.inl v)) (zW T' G' S n)) ∧ Q (F_M_readsIt 98 S p2 p3 p4) := ⟨fun o => F_M_readsIt 98 S p2 p3 p4 = o, fun v h => ⟨by rw [h], rfl⟩, rfl⟩
  show z_G X zm_M_readsIt (0, [(0, z_r 78), (1, z_r 98), (2, .inl p2), (3, .inl p3), (4, .inl p4)], [], zW T' G' S n, 0, 0)
  unfold F_M_readsIt at K
  unfold Sf_M_readsIt at hs
  try simp only [Nat.reduceAdd] at K hs
  refine z_go2 M.1 0 [(.aload_n 0, 1), (.aload_n 1, 1), (.iload_n 2, 1), (.iload_n 3, 1)] (4, [(0, z_r 78), (1, z_r 98), (2, .inl p2), (3, .inl p3), (4, .inl p4)], [.inl p3, .inl p2, z_r 98, z_r 78], zW T' G' S n, 0, 0) (by decide +kernel) rfl ⟨trivial, trivial, trivial, trivial, trivial⟩ ?_
  refine z_callV M.1 (av := [z_r 98, .inl p2, .inl p3]) (st := []) (a := 78) (ci := 14) (by decide +kernel) (c_M_sees_98 T' G' S n p2 p3 hs.1) M.2.1 zl_M_233 zv_M_sees rfl rfl rfl ⟨by decide, by decide, by decide, by decide⟩ rfl (Nat.le_of_ble_eq_true rfl) (fun v w' hv => ?_)
  obtain ⟨rfl, rfl⟩ := hv
  replace hs := hs.2
  show z_G X zm_M_readsIt (7, [(0, z_r 78), (1, z_r 98), (2, .inl p2), (3, .inl p3), (4, .inl p4)], [.inl (F_M_sees 98 S p2 p3)], zW T' G' S n, 0, 0)
  refine z_if_eq 37 M.1 (off := 30) (by decide +kernel) (by decide) (fun c7 => ?_) (fun c7 => ?_)
  · rw [if_pos c7] at K hs
    exact z_lvs (lv' := []) [] rfl (t_M_readsIt_j37_98 M S hQ K)
  · rw [if_neg c7] at K hs
    refine z_go2 M.1 10 [(.aload_n 0, 1), (.aload_n 1, 1), (.iload_n 2, 1), (.aload_n 1, 1), (.getfield 216, 3), (.iload_n 3, 1), (.iaload, 1)] (19, [(0, z_r 78), (1, z_r 98), (2, .inl p2), (3, .inl p3), (4, .inl p4)], [.inl (S 99 (p3).toNatClampNeg), .inl p2, z_r 98, z_r 78], zW T' G' S n, 0, 0) (by decide +kernel) rfl ⟨trivial, trivial, trivial, trivial, rfl, trivial, ⟨rfl, hs.1⟩, trivial⟩ ?_
    replace hs := hs.2
    refine z_callV M.1 (av := [z_r 98, .inl p2, .inl (S 99 (p3).toNatClampNeg)]) (st := []) (a := 78) (ci := 14) (by decide +kernel) (c_M_rolesOf_98 T' G' S n p2 (S 99 (p3).toNatClampNeg) hs.1) M.2.1 zl_M_229 zv_M_rolesOf rfl rfl rfl ⟨by decide, by decide, by decide, by decide⟩ rfl (Nat.le_of_ble_eq_true rfl) (fun v w' hv => ?_)
    obtain ⟨rfl, rfl⟩ := hv
    replace hs := hs.2
    show z_G X zm_M_readsIt (22, [(0, z_r 78), (1, z_r 98), (2, .inl p2), (3, .inl p3), (4, .inl p4)], [.inl (F_M_rolesOf 98 S p2 (S 99 (p3).toNatClampNeg))], zW T' G' S n, 0, 0)
    refine z_go2 M.1 22 [(.aload_n 0, 1), (.getfield 59, 3), (.iload 4, 2), (.iaload, 1), (.iand, 1)] (30, [(0, z_r 78), (1, z_r 98), (2, .inl p2), (3, .inl p3), (4, .inl p4)], [.inl ((F_M_rolesOf 98 S p2 (S 99 (p3).toNatClampNeg)) &&& (S 127 (p4).toNatClampNeg))], zW T' G' S n, 0, 0) (by decide +kernel) rfl ⟨trivial, rfl, trivial, ⟨rfl, hs.1⟩, trivial, trivial⟩ ?_
    replace hs := hs.2
    refine z_if_eq 37 M.1 (off := 7) (by decide +kernel) (by decide) (fun c30 => ?_) (fun c30 => ?_)
    · rw [if_pos c30] at K
      exact z_lvs (lv' := []) [] rfl (t_M_readsIt_j37_98 M S hQ K)
    · rw [if_neg c30] at K
      refine z_go2 M.1 33 [(.iconst 1, 1), (.goto 4, 3)] (38, [(0, z_r 78), (1, z_r 98), (2, .inl p2), (3, .inl p3), (4, .inl p4)], [.inl 1], zW T' G' S n, 0, 0) (by decide +kernel) rfl ⟨trivial, trivial, trivial⟩ ?_
      exact z_iret M (by decide +kernel) .boolean rfl rfl (by decide) (by decide) (hQ _ K)

-- TrackHouseModel.hasField
abbrev rm_M_hasField : Room := zr 0
def F_M_hasField (w : Nat) (S : (Nat → Nat → Int32)) (p2 : Int32) (p3 : Int32) : Int32 := (if (((S 128 (S (w + 2) (p2).toNatClampNeg).toNatClampNeg) >>> (p3 &&& 31)) &&& 1) = 1 then 1 else 0)
def Sf_M_hasField (w : Nat) (S : (Nat → Nat → Int32)) (p2 : Int32) (p3 : Int32) : Prop := ((vp_in p2 30) ∧ ((vp_in (S (w + 2) (p2).toNatClampNeg) 3) ∧ True))
theorem c_M_hasField_86 (T' : Nat → Nat × Nat) (G' : Nat → Nat → Option Nat) (S : (Nat → Nat → Int32)) (n : Nat) (p2 : Int32) (p3 : Int32) (hs : Sf_M_hasField 86 S p2 p3) : z_Run rm_M_hasField zm_M_hasField [z_r 78, z_r 86, .inl p2, .inl p3] (zW T' G' S n) (zq (some (.inl (F_M_hasField 86 S p2 p3))) (zW T' G' S n)) := by
  refine z_body (by decide) zf_M_ok (Nat.le_of_ble_eq_true rfl) (fun X M => ?_)
  obtain ⟨Q, hQ, K⟩ : ∃ Q : Int32 → Prop, (∀ v, Q v → zq (some (.inl (F_M_hasField 86 S p2 p3))) (zW T' G' S n) (some (.inl v)) (zW T' G' S n)) ∧ Q (F_M_hasField 86 S p2 p3) := ⟨fun o => F_M_hasField 86 S p2 p3 = o, fun v h => ⟨by rw [h], rfl⟩, rfl⟩
  show z_G X zm_M_hasField (0, [(0, z_r 78), (1, z_r 86), (2, .inl p2), (3, .inl p3)], [], zW T' G' S n, 0, 0)
  unfold F_M_hasField at K
  unfold Sf_M_hasField at hs
  try simp only [Nat.reduceAdd] at K hs
  refine z_go2 M.1 0 [(.aload_n 0, 1), (.getfield 62, 3), (.aload_n 1, 1), (.getfield 237, 3), (.iload_n 2, 1), (.iaload, 1), (.iaload, 1), (.iload_n 3, 1), (.ishr, 1), (.iconst 1, 1), (.iand, 1), (.iconst 1, 1)] (16, [(0, z_r 78), (1, z_r 86), (2, .inl p2), (3, .inl p3)], [.inl 1, .inl (((S 128 (S 88 (p2).toNatClampNeg).toNatClampNeg) >>> (p3 &&& 31)) &&& 1)], zW T' G' S n, 0, 0) (by decide +kernel) rfl ⟨trivial, rfl, trivial, rfl, trivial, ⟨rfl, hs.1⟩, ⟨rfl, hs.2.1⟩, trivial, trivial, trivial, trivial, trivial, trivial⟩ ?_
  replace hs := hs.2.2
  refine z_icmp_ne 23 M.1 (off := 7) (by decide +kernel) (by decide) (fun c16 => ?_) (fun c16 => ?_)
  · rw [if_neg c16] at K
    refine z_go2 M.1 23 [(.iconst 0, 1)] (24, [(0, z_r 78), (1, z_r 86), (2, .inl p2), (3, .inl p3)], [.inl 0], zW T' G' S n, 0, 0) (by decide +kernel) rfl ⟨trivial, trivial⟩ ?_
    exact z_iret M (by decide +kernel) .boolean rfl rfl (by decide) (by decide) (hQ _ K)
  · rw [if_pos c16] at K
    refine z_go2 M.1 19 [(.iconst 1, 1), (.goto 4, 3)] (24, [(0, z_r 78), (1, z_r 86), (2, .inl p2), (3, .inl p3)], [.inl 1], zW T' G' S n, 0, 0) (by decide +kernel) rfl ⟨trivial, trivial, trivial⟩ ?_
    exact z_iret M (by decide +kernel) .boolean rfl rfl (by decide) (by decide) (hQ _ K)
theorem c_M_hasField_98 (T' : Nat → Nat × Nat) (G' : Nat → Nat → Option Nat) (S : (Nat → Nat → Int32)) (n : Nat) (p2 : Int32) (p3 : Int32) (hs : Sf_M_hasField 98 S p2 p3) : z_Run rm_M_hasField zm_M_hasField [z_r 78, z_r 98, .inl p2, .inl p3] (zW T' G' S n) (zq (some (.inl (F_M_hasField 98 S p2 p3))) (zW T' G' S n)) := by
  refine z_body (by decide) zf_M_ok (Nat.le_of_ble_eq_true rfl) (fun X M => ?_)
  obtain ⟨Q, hQ, K⟩ : ∃ Q : Int32 → Prop, (∀ v, Q v → zq (some (.inl (F_M_hasField 98 S p2 p3))) (zW T' G' S n) (some (.inl v)) (zW T' G' S n)) ∧ Q (F_M_hasField 98 S p2 p3) := ⟨fun o => F_M_hasField 98 S p2 p3 = o, fun v h => ⟨by rw [h], rfl⟩, rfl⟩
  show z_G X zm_M_hasField (0, [(0, z_r 78), (1, z_r 98), (2, .inl p2), (3, .inl p3)], [], zW T' G' S n, 0, 0)
  unfold F_M_hasField at K
  unfold Sf_M_hasField at hs
  try simp only [Nat.reduceAdd] at K hs
  refine z_go2 M.1 0 [(.aload_n 0, 1), (.getfield 62, 3), (.aload_n 1, 1), (.getfield 237, 3), (.iload_n 2, 1), (.iaload, 1), (.iaload, 1), (.iload_n 3, 1), (.ishr, 1), (.iconst 1, 1), (.iand, 1), (.iconst 1, 1)] (16, [(0, z_r 78), (1, z_r 98), (2, .inl p2), (3, .inl p3)], [.inl 1, .inl (((S 128 (S 100 (p2).toNatClampNeg).toNatClampNeg) >>> (p3 &&& 31)) &&& 1)], zW T' G' S n, 0, 0) (by decide +kernel) rfl ⟨trivial, rfl, trivial, rfl, trivial, ⟨rfl, hs.1⟩, ⟨rfl, hs.2.1⟩, trivial, trivial, trivial, trivial, trivial, trivial⟩ ?_
  replace hs := hs.2.2
  refine z_icmp_ne 23 M.1 (off := 7) (by decide +kernel) (by decide) (fun c16 => ?_) (fun c16 => ?_)
  · rw [if_neg c16] at K
    refine z_go2 M.1 23 [(.iconst 0, 1)] (24, [(0, z_r 78), (1, z_r 98), (2, .inl p2), (3, .inl p3)], [.inl 0], zW T' G' S n, 0, 0) (by decide +kernel) rfl ⟨trivial, trivial⟩ ?_
    exact z_iret M (by decide +kernel) .boolean rfl rfl (by decide) (by decide) (hQ _ K)
  · rw [if_pos c16] at K
    refine z_go2 M.1 19 [(.iconst 1, 1), (.goto 4, 3)] (24, [(0, z_r 78), (1, z_r 98), (2, .inl p2), (3, .inl p3)], [.inl 1], zW T' G' S n, 0, 0) (by decide +kernel) rfl ⟨trivial, trivial, trivial⟩ ?_
    exact z_iret M (by decide +kernel) .boolean rfl rfl (by decide) (by decide) (hQ _ K)
theorem c_M_hasField_110 (T' : Nat → Nat × Nat) (G' : Nat → Nat → Option Nat) (S : (Nat → Nat → Int32)) (n : Nat) (p2 : Int32) (p3 : Int32) (hs : Sf_M_hasField 110 S p2 p3) : z_Run rm_M_hasField zm_M_hasField [z_r 78, z_r 110, .inl p2, .inl p3] (zW T' G' S n) (zq (some (.inl (F_M_hasField 110 S p2 p3))) (zW T' G' S n)) := by
  refine z_body (by decide) zf_M_ok (Nat.le_of_ble_eq_true rfl) (fun X M => ?_)
  obtain ⟨Q, hQ, K⟩ : ∃ Q : Int32 → Prop, (∀ v, Q v → zq (some (.inl (F_M_hasField 110 S p2 p3))) (zW T' G' S n) (some (.inl v)) (zW T' G' S n)) ∧ Q (F_M_hasField 110 S p2 p3) := ⟨fun o => F_M_hasField 110 S p2 p3 = o, fun v h => ⟨by rw [h], rfl⟩, rfl⟩
  show z_G X zm_M_hasField (0, [(0, z_r 78), (1, z_r 110), (2, .inl p2), (3, .inl p3)], [], zW T' G' S n, 0, 0)
  unfold F_M_hasField at K
  unfold Sf_M_hasField at hs
  try simp only [Nat.reduceAdd] at K hs
  refine z_go2 M.1 0 [(.aload_n 0, 1), (.getfield 62, 3), (.aload_n 1, 1), (.getfield 237, 3), (.iload_n 2, 1), (.iaload, 1), (.iaload, 1), (.iload_n 3, 1), (.ishr, 1), (.iconst 1, 1), (.iand, 1), (.iconst 1, 1)] (16, [(0, z_r 78), (1, z_r 110), (2, .inl p2), (3, .inl p3)], [.inl 1, .inl (((S 128 (S 112 (p2).toNatClampNeg).toNatClampNeg) >>> (p3 &&& 31)) &&& 1)], zW T' G' S n, 0, 0) (by decide +kernel) rfl ⟨trivial, rfl, trivial, rfl, trivial, ⟨rfl, hs.1⟩, ⟨rfl, hs.2.1⟩, trivial, trivial, trivial, trivial, trivial, trivial⟩ ?_
  replace hs := hs.2.2
  refine z_icmp_ne 23 M.1 (off := 7) (by decide +kernel) (by decide) (fun c16 => ?_) (fun c16 => ?_)
  · rw [if_neg c16] at K
    refine z_go2 M.1 23 [(.iconst 0, 1)] (24, [(0, z_r 78), (1, z_r 110), (2, .inl p2), (3, .inl p3)], [.inl 0], zW T' G' S n, 0, 0) (by decide +kernel) rfl ⟨trivial, trivial⟩ ?_
    exact z_iret M (by decide +kernel) .boolean rfl rfl (by decide) (by decide) (hQ _ K)
  · rw [if_pos c16] at K
    refine z_go2 M.1 19 [(.iconst 1, 1), (.goto 4, 3)] (24, [(0, z_r 78), (1, z_r 110), (2, .inl p2), (3, .inl p3)], [.inl 1], zW T' G' S n, 0, 0) (by decide +kernel) rfl ⟨trivial, trivial, trivial⟩ ?_
    exact z_iret M (by decide +kernel) .boolean rfl rfl (by decide) (by decide) (hQ _ K)

-- TrackHouseModel.valueOf
abbrev rm_M_valueOf : Room := zr 1
def F_M_valueOf (w : Nat) (S : (Nat → Nat → Int32)) (p2 : Int32) (p3 : Int32) : Int32 := (if (F_M_hasField w S p2 p3) = 0 then (-1) else (S (w + 4) (((3 : Int32) * p2) + p3).toNatClampNeg))
def Sf_M_valueOf (w : Nat) (S : (Nat → Nat → Int32)) (p2 : Int32) (p3 : Int32) : Prop := (Sf_M_hasField w S p2 p3 ∧ (if (F_M_hasField w S p2 p3) = 0 then True else ((vp_in (((3 : Int32) * p2) + p3) 90) ∧ True)))
theorem c_M_valueOf_86 (T' : Nat → Nat × Nat) (G' : Nat → Nat → Option Nat) (S : (Nat → Nat → Int32)) (n : Nat) (p2 : Int32) (p3 : Int32) (hs : Sf_M_valueOf 86 S p2 p3) : z_Run rm_M_valueOf zm_M_valueOf [z_r 78, z_r 86, .inl p2, .inl p3] (zW T' G' S n) (zq (some (.inl (F_M_valueOf 86 S p2 p3))) (zW T' G' S n)) := by
  refine z_body (by decide) zf_M_ok (Nat.le_of_ble_eq_true rfl) (fun X M => ?_)
  obtain ⟨Q, hQ, K⟩ : ∃ Q : Int32 → Prop, (∀ v, Q v → zq (some (.inl (F_M_valueOf 86 S p2 p3))) (zW T' G' S n) (some (.inl v)) (zW T' G' S n)) ∧ Q (F_M_valueOf 86 S p2 p3) := ⟨fun o => F_M_valueOf 86 S p2 p3 = o, fun v h => ⟨by rw [h], rfl⟩, rfl⟩
  show z_G X zm_M_valueOf (0, [(0, z_r 78), (1, z_r 86), (2, .inl p2), (3, .inl p3)], [], zW T' G' S n, 0, 0)
  unfold F_M_valueOf at K
  unfold Sf_M_valueOf at hs
  try simp only [Nat.reduceAdd] at K hs
  refine z_go2 M.1 0 [(.aload_n 0, 1), (.aload_n 1, 1), (.iload_n 2, 1), (.iload_n 3, 1)] (4, [(0, z_r 78), (1, z_r 86), (2, .inl p2), (3, .inl p3)], [.inl p3, .inl p2, z_r 86, z_r 78], zW T' G' S n, 0, 0) (by decide +kernel) rfl ⟨trivial, trivial, trivial, trivial, trivial⟩ ?_
  refine z_callV M.1 (av := [z_r 86, .inl p2, .inl p3]) (st := []) (a := 78) (ci := 14) (by decide +kernel) (c_M_hasField_86 T' G' S n p2 p3 hs.1) M.2.1 zl_M_240 zv_M_hasField rfl rfl rfl ⟨by decide, by decide, by decide, by decide⟩ rfl (Nat.le_of_ble_eq_true rfl) (fun v w' hv => ?_)
  obtain ⟨rfl, rfl⟩ := hv
  replace hs := hs.2
  show z_G X zm_M_valueOf (7, [(0, z_r 78), (1, z_r 86), (2, .inl p2), (3, .inl p3)], [.inl (F_M_hasField 86 S p2 p3)], zW T' G' S n, 0, 0)
  refine z_if_eq 23 M.1 (off := 16) (by decide +kernel) (by decide) (fun c7 => ?_) (fun c7 => ?_)
  · rw [if_pos c7] at K hs
    refine z_go2 M.1 23 [(.iconst (-1), 1)] (24, [(0, z_r 78), (1, z_r 86), (2, .inl p2), (3, .inl p3)], [.inl (-1)], zW T' G' S n, 0, 0) (by decide +kernel) rfl ⟨trivial, trivial⟩ ?_
    exact z_iret M (by decide +kernel) .int rfl rfl (by decide) (by decide) (hQ _ K)
  · rw [if_neg c7] at K hs
    refine z_go2 M.1 10 [(.aload_n 1, 1), (.getfield 201, 3), (.iconst 3, 1), (.iload_n 2, 1), (.imul, 1), (.iload_n 3, 1), (.iadd, 1), (.iaload, 1), (.goto 4, 3)] (24, [(0, z_r 78), (1, z_r 86), (2, .inl p2), (3, .inl p3)], [.inl (S 90 (((3 : Int32) * p2) + p3).toNatClampNeg)], zW T' G' S n, 0, 0) (by decide +kernel) rfl ⟨trivial, rfl, trivial, trivial, trivial, trivial, trivial, ⟨rfl, hs.1⟩, trivial, trivial⟩ ?_
    replace hs := hs.2
    exact z_iret M (by decide +kernel) .int rfl rfl (by decide) (by decide) (hQ _ K)
theorem c_M_valueOf_98 (T' : Nat → Nat × Nat) (G' : Nat → Nat → Option Nat) (S : (Nat → Nat → Int32)) (n : Nat) (p2 : Int32) (p3 : Int32) (hs : Sf_M_valueOf 98 S p2 p3) : z_Run rm_M_valueOf zm_M_valueOf [z_r 78, z_r 98, .inl p2, .inl p3] (zW T' G' S n) (zq (some (.inl (F_M_valueOf 98 S p2 p3))) (zW T' G' S n)) := by
  refine z_body (by decide) zf_M_ok (Nat.le_of_ble_eq_true rfl) (fun X M => ?_)
  obtain ⟨Q, hQ, K⟩ : ∃ Q : Int32 → Prop, (∀ v, Q v → zq (some (.inl (F_M_valueOf 98 S p2 p3))) (zW T' G' S n) (some (.inl v)) (zW T' G' S n)) ∧ Q (F_M_valueOf 98 S p2 p3) := ⟨fun o => F_M_valueOf 98 S p2 p3 = o, fun v h => ⟨by rw [h], rfl⟩, rfl⟩
  show z_G X zm_M_valueOf (0, [(0, z_r 78), (1, z_r 98), (2, .inl p2), (3, .inl p3)], [], zW T' G' S n, 0, 0)
  unfold F_M_valueOf at K
  unfold Sf_M_valueOf at hs
  try simp only [Nat.reduceAdd] at K hs
  refine z_go2 M.1 0 [(.aload_n 0, 1), (.aload_n 1, 1), (.iload_n 2, 1), (.iload_n 3, 1)] (4, [(0, z_r 78), (1, z_r 98), (2, .inl p2), (3, .inl p3)], [.inl p3, .inl p2, z_r 98, z_r 78], zW T' G' S n, 0, 0) (by decide +kernel) rfl ⟨trivial, trivial, trivial, trivial, trivial⟩ ?_
  refine z_callV M.1 (av := [z_r 98, .inl p2, .inl p3]) (st := []) (a := 78) (ci := 14) (by decide +kernel) (c_M_hasField_98 T' G' S n p2 p3 hs.1) M.2.1 zl_M_240 zv_M_hasField rfl rfl rfl ⟨by decide, by decide, by decide, by decide⟩ rfl (Nat.le_of_ble_eq_true rfl) (fun v w' hv => ?_)
  obtain ⟨rfl, rfl⟩ := hv
  replace hs := hs.2
  show z_G X zm_M_valueOf (7, [(0, z_r 78), (1, z_r 98), (2, .inl p2), (3, .inl p3)], [.inl (F_M_hasField 98 S p2 p3)], zW T' G' S n, 0, 0)
  refine z_if_eq 23 M.1 (off := 16) (by decide +kernel) (by decide) (fun c7 => ?_) (fun c7 => ?_)
  · rw [if_pos c7] at K hs
    refine z_go2 M.1 23 [(.iconst (-1), 1)] (24, [(0, z_r 78), (1, z_r 98), (2, .inl p2), (3, .inl p3)], [.inl (-1)], zW T' G' S n, 0, 0) (by decide +kernel) rfl ⟨trivial, trivial⟩ ?_
    exact z_iret M (by decide +kernel) .int rfl rfl (by decide) (by decide) (hQ _ K)
  · rw [if_neg c7] at K hs
    refine z_go2 M.1 10 [(.aload_n 1, 1), (.getfield 201, 3), (.iconst 3, 1), (.iload_n 2, 1), (.imul, 1), (.iload_n 3, 1), (.iadd, 1), (.iaload, 1), (.goto 4, 3)] (24, [(0, z_r 78), (1, z_r 98), (2, .inl p2), (3, .inl p3)], [.inl (S 102 (((3 : Int32) * p2) + p3).toNatClampNeg)], zW T' G' S n, 0, 0) (by decide +kernel) rfl ⟨trivial, rfl, trivial, trivial, trivial, trivial, trivial, ⟨rfl, hs.1⟩, trivial, trivial⟩ ?_
    replace hs := hs.2
    exact z_iret M (by decide +kernel) .int rfl rfl (by decide) (by decide) (hQ _ K)
theorem c_M_valueOf_110 (T' : Nat → Nat × Nat) (G' : Nat → Nat → Option Nat) (S : (Nat → Nat → Int32)) (n : Nat) (p2 : Int32) (p3 : Int32) (hs : Sf_M_valueOf 110 S p2 p3) : z_Run rm_M_valueOf zm_M_valueOf [z_r 78, z_r 110, .inl p2, .inl p3] (zW T' G' S n) (zq (some (.inl (F_M_valueOf 110 S p2 p3))) (zW T' G' S n)) := by
  refine z_body (by decide) zf_M_ok (Nat.le_of_ble_eq_true rfl) (fun X M => ?_)
  obtain ⟨Q, hQ, K⟩ : ∃ Q : Int32 → Prop, (∀ v, Q v → zq (some (.inl (F_M_valueOf 110 S p2 p3))) (zW T' G' S n) (some (.inl v)) (zW T' G' S n)) ∧ Q (F_M_valueOf 110 S p2 p3) := ⟨fun o => F_M_valueOf 110 S p2 p3 = o, fun v h => ⟨by rw [h], rfl⟩, rfl⟩
  show z_G X zm_M_valueOf (0, [(0, z_r 78), (1, z_r 110), (2, .inl p2), (3, .inl p3)], [], zW T' G' S n, 0, 0)
  unfold F_M_valueOf at K
  unfold Sf_M_valueOf at hs
  try simp only [Nat.reduceAdd] at K hs
  refine z_go2 M.1 0 [(.aload_n 0, 1), (.aload_n 1, 1), (.iload_n 2, 1), (.iload_n 3, 1)] (4, [(0, z_r 78), (1, z_r 110), (2, .inl p2), (3, .inl p3)], [.inl p3, .inl p2, z_r 110, z_r 78], zW T' G' S n, 0, 0) (by decide +kernel) rfl ⟨trivial, trivial, trivial, trivial, trivial⟩ ?_
  refine z_callV M.1 (av := [z_r 110, .inl p2, .inl p3]) (st := []) (a := 78) (ci := 14) (by decide +kernel) (c_M_hasField_110 T' G' S n p2 p3 hs.1) M.2.1 zl_M_240 zv_M_hasField rfl rfl rfl ⟨by decide, by decide, by decide, by decide⟩ rfl (Nat.le_of_ble_eq_true rfl) (fun v w' hv => ?_)
  obtain ⟨rfl, rfl⟩ := hv
  replace hs := hs.2
  show z_G X zm_M_valueOf (7, [(0, z_r 78), (1, z_r 110), (2, .inl p2), (3, .inl p3)], [.inl (F_M_hasField 110 S p2 p3)], zW T' G' S n, 0, 0)
  refine z_if_eq 23 M.1 (off := 16) (by decide +kernel) (by decide) (fun c7 => ?_) (fun c7 => ?_)
  · rw [if_pos c7] at K hs
    refine z_go2 M.1 23 [(.iconst (-1), 1)] (24, [(0, z_r 78), (1, z_r 110), (2, .inl p2), (3, .inl p3)], [.inl (-1)], zW T' G' S n, 0, 0) (by decide +kernel) rfl ⟨trivial, trivial⟩ ?_
    exact z_iret M (by decide +kernel) .int rfl rfl (by decide) (by decide) (hQ _ K)
  · rw [if_neg c7] at K hs
    refine z_go2 M.1 10 [(.aload_n 1, 1), (.getfield 201, 3), (.iconst 3, 1), (.iload_n 2, 1), (.imul, 1), (.iload_n 3, 1), (.iadd, 1), (.iaload, 1), (.goto 4, 3)] (24, [(0, z_r 78), (1, z_r 110), (2, .inl p2), (3, .inl p3)], [.inl (S 114 (((3 : Int32) * p2) + p3).toNatClampNeg)], zW T' G' S n, 0, 0) (by decide +kernel) rfl ⟨trivial, rfl, trivial, trivial, trivial, trivial, trivial, ⟨rfl, hs.1⟩, trivial, trivial⟩ ?_
    replace hs := hs.2
    exact z_iret M (by decide +kernel) .int rfl rfl (by decide) (by decide) (hQ _ K)

-- TrackHouseModel.computed
abbrev rm_M_computed : Room := zr 3
def F_M_computed_l43_165 (w : Nat) (rc : Int32 → Int32 → Int32 → Int32 → Int32 → (Int32 × Int32 × Int32 × Int32)) (S : (Nat → Nat → Int32)) (x2 : Int32) (x3 : Int32) (x4 : Int32) (x5 : Int32) (x6 : Int32) (x7 : Int32) (x9 : Int32) (x10 : Int32) (x11 : Int32) (x12 : Int32) (s0 : Int32) : (Int32 × Int32 × Int32 × Int32) := (if x11 = 0 then (rc x6 x7 s0 x9 (x10 + 1)) else (if x12 ≤ x9 then (rc x6 x7 s0 x9 (x10 + 1)) else (rc x6 x7 s0 x12 (x10 + 1))))
def Sf_M_computed_l43_165 (w : Nat) (rc : Int32 → Int32 → Int32 → Int32 → Int32 → (Int32 × Int32 × Int32 × Int32)) (sr : Int32 → Int32 → Int32 → Int32 → Int32 → Prop) (S : (Nat → Nat → Int32)) (x2 : Int32) (x3 : Int32) (x4 : Int32) (x5 : Int32) (x6 : Int32) (x7 : Int32) (x9 : Int32) (x10 : Int32) (x11 : Int32) (x12 : Int32) (s0 : Int32) : Prop := (if x11 = 0 then (sr x6 x7 s0 x9 (x10 + 1)) else (if x12 ≤ x9 then (sr x6 x7 s0 x9 (x10 + 1)) else (sr x6 x7 s0 x12 (x10 + 1))))
theorem t_M_computed_l43_165_86 {X : z_X} {Post : Option z_V → z_W → Prop} (M : z_M X zm_M_computed rm_M_computed Post) {T' : Nat → Nat × Nat} {G' : Nat → Nat → Option Nat} {n : Nat} {Q : (Int32 × Int32 × Int32 × Int32) → Prop} (rc : Int32 → Int32 → Int32 → Int32 → Int32 → (Int32 × Int32 × Int32 × Int32)) (sr : Int32 → Int32 → Int32 → Int32 → Int32 → Prop) (S : (Nat → Nat → Int32)) (x2 : Int32) (x3 : Int32) (x4 : Int32) (x5 : Int32) (x6 : Int32) (x7 : Int32) (x9 : Int32) (x10 : Int32) (x11 : Int32) (x12 : Int32) (s0 : Int32) (hE : ∀ (y6 : Int32) (y7 : Int32) (y8 : Int32) (y9 : Int32), Q (y6, y7, y8, y9) → z_G X zm_M_computed (194, [(4, .inl x4), (6, .inl y6), (7, .inl y7), (8, .inl y8), (9, .inl y9)], [], zW T' G' S n, 0, 0)) (hC : ∀ (x6 : Int32) (x7 : Int32) (x8 : Int32) (x9 : Int32) (x10 : Int32), Q (rc x6 x7 x8 x9 x10) → sr x6 x7 x8 x9 x10 → z_G X zm_M_computed (43, [(0, z_r 78), (1, z_r 86), (2, .inl x2), (3, .inl x3), (4, .inl x4), (5, .inl x5), (6, .inl x6), (7, .inl x7), (8, .inl x8), (9, .inl x9), (10, .inl x10)], [], zW T' G' S n, 0, 0)) (K : Q (F_M_computed_l43_165 86 rc S x2 x3 x4 x5 x6 x7 x9 x10 x11 x12 s0)) (hs : Sf_M_computed_l43_165 86 rc sr S x2 x3 x4 x5 x6 x7 x9 x10 x11 x12 s0) : z_G X zm_M_computed (165, [(0, z_r 78), (1, z_r 86), (2, .inl x2), (3, .inl x3), (4, .inl x4), (5, .inl x5), (6, .inl x6), (7, .inl x7), (9, .inl x9), (10, .inl x10), (11, .inl x11), (12, .inl x12)], [.inl s0], zW T' G' S n, 0, 0) := by
  unfold F_M_computed_l43_165 at K
  unfold Sf_M_computed_l43_165 at hs
  try simp only [Nat.reduceAdd] at K hs
  refine z_go2 M.1 165 [(.istore 8, 2), (.iload 11, 2)] (169, [(8, .inl s0), (0, z_r 78), (1, z_r 86), (2, .inl x2), (3, .inl x3), (4, .inl x4), (5, .inl x5), (6, .inl x6), (7, .inl x7), (9, .inl x9), (10, .inl x10), (11, .inl x11), (12, .inl x12)], [.inl x11], zW T' G' S n, 0, 0) (by decide +kernel) rfl ⟨trivial, trivial, trivial⟩ ?_
  refine z_if_eq 184 M.1 (off := 15) (by decide +kernel) (by decide) (fun c169 => ?_) (fun c169 => ?_)
  · rw [if_pos c169] at K hs
    refine z_go2 M.1 184 [(.iload 9, 2), (.istore 9, 2), (.iinc 10 1, 3), (.goto (-148), 3)] (43, [(10, .inl (x10 + 1)), (9, .inl x9), (8, .inl s0), (0, z_r 78), (1, z_r 86), (2, .inl x2), (3, .inl x3), (4, .inl x4), (5, .inl x5), (6, .inl x6), (7, .inl x7), (11, .inl x11), (12, .inl x12)], [], zW T' G' S n, 0, 0) (by decide +kernel) rfl ⟨trivial, trivial, trivial, trivial, trivial⟩ ?_
    exact z_lvs (lv' := [(0, z_r 78), (1, z_r 86), (2, .inl x2), (3, .inl x3), (4, .inl x4), (5, .inl x5), (6, .inl x6), (7, .inl x7), (8, .inl s0), (9, .inl x9), (10, .inl (x10 + 1))]) [3, 4, 5, 6, 7, 8, 9, 10, 2, 1, 0] rfl (hC x6 x7 s0 x9 (x10 + 1) K hs)
  · rw [if_neg c169] at K hs
    refine z_go2 M.1 172 [(.iload 12, 2), (.iload 9, 2)] (176, [(8, .inl s0), (0, z_r 78), (1, z_r 86), (2, .inl x2), (3, .inl x3), (4, .inl x4), (5, .inl x5), (6, .inl x6), (7, .inl x7), (9, .inl x9), (10, .inl x10), (11, .inl x11), (12, .inl x12)], [.inl x9, .inl x12], zW T' G' S n, 0, 0) (by decide +kernel) rfl ⟨trivial, trivial, trivial⟩ ?_
    refine z_icmp_le 184 M.1 (off := 8) (by decide +kernel) (by decide) (fun c176 => ?_) (fun c176 => ?_)
    · rw [if_pos c176] at K hs
      refine z_go2 M.1 184 [(.iload 9, 2), (.istore 9, 2), (.iinc 10 1, 3), (.goto (-148), 3)] (43, [(10, .inl (x10 + 1)), (9, .inl x9), (8, .inl s0), (0, z_r 78), (1, z_r 86), (2, .inl x2), (3, .inl x3), (4, .inl x4), (5, .inl x5), (6, .inl x6), (7, .inl x7), (11, .inl x11), (12, .inl x12)], [], zW T' G' S n, 0, 0) (by decide +kernel) rfl ⟨trivial, trivial, trivial, trivial, trivial⟩ ?_
      exact z_lvs (lv' := [(0, z_r 78), (1, z_r 86), (2, .inl x2), (3, .inl x3), (4, .inl x4), (5, .inl x5), (6, .inl x6), (7, .inl x7), (8, .inl s0), (9, .inl x9), (10, .inl (x10 + 1))]) [3, 4, 5, 6, 7, 8, 9, 10, 2, 1, 0] rfl (hC x6 x7 s0 x9 (x10 + 1) K hs)
    · rw [if_neg c176] at K hs
      refine z_go2 M.1 179 [(.iload 12, 2), (.goto 5, 3), (.istore 9, 2), (.iinc 10 1, 3), (.goto (-148), 3)] (43, [(10, .inl (x10 + 1)), (9, .inl x12), (8, .inl s0), (0, z_r 78), (1, z_r 86), (2, .inl x2), (3, .inl x3), (4, .inl x4), (5, .inl x5), (6, .inl x6), (7, .inl x7), (11, .inl x11), (12, .inl x12)], [], zW T' G' S n, 0, 0) (by decide +kernel) rfl ⟨trivial, trivial, trivial, trivial, trivial, trivial⟩ ?_
      exact z_lvs (lv' := [(0, z_r 78), (1, z_r 86), (2, .inl x2), (3, .inl x3), (4, .inl x4), (5, .inl x5), (6, .inl x6), (7, .inl x7), (8, .inl s0), (9, .inl x12), (10, .inl (x10 + 1))]) [3, 4, 5, 6, 7, 8, 9, 10, 2, 1, 0] rfl (hC x6 x7 s0 x12 (x10 + 1) K hs)
theorem t_M_computed_l43_165_98 {X : z_X} {Post : Option z_V → z_W → Prop} (M : z_M X zm_M_computed rm_M_computed Post) {T' : Nat → Nat × Nat} {G' : Nat → Nat → Option Nat} {n : Nat} {Q : (Int32 × Int32 × Int32 × Int32) → Prop} (rc : Int32 → Int32 → Int32 → Int32 → Int32 → (Int32 × Int32 × Int32 × Int32)) (sr : Int32 → Int32 → Int32 → Int32 → Int32 → Prop) (S : (Nat → Nat → Int32)) (x2 : Int32) (x3 : Int32) (x4 : Int32) (x5 : Int32) (x6 : Int32) (x7 : Int32) (x9 : Int32) (x10 : Int32) (x11 : Int32) (x12 : Int32) (s0 : Int32) (hE : ∀ (y6 : Int32) (y7 : Int32) (y8 : Int32) (y9 : Int32), Q (y6, y7, y8, y9) → z_G X zm_M_computed (194, [(4, .inl x4), (6, .inl y6), (7, .inl y7), (8, .inl y8), (9, .inl y9)], [], zW T' G' S n, 0, 0)) (hC : ∀ (x6 : Int32) (x7 : Int32) (x8 : Int32) (x9 : Int32) (x10 : Int32), Q (rc x6 x7 x8 x9 x10) → sr x6 x7 x8 x9 x10 → z_G X zm_M_computed (43, [(0, z_r 78), (1, z_r 98), (2, .inl x2), (3, .inl x3), (4, .inl x4), (5, .inl x5), (6, .inl x6), (7, .inl x7), (8, .inl x8), (9, .inl x9), (10, .inl x10)], [], zW T' G' S n, 0, 0)) (K : Q (F_M_computed_l43_165 98 rc S x2 x3 x4 x5 x6 x7 x9 x10 x11 x12 s0)) (hs : Sf_M_computed_l43_165 98 rc sr S x2 x3 x4 x5 x6 x7 x9 x10 x11 x12 s0) : z_G X zm_M_computed (165, [(0, z_r 78), (1, z_r 98), (2, .inl x2), (3, .inl x3), (4, .inl x4), (5, .inl x5), (6, .inl x6), (7, .inl x7), (9, .inl x9), (10, .inl x10), (11, .inl x11), (12, .inl x12)], [.inl s0], zW T' G' S n, 0, 0) := by
  unfold F_M_computed_l43_165 at K
  unfold Sf_M_computed_l43_165 at hs
  try simp only [Nat.reduceAdd] at K hs
  refine z_go2 M.1 165 [(.istore 8, 2), (.iload 11, 2)] (169, [(8, .inl s0), (0, z_r 78), (1, z_r 98), (2, .inl x2), (3, .inl x3), (4, .inl x4), (5, .inl x5), (6, .inl x6), (7, .inl x7), (9, .inl x9), (10, .inl x10), (11, .inl x11), (12, .inl x12)], [.inl x11], zW T' G' S n, 0, 0) (by decide +kernel) rfl ⟨trivial, trivial, trivial⟩ ?_
  refine z_if_eq 184 M.1 (off := 15) (by decide +kernel) (by decide) (fun c169 => ?_) (fun c169 => ?_)
  · rw [if_pos c169] at K hs
    refine z_go2 M.1 184 [(.iload 9, 2), (.istore 9, 2), (.iinc 10 1, 3), (.goto (-148), 3)] (43, [(10, .inl (x10 + 1)), (9, .inl x9), (8, .inl s0), (0, z_r 78), (1, z_r 98), (2, .inl x2), (3, .inl x3), (4, .inl x4), (5, .inl x5), (6, .inl x6), (7, .inl x7), (11, .inl x11), (12, .inl x12)], [], zW T' G' S n, 0, 0) (by decide +kernel) rfl ⟨trivial, trivial, trivial, trivial, trivial⟩ ?_
    exact z_lvs (lv' := [(0, z_r 78), (1, z_r 98), (2, .inl x2), (3, .inl x3), (4, .inl x4), (5, .inl x5), (6, .inl x6), (7, .inl x7), (8, .inl s0), (9, .inl x9), (10, .inl (x10 + 1))]) [3, 4, 5, 6, 7, 8, 9, 10, 2, 1, 0] rfl (hC x6 x7 s0 x9 (x10 + 1) K hs)
  · rw [if_neg c169] at K hs
    refine z_go2 M.1 172 [(.iload 12, 2), (.iload 9, 2)] (176, [(8, .inl s0), (0, z_r 78), (1, z_r 98), (2, .inl x2), (3, .inl x3), (4, .inl x4), (5, .inl x5), (6, .inl x6), (7, .inl x7), (9, .inl x9), (10, .inl x10), (11, .inl x11), (12, .inl x12)], [.inl x9, .inl x12], zW T' G' S n, 0, 0) (by decide +kernel) rfl ⟨trivial, trivial, trivial⟩ ?_
    refine z_icmp_le 184 M.1 (off := 8) (by decide +kernel) (by decide) (fun c176 => ?_) (fun c176 => ?_)
    · rw [if_pos c176] at K hs
      refine z_go2 M.1 184 [(.iload 9, 2), (.istore 9, 2), (.iinc 10 1, 3), (.goto (-148), 3)] (43, [(10, .inl (x10 + 1)), (9, .inl x9), (8, .inl s0), (0, z_r 78), (1, z_r 98), (2, .inl x2), (3, .inl x3), (4, .inl x4), (5, .inl x5), (6, .inl x6), (7, .inl x7), (11, .inl x11), (12, .inl x12)], [], zW T' G' S n, 0, 0) (by decide +kernel) rfl ⟨trivial, trivial, trivial, trivial, trivial⟩ ?_
      exact z_lvs (lv' := [(0, z_r 78), (1, z_r 98), (2, .inl x2), (3, .inl x3), (4, .inl x4), (5, .inl x5), (6, .inl x6), (7, .inl x7), (8, .inl s0), (9, .inl x9), (10, .inl (x10 + 1))]) [3, 4, 5, 6, 7, 8, 9, 10, 2, 1, 0] rfl (hC x6 x7 s0 x9 (x10 + 1) K hs)
    · rw [if_neg c176] at K hs
      refine z_go2 M.1 179 [(.iload 12, 2), (.goto 5, 3), (.istore 9, 2), (.iinc 10 1, 3), (.goto (-148), 3)] (43, [(10, .inl (x10 + 1)), (9, .inl x12), (8, .inl s0), (0, z_r 78), (1, z_r 98), (2, .inl x2), (3, .inl x3), (4, .inl x4), (5, .inl x5), (6, .inl x6), (7, .inl x7), (11, .inl x11), (12, .inl x12)], [], zW T' G' S n, 0, 0) (by decide +kernel) rfl ⟨trivial, trivial, trivial, trivial, trivial, trivial⟩ ?_
      exact z_lvs (lv' := [(0, z_r 78), (1, z_r 98), (2, .inl x2), (3, .inl x3), (4, .inl x4), (5, .inl x5), (6, .inl x6), (7, .inl x7), (8, .inl s0), (9, .inl x12), (10, .inl (x10 + 1))]) [3, 4, 5, 6, 7, 8, 9, 10, 2, 1, 0] rfl (hC x6 x7 s0 x12 (x10 + 1) K hs)
def F_M_computed_l43_163 (w : Nat) (rc : Int32 → Int32 → Int32 → Int32 → Int32 → (Int32 × Int32 × Int32 × Int32)) (S : (Nat → Nat → Int32)) (x2 : Int32) (x3 : Int32) (x4 : Int32) (x5 : Int32) (x6 : Int32) (x7 : Int32) (x8 : Int32) (x9 : Int32) (x10 : Int32) (x11 : Int32) (x12 : Int32) : (Int32 × Int32 × Int32 × Int32) := (F_M_computed_l43_165 w rc S x2 x3 x4 x5 x6 x7 x9 x10 x11 x12 x8)
def Sf_M_computed_l43_163 (w : Nat) (rc : Int32 → Int32 → Int32 → Int32 → Int32 → (Int32 × Int32 × Int32 × Int32)) (sr : Int32 → Int32 → Int32 → Int32 → Int32 → Prop) (S : (Nat → Nat → Int32)) (x2 : Int32) (x3 : Int32) (x4 : Int32) (x5 : Int32) (x6 : Int32) (x7 : Int32) (x8 : Int32) (x9 : Int32) (x10 : Int32) (x11 : Int32) (x12 : Int32) : Prop := (Sf_M_computed_l43_165 w rc sr S x2 x3 x4 x5 x6 x7 x9 x10 x11 x12 x8)
theorem t_M_computed_l43_163_86 {X : z_X} {Post : Option z_V → z_W → Prop} (M : z_M X zm_M_computed rm_M_computed Post) {T' : Nat → Nat × Nat} {G' : Nat → Nat → Option Nat} {n : Nat} {Q : (Int32 × Int32 × Int32 × Int32) → Prop} (rc : Int32 → Int32 → Int32 → Int32 → Int32 → (Int32 × Int32 × Int32 × Int32)) (sr : Int32 → Int32 → Int32 → Int32 → Int32 → Prop) (S : (Nat → Nat → Int32)) (x2 : Int32) (x3 : Int32) (x4 : Int32) (x5 : Int32) (x6 : Int32) (x7 : Int32) (x8 : Int32) (x9 : Int32) (x10 : Int32) (x11 : Int32) (x12 : Int32) (hE : ∀ (y6 : Int32) (y7 : Int32) (y8 : Int32) (y9 : Int32), Q (y6, y7, y8, y9) → z_G X zm_M_computed (194, [(4, .inl x4), (6, .inl y6), (7, .inl y7), (8, .inl y8), (9, .inl y9)], [], zW T' G' S n, 0, 0)) (hC : ∀ (x6 : Int32) (x7 : Int32) (x8 : Int32) (x9 : Int32) (x10 : Int32), Q (rc x6 x7 x8 x9 x10) → sr x6 x7 x8 x9 x10 → z_G X zm_M_computed (43, [(0, z_r 78), (1, z_r 86), (2, .inl x2), (3, .inl x3), (4, .inl x4), (5, .inl x5), (6, .inl x6), (7, .inl x7), (8, .inl x8), (9, .inl x9), (10, .inl x10)], [], zW T' G' S n, 0, 0)) (K : Q (F_M_computed_l43_163 86 rc S x2 x3 x4 x5 x6 x7 x8 x9 x10 x11 x12)) (hs : Sf_M_computed_l43_163 86 rc sr S x2 x3 x4 x5 x6 x7 x8 x9 x10 x11 x12) : z_G X zm_M_computed (163, [(0, z_r 78), (1, z_r 86), (2, .inl x2), (3, .inl x3), (4, .inl x4), (5, .inl x5), (6, .inl x6), (7, .inl x7), (8, .inl x8), (9, .inl x9), (10, .inl x10), (11, .inl x11), (12, .inl x12)], [], zW T' G' S n, 0, 0) := by
  unfold F_M_computed_l43_163 at K
  unfold Sf_M_computed_l43_163 at hs
  try simp only [Nat.reduceAdd] at K hs
  refine z_go2 M.1 163 [(.iload 8, 2)] (165, [(0, z_r 78), (1, z_r 86), (2, .inl x2), (3, .inl x3), (4, .inl x4), (5, .inl x5), (6, .inl x6), (7, .inl x7), (8, .inl x8), (9, .inl x9), (10, .inl x10), (11, .inl x11), (12, .inl x12)], [.inl x8], zW T' G' S n, 0, 0) (by decide +kernel) rfl ⟨trivial, trivial⟩ ?_
  exact z_lvs (lv' := [(0, z_r 78), (1, z_r 86), (2, .inl x2), (3, .inl x3), (4, .inl x4), (5, .inl x5), (6, .inl x6), (7, .inl x7), (9, .inl x9), (10, .inl x10), (11, .inl x11), (12, .inl x12)]) [0, 1, 2, 3, 4, 5, 6, 7, 9, 10, 11, 12] rfl (t_M_computed_l43_165_86 M rc sr S x2 x3 x4 x5 x6 x7 x9 x10 x11 x12 x8 hE hC K hs)
theorem t_M_computed_l43_163_98 {X : z_X} {Post : Option z_V → z_W → Prop} (M : z_M X zm_M_computed rm_M_computed Post) {T' : Nat → Nat × Nat} {G' : Nat → Nat → Option Nat} {n : Nat} {Q : (Int32 × Int32 × Int32 × Int32) → Prop} (rc : Int32 → Int32 → Int32 → Int32 → Int32 → (Int32 × Int32 × Int32 × Int32)) (sr : Int32 → Int32 → Int32 → Int32 → Int32 → Prop) (S : (Nat → Nat → Int32)) (x2 : Int32) (x3 : Int32) (x4 : Int32) (x5 : Int32) (x6 : Int32) (x7 : Int32) (x8 : Int32) (x9 : Int32) (x10 : Int32) (x11 : Int32) (x12 : Int32) (hE : ∀ (y6 : Int32) (y7 : Int32) (y8 : Int32) (y9 : Int32), Q (y6, y7, y8, y9) → z_G X zm_M_computed (194, [(4, .inl x4), (6, .inl y6), (7, .inl y7), (8, .inl y8), (9, .inl y9)], [], zW T' G' S n, 0, 0)) (hC : ∀ (x6 : Int32) (x7 : Int32) (x8 : Int32) (x9 : Int32) (x10 : Int32), Q (rc x6 x7 x8 x9 x10) → sr x6 x7 x8 x9 x10 → z_G X zm_M_computed (43, [(0, z_r 78), (1, z_r 98), (2, .inl x2), (3, .inl x3), (4, .inl x4), (5, .inl x5), (6, .inl x6), (7, .inl x7), (8, .inl x8), (9, .inl x9), (10, .inl x10)], [], zW T' G' S n, 0, 0)) (K : Q (F_M_computed_l43_163 98 rc S x2 x3 x4 x5 x6 x7 x8 x9 x10 x11 x12)) (hs : Sf_M_computed_l43_163 98 rc sr S x2 x3 x4 x5 x6 x7 x8 x9 x10 x11 x12) : z_G X zm_M_computed (163, [(0, z_r 78), (1, z_r 98), (2, .inl x2), (3, .inl x3), (4, .inl x4), (5, .inl x5), (6, .inl x6), (7, .inl x7), (8, .inl x8), (9, .inl x9), (10, .inl x10), (11, .inl x11), (12, .inl x12)], [], zW T' G' S n, 0, 0) := by
  unfold F_M_computed_l43_163 at K
  unfold Sf_M_computed_l43_163 at hs
  try simp only [Nat.reduceAdd] at K hs
  refine z_go2 M.1 163 [(.iload 8, 2)] (165, [(0, z_r 78), (1, z_r 98), (2, .inl x2), (3, .inl x3), (4, .inl x4), (5, .inl x5), (6, .inl x6), (7, .inl x7), (8, .inl x8), (9, .inl x9), (10, .inl x10), (11, .inl x11), (12, .inl x12)], [.inl x8], zW T' G' S n, 0, 0) (by decide +kernel) rfl ⟨trivial, trivial⟩ ?_
  exact z_lvs (lv' := [(0, z_r 78), (1, z_r 98), (2, .inl x2), (3, .inl x3), (4, .inl x4), (5, .inl x5), (6, .inl x6), (7, .inl x7), (9, .inl x9), (10, .inl x10), (11, .inl x11), (12, .inl x12)]) [0, 1, 2, 3, 4, 5, 6, 7, 9, 10, 11, 12] rfl (t_M_computed_l43_165_98 M rc sr S x2 x3 x4 x5 x6 x7 x9 x10 x11 x12 x8 hE hC K hs)
def F_M_computed_l43_136 (w : Nat) (rc : Int32 → Int32 → Int32 → Int32 → Int32 → (Int32 × Int32 × Int32 × Int32)) (S : (Nat → Nat → Int32)) (x2 : Int32) (x3 : Int32) (x4 : Int32) (x5 : Int32) (x7 : Int32) (x8 : Int32) (x9 : Int32) (x10 : Int32) (x11 : Int32) (x12 : Int32) (s0 : Int32) (s1 : Int32) : (Int32 × Int32 × Int32 × Int32) := (if x11 = 0 then (F_M_computed_l43_163 w rc S x2 x3 x4 x5 (s1 + s0) (x7 + x12) x8 x9 x10 x11 x12) else (if x8 ≤ x12 then (F_M_computed_l43_163 w rc S x2 x3 x4 x5 (s1 + s0) (x7 + x12) x8 x9 x10 x11 x12) else (F_M_computed_l43_165 w rc S x2 x3 x4 x5 (s1 + s0) (x7 + x12) x9 x10 x11 x12 x12)))
def Sf_M_computed_l43_136 (w : Nat) (rc : Int32 → Int32 → Int32 → Int32 → Int32 → (Int32 × Int32 × Int32 × Int32)) (sr : Int32 → Int32 → Int32 → Int32 → Int32 → Prop) (S : (Nat → Nat → Int32)) (x2 : Int32) (x3 : Int32) (x4 : Int32) (x5 : Int32) (x7 : Int32) (x8 : Int32) (x9 : Int32) (x10 : Int32) (x11 : Int32) (x12 : Int32) (s0 : Int32) (s1 : Int32) : Prop := (if x11 = 0 then (Sf_M_computed_l43_163 w rc sr S x2 x3 x4 x5 (s1 + s0) (x7 + x12) x8 x9 x10 x11 x12) else (if x8 ≤ x12 then (Sf_M_computed_l43_163 w rc sr S x2 x3 x4 x5 (s1 + s0) (x7 + x12) x8 x9 x10 x11 x12) else (Sf_M_computed_l43_165 w rc sr S x2 x3 x4 x5 (s1 + s0) (x7 + x12) x9 x10 x11 x12 x12)))
theorem t_M_computed_l43_136_86 {X : z_X} {Post : Option z_V → z_W → Prop} (M : z_M X zm_M_computed rm_M_computed Post) {T' : Nat → Nat × Nat} {G' : Nat → Nat → Option Nat} {n : Nat} {Q : (Int32 × Int32 × Int32 × Int32) → Prop} (rc : Int32 → Int32 → Int32 → Int32 → Int32 → (Int32 × Int32 × Int32 × Int32)) (sr : Int32 → Int32 → Int32 → Int32 → Int32 → Prop) (S : (Nat → Nat → Int32)) (x2 : Int32) (x3 : Int32) (x4 : Int32) (x5 : Int32) (x7 : Int32) (x8 : Int32) (x9 : Int32) (x10 : Int32) (x11 : Int32) (x12 : Int32) (s0 : Int32) (s1 : Int32) (hE : ∀ (y6 : Int32) (y7 : Int32) (y8 : Int32) (y9 : Int32), Q (y6, y7, y8, y9) → z_G X zm_M_computed (194, [(4, .inl x4), (6, .inl y6), (7, .inl y7), (8, .inl y8), (9, .inl y9)], [], zW T' G' S n, 0, 0)) (hC : ∀ (x6 : Int32) (x7 : Int32) (x8 : Int32) (x9 : Int32) (x10 : Int32), Q (rc x6 x7 x8 x9 x10) → sr x6 x7 x8 x9 x10 → z_G X zm_M_computed (43, [(0, z_r 78), (1, z_r 86), (2, .inl x2), (3, .inl x3), (4, .inl x4), (5, .inl x5), (6, .inl x6), (7, .inl x7), (8, .inl x8), (9, .inl x9), (10, .inl x10)], [], zW T' G' S n, 0, 0)) (K : Q (F_M_computed_l43_136 86 rc S x2 x3 x4 x5 x7 x8 x9 x10 x11 x12 s0 s1)) (hs : Sf_M_computed_l43_136 86 rc sr S x2 x3 x4 x5 x7 x8 x9 x10 x11 x12 s0 s1) : z_G X zm_M_computed (136, [(0, z_r 78), (1, z_r 86), (2, .inl x2), (3, .inl x3), (4, .inl x4), (5, .inl x5), (7, .inl x7), (8, .inl x8), (9, .inl x9), (10, .inl x10), (11, .inl x11), (12, .inl x12)], [.inl s0, .inl s1], zW T' G' S n, 0, 0) := by
  unfold F_M_computed_l43_136 at K
  unfold Sf_M_computed_l43_136 at hs
  try simp only [Nat.reduceAdd] at K hs
  refine z_go2 M.1 136 [(.iadd, 1), (.istore 6, 2), (.iload 7, 2), (.iload 12, 2), (.iadd, 1), (.istore 7, 2), (.iload 11, 2)] (148, [(7, .inl (x7 + x12)), (6, .inl (s1 + s0)), (0, z_r 78), (1, z_r 86), (2, .inl x2), (3, .inl x3), (4, .inl x4), (5, .inl x5), (8, .inl x8), (9, .inl x9), (10, .inl x10), (11, .inl x11), (12, .inl x12)], [.inl x11], zW T' G' S n, 0, 0) (by decide +kernel) rfl ⟨trivial, trivial, trivial, trivial, trivial, trivial, trivial, trivial⟩ ?_
  refine z_if_eq 163 M.1 (off := 15) (by decide +kernel) (by decide) (fun c148 => ?_) (fun c148 => ?_)
  · rw [if_pos c148] at K hs
    exact z_lvs (lv' := [(0, z_r 78), (1, z_r 86), (2, .inl x2), (3, .inl x3), (4, .inl x4), (5, .inl x5), (6, .inl (s1 + s0)), (7, .inl (x7 + x12)), (8, .inl x8), (9, .inl x9), (10, .inl x10), (11, .inl x11), (12, .inl x12)]) [2, 3, 4, 5, 6, 7, 1, 0, 8, 9, 10, 11, 12] rfl (t_M_computed_l43_163_86 M rc sr S x2 x3 x4 x5 (s1 + s0) (x7 + x12) x8 x9 x10 x11 x12 hE hC K hs)
  · rw [if_neg c148] at K hs
    refine z_go2 M.1 151 [(.iload 12, 2), (.iload 8, 2)] (155, [(7, .inl (x7 + x12)), (6, .inl (s1 + s0)), (0, z_r 78), (1, z_r 86), (2, .inl x2), (3, .inl x3), (4, .inl x4), (5, .inl x5), (8, .inl x8), (9, .inl x9), (10, .inl x10), (11, .inl x11), (12, .inl x12)], [.inl x8, .inl x12], zW T' G' S n, 0, 0) (by decide +kernel) rfl ⟨trivial, trivial, trivial⟩ ?_
    refine z_icmp_ge 163 M.1 (off := 8) (by decide +kernel) (by decide) (fun c155 => ?_) (fun c155 => ?_)
    · rw [if_pos c155] at K hs
      exact z_lvs (lv' := [(0, z_r 78), (1, z_r 86), (2, .inl x2), (3, .inl x3), (4, .inl x4), (5, .inl x5), (6, .inl (s1 + s0)), (7, .inl (x7 + x12)), (8, .inl x8), (9, .inl x9), (10, .inl x10), (11, .inl x11), (12, .inl x12)]) [2, 3, 4, 5, 6, 7, 1, 0, 8, 9, 10, 11, 12] rfl (t_M_computed_l43_163_86 M rc sr S x2 x3 x4 x5 (s1 + s0) (x7 + x12) x8 x9 x10 x11 x12 hE hC K hs)
    · rw [if_neg c155] at K hs
      refine z_go2 M.1 158 [(.iload 12, 2), (.goto 5, 3)] (165, [(7, .inl (x7 + x12)), (6, .inl (s1 + s0)), (0, z_r 78), (1, z_r 86), (2, .inl x2), (3, .inl x3), (4, .inl x4), (5, .inl x5), (8, .inl x8), (9, .inl x9), (10, .inl x10), (11, .inl x11), (12, .inl x12)], [.inl x12], zW T' G' S n, 0, 0) (by decide +kernel) rfl ⟨trivial, trivial, trivial⟩ ?_
      exact z_lvs (lv' := [(0, z_r 78), (1, z_r 86), (2, .inl x2), (3, .inl x3), (4, .inl x4), (5, .inl x5), (6, .inl (s1 + s0)), (7, .inl (x7 + x12)), (9, .inl x9), (10, .inl x10), (11, .inl x11), (12, .inl x12)]) [2, 3, 4, 5, 6, 7, 1, 0, 9, 10, 11, 12] rfl (t_M_computed_l43_165_86 M rc sr S x2 x3 x4 x5 (s1 + s0) (x7 + x12) x9 x10 x11 x12 x12 hE hC K hs)
theorem t_M_computed_l43_136_98 {X : z_X} {Post : Option z_V → z_W → Prop} (M : z_M X zm_M_computed rm_M_computed Post) {T' : Nat → Nat × Nat} {G' : Nat → Nat → Option Nat} {n : Nat} {Q : (Int32 × Int32 × Int32 × Int32) → Prop} (rc : Int32 → Int32 → Int32 → Int32 → Int32 → (Int32 × Int32 × Int32 × Int32)) (sr : Int32 → Int32 → Int32 → Int32 → Int32 → Prop) (S : (Nat → Nat → Int32)) (x2 : Int32) (x3 : Int32) (x4 : Int32) (x5 : Int32) (x7 : Int32) (x8 : Int32) (x9 : Int32) (x10 : Int32) (x11 : Int32) (x12 : Int32) (s0 : Int32) (s1 : Int32) (hE : ∀ (y6 : Int32) (y7 : Int32) (y8 : Int32) (y9 : Int32), Q (y6, y7, y8, y9) → z_G X zm_M_computed (194, [(4, .inl x4), (6, .inl y6), (7, .inl y7), (8, .inl y8), (9, .inl y9)], [], zW T' G' S n, 0, 0)) (hC : ∀ (x6 : Int32) (x7 : Int32) (x8 : Int32) (x9 : Int32) (x10 : Int32), Q (rc x6 x7 x8 x9 x10) → sr x6 x7 x8 x9 x10 → z_G X zm_M_computed (43, [(0, z_r 78), (1, z_r 98), (2, .inl x2), (3, .inl x3), (4, .inl x4), (5, .inl x5), (6, .inl x6), (7, .inl x7), (8, .inl x8), (9, .inl x9), (10, .inl x10)], [], zW T' G' S n, 0, 0)) (K : Q (F_M_computed_l43_136 98 rc S x2 x3 x4 x5 x7 x8 x9 x10 x11 x12 s0 s1)) (hs : Sf_M_computed_l43_136 98 rc sr S x2 x3 x4 x5 x7 x8 x9 x10 x11 x12 s0 s1) : z_G X zm_M_computed (136, [(0, z_r 78), (1, z_r 98), (2, .inl x2), (3, .inl x3), (4, .inl x4), (5, .inl x5), (7, .inl x7), (8, .inl x8), (9, .inl x9), (10, .inl x10), (11, .inl x11), (12, .inl x12)], [.inl s0, .inl s1], zW T' G' S n, 0, 0) := by
  unfold F_M_computed_l43_136 at K
  unfold Sf_M_computed_l43_136 at hs
  try simp only [Nat.reduceAdd] at K hs
  refine z_go2 M.1 136 [(.iadd, 1), (.istore 6, 2), (.iload 7, 2), (.iload 12, 2), (.iadd, 1), (.istore 7, 2), (.iload 11, 2)] (148, [(7, .inl (x7 + x12)), (6, .inl (s1 + s0)), (0, z_r 78), (1, z_r 98), (2, .inl x2), (3, .inl x3), (4, .inl x4), (5, .inl x5), (8, .inl x8), (9, .inl x9), (10, .inl x10), (11, .inl x11), (12, .inl x12)], [.inl x11], zW T' G' S n, 0, 0) (by decide +kernel) rfl ⟨trivial, trivial, trivial, trivial, trivial, trivial, trivial, trivial⟩ ?_
  refine z_if_eq 163 M.1 (off := 15) (by decide +kernel) (by decide) (fun c148 => ?_) (fun c148 => ?_)
  · rw [if_pos c148] at K hs
    exact z_lvs (lv' := [(0, z_r 78), (1, z_r 98), (2, .inl x2), (3, .inl x3), (4, .inl x4), (5, .inl x5), (6, .inl (s1 + s0)), (7, .inl (x7 + x12)), (8, .inl x8), (9, .inl x9), (10, .inl x10), (11, .inl x11), (12, .inl x12)]) [2, 3, 4, 5, 6, 7, 1, 0, 8, 9, 10, 11, 12] rfl (t_M_computed_l43_163_98 M rc sr S x2 x3 x4 x5 (s1 + s0) (x7 + x12) x8 x9 x10 x11 x12 hE hC K hs)
  · rw [if_neg c148] at K hs
    refine z_go2 M.1 151 [(.iload 12, 2), (.iload 8, 2)] (155, [(7, .inl (x7 + x12)), (6, .inl (s1 + s0)), (0, z_r 78), (1, z_r 98), (2, .inl x2), (3, .inl x3), (4, .inl x4), (5, .inl x5), (8, .inl x8), (9, .inl x9), (10, .inl x10), (11, .inl x11), (12, .inl x12)], [.inl x8, .inl x12], zW T' G' S n, 0, 0) (by decide +kernel) rfl ⟨trivial, trivial, trivial⟩ ?_
    refine z_icmp_ge 163 M.1 (off := 8) (by decide +kernel) (by decide) (fun c155 => ?_) (fun c155 => ?_)
    · rw [if_pos c155] at K hs
      exact z_lvs (lv' := [(0, z_r 78), (1, z_r 98), (2, .inl x2), (3, .inl x3), (4, .inl x4), (5, .inl x5), (6, .inl (s1 + s0)), (7, .inl (x7 + x12)), (8, .inl x8), (9, .inl x9), (10, .inl x10), (11, .inl x11), (12, .inl x12)]) [2, 3, 4, 5, 6, 7, 1, 0, 8, 9, 10, 11, 12] rfl (t_M_computed_l43_163_98 M rc sr S x2 x3 x4 x5 (s1 + s0) (x7 + x12) x8 x9 x10 x11 x12 hE hC K hs)
    · rw [if_neg c155] at K hs
      refine z_go2 M.1 158 [(.iload 12, 2), (.goto 5, 3)] (165, [(7, .inl (x7 + x12)), (6, .inl (s1 + s0)), (0, z_r 78), (1, z_r 98), (2, .inl x2), (3, .inl x3), (4, .inl x4), (5, .inl x5), (8, .inl x8), (9, .inl x9), (10, .inl x10), (11, .inl x11), (12, .inl x12)], [.inl x12], zW T' G' S n, 0, 0) (by decide +kernel) rfl ⟨trivial, trivial, trivial⟩ ?_
      exact z_lvs (lv' := [(0, z_r 78), (1, z_r 98), (2, .inl x2), (3, .inl x3), (4, .inl x4), (5, .inl x5), (6, .inl (s1 + s0)), (7, .inl (x7 + x12)), (9, .inl x9), (10, .inl x10), (11, .inl x11), (12, .inl x12)]) [2, 3, 4, 5, 6, 7, 1, 0, 9, 10, 11, 12] rfl (t_M_computed_l43_165_98 M rc sr S x2 x3 x4 x5 (s1 + s0) (x7 + x12) x9 x10 x11 x12 x12 hE hC K hs)
def F_M_computed_l43_122 (w : Nat) (rc : Int32 → Int32 → Int32 → Int32 → Int32 → (Int32 × Int32 × Int32 × Int32)) (S : (Nat → Nat → Int32)) (x2 : Int32) (x3 : Int32) (x4 : Int32) (x5 : Int32) (x6 : Int32) (x7 : Int32) (x8 : Int32) (x9 : Int32) (x10 : Int32) (x11 : Int32) (s0 : Int32) : (Int32 × Int32 × Int32 × Int32) := (if x11 = 0 then (F_M_computed_l43_136 w rc S x2 x3 x4 x5 x7 x8 x9 x10 x11 s0 0 x6) else (F_M_computed_l43_136 w rc S x2 x3 x4 x5 x7 x8 x9 x10 x11 s0 1 x6))
def Sf_M_computed_l43_122 (w : Nat) (rc : Int32 → Int32 → Int32 → Int32 → Int32 → (Int32 × Int32 × Int32 × Int32)) (sr : Int32 → Int32 → Int32 → Int32 → Int32 → Prop) (S : (Nat → Nat → Int32)) (x2 : Int32) (x3 : Int32) (x4 : Int32) (x5 : Int32) (x6 : Int32) (x7 : Int32) (x8 : Int32) (x9 : Int32) (x10 : Int32) (x11 : Int32) (s0 : Int32) : Prop := (if x11 = 0 then (Sf_M_computed_l43_136 w rc sr S x2 x3 x4 x5 x7 x8 x9 x10 x11 s0 0 x6) else (Sf_M_computed_l43_136 w rc sr S x2 x3 x4 x5 x7 x8 x9 x10 x11 s0 1 x6))
theorem t_M_computed_l43_122_86 {X : z_X} {Post : Option z_V → z_W → Prop} (M : z_M X zm_M_computed rm_M_computed Post) {T' : Nat → Nat × Nat} {G' : Nat → Nat → Option Nat} {n : Nat} {Q : (Int32 × Int32 × Int32 × Int32) → Prop} (rc : Int32 → Int32 → Int32 → Int32 → Int32 → (Int32 × Int32 × Int32 × Int32)) (sr : Int32 → Int32 → Int32 → Int32 → Int32 → Prop) (S : (Nat → Nat → Int32)) (x2 : Int32) (x3 : Int32) (x4 : Int32) (x5 : Int32) (x6 : Int32) (x7 : Int32) (x8 : Int32) (x9 : Int32) (x10 : Int32) (x11 : Int32) (s0 : Int32) (hE : ∀ (y6 : Int32) (y7 : Int32) (y8 : Int32) (y9 : Int32), Q (y6, y7, y8, y9) → z_G X zm_M_computed (194, [(4, .inl x4), (6, .inl y6), (7, .inl y7), (8, .inl y8), (9, .inl y9)], [], zW T' G' S n, 0, 0)) (hC : ∀ (x6 : Int32) (x7 : Int32) (x8 : Int32) (x9 : Int32) (x10 : Int32), Q (rc x6 x7 x8 x9 x10) → sr x6 x7 x8 x9 x10 → z_G X zm_M_computed (43, [(0, z_r 78), (1, z_r 86), (2, .inl x2), (3, .inl x3), (4, .inl x4), (5, .inl x5), (6, .inl x6), (7, .inl x7), (8, .inl x8), (9, .inl x9), (10, .inl x10)], [], zW T' G' S n, 0, 0)) (K : Q (F_M_computed_l43_122 86 rc S x2 x3 x4 x5 x6 x7 x8 x9 x10 x11 s0)) (hs : Sf_M_computed_l43_122 86 rc sr S x2 x3 x4 x5 x6 x7 x8 x9 x10 x11 s0) : z_G X zm_M_computed (122, [(0, z_r 78), (1, z_r 86), (2, .inl x2), (3, .inl x3), (4, .inl x4), (5, .inl x5), (6, .inl x6), (7, .inl x7), (8, .inl x8), (9, .inl x9), (10, .inl x10), (11, .inl x11)], [.inl s0], zW T' G' S n, 0, 0) := by
  unfold F_M_computed_l43_122 at K
  unfold Sf_M_computed_l43_122 at hs
  try simp only [Nat.reduceAdd] at K hs
  refine z_go2 M.1 122 [(.istore 12, 2), (.iload 6, 2), (.iload 11, 2)] (128, [(12, .inl s0), (0, z_r 78), (1, z_r 86), (2, .inl x2), (3, .inl x3), (4, .inl x4), (5, .inl x5), (6, .inl x6), (7, .inl x7), (8, .inl x8), (9, .inl x9), (10, .inl x10), (11, .inl x11)], [.inl x11, .inl x6], zW T' G' S n, 0, 0) (by decide +kernel) rfl ⟨trivial, trivial, trivial, trivial⟩ ?_
  refine z_if_eq 135 M.1 (off := 7) (by decide +kernel) (by decide) (fun c128 => ?_) (fun c128 => ?_)
  · rw [if_pos c128] at K hs
    refine z_go2 M.1 135 [(.iconst 0, 1)] (136, [(12, .inl s0), (0, z_r 78), (1, z_r 86), (2, .inl x2), (3, .inl x3), (4, .inl x4), (5, .inl x5), (6, .inl x6), (7, .inl x7), (8, .inl x8), (9, .inl x9), (10, .inl x10), (11, .inl x11)], [.inl 0, .inl x6], zW T' G' S n, 0, 0) (by decide +kernel) rfl ⟨trivial, trivial⟩ ?_
    exact z_lvs (lv' := [(0, z_r 78), (1, z_r 86), (2, .inl x2), (3, .inl x3), (4, .inl x4), (5, .inl x5), (7, .inl x7), (8, .inl x8), (9, .inl x9), (10, .inl x10), (11, .inl x11), (12, .inl s0)]) [1, 2, 3, 4, 5, 6, 8, 9, 10, 11, 12, 0] rfl (t_M_computed_l43_136_86 M rc sr S x2 x3 x4 x5 x7 x8 x9 x10 x11 s0 0 x6 hE hC K hs)
  · rw [if_neg c128] at K hs
    refine z_go2 M.1 131 [(.iconst 1, 1), (.goto 4, 3)] (136, [(12, .inl s0), (0, z_r 78), (1, z_r 86), (2, .inl x2), (3, .inl x3), (4, .inl x4), (5, .inl x5), (6, .inl x6), (7, .inl x7), (8, .inl x8), (9, .inl x9), (10, .inl x10), (11, .inl x11)], [.inl 1, .inl x6], zW T' G' S n, 0, 0) (by decide +kernel) rfl ⟨trivial, trivial, trivial⟩ ?_
    exact z_lvs (lv' := [(0, z_r 78), (1, z_r 86), (2, .inl x2), (3, .inl x3), (4, .inl x4), (5, .inl x5), (7, .inl x7), (8, .inl x8), (9, .inl x9), (10, .inl x10), (11, .inl x11), (12, .inl s0)]) [1, 2, 3, 4, 5, 6, 8, 9, 10, 11, 12, 0] rfl (t_M_computed_l43_136_86 M rc sr S x2 x3 x4 x5 x7 x8 x9 x10 x11 s0 1 x6 hE hC K hs)
theorem t_M_computed_l43_122_98 {X : z_X} {Post : Option z_V → z_W → Prop} (M : z_M X zm_M_computed rm_M_computed Post) {T' : Nat → Nat × Nat} {G' : Nat → Nat → Option Nat} {n : Nat} {Q : (Int32 × Int32 × Int32 × Int32) → Prop} (rc : Int32 → Int32 → Int32 → Int32 → Int32 → (Int32 × Int32 × Int32 × Int32)) (sr : Int32 → Int32 → Int32 → Int32 → Int32 → Prop) (S : (Nat → Nat → Int32)) (x2 : Int32) (x3 : Int32) (x4 : Int32) (x5 : Int32) (x6 : Int32) (x7 : Int32) (x8 : Int32) (x9 : Int32) (x10 : Int32) (x11 : Int32) (s0 : Int32) (hE : ∀ (y6 : Int32) (y7 : Int32) (y8 : Int32) (y9 : Int32), Q (y6, y7, y8, y9) → z_G X zm_M_computed (194, [(4, .inl x4), (6, .inl y6), (7, .inl y7), (8, .inl y8), (9, .inl y9)], [], zW T' G' S n, 0, 0)) (hC : ∀ (x6 : Int32) (x7 : Int32) (x8 : Int32) (x9 : Int32) (x10 : Int32), Q (rc x6 x7 x8 x9 x10) → sr x6 x7 x8 x9 x10 → z_G X zm_M_computed (43, [(0, z_r 78), (1, z_r 98), (2, .inl x2), (3, .inl x3), (4, .inl x4), (5, .inl x5), (6, .inl x6), (7, .inl x7), (8, .inl x8), (9, .inl x9), (10, .inl x10)], [], zW T' G' S n, 0, 0)) (K : Q (F_M_computed_l43_122 98 rc S x2 x3 x4 x5 x6 x7 x8 x9 x10 x11 s0)) (hs : Sf_M_computed_l43_122 98 rc sr S x2 x3 x4 x5 x6 x7 x8 x9 x10 x11 s0) : z_G X zm_M_computed (122, [(0, z_r 78), (1, z_r 98), (2, .inl x2), (3, .inl x3), (4, .inl x4), (5, .inl x5), (6, .inl x6), (7, .inl x7), (8, .inl x8), (9, .inl x9), (10, .inl x10), (11, .inl x11)], [.inl s0], zW T' G' S n, 0, 0) := by
  unfold F_M_computed_l43_122 at K
  unfold Sf_M_computed_l43_122 at hs
  try simp only [Nat.reduceAdd] at K hs
  refine z_go2 M.1 122 [(.istore 12, 2), (.iload 6, 2), (.iload 11, 2)] (128, [(12, .inl s0), (0, z_r 78), (1, z_r 98), (2, .inl x2), (3, .inl x3), (4, .inl x4), (5, .inl x5), (6, .inl x6), (7, .inl x7), (8, .inl x8), (9, .inl x9), (10, .inl x10), (11, .inl x11)], [.inl x11, .inl x6], zW T' G' S n, 0, 0) (by decide +kernel) rfl ⟨trivial, trivial, trivial, trivial⟩ ?_
  refine z_if_eq 135 M.1 (off := 7) (by decide +kernel) (by decide) (fun c128 => ?_) (fun c128 => ?_)
  · rw [if_pos c128] at K hs
    refine z_go2 M.1 135 [(.iconst 0, 1)] (136, [(12, .inl s0), (0, z_r 78), (1, z_r 98), (2, .inl x2), (3, .inl x3), (4, .inl x4), (5, .inl x5), (6, .inl x6), (7, .inl x7), (8, .inl x8), (9, .inl x9), (10, .inl x10), (11, .inl x11)], [.inl 0, .inl x6], zW T' G' S n, 0, 0) (by decide +kernel) rfl ⟨trivial, trivial⟩ ?_
    exact z_lvs (lv' := [(0, z_r 78), (1, z_r 98), (2, .inl x2), (3, .inl x3), (4, .inl x4), (5, .inl x5), (7, .inl x7), (8, .inl x8), (9, .inl x9), (10, .inl x10), (11, .inl x11), (12, .inl s0)]) [1, 2, 3, 4, 5, 6, 8, 9, 10, 11, 12, 0] rfl (t_M_computed_l43_136_98 M rc sr S x2 x3 x4 x5 x7 x8 x9 x10 x11 s0 0 x6 hE hC K hs)
  · rw [if_neg c128] at K hs
    refine z_go2 M.1 131 [(.iconst 1, 1), (.goto 4, 3)] (136, [(12, .inl s0), (0, z_r 78), (1, z_r 98), (2, .inl x2), (3, .inl x3), (4, .inl x4), (5, .inl x5), (6, .inl x6), (7, .inl x7), (8, .inl x8), (9, .inl x9), (10, .inl x10), (11, .inl x11)], [.inl 1, .inl x6], zW T' G' S n, 0, 0) (by decide +kernel) rfl ⟨trivial, trivial, trivial⟩ ?_
    exact z_lvs (lv' := [(0, z_r 78), (1, z_r 98), (2, .inl x2), (3, .inl x3), (4, .inl x4), (5, .inl x5), (7, .inl x7), (8, .inl x8), (9, .inl x9), (10, .inl x10), (11, .inl x11), (12, .inl s0)]) [1, 2, 3, 4, 5, 6, 8, 9, 10, 11, 12, 0] rfl (t_M_computed_l43_136_98 M rc sr S x2 x3 x4 x5 x7 x8 x9 x10 x11 s0 1 x6 hE hC K hs)
def F_M_computed_l43_102 (w : Nat) (rc : Int32 → Int32 → Int32 → Int32 → Int32 → (Int32 × Int32 × Int32 × Int32)) (S : (Nat → Nat → Int32)) (x2 : Int32) (x3 : Int32) (x4 : Int32) (x5 : Int32) (x6 : Int32) (x7 : Int32) (x8 : Int32) (x9 : Int32) (x10 : Int32) (s0 : Int32) : (Int32 × Int32 × Int32 × Int32) := (if s0 = 0 then (F_M_computed_l43_122 w rc S x2 x3 x4 x5 x6 x7 x8 x9 x10 s0 0) else (F_M_computed_l43_122 w rc S x2 x3 x4 x5 x6 x7 x8 x9 x10 s0 (F_M_valueOf w S x10 x5)))
def Sf_M_computed_l43_102 (w : Nat) (rc : Int32 → Int32 → Int32 → Int32 → Int32 → (Int32 × Int32 × Int32 × Int32)) (sr : Int32 → Int32 → Int32 → Int32 → Int32 → Prop) (S : (Nat → Nat → Int32)) (x2 : Int32) (x3 : Int32) (x4 : Int32) (x5 : Int32) (x6 : Int32) (x7 : Int32) (x8 : Int32) (x9 : Int32) (x10 : Int32) (s0 : Int32) : Prop := (if s0 = 0 then (Sf_M_computed_l43_122 w rc sr S x2 x3 x4 x5 x6 x7 x8 x9 x10 s0 0) else (Sf_M_valueOf w S x10 x5 ∧ (Sf_M_computed_l43_122 w rc sr S x2 x3 x4 x5 x6 x7 x8 x9 x10 s0 (F_M_valueOf w S x10 x5))))
theorem t_M_computed_l43_102_86 {X : z_X} {Post : Option z_V → z_W → Prop} (M : z_M X zm_M_computed rm_M_computed Post) {T' : Nat → Nat × Nat} {G' : Nat → Nat → Option Nat} {n : Nat} {Q : (Int32 × Int32 × Int32 × Int32) → Prop} (rc : Int32 → Int32 → Int32 → Int32 → Int32 → (Int32 × Int32 × Int32 × Int32)) (sr : Int32 → Int32 → Int32 → Int32 → Int32 → Prop) (S : (Nat → Nat → Int32)) (x2 : Int32) (x3 : Int32) (x4 : Int32) (x5 : Int32) (x6 : Int32) (x7 : Int32) (x8 : Int32) (x9 : Int32) (x10 : Int32) (s0 : Int32) (hE : ∀ (y6 : Int32) (y7 : Int32) (y8 : Int32) (y9 : Int32), Q (y6, y7, y8, y9) → z_G X zm_M_computed (194, [(4, .inl x4), (6, .inl y6), (7, .inl y7), (8, .inl y8), (9, .inl y9)], [], zW T' G' S n, 0, 0)) (hC : ∀ (x6 : Int32) (x7 : Int32) (x8 : Int32) (x9 : Int32) (x10 : Int32), Q (rc x6 x7 x8 x9 x10) → sr x6 x7 x8 x9 x10 → z_G X zm_M_computed (43, [(0, z_r 78), (1, z_r 86), (2, .inl x2), (3, .inl x3), (4, .inl x4), (5, .inl x5), (6, .inl x6), (7, .inl x7), (8, .inl x8), (9, .inl x9), (10, .inl x10)], [], zW T' G' S n, 0, 0)) (K : Q (F_M_computed_l43_102 86 rc S x2 x3 x4 x5 x6 x7 x8 x9 x10 s0)) (hs : Sf_M_computed_l43_102 86 rc sr S x2 x3 x4 x5 x6 x7 x8 x9 x10 s0) : z_G X zm_M_computed (102, [(0, z_r 78), (1, z_r 86), (2, .inl x2), (3, .inl x3), (4, .inl x4), (5, .inl x5), (6, .inl x6), (7, .inl x7), (8, .inl x8), (9, .inl x9), (10, .inl x10)], [.inl s0], zW T' G' S n, 0, 0) := by
  unfold F_M_computed_l43_102 at K
  unfold Sf_M_computed_l43_102 at hs
  try simp only [Nat.reduceAdd] at K hs
  refine z_go2 M.1 102 [(.istore 11, 2), (.iload 11, 2)] (106, [(11, .inl s0), (0, z_r 78), (1, z_r 86), (2, .inl x2), (3, .inl x3), (4, .inl x4), (5, .inl x5), (6, .inl x6), (7, .inl x7), (8, .inl x8), (9, .inl x9), (10, .inl x10)], [.inl s0], zW T' G' S n, 0, 0) (by decide +kernel) rfl ⟨trivial, trivial, trivial⟩ ?_
  refine z_if_eq 121 M.1 (off := 15) (by decide +kernel) (by decide) (fun c106 => ?_) (fun c106 => ?_)
  · rw [if_pos c106] at K hs
    refine z_go2 M.1 121 [(.iconst 0, 1)] (122, [(11, .inl s0), (0, z_r 78), (1, z_r 86), (2, .inl x2), (3, .inl x3), (4, .inl x4), (5, .inl x5), (6, .inl x6), (7, .inl x7), (8, .inl x8), (9, .inl x9), (10, .inl x10)], [.inl 0], zW T' G' S n, 0, 0) (by decide +kernel) rfl ⟨trivial, trivial⟩ ?_
    exact z_lvs (lv' := [(0, z_r 78), (1, z_r 86), (2, .inl x2), (3, .inl x3), (4, .inl x4), (5, .inl x5), (6, .inl x6), (7, .inl x7), (8, .inl x8), (9, .inl x9), (10, .inl x10), (11, .inl s0)]) [1, 2, 3, 4, 5, 6, 7, 8, 9, 10, 11, 0] rfl (t_M_computed_l43_122_86 M rc sr S x2 x3 x4 x5 x6 x7 x8 x9 x10 s0 0 hE hC K hs)
  · rw [if_neg c106] at K hs
    refine z_go2 M.1 109 [(.aload_n 0, 1), (.aload_n 1, 1), (.iload 10, 2), (.iload 5, 2)] (115, [(11, .inl s0), (0, z_r 78), (1, z_r 86), (2, .inl x2), (3, .inl x3), (4, .inl x4), (5, .inl x5), (6, .inl x6), (7, .inl x7), (8, .inl x8), (9, .inl x9), (10, .inl x10)], [.inl x5, .inl x10, z_r 86, z_r 78], zW T' G' S n, 0, 0) (by decide +kernel) rfl ⟨trivial, trivial, trivial, trivial, trivial⟩ ?_
    refine z_callV M.1 (av := [z_r 86, .inl x10, .inl x5]) (st := []) (a := 78) (ci := 14) (by decide +kernel) (c_M_valueOf_86 T' G' S n x10 x5 hs.1) M.2.1 zl_M_247 zv_M_valueOf rfl rfl rfl ⟨by decide, by decide, by decide, by decide⟩ rfl (Nat.le_of_ble_eq_true rfl) (fun v w' hv => ?_)
    obtain ⟨rfl, rfl⟩ := hv
    replace hs := hs.2
    show z_G X zm_M_computed (118, [(11, .inl s0), (0, z_r 78), (1, z_r 86), (2, .inl x2), (3, .inl x3), (4, .inl x4), (5, .inl x5), (6, .inl x6), (7, .inl x7), (8, .inl x8), (9, .inl x9), (10, .inl x10)], [.inl (F_M_valueOf 86 S x10 x5)], zW T' G' S n, 0, 0)
    refine z_go2 M.1 118 [(.goto 4, 3)] (122, [(11, .inl s0), (0, z_r 78), (1, z_r 86), (2, .inl x2), (3, .inl x3), (4, .inl x4), (5, .inl x5), (6, .inl x6), (7, .inl x7), (8, .inl x8), (9, .inl x9), (10, .inl x10)], [.inl (F_M_valueOf 86 S x10 x5)], zW T' G' S n, 0, 0) (by decide +kernel) rfl ⟨trivial, trivial⟩ ?_
    exact z_lvs (lv' := [(0, z_r 78), (1, z_r 86), (2, .inl x2), (3, .inl x3), (4, .inl x4), (5, .inl x5), (6, .inl x6), (7, .inl x7), (8, .inl x8), (9, .inl x9), (10, .inl x10), (11, .inl s0)]) [1, 2, 3, 4, 5, 6, 7, 8, 9, 10, 11, 0] rfl (t_M_computed_l43_122_86 M rc sr S x2 x3 x4 x5 x6 x7 x8 x9 x10 s0 (F_M_valueOf 86 S x10 x5) hE hC K hs)
theorem t_M_computed_l43_102_98 {X : z_X} {Post : Option z_V → z_W → Prop} (M : z_M X zm_M_computed rm_M_computed Post) {T' : Nat → Nat × Nat} {G' : Nat → Nat → Option Nat} {n : Nat} {Q : (Int32 × Int32 × Int32 × Int32) → Prop} (rc : Int32 → Int32 → Int32 → Int32 → Int32 → (Int32 × Int32 × Int32 × Int32)) (sr : Int32 → Int32 → Int32 → Int32 → Int32 → Prop) (S : (Nat → Nat → Int32)) (x2 : Int32) (x3 : Int32) (x4 : Int32) (x5 : Int32) (x6 : Int32) (x7 : Int32) (x8 : Int32) (x9 : Int32) (x10 : Int32) (s0 : Int32) (hE : ∀ (y6 : Int32) (y7 : Int32) (y8 : Int32) (y9 : Int32), Q (y6, y7, y8, y9) → z_G X zm_M_computed (194, [(4, .inl x4), (6, .inl y6), (7, .inl y7), (8, .inl y8), (9, .inl y9)], [], zW T' G' S n, 0, 0)) (hC : ∀ (x6 : Int32) (x7 : Int32) (x8 : Int32) (x9 : Int32) (x10 : Int32), Q (rc x6 x7 x8 x9 x10) → sr x6 x7 x8 x9 x10 → z_G X zm_M_computed (43, [(0, z_r 78), (1, z_r 98), (2, .inl x2), (3, .inl x3), (4, .inl x4), (5, .inl x5), (6, .inl x6), (7, .inl x7), (8, .inl x8), (9, .inl x9), (10, .inl x10)], [], zW T' G' S n, 0, 0)) (K : Q (F_M_computed_l43_102 98 rc S x2 x3 x4 x5 x6 x7 x8 x9 x10 s0)) (hs : Sf_M_computed_l43_102 98 rc sr S x2 x3 x4 x5 x6 x7 x8 x9 x10 s0) : z_G X zm_M_computed (102, [(0, z_r 78), (1, z_r 98), (2, .inl x2), (3, .inl x3), (4, .inl x4), (5, .inl x5), (6, .inl x6), (7, .inl x7), (8, .inl x8), (9, .inl x9), (10, .inl x10)], [.inl s0], zW T' G' S n, 0, 0) := by
  unfold F_M_computed_l43_102 at K
  unfold Sf_M_computed_l43_102 at hs
  try simp only [Nat.reduceAdd] at K hs
  refine z_go2 M.1 102 [(.istore 11, 2), (.iload 11, 2)] (106, [(11, .inl s0), (0, z_r 78), (1, z_r 98), (2, .inl x2), (3, .inl x3), (4, .inl x4), (5, .inl x5), (6, .inl x6), (7, .inl x7), (8, .inl x8), (9, .inl x9), (10, .inl x10)], [.inl s0], zW T' G' S n, 0, 0) (by decide +kernel) rfl ⟨trivial, trivial, trivial⟩ ?_
  refine z_if_eq 121 M.1 (off := 15) (by decide +kernel) (by decide) (fun c106 => ?_) (fun c106 => ?_)
  · rw [if_pos c106] at K hs
    refine z_go2 M.1 121 [(.iconst 0, 1)] (122, [(11, .inl s0), (0, z_r 78), (1, z_r 98), (2, .inl x2), (3, .inl x3), (4, .inl x4), (5, .inl x5), (6, .inl x6), (7, .inl x7), (8, .inl x8), (9, .inl x9), (10, .inl x10)], [.inl 0], zW T' G' S n, 0, 0) (by decide +kernel) rfl ⟨trivial, trivial⟩ ?_
    exact z_lvs (lv' := [(0, z_r 78), (1, z_r 98), (2, .inl x2), (3, .inl x3), (4, .inl x4), (5, .inl x5), (6, .inl x6), (7, .inl x7), (8, .inl x8), (9, .inl x9), (10, .inl x10), (11, .inl s0)]) [1, 2, 3, 4, 5, 6, 7, 8, 9, 10, 11, 0] rfl (t_M_computed_l43_122_98 M rc sr S x2 x3 x4 x5 x6 x7 x8 x9 x10 s0 0 hE hC K hs)
  · rw [if_neg c106] at K hs
    refine z_go2 M.1 109 [(.aload_n 0, 1), (.aload_n 1, 1), (.iload 10, 2), (.iload 5, 2)] (115, [(11, .inl s0), (0, z_r 78), (1, z_r 98), (2, .inl x2), (3, .inl x3), (4, .inl x4), (5, .inl x5), (6, .inl x6), (7, .inl x7), (8, .inl x8), (9, .inl x9), (10, .inl x10)], [.inl x5, .inl x10, z_r 98, z_r 78], zW T' G' S n, 0, 0) (by decide +kernel) rfl ⟨trivial, trivial, trivial, trivial, trivial⟩ ?_
    refine z_callV M.1 (av := [z_r 98, .inl x10, .inl x5]) (st := []) (a := 78) (ci := 14) (by decide +kernel) (c_M_valueOf_98 T' G' S n x10 x5 hs.1) M.2.1 zl_M_247 zv_M_valueOf rfl rfl rfl ⟨by decide, by decide, by decide, by decide⟩ rfl (Nat.le_of_ble_eq_true rfl) (fun v w' hv => ?_)
    obtain ⟨rfl, rfl⟩ := hv
    replace hs := hs.2
    show z_G X zm_M_computed (118, [(11, .inl s0), (0, z_r 78), (1, z_r 98), (2, .inl x2), (3, .inl x3), (4, .inl x4), (5, .inl x5), (6, .inl x6), (7, .inl x7), (8, .inl x8), (9, .inl x9), (10, .inl x10)], [.inl (F_M_valueOf 98 S x10 x5)], zW T' G' S n, 0, 0)
    refine z_go2 M.1 118 [(.goto 4, 3)] (122, [(11, .inl s0), (0, z_r 78), (1, z_r 98), (2, .inl x2), (3, .inl x3), (4, .inl x4), (5, .inl x5), (6, .inl x6), (7, .inl x7), (8, .inl x8), (9, .inl x9), (10, .inl x10)], [.inl (F_M_valueOf 98 S x10 x5)], zW T' G' S n, 0, 0) (by decide +kernel) rfl ⟨trivial, trivial⟩ ?_
    exact z_lvs (lv' := [(0, z_r 78), (1, z_r 98), (2, .inl x2), (3, .inl x3), (4, .inl x4), (5, .inl x5), (6, .inl x6), (7, .inl x7), (8, .inl x8), (9, .inl x9), (10, .inl x10), (11, .inl s0)]) [1, 2, 3, 4, 5, 6, 7, 8, 9, 10, 11, 0] rfl (t_M_computed_l43_122_98 M rc sr S x2 x3 x4 x5 x6 x7 x8 x9 x10 s0 (F_M_valueOf 98 S x10 x5) hE hC K hs)
def F_M_computed_l43_101 (w : Nat) (rc : Int32 → Int32 → Int32 → Int32 → Int32 → (Int32 × Int32 × Int32 × Int32)) (S : (Nat → Nat → Int32)) (x2 : Int32) (x3 : Int32) (x4 : Int32) (x5 : Int32) (x6 : Int32) (x7 : Int32) (x8 : Int32) (x9 : Int32) (x10 : Int32) : (Int32 × Int32 × Int32 × Int32) := (F_M_computed_l43_102 w rc S x2 x3 x4 x5 x6 x7 x8 x9 x10 0)
def Sf_M_computed_l43_101 (w : Nat) (rc : Int32 → Int32 → Int32 → Int32 → Int32 → (Int32 × Int32 × Int32 × Int32)) (sr : Int32 → Int32 → Int32 → Int32 → Int32 → Prop) (S : (Nat → Nat → Int32)) (x2 : Int32) (x3 : Int32) (x4 : Int32) (x5 : Int32) (x6 : Int32) (x7 : Int32) (x8 : Int32) (x9 : Int32) (x10 : Int32) : Prop := (Sf_M_computed_l43_102 w rc sr S x2 x3 x4 x5 x6 x7 x8 x9 x10 0)
theorem t_M_computed_l43_101_86 {X : z_X} {Post : Option z_V → z_W → Prop} (M : z_M X zm_M_computed rm_M_computed Post) {T' : Nat → Nat × Nat} {G' : Nat → Nat → Option Nat} {n : Nat} {Q : (Int32 × Int32 × Int32 × Int32) → Prop} (rc : Int32 → Int32 → Int32 → Int32 → Int32 → (Int32 × Int32 × Int32 × Int32)) (sr : Int32 → Int32 → Int32 → Int32 → Int32 → Prop) (S : (Nat → Nat → Int32)) (x2 : Int32) (x3 : Int32) (x4 : Int32) (x5 : Int32) (x6 : Int32) (x7 : Int32) (x8 : Int32) (x9 : Int32) (x10 : Int32) (hE : ∀ (y6 : Int32) (y7 : Int32) (y8 : Int32) (y9 : Int32), Q (y6, y7, y8, y9) → z_G X zm_M_computed (194, [(4, .inl x4), (6, .inl y6), (7, .inl y7), (8, .inl y8), (9, .inl y9)], [], zW T' G' S n, 0, 0)) (hC : ∀ (x6 : Int32) (x7 : Int32) (x8 : Int32) (x9 : Int32) (x10 : Int32), Q (rc x6 x7 x8 x9 x10) → sr x6 x7 x8 x9 x10 → z_G X zm_M_computed (43, [(0, z_r 78), (1, z_r 86), (2, .inl x2), (3, .inl x3), (4, .inl x4), (5, .inl x5), (6, .inl x6), (7, .inl x7), (8, .inl x8), (9, .inl x9), (10, .inl x10)], [], zW T' G' S n, 0, 0)) (K : Q (F_M_computed_l43_101 86 rc S x2 x3 x4 x5 x6 x7 x8 x9 x10)) (hs : Sf_M_computed_l43_101 86 rc sr S x2 x3 x4 x5 x6 x7 x8 x9 x10) : z_G X zm_M_computed (101, [(0, z_r 78), (1, z_r 86), (2, .inl x2), (3, .inl x3), (4, .inl x4), (5, .inl x5), (6, .inl x6), (7, .inl x7), (8, .inl x8), (9, .inl x9), (10, .inl x10)], [], zW T' G' S n, 0, 0) := by
  unfold F_M_computed_l43_101 at K
  unfold Sf_M_computed_l43_101 at hs
  try simp only [Nat.reduceAdd] at K hs
  refine z_go2 M.1 101 [(.iconst 0, 1)] (102, [(0, z_r 78), (1, z_r 86), (2, .inl x2), (3, .inl x3), (4, .inl x4), (5, .inl x5), (6, .inl x6), (7, .inl x7), (8, .inl x8), (9, .inl x9), (10, .inl x10)], [.inl 0], zW T' G' S n, 0, 0) (by decide +kernel) rfl ⟨trivial, trivial⟩ ?_
  exact z_lvs (lv' := [(0, z_r 78), (1, z_r 86), (2, .inl x2), (3, .inl x3), (4, .inl x4), (5, .inl x5), (6, .inl x6), (7, .inl x7), (8, .inl x8), (9, .inl x9), (10, .inl x10)]) [0, 1, 2, 3, 4, 5, 6, 7, 8, 9, 10] rfl (t_M_computed_l43_102_86 M rc sr S x2 x3 x4 x5 x6 x7 x8 x9 x10 0 hE hC K hs)
theorem t_M_computed_l43_101_98 {X : z_X} {Post : Option z_V → z_W → Prop} (M : z_M X zm_M_computed rm_M_computed Post) {T' : Nat → Nat × Nat} {G' : Nat → Nat → Option Nat} {n : Nat} {Q : (Int32 × Int32 × Int32 × Int32) → Prop} (rc : Int32 → Int32 → Int32 → Int32 → Int32 → (Int32 × Int32 × Int32 × Int32)) (sr : Int32 → Int32 → Int32 → Int32 → Int32 → Prop) (S : (Nat → Nat → Int32)) (x2 : Int32) (x3 : Int32) (x4 : Int32) (x5 : Int32) (x6 : Int32) (x7 : Int32) (x8 : Int32) (x9 : Int32) (x10 : Int32) (hE : ∀ (y6 : Int32) (y7 : Int32) (y8 : Int32) (y9 : Int32), Q (y6, y7, y8, y9) → z_G X zm_M_computed (194, [(4, .inl x4), (6, .inl y6), (7, .inl y7), (8, .inl y8), (9, .inl y9)], [], zW T' G' S n, 0, 0)) (hC : ∀ (x6 : Int32) (x7 : Int32) (x8 : Int32) (x9 : Int32) (x10 : Int32), Q (rc x6 x7 x8 x9 x10) → sr x6 x7 x8 x9 x10 → z_G X zm_M_computed (43, [(0, z_r 78), (1, z_r 98), (2, .inl x2), (3, .inl x3), (4, .inl x4), (5, .inl x5), (6, .inl x6), (7, .inl x7), (8, .inl x8), (9, .inl x9), (10, .inl x10)], [], zW T' G' S n, 0, 0)) (K : Q (F_M_computed_l43_101 98 rc S x2 x3 x4 x5 x6 x7 x8 x9 x10)) (hs : Sf_M_computed_l43_101 98 rc sr S x2 x3 x4 x5 x6 x7 x8 x9 x10) : z_G X zm_M_computed (101, [(0, z_r 78), (1, z_r 98), (2, .inl x2), (3, .inl x3), (4, .inl x4), (5, .inl x5), (6, .inl x6), (7, .inl x7), (8, .inl x8), (9, .inl x9), (10, .inl x10)], [], zW T' G' S n, 0, 0) := by
  unfold F_M_computed_l43_101 at K
  unfold Sf_M_computed_l43_101 at hs
  try simp only [Nat.reduceAdd] at K hs
  refine z_go2 M.1 101 [(.iconst 0, 1)] (102, [(0, z_r 78), (1, z_r 98), (2, .inl x2), (3, .inl x3), (4, .inl x4), (5, .inl x5), (6, .inl x6), (7, .inl x7), (8, .inl x8), (9, .inl x9), (10, .inl x10)], [.inl 0], zW T' G' S n, 0, 0) (by decide +kernel) rfl ⟨trivial, trivial⟩ ?_
  exact z_lvs (lv' := [(0, z_r 78), (1, z_r 98), (2, .inl x2), (3, .inl x3), (4, .inl x4), (5, .inl x5), (6, .inl x6), (7, .inl x7), (8, .inl x8), (9, .inl x9), (10, .inl x10)]) [0, 1, 2, 3, 4, 5, 6, 7, 8, 9, 10] rfl (t_M_computed_l43_102_98 M rc sr S x2 x3 x4 x5 x6 x7 x8 x9 x10 0 hE hC K hs)
def F_M_computed_L43 (w : Nat) (S : (Nat → Nat → Int32)) (x2 : Int32) (x3 : Int32) (x4 : Int32) (x5 : Int32) : Nat → Int32 → Int32 → Int32 → Int32 → Int32 → (Int32 × Int32 × Int32 × Int32)
  | 0, x6, x7, x8, x9, x10 => (x6, x7, x8, x9)
  | f + 1, x6, x7, x8, x9, x10 => (if (30 : Int32) ≤ x10 then (x6, x7, x8, x9) else (if (S (w + 9) (x10).toNatClampNeg) = 0 then (F_M_computed_l43_101 w (F_M_computed_L43 w S x2 x3 x4 x5 f) S x2 x3 x4 x5 x6 x7 x8 x9 x10) else (if (S (w + 6) (x10).toNatClampNeg) = x3 then (if (F_M_readsIt w S x2 x10 x5) = 0 then (F_M_computed_l43_101 w (F_M_computed_L43 w S x2 x3 x4 x5 f) S x2 x3 x4 x5 x6 x7 x8 x9 x10) else (if (F_M_valueOf w S x10 x5) = (-1) then (F_M_computed_l43_101 w (F_M_computed_L43 w S x2 x3 x4 x5 f) S x2 x3 x4 x5 x6 x7 x8 x9 x10) else (F_M_computed_l43_102 w (F_M_computed_L43 w S x2 x3 x4 x5 f) S x2 x3 x4 x5 x6 x7 x8 x9 x10 1))) else (F_M_computed_l43_101 w (F_M_computed_L43 w S x2 x3 x4 x5 f) S x2 x3 x4 x5 x6 x7 x8 x9 x10))))
def Sf_M_computed_L43 (w : Nat) (S : (Nat → Nat → Int32)) (x2 : Int32) (x3 : Int32) (x4 : Int32) (x5 : Int32) : Nat → Int32 → Int32 → Int32 → Int32 → Int32 → Prop
  | 0, _, _, _, _, _ => False
  | f + 1, x6, x7, x8, x9, x10 => (if (30 : Int32) ≤ x10 then True else ((vp_in x10 30) ∧ (if (S (w + 9) (x10).toNatClampNeg) = 0 then (Sf_M_computed_l43_101 w (F_M_computed_L43 w S x2 x3 x4 x5 f) (Sf_M_computed_L43 w S x2 x3 x4 x5 f) S x2 x3 x4 x5 x6 x7 x8 x9 x10) else ((vp_in x10 30) ∧ (if (S (w + 6) (x10).toNatClampNeg) = x3 then (Sf_M_readsIt w S x2 x10 x5 ∧ (if (F_M_readsIt w S x2 x10 x5) = 0 then (Sf_M_computed_l43_101 w (F_M_computed_L43 w S x2 x3 x4 x5 f) (Sf_M_computed_L43 w S x2 x3 x4 x5 f) S x2 x3 x4 x5 x6 x7 x8 x9 x10) else (Sf_M_valueOf w S x10 x5 ∧ (if (F_M_valueOf w S x10 x5) = (-1) then (Sf_M_computed_l43_101 w (F_M_computed_L43 w S x2 x3 x4 x5 f) (Sf_M_computed_L43 w S x2 x3 x4 x5 f) S x2 x3 x4 x5 x6 x7 x8 x9 x10) else (Sf_M_computed_l43_102 w (F_M_computed_L43 w S x2 x3 x4 x5 f) (Sf_M_computed_L43 w S x2 x3 x4 x5 f) S x2 x3 x4 x5 x6 x7 x8 x9 x10 1))))) else (Sf_M_computed_l43_101 w (F_M_computed_L43 w S x2 x3 x4 x5 f) (Sf_M_computed_L43 w S x2 x3 x4 x5 f) S x2 x3 x4 x5 x6 x7 x8 x9 x10))))))
theorem t_M_computed_L43_86 {X : z_X} {Post : Option z_V → z_W → Prop} (M : z_M X zm_M_computed rm_M_computed Post) {T' : Nat → Nat × Nat} {G' : Nat → Nat → Option Nat} {n : Nat} {Q : (Int32 × Int32 × Int32 × Int32) → Prop} (S : (Nat → Nat → Int32))  (x2 : Int32) (x3 : Int32) (x4 : Int32) (x5 : Int32) (hE : ∀ (y6 : Int32) (y7 : Int32) (y8 : Int32) (y9 : Int32), Q (y6, y7, y8, y9) → z_G X zm_M_computed (194, [(4, .inl x4), (6, .inl y6), (7, .inl y7), (8, .inl y8), (9, .inl y9)], [], zW T' G' S n, 0, 0)) (f : Nat) : ∀ (x6 : Int32) (x7 : Int32) (x8 : Int32) (x9 : Int32) (x10 : Int32), Q (F_M_computed_L43 86 S x2 x3 x4 x5 f x6 x7 x8 x9 x10) → Sf_M_computed_L43 86 S x2 x3 x4 x5 f x6 x7 x8 x9 x10 → z_G X zm_M_computed (43, [(0, z_r 78), (1, z_r 86), (2, .inl x2), (3, .inl x3), (4, .inl x4), (5, .inl x5), (6, .inl x6), (7, .inl x7), (8, .inl x8), (9, .inl x9), (10, .inl x10)], [], zW T' G' S n, 0, 0) := by
  induction f with
  | zero => intro x6 x7 x8 x9 x10 K hs; exact False.elim hs
  | succ f hC =>
    intro x6 x7 x8 x9 x10 K hs
    rw [F_M_computed_L43] at K
    rw [Sf_M_computed_L43] at hs
    try simp only [Nat.reduceAdd] at K hs
    refine z_go2 M.1 43 [(.iload 10, 2), (.bipush 30, 2)] (47, [(0, z_r 78), (1, z_r 86), (2, .inl x2), (3, .inl x3), (4, .inl x4), (5, .inl x5), (6, .inl x6), (7, .inl x7), (8, .inl x8), (9, .inl x9), (10, .inl x10)], [.inl 30, .inl x10], zW T' G' S n, 0, 0) (by decide +kernel) rfl ⟨trivial, trivial, trivial⟩ ?_
    refine z_icmp_ge 194 M.1 (off := 147) (by decide +kernel) (by decide) (fun c47 => ?_) (fun c47 => ?_)
    · rw [if_pos c47] at K hs
      exact z_lvs (lv' := [(4, .inl x4), (6, .inl x6), (7, .inl x7), (8, .inl x8), (9, .inl x9)]) [4, 6, 7, 8, 9] rfl (hE x6 x7 x8 x9 K)
    · rw [if_neg c47] at K hs
      refine z_go2 M.1 50 [(.aload_n 1, 1), (.getfield 226, 3), (.iload 10, 2), (.baload, 1)] (57, [(0, z_r 78), (1, z_r 86), (2, .inl x2), (3, .inl x3), (4, .inl x4), (5, .inl x5), (6, .inl x6), (7, .inl x7), (8, .inl x8), (9, .inl x9), (10, .inl x10)], [.inl (S 95 (x10).toNatClampNeg)], zW T' G' S n, 0, 0) (by decide +kernel) rfl ⟨trivial, rfl, trivial, ⟨rfl, hs.1⟩, trivial⟩ ?_
      replace hs := hs.2
      refine z_if_eq 101 M.1 (off := 44) (by decide +kernel) (by decide) (fun c57 => ?_) (fun c57 => ?_)
      · rw [if_pos c57] at K hs
        exact z_lvs (lv' := [(0, z_r 78), (1, z_r 86), (2, .inl x2), (3, .inl x3), (4, .inl x4), (5, .inl x5), (6, .inl x6), (7, .inl x7), (8, .inl x8), (9, .inl x9), (10, .inl x10)]) [0, 1, 2, 3, 4, 5, 6, 7, 8, 9, 10] rfl (t_M_computed_l43_101_86 M (F_M_computed_L43 86 S x2 x3 x4 x5 f) (Sf_M_computed_L43 86 S x2 x3 x4 x5 f) S x2 x3 x4 x5 x6 x7 x8 x9 x10 hE hC K hs)
      · rw [if_neg c57] at K hs
        refine z_go2 M.1 60 [(.aload_n 1, 1), (.getfield 207, 3), (.iload 10, 2), (.iaload, 1), (.iload_n 3, 1)] (68, [(0, z_r 78), (1, z_r 86), (2, .inl x2), (3, .inl x3), (4, .inl x4), (5, .inl x5), (6, .inl x6), (7, .inl x7), (8, .inl x8), (9, .inl x9), (10, .inl x10)], [.inl x3, .inl (S 92 (x10).toNatClampNeg)], zW T' G' S n, 0, 0) (by decide +kernel) rfl ⟨trivial, rfl, trivial, ⟨rfl, hs.1⟩, trivial, trivial⟩ ?_
        replace hs := hs.2
        refine z_icmp_ne 101 M.1 (off := 33) (by decide +kernel) (by decide) (fun c68 => ?_) (fun c68 => ?_)
        · rw [if_neg c68] at K hs
          exact z_lvs (lv' := [(0, z_r 78), (1, z_r 86), (2, .inl x2), (3, .inl x3), (4, .inl x4), (5, .inl x5), (6, .inl x6), (7, .inl x7), (8, .inl x8), (9, .inl x9), (10, .inl x10)]) [0, 1, 2, 3, 4, 5, 6, 7, 8, 9, 10] rfl (t_M_computed_l43_101_86 M (F_M_computed_L43 86 S x2 x3 x4 x5 f) (Sf_M_computed_L43 86 S x2 x3 x4 x5 f) S x2 x3 x4 x5 x6 x7 x8 x9 x10 hE hC K hs)
        · rw [if_pos c68] at K hs
          refine z_go2 M.1 71 [(.aload_n 0, 1), (.aload_n 1, 1), (.iload_n 2, 1), (.iload 10, 2), (.iload 5, 2)] (78, [(0, z_r 78), (1, z_r 86), (2, .inl x2), (3, .inl x3), (4, .inl x4), (5, .inl x5), (6, .inl x6), (7, .inl x7), (8, .inl x8), (9, .inl x9), (10, .inl x10)], [.inl x5, .inl x10, .inl x2, z_r 86, z_r 78], zW T' G' S n, 0, 0) (by decide +kernel) rfl ⟨trivial, trivial, trivial, trivial, trivial, trivial⟩ ?_
          refine z_callV M.1 (av := [z_r 86, .inl x2, .inl x10, .inl x5]) (st := []) (a := 78) (ci := 14) (by decide +kernel) (c_M_readsIt_86 T' G' S n x2 x10 x5 hs.1) M.2.1 zl_M_243 zv_M_readsIt rfl rfl rfl ⟨by decide, by decide, by decide, by decide⟩ rfl (Nat.le_of_ble_eq_true rfl) (fun v w' hv => ?_)
          obtain ⟨rfl, rfl⟩ := hv
          replace hs := hs.2
          show z_G X zm_M_computed (81, [(0, z_r 78), (1, z_r 86), (2, .inl x2), (3, .inl x3), (4, .inl x4), (5, .inl x5), (6, .inl x6), (7, .inl x7), (8, .inl x8), (9, .inl x9), (10, .inl x10)], [.inl (F_M_readsIt 86 S x2 x10 x5)], zW T' G' S n, 0, 0)
          refine z_if_eq 101 M.1 (off := 20) (by decide +kernel) (by decide) (fun c81 => ?_) (fun c81 => ?_)
          · rw [if_pos c81] at K hs
            exact z_lvs (lv' := [(0, z_r 78), (1, z_r 86), (2, .inl x2), (3, .inl x3), (4, .inl x4), (5, .inl x5), (6, .inl x6), (7, .inl x7), (8, .inl x8), (9, .inl x9), (10, .inl x10)]) [0, 1, 2, 3, 4, 5, 6, 7, 8, 9, 10] rfl (t_M_computed_l43_101_86 M (F_M_computed_L43 86 S x2 x3 x4 x5 f) (Sf_M_computed_L43 86 S x2 x3 x4 x5 f) S x2 x3 x4 x5 x6 x7 x8 x9 x10 hE hC K hs)
          · rw [if_neg c81] at K hs
            refine z_go2 M.1 84 [(.aload_n 0, 1), (.aload_n 1, 1), (.iload 10, 2), (.iload 5, 2)] (90, [(0, z_r 78), (1, z_r 86), (2, .inl x2), (3, .inl x3), (4, .inl x4), (5, .inl x5), (6, .inl x6), (7, .inl x7), (8, .inl x8), (9, .inl x9), (10, .inl x10)], [.inl x5, .inl x10, z_r 86, z_r 78], zW T' G' S n, 0, 0) (by decide +kernel) rfl ⟨trivial, trivial, trivial, trivial, trivial⟩ ?_
            refine z_callV M.1 (av := [z_r 86, .inl x10, .inl x5]) (st := []) (a := 78) (ci := 14) (by decide +kernel) (c_M_valueOf_86 T' G' S n x10 x5 hs.1) M.2.1 zl_M_247 zv_M_valueOf rfl rfl rfl ⟨by decide, by decide, by decide, by decide⟩ rfl (Nat.le_of_ble_eq_true rfl) (fun v w' hv => ?_)
            obtain ⟨rfl, rfl⟩ := hv
            replace hs := hs.2
            show z_G X zm_M_computed (93, [(0, z_r 78), (1, z_r 86), (2, .inl x2), (3, .inl x3), (4, .inl x4), (5, .inl x5), (6, .inl x6), (7, .inl x7), (8, .inl x8), (9, .inl x9), (10, .inl x10)], [.inl (F_M_valueOf 86 S x10 x5)], zW T' G' S n, 0, 0)
            refine z_go2 M.1 93 [(.iconst (-1), 1)] (94, [(0, z_r 78), (1, z_r 86), (2, .inl x2), (3, .inl x3), (4, .inl x4), (5, .inl x5), (6, .inl x6), (7, .inl x7), (8, .inl x8), (9, .inl x9), (10, .inl x10)], [.inl (-1), .inl (F_M_valueOf 86 S x10 x5)], zW T' G' S n, 0, 0) (by decide +kernel) rfl ⟨trivial, trivial⟩ ?_
            refine z_icmp_eq 101 M.1 (off := 7) (by decide +kernel) (by decide) (fun c94 => ?_) (fun c94 => ?_)
            · rw [if_pos c94] at K hs
              exact z_lvs (lv' := [(0, z_r 78), (1, z_r 86), (2, .inl x2), (3, .inl x3), (4, .inl x4), (5, .inl x5), (6, .inl x6), (7, .inl x7), (8, .inl x8), (9, .inl x9), (10, .inl x10)]) [0, 1, 2, 3, 4, 5, 6, 7, 8, 9, 10] rfl (t_M_computed_l43_101_86 M (F_M_computed_L43 86 S x2 x3 x4 x5 f) (Sf_M_computed_L43 86 S x2 x3 x4 x5 f) S x2 x3 x4 x5 x6 x7 x8 x9 x10 hE hC K hs)
            · rw [if_neg c94] at K hs
              refine z_go2 M.1 97 [(.iconst 1, 1), (.goto 4, 3)] (102, [(0, z_r 78), (1, z_r 86), (2, .inl x2), (3, .inl x3), (4, .inl x4), (5, .inl x5), (6, .inl x6), (7, .inl x7), (8, .inl x8), (9, .inl x9), (10, .inl x10)], [.inl 1], zW T' G' S n, 0, 0) (by decide +kernel) rfl ⟨trivial, trivial, trivial⟩ ?_
              exact z_lvs (lv' := [(0, z_r 78), (1, z_r 86), (2, .inl x2), (3, .inl x3), (4, .inl x4), (5, .inl x5), (6, .inl x6), (7, .inl x7), (8, .inl x8), (9, .inl x9), (10, .inl x10)]) [0, 1, 2, 3, 4, 5, 6, 7, 8, 9, 10] rfl (t_M_computed_l43_102_86 M (F_M_computed_L43 86 S x2 x3 x4 x5 f) (Sf_M_computed_L43 86 S x2 x3 x4 x5 f) S x2 x3 x4 x5 x6 x7 x8 x9 x10 1 hE hC K hs)
theorem t_M_computed_L43_98 {X : z_X} {Post : Option z_V → z_W → Prop} (M : z_M X zm_M_computed rm_M_computed Post) {T' : Nat → Nat × Nat} {G' : Nat → Nat → Option Nat} {n : Nat} {Q : (Int32 × Int32 × Int32 × Int32) → Prop} (S : (Nat → Nat → Int32))  (x2 : Int32) (x3 : Int32) (x4 : Int32) (x5 : Int32) (hE : ∀ (y6 : Int32) (y7 : Int32) (y8 : Int32) (y9 : Int32), Q (y6, y7, y8, y9) → z_G X zm_M_computed (194, [(4, .inl x4), (6, .inl y6), (7, .inl y7), (8, .inl y8), (9, .inl y9)], [], zW T' G' S n, 0, 0)) (f : Nat) : ∀ (x6 : Int32) (x7 : Int32) (x8 : Int32) (x9 : Int32) (x10 : Int32), Q (F_M_computed_L43 98 S x2 x3 x4 x5 f x6 x7 x8 x9 x10) → Sf_M_computed_L43 98 S x2 x3 x4 x5 f x6 x7 x8 x9 x10 → z_G X zm_M_computed (43, [(0, z_r 78), (1, z_r 98), (2, .inl x2), (3, .inl x3), (4, .inl x4), (5, .inl x5), (6, .inl x6), (7, .inl x7), (8, .inl x8), (9, .inl x9), (10, .inl x10)], [], zW T' G' S n, 0, 0) := by
  induction f with
  | zero => intro x6 x7 x8 x9 x10 K hs; exact False.elim hs
  | succ f hC =>
    intro x6 x7 x8 x9 x10 K hs
    rw [F_M_computed_L43] at K
    rw [Sf_M_computed_L43] at hs
    try simp only [Nat.reduceAdd] at K hs
    refine z_go2 M.1 43 [(.iload 10, 2), (.bipush 30, 2)] (47, [(0, z_r 78), (1, z_r 98), (2, .inl x2), (3, .inl x3), (4, .inl x4), (5, .inl x5), (6, .inl x6), (7, .inl x7), (8, .inl x8), (9, .inl x9), (10, .inl x10)], [.inl 30, .inl x10], zW T' G' S n, 0, 0) (by decide +kernel) rfl ⟨trivial, trivial, trivial⟩ ?_
    refine z_icmp_ge 194 M.1 (off := 147) (by decide +kernel) (by decide) (fun c47 => ?_) (fun c47 => ?_)
    · rw [if_pos c47] at K hs
      exact z_lvs (lv' := [(4, .inl x4), (6, .inl x6), (7, .inl x7), (8, .inl x8), (9, .inl x9)]) [4, 6, 7, 8, 9] rfl (hE x6 x7 x8 x9 K)
    · rw [if_neg c47] at K hs
      refine z_go2 M.1 50 [(.aload_n 1, 1), (.getfield 226, 3), (.iload 10, 2), (.baload, 1)] (57, [(0, z_r 78), (1, z_r 98), (2, .inl x2), (3, .inl x3), (4, .inl x4), (5, .inl x5), (6, .inl x6), (7, .inl x7), (8, .inl x8), (9, .inl x9), (10, .inl x10)], [.inl (S 107 (x10).toNatClampNeg)], zW T' G' S n, 0, 0) (by decide +kernel) rfl ⟨trivial, rfl, trivial, ⟨rfl, hs.1⟩, trivial⟩ ?_
      replace hs := hs.2
      refine z_if_eq 101 M.1 (off := 44) (by decide +kernel) (by decide) (fun c57 => ?_) (fun c57 => ?_)
      · rw [if_pos c57] at K hs
        exact z_lvs (lv' := [(0, z_r 78), (1, z_r 98), (2, .inl x2), (3, .inl x3), (4, .inl x4), (5, .inl x5), (6, .inl x6), (7, .inl x7), (8, .inl x8), (9, .inl x9), (10, .inl x10)]) [0, 1, 2, 3, 4, 5, 6, 7, 8, 9, 10] rfl (t_M_computed_l43_101_98 M (F_M_computed_L43 98 S x2 x3 x4 x5 f) (Sf_M_computed_L43 98 S x2 x3 x4 x5 f) S x2 x3 x4 x5 x6 x7 x8 x9 x10 hE hC K hs)
      · rw [if_neg c57] at K hs
        refine z_go2 M.1 60 [(.aload_n 1, 1), (.getfield 207, 3), (.iload 10, 2), (.iaload, 1), (.iload_n 3, 1)] (68, [(0, z_r 78), (1, z_r 98), (2, .inl x2), (3, .inl x3), (4, .inl x4), (5, .inl x5), (6, .inl x6), (7, .inl x7), (8, .inl x8), (9, .inl x9), (10, .inl x10)], [.inl x3, .inl (S 104 (x10).toNatClampNeg)], zW T' G' S n, 0, 0) (by decide +kernel) rfl ⟨trivial, rfl, trivial, ⟨rfl, hs.1⟩, trivial, trivial⟩ ?_
        replace hs := hs.2
        refine z_icmp_ne 101 M.1 (off := 33) (by decide +kernel) (by decide) (fun c68 => ?_) (fun c68 => ?_)
        · rw [if_neg c68] at K hs
          exact z_lvs (lv' := [(0, z_r 78), (1, z_r 98), (2, .inl x2), (3, .inl x3), (4, .inl x4), (5, .inl x5), (6, .inl x6), (7, .inl x7), (8, .inl x8), (9, .inl x9), (10, .inl x10)]) [0, 1, 2, 3, 4, 5, 6, 7, 8, 9, 10] rfl (t_M_computed_l43_101_98 M (F_M_computed_L43 98 S x2 x3 x4 x5 f) (Sf_M_computed_L43 98 S x2 x3 x4 x5 f) S x2 x3 x4 x5 x6 x7 x8 x9 x10 hE hC K hs)
        · rw [if_pos c68] at K hs
          refine z_go2 M.1 71 [(.aload_n 0, 1), (.aload_n 1, 1), (.iload_n 2, 1), (.iload 10, 2), (.iload 5, 2)] (78, [(0, z_r 78), (1, z_r 98), (2, .inl x2), (3, .inl x3), (4, .inl x4), (5, .inl x5), (6, .inl x6), (7, .inl x7), (8, .inl x8), (9, .inl x9), (10, .inl x10)], [.inl x5, .inl x10, .inl x2, z_r 98, z_r 78], zW T' G' S n, 0, 0) (by decide +kernel) rfl ⟨trivial, trivial, trivial, trivial, trivial, trivial⟩ ?_
          refine z_callV M.1 (av := [z_r 98, .inl x2, .inl x10, .inl x5]) (st := []) (a := 78) (ci := 14) (by decide +kernel) (c_M_readsIt_98 T' G' S n x2 x10 x5 hs.1) M.2.1 zl_M_243 zv_M_readsIt rfl rfl rfl ⟨by decide, by decide, by decide, by decide⟩ rfl (Nat.le_of_ble_eq_true rfl) (fun v w' hv => ?_)
          obtain ⟨rfl, rfl⟩ := hv
          replace hs := hs.2
          show z_G X zm_M_computed (81, [(0, z_r 78), (1, z_r 98), (2, .inl x2), (3, .inl x3), (4, .inl x4), (5, .inl x5), (6, .inl x6), (7, .inl x7), (8, .inl x8), (9, .inl x9), (10, .inl x10)], [.inl (F_M_readsIt 98 S x2 x10 x5)], zW T' G' S n, 0, 0)
          refine z_if_eq 101 M.1 (off := 20) (by decide +kernel) (by decide) (fun c81 => ?_) (fun c81 => ?_)
          · rw [if_pos c81] at K hs
            exact z_lvs (lv' := [(0, z_r 78), (1, z_r 98), (2, .inl x2), (3, .inl x3), (4, .inl x4), (5, .inl x5), (6, .inl x6), (7, .inl x7), (8, .inl x8), (9, .inl x9), (10, .inl x10)]) [0, 1, 2, 3, 4, 5, 6, 7, 8, 9, 10] rfl (t_M_computed_l43_101_98 M (F_M_computed_L43 98 S x2 x3 x4 x5 f) (Sf_M_computed_L43 98 S x2 x3 x4 x5 f) S x2 x3 x4 x5 x6 x7 x8 x9 x10 hE hC K hs)
          · rw [if_neg c81] at K hs
            refine z_go2 M.1 84 [(.aload_n 0, 1), (.aload_n 1, 1), (.iload 10, 2), (.iload 5, 2)] (90, [(0, z_r 78), (1, z_r 98), (2, .inl x2), (3, .inl x3), (4, .inl x4), (5, .inl x5), (6, .inl x6), (7, .inl x7), (8, .inl x8), (9, .inl x9), (10, .inl x10)], [.inl x5, .inl x10, z_r 98, z_r 78], zW T' G' S n, 0, 0) (by decide +kernel) rfl ⟨trivial, trivial, trivial, trivial, trivial⟩ ?_
            refine z_callV M.1 (av := [z_r 98, .inl x10, .inl x5]) (st := []) (a := 78) (ci := 14) (by decide +kernel) (c_M_valueOf_98 T' G' S n x10 x5 hs.1) M.2.1 zl_M_247 zv_M_valueOf rfl rfl rfl ⟨by decide, by decide, by decide, by decide⟩ rfl (Nat.le_of_ble_eq_true rfl) (fun v w' hv => ?_)
            obtain ⟨rfl, rfl⟩ := hv
            replace hs := hs.2
            show z_G X zm_M_computed (93, [(0, z_r 78), (1, z_r 98), (2, .inl x2), (3, .inl x3), (4, .inl x4), (5, .inl x5), (6, .inl x6), (7, .inl x7), (8, .inl x8), (9, .inl x9), (10, .inl x10)], [.inl (F_M_valueOf 98 S x10 x5)], zW T' G' S n, 0, 0)
            refine z_go2 M.1 93 [(.iconst (-1), 1)] (94, [(0, z_r 78), (1, z_r 98), (2, .inl x2), (3, .inl x3), (4, .inl x4), (5, .inl x5), (6, .inl x6), (7, .inl x7), (8, .inl x8), (9, .inl x9), (10, .inl x10)], [.inl (-1), .inl (F_M_valueOf 98 S x10 x5)], zW T' G' S n, 0, 0) (by decide +kernel) rfl ⟨trivial, trivial⟩ ?_
            refine z_icmp_eq 101 M.1 (off := 7) (by decide +kernel) (by decide) (fun c94 => ?_) (fun c94 => ?_)
            · rw [if_pos c94] at K hs
              exact z_lvs (lv' := [(0, z_r 78), (1, z_r 98), (2, .inl x2), (3, .inl x3), (4, .inl x4), (5, .inl x5), (6, .inl x6), (7, .inl x7), (8, .inl x8), (9, .inl x9), (10, .inl x10)]) [0, 1, 2, 3, 4, 5, 6, 7, 8, 9, 10] rfl (t_M_computed_l43_101_98 M (F_M_computed_L43 98 S x2 x3 x4 x5 f) (Sf_M_computed_L43 98 S x2 x3 x4 x5 f) S x2 x3 x4 x5 x6 x7 x8 x9 x10 hE hC K hs)
            · rw [if_neg c94] at K hs
              refine z_go2 M.1 97 [(.iconst 1, 1), (.goto 4, 3)] (102, [(0, z_r 78), (1, z_r 98), (2, .inl x2), (3, .inl x3), (4, .inl x4), (5, .inl x5), (6, .inl x6), (7, .inl x7), (8, .inl x8), (9, .inl x9), (10, .inl x10)], [.inl 1], zW T' G' S n, 0, 0) (by decide +kernel) rfl ⟨trivial, trivial, trivial⟩ ?_
              exact z_lvs (lv' := [(0, z_r 78), (1, z_r 98), (2, .inl x2), (3, .inl x3), (4, .inl x4), (5, .inl x5), (6, .inl x6), (7, .inl x7), (8, .inl x8), (9, .inl x9), (10, .inl x10)]) [0, 1, 2, 3, 4, 5, 6, 7, 8, 9, 10] rfl (t_M_computed_l43_102_98 M (F_M_computed_L43 98 S x2 x3 x4 x5 f) (Sf_M_computed_L43 98 S x2 x3 x4 x5 f) S x2 x3 x4 x5 x6 x7 x8 x9 x10 1 hE hC K hs)
def F_M_computed (w : Nat) (S : (Nat → Nat → Int32)) (p2 : Int32) (p3 : Int32) : Int32 := (match F_M_computed_L43 w S p2 p3 (S 129 (S (w + 2) (p3).toNatClampNeg).toNatClampNeg) (S 130 (S (w + 2) (p3).toNatClampNeg).toNatClampNeg) 1300 0 0 1000 (-1) 0 with | (y6_43, y7_43, y8_43, y9_43) => (if (S 129 (S (w + 2) (p3).toNatClampNeg).toNatClampNeg) = (-1) then (-1) else (if (S 129 (S (w + 2) (p3).toNatClampNeg).toNatClampNeg) = 0 then y6_43 else (if (S 129 (S (w + 2) (p3).toNatClampNeg).toNatClampNeg) = 1 then y7_43 else (if y6_43 = 0 then (-1) else (if (S 129 (S (w + 2) (p3).toNatClampNeg).toNatClampNeg) = 2 then y8_43 else y9_43))))))
def Sf_M_computed (w : Nat) (S : (Nat → Nat → Int32)) (p2 : Int32) (p3 : Int32) : Prop := ((vp_in p3 30) ∧ ((vp_in (S (w + 2) (p3).toNatClampNeg) 3) ∧ ((vp_in p3 30) ∧ ((vp_in (S (w + 2) (p3).toNatClampNeg) 3) ∧ (Sf_M_computed_L43 w S p2 p3 (S 129 (S (w + 2) (p3).toNatClampNeg).toNatClampNeg) (S 130 (S (w + 2) (p3).toNatClampNeg).toNatClampNeg) 1300 0 0 1000 (-1) 0 ∧ True)))))
theorem c_M_computed_86 (T' : Nat → Nat × Nat) (G' : Nat → Nat → Option Nat) (S : (Nat → Nat → Int32)) (n : Nat) (p2 : Int32) (p3 : Int32) (hs : Sf_M_computed 86 S p2 p3) : z_Run rm_M_computed zm_M_computed [z_r 78, z_r 86, .inl p2, .inl p3] (zW T' G' S n) (zq (some (.inl (F_M_computed 86 S p2 p3))) (zW T' G' S n)) := by
  refine z_body (by decide) zf_M_ok (Nat.le_of_ble_eq_true rfl) (fun X M => ?_)
  obtain ⟨Q, hQ, K⟩ : ∃ Q : Int32 → Prop, (∀ v, Q v → zq (some (.inl (F_M_computed 86 S p2 p3))) (zW T' G' S n) (some (.inl v)) (zW T' G' S n)) ∧ Q (F_M_computed 86 S p2 p3) := ⟨fun o => F_M_computed 86 S p2 p3 = o, fun v h => ⟨by rw [h], rfl⟩, rfl⟩
  show z_G X zm_M_computed (0, [(0, z_r 78), (1, z_r 86), (2, .inl p2), (3, .inl p3)], [], zW T' G' S n, 0, 0)
  unfold F_M_computed at K
  unfold Sf_M_computed at hs
  try simp only [Nat.reduceAdd] at K hs
  refine z_go2 M.1 0 [(.aload_n 0, 1), (.getfield 65, 3), (.aload_n 1, 1), (.getfield 237, 3), (.iload_n 3, 1), (.iaload, 1), (.iaload, 1), (.istore 4, 2), (.aload_n 0, 1), (.getfield 68, 3), (.aload_n 1, 1), (.getfield 237, 3), (.iload_n 3, 1), (.iaload, 1), (.iaload, 1), (.istore 5, 2), (.iconst 0, 1), (.istore 6, 2), (.iconst 0, 1), (.istore 7, 2), (.sipush 1000, 3), (.istore 8, 2), (.iconst (-1), 1), (.istore 9, 2), (.iconst 0, 1), (.istore 10, 2)] (43, [(10, .inl 0), (9, .inl (-1)), (8, .inl 1000), (7, .inl 0), (6, .inl 0), (5, .inl (S 130 (S 88 (p3).toNatClampNeg).toNatClampNeg)), (4, .inl (S 129 (S 88 (p3).toNatClampNeg).toNatClampNeg)), (0, z_r 78), (1, z_r 86), (2, .inl p2), (3, .inl p3)], [], zW T' G' S n, 0, 0) (by decide +kernel) rfl ⟨trivial, rfl, trivial, rfl, trivial, ⟨rfl, hs.1⟩, ⟨rfl, hs.2.1⟩, trivial, trivial, rfl, trivial, rfl, trivial, ⟨rfl, hs.2.2.1⟩, ⟨rfl, hs.2.2.2.1⟩, trivial, trivial, trivial, trivial, trivial, trivial, trivial, trivial, trivial, trivial, trivial, trivial⟩ ?_
  replace hs := hs.2.2.2.2
  refine z_lvs (lv' := [(0, z_r 78), (1, z_r 86), (2, .inl p2), (3, .inl p3), (4, .inl (S 129 (S 88 (p3).toNatClampNeg).toNatClampNeg)), (5, .inl (S 130 (S 88 (p3).toNatClampNeg).toNatClampNeg)), (6, .inl 0), (7, .inl 0), (8, .inl 1000), (9, .inl (-1)), (10, .inl 0)]) [7, 8, 9, 10, 6, 5, 4, 3, 2, 1, 0] rfl ?_
  refine t_M_computed_L43_86 M (Q := fun o => F_M_computed_L43 86 S p2 p3 (S 129 (S 88 (p3).toNatClampNeg).toNatClampNeg) (S 130 (S 88 (p3).toNatClampNeg).toNatClampNeg) 1300 0 0 1000 (-1) 0 = o) S p2 p3 (S 129 (S 88 (p3).toNatClampNeg).toNatClampNeg) (S 130 (S 88 (p3).toNatClampNeg).toNatClampNeg) (fun y6_43 y7_43 y8_43 y9_43 hL43 => ?_) 1300 0 0 1000 (-1) 0 rfl hs.1
  replace hs := hs.2
  rw [hL43] at K
  try dsimp only at K
  refine z_go2 M.1 194 [(.iload 4, 2), (.iconst (-1), 1)] (197, [(4, .inl (S 129 (S 88 (p3).toNatClampNeg).toNatClampNeg)), (6, .inl y6_43), (7, .inl y7_43), (8, .inl y8_43), (9, .inl y9_43)], [.inl (-1), .inl (S 129 (S 88 (p3).toNatClampNeg).toNatClampNeg)], zW T' G' S n, 0, 0) (by decide +kernel) rfl ⟨trivial, trivial, trivial⟩ ?_
  refine z_icmp_ne 202 M.1 (off := 5) (by decide +kernel) (by decide) (fun c197 => ?_) (fun c197 => ?_)
  · rw [if_neg c197] at K
    refine z_go2 M.1 202 [(.iload 4, 2)] (204, [(4, .inl (S 129 (S 88 (p3).toNatClampNeg).toNatClampNeg)), (6, .inl y6_43), (7, .inl y7_43), (8, .inl y8_43), (9, .inl y9_43)], [.inl (S 129 (S 88 (p3).toNatClampNeg).toNatClampNeg)], zW T' G' S n, 0, 0) (by decide +kernel) rfl ⟨trivial, trivial⟩ ?_
    refine z_if_ne 212 M.1 (off := 8) (by decide +kernel) (by decide) (fun c204 => ?_) (fun c204 => ?_)
    · rw [if_neg c204] at K
      refine z_go2 M.1 212 [(.iload 4, 2), (.iconst 1, 1)] (215, [(4, .inl (S 129 (S 88 (p3).toNatClampNeg).toNatClampNeg)), (6, .inl y6_43), (7, .inl y7_43), (8, .inl y8_43), (9, .inl y9_43)], [.inl 1, .inl (S 129 (S 88 (p3).toNatClampNeg).toNatClampNeg)], zW T' G' S n, 0, 0) (by decide +kernel) rfl ⟨trivial, trivial, trivial⟩ ?_
      refine z_icmp_ne 223 M.1 (off := 8) (by decide +kernel) (by decide) (fun c215 => ?_) (fun c215 => ?_)
      · rw [if_neg c215] at K
        refine z_go2 M.1 223 [(.iload 6, 2)] (225, [(4, .inl (S 129 (S 88 (p3).toNatClampNeg).toNatClampNeg)), (6, .inl y6_43), (7, .inl y7_43), (8, .inl y8_43), (9, .inl y9_43)], [.inl y6_43], zW T' G' S n, 0, 0) (by decide +kernel) rfl ⟨trivial, trivial⟩ ?_
        refine z_if_ne 232 M.1 (off := 7) (by decide +kernel) (by decide) (fun c225 => ?_) (fun c225 => ?_)
        · rw [if_neg c225] at K
          refine z_go2 M.1 232 [(.iload 4, 2), (.iconst 2, 1)] (235, [(4, .inl (S 129 (S 88 (p3).toNatClampNeg).toNatClampNeg)), (6, .inl y6_43), (7, .inl y7_43), (8, .inl y8_43), (9, .inl y9_43)], [.inl 2, .inl (S 129 (S 88 (p3).toNatClampNeg).toNatClampNeg)], zW T' G' S n, 0, 0) (by decide +kernel) rfl ⟨trivial, trivial, trivial⟩ ?_
          refine z_icmp_ne 243 M.1 (off := 8) (by decide +kernel) (by decide) (fun c235 => ?_) (fun c235 => ?_)
          · rw [if_neg c235] at K
            refine z_go2 M.1 243 [(.iload 9, 2)] (245, [(4, .inl (S 129 (S 88 (p3).toNatClampNeg).toNatClampNeg)), (6, .inl y6_43), (7, .inl y7_43), (8, .inl y8_43), (9, .inl y9_43)], [.inl y9_43], zW T' G' S n, 0, 0) (by decide +kernel) rfl ⟨trivial, trivial⟩ ?_
            exact z_iret M (by decide +kernel) .int rfl rfl (by decide) (by decide) (hQ _ K)
          · rw [if_pos c235] at K
            refine z_go2 M.1 238 [(.iload 8, 2), (.goto 5, 3)] (245, [(4, .inl (S 129 (S 88 (p3).toNatClampNeg).toNatClampNeg)), (6, .inl y6_43), (7, .inl y7_43), (8, .inl y8_43), (9, .inl y9_43)], [.inl y8_43], zW T' G' S n, 0, 0) (by decide +kernel) rfl ⟨trivial, trivial, trivial⟩ ?_
            exact z_iret M (by decide +kernel) .int rfl rfl (by decide) (by decide) (hQ _ K)
        · rw [if_pos c225] at K
          refine z_go2 M.1 228 [(.iconst (-1), 1), (.goto 16, 3)] (245, [(4, .inl (S 129 (S 88 (p3).toNatClampNeg).toNatClampNeg)), (6, .inl y6_43), (7, .inl y7_43), (8, .inl y8_43), (9, .inl y9_43)], [.inl (-1)], zW T' G' S n, 0, 0) (by decide +kernel) rfl ⟨trivial, trivial, trivial⟩ ?_
          exact z_iret M (by decide +kernel) .int rfl rfl (by decide) (by decide) (hQ _ K)
      · rw [if_pos c215] at K
        refine z_go2 M.1 218 [(.iload 7, 2), (.goto 25, 3)] (245, [(4, .inl (S 129 (S 88 (p3).toNatClampNeg).toNatClampNeg)), (6, .inl y6_43), (7, .inl y7_43), (8, .inl y8_43), (9, .inl y9_43)], [.inl y7_43], zW T' G' S n, 0, 0) (by decide +kernel) rfl ⟨trivial, trivial, trivial⟩ ?_
        exact z_iret M (by decide +kernel) .int rfl rfl (by decide) (by decide) (hQ _ K)
    · rw [if_pos c204] at K
      refine z_go2 M.1 207 [(.iload 6, 2), (.goto 36, 3)] (245, [(4, .inl (S 129 (S 88 (p3).toNatClampNeg).toNatClampNeg)), (6, .inl y6_43), (7, .inl y7_43), (8, .inl y8_43), (9, .inl y9_43)], [.inl y6_43], zW T' G' S n, 0, 0) (by decide +kernel) rfl ⟨trivial, trivial, trivial⟩ ?_
      exact z_iret M (by decide +kernel) .int rfl rfl (by decide) (by decide) (hQ _ K)
  · rw [if_pos c197] at K
    refine z_go2 M.1 200 [(.iconst (-1), 1)] (201, [(4, .inl (S 129 (S 88 (p3).toNatClampNeg).toNatClampNeg)), (6, .inl y6_43), (7, .inl y7_43), (8, .inl y8_43), (9, .inl y9_43)], [.inl (-1)], zW T' G' S n, 0, 0) (by decide +kernel) rfl ⟨trivial, trivial⟩ ?_
    exact z_iret M (by decide +kernel) .int rfl rfl (by decide) (by decide) (hQ _ K)
theorem c_M_computed_98 (T' : Nat → Nat × Nat) (G' : Nat → Nat → Option Nat) (S : (Nat → Nat → Int32)) (n : Nat) (p2 : Int32) (p3 : Int32) (hs : Sf_M_computed 98 S p2 p3) : z_Run rm_M_computed zm_M_computed [z_r 78, z_r 98, .inl p2, .inl p3] (zW T' G' S n) (zq (some (.inl (F_M_computed 98 S p2 p3))) (zW T' G' S n)) := by
  refine z_body (by decide) zf_M_ok (Nat.le_of_ble_eq_true rfl) (fun X M => ?_)
  obtain ⟨Q, hQ, K⟩ : ∃ Q : Int32 → Prop, (∀ v, Q v → zq (some (.inl (F_M_computed 98 S p2 p3))) (zW T' G' S n) (some (.inl v)) (zW T' G' S n)) ∧ Q (F_M_computed 98 S p2 p3) := ⟨fun o => F_M_computed 98 S p2 p3 = o, fun v h => ⟨by rw [h], rfl⟩, rfl⟩
  show z_G X zm_M_computed (0, [(0, z_r 78), (1, z_r 98), (2, .inl p2), (3, .inl p3)], [], zW T' G' S n, 0, 0)
  unfold F_M_computed at K
  unfold Sf_M_computed at hs
  try simp only [Nat.reduceAdd] at K hs
  refine z_go2 M.1 0 [(.aload_n 0, 1), (.getfield 65, 3), (.aload_n 1, 1), (.getfield 237, 3), (.iload_n 3, 1), (.iaload, 1), (.iaload, 1), (.istore 4, 2), (.aload_n 0, 1), (.getfield 68, 3), (.aload_n 1, 1), (.getfield 237, 3), (.iload_n 3, 1), (.iaload, 1), (.iaload, 1), (.istore 5, 2), (.iconst 0, 1), (.istore 6, 2), (.iconst 0, 1), (.istore 7, 2), (.sipush 1000, 3), (.istore 8, 2), (.iconst (-1), 1), (.istore 9, 2), (.iconst 0, 1), (.istore 10, 2)] (43, [(10, .inl 0), (9, .inl (-1)), (8, .inl 1000), (7, .inl 0), (6, .inl 0), (5, .inl (S 130 (S 100 (p3).toNatClampNeg).toNatClampNeg)), (4, .inl (S 129 (S 100 (p3).toNatClampNeg).toNatClampNeg)), (0, z_r 78), (1, z_r 98), (2, .inl p2), (3, .inl p3)], [], zW T' G' S n, 0, 0) (by decide +kernel) rfl ⟨trivial, rfl, trivial, rfl, trivial, ⟨rfl, hs.1⟩, ⟨rfl, hs.2.1⟩, trivial, trivial, rfl, trivial, rfl, trivial, ⟨rfl, hs.2.2.1⟩, ⟨rfl, hs.2.2.2.1⟩, trivial, trivial, trivial, trivial, trivial, trivial, trivial, trivial, trivial, trivial, trivial, trivial⟩ ?_
  replace hs := hs.2.2.2.2
  refine z_lvs (lv' := [(0, z_r 78), (1, z_r 98), (2, .inl p2), (3, .inl p3), (4, .inl (S 129 (S 100 (p3).toNatClampNeg).toNatClampNeg)), (5, .inl (S 130 (S 100 (p3).toNatClampNeg).toNatClampNeg)), (6, .inl 0), (7, .inl 0), (8, .inl 1000), (9, .inl (-1)), (10, .inl 0)]) [7, 8, 9, 10, 6, 5, 4, 3, 2, 1, 0] rfl ?_
  refine t_M_computed_L43_98 M (Q := fun o => F_M_computed_L43 98 S p2 p3 (S 129 (S 100 (p3).toNatClampNeg).toNatClampNeg) (S 130 (S 100 (p3).toNatClampNeg).toNatClampNeg) 1300 0 0 1000 (-1) 0 = o) S p2 p3 (S 129 (S 100 (p3).toNatClampNeg).toNatClampNeg) (S 130 (S 100 (p3).toNatClampNeg).toNatClampNeg) (fun y6_43 y7_43 y8_43 y9_43 hL43 => ?_) 1300 0 0 1000 (-1) 0 rfl hs.1
  replace hs := hs.2
  rw [hL43] at K
  try dsimp only at K
  refine z_go2 M.1 194 [(.iload 4, 2), (.iconst (-1), 1)] (197, [(4, .inl (S 129 (S 100 (p3).toNatClampNeg).toNatClampNeg)), (6, .inl y6_43), (7, .inl y7_43), (8, .inl y8_43), (9, .inl y9_43)], [.inl (-1), .inl (S 129 (S 100 (p3).toNatClampNeg).toNatClampNeg)], zW T' G' S n, 0, 0) (by decide +kernel) rfl ⟨trivial, trivial, trivial⟩ ?_
  refine z_icmp_ne 202 M.1 (off := 5) (by decide +kernel) (by decide) (fun c197 => ?_) (fun c197 => ?_)
  · rw [if_neg c197] at K
    refine z_go2 M.1 202 [(.iload 4, 2)] (204, [(4, .inl (S 129 (S 100 (p3).toNatClampNeg).toNatClampNeg)), (6, .inl y6_43), (7, .inl y7_43), (8, .inl y8_43), (9, .inl y9_43)], [.inl (S 129 (S 100 (p3).toNatClampNeg).toNatClampNeg)], zW T' G' S n, 0, 0) (by decide +kernel) rfl ⟨trivial, trivial⟩ ?_
    refine z_if_ne 212 M.1 (off := 8) (by decide +kernel) (by decide) (fun c204 => ?_) (fun c204 => ?_)
    · rw [if_neg c204] at K
      refine z_go2 M.1 212 [(.iload 4, 2), (.iconst 1, 1)] (215, [(4, .inl (S 129 (S 100 (p3).toNatClampNeg).toNatClampNeg)), (6, .inl y6_43), (7, .inl y7_43), (8, .inl y8_43), (9, .inl y9_43)], [.inl 1, .inl (S 129 (S 100 (p3).toNatClampNeg).toNatClampNeg)], zW T' G' S n, 0, 0) (by decide +kernel) rfl ⟨trivial, trivial, trivial⟩ ?_
      refine z_icmp_ne 223 M.1 (off := 8) (by decide +kernel) (by decide) (fun c215 => ?_) (fun c215 => ?_)
      · rw [if_neg c215] at K
        refine z_go2 M.1 223 [(.iload 6, 2)] (225, [(4, .inl (S 129 (S 100 (p3).toNatClampNeg).toNatClampNeg)), (6, .inl y6_43), (7, .inl y7_43), (8, .inl y8_43), (9, .inl y9_43)], [.inl y6_43], zW T' G' S n, 0, 0) (by decide +kernel) rfl ⟨trivial, trivial⟩ ?_
        refine z_if_ne 232 M.1 (off := 7) (by decide +kernel) (by decide) (fun c225 => ?_) (fun c225 => ?_)
        · rw [if_neg c225] at K
          refine z_go2 M.1 232 [(.iload 4, 2), (.iconst 2, 1)] (235, [(4, .inl (S 129 (S 100 (p3).toNatClampNeg).toNatClampNeg)), (6, .inl y6_43), (7, .inl y7_43), (8, .inl y8_43), (9, .inl y9_43)], [.inl 2, .inl (S 129 (S 100 (p3).toNatClampNeg).toNatClampNeg)], zW T' G' S n, 0, 0) (by decide +kernel) rfl ⟨trivial, trivial, trivial⟩ ?_
          refine z_icmp_ne 243 M.1 (off := 8) (by decide +kernel) (by decide) (fun c235 => ?_) (fun c235 => ?_)
          · rw [if_neg c235] at K
            refine z_go2 M.1 243 [(.iload 9, 2)] (245, [(4, .inl (S 129 (S 100 (p3).toNatClampNeg).toNatClampNeg)), (6, .inl y6_43), (7, .inl y7_43), (8, .inl y8_43), (9, .inl y9_43)], [.inl y9_43], zW T' G' S n, 0, 0) (by decide +kernel) rfl ⟨trivial, trivial⟩ ?_
            exact z_iret M (by decide +kernel) .int rfl rfl (by decide) (by decide) (hQ _ K)
          · rw [if_pos c235] at K
            refine z_go2 M.1 238 [(.iload 8, 2), (.goto 5, 3)] (245, [(4, .inl (S 129 (S 100 (p3).toNatClampNeg).toNatClampNeg)), (6, .inl y6_43), (7, .inl y7_43), (8, .inl y8_43), (9, .inl y9_43)], [.inl y8_43], zW T' G' S n, 0, 0) (by decide +kernel) rfl ⟨trivial, trivial, trivial⟩ ?_
            exact z_iret M (by decide +kernel) .int rfl rfl (by decide) (by decide) (hQ _ K)
        · rw [if_pos c225] at K
          refine z_go2 M.1 228 [(.iconst (-1), 1), (.goto 16, 3)] (245, [(4, .inl (S 129 (S 100 (p3).toNatClampNeg).toNatClampNeg)), (6, .inl y6_43), (7, .inl y7_43), (8, .inl y8_43), (9, .inl y9_43)], [.inl (-1)], zW T' G' S n, 0, 0) (by decide +kernel) rfl ⟨trivial, trivial, trivial⟩ ?_
          exact z_iret M (by decide +kernel) .int rfl rfl (by decide) (by decide) (hQ _ K)
      · rw [if_pos c215] at K
        refine z_go2 M.1 218 [(.iload 7, 2), (.goto 25, 3)] (245, [(4, .inl (S 129 (S 100 (p3).toNatClampNeg).toNatClampNeg)), (6, .inl y6_43), (7, .inl y7_43), (8, .inl y8_43), (9, .inl y9_43)], [.inl y7_43], zW T' G' S n, 0, 0) (by decide +kernel) rfl ⟨trivial, trivial, trivial⟩ ?_
        exact z_iret M (by decide +kernel) .int rfl rfl (by decide) (by decide) (hQ _ K)
    · rw [if_pos c204] at K
      refine z_go2 M.1 207 [(.iload 6, 2), (.goto 36, 3)] (245, [(4, .inl (S 129 (S 100 (p3).toNatClampNeg).toNatClampNeg)), (6, .inl y6_43), (7, .inl y7_43), (8, .inl y8_43), (9, .inl y9_43)], [.inl y6_43], zW T' G' S n, 0, 0) (by decide +kernel) rfl ⟨trivial, trivial, trivial⟩ ?_
      exact z_iret M (by decide +kernel) .int rfl rfl (by decide) (by decide) (hQ _ K)
  · rw [if_pos c197] at K
    refine z_go2 M.1 200 [(.iconst (-1), 1)] (201, [(4, .inl (S 129 (S 100 (p3).toNatClampNeg).toNatClampNeg)), (6, .inl y6_43), (7, .inl y7_43), (8, .inl y8_43), (9, .inl y9_43)], [.inl (-1)], zW T' G' S n, 0, 0) (by decide +kernel) rfl ⟨trivial, trivial⟩ ?_
    exact z_iret M (by decide +kernel) .int rfl rfl (by decide) (by decide) (hQ _ K)

-- TrackHouseModel.valueFor
abbrev rm_M_valueFor : Room := zr 4
def F_M_valueFor (w : Nat) (S : (Nat → Nat → Int32)) (p2 : Int32) (p3 : Int32) (p4 : Int32) : Int32 := (if (F_M_readsIt w S p2 p3 p4) = 0 then (-1) else (if p4 = 3 then (F_M_computed w S p2 p3) else (F_M_valueOf w S p3 p4)))
def Sf_M_valueFor (w : Nat) (S : (Nat → Nat → Int32)) (p2 : Int32) (p3 : Int32) (p4 : Int32) : Prop := (Sf_M_readsIt w S p2 p3 p4 ∧ (if (F_M_readsIt w S p2 p3 p4) = 0 then True else (if p4 = 3 then (Sf_M_computed w S p2 p3 ∧ True) else (Sf_M_valueOf w S p3 p4 ∧ True))))
theorem c_M_valueFor_86 (T' : Nat → Nat × Nat) (G' : Nat → Nat → Option Nat) (S : (Nat → Nat → Int32)) (n : Nat) (p2 : Int32) (p3 : Int32) (p4 : Int32) (hs : Sf_M_valueFor 86 S p2 p3 p4) : z_Run rm_M_valueFor zm_M_valueFor [z_r 78, z_r 86, .inl p2, .inl p3, .inl p4] (zW T' G' S n) (zq (some (.inl (F_M_valueFor 86 S p2 p3 p4))) (zW T' G' S n)) := by
  refine z_body (by decide) zf_M_ok (Nat.le_of_ble_eq_true rfl) (fun X M => ?_)
  obtain ⟨Q, hQ, K⟩ : ∃ Q : Int32 → Prop, (∀ v, Q v → zq (some (.inl (F_M_valueFor 86 S p2 p3 p4))) (zW T' G' S n) (some (.inl v)) (zW T' G' S n)) ∧ Q (F_M_valueFor 86 S p2 p3 p4) := ⟨fun o => F_M_valueFor 86 S p2 p3 p4 = o, fun v h => ⟨by rw [h], rfl⟩, rfl⟩
  show z_G X zm_M_valueFor (0, [(0, z_r 78), (1, z_r 86), (2, .inl p2), (3, .inl p3), (4, .inl p4)], [], zW T' G' S n, 0, 0)
  unfold F_M_valueFor at K
  unfold Sf_M_valueFor at hs
  try simp only [Nat.reduceAdd] at K hs
  refine z_go2 M.1 0 [(.aload_n 0, 1), (.aload_n 1, 1), (.iload_n 2, 1), (.iload_n 3, 1), (.iload 4, 2)] (6, [(0, z_r 78), (1, z_r 86), (2, .inl p2), (3, .inl p3), (4, .inl p4)], [.inl p4, .inl p3, .inl p2, z_r 86, z_r 78], zW T' G' S n, 0, 0) (by decide +kernel) rfl ⟨trivial, trivial, trivial, trivial, trivial, trivial⟩ ?_
  refine z_callV M.1 (av := [z_r 86, .inl p2, .inl p3, .inl p4]) (st := []) (a := 78) (ci := 14) (by decide +kernel) (c_M_readsIt_86 T' G' S n p2 p3 p4 hs.1) M.2.1 zl_M_243 zv_M_readsIt rfl rfl rfl ⟨by decide, by decide, by decide, by decide⟩ rfl (Nat.le_of_ble_eq_true rfl) (fun v w' hv => ?_)
  obtain ⟨rfl, rfl⟩ := hv
  replace hs := hs.2
  show z_G X zm_M_valueFor (9, [(0, z_r 78), (1, z_r 86), (2, .inl p2), (3, .inl p3), (4, .inl p4)], [.inl (F_M_readsIt 86 S p2 p3 p4)], zW T' G' S n, 0, 0)
  refine z_if_ne 14 M.1 (off := 5) (by decide +kernel) (by decide) (fun c9 => ?_) (fun c9 => ?_)
  · rw [if_neg c9] at K hs
    refine z_go2 M.1 14 [(.iload 4, 2), (.iconst 3, 1)] (17, [(0, z_r 78), (1, z_r 86), (2, .inl p2), (3, .inl p3), (4, .inl p4)], [.inl 3, .inl p4], zW T' G' S n, 0, 0) (by decide +kernel) rfl ⟨trivial, trivial, trivial⟩ ?_
    refine z_icmp_ne 30 M.1 (off := 13) (by decide +kernel) (by decide) (fun c17 => ?_) (fun c17 => ?_)
    · rw [if_neg c17] at K hs
      refine z_go2 M.1 30 [(.aload_n 0, 1), (.aload_n 1, 1), (.iload_n 3, 1), (.iload 4, 2)] (35, [(0, z_r 78), (1, z_r 86), (2, .inl p2), (3, .inl p3), (4, .inl p4)], [.inl p4, .inl p3, z_r 86, z_r 78], zW T' G' S n, 0, 0) (by decide +kernel) rfl ⟨trivial, trivial, trivial, trivial, trivial⟩ ?_
      refine z_callV M.1 (av := [z_r 86, .inl p3, .inl p4]) (st := []) (a := 78) (ci := 14) (by decide +kernel) (c_M_valueOf_86 T' G' S n p3 p4 hs.1) M.2.1 zl_M_247 zv_M_valueOf rfl rfl rfl ⟨by decide, by decide, by decide, by decide⟩ rfl (Nat.le_of_ble_eq_true rfl) (fun v w' hv => ?_)
      obtain ⟨rfl, rfl⟩ := hv
      replace hs := hs.2
      show z_G X zm_M_valueFor (38, [(0, z_r 78), (1, z_r 86), (2, .inl p2), (3, .inl p3), (4, .inl p4)], [.inl (F_M_valueOf 86 S p3 p4)], zW T' G' S n, 0, 0)
      exact z_iret M (by decide +kernel) .int rfl rfl (by decide) (by decide) (hQ _ K)
    · rw [if_pos c17] at K hs
      refine z_go2 M.1 20 [(.aload_n 0, 1), (.aload_n 1, 1), (.iload_n 2, 1), (.iload_n 3, 1)] (24, [(0, z_r 78), (1, z_r 86), (2, .inl p2), (3, .inl p3), (4, .inl p4)], [.inl p3, .inl p2, z_r 86, z_r 78], zW T' G' S n, 0, 0) (by decide +kernel) rfl ⟨trivial, trivial, trivial, trivial, trivial⟩ ?_
      refine z_callV M.1 (av := [z_r 86, .inl p2, .inl p3]) (st := []) (a := 78) (ci := 14) (by decide +kernel) (c_M_computed_86 T' G' S n p2 p3 hs.1) M.2.1 zl_M_250 zv_M_computed rfl rfl rfl ⟨by decide, by decide, by decide, by decide⟩ rfl (Nat.le_of_ble_eq_true rfl) (fun v w' hv => ?_)
      obtain ⟨rfl, rfl⟩ := hv
      replace hs := hs.2
      show z_G X zm_M_valueFor (27, [(0, z_r 78), (1, z_r 86), (2, .inl p2), (3, .inl p3), (4, .inl p4)], [.inl (F_M_computed 86 S p2 p3)], zW T' G' S n, 0, 0)
      refine z_go2 M.1 27 [(.goto 11, 3)] (38, [(0, z_r 78), (1, z_r 86), (2, .inl p2), (3, .inl p3), (4, .inl p4)], [.inl (F_M_computed 86 S p2 p3)], zW T' G' S n, 0, 0) (by decide +kernel) rfl ⟨trivial, trivial⟩ ?_
      exact z_iret M (by decide +kernel) .int rfl rfl (by decide) (by decide) (hQ _ K)
  · rw [if_pos c9] at K hs
    refine z_go2 M.1 12 [(.iconst (-1), 1)] (13, [(0, z_r 78), (1, z_r 86), (2, .inl p2), (3, .inl p3), (4, .inl p4)], [.inl (-1)], zW T' G' S n, 0, 0) (by decide +kernel) rfl ⟨trivial, trivial⟩ ?_
    exact z_iret M (by decide +kernel) .int rfl rfl (by decide) (by decide) (hQ _ K)
theorem c_M_valueFor_98 (T' : Nat → Nat × Nat) (G' : Nat → Nat → Option Nat) (S : (Nat → Nat → Int32)) (n : Nat) (p2 : Int32) (p3 : Int32) (p4 : Int32) (hs : Sf_M_valueFor 98 S p2 p3 p4) : z_Run rm_M_valueFor zm_M_valueFor [z_r 78, z_r 98, .inl p2, .inl p3, .inl p4] (zW T' G' S n) (zq (some (.inl (F_M_valueFor 98 S p2 p3 p4))) (zW T' G' S n)) := by
  refine z_body (by decide) zf_M_ok (Nat.le_of_ble_eq_true rfl) (fun X M => ?_)
  obtain ⟨Q, hQ, K⟩ : ∃ Q : Int32 → Prop, (∀ v, Q v → zq (some (.inl (F_M_valueFor 98 S p2 p3 p4))) (zW T' G' S n) (some (.inl v)) (zW T' G' S n)) ∧ Q (F_M_valueFor 98 S p2 p3 p4) := ⟨fun o => F_M_valueFor 98 S p2 p3 p4 = o, fun v h => ⟨by rw [h], rfl⟩, rfl⟩
  show z_G X zm_M_valueFor (0, [(0, z_r 78), (1, z_r 98), (2, .inl p2), (3, .inl p3), (4, .inl p4)], [], zW T' G' S n, 0, 0)
  unfold F_M_valueFor at K
  unfold Sf_M_valueFor at hs
  try simp only [Nat.reduceAdd] at K hs
  refine z_go2 M.1 0 [(.aload_n 0, 1), (.aload_n 1, 1), (.iload_n 2, 1), (.iload_n 3, 1), (.iload 4, 2)] (6, [(0, z_r 78), (1, z_r 98), (2, .inl p2), (3, .inl p3), (4, .inl p4)], [.inl p4, .inl p3, .inl p2, z_r 98, z_r 78], zW T' G' S n, 0, 0) (by decide +kernel) rfl ⟨trivial, trivial, trivial, trivial, trivial, trivial⟩ ?_
  refine z_callV M.1 (av := [z_r 98, .inl p2, .inl p3, .inl p4]) (st := []) (a := 78) (ci := 14) (by decide +kernel) (c_M_readsIt_98 T' G' S n p2 p3 p4 hs.1) M.2.1 zl_M_243 zv_M_readsIt rfl rfl rfl ⟨by decide, by decide, by decide, by decide⟩ rfl (Nat.le_of_ble_eq_true rfl) (fun v w' hv => ?_)
  obtain ⟨rfl, rfl⟩ := hv
  replace hs := hs.2
  show z_G X zm_M_valueFor (9, [(0, z_r 78), (1, z_r 98), (2, .inl p2), (3, .inl p3), (4, .inl p4)], [.inl (F_M_readsIt 98 S p2 p3 p4)], zW T' G' S n, 0, 0)
  refine z_if_ne 14 M.1 (off := 5) (by decide +kernel) (by decide) (fun c9 => ?_) (fun c9 => ?_)
  · rw [if_neg c9] at K hs
    refine z_go2 M.1 14 [(.iload 4, 2), (.iconst 3, 1)] (17, [(0, z_r 78), (1, z_r 98), (2, .inl p2), (3, .inl p3), (4, .inl p4)], [.inl 3, .inl p4], zW T' G' S n, 0, 0) (by decide +kernel) rfl ⟨trivial, trivial, trivial⟩ ?_
    refine z_icmp_ne 30 M.1 (off := 13) (by decide +kernel) (by decide) (fun c17 => ?_) (fun c17 => ?_)
    · rw [if_neg c17] at K hs
      refine z_go2 M.1 30 [(.aload_n 0, 1), (.aload_n 1, 1), (.iload_n 3, 1), (.iload 4, 2)] (35, [(0, z_r 78), (1, z_r 98), (2, .inl p2), (3, .inl p3), (4, .inl p4)], [.inl p4, .inl p3, z_r 98, z_r 78], zW T' G' S n, 0, 0) (by decide +kernel) rfl ⟨trivial, trivial, trivial, trivial, trivial⟩ ?_
      refine z_callV M.1 (av := [z_r 98, .inl p3, .inl p4]) (st := []) (a := 78) (ci := 14) (by decide +kernel) (c_M_valueOf_98 T' G' S n p3 p4 hs.1) M.2.1 zl_M_247 zv_M_valueOf rfl rfl rfl ⟨by decide, by decide, by decide, by decide⟩ rfl (Nat.le_of_ble_eq_true rfl) (fun v w' hv => ?_)
      obtain ⟨rfl, rfl⟩ := hv
      replace hs := hs.2
      show z_G X zm_M_valueFor (38, [(0, z_r 78), (1, z_r 98), (2, .inl p2), (3, .inl p3), (4, .inl p4)], [.inl (F_M_valueOf 98 S p3 p4)], zW T' G' S n, 0, 0)
      exact z_iret M (by decide +kernel) .int rfl rfl (by decide) (by decide) (hQ _ K)
    · rw [if_pos c17] at K hs
      refine z_go2 M.1 20 [(.aload_n 0, 1), (.aload_n 1, 1), (.iload_n 2, 1), (.iload_n 3, 1)] (24, [(0, z_r 78), (1, z_r 98), (2, .inl p2), (3, .inl p3), (4, .inl p4)], [.inl p3, .inl p2, z_r 98, z_r 78], zW T' G' S n, 0, 0) (by decide +kernel) rfl ⟨trivial, trivial, trivial, trivial, trivial⟩ ?_
      refine z_callV M.1 (av := [z_r 98, .inl p2, .inl p3]) (st := []) (a := 78) (ci := 14) (by decide +kernel) (c_M_computed_98 T' G' S n p2 p3 hs.1) M.2.1 zl_M_250 zv_M_computed rfl rfl rfl ⟨by decide, by decide, by decide, by decide⟩ rfl (Nat.le_of_ble_eq_true rfl) (fun v w' hv => ?_)
      obtain ⟨rfl, rfl⟩ := hv
      replace hs := hs.2
      show z_G X zm_M_valueFor (27, [(0, z_r 78), (1, z_r 98), (2, .inl p2), (3, .inl p3), (4, .inl p4)], [.inl (F_M_computed 98 S p2 p3)], zW T' G' S n, 0, 0)
      refine z_go2 M.1 27 [(.goto 11, 3)] (38, [(0, z_r 78), (1, z_r 98), (2, .inl p2), (3, .inl p3), (4, .inl p4)], [.inl (F_M_computed 98 S p2 p3)], zW T' G' S n, 0, 0) (by decide +kernel) rfl ⟨trivial, trivial⟩ ?_
      exact z_iret M (by decide +kernel) .int rfl rfl (by decide) (by decide) (hQ _ K)
  · rw [if_pos c9] at K hs
    refine z_go2 M.1 12 [(.iconst (-1), 1)] (13, [(0, z_r 78), (1, z_r 98), (2, .inl p2), (3, .inl p3), (4, .inl p4)], [.inl (-1)], zW T' G' S n, 0, 0) (by decide +kernel) rfl ⟨trivial, trivial⟩ ?_
    exact z_iret M (by decide +kernel) .int rfl rfl (by decide) (by decide) (hQ _ K)

-- TrackHouseModel.isMet
abbrev rm_M_isMet : Room := zr 2
def F_M_isMet_j32 (w : Nat) (S : (Nat → Nat → Int32)) : Int32 := 0
theorem t_M_isMet_j32_86 {X : z_X} {Post : Option z_V → z_W → Prop} (M : z_M X zm_M_isMet rm_M_isMet Post) {T' : Nat → Nat × Nat} {G' : Nat → Nat → Option Nat} {n : Nat} {Q : Int32 → Prop} (S : (Nat → Nat → Int32)) (hQ : ∀ v, Q v → Post (some (.inl v)) (zW T' G' S n)) (K : Q (F_M_isMet_j32 86 S)) : z_G X zm_M_isMet (32, [], [], zW T' G' S n, 0, 0) := by
  unfold F_M_isMet_j32 at K
  try simp only [Nat.reduceAdd] at K
  refine z_go2 M.1 32 [(.iconst 0, 1)] (33, [], [.inl 0], zW T' G' S n, 0, 0) (by decide +kernel) rfl ⟨trivial, trivial⟩ ?_
  exact z_iret M (by decide +kernel) .boolean rfl rfl (by decide) (by decide) (hQ _ K)
theorem t_M_isMet_j32_110 {X : z_X} {Post : Option z_V → z_W → Prop} (M : z_M X zm_M_isMet rm_M_isMet Post) {T' : Nat → Nat × Nat} {G' : Nat → Nat → Option Nat} {n : Nat} {Q : Int32 → Prop} (S : (Nat → Nat → Int32)) (hQ : ∀ v, Q v → Post (some (.inl v)) (zW T' G' S n)) (K : Q (F_M_isMet_j32 110 S)) : z_G X zm_M_isMet (32, [], [], zW T' G' S n, 0, 0) := by
  unfold F_M_isMet_j32 at K
  try simp only [Nat.reduceAdd] at K
  refine z_go2 M.1 32 [(.iconst 0, 1)] (33, [], [.inl 0], zW T' G' S n, 0, 0) (by decide +kernel) rfl ⟨trivial, trivial⟩ ?_
  exact z_iret M (by decide +kernel) .boolean rfl rfl (by decide) (by decide) (hQ _ K)
def F_M_isMet (w : Nat) (S : (Nat → Nat → Int32)) (p2 : Int32) (p3 : Int32) (p4 : Int32) : Int32 := (if p3 = (-1) then 1 else (if (F_M_valueOf w S p2 p3) = (-1) then (F_M_isMet_j32 w S) else (if (F_M_valueOf w S p2 p3) < p4 then (F_M_isMet_j32 w S) else 1)))
def Sf_M_isMet (w : Nat) (S : (Nat → Nat → Int32)) (p2 : Int32) (p3 : Int32) (p4 : Int32) : Prop := (if p3 = (-1) then True else (Sf_M_valueOf w S p2 p3 ∧ (if (F_M_valueOf w S p2 p3) = (-1) then True else (Sf_M_valueOf w S p2 p3 ∧ True))))
theorem c_M_isMet_86 (T' : Nat → Nat × Nat) (G' : Nat → Nat → Option Nat) (S : (Nat → Nat → Int32)) (n : Nat) (p2 : Int32) (p3 : Int32) (p4 : Int32) (hs : Sf_M_isMet 86 S p2 p3 p4) : z_Run rm_M_isMet zm_M_isMet [z_r 78, z_r 86, .inl p2, .inl p3, .inl p4] (zW T' G' S n) (zq (some (.inl (F_M_isMet 86 S p2 p3 p4))) (zW T' G' S n)) := by
  refine z_body (by decide) zf_M_ok (Nat.le_of_ble_eq_true rfl) (fun X M => ?_)
  obtain ⟨Q, hQ, K⟩ : ∃ Q : Int32 → Prop, (∀ v, Q v → zq (some (.inl (F_M_isMet 86 S p2 p3 p4))) (zW T' G' S n) (some (.inl v)) (zW T' G' S n)) ∧ Q (F_M_isMet 86 S p2 p3 p4) := ⟨fun o => F_M_isMet 86 S p2 p3 p4 = o, fun v h => ⟨by rw [h], rfl⟩, rfl⟩
  show z_G X zm_M_isMet (0, [(0, z_r 78), (1, z_r 86), (2, .inl p2), (3, .inl p3), (4, .inl p4)], [], zW T' G' S n, 0, 0)
  unfold F_M_isMet at K
  unfold Sf_M_isMet at hs
  try simp only [Nat.reduceAdd] at K hs
  refine z_go2 M.1 0 [(.iload_n 3, 1), (.iconst (-1), 1)] (2, [(0, z_r 78), (1, z_r 86), (2, .inl p2), (3, .inl p3), (4, .inl p4)], [.inl (-1), .inl p3], zW T' G' S n, 0, 0) (by decide +kernel) rfl ⟨trivial, trivial, trivial⟩ ?_
  refine z_icmp_eq 28 M.1 (off := 26) (by decide +kernel) (by decide) (fun c2 => ?_) (fun c2 => ?_)
  · rw [if_pos c2] at K hs
    refine z_go2 M.1 28 [(.iconst 1, 1), (.goto 4, 3)] (33, [(0, z_r 78), (1, z_r 86), (2, .inl p2), (3, .inl p3), (4, .inl p4)], [.inl 1], zW T' G' S n, 0, 0) (by decide +kernel) rfl ⟨trivial, trivial, trivial⟩ ?_
    exact z_iret M (by decide +kernel) .boolean rfl rfl (by decide) (by decide) (hQ _ K)
  · rw [if_neg c2] at K hs
    refine z_go2 M.1 5 [(.aload_n 0, 1), (.aload_n 1, 1), (.iload_n 2, 1), (.iload_n 3, 1)] (9, [(0, z_r 78), (1, z_r 86), (2, .inl p2), (3, .inl p3), (4, .inl p4)], [.inl p3, .inl p2, z_r 86, z_r 78], zW T' G' S n, 0, 0) (by decide +kernel) rfl ⟨trivial, trivial, trivial, trivial, trivial⟩ ?_
    refine z_callV M.1 (av := [z_r 86, .inl p2, .inl p3]) (st := []) (a := 78) (ci := 14) (by decide +kernel) (c_M_valueOf_86 T' G' S n p2 p3 hs.1) M.2.1 zl_M_247 zv_M_valueOf rfl rfl rfl ⟨by decide, by decide, by decide, by decide⟩ rfl (Nat.le_of_ble_eq_true rfl) (fun v w' hv => ?_)
    obtain ⟨rfl, rfl⟩ := hv
    replace hs := hs.2
    show z_G X zm_M_isMet (12, [(0, z_r 78), (1, z_r 86), (2, .inl p2), (3, .inl p3), (4, .inl p4)], [.inl (F_M_valueOf 86 S p2 p3)], zW T' G' S n, 0, 0)
    refine z_go2 M.1 12 [(.iconst (-1), 1)] (13, [(0, z_r 78), (1, z_r 86), (2, .inl p2), (3, .inl p3), (4, .inl p4)], [.inl (-1), .inl (F_M_valueOf 86 S p2 p3)], zW T' G' S n, 0, 0) (by decide +kernel) rfl ⟨trivial, trivial⟩ ?_
    refine z_icmp_eq 32 M.1 (off := 19) (by decide +kernel) (by decide) (fun c13 => ?_) (fun c13 => ?_)
    · rw [if_pos c13] at K hs
      exact z_lvs (lv' := []) [] rfl (t_M_isMet_j32_86 M S hQ K)
    · rw [if_neg c13] at K hs
      refine z_go2 M.1 16 [(.aload_n 0, 1), (.aload_n 1, 1), (.iload_n 2, 1), (.iload_n 3, 1)] (20, [(0, z_r 78), (1, z_r 86), (2, .inl p2), (3, .inl p3), (4, .inl p4)], [.inl p3, .inl p2, z_r 86, z_r 78], zW T' G' S n, 0, 0) (by decide +kernel) rfl ⟨trivial, trivial, trivial, trivial, trivial⟩ ?_
      refine z_callV M.1 (av := [z_r 86, .inl p2, .inl p3]) (st := []) (a := 78) (ci := 14) (by decide +kernel) (c_M_valueOf_86 T' G' S n p2 p3 hs.1) M.2.1 zl_M_247 zv_M_valueOf rfl rfl rfl ⟨by decide, by decide, by decide, by decide⟩ rfl (Nat.le_of_ble_eq_true rfl) (fun v w' hv => ?_)
      obtain ⟨rfl, rfl⟩ := hv
      replace hs := hs.2
      show z_G X zm_M_isMet (23, [(0, z_r 78), (1, z_r 86), (2, .inl p2), (3, .inl p3), (4, .inl p4)], [.inl (F_M_valueOf 86 S p2 p3)], zW T' G' S n, 0, 0)
      refine z_go2 M.1 23 [(.iload 4, 2)] (25, [(0, z_r 78), (1, z_r 86), (2, .inl p2), (3, .inl p3), (4, .inl p4)], [.inl p4, .inl (F_M_valueOf 86 S p2 p3)], zW T' G' S n, 0, 0) (by decide +kernel) rfl ⟨trivial, trivial⟩ ?_
      refine z_icmp_lt 32 M.1 (off := 7) (by decide +kernel) (by decide) (fun c25 => ?_) (fun c25 => ?_)
      · rw [if_pos c25] at K
        exact z_lvs (lv' := []) [] rfl (t_M_isMet_j32_86 M S hQ K)
      · rw [if_neg c25] at K
        refine z_go2 M.1 28 [(.iconst 1, 1), (.goto 4, 3)] (33, [(0, z_r 78), (1, z_r 86), (2, .inl p2), (3, .inl p3), (4, .inl p4)], [.inl 1], zW T' G' S n, 0, 0) (by decide +kernel) rfl ⟨trivial, trivial, trivial⟩ ?_
        exact z_iret M (by decide +kernel) .boolean rfl rfl (by decide) (by decide) (hQ _ K)
theorem c_M_isMet_110 (T' : Nat → Nat × Nat) (G' : Nat → Nat → Option Nat) (S : (Nat → Nat → Int32)) (n : Nat) (p2 : Int32) (p3 : Int32) (p4 : Int32) (hs : Sf_M_isMet 110 S p2 p3 p4) : z_Run rm_M_isMet zm_M_isMet [z_r 78, z_r 110, .inl p2, .inl p3, .inl p4] (zW T' G' S n) (zq (some (.inl (F_M_isMet 110 S p2 p3 p4))) (zW T' G' S n)) := by
  refine z_body (by decide) zf_M_ok (Nat.le_of_ble_eq_true rfl) (fun X M => ?_)
  obtain ⟨Q, hQ, K⟩ : ∃ Q : Int32 → Prop, (∀ v, Q v → zq (some (.inl (F_M_isMet 110 S p2 p3 p4))) (zW T' G' S n) (some (.inl v)) (zW T' G' S n)) ∧ Q (F_M_isMet 110 S p2 p3 p4) := ⟨fun o => F_M_isMet 110 S p2 p3 p4 = o, fun v h => ⟨by rw [h], rfl⟩, rfl⟩
  show z_G X zm_M_isMet (0, [(0, z_r 78), (1, z_r 110), (2, .inl p2), (3, .inl p3), (4, .inl p4)], [], zW T' G' S n, 0, 0)
  unfold F_M_isMet at K
  unfold Sf_M_isMet at hs
  try simp only [Nat.reduceAdd] at K hs
  refine z_go2 M.1 0 [(.iload_n 3, 1), (.iconst (-1), 1)] (2, [(0, z_r 78), (1, z_r 110), (2, .inl p2), (3, .inl p3), (4, .inl p4)], [.inl (-1), .inl p3], zW T' G' S n, 0, 0) (by decide +kernel) rfl ⟨trivial, trivial, trivial⟩ ?_
  refine z_icmp_eq 28 M.1 (off := 26) (by decide +kernel) (by decide) (fun c2 => ?_) (fun c2 => ?_)
  · rw [if_pos c2] at K hs
    refine z_go2 M.1 28 [(.iconst 1, 1), (.goto 4, 3)] (33, [(0, z_r 78), (1, z_r 110), (2, .inl p2), (3, .inl p3), (4, .inl p4)], [.inl 1], zW T' G' S n, 0, 0) (by decide +kernel) rfl ⟨trivial, trivial, trivial⟩ ?_
    exact z_iret M (by decide +kernel) .boolean rfl rfl (by decide) (by decide) (hQ _ K)
  · rw [if_neg c2] at K hs
    refine z_go2 M.1 5 [(.aload_n 0, 1), (.aload_n 1, 1), (.iload_n 2, 1), (.iload_n 3, 1)] (9, [(0, z_r 78), (1, z_r 110), (2, .inl p2), (3, .inl p3), (4, .inl p4)], [.inl p3, .inl p2, z_r 110, z_r 78], zW T' G' S n, 0, 0) (by decide +kernel) rfl ⟨trivial, trivial, trivial, trivial, trivial⟩ ?_
    refine z_callV M.1 (av := [z_r 110, .inl p2, .inl p3]) (st := []) (a := 78) (ci := 14) (by decide +kernel) (c_M_valueOf_110 T' G' S n p2 p3 hs.1) M.2.1 zl_M_247 zv_M_valueOf rfl rfl rfl ⟨by decide, by decide, by decide, by decide⟩ rfl (Nat.le_of_ble_eq_true rfl) (fun v w' hv => ?_)
    obtain ⟨rfl, rfl⟩ := hv
    replace hs := hs.2
    show z_G X zm_M_isMet (12, [(0, z_r 78), (1, z_r 110), (2, .inl p2), (3, .inl p3), (4, .inl p4)], [.inl (F_M_valueOf 110 S p2 p3)], zW T' G' S n, 0, 0)
    refine z_go2 M.1 12 [(.iconst (-1), 1)] (13, [(0, z_r 78), (1, z_r 110), (2, .inl p2), (3, .inl p3), (4, .inl p4)], [.inl (-1), .inl (F_M_valueOf 110 S p2 p3)], zW T' G' S n, 0, 0) (by decide +kernel) rfl ⟨trivial, trivial⟩ ?_
    refine z_icmp_eq 32 M.1 (off := 19) (by decide +kernel) (by decide) (fun c13 => ?_) (fun c13 => ?_)
    · rw [if_pos c13] at K hs
      exact z_lvs (lv' := []) [] rfl (t_M_isMet_j32_110 M S hQ K)
    · rw [if_neg c13] at K hs
      refine z_go2 M.1 16 [(.aload_n 0, 1), (.aload_n 1, 1), (.iload_n 2, 1), (.iload_n 3, 1)] (20, [(0, z_r 78), (1, z_r 110), (2, .inl p2), (3, .inl p3), (4, .inl p4)], [.inl p3, .inl p2, z_r 110, z_r 78], zW T' G' S n, 0, 0) (by decide +kernel) rfl ⟨trivial, trivial, trivial, trivial, trivial⟩ ?_
      refine z_callV M.1 (av := [z_r 110, .inl p2, .inl p3]) (st := []) (a := 78) (ci := 14) (by decide +kernel) (c_M_valueOf_110 T' G' S n p2 p3 hs.1) M.2.1 zl_M_247 zv_M_valueOf rfl rfl rfl ⟨by decide, by decide, by decide, by decide⟩ rfl (Nat.le_of_ble_eq_true rfl) (fun v w' hv => ?_)
      obtain ⟨rfl, rfl⟩ := hv
      replace hs := hs.2
      show z_G X zm_M_isMet (23, [(0, z_r 78), (1, z_r 110), (2, .inl p2), (3, .inl p3), (4, .inl p4)], [.inl (F_M_valueOf 110 S p2 p3)], zW T' G' S n, 0, 0)
      refine z_go2 M.1 23 [(.iload 4, 2)] (25, [(0, z_r 78), (1, z_r 110), (2, .inl p2), (3, .inl p3), (4, .inl p4)], [.inl p4, .inl (F_M_valueOf 110 S p2 p3)], zW T' G' S n, 0, 0) (by decide +kernel) rfl ⟨trivial, trivial⟩ ?_
      refine z_icmp_lt 32 M.1 (off := 7) (by decide +kernel) (by decide) (fun c25 => ?_) (fun c25 => ?_)
      · rw [if_pos c25] at K
        exact z_lvs (lv' := []) [] rfl (t_M_isMet_j32_110 M S hQ K)
      · rw [if_neg c25] at K
        refine z_go2 M.1 28 [(.iconst 1, 1), (.goto 4, 3)] (33, [(0, z_r 78), (1, z_r 110), (2, .inl p2), (3, .inl p3), (4, .inl p4)], [.inl 1], zW T' G' S n, 0, 0) (by decide +kernel) rfl ⟨trivial, trivial, trivial⟩ ?_
        exact z_iret M (by decide +kernel) .boolean rfl rfl (by decide) (by decide) (hQ _ K)

-- TrackHouseModel.meets
abbrev rm_M_meets : Room := zr 3
def F_M_meets_j167 (w : Nat) (S : (Nat → Nat → Int32)) : Int32 := 0
theorem t_M_meets_j167_86 {X : z_X} {Post : Option z_V → z_W → Prop} (M : z_M X zm_M_meets rm_M_meets Post) {T' : Nat → Nat × Nat} {G' : Nat → Nat → Option Nat} {n : Nat} {Q : Int32 → Prop} (S : (Nat → Nat → Int32)) (hQ : ∀ v, Q v → Post (some (.inl v)) (zW T' G' S n)) (K : Q (F_M_meets_j167 86 S)) : z_G X zm_M_meets (167, [], [], zW T' G' S n, 0, 0) := by
  unfold F_M_meets_j167 at K
  try simp only [Nat.reduceAdd] at K
  refine z_go2 M.1 167 [(.iconst 0, 1)] (168, [], [.inl 0], zW T' G' S n, 0, 0) (by decide +kernel) rfl ⟨trivial, trivial⟩ ?_
  exact z_iret M (by decide +kernel) .boolean rfl rfl (by decide) (by decide) (hQ _ K)
theorem t_M_meets_j167_110 {X : z_X} {Post : Option z_V → z_W → Prop} (M : z_M X zm_M_meets rm_M_meets Post) {T' : Nat → Nat × Nat} {G' : Nat → Nat → Option Nat} {n : Nat} {Q : Int32 → Prop} (S : (Nat → Nat → Int32)) (hQ : ∀ v, Q v → Post (some (.inl v)) (zW T' G' S n)) (K : Q (F_M_meets_j167 110 S)) : z_G X zm_M_meets (167, [], [], zW T' G' S n, 0, 0) := by
  unfold F_M_meets_j167 at K
  try simp only [Nat.reduceAdd] at K
  refine z_go2 M.1 167 [(.iconst 0, 1)] (168, [], [.inl 0], zW T' G' S n, 0, 0) (by decide +kernel) rfl ⟨trivial, trivial⟩ ?_
  exact z_iret M (by decide +kernel) .boolean rfl rfl (by decide) (by decide) (hQ _ K)
def F_M_meets_j141 (w : Nat) (S : (Nat → Nat → Int32)) (x2 : Int32) (x4 : Int32) : Int32 := (if (F_M_isMet w S x4 (S 171 (x2).toNatClampNeg) (S 172 (x2).toNatClampNeg)) = 0 then (F_M_meets_j167 w S) else 1)
def Sf_M_meets_j141 (w : Nat) (S : (Nat → Nat → Int32)) (x2 : Int32) (x4 : Int32) : Prop := ((vp_in x2 6) ∧ ((vp_in x2 6) ∧ (Sf_M_isMet w S x4 (S 171 (x2).toNatClampNeg) (S 172 (x2).toNatClampNeg) ∧ True)))
theorem t_M_meets_j141_86 {X : z_X} {Post : Option z_V → z_W → Prop} (M : z_M X zm_M_meets rm_M_meets Post) {T' : Nat → Nat × Nat} {G' : Nat → Nat → Option Nat} {n : Nat} {Q : Int32 → Prop} (S : (Nat → Nat → Int32)) (x2 : Int32) (x4 : Int32) (hQ : ∀ v, Q v → Post (some (.inl v)) (zW T' G' S n)) (K : Q (F_M_meets_j141 86 S x2 x4)) (hs : Sf_M_meets_j141 86 S x2 x4) : z_G X zm_M_meets (141, [(0, z_r 78), (1, z_r 86), (2, .inl x2), (4, .inl x4)], [], zW T' G' S n, 0, 0) := by
  unfold F_M_meets_j141 at K
  unfold Sf_M_meets_j141 at hs
  try simp only [Nat.reduceAdd] at K hs
  refine z_go2 M.1 141 [(.aload_n 0, 1), (.aload_n 1, 1), (.iload 4, 2), (.aload_n 0, 1), (.getfield 107, 3), (.iload_n 2, 1), (.iaload, 1), (.aload_n 0, 1), (.getfield 110, 3), (.iload_n 2, 1), (.iaload, 1)] (157, [(0, z_r 78), (1, z_r 86), (2, .inl x2), (4, .inl x4)], [.inl (S 172 (x2).toNatClampNeg), .inl (S 171 (x2).toNatClampNeg), .inl x4, z_r 86, z_r 78], zW T' G' S n, 0, 0) (by decide +kernel) rfl ⟨trivial, trivial, trivial, trivial, rfl, trivial, ⟨rfl, hs.1⟩, trivial, rfl, trivial, ⟨rfl, hs.2.1⟩, trivial⟩ ?_
  replace hs := hs.2.2
  refine z_callV M.1 (av := [z_r 86, .inl x4, .inl (S 171 (x2).toNatClampNeg), .inl (S 172 (x2).toNatClampNeg)]) (st := []) (a := 78) (ci := 14) (by decide +kernel) (c_M_isMet_86 T' G' S n x4 (S 171 (x2).toNatClampNeg) (S 172 (x2).toNatClampNeg) hs.1) M.2.1 zl_M_253 zv_M_isMet rfl rfl rfl ⟨by decide, by decide, by decide, by decide⟩ rfl (Nat.le_of_ble_eq_true rfl) (fun v w' hv => ?_)
  obtain ⟨rfl, rfl⟩ := hv
  replace hs := hs.2
  show z_G X zm_M_meets (160, [(0, z_r 78), (1, z_r 86), (2, .inl x2), (4, .inl x4)], [.inl (F_M_isMet 86 S x4 (S 171 (x2).toNatClampNeg) (S 172 (x2).toNatClampNeg))], zW T' G' S n, 0, 0)
  refine z_if_eq 167 M.1 (off := 7) (by decide +kernel) (by decide) (fun c160 => ?_) (fun c160 => ?_)
  · rw [if_pos c160] at K
    exact z_lvs (lv' := []) [] rfl (t_M_meets_j167_86 M S hQ K)
  · rw [if_neg c160] at K
    refine z_go2 M.1 163 [(.iconst 1, 1), (.goto 4, 3)] (168, [(0, z_r 78), (1, z_r 86), (2, .inl x2), (4, .inl x4)], [.inl 1], zW T' G' S n, 0, 0) (by decide +kernel) rfl ⟨trivial, trivial, trivial⟩ ?_
    exact z_iret M (by decide +kernel) .boolean rfl rfl (by decide) (by decide) (hQ _ K)
theorem t_M_meets_j141_110 {X : z_X} {Post : Option z_V → z_W → Prop} (M : z_M X zm_M_meets rm_M_meets Post) {T' : Nat → Nat × Nat} {G' : Nat → Nat → Option Nat} {n : Nat} {Q : Int32 → Prop} (S : (Nat → Nat → Int32)) (x2 : Int32) (x4 : Int32) (hQ : ∀ v, Q v → Post (some (.inl v)) (zW T' G' S n)) (K : Q (F_M_meets_j141 110 S x2 x4)) (hs : Sf_M_meets_j141 110 S x2 x4) : z_G X zm_M_meets (141, [(0, z_r 78), (1, z_r 110), (2, .inl x2), (4, .inl x4)], [], zW T' G' S n, 0, 0) := by
  unfold F_M_meets_j141 at K
  unfold Sf_M_meets_j141 at hs
  try simp only [Nat.reduceAdd] at K hs
  refine z_go2 M.1 141 [(.aload_n 0, 1), (.aload_n 1, 1), (.iload 4, 2), (.aload_n 0, 1), (.getfield 107, 3), (.iload_n 2, 1), (.iaload, 1), (.aload_n 0, 1), (.getfield 110, 3), (.iload_n 2, 1), (.iaload, 1)] (157, [(0, z_r 78), (1, z_r 110), (2, .inl x2), (4, .inl x4)], [.inl (S 172 (x2).toNatClampNeg), .inl (S 171 (x2).toNatClampNeg), .inl x4, z_r 110, z_r 78], zW T' G' S n, 0, 0) (by decide +kernel) rfl ⟨trivial, trivial, trivial, trivial, rfl, trivial, ⟨rfl, hs.1⟩, trivial, rfl, trivial, ⟨rfl, hs.2.1⟩, trivial⟩ ?_
  replace hs := hs.2.2
  refine z_callV M.1 (av := [z_r 110, .inl x4, .inl (S 171 (x2).toNatClampNeg), .inl (S 172 (x2).toNatClampNeg)]) (st := []) (a := 78) (ci := 14) (by decide +kernel) (c_M_isMet_110 T' G' S n x4 (S 171 (x2).toNatClampNeg) (S 172 (x2).toNatClampNeg) hs.1) M.2.1 zl_M_253 zv_M_isMet rfl rfl rfl ⟨by decide, by decide, by decide, by decide⟩ rfl (Nat.le_of_ble_eq_true rfl) (fun v w' hv => ?_)
  obtain ⟨rfl, rfl⟩ := hv
  replace hs := hs.2
  show z_G X zm_M_meets (160, [(0, z_r 78), (1, z_r 110), (2, .inl x2), (4, .inl x4)], [.inl (F_M_isMet 110 S x4 (S 171 (x2).toNatClampNeg) (S 172 (x2).toNatClampNeg))], zW T' G' S n, 0, 0)
  refine z_if_eq 167 M.1 (off := 7) (by decide +kernel) (by decide) (fun c160 => ?_) (fun c160 => ?_)
  · rw [if_pos c160] at K
    exact z_lvs (lv' := []) [] rfl (t_M_meets_j167_110 M S hQ K)
  · rw [if_neg c160] at K
    refine z_go2 M.1 163 [(.iconst 1, 1), (.goto 4, 3)] (168, [(0, z_r 78), (1, z_r 110), (2, .inl x2), (4, .inl x4)], [.inl 1], zW T' G' S n, 0, 0) (by decide +kernel) rfl ⟨trivial, trivial, trivial⟩ ?_
    exact z_iret M (by decide +kernel) .boolean rfl rfl (by decide) (by decide) (hQ _ K)
def F_M_meets_j108 (w : Nat) (S : (Nat → Nat → Int32)) (x2 : Int32) (x4 : Int32) (s0 : Int32) : Int32 := (if s0 = 0 then (F_M_meets_j167 w S) else (if (S 170 (x2).toNatClampNeg) = (-1) then (F_M_meets_j141 w S x2 x4) else (if (S 170 (x2).toNatClampNeg) = (S (w + 2) (x4).toNatClampNeg) then (F_M_meets_j141 w S x2 x4) else (F_M_meets_j167 w S))))
def Sf_M_meets_j108 (w : Nat) (S : (Nat → Nat → Int32)) (x2 : Int32) (x4 : Int32) (s0 : Int32) : Prop := (if s0 = 0 then True else ((vp_in x2 6) ∧ (if (S 170 (x2).toNatClampNeg) = (-1) then (Sf_M_meets_j141 w S x2 x4) else ((vp_in x2 6) ∧ ((vp_in x4 30) ∧ (if (S 170 (x2).toNatClampNeg) = (S (w + 2) (x4).toNatClampNeg) then (Sf_M_meets_j141 w S x2 x4) else True))))))
theorem t_M_meets_j108_86 {X : z_X} {Post : Option z_V → z_W → Prop} (M : z_M X zm_M_meets rm_M_meets Post) {T' : Nat → Nat × Nat} {G' : Nat → Nat → Option Nat} {n : Nat} {Q : Int32 → Prop} (S : (Nat → Nat → Int32)) (x2 : Int32) (x4 : Int32) (s0 : Int32) (hQ : ∀ v, Q v → Post (some (.inl v)) (zW T' G' S n)) (K : Q (F_M_meets_j108 86 S x2 x4 s0)) (hs : Sf_M_meets_j108 86 S x2 x4 s0) : z_G X zm_M_meets (108, [(0, z_r 78), (1, z_r 86), (2, .inl x2), (4, .inl x4)], [.inl s0], zW T' G' S n, 0, 0) := by
  unfold F_M_meets_j108 at K
  unfold Sf_M_meets_j108 at hs
  try simp only [Nat.reduceAdd] at K hs
  refine z_go2 M.1 108 [(.istore 5, 2), (.iload 5, 2)] (112, [(5, .inl s0), (0, z_r 78), (1, z_r 86), (2, .inl x2), (4, .inl x4)], [.inl s0], zW T' G' S n, 0, 0) (by decide +kernel) rfl ⟨trivial, trivial, trivial⟩ ?_
  refine z_if_eq 167 M.1 (off := 55) (by decide +kernel) (by decide) (fun c112 => ?_) (fun c112 => ?_)
  · rw [if_pos c112] at K hs
    exact z_lvs (lv' := []) [] rfl (t_M_meets_j167_86 M S hQ K)
  · rw [if_neg c112] at K hs
    refine z_go2 M.1 115 [(.aload_n 0, 1), (.getfield 104, 3), (.iload_n 2, 1), (.iaload, 1), (.iconst (-1), 1)] (122, [(5, .inl s0), (0, z_r 78), (1, z_r 86), (2, .inl x2), (4, .inl x4)], [.inl (-1), .inl (S 170 (x2).toNatClampNeg)], zW T' G' S n, 0, 0) (by decide +kernel) rfl ⟨trivial, rfl, trivial, ⟨rfl, hs.1⟩, trivial, trivial⟩ ?_
    replace hs := hs.2
    refine z_icmp_eq 141 M.1 (off := 19) (by decide +kernel) (by decide) (fun c122 => ?_) (fun c122 => ?_)
    · rw [if_pos c122] at K hs
      exact z_lvs (lv' := [(0, z_r 78), (1, z_r 86), (2, .inl x2), (4, .inl x4)]) [1, 2, 3, 4] rfl (t_M_meets_j141_86 M S x2 x4 hQ K hs)
    · rw [if_neg c122] at K hs
      refine z_go2 M.1 125 [(.aload_n 0, 1), (.getfield 104, 3), (.iload_n 2, 1), (.iaload, 1), (.aload_n 1, 1), (.getfield 237, 3), (.iload 4, 2), (.iaload, 1)] (138, [(5, .inl s0), (0, z_r 78), (1, z_r 86), (2, .inl x2), (4, .inl x4)], [.inl (S 88 (x4).toNatClampNeg), .inl (S 170 (x2).toNatClampNeg)], zW T' G' S n, 0, 0) (by decide +kernel) rfl ⟨trivial, rfl, trivial, ⟨rfl, hs.1⟩, trivial, rfl, trivial, ⟨rfl, hs.2.1⟩, trivial⟩ ?_
      replace hs := hs.2.2
      refine z_icmp_ne 167 M.1 (off := 29) (by decide +kernel) (by decide) (fun c138 => ?_) (fun c138 => ?_)
      · rw [if_neg c138] at K hs
        exact z_lvs (lv' := []) [] rfl (t_M_meets_j167_86 M S hQ K)
      · rw [if_pos c138] at K hs
        exact z_lvs (lv' := [(0, z_r 78), (1, z_r 86), (2, .inl x2), (4, .inl x4)]) [1, 2, 3, 4] rfl (t_M_meets_j141_86 M S x2 x4 hQ K hs)
theorem t_M_meets_j108_110 {X : z_X} {Post : Option z_V → z_W → Prop} (M : z_M X zm_M_meets rm_M_meets Post) {T' : Nat → Nat × Nat} {G' : Nat → Nat → Option Nat} {n : Nat} {Q : Int32 → Prop} (S : (Nat → Nat → Int32)) (x2 : Int32) (x4 : Int32) (s0 : Int32) (hQ : ∀ v, Q v → Post (some (.inl v)) (zW T' G' S n)) (K : Q (F_M_meets_j108 110 S x2 x4 s0)) (hs : Sf_M_meets_j108 110 S x2 x4 s0) : z_G X zm_M_meets (108, [(0, z_r 78), (1, z_r 110), (2, .inl x2), (4, .inl x4)], [.inl s0], zW T' G' S n, 0, 0) := by
  unfold F_M_meets_j108 at K
  unfold Sf_M_meets_j108 at hs
  try simp only [Nat.reduceAdd] at K hs
  refine z_go2 M.1 108 [(.istore 5, 2), (.iload 5, 2)] (112, [(5, .inl s0), (0, z_r 78), (1, z_r 110), (2, .inl x2), (4, .inl x4)], [.inl s0], zW T' G' S n, 0, 0) (by decide +kernel) rfl ⟨trivial, trivial, trivial⟩ ?_
  refine z_if_eq 167 M.1 (off := 55) (by decide +kernel) (by decide) (fun c112 => ?_) (fun c112 => ?_)
  · rw [if_pos c112] at K hs
    exact z_lvs (lv' := []) [] rfl (t_M_meets_j167_110 M S hQ K)
  · rw [if_neg c112] at K hs
    refine z_go2 M.1 115 [(.aload_n 0, 1), (.getfield 104, 3), (.iload_n 2, 1), (.iaload, 1), (.iconst (-1), 1)] (122, [(5, .inl s0), (0, z_r 78), (1, z_r 110), (2, .inl x2), (4, .inl x4)], [.inl (-1), .inl (S 170 (x2).toNatClampNeg)], zW T' G' S n, 0, 0) (by decide +kernel) rfl ⟨trivial, rfl, trivial, ⟨rfl, hs.1⟩, trivial, trivial⟩ ?_
    replace hs := hs.2
    refine z_icmp_eq 141 M.1 (off := 19) (by decide +kernel) (by decide) (fun c122 => ?_) (fun c122 => ?_)
    · rw [if_pos c122] at K hs
      exact z_lvs (lv' := [(0, z_r 78), (1, z_r 110), (2, .inl x2), (4, .inl x4)]) [1, 2, 3, 4] rfl (t_M_meets_j141_110 M S x2 x4 hQ K hs)
    · rw [if_neg c122] at K hs
      refine z_go2 M.1 125 [(.aload_n 0, 1), (.getfield 104, 3), (.iload_n 2, 1), (.iaload, 1), (.aload_n 1, 1), (.getfield 237, 3), (.iload 4, 2), (.iaload, 1)] (138, [(5, .inl s0), (0, z_r 78), (1, z_r 110), (2, .inl x2), (4, .inl x4)], [.inl (S 112 (x4).toNatClampNeg), .inl (S 170 (x2).toNatClampNeg)], zW T' G' S n, 0, 0) (by decide +kernel) rfl ⟨trivial, rfl, trivial, ⟨rfl, hs.1⟩, trivial, rfl, trivial, ⟨rfl, hs.2.1⟩, trivial⟩ ?_
      replace hs := hs.2.2
      refine z_icmp_ne 167 M.1 (off := 29) (by decide +kernel) (by decide) (fun c138 => ?_) (fun c138 => ?_)
      · rw [if_neg c138] at K hs
        exact z_lvs (lv' := []) [] rfl (t_M_meets_j167_110 M S hQ K)
      · rw [if_pos c138] at K hs
        exact z_lvs (lv' := [(0, z_r 78), (1, z_r 110), (2, .inl x2), (4, .inl x4)]) [1, 2, 3, 4] rfl (t_M_meets_j141_110 M S x2 x4 hQ K hs)
def F_M_meets_j107 (w : Nat) (S : (Nat → Nat → Int32)) (x2 : Int32) (x4 : Int32) : Int32 := (F_M_meets_j108 w S x2 x4 0)
def Sf_M_meets_j107 (w : Nat) (S : (Nat → Nat → Int32)) (x2 : Int32) (x4 : Int32) : Prop := (Sf_M_meets_j108 w S x2 x4 0)
theorem t_M_meets_j107_86 {X : z_X} {Post : Option z_V → z_W → Prop} (M : z_M X zm_M_meets rm_M_meets Post) {T' : Nat → Nat × Nat} {G' : Nat → Nat → Option Nat} {n : Nat} {Q : Int32 → Prop} (S : (Nat → Nat → Int32)) (x2 : Int32) (x4 : Int32) (hQ : ∀ v, Q v → Post (some (.inl v)) (zW T' G' S n)) (K : Q (F_M_meets_j107 86 S x2 x4)) (hs : Sf_M_meets_j107 86 S x2 x4) : z_G X zm_M_meets (107, [(0, z_r 78), (1, z_r 86), (2, .inl x2), (4, .inl x4)], [], zW T' G' S n, 0, 0) := by
  unfold F_M_meets_j107 at K
  unfold Sf_M_meets_j107 at hs
  try simp only [Nat.reduceAdd] at K hs
  refine z_go2 M.1 107 [(.iconst 0, 1)] (108, [(0, z_r 78), (1, z_r 86), (2, .inl x2), (4, .inl x4)], [.inl 0], zW T' G' S n, 0, 0) (by decide +kernel) rfl ⟨trivial, trivial⟩ ?_
  exact z_lvs (lv' := [(0, z_r 78), (1, z_r 86), (2, .inl x2), (4, .inl x4)]) [0, 1, 2, 3] rfl (t_M_meets_j108_86 M S x2 x4 0 hQ K hs)
theorem t_M_meets_j107_110 {X : z_X} {Post : Option z_V → z_W → Prop} (M : z_M X zm_M_meets rm_M_meets Post) {T' : Nat → Nat × Nat} {G' : Nat → Nat → Option Nat} {n : Nat} {Q : Int32 → Prop} (S : (Nat → Nat → Int32)) (x2 : Int32) (x4 : Int32) (hQ : ∀ v, Q v → Post (some (.inl v)) (zW T' G' S n)) (K : Q (F_M_meets_j107 110 S x2 x4)) (hs : Sf_M_meets_j107 110 S x2 x4) : z_G X zm_M_meets (107, [(0, z_r 78), (1, z_r 110), (2, .inl x2), (4, .inl x4)], [], zW T' G' S n, 0, 0) := by
  unfold F_M_meets_j107 at K
  unfold Sf_M_meets_j107 at hs
  try simp only [Nat.reduceAdd] at K hs
  refine z_go2 M.1 107 [(.iconst 0, 1)] (108, [(0, z_r 78), (1, z_r 110), (2, .inl x2), (4, .inl x4)], [.inl 0], zW T' G' S n, 0, 0) (by decide +kernel) rfl ⟨trivial, trivial⟩ ?_
  exact z_lvs (lv' := [(0, z_r 78), (1, z_r 110), (2, .inl x2), (4, .inl x4)]) [0, 1, 2, 3] rfl (t_M_meets_j108_110 M S x2 x4 0 hQ K hs)
def F_M_meets_j74 (w : Nat) (S : (Nat → Nat → Int32)) (x2 : Int32) (x4 : Int32) : Int32 := (F_M_meets_j108 w S x2 x4 0)
def Sf_M_meets_j74 (w : Nat) (S : (Nat → Nat → Int32)) (x2 : Int32) (x4 : Int32) : Prop := (Sf_M_meets_j108 w S x2 x4 0)
theorem t_M_meets_j74_86 {X : z_X} {Post : Option z_V → z_W → Prop} (M : z_M X zm_M_meets rm_M_meets Post) {T' : Nat → Nat × Nat} {G' : Nat → Nat → Option Nat} {n : Nat} {Q : Int32 → Prop} (S : (Nat → Nat → Int32)) (x2 : Int32) (x4 : Int32) (hQ : ∀ v, Q v → Post (some (.inl v)) (zW T' G' S n)) (K : Q (F_M_meets_j74 86 S x2 x4)) (hs : Sf_M_meets_j74 86 S x2 x4) : z_G X zm_M_meets (74, [(0, z_r 78), (1, z_r 86), (2, .inl x2), (4, .inl x4)], [], zW T' G' S n, 0, 0) := by
  unfold F_M_meets_j74 at K
  unfold Sf_M_meets_j74 at hs
  try simp only [Nat.reduceAdd] at K hs
  refine z_go2 M.1 74 [(.iconst 0, 1), (.goto 33, 3)] (108, [(0, z_r 78), (1, z_r 86), (2, .inl x2), (4, .inl x4)], [.inl 0], zW T' G' S n, 0, 0) (by decide +kernel) rfl ⟨trivial, trivial, trivial⟩ ?_
  exact z_lvs (lv' := [(0, z_r 78), (1, z_r 86), (2, .inl x2), (4, .inl x4)]) [0, 1, 2, 3] rfl (t_M_meets_j108_86 M S x2 x4 0 hQ K hs)
theorem t_M_meets_j74_110 {X : z_X} {Post : Option z_V → z_W → Prop} (M : z_M X zm_M_meets rm_M_meets Post) {T' : Nat → Nat × Nat} {G' : Nat → Nat → Option Nat} {n : Nat} {Q : Int32 → Prop} (S : (Nat → Nat → Int32)) (x2 : Int32) (x4 : Int32) (hQ : ∀ v, Q v → Post (some (.inl v)) (zW T' G' S n)) (K : Q (F_M_meets_j74 110 S x2 x4)) (hs : Sf_M_meets_j74 110 S x2 x4) : z_G X zm_M_meets (74, [(0, z_r 78), (1, z_r 110), (2, .inl x2), (4, .inl x4)], [], zW T' G' S n, 0, 0) := by
  unfold F_M_meets_j74 at K
  unfold Sf_M_meets_j74 at hs
  try simp only [Nat.reduceAdd] at K hs
  refine z_go2 M.1 74 [(.iconst 0, 1), (.goto 33, 3)] (108, [(0, z_r 78), (1, z_r 110), (2, .inl x2), (4, .inl x4)], [.inl 0], zW T' G' S n, 0, 0) (by decide +kernel) rfl ⟨trivial, trivial, trivial⟩ ?_
  exact z_lvs (lv' := [(0, z_r 78), (1, z_r 110), (2, .inl x2), (4, .inl x4)]) [0, 1, 2, 3] rfl (t_M_meets_j108_110 M S x2 x4 0 hQ K hs)
def F_M_meets (w : Nat) (S : (Nat → Nat → Int32)) (p2 : Int32) (p3 : Int32) : Int32 := (if (S 168 (p2).toNatClampNeg) = 0 then (if (S 79 (p3).toNatClampNeg) = 1 then (F_M_meets_j108 w S p2 (S 82 (p3).toNatClampNeg) 1) else (F_M_meets_j108 w S p2 (S 82 (p3).toNatClampNeg) 0)) else (if (S 168 (p2).toNatClampNeg) = 1 then (if (S 79 (p3).toNatClampNeg) = 2 then (if (S 85 (p3).toNatClampNeg) = (S 169 (p2).toNatClampNeg) then (F_M_meets_j108 w S p2 (S 82 (p3).toNatClampNeg) 1) else (F_M_meets_j74 w S p2 (S 82 (p3).toNatClampNeg))) else (F_M_meets_j74 w S p2 (S 82 (p3).toNatClampNeg))) else (if (S 79 (p3).toNatClampNeg) = 3 then (if (S 83 (p3).toNatClampNeg) = (S 169 (p2).toNatClampNeg) then (F_M_meets_j108 w S p2 (S 82 (p3).toNatClampNeg) 1) else (F_M_meets_j107 w S p2 (S 82 (p3).toNatClampNeg))) else (F_M_meets_j107 w S p2 (S 82 (p3).toNatClampNeg)))))
def Sf_M_meets (w : Nat) (S : (Nat → Nat → Int32)) (p2 : Int32) (p3 : Int32) : Prop := ((vp_in p3 1200) ∧ ((vp_in p2 6) ∧ (if (S 168 (p2).toNatClampNeg) = 0 then ((vp_in p3 1200) ∧ (if (S 79 (p3).toNatClampNeg) = 1 then (Sf_M_meets_j108 w S p2 (S 82 (p3).toNatClampNeg) 1) else (Sf_M_meets_j108 w S p2 (S 82 (p3).toNatClampNeg) 0))) else ((vp_in p2 6) ∧ (if (S 168 (p2).toNatClampNeg) = 1 then ((vp_in p3 1200) ∧ (if (S 79 (p3).toNatClampNeg) = 2 then ((vp_in p3 1200) ∧ ((vp_in p2 6) ∧ (if (S 85 (p3).toNatClampNeg) = (S 169 (p2).toNatClampNeg) then (Sf_M_meets_j108 w S p2 (S 82 (p3).toNatClampNeg) 1) else (Sf_M_meets_j74 w S p2 (S 82 (p3).toNatClampNeg))))) else (Sf_M_meets_j74 w S p2 (S 82 (p3).toNatClampNeg)))) else ((vp_in p3 1200) ∧ (if (S 79 (p3).toNatClampNeg) = 3 then ((vp_in p3 1200) ∧ ((vp_in p2 6) ∧ (if (S 83 (p3).toNatClampNeg) = (S 169 (p2).toNatClampNeg) then (Sf_M_meets_j108 w S p2 (S 82 (p3).toNatClampNeg) 1) else (Sf_M_meets_j107 w S p2 (S 82 (p3).toNatClampNeg))))) else (Sf_M_meets_j107 w S p2 (S 82 (p3).toNatClampNeg)))))))))
theorem c_M_meets_86 (T' : Nat → Nat × Nat) (G' : Nat → Nat → Option Nat) (S : (Nat → Nat → Int32)) (n : Nat) (p2 : Int32) (p3 : Int32) (hs : Sf_M_meets 86 S p2 p3) : z_Run rm_M_meets zm_M_meets [z_r 78, z_r 86, .inl p2, .inl p3] (zW T' G' S n) (zq (some (.inl (F_M_meets 86 S p2 p3))) (zW T' G' S n)) := by
  refine z_body (by decide) zf_M_ok (Nat.le_of_ble_eq_true rfl) (fun X M => ?_)
  obtain ⟨Q, hQ, K⟩ : ∃ Q : Int32 → Prop, (∀ v, Q v → zq (some (.inl (F_M_meets 86 S p2 p3))) (zW T' G' S n) (some (.inl v)) (zW T' G' S n)) ∧ Q (F_M_meets 86 S p2 p3) := ⟨fun o => F_M_meets 86 S p2 p3 = o, fun v h => ⟨by rw [h], rfl⟩, rfl⟩
  show z_G X zm_M_meets (0, [(0, z_r 78), (1, z_r 86), (2, .inl p2), (3, .inl p3)], [], zW T' G' S n, 0, 0)
  unfold F_M_meets at K
  unfold Sf_M_meets at hs
  try simp only [Nat.reduceAdd] at K hs
  refine z_go2 M.1 0 [(.aload_n 0, 1), (.getfield 19, 3), (.iload_n 3, 1), (.iaload, 1), (.istore 4, 2), (.aload_n 0, 1), (.getfield 98, 3), (.iload_n 2, 1), (.iaload, 1)] (14, [(4, .inl (S 82 (p3).toNatClampNeg)), (0, z_r 78), (1, z_r 86), (2, .inl p2), (3, .inl p3)], [.inl (S 168 (p2).toNatClampNeg)], zW T' G' S n, 0, 0) (by decide +kernel) rfl ⟨trivial, rfl, trivial, ⟨rfl, hs.1⟩, trivial, trivial, rfl, trivial, ⟨rfl, hs.2.1⟩, trivial⟩ ?_
  replace hs := hs.2.2
  refine z_if_ne 35 M.1 (off := 21) (by decide +kernel) (by decide) (fun c14 => ?_) (fun c14 => ?_)
  · rw [if_neg c14] at K hs
    refine z_go2 M.1 35 [(.aload_n 0, 1), (.getfield 98, 3), (.iload_n 2, 1), (.iaload, 1), (.iconst 1, 1)] (42, [(4, .inl (S 82 (p3).toNatClampNeg)), (0, z_r 78), (1, z_r 86), (2, .inl p2), (3, .inl p3)], [.inl 1, .inl (S 168 (p2).toNatClampNeg)], zW T' G' S n, 0, 0) (by decide +kernel) rfl ⟨trivial, rfl, trivial, ⟨rfl, hs.1⟩, trivial, trivial⟩ ?_
    replace hs := hs.2
    refine z_icmp_ne 78 M.1 (off := 36) (by decide +kernel) (by decide) (fun c42 => ?_) (fun c42 => ?_)
    · rw [if_neg c42] at K hs
      refine z_go2 M.1 78 [(.aload_n 0, 1), (.getfield 7, 3), (.iload_n 3, 1), (.iaload, 1), (.iconst 3, 1)] (85, [(4, .inl (S 82 (p3).toNatClampNeg)), (0, z_r 78), (1, z_r 86), (2, .inl p2), (3, .inl p3)], [.inl 3, .inl (S 79 (p3).toNatClampNeg)], zW T' G' S n, 0, 0) (by decide +kernel) rfl ⟨trivial, rfl, trivial, ⟨rfl, hs.1⟩, trivial, trivial⟩ ?_
      replace hs := hs.2
      refine z_icmp_ne 107 M.1 (off := 22) (by decide +kernel) (by decide) (fun c85 => ?_) (fun c85 => ?_)
      · rw [if_neg c85] at K hs
        exact z_lvs (lv' := [(0, z_r 78), (1, z_r 86), (2, .inl p2), (4, .inl (S 82 (p3).toNatClampNeg))]) [1, 2, 3, 0] rfl (t_M_meets_j107_86 M S p2 (S 82 (p3).toNatClampNeg) hQ K hs)
      · rw [if_pos c85] at K hs
        refine z_go2 M.1 88 [(.aload_n 0, 1), (.getfield 22, 3), (.iload_n 3, 1), (.iaload, 1), (.aload_n 0, 1), (.getfield 101, 3), (.iload_n 2, 1), (.iaload, 1)] (100, [(4, .inl (S 82 (p3).toNatClampNeg)), (0, z_r 78), (1, z_r 86), (2, .inl p2), (3, .inl p3)], [.inl (S 169 (p2).toNatClampNeg), .inl (S 83 (p3).toNatClampNeg)], zW T' G' S n, 0, 0) (by decide +kernel) rfl ⟨trivial, rfl, trivial, ⟨rfl, hs.1⟩, trivial, rfl, trivial, ⟨rfl, hs.2.1⟩, trivial⟩ ?_
        replace hs := hs.2.2
        refine z_icmp_ne 107 M.1 (off := 7) (by decide +kernel) (by decide) (fun c100 => ?_) (fun c100 => ?_)
        · rw [if_neg c100] at K hs
          exact z_lvs (lv' := [(0, z_r 78), (1, z_r 86), (2, .inl p2), (4, .inl (S 82 (p3).toNatClampNeg))]) [1, 2, 3, 0] rfl (t_M_meets_j107_86 M S p2 (S 82 (p3).toNatClampNeg) hQ K hs)
        · rw [if_pos c100] at K hs
          refine z_go2 M.1 103 [(.iconst 1, 1), (.goto 4, 3)] (108, [(4, .inl (S 82 (p3).toNatClampNeg)), (0, z_r 78), (1, z_r 86), (2, .inl p2), (3, .inl p3)], [.inl 1], zW T' G' S n, 0, 0) (by decide +kernel) rfl ⟨trivial, trivial, trivial⟩ ?_
          exact z_lvs (lv' := [(0, z_r 78), (1, z_r 86), (2, .inl p2), (4, .inl (S 82 (p3).toNatClampNeg))]) [1, 2, 3, 0] rfl (t_M_meets_j108_86 M S p2 (S 82 (p3).toNatClampNeg) 1 hQ K hs)
    · rw [if_pos c42] at K hs
      refine z_go2 M.1 45 [(.aload_n 0, 1), (.getfield 7, 3), (.iload_n 3, 1), (.iaload, 1), (.iconst 2, 1)] (52, [(4, .inl (S 82 (p3).toNatClampNeg)), (0, z_r 78), (1, z_r 86), (2, .inl p2), (3, .inl p3)], [.inl 2, .inl (S 79 (p3).toNatClampNeg)], zW T' G' S n, 0, 0) (by decide +kernel) rfl ⟨trivial, rfl, trivial, ⟨rfl, hs.1⟩, trivial, trivial⟩ ?_
      replace hs := hs.2
      refine z_icmp_ne 74 M.1 (off := 22) (by decide +kernel) (by decide) (fun c52 => ?_) (fun c52 => ?_)
      · rw [if_neg c52] at K hs
        exact z_lvs (lv' := [(0, z_r 78), (1, z_r 86), (2, .inl p2), (4, .inl (S 82 (p3).toNatClampNeg))]) [1, 2, 3, 0] rfl (t_M_meets_j74_86 M S p2 (S 82 (p3).toNatClampNeg) hQ K hs)
      · rw [if_pos c52] at K hs
        refine z_go2 M.1 55 [(.aload_n 0, 1), (.getfield 28, 3), (.iload_n 3, 1), (.iaload, 1), (.aload_n 0, 1), (.getfield 101, 3), (.iload_n 2, 1), (.iaload, 1)] (67, [(4, .inl (S 82 (p3).toNatClampNeg)), (0, z_r 78), (1, z_r 86), (2, .inl p2), (3, .inl p3)], [.inl (S 169 (p2).toNatClampNeg), .inl (S 85 (p3).toNatClampNeg)], zW T' G' S n, 0, 0) (by decide +kernel) rfl ⟨trivial, rfl, trivial, ⟨rfl, hs.1⟩, trivial, rfl, trivial, ⟨rfl, hs.2.1⟩, trivial⟩ ?_
        replace hs := hs.2.2
        refine z_icmp_ne 74 M.1 (off := 7) (by decide +kernel) (by decide) (fun c67 => ?_) (fun c67 => ?_)
        · rw [if_neg c67] at K hs
          exact z_lvs (lv' := [(0, z_r 78), (1, z_r 86), (2, .inl p2), (4, .inl (S 82 (p3).toNatClampNeg))]) [1, 2, 3, 0] rfl (t_M_meets_j74_86 M S p2 (S 82 (p3).toNatClampNeg) hQ K hs)
        · rw [if_pos c67] at K hs
          refine z_go2 M.1 70 [(.iconst 1, 1), (.goto 37, 3)] (108, [(4, .inl (S 82 (p3).toNatClampNeg)), (0, z_r 78), (1, z_r 86), (2, .inl p2), (3, .inl p3)], [.inl 1], zW T' G' S n, 0, 0) (by decide +kernel) rfl ⟨trivial, trivial, trivial⟩ ?_
          exact z_lvs (lv' := [(0, z_r 78), (1, z_r 86), (2, .inl p2), (4, .inl (S 82 (p3).toNatClampNeg))]) [1, 2, 3, 0] rfl (t_M_meets_j108_86 M S p2 (S 82 (p3).toNatClampNeg) 1 hQ K hs)
  · rw [if_pos c14] at K hs
    refine z_go2 M.1 17 [(.aload_n 0, 1), (.getfield 7, 3), (.iload_n 3, 1), (.iaload, 1), (.iconst 1, 1)] (24, [(4, .inl (S 82 (p3).toNatClampNeg)), (0, z_r 78), (1, z_r 86), (2, .inl p2), (3, .inl p3)], [.inl 1, .inl (S 79 (p3).toNatClampNeg)], zW T' G' S n, 0, 0) (by decide +kernel) rfl ⟨trivial, rfl, trivial, ⟨rfl, hs.1⟩, trivial, trivial⟩ ?_
    replace hs := hs.2
    refine z_icmp_ne 31 M.1 (off := 7) (by decide +kernel) (by decide) (fun c24 => ?_) (fun c24 => ?_)
    · rw [if_neg c24] at K hs
      refine z_go2 M.1 31 [(.iconst 0, 1), (.goto 76, 3)] (108, [(4, .inl (S 82 (p3).toNatClampNeg)), (0, z_r 78), (1, z_r 86), (2, .inl p2), (3, .inl p3)], [.inl 0], zW T' G' S n, 0, 0) (by decide +kernel) rfl ⟨trivial, trivial, trivial⟩ ?_
      exact z_lvs (lv' := [(0, z_r 78), (1, z_r 86), (2, .inl p2), (4, .inl (S 82 (p3).toNatClampNeg))]) [1, 2, 3, 0] rfl (t_M_meets_j108_86 M S p2 (S 82 (p3).toNatClampNeg) 0 hQ K hs)
    · rw [if_pos c24] at K hs
      refine z_go2 M.1 27 [(.iconst 1, 1), (.goto 80, 3)] (108, [(4, .inl (S 82 (p3).toNatClampNeg)), (0, z_r 78), (1, z_r 86), (2, .inl p2), (3, .inl p3)], [.inl 1], zW T' G' S n, 0, 0) (by decide +kernel) rfl ⟨trivial, trivial, trivial⟩ ?_
      exact z_lvs (lv' := [(0, z_r 78), (1, z_r 86), (2, .inl p2), (4, .inl (S 82 (p3).toNatClampNeg))]) [1, 2, 3, 0] rfl (t_M_meets_j108_86 M S p2 (S 82 (p3).toNatClampNeg) 1 hQ K hs)
theorem c_M_meets_110 (T' : Nat → Nat × Nat) (G' : Nat → Nat → Option Nat) (S : (Nat → Nat → Int32)) (n : Nat) (p2 : Int32) (p3 : Int32) (hs : Sf_M_meets 110 S p2 p3) : z_Run rm_M_meets zm_M_meets [z_r 78, z_r 110, .inl p2, .inl p3] (zW T' G' S n) (zq (some (.inl (F_M_meets 110 S p2 p3))) (zW T' G' S n)) := by
  refine z_body (by decide) zf_M_ok (Nat.le_of_ble_eq_true rfl) (fun X M => ?_)
  obtain ⟨Q, hQ, K⟩ : ∃ Q : Int32 → Prop, (∀ v, Q v → zq (some (.inl (F_M_meets 110 S p2 p3))) (zW T' G' S n) (some (.inl v)) (zW T' G' S n)) ∧ Q (F_M_meets 110 S p2 p3) := ⟨fun o => F_M_meets 110 S p2 p3 = o, fun v h => ⟨by rw [h], rfl⟩, rfl⟩
  show z_G X zm_M_meets (0, [(0, z_r 78), (1, z_r 110), (2, .inl p2), (3, .inl p3)], [], zW T' G' S n, 0, 0)
  unfold F_M_meets at K
  unfold Sf_M_meets at hs
  try simp only [Nat.reduceAdd] at K hs
  refine z_go2 M.1 0 [(.aload_n 0, 1), (.getfield 19, 3), (.iload_n 3, 1), (.iaload, 1), (.istore 4, 2), (.aload_n 0, 1), (.getfield 98, 3), (.iload_n 2, 1), (.iaload, 1)] (14, [(4, .inl (S 82 (p3).toNatClampNeg)), (0, z_r 78), (1, z_r 110), (2, .inl p2), (3, .inl p3)], [.inl (S 168 (p2).toNatClampNeg)], zW T' G' S n, 0, 0) (by decide +kernel) rfl ⟨trivial, rfl, trivial, ⟨rfl, hs.1⟩, trivial, trivial, rfl, trivial, ⟨rfl, hs.2.1⟩, trivial⟩ ?_
  replace hs := hs.2.2
  refine z_if_ne 35 M.1 (off := 21) (by decide +kernel) (by decide) (fun c14 => ?_) (fun c14 => ?_)
  · rw [if_neg c14] at K hs
    refine z_go2 M.1 35 [(.aload_n 0, 1), (.getfield 98, 3), (.iload_n 2, 1), (.iaload, 1), (.iconst 1, 1)] (42, [(4, .inl (S 82 (p3).toNatClampNeg)), (0, z_r 78), (1, z_r 110), (2, .inl p2), (3, .inl p3)], [.inl 1, .inl (S 168 (p2).toNatClampNeg)], zW T' G' S n, 0, 0) (by decide +kernel) rfl ⟨trivial, rfl, trivial, ⟨rfl, hs.1⟩, trivial, trivial⟩ ?_
    replace hs := hs.2
    refine z_icmp_ne 78 M.1 (off := 36) (by decide +kernel) (by decide) (fun c42 => ?_) (fun c42 => ?_)
    · rw [if_neg c42] at K hs
      refine z_go2 M.1 78 [(.aload_n 0, 1), (.getfield 7, 3), (.iload_n 3, 1), (.iaload, 1), (.iconst 3, 1)] (85, [(4, .inl (S 82 (p3).toNatClampNeg)), (0, z_r 78), (1, z_r 110), (2, .inl p2), (3, .inl p3)], [.inl 3, .inl (S 79 (p3).toNatClampNeg)], zW T' G' S n, 0, 0) (by decide +kernel) rfl ⟨trivial, rfl, trivial, ⟨rfl, hs.1⟩, trivial, trivial⟩ ?_
      replace hs := hs.2
      refine z_icmp_ne 107 M.1 (off := 22) (by decide +kernel) (by decide) (fun c85 => ?_) (fun c85 => ?_)
      · rw [if_neg c85] at K hs
        exact z_lvs (lv' := [(0, z_r 78), (1, z_r 110), (2, .inl p2), (4, .inl (S 82 (p3).toNatClampNeg))]) [1, 2, 3, 0] rfl (t_M_meets_j107_110 M S p2 (S 82 (p3).toNatClampNeg) hQ K hs)
      · rw [if_pos c85] at K hs
        refine z_go2 M.1 88 [(.aload_n 0, 1), (.getfield 22, 3), (.iload_n 3, 1), (.iaload, 1), (.aload_n 0, 1), (.getfield 101, 3), (.iload_n 2, 1), (.iaload, 1)] (100, [(4, .inl (S 82 (p3).toNatClampNeg)), (0, z_r 78), (1, z_r 110), (2, .inl p2), (3, .inl p3)], [.inl (S 169 (p2).toNatClampNeg), .inl (S 83 (p3).toNatClampNeg)], zW T' G' S n, 0, 0) (by decide +kernel) rfl ⟨trivial, rfl, trivial, ⟨rfl, hs.1⟩, trivial, rfl, trivial, ⟨rfl, hs.2.1⟩, trivial⟩ ?_
        replace hs := hs.2.2
        refine z_icmp_ne 107 M.1 (off := 7) (by decide +kernel) (by decide) (fun c100 => ?_) (fun c100 => ?_)
        · rw [if_neg c100] at K hs
          exact z_lvs (lv' := [(0, z_r 78), (1, z_r 110), (2, .inl p2), (4, .inl (S 82 (p3).toNatClampNeg))]) [1, 2, 3, 0] rfl (t_M_meets_j107_110 M S p2 (S 82 (p3).toNatClampNeg) hQ K hs)
        · rw [if_pos c100] at K hs
          refine z_go2 M.1 103 [(.iconst 1, 1), (.goto 4, 3)] (108, [(4, .inl (S 82 (p3).toNatClampNeg)), (0, z_r 78), (1, z_r 110), (2, .inl p2), (3, .inl p3)], [.inl 1], zW T' G' S n, 0, 0) (by decide +kernel) rfl ⟨trivial, trivial, trivial⟩ ?_
          exact z_lvs (lv' := [(0, z_r 78), (1, z_r 110), (2, .inl p2), (4, .inl (S 82 (p3).toNatClampNeg))]) [1, 2, 3, 0] rfl (t_M_meets_j108_110 M S p2 (S 82 (p3).toNatClampNeg) 1 hQ K hs)
    · rw [if_pos c42] at K hs
      refine z_go2 M.1 45 [(.aload_n 0, 1), (.getfield 7, 3), (.iload_n 3, 1), (.iaload, 1), (.iconst 2, 1)] (52, [(4, .inl (S 82 (p3).toNatClampNeg)), (0, z_r 78), (1, z_r 110), (2, .inl p2), (3, .inl p3)], [.inl 2, .inl (S 79 (p3).toNatClampNeg)], zW T' G' S n, 0, 0) (by decide +kernel) rfl ⟨trivial, rfl, trivial, ⟨rfl, hs.1⟩, trivial, trivial⟩ ?_
      replace hs := hs.2
      refine z_icmp_ne 74 M.1 (off := 22) (by decide +kernel) (by decide) (fun c52 => ?_) (fun c52 => ?_)
      · rw [if_neg c52] at K hs
        exact z_lvs (lv' := [(0, z_r 78), (1, z_r 110), (2, .inl p2), (4, .inl (S 82 (p3).toNatClampNeg))]) [1, 2, 3, 0] rfl (t_M_meets_j74_110 M S p2 (S 82 (p3).toNatClampNeg) hQ K hs)
      · rw [if_pos c52] at K hs
        refine z_go2 M.1 55 [(.aload_n 0, 1), (.getfield 28, 3), (.iload_n 3, 1), (.iaload, 1), (.aload_n 0, 1), (.getfield 101, 3), (.iload_n 2, 1), (.iaload, 1)] (67, [(4, .inl (S 82 (p3).toNatClampNeg)), (0, z_r 78), (1, z_r 110), (2, .inl p2), (3, .inl p3)], [.inl (S 169 (p2).toNatClampNeg), .inl (S 85 (p3).toNatClampNeg)], zW T' G' S n, 0, 0) (by decide +kernel) rfl ⟨trivial, rfl, trivial, ⟨rfl, hs.1⟩, trivial, rfl, trivial, ⟨rfl, hs.2.1⟩, trivial⟩ ?_
        replace hs := hs.2.2
        refine z_icmp_ne 74 M.1 (off := 7) (by decide +kernel) (by decide) (fun c67 => ?_) (fun c67 => ?_)
        · rw [if_neg c67] at K hs
          exact z_lvs (lv' := [(0, z_r 78), (1, z_r 110), (2, .inl p2), (4, .inl (S 82 (p3).toNatClampNeg))]) [1, 2, 3, 0] rfl (t_M_meets_j74_110 M S p2 (S 82 (p3).toNatClampNeg) hQ K hs)
        · rw [if_pos c67] at K hs
          refine z_go2 M.1 70 [(.iconst 1, 1), (.goto 37, 3)] (108, [(4, .inl (S 82 (p3).toNatClampNeg)), (0, z_r 78), (1, z_r 110), (2, .inl p2), (3, .inl p3)], [.inl 1], zW T' G' S n, 0, 0) (by decide +kernel) rfl ⟨trivial, trivial, trivial⟩ ?_
          exact z_lvs (lv' := [(0, z_r 78), (1, z_r 110), (2, .inl p2), (4, .inl (S 82 (p3).toNatClampNeg))]) [1, 2, 3, 0] rfl (t_M_meets_j108_110 M S p2 (S 82 (p3).toNatClampNeg) 1 hQ K hs)
  · rw [if_pos c14] at K hs
    refine z_go2 M.1 17 [(.aload_n 0, 1), (.getfield 7, 3), (.iload_n 3, 1), (.iaload, 1), (.iconst 1, 1)] (24, [(4, .inl (S 82 (p3).toNatClampNeg)), (0, z_r 78), (1, z_r 110), (2, .inl p2), (3, .inl p3)], [.inl 1, .inl (S 79 (p3).toNatClampNeg)], zW T' G' S n, 0, 0) (by decide +kernel) rfl ⟨trivial, rfl, trivial, ⟨rfl, hs.1⟩, trivial, trivial⟩ ?_
    replace hs := hs.2
    refine z_icmp_ne 31 M.1 (off := 7) (by decide +kernel) (by decide) (fun c24 => ?_) (fun c24 => ?_)
    · rw [if_neg c24] at K hs
      refine z_go2 M.1 31 [(.iconst 0, 1), (.goto 76, 3)] (108, [(4, .inl (S 82 (p3).toNatClampNeg)), (0, z_r 78), (1, z_r 110), (2, .inl p2), (3, .inl p3)], [.inl 0], zW T' G' S n, 0, 0) (by decide +kernel) rfl ⟨trivial, trivial, trivial⟩ ?_
      exact z_lvs (lv' := [(0, z_r 78), (1, z_r 110), (2, .inl p2), (4, .inl (S 82 (p3).toNatClampNeg))]) [1, 2, 3, 0] rfl (t_M_meets_j108_110 M S p2 (S 82 (p3).toNatClampNeg) 0 hQ K hs)
    · rw [if_pos c24] at K hs
      refine z_go2 M.1 27 [(.iconst 1, 1), (.goto 80, 3)] (108, [(4, .inl (S 82 (p3).toNatClampNeg)), (0, z_r 78), (1, z_r 110), (2, .inl p2), (3, .inl p3)], [.inl 1], zW T' G' S n, 0, 0) (by decide +kernel) rfl ⟨trivial, trivial, trivial⟩ ?_
      exact z_lvs (lv' := [(0, z_r 78), (1, z_r 110), (2, .inl p2), (4, .inl (S 82 (p3).toNatClampNeg))]) [1, 2, 3, 0] rfl (t_M_meets_j108_110 M S p2 (S 82 (p3).toNatClampNeg) 1 hQ K hs)

-- TrackHouseModel.isTarget
abbrev rm_M_isTarget : Room := zr 1
def F_M_isTarget (w : Nat) (S : (Nat → Nat → Int32)) (p1 : Int32) (p2 : Int32) (p3 : Int32) : Int32 := (if (S (w + 9) (p3).toNatClampNeg) = 0 then 0 else (if p1 = 0 then (if p3 = p2 then 1 else 0) else (if p1 = 1 then (if (S (w + 6) (p2).toNatClampNeg) = p3 then 1 else 0) else (if p1 = 2 then (if (S (w + 6) (p3).toNatClampNeg) = p2 then 1 else 0) else (F_MW_isLinked w S 0 p2 p3)))))
def Sf_M_isTarget (w : Nat) (S : (Nat → Nat → Int32)) (p1 : Int32) (p2 : Int32) (p3 : Int32) : Prop := ((vp_in p3 30) ∧ (if (S (w + 9) (p3).toNatClampNeg) = 0 then True else (if p1 = 0 then True else (if p1 = 1 then ((vp_in p2 30) ∧ True) else (if p1 = 2 then ((vp_in p3 30) ∧ True) else (Sf_MW_isLinked w S 0 p2 p3 ∧ (narrow .boolean (.int (F_MW_isLinked w S 0 p2 p3)) = .int (F_MW_isLinked w S 0 p2 p3) ∧ True)))))))
theorem c_M_isTarget_86 (T' : Nat → Nat × Nat) (G' : Nat → Nat → Option Nat) (S : (Nat → Nat → Int32)) (n : Nat) (p1 : Int32) (p2 : Int32) (p3 : Int32) (hs : Sf_M_isTarget 86 S p1 p2 p3) : z_Run rm_M_isTarget zm_M_isTarget [z_r 86, .inl p1, .inl p2, .inl p3] (zW T' G' S n) (zq (some (.inl (F_M_isTarget 86 S p1 p2 p3))) (zW T' G' S n)) := by
  refine z_body (by decide) zf_M_ok (Nat.le_of_ble_eq_true rfl) (fun X M => ?_)
  obtain ⟨Q, hQ, K⟩ : ∃ Q : Int32 → Prop, (∀ v, Q v → zq (some (.inl (F_M_isTarget 86 S p1 p2 p3))) (zW T' G' S n) (some (.inl v)) (zW T' G' S n)) ∧ Q (F_M_isTarget 86 S p1 p2 p3) := ⟨fun o => F_M_isTarget 86 S p1 p2 p3 = o, fun v h => ⟨by rw [h], rfl⟩, rfl⟩
  show z_G X zm_M_isTarget (0, [(0, z_r 86), (1, .inl p1), (2, .inl p2), (3, .inl p3)], [], zW T' G' S n, 0, 0)
  unfold F_M_isTarget at K
  unfold Sf_M_isTarget at hs
  try simp only [Nat.reduceAdd] at K hs
  refine z_go2 M.1 0 [(.aload_n 0, 1), (.getfield 226, 3), (.iload_n 3, 1), (.baload, 1)] (6, [(0, z_r 86), (1, .inl p1), (2, .inl p2), (3, .inl p3)], [.inl (S 95 (p3).toNatClampNeg)], zW T' G' S n, 0, 0) (by decide +kernel) rfl ⟨trivial, rfl, trivial, ⟨rfl, hs.1⟩, trivial⟩ ?_
  replace hs := hs.2
  refine z_if_ne 11 M.1 (off := 5) (by decide +kernel) (by decide) (fun c6 => ?_) (fun c6 => ?_)
  · rw [if_neg c6] at K hs
    refine z_go2 M.1 11 [(.iload_n 1, 1)] (12, [(0, z_r 86), (1, .inl p1), (2, .inl p2), (3, .inl p3)], [.inl p1], zW T' G' S n, 0, 0) (by decide +kernel) rfl ⟨trivial, trivial⟩ ?_
    refine z_if_ne 28 M.1 (off := 16) (by decide +kernel) (by decide) (fun c12 => ?_) (fun c12 => ?_)
    · rw [if_neg c12] at K hs
      refine z_go2 M.1 28 [(.iload_n 1, 1), (.iconst 1, 1)] (30, [(0, z_r 86), (1, .inl p1), (2, .inl p2), (3, .inl p3)], [.inl 1, .inl p1], zW T' G' S n, 0, 0) (by decide +kernel) rfl ⟨trivial, trivial, trivial⟩ ?_
      refine z_icmp_ne 51 M.1 (off := 21) (by decide +kernel) (by decide) (fun c30 => ?_) (fun c30 => ?_)
      · rw [if_neg c30] at K hs
        refine z_go2 M.1 51 [(.iload_n 1, 1), (.iconst 2, 1)] (53, [(0, z_r 86), (1, .inl p1), (2, .inl p2), (3, .inl p3)], [.inl 2, .inl p1], zW T' G' S n, 0, 0) (by decide +kernel) rfl ⟨trivial, trivial, trivial⟩ ?_
        refine z_icmp_ne 74 M.1 (off := 21) (by decide +kernel) (by decide) (fun c53 => ?_) (fun c53 => ?_)
        · rw [if_neg c53] at K hs
          refine z_go2 M.1 74 [(.aload_n 0, 1), (.iconst 0, 1), (.iload_n 2, 1), (.iload_n 3, 1)] (78, [(0, z_r 86), (1, .inl p1), (2, .inl p2), (3, .inl p3)], [.inl p3, .inl p2, .inl 0, z_r 86], zW T' G' S n, 0, 0) (by decide +kernel) rfl ⟨trivial, trivial, trivial, trivial, trivial⟩ ?_
          refine z_callV M.1 (av := [.inl 0, .inl p2, .inl p3]) (st := []) (a := 86) (ci := 13) (by decide +kernel) (c_MW_isLinked_86 T' G' S n 0 p2 p3 hs.1) M.2.1 zl_M_256 zv_MW_isLinked rfl rfl rfl ⟨by decide, by decide, by decide, by decide⟩ rfl (Nat.le_of_ble_eq_true rfl) (fun v w' hv => ?_)
          obtain ⟨rfl, rfl⟩ := hv
          replace hs := hs.2
          show z_G X zm_M_isTarget (81, [(0, z_r 86), (1, .inl p1), (2, .inl p2), (3, .inl p3)], [.inl (F_MW_isLinked 86 S 0 p2 p3)], zW T' G' S n, 0, 0)
          exact z_iret M (by decide +kernel) .boolean rfl hs.1 (by decide) (by decide) (hQ _ K)
        · rw [if_pos c53] at K hs
          refine z_go2 M.1 56 [(.aload_n 0, 1), (.getfield 207, 3), (.iload_n 3, 1), (.iaload, 1), (.iload_n 2, 1)] (63, [(0, z_r 86), (1, .inl p1), (2, .inl p2), (3, .inl p3)], [.inl p2, .inl (S 92 (p3).toNatClampNeg)], zW T' G' S n, 0, 0) (by decide +kernel) rfl ⟨trivial, rfl, trivial, ⟨rfl, hs.1⟩, trivial, trivial⟩ ?_
          replace hs := hs.2
          refine z_icmp_ne 70 M.1 (off := 7) (by decide +kernel) (by decide) (fun c63 => ?_) (fun c63 => ?_)
          · rw [if_neg c63] at K
            refine z_go2 M.1 70 [(.iconst 0, 1), (.goto 10, 3)] (81, [(0, z_r 86), (1, .inl p1), (2, .inl p2), (3, .inl p3)], [.inl 0], zW T' G' S n, 0, 0) (by decide +kernel) rfl ⟨trivial, trivial, trivial⟩ ?_
            exact z_iret M (by decide +kernel) .boolean rfl rfl (by decide) (by decide) (hQ _ K)
          · rw [if_pos c63] at K
            refine z_go2 M.1 66 [(.iconst 1, 1), (.goto 14, 3)] (81, [(0, z_r 86), (1, .inl p1), (2, .inl p2), (3, .inl p3)], [.inl 1], zW T' G' S n, 0, 0) (by decide +kernel) rfl ⟨trivial, trivial, trivial⟩ ?_
            exact z_iret M (by decide +kernel) .boolean rfl rfl (by decide) (by decide) (hQ _ K)
      · rw [if_pos c30] at K hs
        refine z_go2 M.1 33 [(.aload_n 0, 1), (.getfield 207, 3), (.iload_n 2, 1), (.iaload, 1), (.iload_n 3, 1)] (40, [(0, z_r 86), (1, .inl p1), (2, .inl p2), (3, .inl p3)], [.inl p3, .inl (S 92 (p2).toNatClampNeg)], zW T' G' S n, 0, 0) (by decide +kernel) rfl ⟨trivial, rfl, trivial, ⟨rfl, hs.1⟩, trivial, trivial⟩ ?_
        replace hs := hs.2
        refine z_icmp_ne 47 M.1 (off := 7) (by decide +kernel) (by decide) (fun c40 => ?_) (fun c40 => ?_)
        · rw [if_neg c40] at K
          refine z_go2 M.1 47 [(.iconst 0, 1), (.goto 33, 3)] (81, [(0, z_r 86), (1, .inl p1), (2, .inl p2), (3, .inl p3)], [.inl 0], zW T' G' S n, 0, 0) (by decide +kernel) rfl ⟨trivial, trivial, trivial⟩ ?_
          exact z_iret M (by decide +kernel) .boolean rfl rfl (by decide) (by decide) (hQ _ K)
        · rw [if_pos c40] at K
          refine z_go2 M.1 43 [(.iconst 1, 1), (.goto 37, 3)] (81, [(0, z_r 86), (1, .inl p1), (2, .inl p2), (3, .inl p3)], [.inl 1], zW T' G' S n, 0, 0) (by decide +kernel) rfl ⟨trivial, trivial, trivial⟩ ?_
          exact z_iret M (by decide +kernel) .boolean rfl rfl (by decide) (by decide) (hQ _ K)
    · rw [if_pos c12] at K hs
      refine z_go2 M.1 15 [(.iload_n 3, 1), (.iload_n 2, 1)] (17, [(0, z_r 86), (1, .inl p1), (2, .inl p2), (3, .inl p3)], [.inl p2, .inl p3], zW T' G' S n, 0, 0) (by decide +kernel) rfl ⟨trivial, trivial, trivial⟩ ?_
      refine z_icmp_ne 24 M.1 (off := 7) (by decide +kernel) (by decide) (fun c17 => ?_) (fun c17 => ?_)
      · rw [if_neg c17] at K
        refine z_go2 M.1 24 [(.iconst 0, 1), (.goto 56, 3)] (81, [(0, z_r 86), (1, .inl p1), (2, .inl p2), (3, .inl p3)], [.inl 0], zW T' G' S n, 0, 0) (by decide +kernel) rfl ⟨trivial, trivial, trivial⟩ ?_
        exact z_iret M (by decide +kernel) .boolean rfl rfl (by decide) (by decide) (hQ _ K)
      · rw [if_pos c17] at K
        refine z_go2 M.1 20 [(.iconst 1, 1), (.goto 60, 3)] (81, [(0, z_r 86), (1, .inl p1), (2, .inl p2), (3, .inl p3)], [.inl 1], zW T' G' S n, 0, 0) (by decide +kernel) rfl ⟨trivial, trivial, trivial⟩ ?_
        exact z_iret M (by decide +kernel) .boolean rfl rfl (by decide) (by decide) (hQ _ K)
  · rw [if_pos c6] at K hs
    refine z_go2 M.1 9 [(.iconst 0, 1)] (10, [(0, z_r 86), (1, .inl p1), (2, .inl p2), (3, .inl p3)], [.inl 0], zW T' G' S n, 0, 0) (by decide +kernel) rfl ⟨trivial, trivial⟩ ?_
    exact z_iret M (by decide +kernel) .boolean rfl rfl (by decide) (by decide) (hQ _ K)
theorem c_M_isTarget_110 (T' : Nat → Nat × Nat) (G' : Nat → Nat → Option Nat) (S : (Nat → Nat → Int32)) (n : Nat) (p1 : Int32) (p2 : Int32) (p3 : Int32) (hs : Sf_M_isTarget 110 S p1 p2 p3) : z_Run rm_M_isTarget zm_M_isTarget [z_r 110, .inl p1, .inl p2, .inl p3] (zW T' G' S n) (zq (some (.inl (F_M_isTarget 110 S p1 p2 p3))) (zW T' G' S n)) := by
  refine z_body (by decide) zf_M_ok (Nat.le_of_ble_eq_true rfl) (fun X M => ?_)
  obtain ⟨Q, hQ, K⟩ : ∃ Q : Int32 → Prop, (∀ v, Q v → zq (some (.inl (F_M_isTarget 110 S p1 p2 p3))) (zW T' G' S n) (some (.inl v)) (zW T' G' S n)) ∧ Q (F_M_isTarget 110 S p1 p2 p3) := ⟨fun o => F_M_isTarget 110 S p1 p2 p3 = o, fun v h => ⟨by rw [h], rfl⟩, rfl⟩
  show z_G X zm_M_isTarget (0, [(0, z_r 110), (1, .inl p1), (2, .inl p2), (3, .inl p3)], [], zW T' G' S n, 0, 0)
  unfold F_M_isTarget at K
  unfold Sf_M_isTarget at hs
  try simp only [Nat.reduceAdd] at K hs
  refine z_go2 M.1 0 [(.aload_n 0, 1), (.getfield 226, 3), (.iload_n 3, 1), (.baload, 1)] (6, [(0, z_r 110), (1, .inl p1), (2, .inl p2), (3, .inl p3)], [.inl (S 119 (p3).toNatClampNeg)], zW T' G' S n, 0, 0) (by decide +kernel) rfl ⟨trivial, rfl, trivial, ⟨rfl, hs.1⟩, trivial⟩ ?_
  replace hs := hs.2
  refine z_if_ne 11 M.1 (off := 5) (by decide +kernel) (by decide) (fun c6 => ?_) (fun c6 => ?_)
  · rw [if_neg c6] at K hs
    refine z_go2 M.1 11 [(.iload_n 1, 1)] (12, [(0, z_r 110), (1, .inl p1), (2, .inl p2), (3, .inl p3)], [.inl p1], zW T' G' S n, 0, 0) (by decide +kernel) rfl ⟨trivial, trivial⟩ ?_
    refine z_if_ne 28 M.1 (off := 16) (by decide +kernel) (by decide) (fun c12 => ?_) (fun c12 => ?_)
    · rw [if_neg c12] at K hs
      refine z_go2 M.1 28 [(.iload_n 1, 1), (.iconst 1, 1)] (30, [(0, z_r 110), (1, .inl p1), (2, .inl p2), (3, .inl p3)], [.inl 1, .inl p1], zW T' G' S n, 0, 0) (by decide +kernel) rfl ⟨trivial, trivial, trivial⟩ ?_
      refine z_icmp_ne 51 M.1 (off := 21) (by decide +kernel) (by decide) (fun c30 => ?_) (fun c30 => ?_)
      · rw [if_neg c30] at K hs
        refine z_go2 M.1 51 [(.iload_n 1, 1), (.iconst 2, 1)] (53, [(0, z_r 110), (1, .inl p1), (2, .inl p2), (3, .inl p3)], [.inl 2, .inl p1], zW T' G' S n, 0, 0) (by decide +kernel) rfl ⟨trivial, trivial, trivial⟩ ?_
        refine z_icmp_ne 74 M.1 (off := 21) (by decide +kernel) (by decide) (fun c53 => ?_) (fun c53 => ?_)
        · rw [if_neg c53] at K hs
          refine z_go2 M.1 74 [(.aload_n 0, 1), (.iconst 0, 1), (.iload_n 2, 1), (.iload_n 3, 1)] (78, [(0, z_r 110), (1, .inl p1), (2, .inl p2), (3, .inl p3)], [.inl p3, .inl p2, .inl 0, z_r 110], zW T' G' S n, 0, 0) (by decide +kernel) rfl ⟨trivial, trivial, trivial, trivial, trivial⟩ ?_
          refine z_callV M.1 (av := [.inl 0, .inl p2, .inl p3]) (st := []) (a := 110) (ci := 13) (by decide +kernel) (c_MW_isLinked_110 T' G' S n 0 p2 p3 hs.1) M.2.1 zl_M_256 zv_MW_isLinked rfl rfl rfl ⟨by decide, by decide, by decide, by decide⟩ rfl (Nat.le_of_ble_eq_true rfl) (fun v w' hv => ?_)
          obtain ⟨rfl, rfl⟩ := hv
          replace hs := hs.2
          show z_G X zm_M_isTarget (81, [(0, z_r 110), (1, .inl p1), (2, .inl p2), (3, .inl p3)], [.inl (F_MW_isLinked 110 S 0 p2 p3)], zW T' G' S n, 0, 0)
          exact z_iret M (by decide +kernel) .boolean rfl hs.1 (by decide) (by decide) (hQ _ K)
        · rw [if_pos c53] at K hs
          refine z_go2 M.1 56 [(.aload_n 0, 1), (.getfield 207, 3), (.iload_n 3, 1), (.iaload, 1), (.iload_n 2, 1)] (63, [(0, z_r 110), (1, .inl p1), (2, .inl p2), (3, .inl p3)], [.inl p2, .inl (S 116 (p3).toNatClampNeg)], zW T' G' S n, 0, 0) (by decide +kernel) rfl ⟨trivial, rfl, trivial, ⟨rfl, hs.1⟩, trivial, trivial⟩ ?_
          replace hs := hs.2
          refine z_icmp_ne 70 M.1 (off := 7) (by decide +kernel) (by decide) (fun c63 => ?_) (fun c63 => ?_)
          · rw [if_neg c63] at K
            refine z_go2 M.1 70 [(.iconst 0, 1), (.goto 10, 3)] (81, [(0, z_r 110), (1, .inl p1), (2, .inl p2), (3, .inl p3)], [.inl 0], zW T' G' S n, 0, 0) (by decide +kernel) rfl ⟨trivial, trivial, trivial⟩ ?_
            exact z_iret M (by decide +kernel) .boolean rfl rfl (by decide) (by decide) (hQ _ K)
          · rw [if_pos c63] at K
            refine z_go2 M.1 66 [(.iconst 1, 1), (.goto 14, 3)] (81, [(0, z_r 110), (1, .inl p1), (2, .inl p2), (3, .inl p3)], [.inl 1], zW T' G' S n, 0, 0) (by decide +kernel) rfl ⟨trivial, trivial, trivial⟩ ?_
            exact z_iret M (by decide +kernel) .boolean rfl rfl (by decide) (by decide) (hQ _ K)
      · rw [if_pos c30] at K hs
        refine z_go2 M.1 33 [(.aload_n 0, 1), (.getfield 207, 3), (.iload_n 2, 1), (.iaload, 1), (.iload_n 3, 1)] (40, [(0, z_r 110), (1, .inl p1), (2, .inl p2), (3, .inl p3)], [.inl p3, .inl (S 116 (p2).toNatClampNeg)], zW T' G' S n, 0, 0) (by decide +kernel) rfl ⟨trivial, rfl, trivial, ⟨rfl, hs.1⟩, trivial, trivial⟩ ?_
        replace hs := hs.2
        refine z_icmp_ne 47 M.1 (off := 7) (by decide +kernel) (by decide) (fun c40 => ?_) (fun c40 => ?_)
        · rw [if_neg c40] at K
          refine z_go2 M.1 47 [(.iconst 0, 1), (.goto 33, 3)] (81, [(0, z_r 110), (1, .inl p1), (2, .inl p2), (3, .inl p3)], [.inl 0], zW T' G' S n, 0, 0) (by decide +kernel) rfl ⟨trivial, trivial, trivial⟩ ?_
          exact z_iret M (by decide +kernel) .boolean rfl rfl (by decide) (by decide) (hQ _ K)
        · rw [if_pos c40] at K
          refine z_go2 M.1 43 [(.iconst 1, 1), (.goto 37, 3)] (81, [(0, z_r 110), (1, .inl p1), (2, .inl p2), (3, .inl p3)], [.inl 1], zW T' G' S n, 0, 0) (by decide +kernel) rfl ⟨trivial, trivial, trivial⟩ ?_
          exact z_iret M (by decide +kernel) .boolean rfl rfl (by decide) (by decide) (hQ _ K)
    · rw [if_pos c12] at K hs
      refine z_go2 M.1 15 [(.iload_n 3, 1), (.iload_n 2, 1)] (17, [(0, z_r 110), (1, .inl p1), (2, .inl p2), (3, .inl p3)], [.inl p2, .inl p3], zW T' G' S n, 0, 0) (by decide +kernel) rfl ⟨trivial, trivial, trivial⟩ ?_
      refine z_icmp_ne 24 M.1 (off := 7) (by decide +kernel) (by decide) (fun c17 => ?_) (fun c17 => ?_)
      · rw [if_neg c17] at K
        refine z_go2 M.1 24 [(.iconst 0, 1), (.goto 56, 3)] (81, [(0, z_r 110), (1, .inl p1), (2, .inl p2), (3, .inl p3)], [.inl 0], zW T' G' S n, 0, 0) (by decide +kernel) rfl ⟨trivial, trivial, trivial⟩ ?_
        exact z_iret M (by decide +kernel) .boolean rfl rfl (by decide) (by decide) (hQ _ K)
      · rw [if_pos c17] at K
        refine z_go2 M.1 20 [(.iconst 1, 1), (.goto 60, 3)] (81, [(0, z_r 110), (1, .inl p1), (2, .inl p2), (3, .inl p3)], [.inl 1], zW T' G' S n, 0, 0) (by decide +kernel) rfl ⟨trivial, trivial, trivial⟩ ?_
        exact z_iret M (by decide +kernel) .boolean rfl rfl (by decide) (by decide) (hQ _ K)
  · rw [if_pos c6] at K hs
    refine z_go2 M.1 9 [(.iconst 0, 1)] (10, [(0, z_r 110), (1, .inl p1), (2, .inl p2), (3, .inl p3)], [.inl 0], zW T' G' S n, 0, 0) (by decide +kernel) rfl ⟨trivial, trivial⟩ ?_
    exact z_iret M (by decide +kernel) .boolean rfl rfl (by decide) (by decide) (hQ _ K)

-- TrackHouseModel.acts
abbrev rm_M_acts : Room := zr 4
def F_M_acts_j94 (w : Nat) (fl : Nat → Nat) (S : (Nat → Nat → Int32)) (x2 : Int32) (x3 : Int32) (x4 : Int32) (x5 : Int32) : (Nat → Nat → Int32) := (if (S 174 (x2).toNatClampNeg) = 2 then (z_let (F_M_change w S 4 x3 x4 0 x5) (fun S113 => S113)) else S)
def Sf_M_acts_j94 (w : Nat) (fl : Nat → Nat) (S : (Nat → Nat → Int32)) (x2 : Int32) (x3 : Int32) (x4 : Int32) (x5 : Int32) : Prop := ((vp_in x2 6) ∧ (if (S 174 (x2).toNatClampNeg) = 2 then (Sf_M_change w S 4 x3 x4 0 x5 ∧ True) else True))
theorem t_M_acts_j94_86 {X : z_X} {Post : Option z_V → z_W → Prop} (M : z_M X zm_M_acts rm_M_acts Post) {T' : Nat → Nat × Nat} {G' : Nat → Nat → Option Nat} {n : Nat} (fl : Nat → Nat) (hfl : zOK T' G' fl n) {Q : (Nat → Nat → Int32) → Prop} (S : (Nat → Nat → Int32)) (x2 : Int32) (x3 : Int32) (x4 : Int32) (x5 : Int32) (hQ : ∀ S', Q S' → Post none (zW T' G' S' n)) (K : Q (F_M_acts_j94 86 fl S x2 x3 x4 x5)) (hs : Sf_M_acts_j94 86 fl S x2 x3 x4 x5) : z_G X zm_M_acts (94, [(0, z_r 78), (1, z_r 86), (2, .inl x2), (3, .inl x3), (4, .inl x4), (5, .inl x5)], [], zW T' G' S n, 0, 0) := by
  unfold F_M_acts_j94 at K
  unfold Sf_M_acts_j94 at hs
  try simp only [Nat.reduceAdd] at K hs
  refine z_go2 M.1 94 [(.aload_n 0, 1), (.getfield 116, 3), (.iload_n 2, 1), (.iaload, 1), (.iconst 2, 1)] (101, [(0, z_r 78), (1, z_r 86), (2, .inl x2), (3, .inl x3), (4, .inl x4), (5, .inl x5)], [.inl 2, .inl (S 174 (x2).toNatClampNeg)], zW T' G' S n, 0, 0) (by decide +kernel) rfl ⟨trivial, rfl, trivial, ⟨rfl, hs.1⟩, trivial, trivial⟩ ?_
  replace hs := hs.2
  refine z_icmp_ne 116 M.1 (off := 15) (by decide +kernel) (by decide) (fun c101 => ?_) (fun c101 => ?_)
  · rw [if_neg c101] at K hs
    exact z_vret M (by decide +kernel) rfl (by decide) (by decide) (hQ _ K)
  · rw [if_pos c101] at K hs
    refine z_go2 M.1 104 [(.aload_n 0, 1), (.aload_n 1, 1), (.iconst 4, 1), (.iload_n 3, 1), (.iload 4, 2), (.iconst 0, 1), (.iload 5, 2)] (113, [(0, z_r 78), (1, z_r 86), (2, .inl x2), (3, .inl x3), (4, .inl x4), (5, .inl x5)], [.inl x5, .inl 0, .inl x4, .inl x3, .inl 4, z_r 86, z_r 78], zW T' G' S n, 0, 0) (by decide +kernel) rfl ⟨trivial, trivial, trivial, trivial, trivial, trivial, trivial, trivial⟩ ?_
    refine z_callV M.1 (av := [z_r 86, .inl 4, .inl x3, .inl x4, .inl 0, .inl x5]) (st := []) (a := 78) (ci := 14) (by decide +kernel) (c_M_change_86 T' G' S n 4 x3 x4 0 x5 hs.1) M.2.1 zl_M_259 zv_M_change rfl rfl rfl ⟨by decide, by decide, by decide, by decide⟩ rfl (Nat.le_of_ble_eq_true rfl) (fun v w' hv => ?_)
    replace hs := hs.2
    obtain ⟨S113, hF113⟩ : ∃ y, F_M_change 86 S 4 x3 x4 0 x5 = y := ⟨_, rfl⟩
    rw [hF113] at K hv
    try dsimp only [z_let] at K
    obtain ⟨rfl, rfl⟩ := hv
    show z_G X zm_M_acts (116, [(0, z_r 78), (1, z_r 86), (2, .inl x2), (3, .inl x3), (4, .inl x4), (5, .inl x5)], [], zW T' G' S113 n, 0, 0)
    exact z_vret M (by decide +kernel) rfl (by decide) (by decide) (hQ _ K)
theorem t_M_acts_j94_110 {X : z_X} {Post : Option z_V → z_W → Prop} (M : z_M X zm_M_acts rm_M_acts Post) {T' : Nat → Nat × Nat} {G' : Nat → Nat → Option Nat} {n : Nat} (fl : Nat → Nat) (hfl : zOK T' G' fl n) {Q : (Nat → Nat → Int32) → Prop} (S : (Nat → Nat → Int32)) (x2 : Int32) (x3 : Int32) (x4 : Int32) (x5 : Int32) (hQ : ∀ S', Q S' → Post none (zW T' G' S' n)) (K : Q (F_M_acts_j94 110 fl S x2 x3 x4 x5)) (hs : Sf_M_acts_j94 110 fl S x2 x3 x4 x5) : z_G X zm_M_acts (94, [(0, z_r 78), (1, z_r 110), (2, .inl x2), (3, .inl x3), (4, .inl x4), (5, .inl x5)], [], zW T' G' S n, 0, 0) := by
  unfold F_M_acts_j94 at K
  unfold Sf_M_acts_j94 at hs
  try simp only [Nat.reduceAdd] at K hs
  refine z_go2 M.1 94 [(.aload_n 0, 1), (.getfield 116, 3), (.iload_n 2, 1), (.iaload, 1), (.iconst 2, 1)] (101, [(0, z_r 78), (1, z_r 110), (2, .inl x2), (3, .inl x3), (4, .inl x4), (5, .inl x5)], [.inl 2, .inl (S 174 (x2).toNatClampNeg)], zW T' G' S n, 0, 0) (by decide +kernel) rfl ⟨trivial, rfl, trivial, ⟨rfl, hs.1⟩, trivial, trivial⟩ ?_
  replace hs := hs.2
  refine z_icmp_ne 116 M.1 (off := 15) (by decide +kernel) (by decide) (fun c101 => ?_) (fun c101 => ?_)
  · rw [if_neg c101] at K hs
    exact z_vret M (by decide +kernel) rfl (by decide) (by decide) (hQ _ K)
  · rw [if_pos c101] at K hs
    refine z_go2 M.1 104 [(.aload_n 0, 1), (.aload_n 1, 1), (.iconst 4, 1), (.iload_n 3, 1), (.iload 4, 2), (.iconst 0, 1), (.iload 5, 2)] (113, [(0, z_r 78), (1, z_r 110), (2, .inl x2), (3, .inl x3), (4, .inl x4), (5, .inl x5)], [.inl x5, .inl 0, .inl x4, .inl x3, .inl 4, z_r 110, z_r 78], zW T' G' S n, 0, 0) (by decide +kernel) rfl ⟨trivial, trivial, trivial, trivial, trivial, trivial, trivial, trivial⟩ ?_
    refine z_callV M.1 (av := [z_r 110, .inl 4, .inl x3, .inl x4, .inl 0, .inl x5]) (st := []) (a := 78) (ci := 14) (by decide +kernel) (c_M_change_110 T' G' S n 4 x3 x4 0 x5 hs.1) M.2.1 zl_M_259 zv_M_change rfl rfl rfl ⟨by decide, by decide, by decide, by decide⟩ rfl (Nat.le_of_ble_eq_true rfl) (fun v w' hv => ?_)
    replace hs := hs.2
    obtain ⟨S113, hF113⟩ : ∃ y, F_M_change 110 S 4 x3 x4 0 x5 = y := ⟨_, rfl⟩
    rw [hF113] at K hv
    try dsimp only [z_let] at K
    obtain ⟨rfl, rfl⟩ := hv
    show z_G X zm_M_acts (116, [(0, z_r 78), (1, z_r 110), (2, .inl x2), (3, .inl x3), (4, .inl x4), (5, .inl x5)], [], zW T' G' S113 n, 0, 0)
    exact z_vret M (by decide +kernel) rfl (by decide) (by decide) (hQ _ K)
def F_M_acts_j49 (w : Nat) (fl : Nat → Nat) (S : (Nat → Nat → Int32)) (x2 : Int32) (x3 : Int32) (x4 : Int32) (x5 : Int32) : (Nat → Nat → Int32) := (if (S 174 (x2).toNatClampNeg) = 1 then (z_letN (fl (S (w + 2) (x4).toNatClampNeg).toNatClampNeg) (fun f70 => (if (F_MF_has f70 S x5) = 0 then (F_M_acts_j94 w fl S x2 x3 x4 x5) else (z_let (F_M_change w S 2 x3 x4 0 x5) (fun S88 => S88))))) else (F_M_acts_j94 w fl S x2 x3 x4 x5))
def Sf_M_acts_j49 (w : Nat) (fl : Nat → Nat) (S : (Nat → Nat → Int32)) (x2 : Int32) (x3 : Int32) (x4 : Int32) (x5 : Int32) : Prop := ((vp_in x2 6) ∧ (if (S 174 (x2).toNatClampNeg) = 1 then ((vp_in x4 30) ∧ (z_letN (fl (S (w + 2) (x4).toNatClampNeg).toNatClampNeg) (fun f70 => ((vp_in (S (w + 2) (x4).toNatClampNeg) 3) ∧ (if (F_MF_has f70 S x5) = 0 then (Sf_M_acts_j94 w fl S x2 x3 x4 x5) else (Sf_M_change w S 2 x3 x4 0 x5 ∧ True)))))) else (Sf_M_acts_j94 w fl S x2 x3 x4 x5)))
theorem t_M_acts_j49_86 {X : z_X} {Post : Option z_V → z_W → Prop} (M : z_M X zm_M_acts rm_M_acts Post) {T' : Nat → Nat × Nat} {G' : Nat → Nat → Option Nat} {n : Nat} (fl : Nat → Nat) (hfl : zOK T' G' fl n) {Q : (Nat → Nat → Int32) → Prop} (S : (Nat → Nat → Int32)) (x2 : Int32) (x3 : Int32) (x4 : Int32) (x5 : Int32) (hQ : ∀ S', Q S' → Post none (zW T' G' S' n)) (K : Q (F_M_acts_j49 86 fl S x2 x3 x4 x5)) (hs : Sf_M_acts_j49 86 fl S x2 x3 x4 x5) : z_G X zm_M_acts (49, [(0, z_r 78), (1, z_r 86), (2, .inl x2), (3, .inl x3), (4, .inl x4), (5, .inl x5)], [], zW T' G' S n, 0, 0) := by
  unfold F_M_acts_j49 at K
  unfold Sf_M_acts_j49 at hs
  try simp only [Nat.reduceAdd] at K hs
  refine z_go2 M.1 49 [(.aload_n 0, 1), (.getfield 116, 3), (.iload_n 2, 1), (.iaload, 1), (.iconst 1, 1)] (56, [(0, z_r 78), (1, z_r 86), (2, .inl x2), (3, .inl x3), (4, .inl x4), (5, .inl x5)], [.inl 1, .inl (S 174 (x2).toNatClampNeg)], zW T' G' S n, 0, 0) (by decide +kernel) rfl ⟨trivial, rfl, trivial, ⟨rfl, hs.1⟩, trivial, trivial⟩ ?_
  replace hs := hs.2
  refine z_icmp_ne 94 M.1 (off := 38) (by decide +kernel) (by decide) (fun c56 => ?_) (fun c56 => ?_)
  · rw [if_neg c56] at K hs
    exact z_lvs (lv' := [(0, z_r 78), (1, z_r 86), (2, .inl x2), (3, .inl x3), (4, .inl x4), (5, .inl x5)]) [0, 1, 2, 3, 4, 5] rfl (t_M_acts_j94_86 M fl hfl S x2 x3 x4 x5 hQ K hs)
  · rw [if_pos c56] at K hs
    refine z_go2 M.1 59 [(.aload_n 0, 1), (.getfield 74, 3), (.aload_n 1, 1), (.getfield 237, 3), (.iload 4, 2), (.iaload, 1)] (70, [(0, z_r 78), (1, z_r 86), (2, .inl x2), (3, .inl x3), (4, .inl x4), (5, .inl x5)], [.inl (S 88 (x4).toNatClampNeg), z_r 131], zW T' G' S n, 0, 0) (by decide +kernel) rfl ⟨trivial, rfl, trivial, rfl, trivial, ⟨rfl, hs.1⟩, trivial⟩ ?_
    replace hs := hs.2
    obtain ⟨f70, he70⟩ : ∃ y, fl (S 88 (x4).toNatClampNeg).toNatClampNeg = y := ⟨_, rfl⟩
    have hf70 : zFo T' G' f70 := he70 ▸ (hfl.fl (z_in3 hs.1)).2
    refine z_aalF M.1 (a := 131) (len := 3) (r := f70) (by decide +kernel) rfl hs.1 ((hfl.fl (z_in3 hs.1)).1.trans (congrArg some he70)) ?_
    rw [he70] at K hs
    try dsimp only [z_letN] at K hs
    replace hs := hs.2
    refine z_go2 M.1 71 [(.iload 5, 2)] (73, [(0, z_r 78), (1, z_r 86), (2, .inl x2), (3, .inl x3), (4, .inl x4), (5, .inl x5)], [.inl x5, z_r f70], zW T' G' S n, 0, 0) (by decide +kernel) rfl ⟨trivial, trivial⟩ ?_
    refine z_callV M.1 (av := [.inl x5]) (st := []) (a := f70) (ci := 12) (by decide +kernel) (c_MF_has T' G' n f70 hf70 S x5) M.2.1 zl_M_263 zv_MF_has hf70.t rfl rfl ⟨by decide, by decide, by decide, by decide⟩ rfl (Nat.le_of_ble_eq_true rfl) (fun v w' hv => ?_)
    obtain ⟨rfl, rfl⟩ := hv
    show z_G X zm_M_acts (76, [(0, z_r 78), (1, z_r 86), (2, .inl x2), (3, .inl x3), (4, .inl x4), (5, .inl x5)], [.inl (F_MF_has f70 S x5)], zW T' G' S n, 0, 0)
    refine z_if_eq 94 M.1 (off := 18) (by decide +kernel) (by decide) (fun c76 => ?_) (fun c76 => ?_)
    · rw [if_pos c76] at K hs
      exact z_lvs (lv' := [(0, z_r 78), (1, z_r 86), (2, .inl x2), (3, .inl x3), (4, .inl x4), (5, .inl x5)]) [0, 1, 2, 3, 4, 5] rfl (t_M_acts_j94_86 M fl hfl S x2 x3 x4 x5 hQ K hs)
    · rw [if_neg c76] at K hs
      refine z_go2 M.1 79 [(.aload_n 0, 1), (.aload_n 1, 1), (.iconst 2, 1), (.iload_n 3, 1), (.iload 4, 2), (.iconst 0, 1), (.iload 5, 2)] (88, [(0, z_r 78), (1, z_r 86), (2, .inl x2), (3, .inl x3), (4, .inl x4), (5, .inl x5)], [.inl x5, .inl 0, .inl x4, .inl x3, .inl 2, z_r 86, z_r 78], zW T' G' S n, 0, 0) (by decide +kernel) rfl ⟨trivial, trivial, trivial, trivial, trivial, trivial, trivial, trivial⟩ ?_
      refine z_callV M.1 (av := [z_r 86, .inl 2, .inl x3, .inl x4, .inl 0, .inl x5]) (st := []) (a := 78) (ci := 14) (by decide +kernel) (c_M_change_86 T' G' S n 2 x3 x4 0 x5 hs.1) M.2.1 zl_M_259 zv_M_change rfl rfl rfl ⟨by decide, by decide, by decide, by decide⟩ rfl (Nat.le_of_ble_eq_true rfl) (fun v w' hv => ?_)
      replace hs := hs.2
      obtain ⟨S88, hF88⟩ : ∃ y, F_M_change 86 S 2 x3 x4 0 x5 = y := ⟨_, rfl⟩
      rw [hF88] at K hv
      try dsimp only [z_let] at K
      obtain ⟨rfl, rfl⟩ := hv
      show z_G X zm_M_acts (91, [(0, z_r 78), (1, z_r 86), (2, .inl x2), (3, .inl x3), (4, .inl x4), (5, .inl x5)], [], zW T' G' S88 n, 0, 0)
      refine z_go2 M.1 91 [(.goto 25, 3)] (116, [(0, z_r 78), (1, z_r 86), (2, .inl x2), (3, .inl x3), (4, .inl x4), (5, .inl x5)], [], zW T' G' S88 n, 0, 0) (by decide +kernel) rfl ⟨trivial, trivial⟩ ?_
      exact z_vret M (by decide +kernel) rfl (by decide) (by decide) (hQ _ K)
theorem t_M_acts_j49_110 {X : z_X} {Post : Option z_V → z_W → Prop} (M : z_M X zm_M_acts rm_M_acts Post) {T' : Nat → Nat × Nat} {G' : Nat → Nat → Option Nat} {n : Nat} (fl : Nat → Nat) (hfl : zOK T' G' fl n) {Q : (Nat → Nat → Int32) → Prop} (S : (Nat → Nat → Int32)) (x2 : Int32) (x3 : Int32) (x4 : Int32) (x5 : Int32) (hQ : ∀ S', Q S' → Post none (zW T' G' S' n)) (K : Q (F_M_acts_j49 110 fl S x2 x3 x4 x5)) (hs : Sf_M_acts_j49 110 fl S x2 x3 x4 x5) : z_G X zm_M_acts (49, [(0, z_r 78), (1, z_r 110), (2, .inl x2), (3, .inl x3), (4, .inl x4), (5, .inl x5)], [], zW T' G' S n, 0, 0) := by
  unfold F_M_acts_j49 at K
  unfold Sf_M_acts_j49 at hs
  try simp only [Nat.reduceAdd] at K hs
  refine z_go2 M.1 49 [(.aload_n 0, 1), (.getfield 116, 3), (.iload_n 2, 1), (.iaload, 1), (.iconst 1, 1)] (56, [(0, z_r 78), (1, z_r 110), (2, .inl x2), (3, .inl x3), (4, .inl x4), (5, .inl x5)], [.inl 1, .inl (S 174 (x2).toNatClampNeg)], zW T' G' S n, 0, 0) (by decide +kernel) rfl ⟨trivial, rfl, trivial, ⟨rfl, hs.1⟩, trivial, trivial⟩ ?_
  replace hs := hs.2
  refine z_icmp_ne 94 M.1 (off := 38) (by decide +kernel) (by decide) (fun c56 => ?_) (fun c56 => ?_)
  · rw [if_neg c56] at K hs
    exact z_lvs (lv' := [(0, z_r 78), (1, z_r 110), (2, .inl x2), (3, .inl x3), (4, .inl x4), (5, .inl x5)]) [0, 1, 2, 3, 4, 5] rfl (t_M_acts_j94_110 M fl hfl S x2 x3 x4 x5 hQ K hs)
  · rw [if_pos c56] at K hs
    refine z_go2 M.1 59 [(.aload_n 0, 1), (.getfield 74, 3), (.aload_n 1, 1), (.getfield 237, 3), (.iload 4, 2), (.iaload, 1)] (70, [(0, z_r 78), (1, z_r 110), (2, .inl x2), (3, .inl x3), (4, .inl x4), (5, .inl x5)], [.inl (S 112 (x4).toNatClampNeg), z_r 131], zW T' G' S n, 0, 0) (by decide +kernel) rfl ⟨trivial, rfl, trivial, rfl, trivial, ⟨rfl, hs.1⟩, trivial⟩ ?_
    replace hs := hs.2
    obtain ⟨f70, he70⟩ : ∃ y, fl (S 112 (x4).toNatClampNeg).toNatClampNeg = y := ⟨_, rfl⟩
    have hf70 : zFo T' G' f70 := he70 ▸ (hfl.fl (z_in3 hs.1)).2
    refine z_aalF M.1 (a := 131) (len := 3) (r := f70) (by decide +kernel) rfl hs.1 ((hfl.fl (z_in3 hs.1)).1.trans (congrArg some he70)) ?_
    rw [he70] at K hs
    try dsimp only [z_letN] at K hs
    replace hs := hs.2
    refine z_go2 M.1 71 [(.iload 5, 2)] (73, [(0, z_r 78), (1, z_r 110), (2, .inl x2), (3, .inl x3), (4, .inl x4), (5, .inl x5)], [.inl x5, z_r f70], zW T' G' S n, 0, 0) (by decide +kernel) rfl ⟨trivial, trivial⟩ ?_
    refine z_callV M.1 (av := [.inl x5]) (st := []) (a := f70) (ci := 12) (by decide +kernel) (c_MF_has T' G' n f70 hf70 S x5) M.2.1 zl_M_263 zv_MF_has hf70.t rfl rfl ⟨by decide, by decide, by decide, by decide⟩ rfl (Nat.le_of_ble_eq_true rfl) (fun v w' hv => ?_)
    obtain ⟨rfl, rfl⟩ := hv
    show z_G X zm_M_acts (76, [(0, z_r 78), (1, z_r 110), (2, .inl x2), (3, .inl x3), (4, .inl x4), (5, .inl x5)], [.inl (F_MF_has f70 S x5)], zW T' G' S n, 0, 0)
    refine z_if_eq 94 M.1 (off := 18) (by decide +kernel) (by decide) (fun c76 => ?_) (fun c76 => ?_)
    · rw [if_pos c76] at K hs
      exact z_lvs (lv' := [(0, z_r 78), (1, z_r 110), (2, .inl x2), (3, .inl x3), (4, .inl x4), (5, .inl x5)]) [0, 1, 2, 3, 4, 5] rfl (t_M_acts_j94_110 M fl hfl S x2 x3 x4 x5 hQ K hs)
    · rw [if_neg c76] at K hs
      refine z_go2 M.1 79 [(.aload_n 0, 1), (.aload_n 1, 1), (.iconst 2, 1), (.iload_n 3, 1), (.iload 4, 2), (.iconst 0, 1), (.iload 5, 2)] (88, [(0, z_r 78), (1, z_r 110), (2, .inl x2), (3, .inl x3), (4, .inl x4), (5, .inl x5)], [.inl x5, .inl 0, .inl x4, .inl x3, .inl 2, z_r 110, z_r 78], zW T' G' S n, 0, 0) (by decide +kernel) rfl ⟨trivial, trivial, trivial, trivial, trivial, trivial, trivial, trivial⟩ ?_
      refine z_callV M.1 (av := [z_r 110, .inl 2, .inl x3, .inl x4, .inl 0, .inl x5]) (st := []) (a := 78) (ci := 14) (by decide +kernel) (c_M_change_110 T' G' S n 2 x3 x4 0 x5 hs.1) M.2.1 zl_M_259 zv_M_change rfl rfl rfl ⟨by decide, by decide, by decide, by decide⟩ rfl (Nat.le_of_ble_eq_true rfl) (fun v w' hv => ?_)
      replace hs := hs.2
      obtain ⟨S88, hF88⟩ : ∃ y, F_M_change 110 S 2 x3 x4 0 x5 = y := ⟨_, rfl⟩
      rw [hF88] at K hv
      try dsimp only [z_let] at K
      obtain ⟨rfl, rfl⟩ := hv
      show z_G X zm_M_acts (91, [(0, z_r 78), (1, z_r 110), (2, .inl x2), (3, .inl x3), (4, .inl x4), (5, .inl x5)], [], zW T' G' S88 n, 0, 0)
      refine z_go2 M.1 91 [(.goto 25, 3)] (116, [(0, z_r 78), (1, z_r 110), (2, .inl x2), (3, .inl x3), (4, .inl x4), (5, .inl x5)], [], zW T' G' S88 n, 0, 0) (by decide +kernel) rfl ⟨trivial, trivial⟩ ?_
      exact z_vret M (by decide +kernel) rfl (by decide) (by decide) (hQ _ K)
def F_M_acts (w : Nat) (fl : Nat → Nat) (S : (Nat → Nat → Int32)) (p2 : Int32) (p3 : Int32) (p4 : Int32) : (Nat → Nat → Int32) := (if (S 174 (p2).toNatClampNeg) = 0 then (if (F_M_hasField w S p4 (S 175 (p2).toNatClampNeg)) = 0 then (F_M_acts_j49 w fl S p2 p3 p4 (S 175 (p2).toNatClampNeg)) else (z_let (F_M_change w S 3 p3 p4 (S 175 (p2).toNatClampNeg) (S 176 (p2).toNatClampNeg)) (fun S43 => S43))) else (F_M_acts_j49 w fl S p2 p3 p4 (S 175 (p2).toNatClampNeg)))
def Sf_M_acts (w : Nat) (fl : Nat → Nat) (S : (Nat → Nat → Int32)) (p2 : Int32) (p3 : Int32) (p4 : Int32) : Prop := ((vp_in p2 6) ∧ ((vp_in p2 6) ∧ (if (S 174 (p2).toNatClampNeg) = 0 then (Sf_M_hasField w S p4 (S 175 (p2).toNatClampNeg) ∧ (if (F_M_hasField w S p4 (S 175 (p2).toNatClampNeg)) = 0 then (Sf_M_acts_j49 w fl S p2 p3 p4 (S 175 (p2).toNatClampNeg)) else ((vp_in p2 6) ∧ (Sf_M_change w S 3 p3 p4 (S 175 (p2).toNatClampNeg) (S 176 (p2).toNatClampNeg) ∧ True)))) else (Sf_M_acts_j49 w fl S p2 p3 p4 (S 175 (p2).toNatClampNeg)))))
theorem c_M_acts_86 (T' : Nat → Nat × Nat) (G' : Nat → Nat → Option Nat) (n : Nat) (fl : Nat → Nat) (hfl : zOK T' G' fl n) (S : (Nat → Nat → Int32)) (p2 : Int32) (p3 : Int32) (p4 : Int32) (hs : Sf_M_acts 86 fl S p2 p3 p4) : z_Run rm_M_acts zm_M_acts [z_r 78, z_r 86, .inl p2, .inl p3, .inl p4] (zW T' G' S n) (zq none (zW T' G' (F_M_acts 86 fl S p2 p3 p4) n)) := by
  refine z_body (by decide) zf_M_ok (Nat.le_of_ble_eq_true rfl) (fun X M => ?_)
  obtain ⟨Q, hQ, K⟩ : ∃ Q : (Nat → Nat → Int32) → Prop, (∀ S', Q S' → zq none (zW T' G' (F_M_acts 86 fl S p2 p3 p4) n) none (zW T' G' S' n)) ∧ Q (F_M_acts 86 fl S p2 p3 p4) := ⟨fun o => F_M_acts 86 fl S p2 p3 p4 = o, fun S' h => ⟨rfl, by rw [h]⟩, rfl⟩
  show z_G X zm_M_acts (0, [(0, z_r 78), (1, z_r 86), (2, .inl p2), (3, .inl p3), (4, .inl p4)], [], zW T' G' S n, 0, 0)
  unfold F_M_acts at K
  unfold Sf_M_acts at hs
  try simp only [Nat.reduceAdd] at K hs
  refine z_go2 M.1 0 [(.aload_n 0, 1), (.getfield 119, 3), (.iload_n 2, 1), (.iaload, 1), (.istore 5, 2), (.aload_n 0, 1), (.getfield 116, 3), (.iload_n 2, 1), (.iaload, 1)] (14, [(5, .inl (S 175 (p2).toNatClampNeg)), (0, z_r 78), (1, z_r 86), (2, .inl p2), (3, .inl p3), (4, .inl p4)], [.inl (S 174 (p2).toNatClampNeg)], zW T' G' S n, 0, 0) (by decide +kernel) rfl ⟨trivial, rfl, trivial, ⟨rfl, hs.1⟩, trivial, trivial, rfl, trivial, ⟨rfl, hs.2.1⟩, trivial⟩ ?_
  replace hs := hs.2.2
  refine z_if_ne 49 M.1 (off := 35) (by decide +kernel) (by decide) (fun c14 => ?_) (fun c14 => ?_)
  · rw [if_neg c14] at K hs
    exact z_lvs (lv' := [(0, z_r 78), (1, z_r 86), (2, .inl p2), (3, .inl p3), (4, .inl p4), (5, .inl (S 175 (p2).toNatClampNeg))]) [1, 2, 3, 4, 5, 0] rfl (t_M_acts_j49_86 M fl hfl S p2 p3 p4 (S 175 (p2).toNatClampNeg) hQ K hs)
  · rw [if_pos c14] at K hs
    refine z_go2 M.1 17 [(.aload_n 0, 1), (.aload_n 1, 1), (.iload 4, 2), (.iload 5, 2)] (23, [(5, .inl (S 175 (p2).toNatClampNeg)), (0, z_r 78), (1, z_r 86), (2, .inl p2), (3, .inl p3), (4, .inl p4)], [.inl (S 175 (p2).toNatClampNeg), .inl p4, z_r 86, z_r 78], zW T' G' S n, 0, 0) (by decide +kernel) rfl ⟨trivial, trivial, trivial, trivial, trivial⟩ ?_
    refine z_callV M.1 (av := [z_r 86, .inl p4, .inl (S 175 (p2).toNatClampNeg)]) (st := []) (a := 78) (ci := 14) (by decide +kernel) (c_M_hasField_86 T' G' S n p4 (S 175 (p2).toNatClampNeg) hs.1) M.2.1 zl_M_240 zv_M_hasField rfl rfl rfl ⟨by decide, by decide, by decide, by decide⟩ rfl (Nat.le_of_ble_eq_true rfl) (fun v w' hv => ?_)
    obtain ⟨rfl, rfl⟩ := hv
    replace hs := hs.2
    show z_G X zm_M_acts (26, [(5, .inl (S 175 (p2).toNatClampNeg)), (0, z_r 78), (1, z_r 86), (2, .inl p2), (3, .inl p3), (4, .inl p4)], [.inl (F_M_hasField 86 S p4 (S 175 (p2).toNatClampNeg))], zW T' G' S n, 0, 0)
    refine z_if_eq 49 M.1 (off := 23) (by decide +kernel) (by decide) (fun c26 => ?_) (fun c26 => ?_)
    · rw [if_pos c26] at K hs
      exact z_lvs (lv' := [(0, z_r 78), (1, z_r 86), (2, .inl p2), (3, .inl p3), (4, .inl p4), (5, .inl (S 175 (p2).toNatClampNeg))]) [1, 2, 3, 4, 5, 0] rfl (t_M_acts_j49_86 M fl hfl S p2 p3 p4 (S 175 (p2).toNatClampNeg) hQ K hs)
    · rw [if_neg c26] at K hs
      refine z_go2 M.1 29 [(.aload_n 0, 1), (.aload_n 1, 1), (.iconst 3, 1), (.iload_n 3, 1), (.iload 4, 2), (.iload 5, 2), (.aload_n 0, 1), (.getfield 122, 3), (.iload_n 2, 1), (.iaload, 1)] (43, [(5, .inl (S 175 (p2).toNatClampNeg)), (0, z_r 78), (1, z_r 86), (2, .inl p2), (3, .inl p3), (4, .inl p4)], [.inl (S 176 (p2).toNatClampNeg), .inl (S 175 (p2).toNatClampNeg), .inl p4, .inl p3, .inl 3, z_r 86, z_r 78], zW T' G' S n, 0, 0) (by decide +kernel) rfl ⟨trivial, trivial, trivial, trivial, trivial, trivial, trivial, rfl, trivial, ⟨rfl, hs.1⟩, trivial⟩ ?_
      replace hs := hs.2
      refine z_callV M.1 (av := [z_r 86, .inl 3, .inl p3, .inl p4, .inl (S 175 (p2).toNatClampNeg), .inl (S 176 (p2).toNatClampNeg)]) (st := []) (a := 78) (ci := 14) (by decide +kernel) (c_M_change_86 T' G' S n 3 p3 p4 (S 175 (p2).toNatClampNeg) (S 176 (p2).toNatClampNeg) hs.1) M.2.1 zl_M_259 zv_M_change rfl rfl rfl ⟨by decide, by decide, by decide, by decide⟩ rfl (Nat.le_of_ble_eq_true rfl) (fun v w' hv => ?_)
      replace hs := hs.2
      obtain ⟨S43, hF43⟩ : ∃ y, F_M_change 86 S 3 p3 p4 (S 175 (p2).toNatClampNeg) (S 176 (p2).toNatClampNeg) = y := ⟨_, rfl⟩
      rw [hF43] at K hv
      try dsimp only [z_let] at K
      obtain ⟨rfl, rfl⟩ := hv
      show z_G X zm_M_acts (46, [(5, .inl (S 175 (p2).toNatClampNeg)), (0, z_r 78), (1, z_r 86), (2, .inl p2), (3, .inl p3), (4, .inl p4)], [], zW T' G' S43 n, 0, 0)
      refine z_go2 M.1 46 [(.goto 70, 3)] (116, [(5, .inl (S 175 (p2).toNatClampNeg)), (0, z_r 78), (1, z_r 86), (2, .inl p2), (3, .inl p3), (4, .inl p4)], [], zW T' G' S43 n, 0, 0) (by decide +kernel) rfl ⟨trivial, trivial⟩ ?_
      exact z_vret M (by decide +kernel) rfl (by decide) (by decide) (hQ _ K)
theorem c_M_acts_110 (T' : Nat → Nat × Nat) (G' : Nat → Nat → Option Nat) (n : Nat) (fl : Nat → Nat) (hfl : zOK T' G' fl n) (S : (Nat → Nat → Int32)) (p2 : Int32) (p3 : Int32) (p4 : Int32) (hs : Sf_M_acts 110 fl S p2 p3 p4) : z_Run rm_M_acts zm_M_acts [z_r 78, z_r 110, .inl p2, .inl p3, .inl p4] (zW T' G' S n) (zq none (zW T' G' (F_M_acts 110 fl S p2 p3 p4) n)) := by
  refine z_body (by decide) zf_M_ok (Nat.le_of_ble_eq_true rfl) (fun X M => ?_)
  obtain ⟨Q, hQ, K⟩ : ∃ Q : (Nat → Nat → Int32) → Prop, (∀ S', Q S' → zq none (zW T' G' (F_M_acts 110 fl S p2 p3 p4) n) none (zW T' G' S' n)) ∧ Q (F_M_acts 110 fl S p2 p3 p4) := ⟨fun o => F_M_acts 110 fl S p2 p3 p4 = o, fun S' h => ⟨rfl, by rw [h]⟩, rfl⟩
  show z_G X zm_M_acts (0, [(0, z_r 78), (1, z_r 110), (2, .inl p2), (3, .inl p3), (4, .inl p4)], [], zW T' G' S n, 0, 0)
  unfold F_M_acts at K
  unfold Sf_M_acts at hs
  try simp only [Nat.reduceAdd] at K hs
  refine z_go2 M.1 0 [(.aload_n 0, 1), (.getfield 119, 3), (.iload_n 2, 1), (.iaload, 1), (.istore 5, 2), (.aload_n 0, 1), (.getfield 116, 3), (.iload_n 2, 1), (.iaload, 1)] (14, [(5, .inl (S 175 (p2).toNatClampNeg)), (0, z_r 78), (1, z_r 110), (2, .inl p2), (3, .inl p3), (4, .inl p4)], [.inl (S 174 (p2).toNatClampNeg)], zW T' G' S n, 0, 0) (by decide +kernel) rfl ⟨trivial, rfl, trivial, ⟨rfl, hs.1⟩, trivial, trivial, rfl, trivial, ⟨rfl, hs.2.1⟩, trivial⟩ ?_
  replace hs := hs.2.2
  refine z_if_ne 49 M.1 (off := 35) (by decide +kernel) (by decide) (fun c14 => ?_) (fun c14 => ?_)
  · rw [if_neg c14] at K hs
    exact z_lvs (lv' := [(0, z_r 78), (1, z_r 110), (2, .inl p2), (3, .inl p3), (4, .inl p4), (5, .inl (S 175 (p2).toNatClampNeg))]) [1, 2, 3, 4, 5, 0] rfl (t_M_acts_j49_110 M fl hfl S p2 p3 p4 (S 175 (p2).toNatClampNeg) hQ K hs)
  · rw [if_pos c14] at K hs
    refine z_go2 M.1 17 [(.aload_n 0, 1), (.aload_n 1, 1), (.iload 4, 2), (.iload 5, 2)] (23, [(5, .inl (S 175 (p2).toNatClampNeg)), (0, z_r 78), (1, z_r 110), (2, .inl p2), (3, .inl p3), (4, .inl p4)], [.inl (S 175 (p2).toNatClampNeg), .inl p4, z_r 110, z_r 78], zW T' G' S n, 0, 0) (by decide +kernel) rfl ⟨trivial, trivial, trivial, trivial, trivial⟩ ?_
    refine z_callV M.1 (av := [z_r 110, .inl p4, .inl (S 175 (p2).toNatClampNeg)]) (st := []) (a := 78) (ci := 14) (by decide +kernel) (c_M_hasField_110 T' G' S n p4 (S 175 (p2).toNatClampNeg) hs.1) M.2.1 zl_M_240 zv_M_hasField rfl rfl rfl ⟨by decide, by decide, by decide, by decide⟩ rfl (Nat.le_of_ble_eq_true rfl) (fun v w' hv => ?_)
    obtain ⟨rfl, rfl⟩ := hv
    replace hs := hs.2
    show z_G X zm_M_acts (26, [(5, .inl (S 175 (p2).toNatClampNeg)), (0, z_r 78), (1, z_r 110), (2, .inl p2), (3, .inl p3), (4, .inl p4)], [.inl (F_M_hasField 110 S p4 (S 175 (p2).toNatClampNeg))], zW T' G' S n, 0, 0)
    refine z_if_eq 49 M.1 (off := 23) (by decide +kernel) (by decide) (fun c26 => ?_) (fun c26 => ?_)
    · rw [if_pos c26] at K hs
      exact z_lvs (lv' := [(0, z_r 78), (1, z_r 110), (2, .inl p2), (3, .inl p3), (4, .inl p4), (5, .inl (S 175 (p2).toNatClampNeg))]) [1, 2, 3, 4, 5, 0] rfl (t_M_acts_j49_110 M fl hfl S p2 p3 p4 (S 175 (p2).toNatClampNeg) hQ K hs)
    · rw [if_neg c26] at K hs
      refine z_go2 M.1 29 [(.aload_n 0, 1), (.aload_n 1, 1), (.iconst 3, 1), (.iload_n 3, 1), (.iload 4, 2), (.iload 5, 2), (.aload_n 0, 1), (.getfield 122, 3), (.iload_n 2, 1), (.iaload, 1)] (43, [(5, .inl (S 175 (p2).toNatClampNeg)), (0, z_r 78), (1, z_r 110), (2, .inl p2), (3, .inl p3), (4, .inl p4)], [.inl (S 176 (p2).toNatClampNeg), .inl (S 175 (p2).toNatClampNeg), .inl p4, .inl p3, .inl 3, z_r 110, z_r 78], zW T' G' S n, 0, 0) (by decide +kernel) rfl ⟨trivial, trivial, trivial, trivial, trivial, trivial, trivial, rfl, trivial, ⟨rfl, hs.1⟩, trivial⟩ ?_
      replace hs := hs.2
      refine z_callV M.1 (av := [z_r 110, .inl 3, .inl p3, .inl p4, .inl (S 175 (p2).toNatClampNeg), .inl (S 176 (p2).toNatClampNeg)]) (st := []) (a := 78) (ci := 14) (by decide +kernel) (c_M_change_110 T' G' S n 3 p3 p4 (S 175 (p2).toNatClampNeg) (S 176 (p2).toNatClampNeg) hs.1) M.2.1 zl_M_259 zv_M_change rfl rfl rfl ⟨by decide, by decide, by decide, by decide⟩ rfl (Nat.le_of_ble_eq_true rfl) (fun v w' hv => ?_)
      replace hs := hs.2
      obtain ⟨S43, hF43⟩ : ∃ y, F_M_change 110 S 3 p3 p4 (S 175 (p2).toNatClampNeg) (S 176 (p2).toNatClampNeg) = y := ⟨_, rfl⟩
      rw [hF43] at K hv
      try dsimp only [z_let] at K
      obtain ⟨rfl, rfl⟩ := hv
      show z_G X zm_M_acts (46, [(5, .inl (S 175 (p2).toNatClampNeg)), (0, z_r 78), (1, z_r 110), (2, .inl p2), (3, .inl p3), (4, .inl p4)], [], zW T' G' S43 n, 0, 0)
      refine z_go2 M.1 46 [(.goto 70, 3)] (116, [(5, .inl (S 175 (p2).toNatClampNeg)), (0, z_r 78), (1, z_r 110), (2, .inl p2), (3, .inl p3), (4, .inl p4)], [], zW T' G' S43 n, 0, 0) (by decide +kernel) rfl ⟨trivial, trivial⟩ ?_
      exact z_vret M (by decide +kernel) rfl (by decide) (by decide) (hQ _ K)

-- TrackHouseModel.isThrough
abbrev rm_M_isThrough : Room := zr 5
def F_M_isThrough_L78 (w : Nat) (fl : Nat → Nat) (x3 : Int32) (x4 : Int32) (x5 : Int32) (x6 : Int32) (x7 : Int32) : Nat → (Nat → Nat → Int32) → Int32 → ((Nat → Nat → Int32))
  | 0, S, x8 => S
  | f + 1, S, x8 => (if (30 : Int32) ≤ x8 then S else ((F_M_isThrough_L78 w fl x3 x4 x5 x6 x7 f) (z_uS S 192 (x8).toNatClampNeg (vp_nar .boolean (F_M_isTarget w S (S 173 (x7).toNatClampNeg) (S 82 (x5).toNatClampNeg) x8))) (x8 + 1)))
def Sf_M_isThrough_L78 (w : Nat) (fl : Nat → Nat) (x3 : Int32) (x4 : Int32) (x5 : Int32) (x6 : Int32) (x7 : Int32) : Nat → (Nat → Nat → Int32) → Int32 → Prop
  | 0, _, _ => False
  | f + 1, S, x8 => (if (30 : Int32) ≤ x8 then True else ((vp_in x7 6) ∧ ((vp_in x5 1200) ∧ (Sf_M_isTarget w S (S 173 (x7).toNatClampNeg) (S 82 (x5).toNatClampNeg) x8 ∧ ((vp_in x8 30) ∧ ((Sf_M_isThrough_L78 w fl x3 x4 x5 x6 x7 f) (z_uS S 192 (x8).toNatClampNeg (vp_nar .boolean (F_M_isTarget w S (S 173 (x7).toNatClampNeg) (S 82 (x5).toNatClampNeg) x8))) (x8 + 1)))))))
theorem t_M_isThrough_L78_86 {X : z_X} {Post : Option z_V → z_W → Prop} (M : z_M X zm_M_isThrough rm_M_isThrough Post) {T' : Nat → Nat × Nat} {G' : Nat → Nat → Option Nat} {n : Nat} (fl : Nat → Nat) (hfl : zOK T' G' fl n) {Q : ((Nat → Nat → Int32)) → Prop}  (x3 : Int32) (x4 : Int32) (x5 : Int32) (x6 : Int32) (x7 : Int32) (hE : ∀ (S' : (Nat → Nat → Int32)), Q S' → z_G X zm_M_isThrough (118, [(0, z_r 78), (1, z_r 86), (3, .inl x3), (4, .inl x4), (5, .inl x5), (6, .inl x6), (7, .inl x7)], [], zW T' G' S' n, 0, 0)) (f : Nat) : ∀ (S : (Nat → Nat → Int32)) (x8 : Int32), Q (F_M_isThrough_L78 86 fl x3 x4 x5 x6 x7 f S x8) → Sf_M_isThrough_L78 86 fl x3 x4 x5 x6 x7 f S x8 → z_G X zm_M_isThrough (78, [(0, z_r 78), (1, z_r 86), (3, .inl x3), (4, .inl x4), (5, .inl x5), (6, .inl x6), (7, .inl x7), (8, .inl x8)], [], zW T' G' S n, 0, 0) := by
  induction f with
  | zero => intro S x8 K hs; exact False.elim hs
  | succ f hC =>
    intro S x8 K hs
    rw [F_M_isThrough_L78] at K
    rw [Sf_M_isThrough_L78] at hs
    try simp only [Nat.reduceAdd] at K hs
    refine z_go2 M.1 78 [(.iload 8, 2), (.bipush 30, 2)] (82, [(0, z_r 78), (1, z_r 86), (3, .inl x3), (4, .inl x4), (5, .inl x5), (6, .inl x6), (7, .inl x7), (8, .inl x8)], [.inl 30, .inl x8], zW T' G' S n, 0, 0) (by decide +kernel) rfl ⟨trivial, trivial, trivial⟩ ?_
    refine z_icmp_ge 118 M.1 (off := 36) (by decide +kernel) (by decide) (fun c82 => ?_) (fun c82 => ?_)
    · rw [if_pos c82] at K hs
      exact z_lvs (lv' := [(0, z_r 78), (1, z_r 86), (3, .inl x3), (4, .inl x4), (5, .inl x5), (6, .inl x6), (7, .inl x7)]) [0, 1, 2, 3, 4, 5, 6] rfl (hE S K)
    · rw [if_neg c82] at K hs
      refine z_go2 M.1 85 [(.aload_n 0, 1), (.getfield 172, 3), (.iload 8, 2), (.aload_n 1, 1), (.aload_n 0, 1), (.getfield 113, 3), (.iload 7, 2), (.iaload, 1), (.aload_n 0, 1), (.getfield 19, 3), (.iload 5, 2), (.iaload, 1), (.iload 8, 2)] (108, [(0, z_r 78), (1, z_r 86), (3, .inl x3), (4, .inl x4), (5, .inl x5), (6, .inl x6), (7, .inl x7), (8, .inl x8)], [.inl x8, .inl (S 82 (x5).toNatClampNeg), .inl (S 173 (x7).toNatClampNeg), z_r 86, .inl x8, z_r 192], zW T' G' S n, 0, 0) (by decide +kernel) rfl ⟨trivial, rfl, trivial, trivial, trivial, rfl, trivial, ⟨rfl, hs.1⟩, trivial, rfl, trivial, ⟨rfl, hs.2.1⟩, trivial, trivial⟩ ?_
      replace hs := hs.2.2
      refine z_callS M.1 (av := [z_r 86, .inl (S 173 (x7).toNatClampNeg), .inl (S 82 (x5).toNatClampNeg), .inl x8]) (st := [.inl x8, z_r 192]) (by decide +kernel) (c_M_isTarget_86 T' G' S n (S 173 (x7).toNatClampNeg) (S 82 (x5).toNatClampNeg) x8 hs.1) M.2.1 zl_M_273 zs_M_isTarget ⟨by decide, by decide, by decide, by decide⟩ rfl (Nat.le_of_ble_eq_true rfl) (fun v w' hv => ?_)
      obtain ⟨rfl, rfl⟩ := hv
      replace hs := hs.2
      show z_G X zm_M_isThrough (111, [(0, z_r 78), (1, z_r 86), (3, .inl x3), (4, .inl x4), (5, .inl x5), (6, .inl x6), (7, .inl x7), (8, .inl x8)], [.inl (F_M_isTarget 86 S (S 173 (x7).toNatClampNeg) (S 82 (x5).toNatClampNeg) x8), .inl x8, z_r 192], zW T' G' S n, 0, 0)
      refine z_go2 M.1 111 [(.bastore, 1), (.iinc 8 1, 3), (.goto (-37), 3)] (78, [(8, .inl (x8 + 1)), (0, z_r 78), (1, z_r 86), (3, .inl x3), (4, .inl x4), (5, .inl x5), (6, .inl x6), (7, .inl x7)], [], zW T' G' (z_uS S 192 (x8).toNatClampNeg (vp_nar .boolean (F_M_isTarget 86 S (S 173 (x7).toNatClampNeg) (S 82 (x5).toNatClampNeg) x8))) n, 0, 0) (by decide +kernel) rfl ⟨⟨rfl, hs.1⟩, trivial, trivial, trivial⟩ ?_
      replace hs := hs.2
      exact z_lvs (lv' := [(0, z_r 78), (1, z_r 86), (3, .inl x3), (4, .inl x4), (5, .inl x5), (6, .inl x6), (7, .inl x7), (8, .inl (x8 + 1))]) [1, 2, 3, 4, 5, 6, 7, 0] rfl (hC (z_uS S 192 (x8).toNatClampNeg (vp_nar .boolean (F_M_isTarget 86 S (S 173 (x7).toNatClampNeg) (S 82 (x5).toNatClampNeg) x8))) (x8 + 1) K hs)
theorem t_M_isThrough_L78_110 {X : z_X} {Post : Option z_V → z_W → Prop} (M : z_M X zm_M_isThrough rm_M_isThrough Post) {T' : Nat → Nat × Nat} {G' : Nat → Nat → Option Nat} {n : Nat} (fl : Nat → Nat) (hfl : zOK T' G' fl n) {Q : ((Nat → Nat → Int32)) → Prop}  (x3 : Int32) (x4 : Int32) (x5 : Int32) (x6 : Int32) (x7 : Int32) (hE : ∀ (S' : (Nat → Nat → Int32)), Q S' → z_G X zm_M_isThrough (118, [(0, z_r 78), (1, z_r 110), (3, .inl x3), (4, .inl x4), (5, .inl x5), (6, .inl x6), (7, .inl x7)], [], zW T' G' S' n, 0, 0)) (f : Nat) : ∀ (S : (Nat → Nat → Int32)) (x8 : Int32), Q (F_M_isThrough_L78 110 fl x3 x4 x5 x6 x7 f S x8) → Sf_M_isThrough_L78 110 fl x3 x4 x5 x6 x7 f S x8 → z_G X zm_M_isThrough (78, [(0, z_r 78), (1, z_r 110), (3, .inl x3), (4, .inl x4), (5, .inl x5), (6, .inl x6), (7, .inl x7), (8, .inl x8)], [], zW T' G' S n, 0, 0) := by
  induction f with
  | zero => intro S x8 K hs; exact False.elim hs
  | succ f hC =>
    intro S x8 K hs
    rw [F_M_isThrough_L78] at K
    rw [Sf_M_isThrough_L78] at hs
    try simp only [Nat.reduceAdd] at K hs
    refine z_go2 M.1 78 [(.iload 8, 2), (.bipush 30, 2)] (82, [(0, z_r 78), (1, z_r 110), (3, .inl x3), (4, .inl x4), (5, .inl x5), (6, .inl x6), (7, .inl x7), (8, .inl x8)], [.inl 30, .inl x8], zW T' G' S n, 0, 0) (by decide +kernel) rfl ⟨trivial, trivial, trivial⟩ ?_
    refine z_icmp_ge 118 M.1 (off := 36) (by decide +kernel) (by decide) (fun c82 => ?_) (fun c82 => ?_)
    · rw [if_pos c82] at K hs
      exact z_lvs (lv' := [(0, z_r 78), (1, z_r 110), (3, .inl x3), (4, .inl x4), (5, .inl x5), (6, .inl x6), (7, .inl x7)]) [0, 1, 2, 3, 4, 5, 6] rfl (hE S K)
    · rw [if_neg c82] at K hs
      refine z_go2 M.1 85 [(.aload_n 0, 1), (.getfield 172, 3), (.iload 8, 2), (.aload_n 1, 1), (.aload_n 0, 1), (.getfield 113, 3), (.iload 7, 2), (.iaload, 1), (.aload_n 0, 1), (.getfield 19, 3), (.iload 5, 2), (.iaload, 1), (.iload 8, 2)] (108, [(0, z_r 78), (1, z_r 110), (3, .inl x3), (4, .inl x4), (5, .inl x5), (6, .inl x6), (7, .inl x7), (8, .inl x8)], [.inl x8, .inl (S 82 (x5).toNatClampNeg), .inl (S 173 (x7).toNatClampNeg), z_r 110, .inl x8, z_r 192], zW T' G' S n, 0, 0) (by decide +kernel) rfl ⟨trivial, rfl, trivial, trivial, trivial, rfl, trivial, ⟨rfl, hs.1⟩, trivial, rfl, trivial, ⟨rfl, hs.2.1⟩, trivial, trivial⟩ ?_
      replace hs := hs.2.2
      refine z_callS M.1 (av := [z_r 110, .inl (S 173 (x7).toNatClampNeg), .inl (S 82 (x5).toNatClampNeg), .inl x8]) (st := [.inl x8, z_r 192]) (by decide +kernel) (c_M_isTarget_110 T' G' S n (S 173 (x7).toNatClampNeg) (S 82 (x5).toNatClampNeg) x8 hs.1) M.2.1 zl_M_273 zs_M_isTarget ⟨by decide, by decide, by decide, by decide⟩ rfl (Nat.le_of_ble_eq_true rfl) (fun v w' hv => ?_)
      obtain ⟨rfl, rfl⟩ := hv
      replace hs := hs.2
      show z_G X zm_M_isThrough (111, [(0, z_r 78), (1, z_r 110), (3, .inl x3), (4, .inl x4), (5, .inl x5), (6, .inl x6), (7, .inl x7), (8, .inl x8)], [.inl (F_M_isTarget 110 S (S 173 (x7).toNatClampNeg) (S 82 (x5).toNatClampNeg) x8), .inl x8, z_r 192], zW T' G' S n, 0, 0)
      refine z_go2 M.1 111 [(.bastore, 1), (.iinc 8 1, 3), (.goto (-37), 3)] (78, [(8, .inl (x8 + 1)), (0, z_r 78), (1, z_r 110), (3, .inl x3), (4, .inl x4), (5, .inl x5), (6, .inl x6), (7, .inl x7)], [], zW T' G' (z_uS S 192 (x8).toNatClampNeg (vp_nar .boolean (F_M_isTarget 110 S (S 173 (x7).toNatClampNeg) (S 82 (x5).toNatClampNeg) x8))) n, 0, 0) (by decide +kernel) rfl ⟨⟨rfl, hs.1⟩, trivial, trivial, trivial⟩ ?_
      replace hs := hs.2
      exact z_lvs (lv' := [(0, z_r 78), (1, z_r 110), (3, .inl x3), (4, .inl x4), (5, .inl x5), (6, .inl x6), (7, .inl x7), (8, .inl (x8 + 1))]) [1, 2, 3, 4, 5, 6, 7, 0] rfl (hC (z_uS S 192 (x8).toNatClampNeg (vp_nar .boolean (F_M_isTarget 110 S (S 173 (x7).toNatClampNeg) (S 82 (x5).toNatClampNeg) x8))) (x8 + 1) K hs)
def F_M_isThrough_l121_154 (w : Nat) (fl : Nat → Nat) (rc : (Nat → Nat → Int32) → Int32 → (((Nat → Nat → Int32)) ⊕ (Int32 × (Nat → Nat → Int32)))) (S : (Nat → Nat → Int32)) (x3 : Int32) (x4 : Int32) (x5 : Int32) (x6 : Int32) (x7 : Int32) (x8 : Int32) : (((Nat → Nat → Int32)) ⊕ (Int32 × (Nat → Nat → Int32))) := (if ((S 78 2) - x4) ≤ 20 then (rc S (x8 + 1)) else (.inr (0, S)))
def Sf_M_isThrough_l121_154 (w : Nat) (fl : Nat → Nat) (rc : (Nat → Nat → Int32) → Int32 → (((Nat → Nat → Int32)) ⊕ (Int32 × (Nat → Nat → Int32)))) (sr : (Nat → Nat → Int32) → Int32 → Prop) (S : (Nat → Nat → Int32)) (x3 : Int32) (x4 : Int32) (x5 : Int32) (x6 : Int32) (x7 : Int32) (x8 : Int32) : Prop := (if ((S 78 2) - x4) ≤ 20 then (sr S (x8 + 1)) else True)
theorem t_M_isThrough_l121_154_86 {X : z_X} {Post : Option z_V → z_W → Prop} (M : z_M X zm_M_isThrough rm_M_isThrough Post) {T' : Nat → Nat × Nat} {G' : Nat → Nat → Option Nat} {n : Nat} (fl : Nat → Nat) (hfl : zOK T' G' fl n) {Q : (((Nat → Nat → Int32)) ⊕ (Int32 × (Nat → Nat → Int32))) → Prop} (rc : (Nat → Nat → Int32) → Int32 → (((Nat → Nat → Int32)) ⊕ (Int32 × (Nat → Nat → Int32)))) (sr : (Nat → Nat → Int32) → Int32 → Prop) (S : (Nat → Nat → Int32)) (x3 : Int32) (x4 : Int32) (x5 : Int32) (x6 : Int32) (x7 : Int32) (x8 : Int32) (hQ : ∀ v S', Q (.inr (v, S')) → Post (some (.inl v)) (zW T' G' S' n)) (hE : ∀ (S' : (Nat → Nat → Int32)), Q (.inl S') → z_G X zm_M_isThrough (174, [(0, z_r 78), (1, z_r 86), (3, .inl x3), (4, .inl x4), (5, .inl x5), (6, .inl x6)], [], zW T' G' S' n, 0, 0)) (hC : ∀ (S : (Nat → Nat → Int32)) (x8 : Int32), Q (rc S x8) → sr S x8 → z_G X zm_M_isThrough (121, [(0, z_r 78), (1, z_r 86), (3, .inl x3), (4, .inl x4), (5, .inl x5), (6, .inl x6), (7, .inl x7), (8, .inl x8)], [], zW T' G' S n, 0, 0)) (K : Q (F_M_isThrough_l121_154 86 fl rc S x3 x4 x5 x6 x7 x8)) (hs : Sf_M_isThrough_l121_154 86 fl rc sr S x3 x4 x5 x6 x7 x8) : z_G X zm_M_isThrough (154, [(0, z_r 78), (1, z_r 86), (3, .inl x3), (4, .inl x4), (5, .inl x5), (6, .inl x6), (7, .inl x7), (8, .inl x8)], [], zW T' G' S n, 0, 0) := by
  unfold F_M_isThrough_l121_154 at K
  unfold Sf_M_isThrough_l121_154 at hs
  try simp only [Nat.reduceAdd] at K hs
  refine z_go2 M.1 154 [(.aload_n 0, 1), (.getfield 182, 3), (.iload 4, 2), (.isub, 1), (.bipush 20, 2)] (163, [(0, z_r 78), (1, z_r 86), (3, .inl x3), (4, .inl x4), (5, .inl x5), (6, .inl x6), (7, .inl x7), (8, .inl x8)], [.inl 20, .inl ((S 78 2) - x4)], zW T' G' S n, 0, 0) (by decide +kernel) rfl ⟨trivial, rfl, trivial, trivial, trivial, trivial⟩ ?_
  refine z_icmp_le 168 M.1 (off := 5) (by decide +kernel) (by decide) (fun c163 => ?_) (fun c163 => ?_)
  · rw [if_pos c163] at K hs
    refine z_go2 M.1 168 [(.iinc 8 1, 3), (.goto (-50), 3)] (121, [(8, .inl (x8 + 1)), (0, z_r 78), (1, z_r 86), (3, .inl x3), (4, .inl x4), (5, .inl x5), (6, .inl x6), (7, .inl x7)], [], zW T' G' S n, 0, 0) (by decide +kernel) rfl ⟨trivial, trivial, trivial⟩ ?_
    exact z_lvs (lv' := [(0, z_r 78), (1, z_r 86), (3, .inl x3), (4, .inl x4), (5, .inl x5), (6, .inl x6), (7, .inl x7), (8, .inl (x8 + 1))]) [1, 2, 3, 4, 5, 6, 7, 0] rfl (hC S (x8 + 1) K hs)
  · rw [if_neg c163] at K hs
    refine z_go2 M.1 166 [(.iconst 0, 1)] (167, [(0, z_r 78), (1, z_r 86), (3, .inl x3), (4, .inl x4), (5, .inl x5), (6, .inl x6), (7, .inl x7), (8, .inl x8)], [.inl 0], zW T' G' S n, 0, 0) (by decide +kernel) rfl ⟨trivial, trivial⟩ ?_
    exact z_iret M (by decide +kernel) .boolean rfl rfl (by decide) (by decide) (hQ _ _ K)
theorem t_M_isThrough_l121_154_110 {X : z_X} {Post : Option z_V → z_W → Prop} (M : z_M X zm_M_isThrough rm_M_isThrough Post) {T' : Nat → Nat × Nat} {G' : Nat → Nat → Option Nat} {n : Nat} (fl : Nat → Nat) (hfl : zOK T' G' fl n) {Q : (((Nat → Nat → Int32)) ⊕ (Int32 × (Nat → Nat → Int32))) → Prop} (rc : (Nat → Nat → Int32) → Int32 → (((Nat → Nat → Int32)) ⊕ (Int32 × (Nat → Nat → Int32)))) (sr : (Nat → Nat → Int32) → Int32 → Prop) (S : (Nat → Nat → Int32)) (x3 : Int32) (x4 : Int32) (x5 : Int32) (x6 : Int32) (x7 : Int32) (x8 : Int32) (hQ : ∀ v S', Q (.inr (v, S')) → Post (some (.inl v)) (zW T' G' S' n)) (hE : ∀ (S' : (Nat → Nat → Int32)), Q (.inl S') → z_G X zm_M_isThrough (174, [(0, z_r 78), (1, z_r 110), (3, .inl x3), (4, .inl x4), (5, .inl x5), (6, .inl x6)], [], zW T' G' S' n, 0, 0)) (hC : ∀ (S : (Nat → Nat → Int32)) (x8 : Int32), Q (rc S x8) → sr S x8 → z_G X zm_M_isThrough (121, [(0, z_r 78), (1, z_r 110), (3, .inl x3), (4, .inl x4), (5, .inl x5), (6, .inl x6), (7, .inl x7), (8, .inl x8)], [], zW T' G' S n, 0, 0)) (K : Q (F_M_isThrough_l121_154 110 fl rc S x3 x4 x5 x6 x7 x8)) (hs : Sf_M_isThrough_l121_154 110 fl rc sr S x3 x4 x5 x6 x7 x8) : z_G X zm_M_isThrough (154, [(0, z_r 78), (1, z_r 110), (3, .inl x3), (4, .inl x4), (5, .inl x5), (6, .inl x6), (7, .inl x7), (8, .inl x8)], [], zW T' G' S n, 0, 0) := by
  unfold F_M_isThrough_l121_154 at K
  unfold Sf_M_isThrough_l121_154 at hs
  try simp only [Nat.reduceAdd] at K hs
  refine z_go2 M.1 154 [(.aload_n 0, 1), (.getfield 182, 3), (.iload 4, 2), (.isub, 1), (.bipush 20, 2)] (163, [(0, z_r 78), (1, z_r 110), (3, .inl x3), (4, .inl x4), (5, .inl x5), (6, .inl x6), (7, .inl x7), (8, .inl x8)], [.inl 20, .inl ((S 78 2) - x4)], zW T' G' S n, 0, 0) (by decide +kernel) rfl ⟨trivial, rfl, trivial, trivial, trivial, trivial⟩ ?_
  refine z_icmp_le 168 M.1 (off := 5) (by decide +kernel) (by decide) (fun c163 => ?_) (fun c163 => ?_)
  · rw [if_pos c163] at K hs
    refine z_go2 M.1 168 [(.iinc 8 1, 3), (.goto (-50), 3)] (121, [(8, .inl (x8 + 1)), (0, z_r 78), (1, z_r 110), (3, .inl x3), (4, .inl x4), (5, .inl x5), (6, .inl x6), (7, .inl x7)], [], zW T' G' S n, 0, 0) (by decide +kernel) rfl ⟨trivial, trivial, trivial⟩ ?_
    exact z_lvs (lv' := [(0, z_r 78), (1, z_r 110), (3, .inl x3), (4, .inl x4), (5, .inl x5), (6, .inl x6), (7, .inl x7), (8, .inl (x8 + 1))]) [1, 2, 3, 4, 5, 6, 7, 0] rfl (hC S (x8 + 1) K hs)
  · rw [if_neg c163] at K hs
    refine z_go2 M.1 166 [(.iconst 0, 1)] (167, [(0, z_r 78), (1, z_r 110), (3, .inl x3), (4, .inl x4), (5, .inl x5), (6, .inl x6), (7, .inl x7), (8, .inl x8)], [.inl 0], zW T' G' S n, 0, 0) (by decide +kernel) rfl ⟨trivial, trivial⟩ ?_
    exact z_iret M (by decide +kernel) .boolean rfl rfl (by decide) (by decide) (hQ _ _ K)
def F_M_isThrough_L121 (w : Nat) (fl : Nat → Nat) (x3 : Int32) (x4 : Int32) (x5 : Int32) (x6 : Int32) (x7 : Int32) : Nat → (Nat → Nat → Int32) → Int32 → (((Nat → Nat → Int32)) ⊕ (Int32 × (Nat → Nat → Int32)))
  | 0, S, x8 => (.inl S)
  | f + 1, S, x8 => (if (30 : Int32) ≤ x8 then (.inl S) else (if (S 192 (x8).toNatClampNeg) = 0 then (F_M_isThrough_l121_154 w fl (F_M_isThrough_L121 w fl x3 x4 x5 x6 x7 f) S x3 x4 x5 x6 x7 x8) else (z_let (F_M_acts w fl S x7 (S 81 (x5).toNatClampNeg) x8) (fun S151 => (if ((S151 78 2) - x4) ≤ 20 then ((F_M_isThrough_L121 w fl x3 x4 x5 x6 x7 f) S151 (x8 + 1)) else (.inr (0, S151)))))))
def Sf_M_isThrough_L121 (w : Nat) (fl : Nat → Nat) (x3 : Int32) (x4 : Int32) (x5 : Int32) (x6 : Int32) (x7 : Int32) : Nat → (Nat → Nat → Int32) → Int32 → Prop
  | 0, _, _ => False
  | f + 1, S, x8 => (if (30 : Int32) ≤ x8 then True else ((vp_in x8 30) ∧ (if (S 192 (x8).toNatClampNeg) = 0 then (Sf_M_isThrough_l121_154 w fl (F_M_isThrough_L121 w fl x3 x4 x5 x6 x7 f) (Sf_M_isThrough_L121 w fl x3 x4 x5 x6 x7 f) S x3 x4 x5 x6 x7 x8) else ((vp_in x5 1200) ∧ (Sf_M_acts w fl S x7 (S 81 (x5).toNatClampNeg) x8 ∧ (z_let (F_M_acts w fl S x7 (S 81 (x5).toNatClampNeg) x8) (fun S151 => (if ((S151 78 2) - x4) ≤ 20 then ((Sf_M_isThrough_L121 w fl x3 x4 x5 x6 x7 f) S151 (x8 + 1)) else True))))))))
theorem t_M_isThrough_L121_86 {X : z_X} {Post : Option z_V → z_W → Prop} (M : z_M X zm_M_isThrough rm_M_isThrough Post) {T' : Nat → Nat × Nat} {G' : Nat → Nat → Option Nat} {n : Nat} (fl : Nat → Nat) (hfl : zOK T' G' fl n) {Q : (((Nat → Nat → Int32)) ⊕ (Int32 × (Nat → Nat → Int32))) → Prop}  (x3 : Int32) (x4 : Int32) (x5 : Int32) (x6 : Int32) (x7 : Int32) (hQ : ∀ v S', Q (.inr (v, S')) → Post (some (.inl v)) (zW T' G' S' n)) (hE : ∀ (S' : (Nat → Nat → Int32)), Q (.inl S') → z_G X zm_M_isThrough (174, [(0, z_r 78), (1, z_r 86), (3, .inl x3), (4, .inl x4), (5, .inl x5), (6, .inl x6)], [], zW T' G' S' n, 0, 0)) (f : Nat) : ∀ (S : (Nat → Nat → Int32)) (x8 : Int32), Q (F_M_isThrough_L121 86 fl x3 x4 x5 x6 x7 f S x8) → Sf_M_isThrough_L121 86 fl x3 x4 x5 x6 x7 f S x8 → z_G X zm_M_isThrough (121, [(0, z_r 78), (1, z_r 86), (3, .inl x3), (4, .inl x4), (5, .inl x5), (6, .inl x6), (7, .inl x7), (8, .inl x8)], [], zW T' G' S n, 0, 0) := by
  induction f with
  | zero => intro S x8 K hs; exact False.elim hs
  | succ f hC =>
    intro S x8 K hs
    rw [F_M_isThrough_L121] at K
    rw [Sf_M_isThrough_L121] at hs
    try simp only [Nat.reduceAdd] at K hs
    refine z_go2 M.1 121 [(.iload 8, 2), (.bipush 30, 2)] (125, [(0, z_r 78), (1, z_r 86), (3, .inl x3), (4, .inl x4), (5, .inl x5), (6, .inl x6), (7, .inl x7), (8, .inl x8)], [.inl 30, .inl x8], zW T' G' S n, 0, 0) (by decide +kernel) rfl ⟨trivial, trivial, trivial⟩ ?_
    refine z_icmp_ge 174 M.1 (off := 49) (by decide +kernel) (by decide) (fun c125 => ?_) (fun c125 => ?_)
    · rw [if_pos c125] at K hs
      exact z_lvs (lv' := [(0, z_r 78), (1, z_r 86), (3, .inl x3), (4, .inl x4), (5, .inl x5), (6, .inl x6)]) [0, 1, 2, 3, 4, 5] rfl (hE S K)
    · rw [if_neg c125] at K hs
      refine z_go2 M.1 128 [(.aload_n 0, 1), (.getfield 172, 3), (.iload 8, 2), (.baload, 1)] (135, [(0, z_r 78), (1, z_r 86), (3, .inl x3), (4, .inl x4), (5, .inl x5), (6, .inl x6), (7, .inl x7), (8, .inl x8)], [.inl (S 192 (x8).toNatClampNeg)], zW T' G' S n, 0, 0) (by decide +kernel) rfl ⟨trivial, rfl, trivial, ⟨rfl, hs.1⟩, trivial⟩ ?_
      replace hs := hs.2
      refine z_if_eq 154 M.1 (off := 19) (by decide +kernel) (by decide) (fun c135 => ?_) (fun c135 => ?_)
      · rw [if_pos c135] at K hs
        exact z_lvs (lv' := [(0, z_r 78), (1, z_r 86), (3, .inl x3), (4, .inl x4), (5, .inl x5), (6, .inl x6), (7, .inl x7), (8, .inl x8)]) [0, 1, 2, 3, 4, 5, 6, 7] rfl (t_M_isThrough_l121_154_86 M fl hfl (F_M_isThrough_L121 86 fl x3 x4 x5 x6 x7 f) (Sf_M_isThrough_L121 86 fl x3 x4 x5 x6 x7 f) S x3 x4 x5 x6 x7 x8 hQ hE hC K hs)
      · rw [if_neg c135] at K hs
        refine z_go2 M.1 138 [(.aload_n 0, 1), (.aload_n 1, 1), (.iload 7, 2), (.aload_n 0, 1), (.getfield 16, 3), (.iload 5, 2), (.iaload, 1), (.iload 8, 2)] (151, [(0, z_r 78), (1, z_r 86), (3, .inl x3), (4, .inl x4), (5, .inl x5), (6, .inl x6), (7, .inl x7), (8, .inl x8)], [.inl x8, .inl (S 81 (x5).toNatClampNeg), .inl x7, z_r 86, z_r 78], zW T' G' S n, 0, 0) (by decide +kernel) rfl ⟨trivial, trivial, trivial, trivial, rfl, trivial, ⟨rfl, hs.1⟩, trivial, trivial⟩ ?_
        replace hs := hs.2
        refine z_callV M.1 (av := [z_r 86, .inl x7, .inl (S 81 (x5).toNatClampNeg), .inl x8]) (st := []) (a := 78) (ci := 14) (by decide +kernel) (c_M_acts_86 T' G' n fl hfl S x7 (S 81 (x5).toNatClampNeg) x8 hs.1) M.2.1 zl_M_276 zv_M_acts rfl rfl rfl ⟨by decide, by decide, by decide, by decide⟩ rfl (Nat.le_of_ble_eq_true rfl) (fun v w' hv => ?_)
        replace hs := hs.2
        obtain ⟨S151, hF151⟩ : ∃ y, F_M_acts 86 fl S x7 (S 81 (x5).toNatClampNeg) x8 = y := ⟨_, rfl⟩
        rw [hF151] at K hv
        try rw [hF151] at hs
        try dsimp only [z_let] at K hs
        obtain ⟨rfl, rfl⟩ := hv
        show z_G X zm_M_isThrough (154, [(0, z_r 78), (1, z_r 86), (3, .inl x3), (4, .inl x4), (5, .inl x5), (6, .inl x6), (7, .inl x7), (8, .inl x8)], [], zW T' G' S151 n, 0, 0)
        refine z_go2 M.1 154 [(.aload_n 0, 1), (.getfield 182, 3), (.iload 4, 2), (.isub, 1), (.bipush 20, 2)] (163, [(0, z_r 78), (1, z_r 86), (3, .inl x3), (4, .inl x4), (5, .inl x5), (6, .inl x6), (7, .inl x7), (8, .inl x8)], [.inl 20, .inl ((S151 78 2) - x4)], zW T' G' S151 n, 0, 0) (by decide +kernel) rfl ⟨trivial, rfl, trivial, trivial, trivial, trivial⟩ ?_
        refine z_icmp_le 168 M.1 (off := 5) (by decide +kernel) (by decide) (fun c163 => ?_) (fun c163 => ?_)
        · rw [if_pos c163] at K hs
          refine z_go2 M.1 168 [(.iinc 8 1, 3), (.goto (-50), 3)] (121, [(8, .inl (x8 + 1)), (0, z_r 78), (1, z_r 86), (3, .inl x3), (4, .inl x4), (5, .inl x5), (6, .inl x6), (7, .inl x7)], [], zW T' G' S151 n, 0, 0) (by decide +kernel) rfl ⟨trivial, trivial, trivial⟩ ?_
          exact z_lvs (lv' := [(0, z_r 78), (1, z_r 86), (3, .inl x3), (4, .inl x4), (5, .inl x5), (6, .inl x6), (7, .inl x7), (8, .inl (x8 + 1))]) [1, 2, 3, 4, 5, 6, 7, 0] rfl (hC S151 (x8 + 1) K hs)
        · rw [if_neg c163] at K hs
          refine z_go2 M.1 166 [(.iconst 0, 1)] (167, [(0, z_r 78), (1, z_r 86), (3, .inl x3), (4, .inl x4), (5, .inl x5), (6, .inl x6), (7, .inl x7), (8, .inl x8)], [.inl 0], zW T' G' S151 n, 0, 0) (by decide +kernel) rfl ⟨trivial, trivial⟩ ?_
          exact z_iret M (by decide +kernel) .boolean rfl rfl (by decide) (by decide) (hQ _ _ K)
theorem t_M_isThrough_L121_110 {X : z_X} {Post : Option z_V → z_W → Prop} (M : z_M X zm_M_isThrough rm_M_isThrough Post) {T' : Nat → Nat × Nat} {G' : Nat → Nat → Option Nat} {n : Nat} (fl : Nat → Nat) (hfl : zOK T' G' fl n) {Q : (((Nat → Nat → Int32)) ⊕ (Int32 × (Nat → Nat → Int32))) → Prop}  (x3 : Int32) (x4 : Int32) (x5 : Int32) (x6 : Int32) (x7 : Int32) (hQ : ∀ v S', Q (.inr (v, S')) → Post (some (.inl v)) (zW T' G' S' n)) (hE : ∀ (S' : (Nat → Nat → Int32)), Q (.inl S') → z_G X zm_M_isThrough (174, [(0, z_r 78), (1, z_r 110), (3, .inl x3), (4, .inl x4), (5, .inl x5), (6, .inl x6)], [], zW T' G' S' n, 0, 0)) (f : Nat) : ∀ (S : (Nat → Nat → Int32)) (x8 : Int32), Q (F_M_isThrough_L121 110 fl x3 x4 x5 x6 x7 f S x8) → Sf_M_isThrough_L121 110 fl x3 x4 x5 x6 x7 f S x8 → z_G X zm_M_isThrough (121, [(0, z_r 78), (1, z_r 110), (3, .inl x3), (4, .inl x4), (5, .inl x5), (6, .inl x6), (7, .inl x7), (8, .inl x8)], [], zW T' G' S n, 0, 0) := by
  induction f with
  | zero => intro S x8 K hs; exact False.elim hs
  | succ f hC =>
    intro S x8 K hs
    rw [F_M_isThrough_L121] at K
    rw [Sf_M_isThrough_L121] at hs
    try simp only [Nat.reduceAdd] at K hs
    refine z_go2 M.1 121 [(.iload 8, 2), (.bipush 30, 2)] (125, [(0, z_r 78), (1, z_r 110), (3, .inl x3), (4, .inl x4), (5, .inl x5), (6, .inl x6), (7, .inl x7), (8, .inl x8)], [.inl 30, .inl x8], zW T' G' S n, 0, 0) (by decide +kernel) rfl ⟨trivial, trivial, trivial⟩ ?_
    refine z_icmp_ge 174 M.1 (off := 49) (by decide +kernel) (by decide) (fun c125 => ?_) (fun c125 => ?_)
    · rw [if_pos c125] at K hs
      exact z_lvs (lv' := [(0, z_r 78), (1, z_r 110), (3, .inl x3), (4, .inl x4), (5, .inl x5), (6, .inl x6)]) [0, 1, 2, 3, 4, 5] rfl (hE S K)
    · rw [if_neg c125] at K hs
      refine z_go2 M.1 128 [(.aload_n 0, 1), (.getfield 172, 3), (.iload 8, 2), (.baload, 1)] (135, [(0, z_r 78), (1, z_r 110), (3, .inl x3), (4, .inl x4), (5, .inl x5), (6, .inl x6), (7, .inl x7), (8, .inl x8)], [.inl (S 192 (x8).toNatClampNeg)], zW T' G' S n, 0, 0) (by decide +kernel) rfl ⟨trivial, rfl, trivial, ⟨rfl, hs.1⟩, trivial⟩ ?_
      replace hs := hs.2
      refine z_if_eq 154 M.1 (off := 19) (by decide +kernel) (by decide) (fun c135 => ?_) (fun c135 => ?_)
      · rw [if_pos c135] at K hs
        exact z_lvs (lv' := [(0, z_r 78), (1, z_r 110), (3, .inl x3), (4, .inl x4), (5, .inl x5), (6, .inl x6), (7, .inl x7), (8, .inl x8)]) [0, 1, 2, 3, 4, 5, 6, 7] rfl (t_M_isThrough_l121_154_110 M fl hfl (F_M_isThrough_L121 110 fl x3 x4 x5 x6 x7 f) (Sf_M_isThrough_L121 110 fl x3 x4 x5 x6 x7 f) S x3 x4 x5 x6 x7 x8 hQ hE hC K hs)
      · rw [if_neg c135] at K hs
        refine z_go2 M.1 138 [(.aload_n 0, 1), (.aload_n 1, 1), (.iload 7, 2), (.aload_n 0, 1), (.getfield 16, 3), (.iload 5, 2), (.iaload, 1), (.iload 8, 2)] (151, [(0, z_r 78), (1, z_r 110), (3, .inl x3), (4, .inl x4), (5, .inl x5), (6, .inl x6), (7, .inl x7), (8, .inl x8)], [.inl x8, .inl (S 81 (x5).toNatClampNeg), .inl x7, z_r 110, z_r 78], zW T' G' S n, 0, 0) (by decide +kernel) rfl ⟨trivial, trivial, trivial, trivial, rfl, trivial, ⟨rfl, hs.1⟩, trivial, trivial⟩ ?_
        replace hs := hs.2
        refine z_callV M.1 (av := [z_r 110, .inl x7, .inl (S 81 (x5).toNatClampNeg), .inl x8]) (st := []) (a := 78) (ci := 14) (by decide +kernel) (c_M_acts_110 T' G' n fl hfl S x7 (S 81 (x5).toNatClampNeg) x8 hs.1) M.2.1 zl_M_276 zv_M_acts rfl rfl rfl ⟨by decide, by decide, by decide, by decide⟩ rfl (Nat.le_of_ble_eq_true rfl) (fun v w' hv => ?_)
        replace hs := hs.2
        obtain ⟨S151, hF151⟩ : ∃ y, F_M_acts 110 fl S x7 (S 81 (x5).toNatClampNeg) x8 = y := ⟨_, rfl⟩
        rw [hF151] at K hv
        try rw [hF151] at hs
        try dsimp only [z_let] at K hs
        obtain ⟨rfl, rfl⟩ := hv
        show z_G X zm_M_isThrough (154, [(0, z_r 78), (1, z_r 110), (3, .inl x3), (4, .inl x4), (5, .inl x5), (6, .inl x6), (7, .inl x7), (8, .inl x8)], [], zW T' G' S151 n, 0, 0)
        refine z_go2 M.1 154 [(.aload_n 0, 1), (.getfield 182, 3), (.iload 4, 2), (.isub, 1), (.bipush 20, 2)] (163, [(0, z_r 78), (1, z_r 110), (3, .inl x3), (4, .inl x4), (5, .inl x5), (6, .inl x6), (7, .inl x7), (8, .inl x8)], [.inl 20, .inl ((S151 78 2) - x4)], zW T' G' S151 n, 0, 0) (by decide +kernel) rfl ⟨trivial, rfl, trivial, trivial, trivial, trivial⟩ ?_
        refine z_icmp_le 168 M.1 (off := 5) (by decide +kernel) (by decide) (fun c163 => ?_) (fun c163 => ?_)
        · rw [if_pos c163] at K hs
          refine z_go2 M.1 168 [(.iinc 8 1, 3), (.goto (-50), 3)] (121, [(8, .inl (x8 + 1)), (0, z_r 78), (1, z_r 110), (3, .inl x3), (4, .inl x4), (5, .inl x5), (6, .inl x6), (7, .inl x7)], [], zW T' G' S151 n, 0, 0) (by decide +kernel) rfl ⟨trivial, trivial, trivial⟩ ?_
          exact z_lvs (lv' := [(0, z_r 78), (1, z_r 110), (3, .inl x3), (4, .inl x4), (5, .inl x5), (6, .inl x6), (7, .inl x7), (8, .inl (x8 + 1))]) [1, 2, 3, 4, 5, 6, 7, 0] rfl (hC S151 (x8 + 1) K hs)
        · rw [if_neg c163] at K hs
          refine z_go2 M.1 166 [(.iconst 0, 1)] (167, [(0, z_r 78), (1, z_r 110), (3, .inl x3), (4, .inl x4), (5, .inl x5), (6, .inl x6), (7, .inl x7), (8, .inl x8)], [.inl 0], zW T' G' S151 n, 0, 0) (by decide +kernel) rfl ⟨trivial, trivial⟩ ?_
          exact z_iret M (by decide +kernel) .boolean rfl rfl (by decide) (by decide) (hQ _ _ K)
def F_M_isThrough_l21_48 (w : Nat) (fl : Nat → Nat) (rc : (Nat → Nat → Int32) → Int32 → (((Nat → Nat → Int32)) ⊕ (Int32 × (Nat → Nat → Int32)))) (S : (Nat → Nat → Int32)) (x3 : Int32) (x4 : Int32) (x5 : Int32) (x6 : Int32) (s0 : Int32) : (((Nat → Nat → Int32)) ⊕ (Int32 × (Nat → Nat → Int32))) := (if (S 79 (x5).toNatClampNeg) = 0 then (rc S (x6 + 1)) else (if (F_M_meets w S s0 x5) = 0 then (rc S (x6 + 1)) else (match F_M_isThrough_L78 w fl x3 x4 x5 x6 s0 1300 S 0 with | S78 => (match F_M_isThrough_L121 w fl x3 x4 x5 x6 s0 1300 S78 0 with | .inl S121 => (rc S121 (x6 + 1)) | .inr r => (.inr r)))))
def Sf_M_isThrough_l21_48 (w : Nat) (fl : Nat → Nat) (rc : (Nat → Nat → Int32) → Int32 → (((Nat → Nat → Int32)) ⊕ (Int32 × (Nat → Nat → Int32)))) (sr : (Nat → Nat → Int32) → Int32 → Prop) (S : (Nat → Nat → Int32)) (x3 : Int32) (x4 : Int32) (x5 : Int32) (x6 : Int32) (s0 : Int32) : Prop := ((vp_in x5 1200) ∧ (if (S 79 (x5).toNatClampNeg) = 0 then (sr S (x6 + 1)) else (Sf_M_meets w S s0 x5 ∧ (if (F_M_meets w S s0 x5) = 0 then (sr S (x6 + 1)) else (Sf_M_isThrough_L78 w fl x3 x4 x5 x6 s0 1300 S 0 ∧ (match F_M_isThrough_L78 w fl x3 x4 x5 x6 s0 1300 S 0 with | S78 => (Sf_M_isThrough_L121 w fl x3 x4 x5 x6 s0 1300 S78 0 ∧ (match F_M_isThrough_L121 w fl x3 x4 x5 x6 s0 1300 S78 0 with | .inl S121 => (sr S121 (x6 + 1)) | .inr _ => True))))))))
theorem t_M_isThrough_l21_48_86 {X : z_X} {Post : Option z_V → z_W → Prop} (M : z_M X zm_M_isThrough rm_M_isThrough Post) {T' : Nat → Nat × Nat} {G' : Nat → Nat → Option Nat} {n : Nat} (fl : Nat → Nat) (hfl : zOK T' G' fl n) {Q : (((Nat → Nat → Int32)) ⊕ (Int32 × (Nat → Nat → Int32))) → Prop} (rc : (Nat → Nat → Int32) → Int32 → (((Nat → Nat → Int32)) ⊕ (Int32 × (Nat → Nat → Int32)))) (sr : (Nat → Nat → Int32) → Int32 → Prop) (S : (Nat → Nat → Int32)) (x3 : Int32) (x4 : Int32) (x5 : Int32) (x6 : Int32) (s0 : Int32) (hQ : ∀ v S', Q (.inr (v, S')) → Post (some (.inl v)) (zW T' G' S' n)) (hE : ∀ (S' : (Nat → Nat → Int32)), Q (.inl S') → z_G X zm_M_isThrough (180, [(0, z_r 78), (1, z_r 86), (3, .inl x3), (4, .inl x4), (5, .inl x5)], [], zW T' G' S' n, 0, 0)) (hC : ∀ (S : (Nat → Nat → Int32)) (x6 : Int32), Q (rc S x6) → sr S x6 → z_G X zm_M_isThrough (21, [(0, z_r 78), (1, z_r 86), (3, .inl x3), (4, .inl x4), (5, .inl x5), (6, .inl x6)], [], zW T' G' S n, 0, 0)) (K : Q (F_M_isThrough_l21_48 86 fl rc S x3 x4 x5 x6 s0)) (hs : Sf_M_isThrough_l21_48 86 fl rc sr S x3 x4 x5 x6 s0) : z_G X zm_M_isThrough (48, [(0, z_r 78), (1, z_r 86), (3, .inl x3), (4, .inl x4), (5, .inl x5), (6, .inl x6)], [.inl s0], zW T' G' S n, 0, 0) := by
  unfold F_M_isThrough_l21_48 at K
  unfold Sf_M_isThrough_l21_48 at hs
  try simp only [Nat.reduceAdd] at K hs
  refine z_go2 M.1 48 [(.istore 7, 2), (.aload_n 0, 1), (.getfield 7, 3), (.iload 5, 2), (.iaload, 1)] (57, [(7, .inl s0), (0, z_r 78), (1, z_r 86), (3, .inl x3), (4, .inl x4), (5, .inl x5), (6, .inl x6)], [.inl (S 79 (x5).toNatClampNeg)], zW T' G' S n, 0, 0) (by decide +kernel) rfl ⟨trivial, trivial, rfl, trivial, ⟨rfl, hs.1⟩, trivial⟩ ?_
  replace hs := hs.2
  refine z_if_eq 174 M.1 (off := 117) (by decide +kernel) (by decide) (fun c57 => ?_) (fun c57 => ?_)
  · rw [if_pos c57] at K hs
    refine z_go2 M.1 174 [(.iinc 6 1, 3), (.goto (-156), 3)] (21, [(6, .inl (x6 + 1)), (7, .inl s0), (0, z_r 78), (1, z_r 86), (3, .inl x3), (4, .inl x4), (5, .inl x5)], [], zW T' G' S n, 0, 0) (by decide +kernel) rfl ⟨trivial, trivial, trivial⟩ ?_
    exact z_lvs (lv' := [(0, z_r 78), (1, z_r 86), (3, .inl x3), (4, .inl x4), (5, .inl x5), (6, .inl (x6 + 1))]) [2, 3, 4, 5, 6, 0] rfl (hC S (x6 + 1) K hs)
  · rw [if_neg c57] at K hs
    refine z_go2 M.1 60 [(.aload_n 0, 1), (.aload_n 1, 1), (.iload 7, 2), (.iload 5, 2)] (66, [(7, .inl s0), (0, z_r 78), (1, z_r 86), (3, .inl x3), (4, .inl x4), (5, .inl x5), (6, .inl x6)], [.inl x5, .inl s0, z_r 86, z_r 78], zW T' G' S n, 0, 0) (by decide +kernel) rfl ⟨trivial, trivial, trivial, trivial, trivial⟩ ?_
    refine z_callV M.1 (av := [z_r 86, .inl s0, .inl x5]) (st := []) (a := 78) (ci := 14) (by decide +kernel) (c_M_meets_86 T' G' S n s0 x5 hs.1) M.2.1 zl_M_270 zv_M_meets rfl rfl rfl ⟨by decide, by decide, by decide, by decide⟩ rfl (Nat.le_of_ble_eq_true rfl) (fun v w' hv => ?_)
    obtain ⟨rfl, rfl⟩ := hv
    replace hs := hs.2
    show z_G X zm_M_isThrough (69, [(7, .inl s0), (0, z_r 78), (1, z_r 86), (3, .inl x3), (4, .inl x4), (5, .inl x5), (6, .inl x6)], [.inl (F_M_meets 86 S s0 x5)], zW T' G' S n, 0, 0)
    refine z_if_ne 75 M.1 (off := 6) (by decide +kernel) (by decide) (fun c69 => ?_) (fun c69 => ?_)
    · rw [if_neg c69] at K hs
      refine z_go2 M.1 75 [(.iconst 0, 1), (.istore 8, 2)] (78, [(8, .inl 0), (7, .inl s0), (0, z_r 78), (1, z_r 86), (3, .inl x3), (4, .inl x4), (5, .inl x5), (6, .inl x6)], [], zW T' G' S n, 0, 0) (by decide +kernel) rfl ⟨trivial, trivial, trivial⟩ ?_
      refine z_lvs (lv' := [(0, z_r 78), (1, z_r 86), (3, .inl x3), (4, .inl x4), (5, .inl x5), (6, .inl x6), (7, .inl s0), (8, .inl 0)]) [2, 3, 4, 5, 6, 7, 1, 0] rfl ?_
      refine t_M_isThrough_L78_86 M fl hfl (Q := fun o => F_M_isThrough_L78 86 fl x3 x4 x5 x6 s0 1300 S 0 = o) x3 x4 x5 x6 s0 (fun S78 hL78 => ?_) 1300 S 0 rfl hs.1
      replace hs := hs.2
      rw [hL78] at K
      try rw [hL78] at hs
      try dsimp only at K hs
      refine z_go2 M.1 118 [(.iconst 0, 1), (.istore 8, 2)] (121, [(8, .inl 0), (0, z_r 78), (1, z_r 86), (3, .inl x3), (4, .inl x4), (5, .inl x5), (6, .inl x6), (7, .inl s0)], [], zW T' G' S78 n, 0, 0) (by decide +kernel) rfl ⟨trivial, trivial, trivial⟩ ?_
      refine z_lvs (lv' := [(0, z_r 78), (1, z_r 86), (3, .inl x3), (4, .inl x4), (5, .inl x5), (6, .inl x6), (7, .inl s0), (8, .inl 0)]) [1, 2, 3, 4, 5, 6, 7, 0] rfl ?_
      refine t_M_isThrough_L121_86 M fl hfl (Q := fun o => F_M_isThrough_L121 86 fl x3 x4 x5 x6 s0 1300 S78 0 = o) x3 x4 x5 x6 s0 (fun v S' h => by rw [h] at K; exact hQ _ _ K) (fun S121 hL121 => ?_) 1300 S78 0 rfl hs.1
      replace hs := hs.2
      rw [hL121] at K
      try rw [hL121] at hs
      try dsimp only at K hs
      refine z_go2 M.1 174 [(.iinc 6 1, 3), (.goto (-156), 3)] (21, [(6, .inl (x6 + 1)), (0, z_r 78), (1, z_r 86), (3, .inl x3), (4, .inl x4), (5, .inl x5)], [], zW T' G' S121 n, 0, 0) (by decide +kernel) rfl ⟨trivial, trivial, trivial⟩ ?_
      exact z_lvs (lv' := [(0, z_r 78), (1, z_r 86), (3, .inl x3), (4, .inl x4), (5, .inl x5), (6, .inl (x6 + 1))]) [1, 2, 3, 4, 5, 0] rfl (hC S121 (x6 + 1) K hs)
    · rw [if_pos c69] at K hs
      refine z_go2 M.1 72 [(.goto 102, 3), (.iinc 6 1, 3), (.goto (-156), 3)] (21, [(6, .inl (x6 + 1)), (7, .inl s0), (0, z_r 78), (1, z_r 86), (3, .inl x3), (4, .inl x4), (5, .inl x5)], [], zW T' G' S n, 0, 0) (by decide +kernel) rfl ⟨trivial, trivial, trivial, trivial⟩ ?_
      exact z_lvs (lv' := [(0, z_r 78), (1, z_r 86), (3, .inl x3), (4, .inl x4), (5, .inl x5), (6, .inl (x6 + 1))]) [2, 3, 4, 5, 6, 0] rfl (hC S (x6 + 1) K hs)
theorem t_M_isThrough_l21_48_110 {X : z_X} {Post : Option z_V → z_W → Prop} (M : z_M X zm_M_isThrough rm_M_isThrough Post) {T' : Nat → Nat × Nat} {G' : Nat → Nat → Option Nat} {n : Nat} (fl : Nat → Nat) (hfl : zOK T' G' fl n) {Q : (((Nat → Nat → Int32)) ⊕ (Int32 × (Nat → Nat → Int32))) → Prop} (rc : (Nat → Nat → Int32) → Int32 → (((Nat → Nat → Int32)) ⊕ (Int32 × (Nat → Nat → Int32)))) (sr : (Nat → Nat → Int32) → Int32 → Prop) (S : (Nat → Nat → Int32)) (x3 : Int32) (x4 : Int32) (x5 : Int32) (x6 : Int32) (s0 : Int32) (hQ : ∀ v S', Q (.inr (v, S')) → Post (some (.inl v)) (zW T' G' S' n)) (hE : ∀ (S' : (Nat → Nat → Int32)), Q (.inl S') → z_G X zm_M_isThrough (180, [(0, z_r 78), (1, z_r 110), (3, .inl x3), (4, .inl x4), (5, .inl x5)], [], zW T' G' S' n, 0, 0)) (hC : ∀ (S : (Nat → Nat → Int32)) (x6 : Int32), Q (rc S x6) → sr S x6 → z_G X zm_M_isThrough (21, [(0, z_r 78), (1, z_r 110), (3, .inl x3), (4, .inl x4), (5, .inl x5), (6, .inl x6)], [], zW T' G' S n, 0, 0)) (K : Q (F_M_isThrough_l21_48 110 fl rc S x3 x4 x5 x6 s0)) (hs : Sf_M_isThrough_l21_48 110 fl rc sr S x3 x4 x5 x6 s0) : z_G X zm_M_isThrough (48, [(0, z_r 78), (1, z_r 110), (3, .inl x3), (4, .inl x4), (5, .inl x5), (6, .inl x6)], [.inl s0], zW T' G' S n, 0, 0) := by
  unfold F_M_isThrough_l21_48 at K
  unfold Sf_M_isThrough_l21_48 at hs
  try simp only [Nat.reduceAdd] at K hs
  refine z_go2 M.1 48 [(.istore 7, 2), (.aload_n 0, 1), (.getfield 7, 3), (.iload 5, 2), (.iaload, 1)] (57, [(7, .inl s0), (0, z_r 78), (1, z_r 110), (3, .inl x3), (4, .inl x4), (5, .inl x5), (6, .inl x6)], [.inl (S 79 (x5).toNatClampNeg)], zW T' G' S n, 0, 0) (by decide +kernel) rfl ⟨trivial, trivial, rfl, trivial, ⟨rfl, hs.1⟩, trivial⟩ ?_
  replace hs := hs.2
  refine z_if_eq 174 M.1 (off := 117) (by decide +kernel) (by decide) (fun c57 => ?_) (fun c57 => ?_)
  · rw [if_pos c57] at K hs
    refine z_go2 M.1 174 [(.iinc 6 1, 3), (.goto (-156), 3)] (21, [(6, .inl (x6 + 1)), (7, .inl s0), (0, z_r 78), (1, z_r 110), (3, .inl x3), (4, .inl x4), (5, .inl x5)], [], zW T' G' S n, 0, 0) (by decide +kernel) rfl ⟨trivial, trivial, trivial⟩ ?_
    exact z_lvs (lv' := [(0, z_r 78), (1, z_r 110), (3, .inl x3), (4, .inl x4), (5, .inl x5), (6, .inl (x6 + 1))]) [2, 3, 4, 5, 6, 0] rfl (hC S (x6 + 1) K hs)
  · rw [if_neg c57] at K hs
    refine z_go2 M.1 60 [(.aload_n 0, 1), (.aload_n 1, 1), (.iload 7, 2), (.iload 5, 2)] (66, [(7, .inl s0), (0, z_r 78), (1, z_r 110), (3, .inl x3), (4, .inl x4), (5, .inl x5), (6, .inl x6)], [.inl x5, .inl s0, z_r 110, z_r 78], zW T' G' S n, 0, 0) (by decide +kernel) rfl ⟨trivial, trivial, trivial, trivial, trivial⟩ ?_
    refine z_callV M.1 (av := [z_r 110, .inl s0, .inl x5]) (st := []) (a := 78) (ci := 14) (by decide +kernel) (c_M_meets_110 T' G' S n s0 x5 hs.1) M.2.1 zl_M_270 zv_M_meets rfl rfl rfl ⟨by decide, by decide, by decide, by decide⟩ rfl (Nat.le_of_ble_eq_true rfl) (fun v w' hv => ?_)
    obtain ⟨rfl, rfl⟩ := hv
    replace hs := hs.2
    show z_G X zm_M_isThrough (69, [(7, .inl s0), (0, z_r 78), (1, z_r 110), (3, .inl x3), (4, .inl x4), (5, .inl x5), (6, .inl x6)], [.inl (F_M_meets 110 S s0 x5)], zW T' G' S n, 0, 0)
    refine z_if_ne 75 M.1 (off := 6) (by decide +kernel) (by decide) (fun c69 => ?_) (fun c69 => ?_)
    · rw [if_neg c69] at K hs
      refine z_go2 M.1 75 [(.iconst 0, 1), (.istore 8, 2)] (78, [(8, .inl 0), (7, .inl s0), (0, z_r 78), (1, z_r 110), (3, .inl x3), (4, .inl x4), (5, .inl x5), (6, .inl x6)], [], zW T' G' S n, 0, 0) (by decide +kernel) rfl ⟨trivial, trivial, trivial⟩ ?_
      refine z_lvs (lv' := [(0, z_r 78), (1, z_r 110), (3, .inl x3), (4, .inl x4), (5, .inl x5), (6, .inl x6), (7, .inl s0), (8, .inl 0)]) [2, 3, 4, 5, 6, 7, 1, 0] rfl ?_
      refine t_M_isThrough_L78_110 M fl hfl (Q := fun o => F_M_isThrough_L78 110 fl x3 x4 x5 x6 s0 1300 S 0 = o) x3 x4 x5 x6 s0 (fun S78 hL78 => ?_) 1300 S 0 rfl hs.1
      replace hs := hs.2
      rw [hL78] at K
      try rw [hL78] at hs
      try dsimp only at K hs
      refine z_go2 M.1 118 [(.iconst 0, 1), (.istore 8, 2)] (121, [(8, .inl 0), (0, z_r 78), (1, z_r 110), (3, .inl x3), (4, .inl x4), (5, .inl x5), (6, .inl x6), (7, .inl s0)], [], zW T' G' S78 n, 0, 0) (by decide +kernel) rfl ⟨trivial, trivial, trivial⟩ ?_
      refine z_lvs (lv' := [(0, z_r 78), (1, z_r 110), (3, .inl x3), (4, .inl x4), (5, .inl x5), (6, .inl x6), (7, .inl s0), (8, .inl 0)]) [1, 2, 3, 4, 5, 6, 7, 0] rfl ?_
      refine t_M_isThrough_L121_110 M fl hfl (Q := fun o => F_M_isThrough_L121 110 fl x3 x4 x5 x6 s0 1300 S78 0 = o) x3 x4 x5 x6 s0 (fun v S' h => by rw [h] at K; exact hQ _ _ K) (fun S121 hL121 => ?_) 1300 S78 0 rfl hs.1
      replace hs := hs.2
      rw [hL121] at K
      try rw [hL121] at hs
      try dsimp only at K hs
      refine z_go2 M.1 174 [(.iinc 6 1, 3), (.goto (-156), 3)] (21, [(6, .inl (x6 + 1)), (0, z_r 78), (1, z_r 110), (3, .inl x3), (4, .inl x4), (5, .inl x5)], [], zW T' G' S121 n, 0, 0) (by decide +kernel) rfl ⟨trivial, trivial, trivial⟩ ?_
      exact z_lvs (lv' := [(0, z_r 78), (1, z_r 110), (3, .inl x3), (4, .inl x4), (5, .inl x5), (6, .inl (x6 + 1))]) [1, 2, 3, 4, 5, 0] rfl (hC S121 (x6 + 1) K hs)
    · rw [if_pos c69] at K hs
      refine z_go2 M.1 72 [(.goto 102, 3), (.iinc 6 1, 3), (.goto (-156), 3)] (21, [(6, .inl (x6 + 1)), (7, .inl s0), (0, z_r 78), (1, z_r 110), (3, .inl x3), (4, .inl x4), (5, .inl x5)], [], zW T' G' S n, 0, 0) (by decide +kernel) rfl ⟨trivial, trivial, trivial, trivial⟩ ?_
      exact z_lvs (lv' := [(0, z_r 78), (1, z_r 110), (3, .inl x3), (4, .inl x4), (5, .inl x5), (6, .inl (x6 + 1))]) [2, 3, 4, 5, 6, 0] rfl (hC S (x6 + 1) K hs)
def F_M_isThrough_L21 (w : Nat) (fl : Nat → Nat) (x3 : Int32) (x4 : Int32) (x5 : Int32) : Nat → (Nat → Nat → Int32) → Int32 → (((Nat → Nat → Int32)) ⊕ (Int32 × (Nat → Nat → Int32)))
  | 0, S, x6 => (.inl S)
  | f + 1, S, x6 => (if (S 78 31) ≤ x6 then (.inl S) else (if x3 = 0 then (F_M_isThrough_l21_48 w fl (F_M_isThrough_L21 w fl x3 x4 x5 f) S x3 x4 x5 x6 x6) else (F_M_isThrough_l21_48 w fl (F_M_isThrough_L21 w fl x3 x4 x5 f) S x3 x4 x5 x6 (((S 78 31) - 1) - x6))))
def Sf_M_isThrough_L21 (w : Nat) (fl : Nat → Nat) (x3 : Int32) (x4 : Int32) (x5 : Int32) : Nat → (Nat → Nat → Int32) → Int32 → Prop
  | 0, _, _ => False
  | f + 1, S, x6 => (if (S 78 31) ≤ x6 then True else (if x3 = 0 then (Sf_M_isThrough_l21_48 w fl (F_M_isThrough_L21 w fl x3 x4 x5 f) (Sf_M_isThrough_L21 w fl x3 x4 x5 f) S x3 x4 x5 x6 x6) else (Sf_M_isThrough_l21_48 w fl (F_M_isThrough_L21 w fl x3 x4 x5 f) (Sf_M_isThrough_L21 w fl x3 x4 x5 f) S x3 x4 x5 x6 (((S 78 31) - 1) - x6))))
theorem t_M_isThrough_L21_86 {X : z_X} {Post : Option z_V → z_W → Prop} (M : z_M X zm_M_isThrough rm_M_isThrough Post) {T' : Nat → Nat × Nat} {G' : Nat → Nat → Option Nat} {n : Nat} (fl : Nat → Nat) (hfl : zOK T' G' fl n) {Q : (((Nat → Nat → Int32)) ⊕ (Int32 × (Nat → Nat → Int32))) → Prop}  (x3 : Int32) (x4 : Int32) (x5 : Int32) (hQ : ∀ v S', Q (.inr (v, S')) → Post (some (.inl v)) (zW T' G' S' n)) (hE : ∀ (S' : (Nat → Nat → Int32)), Q (.inl S') → z_G X zm_M_isThrough (180, [(0, z_r 78), (1, z_r 86), (3, .inl x3), (4, .inl x4), (5, .inl x5)], [], zW T' G' S' n, 0, 0)) (f : Nat) : ∀ (S : (Nat → Nat → Int32)) (x6 : Int32), Q (F_M_isThrough_L21 86 fl x3 x4 x5 f S x6) → Sf_M_isThrough_L21 86 fl x3 x4 x5 f S x6 → z_G X zm_M_isThrough (21, [(0, z_r 78), (1, z_r 86), (3, .inl x3), (4, .inl x4), (5, .inl x5), (6, .inl x6)], [], zW T' G' S n, 0, 0) := by
  induction f with
  | zero => intro S x6 K hs; exact False.elim hs
  | succ f hC =>
    intro S x6 K hs
    rw [F_M_isThrough_L21] at K
    rw [Sf_M_isThrough_L21] at hs
    try simp only [Nat.reduceAdd] at K hs
    refine z_go2 M.1 21 [(.iload 6, 2), (.aload_n 0, 1), (.getfield 267, 3)] (27, [(0, z_r 78), (1, z_r 86), (3, .inl x3), (4, .inl x4), (5, .inl x5), (6, .inl x6)], [.inl (S 78 31), .inl x6], zW T' G' S n, 0, 0) (by decide +kernel) rfl ⟨trivial, trivial, rfl, trivial⟩ ?_
    refine z_icmp_ge 180 M.1 (off := 153) (by decide +kernel) (by decide) (fun c27 => ?_) (fun c27 => ?_)
    · rw [if_pos c27] at K hs
      exact z_lvs (lv' := [(0, z_r 78), (1, z_r 86), (3, .inl x3), (4, .inl x4), (5, .inl x5)]) [0, 1, 2, 3, 4] rfl (hE S K)
    · rw [if_neg c27] at K hs
      refine z_go2 M.1 30 [(.iload_n 3, 1)] (31, [(0, z_r 78), (1, z_r 86), (3, .inl x3), (4, .inl x4), (5, .inl x5), (6, .inl x6)], [.inl x3], zW T' G' S n, 0, 0) (by decide +kernel) rfl ⟨trivial, trivial⟩ ?_
      refine z_if_eq 46 M.1 (off := 15) (by decide +kernel) (by decide) (fun c31 => ?_) (fun c31 => ?_)
      · rw [if_pos c31] at K hs
        refine z_go2 M.1 46 [(.iload 6, 2)] (48, [(0, z_r 78), (1, z_r 86), (3, .inl x3), (4, .inl x4), (5, .inl x5), (6, .inl x6)], [.inl x6], zW T' G' S n, 0, 0) (by decide +kernel) rfl ⟨trivial, trivial⟩ ?_
        exact z_lvs (lv' := [(0, z_r 78), (1, z_r 86), (3, .inl x3), (4, .inl x4), (5, .inl x5), (6, .inl x6)]) [0, 1, 2, 3, 4, 5] rfl (t_M_isThrough_l21_48_86 M fl hfl (F_M_isThrough_L21 86 fl x3 x4 x5 f) (Sf_M_isThrough_L21 86 fl x3 x4 x5 f) S x3 x4 x5 x6 x6 hQ hE hC K hs)
      · rw [if_neg c31] at K hs
        refine z_go2 M.1 34 [(.aload_n 0, 1), (.getfield 267, 3), (.iconst 1, 1), (.isub, 1), (.iload 6, 2), (.isub, 1), (.goto 5, 3)] (48, [(0, z_r 78), (1, z_r 86), (3, .inl x3), (4, .inl x4), (5, .inl x5), (6, .inl x6)], [.inl (((S 78 31) - 1) - x6)], zW T' G' S n, 0, 0) (by decide +kernel) rfl ⟨trivial, rfl, trivial, trivial, trivial, trivial, trivial, trivial⟩ ?_
        exact z_lvs (lv' := [(0, z_r 78), (1, z_r 86), (3, .inl x3), (4, .inl x4), (5, .inl x5), (6, .inl x6)]) [0, 1, 2, 3, 4, 5] rfl (t_M_isThrough_l21_48_86 M fl hfl (F_M_isThrough_L21 86 fl x3 x4 x5 f) (Sf_M_isThrough_L21 86 fl x3 x4 x5 f) S x3 x4 x5 x6 (((S 78 31) - 1) - x6) hQ hE hC K hs)
theorem t_M_isThrough_L21_110 {X : z_X} {Post : Option z_V → z_W → Prop} (M : z_M X zm_M_isThrough rm_M_isThrough Post) {T' : Nat → Nat × Nat} {G' : Nat → Nat → Option Nat} {n : Nat} (fl : Nat → Nat) (hfl : zOK T' G' fl n) {Q : (((Nat → Nat → Int32)) ⊕ (Int32 × (Nat → Nat → Int32))) → Prop}  (x3 : Int32) (x4 : Int32) (x5 : Int32) (hQ : ∀ v S', Q (.inr (v, S')) → Post (some (.inl v)) (zW T' G' S' n)) (hE : ∀ (S' : (Nat → Nat → Int32)), Q (.inl S') → z_G X zm_M_isThrough (180, [(0, z_r 78), (1, z_r 110), (3, .inl x3), (4, .inl x4), (5, .inl x5)], [], zW T' G' S' n, 0, 0)) (f : Nat) : ∀ (S : (Nat → Nat → Int32)) (x6 : Int32), Q (F_M_isThrough_L21 110 fl x3 x4 x5 f S x6) → Sf_M_isThrough_L21 110 fl x3 x4 x5 f S x6 → z_G X zm_M_isThrough (21, [(0, z_r 78), (1, z_r 110), (3, .inl x3), (4, .inl x4), (5, .inl x5), (6, .inl x6)], [], zW T' G' S n, 0, 0) := by
  induction f with
  | zero => intro S x6 K hs; exact False.elim hs
  | succ f hC =>
    intro S x6 K hs
    rw [F_M_isThrough_L21] at K
    rw [Sf_M_isThrough_L21] at hs
    try simp only [Nat.reduceAdd] at K hs
    refine z_go2 M.1 21 [(.iload 6, 2), (.aload_n 0, 1), (.getfield 267, 3)] (27, [(0, z_r 78), (1, z_r 110), (3, .inl x3), (4, .inl x4), (5, .inl x5), (6, .inl x6)], [.inl (S 78 31), .inl x6], zW T' G' S n, 0, 0) (by decide +kernel) rfl ⟨trivial, trivial, rfl, trivial⟩ ?_
    refine z_icmp_ge 180 M.1 (off := 153) (by decide +kernel) (by decide) (fun c27 => ?_) (fun c27 => ?_)
    · rw [if_pos c27] at K hs
      exact z_lvs (lv' := [(0, z_r 78), (1, z_r 110), (3, .inl x3), (4, .inl x4), (5, .inl x5)]) [0, 1, 2, 3, 4] rfl (hE S K)
    · rw [if_neg c27] at K hs
      refine z_go2 M.1 30 [(.iload_n 3, 1)] (31, [(0, z_r 78), (1, z_r 110), (3, .inl x3), (4, .inl x4), (5, .inl x5), (6, .inl x6)], [.inl x3], zW T' G' S n, 0, 0) (by decide +kernel) rfl ⟨trivial, trivial⟩ ?_
      refine z_if_eq 46 M.1 (off := 15) (by decide +kernel) (by decide) (fun c31 => ?_) (fun c31 => ?_)
      · rw [if_pos c31] at K hs
        refine z_go2 M.1 46 [(.iload 6, 2)] (48, [(0, z_r 78), (1, z_r 110), (3, .inl x3), (4, .inl x4), (5, .inl x5), (6, .inl x6)], [.inl x6], zW T' G' S n, 0, 0) (by decide +kernel) rfl ⟨trivial, trivial⟩ ?_
        exact z_lvs (lv' := [(0, z_r 78), (1, z_r 110), (3, .inl x3), (4, .inl x4), (5, .inl x5), (6, .inl x6)]) [0, 1, 2, 3, 4, 5] rfl (t_M_isThrough_l21_48_110 M fl hfl (F_M_isThrough_L21 110 fl x3 x4 x5 f) (Sf_M_isThrough_L21 110 fl x3 x4 x5 f) S x3 x4 x5 x6 x6 hQ hE hC K hs)
      · rw [if_neg c31] at K hs
        refine z_go2 M.1 34 [(.aload_n 0, 1), (.getfield 267, 3), (.iconst 1, 1), (.isub, 1), (.iload 6, 2), (.isub, 1), (.goto 5, 3)] (48, [(0, z_r 78), (1, z_r 110), (3, .inl x3), (4, .inl x4), (5, .inl x5), (6, .inl x6)], [.inl (((S 78 31) - 1) - x6)], zW T' G' S n, 0, 0) (by decide +kernel) rfl ⟨trivial, rfl, trivial, trivial, trivial, trivial, trivial, trivial⟩ ?_
        exact z_lvs (lv' := [(0, z_r 78), (1, z_r 110), (3, .inl x3), (4, .inl x4), (5, .inl x5), (6, .inl x6)]) [0, 1, 2, 3, 4, 5] rfl (t_M_isThrough_l21_48_110 M fl hfl (F_M_isThrough_L21 110 fl x3 x4 x5 f) (Sf_M_isThrough_L21 110 fl x3 x4 x5 f) S x3 x4 x5 x6 (((S 78 31) - 1) - x6) hQ hE hC K hs)
def F_M_isThrough_L9 (w : Nat) (fl : Nat → Nat) (x3 : Int32) (x4 : Int32) : Nat → (Nat → Nat → Int32) → Int32 → (((Nat → Nat → Int32)) ⊕ (Int32 × (Nat → Nat → Int32)))
  | 0, S, x5 => (.inl S)
  | f + 1, S, x5 => (if (S 78 2) ≤ x5 then (.inl S) else (match F_M_isThrough_L21 w fl x3 x4 x5 1300 S 0 with | .inl S21 => ((F_M_isThrough_L9 w fl x3 x4 f) S21 (x5 + 1)) | .inr r => (.inr r)))
def Sf_M_isThrough_L9 (w : Nat) (fl : Nat → Nat) (x3 : Int32) (x4 : Int32) : Nat → (Nat → Nat → Int32) → Int32 → Prop
  | 0, _, _ => False
  | f + 1, S, x5 => (if (S 78 2) ≤ x5 then True else (Sf_M_isThrough_L21 w fl x3 x4 x5 1300 S 0 ∧ (match F_M_isThrough_L21 w fl x3 x4 x5 1300 S 0 with | .inl S21 => ((Sf_M_isThrough_L9 w fl x3 x4 f) S21 (x5 + 1)) | .inr _ => True)))
theorem t_M_isThrough_L9_86 {X : z_X} {Post : Option z_V → z_W → Prop} (M : z_M X zm_M_isThrough rm_M_isThrough Post) {T' : Nat → Nat × Nat} {G' : Nat → Nat → Option Nat} {n : Nat} (fl : Nat → Nat) (hfl : zOK T' G' fl n) {Q : (((Nat → Nat → Int32)) ⊕ (Int32 × (Nat → Nat → Int32))) → Prop}  (x3 : Int32) (x4 : Int32) (hQ : ∀ v S', Q (.inr (v, S')) → Post (some (.inl v)) (zW T' G' S' n)) (hE : ∀ (S' : (Nat → Nat → Int32)), Q (.inl S') → z_G X zm_M_isThrough (186, [], [], zW T' G' S' n, 0, 0)) (f : Nat) : ∀ (S : (Nat → Nat → Int32)) (x5 : Int32), Q (F_M_isThrough_L9 86 fl x3 x4 f S x5) → Sf_M_isThrough_L9 86 fl x3 x4 f S x5 → z_G X zm_M_isThrough (9, [(0, z_r 78), (1, z_r 86), (3, .inl x3), (4, .inl x4), (5, .inl x5)], [], zW T' G' S n, 0, 0) := by
  induction f with
  | zero => intro S x5 K hs; exact False.elim hs
  | succ f hC =>
    intro S x5 K hs
    rw [F_M_isThrough_L9] at K
    rw [Sf_M_isThrough_L9] at hs
    try simp only [Nat.reduceAdd] at K hs
    refine z_go2 M.1 9 [(.iload 5, 2), (.aload_n 0, 1), (.getfield 182, 3)] (15, [(0, z_r 78), (1, z_r 86), (3, .inl x3), (4, .inl x4), (5, .inl x5)], [.inl (S 78 2), .inl x5], zW T' G' S n, 0, 0) (by decide +kernel) rfl ⟨trivial, trivial, rfl, trivial⟩ ?_
    refine z_icmp_ge 186 M.1 (off := 171) (by decide +kernel) (by decide) (fun c15 => ?_) (fun c15 => ?_)
    · rw [if_pos c15] at K hs
      exact z_lvs (lv' := []) [] rfl (hE S K)
    · rw [if_neg c15] at K hs
      refine z_go2 M.1 18 [(.iconst 0, 1), (.istore 6, 2)] (21, [(6, .inl 0), (0, z_r 78), (1, z_r 86), (3, .inl x3), (4, .inl x4), (5, .inl x5)], [], zW T' G' S n, 0, 0) (by decide +kernel) rfl ⟨trivial, trivial, trivial⟩ ?_
      refine z_lvs (lv' := [(0, z_r 78), (1, z_r 86), (3, .inl x3), (4, .inl x4), (5, .inl x5), (6, .inl 0)]) [1, 2, 3, 4, 5, 0] rfl ?_
      refine t_M_isThrough_L21_86 M fl hfl (Q := fun o => F_M_isThrough_L21 86 fl x3 x4 x5 1300 S 0 = o) x3 x4 x5 (fun v S' h => by rw [h] at K; exact hQ _ _ K) (fun S21 hL21 => ?_) 1300 S 0 rfl hs.1
      replace hs := hs.2
      rw [hL21] at K
      try rw [hL21] at hs
      try dsimp only at K hs
      refine z_go2 M.1 180 [(.iinc 5 1, 3), (.goto (-174), 3)] (9, [(5, .inl (x5 + 1)), (0, z_r 78), (1, z_r 86), (3, .inl x3), (4, .inl x4)], [], zW T' G' S21 n, 0, 0) (by decide +kernel) rfl ⟨trivial, trivial, trivial⟩ ?_
      exact z_lvs (lv' := [(0, z_r 78), (1, z_r 86), (3, .inl x3), (4, .inl x4), (5, .inl (x5 + 1))]) [1, 2, 3, 4, 0] rfl (hC S21 (x5 + 1) K hs)
theorem t_M_isThrough_L9_110 {X : z_X} {Post : Option z_V → z_W → Prop} (M : z_M X zm_M_isThrough rm_M_isThrough Post) {T' : Nat → Nat × Nat} {G' : Nat → Nat → Option Nat} {n : Nat} (fl : Nat → Nat) (hfl : zOK T' G' fl n) {Q : (((Nat → Nat → Int32)) ⊕ (Int32 × (Nat → Nat → Int32))) → Prop}  (x3 : Int32) (x4 : Int32) (hQ : ∀ v S', Q (.inr (v, S')) → Post (some (.inl v)) (zW T' G' S' n)) (hE : ∀ (S' : (Nat → Nat → Int32)), Q (.inl S') → z_G X zm_M_isThrough (186, [], [], zW T' G' S' n, 0, 0)) (f : Nat) : ∀ (S : (Nat → Nat → Int32)) (x5 : Int32), Q (F_M_isThrough_L9 110 fl x3 x4 f S x5) → Sf_M_isThrough_L9 110 fl x3 x4 f S x5 → z_G X zm_M_isThrough (9, [(0, z_r 78), (1, z_r 110), (3, .inl x3), (4, .inl x4), (5, .inl x5)], [], zW T' G' S n, 0, 0) := by
  induction f with
  | zero => intro S x5 K hs; exact False.elim hs
  | succ f hC =>
    intro S x5 K hs
    rw [F_M_isThrough_L9] at K
    rw [Sf_M_isThrough_L9] at hs
    try simp only [Nat.reduceAdd] at K hs
    refine z_go2 M.1 9 [(.iload 5, 2), (.aload_n 0, 1), (.getfield 182, 3)] (15, [(0, z_r 78), (1, z_r 110), (3, .inl x3), (4, .inl x4), (5, .inl x5)], [.inl (S 78 2), .inl x5], zW T' G' S n, 0, 0) (by decide +kernel) rfl ⟨trivial, trivial, rfl, trivial⟩ ?_
    refine z_icmp_ge 186 M.1 (off := 171) (by decide +kernel) (by decide) (fun c15 => ?_) (fun c15 => ?_)
    · rw [if_pos c15] at K hs
      exact z_lvs (lv' := []) [] rfl (hE S K)
    · rw [if_neg c15] at K hs
      refine z_go2 M.1 18 [(.iconst 0, 1), (.istore 6, 2)] (21, [(6, .inl 0), (0, z_r 78), (1, z_r 110), (3, .inl x3), (4, .inl x4), (5, .inl x5)], [], zW T' G' S n, 0, 0) (by decide +kernel) rfl ⟨trivial, trivial, trivial⟩ ?_
      refine z_lvs (lv' := [(0, z_r 78), (1, z_r 110), (3, .inl x3), (4, .inl x4), (5, .inl x5), (6, .inl 0)]) [1, 2, 3, 4, 5, 0] rfl ?_
      refine t_M_isThrough_L21_110 M fl hfl (Q := fun o => F_M_isThrough_L21 110 fl x3 x4 x5 1300 S 0 = o) x3 x4 x5 (fun v S' h => by rw [h] at K; exact hQ _ _ K) (fun S21 hL21 => ?_) 1300 S 0 rfl hs.1
      replace hs := hs.2
      rw [hL21] at K
      try rw [hL21] at hs
      try dsimp only at K hs
      refine z_go2 M.1 180 [(.iinc 5 1, 3), (.goto (-174), 3)] (9, [(5, .inl (x5 + 1)), (0, z_r 78), (1, z_r 110), (3, .inl x3), (4, .inl x4)], [], zW T' G' S21 n, 0, 0) (by decide +kernel) rfl ⟨trivial, trivial, trivial⟩ ?_
      exact z_lvs (lv' := [(0, z_r 78), (1, z_r 110), (3, .inl x3), (4, .inl x4), (5, .inl (x5 + 1))]) [1, 2, 3, 4, 0] rfl (hC S21 (x5 + 1) K hs)
def F_M_isThrough (w : Nat) (fl : Nat → Nat) (S : (Nat → Nat → Int32)) (p2 : Int32) (p3 : Int32) : (Int32 × (Nat → Nat → Int32)) := (match F_M_isThrough_L9 w fl p3 (S 78 2) 1300 S p2 with | .inl S9 => (1, S9) | .inr r => r)
def Sf_M_isThrough (w : Nat) (fl : Nat → Nat) (S : (Nat → Nat → Int32)) (p2 : Int32) (p3 : Int32) : Prop := (Sf_M_isThrough_L9 w fl p3 (S 78 2) 1300 S p2 ∧ True)
theorem c_M_isThrough_86 (T' : Nat → Nat × Nat) (G' : Nat → Nat → Option Nat) (n : Nat) (fl : Nat → Nat) (hfl : zOK T' G' fl n) (S : (Nat → Nat → Int32)) (p2 : Int32) (p3 : Int32) (hs : Sf_M_isThrough 86 fl S p2 p3) : z_Run rm_M_isThrough zm_M_isThrough [z_r 78, z_r 86, .inl p2, .inl p3] (zW T' G' S n) (zq (some (.inl (F_M_isThrough 86 fl S p2 p3).1)) (zW T' G' (F_M_isThrough 86 fl S p2 p3).2 n)) := by
  refine z_body (by decide) zf_M_ok (Nat.le_of_ble_eq_true rfl) (fun X M => ?_)
  obtain ⟨Q, hQ, K⟩ : ∃ Q : (Int32 × (Nat → Nat → Int32)) → Prop, (∀ v S', Q (v, S') → zq (some (.inl (F_M_isThrough 86 fl S p2 p3).1)) (zW T' G' (F_M_isThrough 86 fl S p2 p3).2 n) (some (.inl v)) (zW T' G' S' n)) ∧ Q (F_M_isThrough 86 fl S p2 p3) := ⟨fun o => F_M_isThrough 86 fl S p2 p3 = o, fun v S' h => ⟨by rw [h], by rw [h]⟩, rfl⟩
  show z_G X zm_M_isThrough (0, [(0, z_r 78), (1, z_r 86), (2, .inl p2), (3, .inl p3)], [], zW T' G' S n, 0, 0)
  unfold F_M_isThrough at K
  unfold Sf_M_isThrough at hs
  try simp only [Nat.reduceAdd] at K hs
  refine z_go2 M.1 0 [(.aload_n 0, 1), (.getfield 182, 3), (.istore 4, 2), (.iload_n 2, 1), (.istore 5, 2)] (9, [(5, .inl p2), (4, .inl (S 78 2)), (0, z_r 78), (1, z_r 86), (2, .inl p2), (3, .inl p3)], [], zW T' G' S n, 0, 0) (by decide +kernel) rfl ⟨trivial, rfl, trivial, trivial, trivial, trivial⟩ ?_
  refine z_lvs (lv' := [(0, z_r 78), (1, z_r 86), (3, .inl p3), (4, .inl (S 78 2)), (5, .inl p2)]) [2, 3, 5, 1, 0] rfl ?_
  refine t_M_isThrough_L9_86 M fl hfl (Q := fun o => F_M_isThrough_L9 86 fl p3 (S 78 2) 1300 S p2 = o) p3 (S 78 2) (fun v S' h => by rw [h] at K; exact hQ _ _ K) (fun S9 hL9 => ?_) 1300 S p2 rfl hs.1
  replace hs := hs.2
  rw [hL9] at K
  try dsimp only at K
  refine z_go2 M.1 186 [(.iconst 1, 1)] (187, [], [.inl 1], zW T' G' S9 n, 0, 0) (by decide +kernel) rfl ⟨trivial, trivial⟩ ?_
  exact z_iret M (by decide +kernel) .boolean rfl rfl (by decide) (by decide) (hQ _ _ K)
theorem c_M_isThrough_110 (T' : Nat → Nat × Nat) (G' : Nat → Nat → Option Nat) (n : Nat) (fl : Nat → Nat) (hfl : zOK T' G' fl n) (S : (Nat → Nat → Int32)) (p2 : Int32) (p3 : Int32) (hs : Sf_M_isThrough 110 fl S p2 p3) : z_Run rm_M_isThrough zm_M_isThrough [z_r 78, z_r 110, .inl p2, .inl p3] (zW T' G' S n) (zq (some (.inl (F_M_isThrough 110 fl S p2 p3).1)) (zW T' G' (F_M_isThrough 110 fl S p2 p3).2 n)) := by
  refine z_body (by decide) zf_M_ok (Nat.le_of_ble_eq_true rfl) (fun X M => ?_)
  obtain ⟨Q, hQ, K⟩ : ∃ Q : (Int32 × (Nat → Nat → Int32)) → Prop, (∀ v S', Q (v, S') → zq (some (.inl (F_M_isThrough 110 fl S p2 p3).1)) (zW T' G' (F_M_isThrough 110 fl S p2 p3).2 n) (some (.inl v)) (zW T' G' S' n)) ∧ Q (F_M_isThrough 110 fl S p2 p3) := ⟨fun o => F_M_isThrough 110 fl S p2 p3 = o, fun v S' h => ⟨by rw [h], by rw [h]⟩, rfl⟩
  show z_G X zm_M_isThrough (0, [(0, z_r 78), (1, z_r 110), (2, .inl p2), (3, .inl p3)], [], zW T' G' S n, 0, 0)
  unfold F_M_isThrough at K
  unfold Sf_M_isThrough at hs
  try simp only [Nat.reduceAdd] at K hs
  refine z_go2 M.1 0 [(.aload_n 0, 1), (.getfield 182, 3), (.istore 4, 2), (.iload_n 2, 1), (.istore 5, 2)] (9, [(5, .inl p2), (4, .inl (S 78 2)), (0, z_r 78), (1, z_r 110), (2, .inl p2), (3, .inl p3)], [], zW T' G' S n, 0, 0) (by decide +kernel) rfl ⟨trivial, rfl, trivial, trivial, trivial, trivial⟩ ?_
  refine z_lvs (lv' := [(0, z_r 78), (1, z_r 110), (3, .inl p3), (4, .inl (S 78 2)), (5, .inl p2)]) [2, 3, 5, 1, 0] rfl ?_
  refine t_M_isThrough_L9_110 M fl hfl (Q := fun o => F_M_isThrough_L9 110 fl p3 (S 78 2) 1300 S p2 = o) p3 (S 78 2) (fun v S' h => by rw [h] at K; exact hQ _ _ K) (fun S9 hL9 => ?_) 1300 S p2 rfl hs.1
  replace hs := hs.2
  rw [hL9] at K
  try dsimp only at K
  refine z_go2 M.1 186 [(.iconst 1, 1)] (187, [], [.inl 1], zW T' G' S9 n, 0, 0) (by decide +kernel) rfl ⟨trivial, trivial⟩ ?_
  exact z_iret M (by decide +kernel) .boolean rfl rfl (by decide) (by decide) (hQ _ _ K)

-- TrackHouseModel.takeBack
abbrev rm_M_takeBack : Room := zr 4
def F_M_takeBack (S : (Nat → Nat → Int32)) (p1 : Int32) : (Nat → Nat → Int32) := (z_let (F_M_remake 86 (z_uS S 78 2 p1) p1) (fun S11 => S11))
def Sf_M_takeBack (S : (Nat → Nat → Int32)) (p1 : Int32) : Prop := (Sf_M_remake 86 (z_uS S 78 2 p1) p1 ∧ True)
theorem c_M_takeBack (T' : Nat → Nat × Nat) (G' : Nat → Nat → Option Nat) (S : (Nat → Nat → Int32)) (n : Nat) (p1 : Int32) (hs : Sf_M_takeBack S p1) : z_Run rm_M_takeBack zm_M_takeBack [z_r 78, .inl p1] (zW T' G' S n) (zq none (zW T' G' (F_M_takeBack S p1) n)) := by
  refine z_body (by decide) zf_M_ok (Nat.le_of_ble_eq_true rfl) (fun X M => ?_)
  obtain ⟨Q, hQ, K⟩ : ∃ Q : (Nat → Nat → Int32) → Prop, (∀ S', Q S' → zq none (zW T' G' (F_M_takeBack S p1) n) none (zW T' G' S' n)) ∧ Q (F_M_takeBack S p1) := ⟨fun o => F_M_takeBack S p1 = o, fun S' h => ⟨rfl, by rw [h]⟩, rfl⟩
  show z_G X zm_M_takeBack (0, [(0, z_r 78), (1, .inl p1)], [], zW T' G' S n, 0, 0)
  unfold F_M_takeBack at K
  unfold Sf_M_takeBack at hs
  refine z_go2 M.1 0 [(.aload_n 0, 1), (.iload_n 1, 1), (.putfield 182, 3), (.aload_n 0, 1), (.aload_n 0, 1), (.getfield 34, 3), (.iload_n 1, 1)] (11, [(0, z_r 78), (1, .inl p1)], [.inl p1, z_r 86, z_r 78], zW T' G' (z_uS S 78 2 p1) n, 0, 0) (by decide +kernel) rfl ⟨trivial, trivial, ⟨rfl, trivial⟩, trivial, trivial, rfl, trivial, trivial⟩ ?_
  refine z_callV M.1 (av := [z_r 86, .inl p1]) (st := []) (a := 78) (ci := 14) (by decide +kernel) (c_M_remake_86 T' G' (z_uS S 78 2 p1) n p1 hs.1) M.2.1 zl_M_280 zv_M_remake rfl rfl rfl ⟨by decide, by decide, by decide, by decide⟩ rfl (Nat.le_of_ble_eq_true rfl) (fun v w' hv => ?_)
  replace hs := hs.2
  obtain ⟨S11, hF11⟩ : ∃ y, F_M_remake 86 (z_uS S 78 2 p1) p1 = y := ⟨_, rfl⟩
  rw [hF11] at K hv
  try dsimp only [z_let] at K
  obtain ⟨rfl, rfl⟩ := hv
  show z_G X zm_M_takeBack (14, [(0, z_r 78), (1, .inl p1)], [], zW T' G' S11 n, 0, 0)
  exact z_vret M (by decide +kernel) rfl (by decide) (by decide) (hQ _ K)

-- TrackHouseModel.stays
abbrev rm_M_stays : Room := zr 6
def F_M_stays_j104 (fl : Nat → Nat) (S : (Nat → Nat → Int32)) (x1 : Int32) (s0 : Int32) : (Int32 × (Nat → Nat → Int32)) := (if s0 = 0 then (z_let (F_M_takeBack S x1) (fun S113 => (s0, S113))) else (s0, S))
def Sf_M_stays_j104 (fl : Nat → Nat) (S : (Nat → Nat → Int32)) (x1 : Int32) (s0 : Int32) : Prop := (if s0 = 0 then (Sf_M_takeBack S x1 ∧ (z_let (F_M_takeBack S x1) (fun S113 => (narrow .boolean (.int s0) = .int s0 ∧ True)))) else (narrow .boolean (.int s0) = .int s0 ∧ True))
theorem t_M_stays_j104 {X : z_X} {Post : Option z_V → z_W → Prop} (M : z_M X zm_M_stays rm_M_stays Post) {T' : Nat → Nat × Nat} {G' : Nat → Nat → Option Nat} {n : Nat} (fl : Nat → Nat) (hfl : zOK T' G' fl n) {Q : (Int32 × (Nat → Nat → Int32)) → Prop} (S : (Nat → Nat → Int32)) (x1 : Int32) (s0 : Int32) (hQ : ∀ v S', Q (v, S') → Post (some (.inl v)) (zW T' G' S' n)) (K : Q (F_M_stays_j104 fl S x1 s0)) (hs : Sf_M_stays_j104 fl S x1 s0) : z_G X zm_M_stays (104, [(0, z_r 78), (1, .inl x1)], [.inl s0], zW T' G' S n, 0, 0) := by
  unfold F_M_stays_j104 at K
  unfold Sf_M_stays_j104 at hs
  refine z_go2 M.1 104 [(.istore 4, 2), (.iload 4, 2)] (108, [(4, .inl s0), (0, z_r 78), (1, .inl x1)], [.inl s0], zW T' G' S n, 0, 0) (by decide +kernel) rfl ⟨trivial, trivial, trivial⟩ ?_
  refine z_if_ne 116 M.1 (off := 8) (by decide +kernel) (by decide) (fun c108 => ?_) (fun c108 => ?_)
  · rw [if_neg c108] at K hs
    refine z_go2 M.1 116 [(.iload 4, 2)] (118, [(4, .inl s0), (0, z_r 78), (1, .inl x1)], [.inl s0], zW T' G' S n, 0, 0) (by decide +kernel) rfl ⟨trivial, trivial⟩ ?_
    exact z_iret M (by decide +kernel) .boolean rfl hs.1 (by decide) (by decide) (hQ _ _ K)
  · rw [if_pos c108] at K hs
    refine z_go2 M.1 111 [(.aload_n 0, 1), (.iload_n 1, 1)] (113, [(4, .inl s0), (0, z_r 78), (1, .inl x1)], [.inl x1, z_r 78], zW T' G' S n, 0, 0) (by decide +kernel) rfl ⟨trivial, trivial, trivial⟩ ?_
    refine z_callV M.1 (av := [.inl x1]) (st := []) (a := 78) (ci := 14) (by decide +kernel) (c_M_takeBack T' G' S n x1 hs.1) M.2.1 zl_M_291 zv_M_takeBack rfl rfl rfl ⟨by decide, by decide, by decide, by decide⟩ rfl (Nat.le_of_ble_eq_true rfl) (fun v w' hv => ?_)
    replace hs := hs.2
    obtain ⟨S113, hF113⟩ : ∃ y, F_M_takeBack S x1 = y := ⟨_, rfl⟩
    rw [hF113] at K hv
    try rw [hF113] at hs
    try dsimp only [z_let] at K hs
    obtain ⟨rfl, rfl⟩ := hv
    show z_G X zm_M_stays (116, [(4, .inl s0), (0, z_r 78), (1, .inl x1)], [], zW T' G' S113 n, 0, 0)
    refine z_go2 M.1 116 [(.iload 4, 2)] (118, [(4, .inl s0), (0, z_r 78), (1, .inl x1)], [.inl s0], zW T' G' S113 n, 0, 0) (by decide +kernel) rfl ⟨trivial, trivial⟩ ?_
    exact z_iret M (by decide +kernel) .boolean rfl hs.1 (by decide) (by decide) (hQ _ _ K)
def F_M_stays_j103 (fl : Nat → Nat) (S : (Nat → Nat → Int32)) (x1 : Int32) : (Int32 × (Nat → Nat → Int32)) := (F_M_stays_j104 fl S x1 0)
def Sf_M_stays_j103 (fl : Nat → Nat) (S : (Nat → Nat → Int32)) (x1 : Int32) : Prop := (Sf_M_stays_j104 fl S x1 0)
theorem t_M_stays_j103 {X : z_X} {Post : Option z_V → z_W → Prop} (M : z_M X zm_M_stays rm_M_stays Post) {T' : Nat → Nat × Nat} {G' : Nat → Nat → Option Nat} {n : Nat} (fl : Nat → Nat) (hfl : zOK T' G' fl n) {Q : (Int32 × (Nat → Nat → Int32)) → Prop} (S : (Nat → Nat → Int32)) (x1 : Int32) (hQ : ∀ v S', Q (v, S') → Post (some (.inl v)) (zW T' G' S' n)) (K : Q (F_M_stays_j103 fl S x1)) (hs : Sf_M_stays_j103 fl S x1) : z_G X zm_M_stays (103, [(0, z_r 78), (1, .inl x1)], [], zW T' G' S n, 0, 0) := by
  unfold F_M_stays_j103 at K
  unfold Sf_M_stays_j103 at hs
  refine z_go2 M.1 103 [(.iconst 0, 1)] (104, [(0, z_r 78), (1, .inl x1)], [.inl 0], zW T' G' S n, 0, 0) (by decide +kernel) rfl ⟨trivial, trivial⟩ ?_
  exact z_lvs (lv' := [(0, z_r 78), (1, .inl x1)]) [0, 1] rfl (t_M_stays_j104 M fl hfl S x1 0 hQ K hs)
def F_M_stays_j84 (fl : Nat → Nat) (S : (Nat → Nat → Int32)) (x1 : Int32) (x4 : Int32) : (Int32 × (Nat → Nat → Int32)) := (if x4 = 0 then (F_M_stays_j103 fl S x1) else (if (800 : Int32) < (S 78 2) then (F_M_stays_j103 fl S x1) else (F_M_stays_j104 fl S x1 1)))
def Sf_M_stays_j84 (fl : Nat → Nat) (S : (Nat → Nat → Int32)) (x1 : Int32) (x4 : Int32) : Prop := (if x4 = 0 then (Sf_M_stays_j103 fl S x1) else (if (800 : Int32) < (S 78 2) then (Sf_M_stays_j103 fl S x1) else (Sf_M_stays_j104 fl S x1 1)))
theorem t_M_stays_j84 {X : z_X} {Post : Option z_V → z_W → Prop} (M : z_M X zm_M_stays rm_M_stays Post) {T' : Nat → Nat × Nat} {G' : Nat → Nat → Option Nat} {n : Nat} (fl : Nat → Nat) (hfl : zOK T' G' fl n) {Q : (Int32 × (Nat → Nat → Int32)) → Prop} (S : (Nat → Nat → Int32)) (x1 : Int32) (x4 : Int32) (hQ : ∀ v S', Q (v, S') → Post (some (.inl v)) (zW T' G' S' n)) (K : Q (F_M_stays_j84 fl S x1 x4)) (hs : Sf_M_stays_j84 fl S x1 x4) : z_G X zm_M_stays (84, [(0, z_r 78), (1, .inl x1), (4, .inl x4)], [], zW T' G' S n, 0, 0) := by
  unfold F_M_stays_j84 at K
  unfold Sf_M_stays_j84 at hs
  refine z_go2 M.1 84 [(.iload 4, 2)] (86, [(0, z_r 78), (1, .inl x1), (4, .inl x4)], [.inl x4], zW T' G' S n, 0, 0) (by decide +kernel) rfl ⟨trivial, trivial⟩ ?_
  refine z_if_eq 103 M.1 (off := 17) (by decide +kernel) (by decide) (fun c86 => ?_) (fun c86 => ?_)
  · rw [if_pos c86] at K hs
    exact z_lvs (lv' := [(0, z_r 78), (1, .inl x1)]) [0, 1] rfl (t_M_stays_j103 M fl hfl S x1 hQ K hs)
  · rw [if_neg c86] at K hs
    refine z_go2 M.1 89 [(.aload_n 0, 1), (.getfield 182, 3), (.sipush 800, 3)] (96, [(0, z_r 78), (1, .inl x1), (4, .inl x4)], [.inl 800, .inl (S 78 2)], zW T' G' S n, 0, 0) (by decide +kernel) rfl ⟨trivial, rfl, trivial, trivial⟩ ?_
    refine z_icmp_gt 103 M.1 (off := 7) (by decide +kernel) (by decide) (fun c96 => ?_) (fun c96 => ?_)
    · rw [if_pos c96] at K hs
      exact z_lvs (lv' := [(0, z_r 78), (1, .inl x1)]) [0, 1] rfl (t_M_stays_j103 M fl hfl S x1 hQ K hs)
    · rw [if_neg c96] at K hs
      refine z_go2 M.1 99 [(.iconst 1, 1), (.goto 4, 3)] (104, [(0, z_r 78), (1, .inl x1), (4, .inl x4)], [.inl 1], zW T' G' S n, 0, 0) (by decide +kernel) rfl ⟨trivial, trivial, trivial⟩ ?_
      exact z_lvs (lv' := [(0, z_r 78), (1, .inl x1)]) [0, 1] rfl (t_M_stays_j104 M fl hfl S x1 1 hQ K hs)
def F_M_stays_j82 (fl : Nat → Nat) (S : (Nat → Nat → Int32)) (x1 : Int32) (s0 : Int32) : (Int32 × (Nat → Nat → Int32)) := (F_M_stays_j84 fl S x1 s0)
def Sf_M_stays_j82 (fl : Nat → Nat) (S : (Nat → Nat → Int32)) (x1 : Int32) (s0 : Int32) : Prop := (Sf_M_stays_j84 fl S x1 s0)
theorem t_M_stays_j82 {X : z_X} {Post : Option z_V → z_W → Prop} (M : z_M X zm_M_stays rm_M_stays Post) {T' : Nat → Nat × Nat} {G' : Nat → Nat → Option Nat} {n : Nat} (fl : Nat → Nat) (hfl : zOK T' G' fl n) {Q : (Int32 × (Nat → Nat → Int32)) → Prop} (S : (Nat → Nat → Int32)) (x1 : Int32) (s0 : Int32) (hQ : ∀ v S', Q (v, S') → Post (some (.inl v)) (zW T' G' S' n)) (K : Q (F_M_stays_j82 fl S x1 s0)) (hs : Sf_M_stays_j82 fl S x1 s0) : z_G X zm_M_stays (82, [(0, z_r 78), (1, .inl x1)], [.inl s0], zW T' G' S n, 0, 0) := by
  unfold F_M_stays_j82 at K
  unfold Sf_M_stays_j82 at hs
  refine z_go2 M.1 82 [(.istore 4, 2)] (84, [(4, .inl s0), (0, z_r 78), (1, .inl x1)], [], zW T' G' S n, 0, 0) (by decide +kernel) rfl ⟨trivial, trivial⟩ ?_
  exact z_lvs (lv' := [(0, z_r 78), (1, .inl x1), (4, .inl s0)]) [1, 2, 0] rfl (t_M_stays_j84 M fl hfl S x1 s0 hQ K hs)
def F_M_stays_j81 (fl : Nat → Nat) (S : (Nat → Nat → Int32)) (x1 : Int32) : (Int32 × (Nat → Nat → Int32)) := (F_M_stays_j82 fl S x1 0)
def Sf_M_stays_j81 (fl : Nat → Nat) (S : (Nat → Nat → Int32)) (x1 : Int32) : Prop := (Sf_M_stays_j82 fl S x1 0)
theorem t_M_stays_j81 {X : z_X} {Post : Option z_V → z_W → Prop} (M : z_M X zm_M_stays rm_M_stays Post) {T' : Nat → Nat × Nat} {G' : Nat → Nat → Option Nat} {n : Nat} (fl : Nat → Nat) (hfl : zOK T' G' fl n) {Q : (Int32 × (Nat → Nat → Int32)) → Prop} (S : (Nat → Nat → Int32)) (x1 : Int32) (hQ : ∀ v S', Q (v, S') → Post (some (.inl v)) (zW T' G' S' n)) (K : Q (F_M_stays_j81 fl S x1)) (hs : Sf_M_stays_j81 fl S x1) : z_G X zm_M_stays (81, [(0, z_r 78), (1, .inl x1)], [], zW T' G' S n, 0, 0) := by
  unfold F_M_stays_j81 at K
  unfold Sf_M_stays_j81 at hs
  refine z_go2 M.1 81 [(.iconst 0, 1)] (82, [(0, z_r 78), (1, .inl x1)], [.inl 0], zW T' G' S n, 0, 0) (by decide +kernel) rfl ⟨trivial, trivial⟩ ?_
  exact z_lvs (lv' := [(0, z_r 78), (1, .inl x1)]) [0, 1] rfl (t_M_stays_j82 M fl hfl S x1 0 hQ K hs)
def F_M_stays (fl : Nat → Nat) (S : (Nat → Nat → Int32)) (p1 : Int32) (p2 : Int32) : (Int32 × (Nat → Nat → Int32)) := (if p2 = 0 then (F_M_stays_j84 fl S p1 1) else (if (800 : Int32) < (S 78 2) then (F_M_stays_j84 fl S p1 1) else (z_let (F_M_remake 110 S (S 78 2)) (fun S25 => (match F_M_isThrough 110 fl S25 p1 1 with | (r35, S35) => (if r35 = 0 then (F_M_stays_j81 fl (z_uS S35 78 2 (S 78 2)) p1) else (match F_M_isThrough 86 fl (z_uS S35 78 2 (S 78 2)) p1 0 with | (r57, S57) => (if r57 = 0 then (F_M_stays_j81 fl S57 p1) else (if (F_MW_isAs S57) = 0 then (F_M_stays_j81 fl S57 p1) else (F_M_stays_j82 fl S57 p1 1))))))))))
def Sf_M_stays (fl : Nat → Nat) (S : (Nat → Nat → Int32)) (p1 : Int32) (p2 : Int32) : Prop := (if p2 = 0 then (Sf_M_stays_j84 fl S p1 1) else (if (800 : Int32) < (S 78 2) then (Sf_M_stays_j84 fl S p1 1) else (Sf_M_remake 110 S (S 78 2) ∧ (z_let (F_M_remake 110 S (S 78 2)) (fun S25 => (Sf_M_isThrough 110 fl S25 p1 1 ∧ (match F_M_isThrough 110 fl S25 p1 1 with | (r35, S35) => (if r35 = 0 then (Sf_M_stays_j81 fl (z_uS S35 78 2 (S 78 2)) p1) else (Sf_M_isThrough 86 fl (z_uS S35 78 2 (S 78 2)) p1 0 ∧ (match F_M_isThrough 86 fl (z_uS S35 78 2 (S 78 2)) p1 0 with | (r57, S57) => (if r57 = 0 then (Sf_M_stays_j81 fl S57 p1) else (Sf_MW_isAs S57 ∧ (if (F_MW_isAs S57) = 0 then (Sf_M_stays_j81 fl S57 p1) else (Sf_M_stays_j82 fl S57 p1 1))))))))))))))
theorem c_M_stays (T' : Nat → Nat × Nat) (G' : Nat → Nat → Option Nat) (n : Nat) (fl : Nat → Nat) (hfl : zOK T' G' fl n) (S : (Nat → Nat → Int32)) (p1 : Int32) (p2 : Int32) (hs : Sf_M_stays fl S p1 p2) : z_Run rm_M_stays zm_M_stays [z_r 78, .inl p1, .inl p2] (zW T' G' S n) (zq (some (.inl (F_M_stays fl S p1 p2).1)) (zW T' G' (F_M_stays fl S p1 p2).2 n)) := by
  refine z_body (by decide) zf_M_ok (Nat.le_of_ble_eq_true rfl) (fun X M => ?_)
  obtain ⟨Q, hQ, K⟩ : ∃ Q : (Int32 × (Nat → Nat → Int32)) → Prop, (∀ v S', Q (v, S') → zq (some (.inl (F_M_stays fl S p1 p2).1)) (zW T' G' (F_M_stays fl S p1 p2).2 n) (some (.inl v)) (zW T' G' S' n)) ∧ Q (F_M_stays fl S p1 p2) := ⟨fun o => F_M_stays fl S p1 p2 = o, fun v S' h => ⟨by rw [h], by rw [h]⟩, rfl⟩
  show z_G X zm_M_stays (0, [(0, z_r 78), (1, .inl p1), (2, .inl p2)], [], zW T' G' S n, 0, 0)
  unfold F_M_stays at K
  unfold Sf_M_stays at hs
  refine z_go2 M.1 0 [(.aload_n 0, 1), (.getfield 182, 3), (.istore_n 3, 1), (.iconst 1, 1), (.istore 4, 2), (.iload_n 2, 1)] (9, [(4, .inl 1), (3, .inl (S 78 2)), (0, z_r 78), (1, .inl p1), (2, .inl p2)], [.inl p2], zW T' G' S n, 0, 0) (by decide +kernel) rfl ⟨trivial, rfl, trivial, trivial, trivial, trivial, trivial⟩ ?_
  refine z_if_eq 84 M.1 (off := 75) (by decide +kernel) (by decide) (fun c9 => ?_) (fun c9 => ?_)
  · rw [if_pos c9] at K hs
    exact z_lvs (lv' := [(0, z_r 78), (1, .inl p1), (4, .inl 1)]) [2, 3, 0] rfl (t_M_stays_j84 M fl hfl S p1 1 hQ K hs)
  · rw [if_neg c9] at K hs
    refine z_go2 M.1 12 [(.iload_n 3, 1), (.sipush 800, 3)] (16, [(4, .inl 1), (3, .inl (S 78 2)), (0, z_r 78), (1, .inl p1), (2, .inl p2)], [.inl 800, .inl (S 78 2)], zW T' G' S n, 0, 0) (by decide +kernel) rfl ⟨trivial, trivial, trivial⟩ ?_
    refine z_icmp_gt 84 M.1 (off := 68) (by decide +kernel) (by decide) (fun c16 => ?_) (fun c16 => ?_)
    · rw [if_pos c16] at K hs
      exact z_lvs (lv' := [(0, z_r 78), (1, .inl p1), (4, .inl 1)]) [2, 3, 0] rfl (t_M_stays_j84 M fl hfl S p1 1 hQ K hs)
    · rw [if_neg c16] at K hs
      refine z_go2 M.1 19 [(.aload_n 0, 1), (.aload_n 0, 1), (.getfield 41, 3), (.iload_n 3, 1)] (25, [(4, .inl 1), (3, .inl (S 78 2)), (0, z_r 78), (1, .inl p1), (2, .inl p2)], [.inl (S 78 2), z_r 110, z_r 78], zW T' G' S n, 0, 0) (by decide +kernel) rfl ⟨trivial, trivial, rfl, trivial, trivial⟩ ?_
      refine z_callV M.1 (av := [z_r 110, .inl (S 78 2)]) (st := []) (a := 78) (ci := 14) (by decide +kernel) (c_M_remake_110 T' G' S n (S 78 2) hs.1) M.2.1 zl_M_280 zv_M_remake rfl rfl rfl ⟨by decide, by decide, by decide, by decide⟩ rfl (Nat.le_of_ble_eq_true rfl) (fun v w' hv => ?_)
      replace hs := hs.2
      obtain ⟨S25, hF25⟩ : ∃ y, F_M_remake 110 S (S 78 2) = y := ⟨_, rfl⟩
      rw [hF25] at K hv
      try rw [hF25] at hs
      try dsimp only [z_let] at K hs
      obtain ⟨rfl, rfl⟩ := hv
      show z_G X zm_M_stays (28, [(4, .inl 1), (3, .inl (S 78 2)), (0, z_r 78), (1, .inl p1), (2, .inl p2)], [], zW T' G' S25 n, 0, 0)
      refine z_go2 M.1 28 [(.aload_n 0, 1), (.aload_n 0, 1), (.getfield 41, 3), (.iload_n 1, 1), (.iconst 1, 1)] (35, [(4, .inl 1), (3, .inl (S 78 2)), (0, z_r 78), (1, .inl p1), (2, .inl p2)], [.inl 1, .inl p1, z_r 110, z_r 78], zW T' G' S25 n, 0, 0) (by decide +kernel) rfl ⟨trivial, trivial, rfl, trivial, trivial, trivial⟩ ?_
      refine z_callV M.1 (av := [z_r 110, .inl p1, .inl 1]) (st := []) (a := 78) (ci := 14) (by decide +kernel) (c_M_isThrough_110 T' G' n fl hfl S25 p1 1 hs.1) M.2.1 zl_M_283 zv_M_isThrough rfl rfl rfl ⟨by decide, by decide, by decide, by decide⟩ rfl (Nat.le_of_ble_eq_true rfl) (fun v w' hv => ?_)
      replace hs := hs.2
      rcases hF35 : F_M_isThrough 110 fl S25 p1 1 with ⟨r35, S35⟩
      rw [hF35] at K hv
      try rw [hF35] at hs
      try dsimp only at K hs
      obtain ⟨rfl, rfl⟩ := hv
      show z_G X zm_M_stays (38, [(4, .inl 1), (3, .inl (S 78 2)), (0, z_r 78), (1, .inl p1), (2, .inl p2)], [.inl r35], zW T' G' S35 n, 0, 0)
      refine z_go2 M.1 38 [(.istore 4, 2), (.aload_n 0, 1), (.iload_n 3, 1), (.putfield 182, 3), (.iload 4, 2)] (47, [(4, .inl r35), (3, .inl (S 78 2)), (0, z_r 78), (1, .inl p1), (2, .inl p2)], [.inl r35], zW T' G' (z_uS S35 78 2 (S 78 2)) n, 0, 0) (by decide +kernel) rfl ⟨trivial, trivial, trivial, ⟨rfl, trivial⟩, trivial, trivial⟩ ?_
      refine z_if_eq 81 M.1 (off := 34) (by decide +kernel) (by decide) (fun c47 => ?_) (fun c47 => ?_)
      · rw [if_pos c47] at K hs
        exact z_lvs (lv' := [(0, z_r 78), (1, .inl p1)]) [2, 3] rfl (t_M_stays_j81 M fl hfl (z_uS S35 78 2 (S 78 2)) p1 hQ K hs)
      · rw [if_neg c47] at K hs
        refine z_go2 M.1 50 [(.aload_n 0, 1), (.aload_n 0, 1), (.getfield 34, 3), (.iload_n 1, 1), (.iconst 0, 1)] (57, [(4, .inl r35), (3, .inl (S 78 2)), (0, z_r 78), (1, .inl p1), (2, .inl p2)], [.inl 0, .inl p1, z_r 86, z_r 78], zW T' G' (z_uS S35 78 2 (S 78 2)) n, 0, 0) (by decide +kernel) rfl ⟨trivial, trivial, rfl, trivial, trivial, trivial⟩ ?_
        refine z_callV M.1 (av := [z_r 86, .inl p1, .inl 0]) (st := []) (a := 78) (ci := 14) (by decide +kernel) (c_M_isThrough_86 T' G' n fl hfl (z_uS S35 78 2 (S 78 2)) p1 0 hs.1) M.2.1 zl_M_283 zv_M_isThrough rfl rfl rfl ⟨by decide, by decide, by decide, by decide⟩ rfl (Nat.le_of_ble_eq_true rfl) (fun v w' hv => ?_)
        replace hs := hs.2
        rcases hF57 : F_M_isThrough 86 fl (z_uS S35 78 2 (S 78 2)) p1 0 with ⟨r57, S57⟩
        rw [hF57] at K hv
        try rw [hF57] at hs
        try dsimp only at K hs
        obtain ⟨rfl, rfl⟩ := hv
        show z_G X zm_M_stays (60, [(4, .inl r35), (3, .inl (S 78 2)), (0, z_r 78), (1, .inl p1), (2, .inl p2)], [.inl r57], zW T' G' S57 n, 0, 0)
        refine z_if_eq 81 M.1 (off := 21) (by decide +kernel) (by decide) (fun c60 => ?_) (fun c60 => ?_)
        · rw [if_pos c60] at K hs
          exact z_lvs (lv' := [(0, z_r 78), (1, .inl p1)]) [2, 3] rfl (t_M_stays_j81 M fl hfl S57 p1 hQ K hs)
        · rw [if_neg c60] at K hs
          refine z_go2 M.1 63 [(.aload_n 0, 1), (.getfield 34, 3), (.aload_n 0, 1), (.getfield 41, 3)] (71, [(4, .inl r35), (3, .inl (S 78 2)), (0, z_r 78), (1, .inl p1), (2, .inl p2)], [z_r 110, z_r 86], zW T' G' S57 n, 0, 0) (by decide +kernel) rfl ⟨trivial, rfl, trivial, rfl, trivial⟩ ?_
          refine z_callV M.1 (av := [z_r 110]) (st := []) (a := 86) (ci := 13) (by decide +kernel) (c_MW_isAs T' G' S57 n hs.1) M.2.1 zl_M_287 zv_MW_isAs rfl rfl rfl ⟨by decide, by decide, by decide, by decide⟩ rfl (Nat.le_of_ble_eq_true rfl) (fun v w' hv => ?_)
          obtain ⟨rfl, rfl⟩ := hv
          replace hs := hs.2
          show z_G X zm_M_stays (74, [(4, .inl r35), (3, .inl (S 78 2)), (0, z_r 78), (1, .inl p1), (2, .inl p2)], [.inl (F_MW_isAs S57)], zW T' G' S57 n, 0, 0)
          refine z_if_eq 81 M.1 (off := 7) (by decide +kernel) (by decide) (fun c74 => ?_) (fun c74 => ?_)
          · rw [if_pos c74] at K hs
            exact z_lvs (lv' := [(0, z_r 78), (1, .inl p1)]) [2, 3] rfl (t_M_stays_j81 M fl hfl S57 p1 hQ K hs)
          · rw [if_neg c74] at K hs
            refine z_go2 M.1 77 [(.iconst 1, 1), (.goto 4, 3)] (82, [(4, .inl r35), (3, .inl (S 78 2)), (0, z_r 78), (1, .inl p1), (2, .inl p2)], [.inl 1], zW T' G' S57 n, 0, 0) (by decide +kernel) rfl ⟨trivial, trivial, trivial⟩ ?_
            exact z_lvs (lv' := [(0, z_r 78), (1, .inl p1)]) [2, 3] rfl (t_M_stays_j82 M fl hfl S57 p1 1 hQ K hs)

-- TrackHouseModel.isSeen
abbrev rm_M_isSeen : Room := zr 2
def F_M_isSeen_j41 (S : (Nat → Nat → Int32)) : Int32 := 0
theorem t_M_isSeen_j41 {X : z_X} {Post : Option z_V → z_W → Prop} (M : z_M X zm_M_isSeen rm_M_isSeen Post) {T' : Nat → Nat × Nat} {G' : Nat → Nat → Option Nat} {n : Nat} {Q : Int32 → Prop} (S : (Nat → Nat → Int32)) (hQ : ∀ v, Q v → Post (some (.inl v)) (zW T' G' S n)) (K : Q (F_M_isSeen_j41 S)) : z_G X zm_M_isSeen (41, [], [], zW T' G' S n, 0, 0) := by
  unfold F_M_isSeen_j41 at K
  refine z_go2 M.1 41 [(.iconst 0, 1)] (42, [], [.inl 0], zW T' G' S n, 0, 0) (by decide +kernel) rfl ⟨trivial, trivial⟩ ?_
  exact z_iret M (by decide +kernel) .boolean rfl rfl (by decide) (by decide) (hQ _ K)
def F_M_isSeen (S : (Nat → Nat → Int32)) (p1 : Int32) (p2 : Int32) : Int32 := (if (F_M_isPerson S p1) = 0 then (F_M_isSeen_j41 S) else (if (F_M_isIn S p2 0 ((S 86 0) - 1)) = 0 then (F_M_isSeen_j41 S) else (if (F_M_sees 86 S p1 p2) = 0 then (F_M_isSeen_j41 S) else 1)))
def Sf_M_isSeen (S : (Nat → Nat → Int32)) (p1 : Int32) (p2 : Int32) : Prop := (Sf_M_isPerson S p1 ∧ (if (F_M_isPerson S p1) = 0 then True else (if (F_M_isIn S p2 0 ((S 86 0) - 1)) = 0 then True else (Sf_M_sees 86 S p1 p2 ∧ True))))
theorem c_M_isSeen (T' : Nat → Nat × Nat) (G' : Nat → Nat → Option Nat) (S : (Nat → Nat → Int32)) (n : Nat) (p1 : Int32) (p2 : Int32) (hs : Sf_M_isSeen S p1 p2) : z_Run rm_M_isSeen zm_M_isSeen [z_r 78, .inl p1, .inl p2] (zW T' G' S n) (zq (some (.inl (F_M_isSeen S p1 p2))) (zW T' G' S n)) := by
  refine z_body (by decide) zf_M_ok (Nat.le_of_ble_eq_true rfl) (fun X M => ?_)
  obtain ⟨Q, hQ, K⟩ : ∃ Q : Int32 → Prop, (∀ v, Q v → zq (some (.inl (F_M_isSeen S p1 p2))) (zW T' G' S n) (some (.inl v)) (zW T' G' S n)) ∧ Q (F_M_isSeen S p1 p2) := ⟨fun o => F_M_isSeen S p1 p2 = o, fun v h => ⟨by rw [h], rfl⟩, rfl⟩
  show z_G X zm_M_isSeen (0, [(0, z_r 78), (1, .inl p1), (2, .inl p2)], [], zW T' G' S n, 0, 0)
  unfold F_M_isSeen at K
  unfold Sf_M_isSeen at hs
  refine z_go2 M.1 0 [(.iload_n 1, 1)] (1, [(0, z_r 78), (1, .inl p1), (2, .inl p2)], [.inl p1], zW T' G' S n, 0, 0) (by decide +kernel) rfl ⟨trivial, trivial⟩ ?_
  refine z_callS M.1 (av := [.inl p1]) (st := []) (by decide +kernel) (c_M_isPerson T' G' S n p1 hs.1) M.2.1 zl_M_295 zs_M_isPerson ⟨by decide, by decide, by decide, by decide⟩ rfl (Nat.le_of_ble_eq_true rfl) (fun v w' hv => ?_)
  obtain ⟨rfl, rfl⟩ := hv
  replace hs := hs.2
  show z_G X zm_M_isSeen (4, [(0, z_r 78), (1, .inl p1), (2, .inl p2)], [.inl (F_M_isPerson S p1)], zW T' G' S n, 0, 0)
  refine z_if_eq 41 M.1 (off := 37) (by decide +kernel) (by decide) (fun c4 => ?_) (fun c4 => ?_)
  · rw [if_pos c4] at K hs
    exact z_lvs (lv' := []) [] rfl (t_M_isSeen_j41 M S hQ K)
  · rw [if_neg c4] at K hs
    refine z_go2 M.1 7 [(.iload_n 2, 1), (.iconst 0, 1), (.aload_n 0, 1), (.getfield 34, 3), (.getfield 330, 3), (.iconst 1, 1), (.isub, 1)] (18, [(0, z_r 78), (1, .inl p1), (2, .inl p2)], [.inl ((S 86 0) - 1), .inl 0, .inl p2], zW T' G' S n, 0, 0) (by decide +kernel) rfl ⟨trivial, trivial, trivial, rfl, rfl, trivial, trivial, trivial⟩ ?_
    refine z_callS M.1 (av := [.inl p2, .inl 0, .inl ((S 86 0) - 1)]) (st := []) (by decide +kernel) (c_M_isIn T' G' S n p2 0 ((S 86 0) - 1)) M.2.1 zl_M_178 zs_M_isIn ⟨by decide, by decide, by decide, by decide⟩ rfl (Nat.le_of_ble_eq_true rfl) (fun v w' hv => ?_)
    obtain ⟨rfl, rfl⟩ := hv
    show z_G X zm_M_isSeen (21, [(0, z_r 78), (1, .inl p1), (2, .inl p2)], [.inl (F_M_isIn S p2 0 ((S 86 0) - 1))], zW T' G' S n, 0, 0)
    refine z_if_eq 41 M.1 (off := 20) (by decide +kernel) (by decide) (fun c21 => ?_) (fun c21 => ?_)
    · rw [if_pos c21] at K hs
      exact z_lvs (lv' := []) [] rfl (t_M_isSeen_j41 M S hQ K)
    · rw [if_neg c21] at K hs
      refine z_go2 M.1 24 [(.aload_n 0, 1), (.aload_n 0, 1), (.getfield 34, 3), (.iload_n 1, 1), (.iload_n 2, 1)] (31, [(0, z_r 78), (1, .inl p1), (2, .inl p2)], [.inl p2, .inl p1, z_r 86, z_r 78], zW T' G' S n, 0, 0) (by decide +kernel) rfl ⟨trivial, trivial, rfl, trivial, trivial, trivial⟩ ?_
      refine z_callV M.1 (av := [z_r 86, .inl p1, .inl p2]) (st := []) (a := 78) (ci := 14) (by decide +kernel) (c_M_sees_86 T' G' S n p1 p2 hs.1) M.2.1 zl_M_233 zv_M_sees rfl rfl rfl ⟨by decide, by decide, by decide, by decide⟩ rfl (Nat.le_of_ble_eq_true rfl) (fun v w' hv => ?_)
      obtain ⟨rfl, rfl⟩ := hv
      replace hs := hs.2
      show z_G X zm_M_isSeen (34, [(0, z_r 78), (1, .inl p1), (2, .inl p2)], [.inl (F_M_sees 86 S p1 p2)], zW T' G' S n, 0, 0)
      refine z_if_eq 41 M.1 (off := 7) (by decide +kernel) (by decide) (fun c34 => ?_) (fun c34 => ?_)
      · rw [if_pos c34] at K
        exact z_lvs (lv' := []) [] rfl (t_M_isSeen_j41 M S hQ K)
      · rw [if_neg c34] at K
        refine z_go2 M.1 37 [(.iconst 1, 1), (.goto 4, 3)] (42, [(0, z_r 78), (1, .inl p1), (2, .inl p2)], [.inl 1], zW T' G' S n, 0, 0) (by decide +kernel) rfl ⟨trivial, trivial, trivial⟩ ?_
        exact z_iret M (by decide +kernel) .boolean rfl rfl (by decide) (by decide) (hQ _ K)

