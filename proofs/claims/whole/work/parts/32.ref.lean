-- TrackHouseModel.isItem
abbrev rm_M_isItem : Room := zr 1
def F_M_isItem (S : (Nat → Nat → Int32)) (p1 : Int32) : Int32 := (F_M_isIn S p1 0 ((S 86 0) - 1))
def Sf_M_isItem (S : (Nat → Nat → Int32)) (p1 : Int32) : Prop := (narrow .boolean (.int (F_M_isIn S p1 0 ((S 86 0) - 1))) = .int (F_M_isIn S p1 0 ((S 86 0) - 1)) ∧ True)
theorem c_M_isItem (T' : Nat → Nat × Nat) (G' : Nat → Nat → Option Nat) (S : (Nat → Nat → Int32)) (n : Nat) (p1 : Int32) (hs : Sf_M_isItem S p1) : z_Run rm_M_isItem zm_M_isItem [z_r 78, .inl p1] (zW T' G' S n) (zq (some (.inl (F_M_isItem S p1))) (zW T' G' S n)) := by
  refine z_body (by decide) zf_M_ok (Nat.le_of_ble_eq_true rfl) (fun X M => ?_)
  obtain ⟨Q, hQ, K⟩ : ∃ Q : Int32 → Prop, (∀ v, Q v → zq (some (.inl (F_M_isItem S p1))) (zW T' G' S n) (some (.inl v)) (zW T' G' S n)) ∧ Q (F_M_isItem S p1) := ⟨fun o => F_M_isItem S p1 = o, fun v h => ⟨by rw [h], rfl⟩, rfl⟩
  show z_G X zm_M_isItem (0, [(0, z_r 78), (1, .inl p1)], [], zW T' G' S n, 0, 0)
  unfold F_M_isItem at K
  unfold Sf_M_isItem at hs
  refine z_go2 M.1 0 [(.iload_n 1, 1), (.iconst 0, 1), (.aload_n 0, 1), (.getfield 34, 3), (.getfield 330, 3), (.iconst 1, 1), (.isub, 1)] (11, [(0, z_r 78), (1, .inl p1)], [.inl ((S 86 0) - 1), .inl 0, .inl p1], zW T' G' S n, 0, 0) (by decide +kernel) rfl ⟨trivial, trivial, trivial, rfl, rfl, trivial, trivial, trivial⟩ ?_
  refine z_callS M.1 (av := [.inl p1, .inl 0, .inl ((S 86 0) - 1)]) (st := []) (by decide +kernel) (c_M_isIn T' G' S n p1 0 ((S 86 0) - 1)) M.2.1 zl_M_178 zs_M_isIn ⟨by decide, by decide, by decide, by decide⟩ rfl (Nat.le_of_ble_eq_true rfl) (fun v w' hv => ?_)
  obtain ⟨rfl, rfl⟩ := hv
  show z_G X zm_M_isItem (14, [(0, z_r 78), (1, .inl p1)], [.inl (F_M_isIn S p1 0 ((S 86 0) - 1))], zW T' G' S n, 0, 0)
  exact z_iret M (by decide +kernel) .boolean rfl hs.1 (by decide) (by decide) (hQ _ K)

-- TrackHouseModel.stateAt
abbrev rm_M_stateAt : Room := zr 1
def F_M_stateAt_l5_88 (rc : Int32 → Int32 → (Int32)) (S : (Nat → Nat → Int32)) (x1 : Int32) (x2 : Int32) (x3 : Int32) (x4 : Int32) : (Int32) := (rc x3 (x4 + 1))
def Sf_M_stateAt_l5_88 (rc : Int32 → Int32 → (Int32)) (sr : Int32 → Int32 → Prop) (S : (Nat → Nat → Int32)) (x1 : Int32) (x2 : Int32) (x3 : Int32) (x4 : Int32) : Prop := (sr x3 (x4 + 1))
theorem t_M_stateAt_l5_88 {X : z_X} {Post : Option z_V → z_W → Prop} (M : z_M X zm_M_stateAt rm_M_stateAt Post) {T' : Nat → Nat × Nat} {G' : Nat → Nat → Option Nat} {n : Nat} {Q : (Int32) → Prop} (rc : Int32 → Int32 → (Int32)) (sr : Int32 → Int32 → Prop) (S : (Nat → Nat → Int32)) (x1 : Int32) (x2 : Int32) (x3 : Int32) (x4 : Int32) (hE : ∀ (y3 : Int32), Q y3 → z_G X zm_M_stateAt (96, [(3, .inl y3)], [], zW T' G' S n, 0, 0)) (hC : ∀ (x3 : Int32) (x4 : Int32), Q (rc x3 x4) → sr x3 x4 → z_G X zm_M_stateAt (5, [(0, z_r 78), (1, .inl x1), (2, .inl x2), (3, .inl x3), (4, .inl x4)], [], zW T' G' S n, 0, 0)) (K : Q (F_M_stateAt_l5_88 rc S x1 x2 x3 x4)) (hs : Sf_M_stateAt_l5_88 rc sr S x1 x2 x3 x4) : z_G X zm_M_stateAt (88, [(0, z_r 78), (1, .inl x1), (2, .inl x2), (3, .inl x3), (4, .inl x4)], [], zW T' G' S n, 0, 0) := by
  unfold F_M_stateAt_l5_88 at K
  unfold Sf_M_stateAt_l5_88 at hs
  refine z_go2 M.1 88 [(.iload_n 3, 1), (.istore_n 3, 1), (.iinc 4 1, 3), (.goto (-88), 3)] (5, [(4, .inl (x4 + 1)), (3, .inl x3), (0, z_r 78), (1, .inl x1), (2, .inl x2)], [], zW T' G' S n, 0, 0) (by decide +kernel) rfl ⟨trivial, trivial, trivial, trivial, trivial⟩ ?_
  exact z_lvs (lv' := [(0, z_r 78), (1, .inl x1), (2, .inl x2), (3, .inl x3), (4, .inl (x4 + 1))]) [2, 3, 4, 1, 0] rfl (hC x3 (x4 + 1) K hs)
def F_M_stateAt_l5_62 (rc : Int32 → Int32 → (Int32)) (S : (Nat → Nat → Int32)) (x1 : Int32) (x2 : Int32) (x3 : Int32) (x4 : Int32) (x5 : Int32) : (Int32) := (if x5 = 0 then (F_M_stateAt_l5_88 rc S x1 x2 x3 x4) else (if (S 79 (x4).toNatClampNeg) = 2 then (rc (S 85 (x4).toNatClampNeg) (x4 + 1)) else (F_M_stateAt_l5_88 rc S x1 x2 x3 x4)))
def Sf_M_stateAt_l5_62 (rc : Int32 → Int32 → (Int32)) (sr : Int32 → Int32 → Prop) (S : (Nat → Nat → Int32)) (x1 : Int32) (x2 : Int32) (x3 : Int32) (x4 : Int32) (x5 : Int32) : Prop := (if x5 = 0 then (Sf_M_stateAt_l5_88 rc sr S x1 x2 x3 x4) else ((vp_in x4 1200) ∧ (if (S 79 (x4).toNatClampNeg) = 2 then ((vp_in x4 1200) ∧ (sr (S 85 (x4).toNatClampNeg) (x4 + 1))) else (Sf_M_stateAt_l5_88 rc sr S x1 x2 x3 x4))))
theorem t_M_stateAt_l5_62 {X : z_X} {Post : Option z_V → z_W → Prop} (M : z_M X zm_M_stateAt rm_M_stateAt Post) {T' : Nat → Nat × Nat} {G' : Nat → Nat → Option Nat} {n : Nat} {Q : (Int32) → Prop} (rc : Int32 → Int32 → (Int32)) (sr : Int32 → Int32 → Prop) (S : (Nat → Nat → Int32)) (x1 : Int32) (x2 : Int32) (x3 : Int32) (x4 : Int32) (x5 : Int32) (hE : ∀ (y3 : Int32), Q y3 → z_G X zm_M_stateAt (96, [(3, .inl y3)], [], zW T' G' S n, 0, 0)) (hC : ∀ (x3 : Int32) (x4 : Int32), Q (rc x3 x4) → sr x3 x4 → z_G X zm_M_stateAt (5, [(0, z_r 78), (1, .inl x1), (2, .inl x2), (3, .inl x3), (4, .inl x4)], [], zW T' G' S n, 0, 0)) (K : Q (F_M_stateAt_l5_62 rc S x1 x2 x3 x4 x5)) (hs : Sf_M_stateAt_l5_62 rc sr S x1 x2 x3 x4 x5) : z_G X zm_M_stateAt (62, [(0, z_r 78), (1, .inl x1), (2, .inl x2), (3, .inl x3), (4, .inl x4), (5, .inl x5)], [], zW T' G' S n, 0, 0) := by
  unfold F_M_stateAt_l5_62 at K
  unfold Sf_M_stateAt_l5_62 at hs
  refine z_go2 M.1 62 [(.iload 5, 2)] (64, [(0, z_r 78), (1, .inl x1), (2, .inl x2), (3, .inl x3), (4, .inl x4), (5, .inl x5)], [.inl x5], zW T' G' S n, 0, 0) (by decide +kernel) rfl ⟨trivial, trivial⟩ ?_
  refine z_if_eq 88 M.1 (off := 24) (by decide +kernel) (by decide) (fun c64 => ?_) (fun c64 => ?_)
  · rw [if_pos c64] at K hs
    exact z_lvs (lv' := [(0, z_r 78), (1, .inl x1), (2, .inl x2), (3, .inl x3), (4, .inl x4)]) [0, 1, 2, 3, 4] rfl (t_M_stateAt_l5_88 M rc sr S x1 x2 x3 x4 hE hC K hs)
  · rw [if_neg c64] at K hs
    refine z_go2 M.1 67 [(.aload_n 0, 1), (.getfield 7, 3), (.iload 4, 2), (.iaload, 1), (.iconst 2, 1)] (75, [(0, z_r 78), (1, .inl x1), (2, .inl x2), (3, .inl x3), (4, .inl x4), (5, .inl x5)], [.inl 2, .inl (S 79 (x4).toNatClampNeg)], zW T' G' S n, 0, 0) (by decide +kernel) rfl ⟨trivial, rfl, trivial, ⟨rfl, hs.1⟩, trivial, trivial⟩ ?_
    replace hs := hs.2
    refine z_icmp_ne 88 M.1 (off := 13) (by decide +kernel) (by decide) (fun c75 => ?_) (fun c75 => ?_)
    · rw [if_neg c75] at K hs
      exact z_lvs (lv' := [(0, z_r 78), (1, .inl x1), (2, .inl x2), (3, .inl x3), (4, .inl x4)]) [0, 1, 2, 3, 4] rfl (t_M_stateAt_l5_88 M rc sr S x1 x2 x3 x4 hE hC K hs)
    · rw [if_pos c75] at K hs
      refine z_go2 M.1 78 [(.aload_n 0, 1), (.getfield 28, 3), (.iload 4, 2), (.iaload, 1), (.goto 4, 3), (.istore_n 3, 1), (.iinc 4 1, 3), (.goto (-88), 3)] (5, [(4, .inl (x4 + 1)), (3, .inl (S 85 (x4).toNatClampNeg)), (0, z_r 78), (1, .inl x1), (2, .inl x2), (5, .inl x5)], [], zW T' G' S n, 0, 0) (by decide +kernel) rfl ⟨trivial, rfl, trivial, ⟨rfl, hs.1⟩, trivial, trivial, trivial, trivial, trivial⟩ ?_
      replace hs := hs.2
      exact z_lvs (lv' := [(0, z_r 78), (1, .inl x1), (2, .inl x2), (3, .inl (S 85 (x4).toNatClampNeg)), (4, .inl (x4 + 1))]) [2, 3, 4, 1, 0] rfl (hC (S 85 (x4).toNatClampNeg) (x4 + 1) K hs)
def F_M_stateAt_l5_40 (rc : Int32 → Int32 → (Int32)) (S : (Nat → Nat → Int32)) (x1 : Int32) (x2 : Int32) (x3 : Int32) (x4 : Int32) (s0 : Int32) : (Int32) := (if s0 = 0 then (F_M_stateAt_l5_62 rc S x1 x2 x3 x4 s0) else (if (S 79 (x4).toNatClampNeg) = 1 then (rc 0 (x4 + 1)) else (F_M_stateAt_l5_62 rc S x1 x2 x3 x4 s0)))
def Sf_M_stateAt_l5_40 (rc : Int32 → Int32 → (Int32)) (sr : Int32 → Int32 → Prop) (S : (Nat → Nat → Int32)) (x1 : Int32) (x2 : Int32) (x3 : Int32) (x4 : Int32) (s0 : Int32) : Prop := (if s0 = 0 then (Sf_M_stateAt_l5_62 rc sr S x1 x2 x3 x4 s0) else ((vp_in x4 1200) ∧ (if (S 79 (x4).toNatClampNeg) = 1 then (sr 0 (x4 + 1)) else (Sf_M_stateAt_l5_62 rc sr S x1 x2 x3 x4 s0))))
theorem t_M_stateAt_l5_40 {X : z_X} {Post : Option z_V → z_W → Prop} (M : z_M X zm_M_stateAt rm_M_stateAt Post) {T' : Nat → Nat × Nat} {G' : Nat → Nat → Option Nat} {n : Nat} {Q : (Int32) → Prop} (rc : Int32 → Int32 → (Int32)) (sr : Int32 → Int32 → Prop) (S : (Nat → Nat → Int32)) (x1 : Int32) (x2 : Int32) (x3 : Int32) (x4 : Int32) (s0 : Int32) (hE : ∀ (y3 : Int32), Q y3 → z_G X zm_M_stateAt (96, [(3, .inl y3)], [], zW T' G' S n, 0, 0)) (hC : ∀ (x3 : Int32) (x4 : Int32), Q (rc x3 x4) → sr x3 x4 → z_G X zm_M_stateAt (5, [(0, z_r 78), (1, .inl x1), (2, .inl x2), (3, .inl x3), (4, .inl x4)], [], zW T' G' S n, 0, 0)) (K : Q (F_M_stateAt_l5_40 rc S x1 x2 x3 x4 s0)) (hs : Sf_M_stateAt_l5_40 rc sr S x1 x2 x3 x4 s0) : z_G X zm_M_stateAt (40, [(0, z_r 78), (1, .inl x1), (2, .inl x2), (3, .inl x3), (4, .inl x4)], [.inl s0], zW T' G' S n, 0, 0) := by
  unfold F_M_stateAt_l5_40 at K
  unfold Sf_M_stateAt_l5_40 at hs
  refine z_go2 M.1 40 [(.istore 5, 2), (.iload 5, 2)] (44, [(5, .inl s0), (0, z_r 78), (1, .inl x1), (2, .inl x2), (3, .inl x3), (4, .inl x4)], [.inl s0], zW T' G' S n, 0, 0) (by decide +kernel) rfl ⟨trivial, trivial, trivial⟩ ?_
  refine z_if_eq 62 M.1 (off := 18) (by decide +kernel) (by decide) (fun c44 => ?_) (fun c44 => ?_)
  · rw [if_pos c44] at K hs
    exact z_lvs (lv' := [(0, z_r 78), (1, .inl x1), (2, .inl x2), (3, .inl x3), (4, .inl x4), (5, .inl s0)]) [1, 2, 3, 4, 5, 0] rfl (t_M_stateAt_l5_62 M rc sr S x1 x2 x3 x4 s0 hE hC K hs)
  · rw [if_neg c44] at K hs
    refine z_go2 M.1 47 [(.aload_n 0, 1), (.getfield 7, 3), (.iload 4, 2), (.iaload, 1), (.iconst 1, 1)] (55, [(5, .inl s0), (0, z_r 78), (1, .inl x1), (2, .inl x2), (3, .inl x3), (4, .inl x4)], [.inl 1, .inl (S 79 (x4).toNatClampNeg)], zW T' G' S n, 0, 0) (by decide +kernel) rfl ⟨trivial, rfl, trivial, ⟨rfl, hs.1⟩, trivial, trivial⟩ ?_
    replace hs := hs.2
    refine z_icmp_ne 62 M.1 (off := 7) (by decide +kernel) (by decide) (fun c55 => ?_) (fun c55 => ?_)
    · rw [if_neg c55] at K hs
      exact z_lvs (lv' := [(0, z_r 78), (1, .inl x1), (2, .inl x2), (3, .inl x3), (4, .inl x4), (5, .inl s0)]) [1, 2, 3, 4, 5, 0] rfl (t_M_stateAt_l5_62 M rc sr S x1 x2 x3 x4 s0 hE hC K hs)
    · rw [if_pos c55] at K hs
      refine z_go2 M.1 58 [(.iconst 0, 1), (.goto 30, 3), (.istore_n 3, 1), (.iinc 4 1, 3), (.goto (-88), 3)] (5, [(4, .inl (x4 + 1)), (3, .inl 0), (5, .inl s0), (0, z_r 78), (1, .inl x1), (2, .inl x2)], [], zW T' G' S n, 0, 0) (by decide +kernel) rfl ⟨trivial, trivial, trivial, trivial, trivial, trivial⟩ ?_
      exact z_lvs (lv' := [(0, z_r 78), (1, .inl x1), (2, .inl x2), (3, .inl 0), (4, .inl (x4 + 1))]) [3, 4, 5, 1, 0] rfl (hC 0 (x4 + 1) K hs)
def F_M_stateAt_l5_39 (rc : Int32 → Int32 → (Int32)) (S : (Nat → Nat → Int32)) (x1 : Int32) (x2 : Int32) (x3 : Int32) (x4 : Int32) : (Int32) := (F_M_stateAt_l5_40 rc S x1 x2 x3 x4 0)
def Sf_M_stateAt_l5_39 (rc : Int32 → Int32 → (Int32)) (sr : Int32 → Int32 → Prop) (S : (Nat → Nat → Int32)) (x1 : Int32) (x2 : Int32) (x3 : Int32) (x4 : Int32) : Prop := (Sf_M_stateAt_l5_40 rc sr S x1 x2 x3 x4 0)
theorem t_M_stateAt_l5_39 {X : z_X} {Post : Option z_V → z_W → Prop} (M : z_M X zm_M_stateAt rm_M_stateAt Post) {T' : Nat → Nat × Nat} {G' : Nat → Nat → Option Nat} {n : Nat} {Q : (Int32) → Prop} (rc : Int32 → Int32 → (Int32)) (sr : Int32 → Int32 → Prop) (S : (Nat → Nat → Int32)) (x1 : Int32) (x2 : Int32) (x3 : Int32) (x4 : Int32) (hE : ∀ (y3 : Int32), Q y3 → z_G X zm_M_stateAt (96, [(3, .inl y3)], [], zW T' G' S n, 0, 0)) (hC : ∀ (x3 : Int32) (x4 : Int32), Q (rc x3 x4) → sr x3 x4 → z_G X zm_M_stateAt (5, [(0, z_r 78), (1, .inl x1), (2, .inl x2), (3, .inl x3), (4, .inl x4)], [], zW T' G' S n, 0, 0)) (K : Q (F_M_stateAt_l5_39 rc S x1 x2 x3 x4)) (hs : Sf_M_stateAt_l5_39 rc sr S x1 x2 x3 x4) : z_G X zm_M_stateAt (39, [(0, z_r 78), (1, .inl x1), (2, .inl x2), (3, .inl x3), (4, .inl x4)], [], zW T' G' S n, 0, 0) := by
  unfold F_M_stateAt_l5_39 at K
  unfold Sf_M_stateAt_l5_39 at hs
  refine z_go2 M.1 39 [(.iconst 0, 1)] (40, [(0, z_r 78), (1, .inl x1), (2, .inl x2), (3, .inl x3), (4, .inl x4)], [.inl 0], zW T' G' S n, 0, 0) (by decide +kernel) rfl ⟨trivial, trivial⟩ ?_
  exact z_lvs (lv' := [(0, z_r 78), (1, .inl x1), (2, .inl x2), (3, .inl x3), (4, .inl x4)]) [0, 1, 2, 3, 4] rfl (t_M_stateAt_l5_40 M rc sr S x1 x2 x3 x4 0 hE hC K hs)
def F_M_stateAt_L5 (S : (Nat → Nat → Int32)) (x1 : Int32) (x2 : Int32) : Nat → Int32 → Int32 → (Int32)
  | 0, x3, x4 => x3
  | f + 1, x3, x4 => (if (S 78 2) ≤ x4 then x3 else (if (F_M_isAbout S x4 x1) = 0 then (F_M_stateAt_l5_39 (F_M_stateAt_L5 S x1 x2 f) S x1 x2 x3 x4) else (if x2 < (S 80 (x4).toNatClampNeg) then (F_M_stateAt_l5_39 (F_M_stateAt_L5 S x1 x2 f) S x1 x2 x3 x4) else (F_M_stateAt_l5_40 (F_M_stateAt_L5 S x1 x2 f) S x1 x2 x3 x4 1))))
def Sf_M_stateAt_L5 (S : (Nat → Nat → Int32)) (x1 : Int32) (x2 : Int32) : Nat → Int32 → Int32 → Prop
  | 0, _, _ => False
  | f + 1, x3, x4 => (if (S 78 2) ≤ x4 then True else (Sf_M_isAbout S x4 x1 ∧ (if (F_M_isAbout S x4 x1) = 0 then (Sf_M_stateAt_l5_39 (F_M_stateAt_L5 S x1 x2 f) (Sf_M_stateAt_L5 S x1 x2 f) S x1 x2 x3 x4) else ((vp_in x4 1200) ∧ (if x2 < (S 80 (x4).toNatClampNeg) then (Sf_M_stateAt_l5_39 (F_M_stateAt_L5 S x1 x2 f) (Sf_M_stateAt_L5 S x1 x2 f) S x1 x2 x3 x4) else (Sf_M_stateAt_l5_40 (F_M_stateAt_L5 S x1 x2 f) (Sf_M_stateAt_L5 S x1 x2 f) S x1 x2 x3 x4 1))))))
theorem t_M_stateAt_L5 {X : z_X} {Post : Option z_V → z_W → Prop} (M : z_M X zm_M_stateAt rm_M_stateAt Post) {T' : Nat → Nat × Nat} {G' : Nat → Nat → Option Nat} {n : Nat} {Q : (Int32) → Prop} (S : (Nat → Nat → Int32))  (x1 : Int32) (x2 : Int32) (hE : ∀ (y3 : Int32), Q y3 → z_G X zm_M_stateAt (96, [(3, .inl y3)], [], zW T' G' S n, 0, 0)) (f : Nat) : ∀ (x3 : Int32) (x4 : Int32), Q (F_M_stateAt_L5 S x1 x2 f x3 x4) → Sf_M_stateAt_L5 S x1 x2 f x3 x4 → z_G X zm_M_stateAt (5, [(0, z_r 78), (1, .inl x1), (2, .inl x2), (3, .inl x3), (4, .inl x4)], [], zW T' G' S n, 0, 0) := by
  induction f with
  | zero => intro x3 x4 K hs; exact False.elim hs
  | succ f hC =>
    intro x3 x4 K hs
    rw [F_M_stateAt_L5] at K
    rw [Sf_M_stateAt_L5] at hs
    refine z_go2 M.1 5 [(.iload 4, 2), (.aload_n 0, 1), (.getfield 182, 3)] (11, [(0, z_r 78), (1, .inl x1), (2, .inl x2), (3, .inl x3), (4, .inl x4)], [.inl (S 78 2), .inl x4], zW T' G' S n, 0, 0) (by decide +kernel) rfl ⟨trivial, trivial, rfl, trivial⟩ ?_
    refine z_icmp_ge 96 M.1 (off := 85) (by decide +kernel) (by decide) (fun c11 => ?_) (fun c11 => ?_)
    · rw [if_pos c11] at K hs
      exact z_lvs (lv' := [(3, .inl x3)]) [3] rfl (hE x3 K)
    · rw [if_neg c11] at K hs
      refine z_go2 M.1 14 [(.aload_n 0, 1), (.iload 4, 2), (.iload_n 1, 1)] (18, [(0, z_r 78), (1, .inl x1), (2, .inl x2), (3, .inl x3), (4, .inl x4)], [.inl x1, .inl x4, z_r 78], zW T' G' S n, 0, 0) (by decide +kernel) rfl ⟨trivial, trivial, trivial, trivial⟩ ?_
      refine z_callV M.1 (av := [.inl x4, .inl x1]) (st := []) (a := 78) (ci := 14) (by decide +kernel) (c_M_isAbout T' G' S n x4 x1 hs.1) M.2.1 zl_M_425 zv_M_isAbout rfl rfl rfl ⟨by decide, by decide, by decide, by decide⟩ rfl (Nat.le_of_ble_eq_true rfl) (fun v w' hv => ?_)
      obtain ⟨rfl, rfl⟩ := hv
      replace hs := hs.2
      show z_G X zm_M_stateAt (21, [(0, z_r 78), (1, .inl x1), (2, .inl x2), (3, .inl x3), (4, .inl x4)], [.inl (F_M_isAbout S x4 x1)], zW T' G' S n, 0, 0)
      refine z_if_eq 39 M.1 (off := 18) (by decide +kernel) (by decide) (fun c21 => ?_) (fun c21 => ?_)
      · rw [if_pos c21] at K hs
        exact z_lvs (lv' := [(0, z_r 78), (1, .inl x1), (2, .inl x2), (3, .inl x3), (4, .inl x4)]) [0, 1, 2, 3, 4] rfl (t_M_stateAt_l5_39 M (F_M_stateAt_L5 S x1 x2 f) (Sf_M_stateAt_L5 S x1 x2 f) S x1 x2 x3 x4 hE hC K hs)
      · rw [if_neg c21] at K hs
        refine z_go2 M.1 24 [(.aload_n 0, 1), (.getfield 13, 3), (.iload 4, 2), (.iaload, 1), (.iload_n 2, 1)] (32, [(0, z_r 78), (1, .inl x1), (2, .inl x2), (3, .inl x3), (4, .inl x4)], [.inl x2, .inl (S 80 (x4).toNatClampNeg)], zW T' G' S n, 0, 0) (by decide +kernel) rfl ⟨trivial, rfl, trivial, ⟨rfl, hs.1⟩, trivial, trivial⟩ ?_
        replace hs := hs.2
        refine z_icmp_gt 39 M.1 (off := 7) (by decide +kernel) (by decide) (fun c32 => ?_) (fun c32 => ?_)
        · rw [if_pos c32] at K hs
          exact z_lvs (lv' := [(0, z_r 78), (1, .inl x1), (2, .inl x2), (3, .inl x3), (4, .inl x4)]) [0, 1, 2, 3, 4] rfl (t_M_stateAt_l5_39 M (F_M_stateAt_L5 S x1 x2 f) (Sf_M_stateAt_L5 S x1 x2 f) S x1 x2 x3 x4 hE hC K hs)
        · rw [if_neg c32] at K hs
          refine z_go2 M.1 35 [(.iconst 1, 1), (.goto 4, 3)] (40, [(0, z_r 78), (1, .inl x1), (2, .inl x2), (3, .inl x3), (4, .inl x4)], [.inl 1], zW T' G' S n, 0, 0) (by decide +kernel) rfl ⟨trivial, trivial, trivial⟩ ?_
          exact z_lvs (lv' := [(0, z_r 78), (1, .inl x1), (2, .inl x2), (3, .inl x3), (4, .inl x4)]) [0, 1, 2, 3, 4] rfl (t_M_stateAt_l5_40 M (F_M_stateAt_L5 S x1 x2 f) (Sf_M_stateAt_L5 S x1 x2 f) S x1 x2 x3 x4 1 hE hC K hs)
def F_M_stateAt (S : (Nat → Nat → Int32)) (p1 : Int32) (p2 : Int32) : Int32 := (match F_M_stateAt_L5 S p1 p2 1300 (-1) 0 with | y3_5 => y3_5)
def Sf_M_stateAt (S : (Nat → Nat → Int32)) (p1 : Int32) (p2 : Int32) : Prop := (Sf_M_stateAt_L5 S p1 p2 1300 (-1) 0 ∧ True)
theorem c_M_stateAt (T' : Nat → Nat × Nat) (G' : Nat → Nat → Option Nat) (S : (Nat → Nat → Int32)) (n : Nat) (p1 : Int32) (p2 : Int32) (hs : Sf_M_stateAt S p1 p2) : z_Run rm_M_stateAt zm_M_stateAt [z_r 78, .inl p1, .inl p2] (zW T' G' S n) (zq (some (.inl (F_M_stateAt S p1 p2))) (zW T' G' S n)) := by
  refine z_body (by decide) zf_M_ok (Nat.le_of_ble_eq_true rfl) (fun X M => ?_)
  obtain ⟨Q, hQ, K⟩ : ∃ Q : Int32 → Prop, (∀ v, Q v → zq (some (.inl (F_M_stateAt S p1 p2))) (zW T' G' S n) (some (.inl v)) (zW T' G' S n)) ∧ Q (F_M_stateAt S p1 p2) := ⟨fun o => F_M_stateAt S p1 p2 = o, fun v h => ⟨by rw [h], rfl⟩, rfl⟩
  show z_G X zm_M_stateAt (0, [(0, z_r 78), (1, .inl p1), (2, .inl p2)], [], zW T' G' S n, 0, 0)
  unfold F_M_stateAt at K
  unfold Sf_M_stateAt at hs
  refine z_go2 M.1 0 [(.iconst (-1), 1), (.istore_n 3, 1), (.iconst 0, 1), (.istore 4, 2)] (5, [(4, .inl 0), (3, .inl (-1)), (0, z_r 78), (1, .inl p1), (2, .inl p2)], [], zW T' G' S n, 0, 0) (by decide +kernel) rfl ⟨trivial, trivial, trivial, trivial, trivial⟩ ?_
  refine z_lvs (lv' := [(0, z_r 78), (1, .inl p1), (2, .inl p2), (3, .inl (-1)), (4, .inl 0)]) [2, 3, 4, 1, 0] rfl ?_
  refine t_M_stateAt_L5 M (Q := fun o => F_M_stateAt_L5 S p1 p2 1300 (-1) 0 = o) S p1 p2 (fun y3_5 hL5 => ?_) 1300 (-1) 0 rfl hs.1
  replace hs := hs.2
  rw [hL5] at K
  try dsimp only at K
  refine z_go2 M.1 96 [(.iload_n 3, 1)] (97, [(3, .inl y3_5)], [.inl y3_5], zW T' G' S n, 0, 0) (by decide +kernel) rfl ⟨trivial, trivial⟩ ?_
  exact z_iret M (by decide +kernel) .int rfl rfl (by decide) (by decide) (hQ _ K)

-- TrackHouseModel.stateOn
abbrev rm_M_stateOn : Room := zr 2
def F_M_stateOn_j22 (S : (Nat → Nat → Int32)) (x1 : Int32) (x2 : Int32) (s0 : Int32) : (Int32 × (Nat → Nat → Int32)) := (if s0 ≤ 0 then ((F_M_stateAt (z_uS S 78 0 s0) x1 x2), (z_uS S 78 0 s0)) else (0, (z_uS S 78 0 s0)))
def Sf_M_stateOn_j22 (S : (Nat → Nat → Int32)) (x1 : Int32) (x2 : Int32) (s0 : Int32) : Prop := (if s0 ≤ 0 then (Sf_M_stateAt (z_uS S 78 0 s0) x1 x2 ∧ True) else True)
theorem t_M_stateOn_j22 {X : z_X} {Post : Option z_V → z_W → Prop} (M : z_M X zm_M_stateOn rm_M_stateOn Post) {T' : Nat → Nat × Nat} {G' : Nat → Nat → Option Nat} {n : Nat} {Q : (Int32 × (Nat → Nat → Int32)) → Prop} (S : (Nat → Nat → Int32)) (x1 : Int32) (x2 : Int32) (s0 : Int32) (hQ : ∀ v S', Q (v, S') → Post (some (.inl v)) (zW T' G' S' n)) (K : Q (F_M_stateOn_j22 S x1 x2 s0)) (hs : Sf_M_stateOn_j22 S x1 x2 s0) : z_G X zm_M_stateOn (22, [(0, z_r 78), (1, .inl x1), (2, .inl x2)], [.inl s0, z_r 78], zW T' G' S n, 0, 0) := by
  unfold F_M_stateOn_j22 at K
  unfold Sf_M_stateOn_j22 at hs
  refine z_go2 M.1 22 [(.putfield 175, 3), (.aload_n 0, 1), (.getfield 175, 3)] (29, [(0, z_r 78), (1, .inl x1), (2, .inl x2)], [.inl s0], zW T' G' (z_uS S 78 0 s0) n, 0, 0) (by decide +kernel) rfl ⟨⟨rfl, trivial⟩, trivial, rfl, trivial⟩ ?_
  refine z_if_le 36 M.1 (off := 7) (by decide +kernel) (by decide) (fun c29 => ?_) (fun c29 => ?_)
  · rw [if_pos c29] at K hs
    refine z_go2 M.1 36 [(.aload_n 0, 1), (.iload_n 1, 1), (.iload_n 2, 1)] (39, [(0, z_r 78), (1, .inl x1), (2, .inl x2)], [.inl x2, .inl x1, z_r 78], zW T' G' (z_uS S 78 0 s0) n, 0, 0) (by decide +kernel) rfl ⟨trivial, trivial, trivial, trivial⟩ ?_
    refine z_callV M.1 (av := [.inl x1, .inl x2]) (st := []) (a := 78) (ci := 14) (by decide +kernel) (c_M_stateAt T' G' (z_uS S 78 0 s0) n x1 x2 hs.1) M.2.1 zl_M_477 zv_M_stateAt rfl rfl rfl ⟨by decide, by decide, by decide, by decide⟩ rfl (Nat.le_of_ble_eq_true rfl) (fun v w' hv => ?_)
    obtain ⟨rfl, rfl⟩ := hv
    replace hs := hs.2
    show z_G X zm_M_stateOn (42, [(0, z_r 78), (1, .inl x1), (2, .inl x2)], [.inl (F_M_stateAt (z_uS S 78 0 s0) x1 x2)], zW T' G' (z_uS S 78 0 s0) n, 0, 0)
    exact z_iret M (by decide +kernel) .int rfl rfl (by decide) (by decide) (hQ _ _ K)
  · rw [if_neg c29] at K hs
    refine z_go2 M.1 32 [(.iconst 0, 1), (.goto 9, 3)] (42, [(0, z_r 78), (1, .inl x1), (2, .inl x2)], [.inl 0], zW T' G' (z_uS S 78 0 s0) n, 0, 0) (by decide +kernel) rfl ⟨trivial, trivial, trivial⟩ ?_
    exact z_iret M (by decide +kernel) .int rfl rfl (by decide) (by decide) (hQ _ _ K)
def F_M_stateOn_j21 (S : (Nat → Nat → Int32)) (x1 : Int32) (x2 : Int32) : (Int32 × (Nat → Nat → Int32)) := (F_M_stateOn_j22 S x1 x2 1)
def Sf_M_stateOn_j21 (S : (Nat → Nat → Int32)) (x1 : Int32) (x2 : Int32) : Prop := (Sf_M_stateOn_j22 S x1 x2 1)
theorem t_M_stateOn_j21 {X : z_X} {Post : Option z_V → z_W → Prop} (M : z_M X zm_M_stateOn rm_M_stateOn Post) {T' : Nat → Nat × Nat} {G' : Nat → Nat → Option Nat} {n : Nat} {Q : (Int32 × (Nat → Nat → Int32)) → Prop} (S : (Nat → Nat → Int32)) (x1 : Int32) (x2 : Int32) (hQ : ∀ v S', Q (v, S') → Post (some (.inl v)) (zW T' G' S' n)) (K : Q (F_M_stateOn_j21 S x1 x2)) (hs : Sf_M_stateOn_j21 S x1 x2) : z_G X zm_M_stateOn (21, [(0, z_r 78), (1, .inl x1), (2, .inl x2)], [z_r 78], zW T' G' S n, 0, 0) := by
  unfold F_M_stateOn_j21 at K
  unfold Sf_M_stateOn_j21 at hs
  refine z_go2 M.1 21 [(.iconst 1, 1)] (22, [(0, z_r 78), (1, .inl x1), (2, .inl x2)], [.inl 1, z_r 78], zW T' G' S n, 0, 0) (by decide +kernel) rfl ⟨trivial, trivial⟩ ?_
  exact z_lvs (lv' := [(0, z_r 78), (1, .inl x1), (2, .inl x2)]) [0, 1, 2] rfl (t_M_stateOn_j22 M S x1 x2 1 hQ K hs)
def F_M_stateOn (S : (Nat → Nat → Int32)) (p1 : Int32) (p2 : Int32) : (Int32 × (Nat → Nat → Int32)) := (if (F_M_isItem S p1) = 0 then (F_M_stateOn_j21 S p1 p2) else (if (F_M_isDay S p2) = 0 then (F_M_stateOn_j21 S p1 p2) else (F_M_stateOn_j22 S p1 p2 0)))
def Sf_M_stateOn (S : (Nat → Nat → Int32)) (p1 : Int32) (p2 : Int32) : Prop := (Sf_M_isItem S p1 ∧ (if (F_M_isItem S p1) = 0 then (Sf_M_stateOn_j21 S p1 p2) else (Sf_M_isDay S p2 ∧ (if (F_M_isDay S p2) = 0 then (Sf_M_stateOn_j21 S p1 p2) else (Sf_M_stateOn_j22 S p1 p2 0)))))
theorem c_M_stateOn (T' : Nat → Nat × Nat) (G' : Nat → Nat → Option Nat) (S : (Nat → Nat → Int32)) (n : Nat) (p1 : Int32) (p2 : Int32) (hs : Sf_M_stateOn S p1 p2) : z_Run rm_M_stateOn zm_M_stateOn [z_r 78, .inl p1, .inl p2] (zW T' G' S n) (zq (some (.inl (F_M_stateOn S p1 p2).1)) (zW T' G' (F_M_stateOn S p1 p2).2 n)) := by
  refine z_body (by decide) zf_M_ok (Nat.le_of_ble_eq_true rfl) (fun X M => ?_)
  obtain ⟨Q, hQ, K⟩ : ∃ Q : (Int32 × (Nat → Nat → Int32)) → Prop, (∀ v S', Q (v, S') → zq (some (.inl (F_M_stateOn S p1 p2).1)) (zW T' G' (F_M_stateOn S p1 p2).2 n) (some (.inl v)) (zW T' G' S' n)) ∧ Q (F_M_stateOn S p1 p2) := ⟨fun o => F_M_stateOn S p1 p2 = o, fun v S' h => ⟨by rw [h], by rw [h]⟩, rfl⟩
  show z_G X zm_M_stateOn (0, [(0, z_r 78), (1, .inl p1), (2, .inl p2)], [], zW T' G' S n, 0, 0)
  unfold F_M_stateOn at K
  unfold Sf_M_stateOn at hs
  refine z_go2 M.1 0 [(.aload_n 0, 1), (.aload_n 0, 1), (.iload_n 1, 1)] (3, [(0, z_r 78), (1, .inl p1), (2, .inl p2)], [.inl p1, z_r 78, z_r 78], zW T' G' S n, 0, 0) (by decide +kernel) rfl ⟨trivial, trivial, trivial, trivial⟩ ?_
  refine z_callV M.1 (av := [.inl p1]) (st := [z_r 78]) (a := 78) (ci := 14) (by decide +kernel) (c_M_isItem T' G' S n p1 hs.1) M.2.1 zl_M_474 zv_M_isItem rfl rfl rfl ⟨by decide, by decide, by decide, by decide⟩ rfl (Nat.le_of_ble_eq_true rfl) (fun v w' hv => ?_)
  obtain ⟨rfl, rfl⟩ := hv
  replace hs := hs.2
  show z_G X zm_M_stateOn (6, [(0, z_r 78), (1, .inl p1), (2, .inl p2)], [.inl (F_M_isItem S p1), z_r 78], zW T' G' S n, 0, 0)
  refine z_if_eq 21 M.1 (off := 15) (by decide +kernel) (by decide) (fun c6 => ?_) (fun c6 => ?_)
  · rw [if_pos c6] at K hs
    exact z_lvs (lv' := [(0, z_r 78), (1, .inl p1), (2, .inl p2)]) [0, 1, 2] rfl (t_M_stateOn_j21 M S p1 p2 hQ K hs)
  · rw [if_neg c6] at K hs
    refine z_go2 M.1 9 [(.aload_n 0, 1), (.iload_n 2, 1)] (11, [(0, z_r 78), (1, .inl p1), (2, .inl p2)], [.inl p2, z_r 78, z_r 78], zW T' G' S n, 0, 0) (by decide +kernel) rfl ⟨trivial, trivial, trivial⟩ ?_
    refine z_callV M.1 (av := [.inl p2]) (st := [z_r 78]) (a := 78) (ci := 14) (by decide +kernel) (c_M_isDay T' G' S n p2 hs.1) M.2.1 zl_M_460 zv_M_isDay rfl rfl rfl ⟨by decide, by decide, by decide, by decide⟩ rfl (Nat.le_of_ble_eq_true rfl) (fun v w' hv => ?_)
    obtain ⟨rfl, rfl⟩ := hv
    replace hs := hs.2
    show z_G X zm_M_stateOn (14, [(0, z_r 78), (1, .inl p1), (2, .inl p2)], [.inl (F_M_isDay S p2), z_r 78], zW T' G' S n, 0, 0)
    refine z_if_eq 21 M.1 (off := 7) (by decide +kernel) (by decide) (fun c14 => ?_) (fun c14 => ?_)
    · rw [if_pos c14] at K hs
      exact z_lvs (lv' := [(0, z_r 78), (1, .inl p1), (2, .inl p2)]) [0, 1, 2] rfl (t_M_stateOn_j21 M S p1 p2 hQ K hs)
    · rw [if_neg c14] at K hs
      refine z_go2 M.1 17 [(.iconst 0, 1), (.goto 4, 3)] (22, [(0, z_r 78), (1, .inl p1), (2, .inl p2)], [.inl 0, z_r 78], zW T' G' S n, 0, 0) (by decide +kernel) rfl ⟨trivial, trivial, trivial⟩ ?_
      exact z_lvs (lv' := [(0, z_r 78), (1, .inl p1), (2, .inl p2)]) [0, 1, 2] rfl (t_M_stateOn_j22 M S p1 p2 0 hQ K hs)

-- TrackHouseModel.stateOnAnew
abbrev rm_M_stateOnAnew : Room := zr 2
def F_M_stateOnAnew_j22 (S : (Nat → Nat → Int32)) (x1 : Int32) (x2 : Int32) (s0 : Int32) : (Int32 × (Nat → Nat → Int32)) := (if s0 ≤ 0 then ((F_M_stateAt (z_uS S 78 0 s0) x1 x2), (z_uS S 78 0 s0)) else (0, (z_uS S 78 0 s0)))
def Sf_M_stateOnAnew_j22 (S : (Nat → Nat → Int32)) (x1 : Int32) (x2 : Int32) (s0 : Int32) : Prop := (if s0 ≤ 0 then (Sf_M_stateAt (z_uS S 78 0 s0) x1 x2 ∧ True) else True)
theorem t_M_stateOnAnew_j22 {X : z_X} {Post : Option z_V → z_W → Prop} (M : z_M X zm_M_stateOnAnew rm_M_stateOnAnew Post) {T' : Nat → Nat × Nat} {G' : Nat → Nat → Option Nat} {n : Nat} {Q : (Int32 × (Nat → Nat → Int32)) → Prop} (S : (Nat → Nat → Int32)) (x1 : Int32) (x2 : Int32) (s0 : Int32) (hQ : ∀ v S', Q (v, S') → Post (some (.inl v)) (zW T' G' S' n)) (K : Q (F_M_stateOnAnew_j22 S x1 x2 s0)) (hs : Sf_M_stateOnAnew_j22 S x1 x2 s0) : z_G X zm_M_stateOnAnew (22, [(0, z_r 78), (1, .inl x1), (2, .inl x2)], [.inl s0, z_r 78], zW T' G' S n, 0, 0) := by
  unfold F_M_stateOnAnew_j22 at K
  unfold Sf_M_stateOnAnew_j22 at hs
  refine z_go2 M.1 22 [(.putfield 175, 3), (.aload_n 0, 1), (.getfield 175, 3)] (29, [(0, z_r 78), (1, .inl x1), (2, .inl x2)], [.inl s0], zW T' G' (z_uS S 78 0 s0) n, 0, 0) (by decide +kernel) rfl ⟨⟨rfl, trivial⟩, trivial, rfl, trivial⟩ ?_
  refine z_if_le 36 M.1 (off := 7) (by decide +kernel) (by decide) (fun c29 => ?_) (fun c29 => ?_)
  · rw [if_pos c29] at K hs
    refine z_go2 M.1 36 [(.aload_n 0, 1), (.iload_n 1, 1), (.iload_n 2, 1)] (39, [(0, z_r 78), (1, .inl x1), (2, .inl x2)], [.inl x2, .inl x1, z_r 78], zW T' G' (z_uS S 78 0 s0) n, 0, 0) (by decide +kernel) rfl ⟨trivial, trivial, trivial, trivial⟩ ?_
    refine z_callV M.1 (av := [.inl x1, .inl x2]) (st := []) (a := 78) (ci := 14) (by decide +kernel) (c_M_stateAt T' G' (z_uS S 78 0 s0) n x1 x2 hs.1) M.2.1 zl_M_477 zv_M_stateAt rfl rfl rfl ⟨by decide, by decide, by decide, by decide⟩ rfl (Nat.le_of_ble_eq_true rfl) (fun v w' hv => ?_)
    obtain ⟨rfl, rfl⟩ := hv
    replace hs := hs.2
    show z_G X zm_M_stateOnAnew (42, [(0, z_r 78), (1, .inl x1), (2, .inl x2)], [.inl (F_M_stateAt (z_uS S 78 0 s0) x1 x2)], zW T' G' (z_uS S 78 0 s0) n, 0, 0)
    exact z_iret M (by decide +kernel) .int rfl rfl (by decide) (by decide) (hQ _ _ K)
  · rw [if_neg c29] at K hs
    refine z_go2 M.1 32 [(.iconst 0, 1), (.goto 9, 3)] (42, [(0, z_r 78), (1, .inl x1), (2, .inl x2)], [.inl 0], zW T' G' (z_uS S 78 0 s0) n, 0, 0) (by decide +kernel) rfl ⟨trivial, trivial, trivial⟩ ?_
    exact z_iret M (by decide +kernel) .int rfl rfl (by decide) (by decide) (hQ _ _ K)
def F_M_stateOnAnew_j21 (S : (Nat → Nat → Int32)) (x1 : Int32) (x2 : Int32) : (Int32 × (Nat → Nat → Int32)) := (F_M_stateOnAnew_j22 S x1 x2 1)
def Sf_M_stateOnAnew_j21 (S : (Nat → Nat → Int32)) (x1 : Int32) (x2 : Int32) : Prop := (Sf_M_stateOnAnew_j22 S x1 x2 1)
theorem t_M_stateOnAnew_j21 {X : z_X} {Post : Option z_V → z_W → Prop} (M : z_M X zm_M_stateOnAnew rm_M_stateOnAnew Post) {T' : Nat → Nat × Nat} {G' : Nat → Nat → Option Nat} {n : Nat} {Q : (Int32 × (Nat → Nat → Int32)) → Prop} (S : (Nat → Nat → Int32)) (x1 : Int32) (x2 : Int32) (hQ : ∀ v S', Q (v, S') → Post (some (.inl v)) (zW T' G' S' n)) (K : Q (F_M_stateOnAnew_j21 S x1 x2)) (hs : Sf_M_stateOnAnew_j21 S x1 x2) : z_G X zm_M_stateOnAnew (21, [(0, z_r 78), (1, .inl x1), (2, .inl x2)], [z_r 78], zW T' G' S n, 0, 0) := by
  unfold F_M_stateOnAnew_j21 at K
  unfold Sf_M_stateOnAnew_j21 at hs
  refine z_go2 M.1 21 [(.iconst 1, 1)] (22, [(0, z_r 78), (1, .inl x1), (2, .inl x2)], [.inl 1, z_r 78], zW T' G' S n, 0, 0) (by decide +kernel) rfl ⟨trivial, trivial⟩ ?_
  exact z_lvs (lv' := [(0, z_r 78), (1, .inl x1), (2, .inl x2)]) [0, 1, 2] rfl (t_M_stateOnAnew_j22 M S x1 x2 1 hQ K hs)
def F_M_stateOnAnew (S : (Nat → Nat → Int32)) (p1 : Int32) (p2 : Int32) : (Int32 × (Nat → Nat → Int32)) := (if (F_M_isItem S p1) = 0 then (F_M_stateOnAnew_j21 S p1 p2) else (if (F_M_isDay S p2) = 0 then (F_M_stateOnAnew_j21 S p1 p2) else (F_M_stateOnAnew_j22 S p1 p2 0)))
def Sf_M_stateOnAnew (S : (Nat → Nat → Int32)) (p1 : Int32) (p2 : Int32) : Prop := (Sf_M_isItem S p1 ∧ (if (F_M_isItem S p1) = 0 then (Sf_M_stateOnAnew_j21 S p1 p2) else (Sf_M_isDay S p2 ∧ (if (F_M_isDay S p2) = 0 then (Sf_M_stateOnAnew_j21 S p1 p2) else (Sf_M_stateOnAnew_j22 S p1 p2 0)))))
theorem c_M_stateOnAnew (T' : Nat → Nat × Nat) (G' : Nat → Nat → Option Nat) (S : (Nat → Nat → Int32)) (n : Nat) (p1 : Int32) (p2 : Int32) (hs : Sf_M_stateOnAnew S p1 p2) : z_Run rm_M_stateOnAnew zm_M_stateOnAnew [z_r 78, .inl p1, .inl p2] (zW T' G' S n) (zq (some (.inl (F_M_stateOnAnew S p1 p2).1)) (zW T' G' (F_M_stateOnAnew S p1 p2).2 n)) := by
  refine z_body (by decide) zf_M_ok (Nat.le_of_ble_eq_true rfl) (fun X M => ?_)
  obtain ⟨Q, hQ, K⟩ : ∃ Q : (Int32 × (Nat → Nat → Int32)) → Prop, (∀ v S', Q (v, S') → zq (some (.inl (F_M_stateOnAnew S p1 p2).1)) (zW T' G' (F_M_stateOnAnew S p1 p2).2 n) (some (.inl v)) (zW T' G' S' n)) ∧ Q (F_M_stateOnAnew S p1 p2) := ⟨fun o => F_M_stateOnAnew S p1 p2 = o, fun v S' h => ⟨by rw [h], by rw [h]⟩, rfl⟩
  show z_G X zm_M_stateOnAnew (0, [(0, z_r 78), (1, .inl p1), (2, .inl p2)], [], zW T' G' S n, 0, 0)
  unfold F_M_stateOnAnew at K
  unfold Sf_M_stateOnAnew at hs
  refine z_go2 M.1 0 [(.aload_n 0, 1), (.aload_n 0, 1), (.iload_n 1, 1)] (3, [(0, z_r 78), (1, .inl p1), (2, .inl p2)], [.inl p1, z_r 78, z_r 78], zW T' G' S n, 0, 0) (by decide +kernel) rfl ⟨trivial, trivial, trivial, trivial⟩ ?_
  refine z_callV M.1 (av := [.inl p1]) (st := [z_r 78]) (a := 78) (ci := 14) (by decide +kernel) (c_M_isItem T' G' S n p1 hs.1) M.2.1 zl_M_474 zv_M_isItem rfl rfl rfl ⟨by decide, by decide, by decide, by decide⟩ rfl (Nat.le_of_ble_eq_true rfl) (fun v w' hv => ?_)
  obtain ⟨rfl, rfl⟩ := hv
  replace hs := hs.2
  show z_G X zm_M_stateOnAnew (6, [(0, z_r 78), (1, .inl p1), (2, .inl p2)], [.inl (F_M_isItem S p1), z_r 78], zW T' G' S n, 0, 0)
  refine z_if_eq 21 M.1 (off := 15) (by decide +kernel) (by decide) (fun c6 => ?_) (fun c6 => ?_)
  · rw [if_pos c6] at K hs
    exact z_lvs (lv' := [(0, z_r 78), (1, .inl p1), (2, .inl p2)]) [0, 1, 2] rfl (t_M_stateOnAnew_j21 M S p1 p2 hQ K hs)
  · rw [if_neg c6] at K hs
    refine z_go2 M.1 9 [(.aload_n 0, 1), (.iload_n 2, 1)] (11, [(0, z_r 78), (1, .inl p1), (2, .inl p2)], [.inl p2, z_r 78, z_r 78], zW T' G' S n, 0, 0) (by decide +kernel) rfl ⟨trivial, trivial, trivial⟩ ?_
    refine z_callV M.1 (av := [.inl p2]) (st := [z_r 78]) (a := 78) (ci := 14) (by decide +kernel) (c_M_isDay T' G' S n p2 hs.1) M.2.1 zl_M_460 zv_M_isDay rfl rfl rfl ⟨by decide, by decide, by decide, by decide⟩ rfl (Nat.le_of_ble_eq_true rfl) (fun v w' hv => ?_)
    obtain ⟨rfl, rfl⟩ := hv
    replace hs := hs.2
    show z_G X zm_M_stateOnAnew (14, [(0, z_r 78), (1, .inl p1), (2, .inl p2)], [.inl (F_M_isDay S p2), z_r 78], zW T' G' S n, 0, 0)
    refine z_if_eq 21 M.1 (off := 7) (by decide +kernel) (by decide) (fun c14 => ?_) (fun c14 => ?_)
    · rw [if_pos c14] at K hs
      exact z_lvs (lv' := [(0, z_r 78), (1, .inl p1), (2, .inl p2)]) [0, 1, 2] rfl (t_M_stateOnAnew_j21 M S p1 p2 hQ K hs)
    · rw [if_neg c14] at K hs
      refine z_go2 M.1 17 [(.iconst 0, 1), (.goto 4, 3)] (22, [(0, z_r 78), (1, .inl p1), (2, .inl p2)], [.inl 0, z_r 78], zW T' G' S n, 0, 0) (by decide +kernel) rfl ⟨trivial, trivial, trivial⟩ ?_
      exact z_lvs (lv' := [(0, z_r 78), (1, .inl p1), (2, .inl p2)]) [0, 1, 2] rfl (t_M_stateOnAnew_j22 M S p1 p2 0 hQ K hs)

-- TrackHouseModel.field
abbrev rm_M_field : Room := zr 5
def F_M_field_j28 (S : (Nat → Nat → Int32)) (x1 : Int32) (x2 : Int32) (x3 : Int32) (s0 : Int32) : (Int32 × (Nat → Nat → Int32)) := (if s0 ≤ 0 then ((F_M_valueFor 86 (z_uS S 78 0 s0) x1 x2 x3), (z_uS S 78 0 s0)) else (0, (z_uS S 78 0 s0)))
def Sf_M_field_j28 (S : (Nat → Nat → Int32)) (x1 : Int32) (x2 : Int32) (x3 : Int32) (s0 : Int32) : Prop := (if s0 ≤ 0 then (Sf_M_valueFor 86 (z_uS S 78 0 s0) x1 x2 x3 ∧ True) else True)
theorem t_M_field_j28 {X : z_X} {Post : Option z_V → z_W → Prop} (M : z_M X zm_M_field rm_M_field Post) {T' : Nat → Nat × Nat} {G' : Nat → Nat → Option Nat} {n : Nat} {Q : (Int32 × (Nat → Nat → Int32)) → Prop} (S : (Nat → Nat → Int32)) (x1 : Int32) (x2 : Int32) (x3 : Int32) (s0 : Int32) (hQ : ∀ v S', Q (v, S') → Post (some (.inl v)) (zW T' G' S' n)) (K : Q (F_M_field_j28 S x1 x2 x3 s0)) (hs : Sf_M_field_j28 S x1 x2 x3 s0) : z_G X zm_M_field (28, [(0, z_r 78), (1, .inl x1), (2, .inl x2), (3, .inl x3)], [.inl s0, z_r 78], zW T' G' S n, 0, 0) := by
  unfold F_M_field_j28 at K
  unfold Sf_M_field_j28 at hs
  refine z_go2 M.1 28 [(.putfield 175, 3), (.aload_n 0, 1), (.getfield 175, 3)] (35, [(0, z_r 78), (1, .inl x1), (2, .inl x2), (3, .inl x3)], [.inl s0], zW T' G' (z_uS S 78 0 s0) n, 0, 0) (by decide +kernel) rfl ⟨⟨rfl, trivial⟩, trivial, rfl, trivial⟩ ?_
  refine z_if_le 42 M.1 (off := 7) (by decide +kernel) (by decide) (fun c35 => ?_) (fun c35 => ?_)
  · rw [if_pos c35] at K hs
    refine z_go2 M.1 42 [(.aload_n 0, 1), (.aload_n 0, 1), (.getfield 34, 3), (.iload_n 1, 1), (.iload_n 2, 1), (.iload_n 3, 1)] (50, [(0, z_r 78), (1, .inl x1), (2, .inl x2), (3, .inl x3)], [.inl x3, .inl x2, .inl x1, z_r 86, z_r 78], zW T' G' (z_uS S 78 0 s0) n, 0, 0) (by decide +kernel) rfl ⟨trivial, trivial, rfl, trivial, trivial, trivial, trivial⟩ ?_
    refine z_callV M.1 (av := [z_r 86, .inl x1, .inl x2, .inl x3]) (st := []) (a := 78) (ci := 14) (by decide +kernel) (c_M_valueFor_86 T' G' (z_uS S 78 0 s0) n x1 x2 x3 hs.1) M.2.1 zl_M_428 zv_M_valueFor rfl rfl rfl ⟨by decide, by decide, by decide, by decide⟩ rfl (Nat.le_of_ble_eq_true rfl) (fun v w' hv => ?_)
    obtain ⟨rfl, rfl⟩ := hv
    replace hs := hs.2
    show z_G X zm_M_field (53, [(0, z_r 78), (1, .inl x1), (2, .inl x2), (3, .inl x3)], [.inl (F_M_valueFor 86 (z_uS S 78 0 s0) x1 x2 x3)], zW T' G' (z_uS S 78 0 s0) n, 0, 0)
    exact z_iret M (by decide +kernel) .int rfl rfl (by decide) (by decide) (hQ _ _ K)
  · rw [if_neg c35] at K hs
    refine z_go2 M.1 38 [(.iconst 0, 1), (.goto 14, 3)] (53, [(0, z_r 78), (1, .inl x1), (2, .inl x2), (3, .inl x3)], [.inl 0], zW T' G' (z_uS S 78 0 s0) n, 0, 0) (by decide +kernel) rfl ⟨trivial, trivial, trivial⟩ ?_
    exact z_iret M (by decide +kernel) .int rfl rfl (by decide) (by decide) (hQ _ _ K)
def F_M_field (S : (Nat → Nat → Int32)) (p1 : Int32) (p2 : Int32) (p3 : Int32) : (Int32 × (Nat → Nat → Int32)) := (if (F_M_isSeen S p1 p2) = 0 then (F_M_field_j28 S p1 p2 p3 1) else (if (F_M_isIn S p3 0 3) = 0 then (F_M_field_j28 S p1 p2 p3 2) else (F_M_field_j28 S p1 p2 p3 0)))
def Sf_M_field (S : (Nat → Nat → Int32)) (p1 : Int32) (p2 : Int32) (p3 : Int32) : Prop := (Sf_M_isSeen S p1 p2 ∧ (if (F_M_isSeen S p1 p2) = 0 then (Sf_M_field_j28 S p1 p2 p3 1) else (if (F_M_isIn S p3 0 3) = 0 then (Sf_M_field_j28 S p1 p2 p3 2) else (Sf_M_field_j28 S p1 p2 p3 0))))
theorem c_M_field (T' : Nat → Nat × Nat) (G' : Nat → Nat → Option Nat) (S : (Nat → Nat → Int32)) (n : Nat) (p1 : Int32) (p2 : Int32) (p3 : Int32) (hs : Sf_M_field S p1 p2 p3) : z_Run rm_M_field zm_M_field [z_r 78, .inl p1, .inl p2, .inl p3] (zW T' G' S n) (zq (some (.inl (F_M_field S p1 p2 p3).1)) (zW T' G' (F_M_field S p1 p2 p3).2 n)) := by
  refine z_body (by decide) zf_M_ok (Nat.le_of_ble_eq_true rfl) (fun X M => ?_)
  obtain ⟨Q, hQ, K⟩ : ∃ Q : (Int32 × (Nat → Nat → Int32)) → Prop, (∀ v S', Q (v, S') → zq (some (.inl (F_M_field S p1 p2 p3).1)) (zW T' G' (F_M_field S p1 p2 p3).2 n) (some (.inl v)) (zW T' G' S' n)) ∧ Q (F_M_field S p1 p2 p3) := ⟨fun o => F_M_field S p1 p2 p3 = o, fun v S' h => ⟨by rw [h], by rw [h]⟩, rfl⟩
  show z_G X zm_M_field (0, [(0, z_r 78), (1, .inl p1), (2, .inl p2), (3, .inl p3)], [], zW T' G' S n, 0, 0)
  unfold F_M_field at K
  unfold Sf_M_field at hs
  refine z_go2 M.1 0 [(.aload_n 0, 1), (.aload_n 0, 1), (.iload_n 1, 1), (.iload_n 2, 1)] (4, [(0, z_r 78), (1, .inl p1), (2, .inl p2), (3, .inl p3)], [.inl p2, .inl p1, z_r 78, z_r 78], zW T' G' S n, 0, 0) (by decide +kernel) rfl ⟨trivial, trivial, trivial, trivial, trivial⟩ ?_
  refine z_callV M.1 (av := [.inl p1, .inl p2]) (st := [z_r 78]) (a := 78) (ci := 14) (by decide +kernel) (c_M_isSeen T' G' S n p1 p2 hs.1) M.2.1 zl_M_336 zv_M_isSeen rfl rfl rfl ⟨by decide, by decide, by decide, by decide⟩ rfl (Nat.le_of_ble_eq_true rfl) (fun v w' hv => ?_)
  obtain ⟨rfl, rfl⟩ := hv
  replace hs := hs.2
  show z_G X zm_M_field (7, [(0, z_r 78), (1, .inl p1), (2, .inl p2), (3, .inl p3)], [.inl (F_M_isSeen S p1 p2), z_r 78], zW T' G' S n, 0, 0)
  refine z_if_ne 14 M.1 (off := 7) (by decide +kernel) (by decide) (fun c7 => ?_) (fun c7 => ?_)
  · rw [if_neg c7] at K hs
    refine z_go2 M.1 14 [(.iload_n 3, 1), (.iconst 0, 1), (.iconst 3, 1)] (17, [(0, z_r 78), (1, .inl p1), (2, .inl p2), (3, .inl p3)], [.inl 3, .inl 0, .inl p3, z_r 78], zW T' G' S n, 0, 0) (by decide +kernel) rfl ⟨trivial, trivial, trivial, trivial⟩ ?_
    refine z_callS M.1 (av := [.inl p3, .inl 0, .inl 3]) (st := [z_r 78]) (by decide +kernel) (c_M_isIn T' G' S n p3 0 3) M.2.1 zl_M_178 zs_M_isIn ⟨by decide, by decide, by decide, by decide⟩ rfl (Nat.le_of_ble_eq_true rfl) (fun v w' hv => ?_)
    obtain ⟨rfl, rfl⟩ := hv
    show z_G X zm_M_field (20, [(0, z_r 78), (1, .inl p1), (2, .inl p2), (3, .inl p3)], [.inl (F_M_isIn S p3 0 3), z_r 78], zW T' G' S n, 0, 0)
    refine z_if_eq 27 M.1 (off := 7) (by decide +kernel) (by decide) (fun c20 => ?_) (fun c20 => ?_)
    · rw [if_pos c20] at K hs
      refine z_go2 M.1 27 [(.iconst 2, 1)] (28, [(0, z_r 78), (1, .inl p1), (2, .inl p2), (3, .inl p3)], [.inl 2, z_r 78], zW T' G' S n, 0, 0) (by decide +kernel) rfl ⟨trivial, trivial⟩ ?_
      exact z_lvs (lv' := [(0, z_r 78), (1, .inl p1), (2, .inl p2), (3, .inl p3)]) [0, 1, 2, 3] rfl (t_M_field_j28 M S p1 p2 p3 2 hQ K hs)
    · rw [if_neg c20] at K hs
      refine z_go2 M.1 23 [(.iconst 0, 1), (.goto 4, 3)] (28, [(0, z_r 78), (1, .inl p1), (2, .inl p2), (3, .inl p3)], [.inl 0, z_r 78], zW T' G' S n, 0, 0) (by decide +kernel) rfl ⟨trivial, trivial, trivial⟩ ?_
      exact z_lvs (lv' := [(0, z_r 78), (1, .inl p1), (2, .inl p2), (3, .inl p3)]) [0, 1, 2, 3] rfl (t_M_field_j28 M S p1 p2 p3 0 hQ K hs)
  · rw [if_pos c7] at K hs
    refine z_go2 M.1 10 [(.iconst 1, 1), (.goto 17, 3)] (28, [(0, z_r 78), (1, .inl p1), (2, .inl p2), (3, .inl p3)], [.inl 1, z_r 78], zW T' G' S n, 0, 0) (by decide +kernel) rfl ⟨trivial, trivial, trivial⟩ ?_
    exact z_lvs (lv' := [(0, z_r 78), (1, .inl p1), (2, .inl p2), (3, .inl p3)]) [0, 1, 2, 3] rfl (t_M_field_j28 M S p1 p2 p3 1 hQ K hs)

-- TrackHouseModel.ranked
abbrev rm_M_ranked : Room := zr 2
def F_M_ranked_l30_79 (rc : (Nat → Nat → Int32) → Int32 → Int32 → (Int32 × (Nat → Nat → Int32))) (S : (Nat → Nat → Int32)) (x1 : Int32) (x2 : Int32) (x3 : Int32) (x4 : Int32) (x6 : Int32) (s0 : Int32) : (Int32 × (Nat → Nat → Int32)) := (rc S (s0 + 0) (x6 + 1))
def Sf_M_ranked_l30_79 (rc : (Nat → Nat → Int32) → Int32 → Int32 → (Int32 × (Nat → Nat → Int32))) (sr : (Nat → Nat → Int32) → Int32 → Int32 → Prop) (S : (Nat → Nat → Int32)) (x1 : Int32) (x2 : Int32) (x3 : Int32) (x4 : Int32) (x6 : Int32) (s0 : Int32) : Prop := (sr S (s0 + 0) (x6 + 1))
theorem t_M_ranked_l30_79 {X : z_X} {Post : Option z_V → z_W → Prop} (M : z_M X zm_M_ranked rm_M_ranked Post) {T' : Nat → Nat × Nat} {G' : Nat → Nat → Option Nat} {n : Nat} {Q : (Int32 × (Nat → Nat → Int32)) → Prop} (rc : (Nat → Nat → Int32) → Int32 → Int32 → (Int32 × (Nat → Nat → Int32))) (sr : (Nat → Nat → Int32) → Int32 → Int32 → Prop) (S : (Nat → Nat → Int32)) (x1 : Int32) (x2 : Int32) (x3 : Int32) (x4 : Int32) (x6 : Int32) (s0 : Int32) (hE : ∀ (y5 : Int32) (S' : (Nat → Nat → Int32)), Q (y5, S') → z_G X zm_M_ranked (89, [(0, z_r 78), (1, .inl x1), (2, .inl x2), (3, .inl x3), (4, .inl x4), (5, .inl y5)], [], zW T' G' S' n, 0, 0)) (hC : ∀ (S : (Nat → Nat → Int32)) (x5 : Int32) (x6 : Int32), Q (rc S x5 x6) → sr S x5 x6 → z_G X zm_M_ranked (30, [(0, z_r 78), (1, .inl x1), (2, .inl x2), (3, .inl x3), (4, .inl x4), (5, .inl x5), (6, .inl x6)], [], zW T' G' S n, 0, 0)) (K : Q (F_M_ranked_l30_79 rc S x1 x2 x3 x4 x6 s0)) (hs : Sf_M_ranked_l30_79 rc sr S x1 x2 x3 x4 x6 s0) : z_G X zm_M_ranked (79, [(0, z_r 78), (1, .inl x1), (2, .inl x2), (3, .inl x3), (4, .inl x4), (6, .inl x6)], [.inl s0], zW T' G' S n, 0, 0) := by
  unfold F_M_ranked_l30_79 at K
  unfold Sf_M_ranked_l30_79 at hs
  refine z_go2 M.1 79 [(.iconst 0, 1), (.iadd, 1), (.istore 5, 2), (.iinc 6 1, 3), (.goto (-56), 3)] (30, [(6, .inl (x6 + 1)), (5, .inl (s0 + 0)), (0, z_r 78), (1, .inl x1), (2, .inl x2), (3, .inl x3), (4, .inl x4)], [], zW T' G' S n, 0, 0) (by decide +kernel) rfl ⟨trivial, trivial, trivial, trivial, trivial, trivial⟩ ?_
  exact z_lvs (lv' := [(0, z_r 78), (1, .inl x1), (2, .inl x2), (3, .inl x3), (4, .inl x4), (5, .inl (s0 + 0)), (6, .inl (x6 + 1))]) [2, 3, 4, 5, 6, 1, 0] rfl (hC S (s0 + 0) (x6 + 1) K hs)
def F_M_ranked_L30 (x1 : Int32) (x2 : Int32) (x3 : Int32) (x4 : Int32) : Nat → (Nat → Nat → Int32) → Int32 → Int32 → (Int32 × (Nat → Nat → Int32))
  | 0, S, x5, x6 => (x5, S)
  | f + 1, S, x5, x6 => (if (S 86 0) ≤ x6 then (x5, S) else (if (F_M_sees 86 S x1 x6) = 0 then (F_M_ranked_l30_79 (F_M_ranked_L30 x1 x2 x3 x4 f) S x1 x2 x3 x4 x6 x5) else (if (S 167 (x4).toNatClampNeg) ≤ (S 167 (x6).toNatClampNeg) then (F_M_ranked_l30_79 (F_M_ranked_L30 x1 x2 x3 x4 f) S x1 x2 x3 x4 x6 x5) else ((F_M_ranked_L30 x1 x2 x3 x4 f) S (x5 + 1) (x6 + 1)))))
def Sf_M_ranked_L30 (x1 : Int32) (x2 : Int32) (x3 : Int32) (x4 : Int32) : Nat → (Nat → Nat → Int32) → Int32 → Int32 → Prop
  | 0, _, _, _ => False
  | f + 1, S, x5, x6 => (if (S 86 0) ≤ x6 then True else (Sf_M_sees 86 S x1 x6 ∧ (if (F_M_sees 86 S x1 x6) = 0 then (Sf_M_ranked_l30_79 (F_M_ranked_L30 x1 x2 x3 x4 f) (Sf_M_ranked_L30 x1 x2 x3 x4 f) S x1 x2 x3 x4 x6 x5) else ((vp_in x6 30) ∧ ((vp_in x4 30) ∧ (if (S 167 (x4).toNatClampNeg) ≤ (S 167 (x6).toNatClampNeg) then (Sf_M_ranked_l30_79 (F_M_ranked_L30 x1 x2 x3 x4 f) (Sf_M_ranked_L30 x1 x2 x3 x4 f) S x1 x2 x3 x4 x6 x5) else ((Sf_M_ranked_L30 x1 x2 x3 x4 f) S (x5 + 1) (x6 + 1))))))))
theorem t_M_ranked_L30 {X : z_X} {Post : Option z_V → z_W → Prop} (M : z_M X zm_M_ranked rm_M_ranked Post) {T' : Nat → Nat × Nat} {G' : Nat → Nat → Option Nat} {n : Nat} {Q : (Int32 × (Nat → Nat → Int32)) → Prop}  (x1 : Int32) (x2 : Int32) (x3 : Int32) (x4 : Int32) (hE : ∀ (y5 : Int32) (S' : (Nat → Nat → Int32)), Q (y5, S') → z_G X zm_M_ranked (89, [(0, z_r 78), (1, .inl x1), (2, .inl x2), (3, .inl x3), (4, .inl x4), (5, .inl y5)], [], zW T' G' S' n, 0, 0)) (f : Nat) : ∀ (S : (Nat → Nat → Int32)) (x5 : Int32) (x6 : Int32), Q (F_M_ranked_L30 x1 x2 x3 x4 f S x5 x6) → Sf_M_ranked_L30 x1 x2 x3 x4 f S x5 x6 → z_G X zm_M_ranked (30, [(0, z_r 78), (1, .inl x1), (2, .inl x2), (3, .inl x3), (4, .inl x4), (5, .inl x5), (6, .inl x6)], [], zW T' G' S n, 0, 0) := by
  induction f with
  | zero => intro S x5 x6 K hs; exact False.elim hs
  | succ f hC =>
    intro S x5 x6 K hs
    rw [F_M_ranked_L30] at K
    rw [Sf_M_ranked_L30] at hs
    refine z_go2 M.1 30 [(.iload 6, 2), (.aload_n 0, 1), (.getfield 34, 3), (.getfield 330, 3)] (39, [(0, z_r 78), (1, .inl x1), (2, .inl x2), (3, .inl x3), (4, .inl x4), (5, .inl x5), (6, .inl x6)], [.inl (S 86 0), .inl x6], zW T' G' S n, 0, 0) (by decide +kernel) rfl ⟨trivial, trivial, rfl, rfl, trivial⟩ ?_
    refine z_icmp_ge 89 M.1 (off := 50) (by decide +kernel) (by decide) (fun c39 => ?_) (fun c39 => ?_)
    · rw [if_pos c39] at K hs
      exact z_lvs (lv' := [(0, z_r 78), (1, .inl x1), (2, .inl x2), (3, .inl x3), (4, .inl x4), (5, .inl x5)]) [0, 1, 2, 3, 4, 5] rfl (hE x5 S K)
    · rw [if_neg c39] at K hs
      refine z_go2 M.1 42 [(.iload 5, 2), (.aload_n 0, 1), (.aload_n 0, 1), (.getfield 34, 3), (.iload_n 1, 1), (.iload 6, 2)] (52, [(0, z_r 78), (1, .inl x1), (2, .inl x2), (3, .inl x3), (4, .inl x4), (5, .inl x5), (6, .inl x6)], [.inl x6, .inl x1, z_r 86, z_r 78, .inl x5], zW T' G' S n, 0, 0) (by decide +kernel) rfl ⟨trivial, trivial, trivial, rfl, trivial, trivial, trivial⟩ ?_
      refine z_callV M.1 (av := [z_r 86, .inl x1, .inl x6]) (st := [.inl x5]) (a := 78) (ci := 14) (by decide +kernel) (c_M_sees_86 T' G' S n x1 x6 hs.1) M.2.1 zl_M_233 zv_M_sees rfl rfl rfl ⟨by decide, by decide, by decide, by decide⟩ rfl (Nat.le_of_ble_eq_true rfl) (fun v w' hv => ?_)
      obtain ⟨rfl, rfl⟩ := hv
      replace hs := hs.2
      show z_G X zm_M_ranked (55, [(0, z_r 78), (1, .inl x1), (2, .inl x2), (3, .inl x3), (4, .inl x4), (5, .inl x5), (6, .inl x6)], [.inl (F_M_sees 86 S x1 x6), .inl x5], zW T' G' S n, 0, 0)
      refine z_if_eq 79 M.1 (off := 24) (by decide +kernel) (by decide) (fun c55 => ?_) (fun c55 => ?_)
      · rw [if_pos c55] at K hs
        exact z_lvs (lv' := [(0, z_r 78), (1, .inl x1), (2, .inl x2), (3, .inl x3), (4, .inl x4), (6, .inl x6)]) [0, 1, 2, 3, 4, 6] rfl (t_M_ranked_l30_79 M (F_M_ranked_L30 x1 x2 x3 x4 f) (Sf_M_ranked_L30 x1 x2 x3 x4 f) S x1 x2 x3 x4 x6 x5 hE hC K hs)
      · rw [if_neg c55] at K hs
        refine z_go2 M.1 58 [(.aload_n 0, 1), (.getfield 95, 3), (.iload 6, 2), (.iaload, 1), (.aload_n 0, 1), (.getfield 95, 3), (.iload 4, 2), (.iaload, 1)] (72, [(0, z_r 78), (1, .inl x1), (2, .inl x2), (3, .inl x3), (4, .inl x4), (5, .inl x5), (6, .inl x6)], [.inl (S 167 (x4).toNatClampNeg), .inl (S 167 (x6).toNatClampNeg), .inl x5], zW T' G' S n, 0, 0) (by decide +kernel) rfl ⟨trivial, rfl, trivial, ⟨rfl, hs.1⟩, trivial, rfl, trivial, ⟨rfl, hs.2.1⟩, trivial⟩ ?_
        replace hs := hs.2.2
        refine z_icmp_ge 79 M.1 (off := 7) (by decide +kernel) (by decide) (fun c72 => ?_) (fun c72 => ?_)
        · rw [if_pos c72] at K hs
          exact z_lvs (lv' := [(0, z_r 78), (1, .inl x1), (2, .inl x2), (3, .inl x3), (4, .inl x4), (6, .inl x6)]) [0, 1, 2, 3, 4, 6] rfl (t_M_ranked_l30_79 M (F_M_ranked_L30 x1 x2 x3 x4 f) (Sf_M_ranked_L30 x1 x2 x3 x4 f) S x1 x2 x3 x4 x6 x5 hE hC K hs)
        · rw [if_neg c72] at K hs
          refine z_go2 M.1 75 [(.iconst 1, 1), (.goto 4, 3), (.iadd, 1), (.istore 5, 2), (.iinc 6 1, 3), (.goto (-56), 3)] (30, [(6, .inl (x6 + 1)), (5, .inl (x5 + 1)), (0, z_r 78), (1, .inl x1), (2, .inl x2), (3, .inl x3), (4, .inl x4)], [], zW T' G' S n, 0, 0) (by decide +kernel) rfl ⟨trivial, trivial, trivial, trivial, trivial, trivial, trivial⟩ ?_
          exact z_lvs (lv' := [(0, z_r 78), (1, .inl x1), (2, .inl x2), (3, .inl x3), (4, .inl x4), (5, .inl (x5 + 1)), (6, .inl (x6 + 1))]) [2, 3, 4, 5, 6, 1, 0] rfl (hC S (x5 + 1) (x6 + 1) K hs)
def F_M_ranked_l5_114 (rc : (Nat → Nat → Int32) → Int32 → Int32 → (Int32 × (Nat → Nat → Int32))) (S : (Nat → Nat → Int32)) (x1 : Int32) (x2 : Int32) (x3 : Int32) (x4 : Int32) : (Int32 × (Nat → Nat → Int32)) := (rc S x3 (x4 + 1))
def Sf_M_ranked_l5_114 (rc : (Nat → Nat → Int32) → Int32 → Int32 → (Int32 × (Nat → Nat → Int32))) (sr : (Nat → Nat → Int32) → Int32 → Int32 → Prop) (S : (Nat → Nat → Int32)) (x1 : Int32) (x2 : Int32) (x3 : Int32) (x4 : Int32) : Prop := (sr S x3 (x4 + 1))
theorem t_M_ranked_l5_114 {X : z_X} {Post : Option z_V → z_W → Prop} (M : z_M X zm_M_ranked rm_M_ranked Post) {T' : Nat → Nat × Nat} {G' : Nat → Nat → Option Nat} {n : Nat} {Q : (Int32 × (Nat → Nat → Int32)) → Prop} (rc : (Nat → Nat → Int32) → Int32 → Int32 → (Int32 × (Nat → Nat → Int32))) (sr : (Nat → Nat → Int32) → Int32 → Int32 → Prop) (S : (Nat → Nat → Int32)) (x1 : Int32) (x2 : Int32) (x3 : Int32) (x4 : Int32) (hE : ∀ (y3 : Int32) (S' : (Nat → Nat → Int32)), Q (y3, S') → z_G X zm_M_ranked (122, [(0, z_r 78), (3, .inl y3)], [], zW T' G' S' n, 0, 0)) (hC : ∀ (S : (Nat → Nat → Int32)) (x3 : Int32) (x4 : Int32), Q (rc S x3 x4) → sr S x3 x4 → z_G X zm_M_ranked (5, [(0, z_r 78), (1, .inl x1), (2, .inl x2), (3, .inl x3), (4, .inl x4)], [], zW T' G' S n, 0, 0)) (K : Q (F_M_ranked_l5_114 rc S x1 x2 x3 x4)) (hs : Sf_M_ranked_l5_114 rc sr S x1 x2 x3 x4) : z_G X zm_M_ranked (114, [(0, z_r 78), (1, .inl x1), (2, .inl x2), (3, .inl x3), (4, .inl x4)], [], zW T' G' S n, 0, 0) := by
  unfold F_M_ranked_l5_114 at K
  unfold Sf_M_ranked_l5_114 at hs
  refine z_go2 M.1 114 [(.iload_n 3, 1), (.istore_n 3, 1), (.iinc 4 1, 3), (.goto (-114), 3)] (5, [(4, .inl (x4 + 1)), (3, .inl x3), (0, z_r 78), (1, .inl x1), (2, .inl x2)], [], zW T' G' S n, 0, 0) (by decide +kernel) rfl ⟨trivial, trivial, trivial, trivial, trivial⟩ ?_
  exact z_lvs (lv' := [(0, z_r 78), (1, .inl x1), (2, .inl x2), (3, .inl x3), (4, .inl (x4 + 1))]) [2, 3, 4, 1, 0] rfl (hC S x3 (x4 + 1) K hs)
def F_M_ranked_L5 (x1 : Int32) (x2 : Int32) : Nat → (Nat → Nat → Int32) → Int32 → Int32 → (Int32 × (Nat → Nat → Int32))
  | 0, S, x3, x4 => (x3, S)
  | f + 1, S, x3, x4 => (if (S 86 0) ≤ x4 then (x3, S) else (if (F_M_isPerson S x1) = 0 then (x3, S) else (match F_M_ranked_L30 x1 x2 x3 x4 1300 S 0 0 with | (y5_30, S30) => (if (F_M_sees 86 S30 x1 x4) = 0 then (F_M_ranked_l5_114 (F_M_ranked_L5 x1 x2 f) S30 x1 x2 x3 x4) else (if y5_30 = x2 then ((F_M_ranked_L5 x1 x2 f) S30 x4 (x4 + 1)) else (F_M_ranked_l5_114 (F_M_ranked_L5 x1 x2 f) S30 x1 x2 x3 x4))))))
def Sf_M_ranked_L5 (x1 : Int32) (x2 : Int32) : Nat → (Nat → Nat → Int32) → Int32 → Int32 → Prop
  | 0, _, _, _ => False
  | f + 1, S, x3, x4 => (if (S 86 0) ≤ x4 then True else (Sf_M_isPerson S x1 ∧ (if (F_M_isPerson S x1) = 0 then True else (Sf_M_ranked_L30 x1 x2 x3 x4 1300 S 0 0 ∧ (match F_M_ranked_L30 x1 x2 x3 x4 1300 S 0 0 with | (y5_30, S30) => (Sf_M_sees 86 S30 x1 x4 ∧ (if (F_M_sees 86 S30 x1 x4) = 0 then (Sf_M_ranked_l5_114 (F_M_ranked_L5 x1 x2 f) (Sf_M_ranked_L5 x1 x2 f) S30 x1 x2 x3 x4) else (if y5_30 = x2 then ((Sf_M_ranked_L5 x1 x2 f) S30 x4 (x4 + 1)) else (Sf_M_ranked_l5_114 (F_M_ranked_L5 x1 x2 f) (Sf_M_ranked_L5 x1 x2 f) S30 x1 x2 x3 x4)))))))))
theorem t_M_ranked_L5 {X : z_X} {Post : Option z_V → z_W → Prop} (M : z_M X zm_M_ranked rm_M_ranked Post) {T' : Nat → Nat × Nat} {G' : Nat → Nat → Option Nat} {n : Nat} {Q : (Int32 × (Nat → Nat → Int32)) → Prop}  (x1 : Int32) (x2 : Int32) (hE : ∀ (y3 : Int32) (S' : (Nat → Nat → Int32)), Q (y3, S') → z_G X zm_M_ranked (122, [(0, z_r 78), (3, .inl y3)], [], zW T' G' S' n, 0, 0)) (f : Nat) : ∀ (S : (Nat → Nat → Int32)) (x3 : Int32) (x4 : Int32), Q (F_M_ranked_L5 x1 x2 f S x3 x4) → Sf_M_ranked_L5 x1 x2 f S x3 x4 → z_G X zm_M_ranked (5, [(0, z_r 78), (1, .inl x1), (2, .inl x2), (3, .inl x3), (4, .inl x4)], [], zW T' G' S n, 0, 0) := by
  induction f with
  | zero => intro S x3 x4 K hs; exact False.elim hs
  | succ f hC =>
    intro S x3 x4 K hs
    rw [F_M_ranked_L5] at K
    rw [Sf_M_ranked_L5] at hs
    refine z_go2 M.1 5 [(.iload 4, 2), (.aload_n 0, 1), (.getfield 34, 3), (.getfield 330, 3)] (14, [(0, z_r 78), (1, .inl x1), (2, .inl x2), (3, .inl x3), (4, .inl x4)], [.inl (S 86 0), .inl x4], zW T' G' S n, 0, 0) (by decide +kernel) rfl ⟨trivial, trivial, rfl, rfl, trivial⟩ ?_
    refine z_icmp_ge 122 M.1 (off := 108) (by decide +kernel) (by decide) (fun c14 => ?_) (fun c14 => ?_)
    · rw [if_pos c14] at K hs
      exact z_lvs (lv' := [(0, z_r 78), (3, .inl x3)]) [0, 3] rfl (hE x3 S K)
    · rw [if_neg c14] at K hs
      refine z_go2 M.1 17 [(.iload_n 1, 1)] (18, [(0, z_r 78), (1, .inl x1), (2, .inl x2), (3, .inl x3), (4, .inl x4)], [.inl x1], zW T' G' S n, 0, 0) (by decide +kernel) rfl ⟨trivial, trivial⟩ ?_
      refine z_callS M.1 (av := [.inl x1]) (st := []) (by decide +kernel) (c_M_isPerson T' G' S n x1 hs.1) M.2.1 zl_M_295 zs_M_isPerson ⟨by decide, by decide, by decide, by decide⟩ rfl (Nat.le_of_ble_eq_true rfl) (fun v w' hv => ?_)
      obtain ⟨rfl, rfl⟩ := hv
      replace hs := hs.2
      show z_G X zm_M_ranked (21, [(0, z_r 78), (1, .inl x1), (2, .inl x2), (3, .inl x3), (4, .inl x4)], [.inl (F_M_isPerson S x1)], zW T' G' S n, 0, 0)
      refine z_if_eq 122 M.1 (off := 101) (by decide +kernel) (by decide) (fun c21 => ?_) (fun c21 => ?_)
      · rw [if_pos c21] at K hs
        exact z_lvs (lv' := [(0, z_r 78), (3, .inl x3)]) [0, 3] rfl (hE x3 S K)
      · rw [if_neg c21] at K hs
        refine z_go2 M.1 24 [(.iconst 0, 1), (.istore 5, 2), (.iconst 0, 1), (.istore 6, 2)] (30, [(6, .inl 0), (5, .inl 0), (0, z_r 78), (1, .inl x1), (2, .inl x2), (3, .inl x3), (4, .inl x4)], [], zW T' G' S n, 0, 0) (by decide +kernel) rfl ⟨trivial, trivial, trivial, trivial, trivial⟩ ?_
        refine z_lvs (lv' := [(0, z_r 78), (1, .inl x1), (2, .inl x2), (3, .inl x3), (4, .inl x4), (5, .inl 0), (6, .inl 0)]) [2, 3, 4, 5, 6, 1, 0] rfl ?_
        refine t_M_ranked_L30 M (Q := fun o => F_M_ranked_L30 x1 x2 x3 x4 1300 S 0 0 = o) x1 x2 x3 x4 (fun y5_30 S30 hL30 => ?_) 1300 S 0 0 rfl hs.1
        replace hs := hs.2
        rw [hL30] at K
        try rw [hL30] at hs
        try dsimp only at K hs
        refine z_go2 M.1 89 [(.aload_n 0, 1), (.aload_n 0, 1), (.getfield 34, 3), (.iload_n 1, 1), (.iload 4, 2)] (97, [(0, z_r 78), (1, .inl x1), (2, .inl x2), (3, .inl x3), (4, .inl x4), (5, .inl y5_30)], [.inl x4, .inl x1, z_r 86, z_r 78], zW T' G' S30 n, 0, 0) (by decide +kernel) rfl ⟨trivial, trivial, rfl, trivial, trivial, trivial⟩ ?_
        refine z_callV M.1 (av := [z_r 86, .inl x1, .inl x4]) (st := []) (a := 78) (ci := 14) (by decide +kernel) (c_M_sees_86 T' G' S30 n x1 x4 hs.1) M.2.1 zl_M_233 zv_M_sees rfl rfl rfl ⟨by decide, by decide, by decide, by decide⟩ rfl (Nat.le_of_ble_eq_true rfl) (fun v w' hv => ?_)
        obtain ⟨rfl, rfl⟩ := hv
        replace hs := hs.2
        show z_G X zm_M_ranked (100, [(0, z_r 78), (1, .inl x1), (2, .inl x2), (3, .inl x3), (4, .inl x4), (5, .inl y5_30)], [.inl (F_M_sees 86 S30 x1 x4)], zW T' G' S30 n, 0, 0)
        refine z_if_eq 114 M.1 (off := 14) (by decide +kernel) (by decide) (fun c100 => ?_) (fun c100 => ?_)
        · rw [if_pos c100] at K hs
          exact z_lvs (lv' := [(0, z_r 78), (1, .inl x1), (2, .inl x2), (3, .inl x3), (4, .inl x4)]) [0, 1, 2, 3, 4] rfl (t_M_ranked_l5_114 M (F_M_ranked_L5 x1 x2 f) (Sf_M_ranked_L5 x1 x2 f) S30 x1 x2 x3 x4 hE hC K hs)
        · rw [if_neg c100] at K hs
          refine z_go2 M.1 103 [(.iload 5, 2), (.iload_n 2, 1)] (106, [(0, z_r 78), (1, .inl x1), (2, .inl x2), (3, .inl x3), (4, .inl x4), (5, .inl y5_30)], [.inl x2, .inl y5_30], zW T' G' S30 n, 0, 0) (by decide +kernel) rfl ⟨trivial, trivial, trivial⟩ ?_
          refine z_icmp_ne 114 M.1 (off := 8) (by decide +kernel) (by decide) (fun c106 => ?_) (fun c106 => ?_)
          · rw [if_neg c106] at K hs
            exact z_lvs (lv' := [(0, z_r 78), (1, .inl x1), (2, .inl x2), (3, .inl x3), (4, .inl x4)]) [0, 1, 2, 3, 4] rfl (t_M_ranked_l5_114 M (F_M_ranked_L5 x1 x2 f) (Sf_M_ranked_L5 x1 x2 f) S30 x1 x2 x3 x4 hE hC K hs)
          · rw [if_pos c106] at K hs
            refine z_go2 M.1 109 [(.iload 4, 2), (.goto 4, 3), (.istore_n 3, 1), (.iinc 4 1, 3), (.goto (-114), 3)] (5, [(4, .inl (x4 + 1)), (3, .inl x4), (0, z_r 78), (1, .inl x1), (2, .inl x2), (5, .inl y5_30)], [], zW T' G' S30 n, 0, 0) (by decide +kernel) rfl ⟨trivial, trivial, trivial, trivial, trivial, trivial⟩ ?_
            exact z_lvs (lv' := [(0, z_r 78), (1, .inl x1), (2, .inl x2), (3, .inl x4), (4, .inl (x4 + 1))]) [2, 3, 4, 1, 0] rfl (hC S30 x4 (x4 + 1) K hs)
def F_M_ranked_j133 (S : (Nat → Nat → Int32)) (x3 : Int32) (s0 : Int32) : (Int32 × (Nat → Nat → Int32)) := (if s0 ≤ 0 then (x3, (z_uS S 78 0 s0)) else (0, (z_uS S 78 0 s0)))
theorem t_M_ranked_j133 {X : z_X} {Post : Option z_V → z_W → Prop} (M : z_M X zm_M_ranked rm_M_ranked Post) {T' : Nat → Nat × Nat} {G' : Nat → Nat → Option Nat} {n : Nat} {Q : (Int32 × (Nat → Nat → Int32)) → Prop} (S : (Nat → Nat → Int32)) (x3 : Int32) (s0 : Int32) (hQ : ∀ v S', Q (v, S') → Post (some (.inl v)) (zW T' G' S' n)) (K : Q (F_M_ranked_j133 S x3 s0)) : z_G X zm_M_ranked (133, [(0, z_r 78), (3, .inl x3)], [.inl s0, z_r 78], zW T' G' S n, 0, 0) := by
  unfold F_M_ranked_j133 at K
  refine z_go2 M.1 133 [(.putfield 175, 3), (.aload_n 0, 1), (.getfield 175, 3)] (140, [(0, z_r 78), (3, .inl x3)], [.inl s0], zW T' G' (z_uS S 78 0 s0) n, 0, 0) (by decide +kernel) rfl ⟨⟨rfl, trivial⟩, trivial, rfl, trivial⟩ ?_
  refine z_if_le 147 M.1 (off := 7) (by decide +kernel) (by decide) (fun c140 => ?_) (fun c140 => ?_)
  · rw [if_pos c140] at K
    refine z_go2 M.1 147 [(.iload_n 3, 1)] (148, [(0, z_r 78), (3, .inl x3)], [.inl x3], zW T' G' (z_uS S 78 0 s0) n, 0, 0) (by decide +kernel) rfl ⟨trivial, trivial⟩ ?_
    exact z_iret M (by decide +kernel) .int rfl rfl (by decide) (by decide) (hQ _ _ K)
  · rw [if_neg c140] at K
    refine z_go2 M.1 143 [(.iconst 0, 1), (.goto 4, 3)] (148, [(0, z_r 78), (3, .inl x3)], [.inl 0], zW T' G' (z_uS S 78 0 s0) n, 0, 0) (by decide +kernel) rfl ⟨trivial, trivial, trivial⟩ ?_
    exact z_iret M (by decide +kernel) .int rfl rfl (by decide) (by decide) (hQ _ _ K)
def F_M_ranked (S : (Nat → Nat → Int32)) (p1 : Int32) (p2 : Int32) : (Int32 × (Nat → Nat → Int32)) := (match F_M_ranked_L5 p1 p2 1300 S (-1) 0 with | (y3_5, S5) => (if y3_5 = (-1) then (F_M_ranked_j133 S5 y3_5 1) else (F_M_ranked_j133 S5 y3_5 0)))
def Sf_M_ranked (S : (Nat → Nat → Int32)) (p1 : Int32) (p2 : Int32) : Prop := (Sf_M_ranked_L5 p1 p2 1300 S (-1) 0 ∧ True)
theorem c_M_ranked (T' : Nat → Nat × Nat) (G' : Nat → Nat → Option Nat) (S : (Nat → Nat → Int32)) (n : Nat) (p1 : Int32) (p2 : Int32) (hs : Sf_M_ranked S p1 p2) : z_Run rm_M_ranked zm_M_ranked [z_r 78, .inl p1, .inl p2] (zW T' G' S n) (zq (some (.inl (F_M_ranked S p1 p2).1)) (zW T' G' (F_M_ranked S p1 p2).2 n)) := by
  refine z_body (by decide) zf_M_ok (Nat.le_of_ble_eq_true rfl) (fun X M => ?_)
  obtain ⟨Q, hQ, K⟩ : ∃ Q : (Int32 × (Nat → Nat → Int32)) → Prop, (∀ v S', Q (v, S') → zq (some (.inl (F_M_ranked S p1 p2).1)) (zW T' G' (F_M_ranked S p1 p2).2 n) (some (.inl v)) (zW T' G' S' n)) ∧ Q (F_M_ranked S p1 p2) := ⟨fun o => F_M_ranked S p1 p2 = o, fun v S' h => ⟨by rw [h], by rw [h]⟩, rfl⟩
  show z_G X zm_M_ranked (0, [(0, z_r 78), (1, .inl p1), (2, .inl p2)], [], zW T' G' S n, 0, 0)
  unfold F_M_ranked at K
  unfold Sf_M_ranked at hs
  refine z_go2 M.1 0 [(.iconst (-1), 1), (.istore_n 3, 1), (.iconst 0, 1), (.istore 4, 2)] (5, [(4, .inl 0), (3, .inl (-1)), (0, z_r 78), (1, .inl p1), (2, .inl p2)], [], zW T' G' S n, 0, 0) (by decide +kernel) rfl ⟨trivial, trivial, trivial, trivial, trivial⟩ ?_
  refine z_lvs (lv' := [(0, z_r 78), (1, .inl p1), (2, .inl p2), (3, .inl (-1)), (4, .inl 0)]) [2, 3, 4, 1, 0] rfl ?_
  refine t_M_ranked_L5 M (Q := fun o => F_M_ranked_L5 p1 p2 1300 S (-1) 0 = o) p1 p2 (fun y3_5 S5 hL5 => ?_) 1300 S (-1) 0 rfl hs.1
  replace hs := hs.2
  rw [hL5] at K
  try dsimp only at K
  refine z_go2 M.1 122 [(.aload_n 0, 1), (.iload_n 3, 1), (.iconst (-1), 1)] (125, [(0, z_r 78), (3, .inl y3_5)], [.inl (-1), .inl y3_5, z_r 78], zW T' G' S5 n, 0, 0) (by decide +kernel) rfl ⟨trivial, trivial, trivial, trivial⟩ ?_
  refine z_icmp_ne 132 M.1 (off := 7) (by decide +kernel) (by decide) (fun c125 => ?_) (fun c125 => ?_)
  · rw [if_neg c125] at K
    refine z_go2 M.1 132 [(.iconst 0, 1)] (133, [(0, z_r 78), (3, .inl y3_5)], [.inl 0, z_r 78], zW T' G' S5 n, 0, 0) (by decide +kernel) rfl ⟨trivial, trivial⟩ ?_
    exact z_lvs (lv' := [(0, z_r 78), (3, .inl y3_5)]) [0, 1] rfl (t_M_ranked_j133 M S5 y3_5 0 hQ K)
  · rw [if_pos c125] at K
    refine z_go2 M.1 128 [(.iconst 1, 1), (.goto 4, 3)] (133, [(0, z_r 78), (3, .inl y3_5)], [.inl 1, z_r 78], zW T' G' S5 n, 0, 0) (by decide +kernel) rfl ⟨trivial, trivial, trivial⟩ ?_
    exact z_lvs (lv' := [(0, z_r 78), (3, .inl y3_5)]) [0, 1] rfl (t_M_ranked_j133 M S5 y3_5 1 hQ K)

-- TrackHouseModel.isGoal
abbrev rm_M_isGoal : Room := zr 0
def F_M_isGoal_j28 (S : (Nat → Nat → Int32)) : Int32 := 0
theorem t_M_isGoal_j28 {X : z_X} {Post : Option z_V → z_W → Prop} (M : z_M X zm_M_isGoal rm_M_isGoal Post) {T' : Nat → Nat × Nat} {G' : Nat → Nat → Option Nat} {n : Nat} {Q : Int32 → Prop} (S : (Nat → Nat → Int32)) (hQ : ∀ v, Q v → Post (some (.inl v)) (zW T' G' S n)) (K : Q (F_M_isGoal_j28 S)) : z_G X zm_M_isGoal (28, [], [], zW T' G' S n, 0, 0) := by
  unfold F_M_isGoal_j28 at K
  refine z_go2 M.1 28 [(.iconst 0, 1)] (29, [], [.inl 0], zW T' G' S n, 0, 0) (by decide +kernel) rfl ⟨trivial, trivial⟩ ?_
  exact z_iret M (by decide +kernel) .boolean rfl rfl (by decide) (by decide) (hQ _ K)
def F_M_isGoal (S : (Nat → Nat → Int32)) (p1 : Int32) (p2 : Int32) : Int32 := (if (S 164 (p1).toNatClampNeg) = (-1) then (F_M_isGoal_j28 S) else (if (((S 166 (p1).toNatClampNeg) >>> (p2 &&& 31)) &&& 1) = 1 then 1 else (F_M_isGoal_j28 S)))
def Sf_M_isGoal (S : (Nat → Nat → Int32)) (p1 : Int32) (p2 : Int32) : Prop := ((vp_in p1 3) ∧ (if (S 164 (p1).toNatClampNeg) = (-1) then True else ((vp_in p1 3) ∧ True)))
theorem c_M_isGoal (T' : Nat → Nat × Nat) (G' : Nat → Nat → Option Nat) (S : (Nat → Nat → Int32)) (n : Nat) (p1 : Int32) (p2 : Int32) (hs : Sf_M_isGoal S p1 p2) : z_Run rm_M_isGoal zm_M_isGoal [z_r 78, .inl p1, .inl p2] (zW T' G' S n) (zq (some (.inl (F_M_isGoal S p1 p2))) (zW T' G' S n)) := by
  refine z_body (by decide) zf_M_ok (Nat.le_of_ble_eq_true rfl) (fun X M => ?_)
  obtain ⟨Q, hQ, K⟩ : ∃ Q : Int32 → Prop, (∀ v, Q v → zq (some (.inl (F_M_isGoal S p1 p2))) (zW T' G' S n) (some (.inl v)) (zW T' G' S n)) ∧ Q (F_M_isGoal S p1 p2) := ⟨fun o => F_M_isGoal S p1 p2 = o, fun v h => ⟨by rw [h], rfl⟩, rfl⟩
  show z_G X zm_M_isGoal (0, [(0, z_r 78), (1, .inl p1), (2, .inl p2)], [], zW T' G' S n, 0, 0)
  unfold F_M_isGoal at K
  unfold Sf_M_isGoal at hs
  refine z_go2 M.1 0 [(.aload_n 0, 1), (.getfield 86, 3), (.iload_n 1, 1), (.iaload, 1), (.iconst (-1), 1)] (7, [(0, z_r 78), (1, .inl p1), (2, .inl p2)], [.inl (-1), .inl (S 164 (p1).toNatClampNeg)], zW T' G' S n, 0, 0) (by decide +kernel) rfl ⟨trivial, rfl, trivial, ⟨rfl, hs.1⟩, trivial, trivial⟩ ?_
  replace hs := hs.2
  refine z_icmp_eq 28 M.1 (off := 21) (by decide +kernel) (by decide) (fun c7 => ?_) (fun c7 => ?_)
  · rw [if_pos c7] at K hs
    exact z_lvs (lv' := []) [] rfl (t_M_isGoal_j28 M S hQ K)
  · rw [if_neg c7] at K hs
    refine z_go2 M.1 10 [(.aload_n 0, 1), (.getfield 92, 3), (.iload_n 1, 1), (.iaload, 1), (.iload_n 2, 1), (.ishr, 1), (.iconst 1, 1), (.iand, 1), (.iconst 1, 1)] (21, [(0, z_r 78), (1, .inl p1), (2, .inl p2)], [.inl 1, .inl (((S 166 (p1).toNatClampNeg) >>> (p2 &&& 31)) &&& 1)], zW T' G' S n, 0, 0) (by decide +kernel) rfl ⟨trivial, rfl, trivial, ⟨rfl, hs.1⟩, trivial, trivial, trivial, trivial, trivial, trivial⟩ ?_
    replace hs := hs.2
    refine z_icmp_ne 28 M.1 (off := 7) (by decide +kernel) (by decide) (fun c21 => ?_) (fun c21 => ?_)
    · rw [if_neg c21] at K
      exact z_lvs (lv' := []) [] rfl (t_M_isGoal_j28 M S hQ K)
    · rw [if_pos c21] at K
      refine z_go2 M.1 24 [(.iconst 1, 1), (.goto 4, 3)] (29, [(0, z_r 78), (1, .inl p1), (2, .inl p2)], [.inl 1], zW T' G' S n, 0, 0) (by decide +kernel) rfl ⟨trivial, trivial, trivial⟩ ?_
      exact z_iret M (by decide +kernel) .boolean rfl rfl (by decide) (by decide) (hQ _ K)

-- TrackHouseModel.burn
abbrev rm_M_burn : Room := zr 5
def F_M_burn_l55_145 (rc : (Nat → Nat → Int32) → Int32 → Int32 → (Int32 × (Nat → Nat → Int32))) (S : (Nat → Nat → Int32)) (x1 : Int32) (x2 : Int32) (x4 : Int32) (x5 : Int32) (s0 : Int32) : (Int32 × (Nat → Nat → Int32)) := (if s0 = (-1) then (rc S (x4 + 0) (x5 + 1)) else (rc S (x4 + s0) (x5 + 1)))
def Sf_M_burn_l55_145 (rc : (Nat → Nat → Int32) → Int32 → Int32 → (Int32 × (Nat → Nat → Int32))) (sr : (Nat → Nat → Int32) → Int32 → Int32 → Prop) (S : (Nat → Nat → Int32)) (x1 : Int32) (x2 : Int32) (x4 : Int32) (x5 : Int32) (s0 : Int32) : Prop := (if s0 = (-1) then (sr S (x4 + 0) (x5 + 1)) else (sr S (x4 + s0) (x5 + 1)))
theorem t_M_burn_l55_145 {X : z_X} {Post : Option z_V → z_W → Prop} (M : z_M X zm_M_burn rm_M_burn Post) {T' : Nat → Nat × Nat} {G' : Nat → Nat → Option Nat} {n : Nat} {Q : (Int32 × (Nat → Nat → Int32)) → Prop} (rc : (Nat → Nat → Int32) → Int32 → Int32 → (Int32 × (Nat → Nat → Int32))) (sr : (Nat → Nat → Int32) → Int32 → Int32 → Prop) (S : (Nat → Nat → Int32)) (x1 : Int32) (x2 : Int32) (x4 : Int32) (x5 : Int32) (s0 : Int32) (hE : ∀ (y4 : Int32) (S' : (Nat → Nat → Int32)), Q (y4, S') → z_G X zm_M_burn (170, [(4, .inl y4)], [], zW T' G' S' n, 0, 0)) (hC : ∀ (S : (Nat → Nat → Int32)) (x4 : Int32) (x5 : Int32), Q (rc S x4 x5) → sr S x4 x5 → z_G X zm_M_burn (55, [(0, z_r 78), (1, .inl x1), (2, .inl x2), (4, .inl x4), (5, .inl x5)], [], zW T' G' S n, 0, 0)) (K : Q (F_M_burn_l55_145 rc S x1 x2 x4 x5 s0)) (hs : Sf_M_burn_l55_145 rc sr S x1 x2 x4 x5 s0) : z_G X zm_M_burn (145, [(0, z_r 78), (1, .inl x1), (2, .inl x2), (4, .inl x4), (5, .inl x5)], [.inl s0], zW T' G' S n, 0, 0) := by
  unfold F_M_burn_l55_145 at K
  unfold Sf_M_burn_l55_145 at hs
  refine z_go2 M.1 145 [(.istore 7, 2), (.iload 4, 2), (.iload 7, 2), (.iconst (-1), 1)] (152, [(7, .inl s0), (0, z_r 78), (1, .inl x1), (2, .inl x2), (4, .inl x4), (5, .inl x5)], [.inl (-1), .inl s0, .inl x4], zW T' G' S n, 0, 0) (by decide +kernel) rfl ⟨trivial, trivial, trivial, trivial, trivial⟩ ?_
  refine z_icmp_ne 159 M.1 (off := 7) (by decide +kernel) (by decide) (fun c152 => ?_) (fun c152 => ?_)
  · rw [if_neg c152] at K hs
    refine z_go2 M.1 159 [(.iload 7, 2), (.iadd, 1), (.istore 4, 2), (.iinc 5 1, 3), (.goto (-112), 3)] (55, [(5, .inl (x5 + 1)), (4, .inl (x4 + s0)), (7, .inl s0), (0, z_r 78), (1, .inl x1), (2, .inl x2)], [], zW T' G' S n, 0, 0) (by decide +kernel) rfl ⟨trivial, trivial, trivial, trivial, trivial, trivial⟩ ?_
    exact z_lvs (lv' := [(0, z_r 78), (1, .inl x1), (2, .inl x2), (4, .inl (x4 + s0)), (5, .inl (x5 + 1))]) [3, 4, 5, 1, 0] rfl (hC S (x4 + s0) (x5 + 1) K hs)
  · rw [if_pos c152] at K hs
    refine z_go2 M.1 155 [(.iconst 0, 1), (.goto 5, 3), (.iadd, 1), (.istore 4, 2), (.iinc 5 1, 3), (.goto (-112), 3)] (55, [(5, .inl (x5 + 1)), (4, .inl (x4 + 0)), (7, .inl s0), (0, z_r 78), (1, .inl x1), (2, .inl x2)], [], zW T' G' S n, 0, 0) (by decide +kernel) rfl ⟨trivial, trivial, trivial, trivial, trivial, trivial, trivial⟩ ?_
    exact z_lvs (lv' := [(0, z_r 78), (1, .inl x1), (2, .inl x2), (4, .inl (x4 + 0)), (5, .inl (x5 + 1))]) [3, 4, 5, 1, 0] rfl (hC S (x4 + 0) (x5 + 1) K hs)
def F_M_burn_l55_122 (rc : (Nat → Nat → Int32) → Int32 → Int32 → (Int32 × (Nat → Nat → Int32))) (S : (Nat → Nat → Int32)) (x1 : Int32) (x2 : Int32) (x4 : Int32) (x5 : Int32) (s0 : Int32) : (Int32 × (Nat → Nat → Int32)) := (if s0 = 0 then (F_M_burn_l55_145 rc S x1 x2 x4 x5 (-1)) else (F_M_burn_l55_145 rc S x1 x2 x4 x5 (F_M_valueFor 98 S x1 x5 0)))
def Sf_M_burn_l55_122 (rc : (Nat → Nat → Int32) → Int32 → Int32 → (Int32 × (Nat → Nat → Int32))) (sr : (Nat → Nat → Int32) → Int32 → Int32 → Prop) (S : (Nat → Nat → Int32)) (x1 : Int32) (x2 : Int32) (x4 : Int32) (x5 : Int32) (s0 : Int32) : Prop := (if s0 = 0 then (Sf_M_burn_l55_145 rc sr S x1 x2 x4 x5 (-1)) else (Sf_M_valueFor 98 S x1 x5 0 ∧ (Sf_M_burn_l55_145 rc sr S x1 x2 x4 x5 (F_M_valueFor 98 S x1 x5 0))))
theorem t_M_burn_l55_122 {X : z_X} {Post : Option z_V → z_W → Prop} (M : z_M X zm_M_burn rm_M_burn Post) {T' : Nat → Nat × Nat} {G' : Nat → Nat → Option Nat} {n : Nat} {Q : (Int32 × (Nat → Nat → Int32)) → Prop} (rc : (Nat → Nat → Int32) → Int32 → Int32 → (Int32 × (Nat → Nat → Int32))) (sr : (Nat → Nat → Int32) → Int32 → Int32 → Prop) (S : (Nat → Nat → Int32)) (x1 : Int32) (x2 : Int32) (x4 : Int32) (x5 : Int32) (s0 : Int32) (hE : ∀ (y4 : Int32) (S' : (Nat → Nat → Int32)), Q (y4, S') → z_G X zm_M_burn (170, [(4, .inl y4)], [], zW T' G' S' n, 0, 0)) (hC : ∀ (S : (Nat → Nat → Int32)) (x4 : Int32) (x5 : Int32), Q (rc S x4 x5) → sr S x4 x5 → z_G X zm_M_burn (55, [(0, z_r 78), (1, .inl x1), (2, .inl x2), (4, .inl x4), (5, .inl x5)], [], zW T' G' S n, 0, 0)) (K : Q (F_M_burn_l55_122 rc S x1 x2 x4 x5 s0)) (hs : Sf_M_burn_l55_122 rc sr S x1 x2 x4 x5 s0) : z_G X zm_M_burn (122, [(0, z_r 78), (1, .inl x1), (2, .inl x2), (4, .inl x4), (5, .inl x5)], [.inl s0], zW T' G' S n, 0, 0) := by
  unfold F_M_burn_l55_122 at K
  unfold Sf_M_burn_l55_122 at hs
  refine z_go2 M.1 122 [(.istore 6, 2), (.iload 6, 2)] (126, [(6, .inl s0), (0, z_r 78), (1, .inl x1), (2, .inl x2), (4, .inl x4), (5, .inl x5)], [.inl s0], zW T' G' S n, 0, 0) (by decide +kernel) rfl ⟨trivial, trivial, trivial⟩ ?_
  refine z_if_eq 144 M.1 (off := 18) (by decide +kernel) (by decide) (fun c126 => ?_) (fun c126 => ?_)
  · rw [if_pos c126] at K hs
    refine z_go2 M.1 144 [(.iconst (-1), 1)] (145, [(6, .inl s0), (0, z_r 78), (1, .inl x1), (2, .inl x2), (4, .inl x4), (5, .inl x5)], [.inl (-1)], zW T' G' S n, 0, 0) (by decide +kernel) rfl ⟨trivial, trivial⟩ ?_
    exact z_lvs (lv' := [(0, z_r 78), (1, .inl x1), (2, .inl x2), (4, .inl x4), (5, .inl x5)]) [1, 2, 3, 4, 5] rfl (t_M_burn_l55_145 M rc sr S x1 x2 x4 x5 (-1) hE hC K hs)
  · rw [if_neg c126] at K hs
    refine z_go2 M.1 129 [(.aload_n 0, 1), (.aload_n 0, 1), (.getfield 38, 3), (.iload_n 1, 1), (.iload 5, 2), (.iconst 0, 1)] (138, [(6, .inl s0), (0, z_r 78), (1, .inl x1), (2, .inl x2), (4, .inl x4), (5, .inl x5)], [.inl 0, .inl x5, .inl x1, z_r 98, z_r 78], zW T' G' S n, 0, 0) (by decide +kernel) rfl ⟨trivial, trivial, rfl, trivial, trivial, trivial, trivial⟩ ?_
    refine z_callV M.1 (av := [z_r 98, .inl x1, .inl x5, .inl 0]) (st := []) (a := 78) (ci := 14) (by decide +kernel) (c_M_valueFor_98 T' G' S n x1 x5 0 hs.1) M.2.1 zl_M_428 zv_M_valueFor rfl rfl rfl ⟨by decide, by decide, by decide, by decide⟩ rfl (Nat.le_of_ble_eq_true rfl) (fun v w' hv => ?_)
    obtain ⟨rfl, rfl⟩ := hv
    replace hs := hs.2
    show z_G X zm_M_burn (141, [(6, .inl s0), (0, z_r 78), (1, .inl x1), (2, .inl x2), (4, .inl x4), (5, .inl x5)], [.inl (F_M_valueFor 98 S x1 x5 0)], zW T' G' S n, 0, 0)
    refine z_go2 M.1 141 [(.goto 4, 3)] (145, [(6, .inl s0), (0, z_r 78), (1, .inl x1), (2, .inl x2), (4, .inl x4), (5, .inl x5)], [.inl (F_M_valueFor 98 S x1 x5 0)], zW T' G' S n, 0, 0) (by decide +kernel) rfl ⟨trivial, trivial⟩ ?_
    exact z_lvs (lv' := [(0, z_r 78), (1, .inl x1), (2, .inl x2), (4, .inl x4), (5, .inl x5)]) [1, 2, 3, 4, 5] rfl (t_M_burn_l55_145 M rc sr S x1 x2 x4 x5 (F_M_valueFor 98 S x1 x5 0) hE hC K hs)
def F_M_burn_l55_121 (rc : (Nat → Nat → Int32) → Int32 → Int32 → (Int32 × (Nat → Nat → Int32))) (S : (Nat → Nat → Int32)) (x1 : Int32) (x2 : Int32) (x4 : Int32) (x5 : Int32) : (Int32 × (Nat → Nat → Int32)) := (F_M_burn_l55_122 rc S x1 x2 x4 x5 0)
def Sf_M_burn_l55_121 (rc : (Nat → Nat → Int32) → Int32 → Int32 → (Int32 × (Nat → Nat → Int32))) (sr : (Nat → Nat → Int32) → Int32 → Int32 → Prop) (S : (Nat → Nat → Int32)) (x1 : Int32) (x2 : Int32) (x4 : Int32) (x5 : Int32) : Prop := (Sf_M_burn_l55_122 rc sr S x1 x2 x4 x5 0)
theorem t_M_burn_l55_121 {X : z_X} {Post : Option z_V → z_W → Prop} (M : z_M X zm_M_burn rm_M_burn Post) {T' : Nat → Nat × Nat} {G' : Nat → Nat → Option Nat} {n : Nat} {Q : (Int32 × (Nat → Nat → Int32)) → Prop} (rc : (Nat → Nat → Int32) → Int32 → Int32 → (Int32 × (Nat → Nat → Int32))) (sr : (Nat → Nat → Int32) → Int32 → Int32 → Prop) (S : (Nat → Nat → Int32)) (x1 : Int32) (x2 : Int32) (x4 : Int32) (x5 : Int32) (hE : ∀ (y4 : Int32) (S' : (Nat → Nat → Int32)), Q (y4, S') → z_G X zm_M_burn (170, [(4, .inl y4)], [], zW T' G' S' n, 0, 0)) (hC : ∀ (S : (Nat → Nat → Int32)) (x4 : Int32) (x5 : Int32), Q (rc S x4 x5) → sr S x4 x5 → z_G X zm_M_burn (55, [(0, z_r 78), (1, .inl x1), (2, .inl x2), (4, .inl x4), (5, .inl x5)], [], zW T' G' S n, 0, 0)) (K : Q (F_M_burn_l55_121 rc S x1 x2 x4 x5)) (hs : Sf_M_burn_l55_121 rc sr S x1 x2 x4 x5) : z_G X zm_M_burn (121, [(0, z_r 78), (1, .inl x1), (2, .inl x2), (4, .inl x4), (5, .inl x5)], [], zW T' G' S n, 0, 0) := by
  unfold F_M_burn_l55_121 at K
  unfold Sf_M_burn_l55_121 at hs
  refine z_go2 M.1 121 [(.iconst 0, 1)] (122, [(0, z_r 78), (1, .inl x1), (2, .inl x2), (4, .inl x4), (5, .inl x5)], [.inl 0], zW T' G' S n, 0, 0) (by decide +kernel) rfl ⟨trivial, trivial⟩ ?_
  exact z_lvs (lv' := [(0, z_r 78), (1, .inl x1), (2, .inl x2), (4, .inl x4), (5, .inl x5)]) [0, 1, 2, 3, 4] rfl (t_M_burn_l55_122 M rc sr S x1 x2 x4 x5 0 hE hC K hs)
def F_M_burn_L55 (x1 : Int32) (x2 : Int32) : Nat → (Nat → Nat → Int32) → Int32 → Int32 → (Int32 × (Nat → Nat → Int32))
  | 0, S, x4, x5 => (x4, S)
  | f + 1, S, x4, x5 => (if (30 : Int32) ≤ x5 then (x4, S) else (if (F_M_sees 98 S x1 x5) = 0 then (F_M_burn_l55_121 (F_M_burn_L55 x1 x2 f) S x1 x2 x4 x5) else (if (S 106 (x5).toNatClampNeg) = x2 then (if (F_M_isGoal S (S 100 (x5).toNatClampNeg) (S 101 (x5).toNatClampNeg)) = 0 then (F_M_burn_l55_122 (F_M_burn_L55 x1 x2 f) S x1 x2 x4 x5 1) else (F_M_burn_l55_121 (F_M_burn_L55 x1 x2 f) S x1 x2 x4 x5)) else (F_M_burn_l55_121 (F_M_burn_L55 x1 x2 f) S x1 x2 x4 x5))))
def Sf_M_burn_L55 (x1 : Int32) (x2 : Int32) : Nat → (Nat → Nat → Int32) → Int32 → Int32 → Prop
  | 0, _, _, _ => False
  | f + 1, S, x4, x5 => (if (30 : Int32) ≤ x5 then True else (Sf_M_sees 98 S x1 x5 ∧ (if (F_M_sees 98 S x1 x5) = 0 then (Sf_M_burn_l55_121 (F_M_burn_L55 x1 x2 f) (Sf_M_burn_L55 x1 x2 f) S x1 x2 x4 x5) else ((vp_in x5 30) ∧ (if (S 106 (x5).toNatClampNeg) = x2 then ((vp_in x5 30) ∧ ((vp_in x5 30) ∧ (Sf_M_isGoal S (S 100 (x5).toNatClampNeg) (S 101 (x5).toNatClampNeg) ∧ (if (F_M_isGoal S (S 100 (x5).toNatClampNeg) (S 101 (x5).toNatClampNeg)) = 0 then (Sf_M_burn_l55_122 (F_M_burn_L55 x1 x2 f) (Sf_M_burn_L55 x1 x2 f) S x1 x2 x4 x5 1) else (Sf_M_burn_l55_121 (F_M_burn_L55 x1 x2 f) (Sf_M_burn_L55 x1 x2 f) S x1 x2 x4 x5))))) else (Sf_M_burn_l55_121 (F_M_burn_L55 x1 x2 f) (Sf_M_burn_L55 x1 x2 f) S x1 x2 x4 x5))))))
theorem t_M_burn_L55 {X : z_X} {Post : Option z_V → z_W → Prop} (M : z_M X zm_M_burn rm_M_burn Post) {T' : Nat → Nat × Nat} {G' : Nat → Nat → Option Nat} {n : Nat} {Q : (Int32 × (Nat → Nat → Int32)) → Prop}  (x1 : Int32) (x2 : Int32) (hE : ∀ (y4 : Int32) (S' : (Nat → Nat → Int32)), Q (y4, S') → z_G X zm_M_burn (170, [(4, .inl y4)], [], zW T' G' S' n, 0, 0)) (f : Nat) : ∀ (S : (Nat → Nat → Int32)) (x4 : Int32) (x5 : Int32), Q (F_M_burn_L55 x1 x2 f S x4 x5) → Sf_M_burn_L55 x1 x2 f S x4 x5 → z_G X zm_M_burn (55, [(0, z_r 78), (1, .inl x1), (2, .inl x2), (4, .inl x4), (5, .inl x5)], [], zW T' G' S n, 0, 0) := by
  induction f with
  | zero => intro S x4 x5 K hs; exact False.elim hs
  | succ f hC =>
    intro S x4 x5 K hs
    rw [F_M_burn_L55] at K
    rw [Sf_M_burn_L55] at hs
    refine z_go2 M.1 55 [(.iload 5, 2), (.bipush 30, 2)] (59, [(0, z_r 78), (1, .inl x1), (2, .inl x2), (4, .inl x4), (5, .inl x5)], [.inl 30, .inl x5], zW T' G' S n, 0, 0) (by decide +kernel) rfl ⟨trivial, trivial, trivial⟩ ?_
    refine z_icmp_ge 170 M.1 (off := 111) (by decide +kernel) (by decide) (fun c59 => ?_) (fun c59 => ?_)
    · rw [if_pos c59] at K hs
      exact z_lvs (lv' := [(4, .inl x4)]) [3] rfl (hE x4 S K)
    · rw [if_neg c59] at K hs
      refine z_go2 M.1 62 [(.aload_n 0, 1), (.aload_n 0, 1), (.getfield 38, 3), (.iload_n 1, 1), (.iload 5, 2)] (70, [(0, z_r 78), (1, .inl x1), (2, .inl x2), (4, .inl x4), (5, .inl x5)], [.inl x5, .inl x1, z_r 98, z_r 78], zW T' G' S n, 0, 0) (by decide +kernel) rfl ⟨trivial, trivial, rfl, trivial, trivial, trivial⟩ ?_
      refine z_callV M.1 (av := [z_r 98, .inl x1, .inl x5]) (st := []) (a := 78) (ci := 14) (by decide +kernel) (c_M_sees_98 T' G' S n x1 x5 hs.1) M.2.1 zl_M_233 zv_M_sees rfl rfl rfl ⟨by decide, by decide, by decide, by decide⟩ rfl (Nat.le_of_ble_eq_true rfl) (fun v w' hv => ?_)
      obtain ⟨rfl, rfl⟩ := hv
      replace hs := hs.2
      show z_G X zm_M_burn (73, [(0, z_r 78), (1, .inl x1), (2, .inl x2), (4, .inl x4), (5, .inl x5)], [.inl (F_M_sees 98 S x1 x5)], zW T' G' S n, 0, 0)
      refine z_if_eq 121 M.1 (off := 48) (by decide +kernel) (by decide) (fun c73 => ?_) (fun c73 => ?_)
      · rw [if_pos c73] at K hs
        exact z_lvs (lv' := [(0, z_r 78), (1, .inl x1), (2, .inl x2), (4, .inl x4), (5, .inl x5)]) [0, 1, 2, 3, 4] rfl (t_M_burn_l55_121 M (F_M_burn_L55 x1 x2 f) (Sf_M_burn_L55 x1 x2 f) S x1 x2 x4 x5 hE hC K hs)
      · rw [if_neg c73] at K hs
        refine z_go2 M.1 76 [(.aload_n 0, 1), (.getfield 38, 3), (.getfield 213, 3), (.iload 5, 2), (.iaload, 1), (.iload_n 2, 1)] (87, [(0, z_r 78), (1, .inl x1), (2, .inl x2), (4, .inl x4), (5, .inl x5)], [.inl x2, .inl (S 106 (x5).toNatClampNeg)], zW T' G' S n, 0, 0) (by decide +kernel) rfl ⟨trivial, rfl, rfl, trivial, ⟨rfl, hs.1⟩, trivial, trivial⟩ ?_
        replace hs := hs.2
        refine z_icmp_ne 121 M.1 (off := 34) (by decide +kernel) (by decide) (fun c87 => ?_) (fun c87 => ?_)
        · rw [if_neg c87] at K hs
          exact z_lvs (lv' := [(0, z_r 78), (1, .inl x1), (2, .inl x2), (4, .inl x4), (5, .inl x5)]) [0, 1, 2, 3, 4] rfl (t_M_burn_l55_121 M (F_M_burn_L55 x1 x2 f) (Sf_M_burn_L55 x1 x2 f) S x1 x2 x4 x5 hE hC K hs)
        · rw [if_pos c87] at K hs
          refine z_go2 M.1 90 [(.aload_n 0, 1), (.aload_n 0, 1), (.getfield 38, 3), (.getfield 237, 3), (.iload 5, 2), (.iaload, 1), (.aload_n 0, 1), (.getfield 38, 3), (.getfield 198, 3), (.iload 5, 2), (.iaload, 1)] (111, [(0, z_r 78), (1, .inl x1), (2, .inl x2), (4, .inl x4), (5, .inl x5)], [.inl (S 101 (x5).toNatClampNeg), .inl (S 100 (x5).toNatClampNeg), z_r 78], zW T' G' S n, 0, 0) (by decide +kernel) rfl ⟨trivial, trivial, rfl, rfl, trivial, ⟨rfl, hs.1⟩, trivial, rfl, rfl, trivial, ⟨rfl, hs.2.1⟩, trivial⟩ ?_
          replace hs := hs.2.2
          refine z_callV M.1 (av := [.inl (S 100 (x5).toNatClampNeg), .inl (S 101 (x5).toNatClampNeg)]) (st := []) (a := 78) (ci := 14) (by decide +kernel) (c_M_isGoal T' G' S n (S 100 (x5).toNatClampNeg) (S 101 (x5).toNatClampNeg) hs.1) M.2.1 zl_M_480 zv_M_isGoal rfl rfl rfl ⟨by decide, by decide, by decide, by decide⟩ rfl (Nat.le_of_ble_eq_true rfl) (fun v w' hv => ?_)
          obtain ⟨rfl, rfl⟩ := hv
          replace hs := hs.2
          show z_G X zm_M_burn (114, [(0, z_r 78), (1, .inl x1), (2, .inl x2), (4, .inl x4), (5, .inl x5)], [.inl (F_M_isGoal S (S 100 (x5).toNatClampNeg) (S 101 (x5).toNatClampNeg))], zW T' G' S n, 0, 0)
          refine z_if_ne 121 M.1 (off := 7) (by decide +kernel) (by decide) (fun c114 => ?_) (fun c114 => ?_)
          · rw [if_neg c114] at K hs
            exact z_lvs (lv' := [(0, z_r 78), (1, .inl x1), (2, .inl x2), (4, .inl x4), (5, .inl x5)]) [0, 1, 2, 3, 4] rfl (t_M_burn_l55_121 M (F_M_burn_L55 x1 x2 f) (Sf_M_burn_L55 x1 x2 f) S x1 x2 x4 x5 hE hC K hs)
          · rw [if_pos c114] at K hs
            refine z_go2 M.1 117 [(.iconst 1, 1), (.goto 4, 3)] (122, [(0, z_r 78), (1, .inl x1), (2, .inl x2), (4, .inl x4), (5, .inl x5)], [.inl 1], zW T' G' S n, 0, 0) (by decide +kernel) rfl ⟨trivial, trivial, trivial⟩ ?_
            exact z_lvs (lv' := [(0, z_r 78), (1, .inl x1), (2, .inl x2), (4, .inl x4), (5, .inl x5)]) [0, 1, 2, 3, 4] rfl (t_M_burn_l55_122 M (F_M_burn_L55 x1 x2 f) (Sf_M_burn_L55 x1 x2 f) S x1 x2 x4 x5 1 hE hC K hs)
def F_M_burn_j30 (S : (Nat → Nat → Int32)) (x1 : Int32) (x2 : Int32) (x3 : Int32) (s0 : Int32) : (Int32 × (Nat → Nat → Int32)) := (if s0 ≤ 0 then (z_let (F_M_asks (z_uS S 78 0 s0) x1 x3 0) (fun S46 => (match F_M_burn_L55 x1 x2 1300 S46 0 0 with | (y4_55, S55) => (y4_55, S55)))) else (0, (z_uS S 78 0 s0)))
def Sf_M_burn_j30 (S : (Nat → Nat → Int32)) (x1 : Int32) (x2 : Int32) (x3 : Int32) (s0 : Int32) : Prop := (if s0 ≤ 0 then (Sf_M_asks (z_uS S 78 0 s0) x1 x3 0 ∧ (z_let (F_M_asks (z_uS S 78 0 s0) x1 x3 0) (fun S46 => (Sf_M_burn_L55 x1 x2 1300 S46 0 0 ∧ True)))) else True)
theorem t_M_burn_j30 {X : z_X} {Post : Option z_V → z_W → Prop} (M : z_M X zm_M_burn rm_M_burn Post) {T' : Nat → Nat × Nat} {G' : Nat → Nat → Option Nat} {n : Nat} {Q : (Int32 × (Nat → Nat → Int32)) → Prop} (S : (Nat → Nat → Int32)) (x1 : Int32) (x2 : Int32) (x3 : Int32) (s0 : Int32) (hQ : ∀ v S', Q (v, S') → Post (some (.inl v)) (zW T' G' S' n)) (K : Q (F_M_burn_j30 S x1 x2 x3 s0)) (hs : Sf_M_burn_j30 S x1 x2 x3 s0) : z_G X zm_M_burn (30, [(0, z_r 78), (1, .inl x1), (2, .inl x2), (3, .inl x3)], [.inl s0, z_r 78], zW T' G' S n, 0, 0) := by
  unfold F_M_burn_j30 at K
  unfold Sf_M_burn_j30 at hs
  refine z_go2 M.1 30 [(.putfield 175, 3), (.aload_n 0, 1), (.getfield 175, 3)] (37, [(0, z_r 78), (1, .inl x1), (2, .inl x2), (3, .inl x3)], [.inl s0], zW T' G' (z_uS S 78 0 s0) n, 0, 0) (by decide +kernel) rfl ⟨⟨rfl, trivial⟩, trivial, rfl, trivial⟩ ?_
  refine z_if_le 42 M.1 (off := 5) (by decide +kernel) (by decide) (fun c37 => ?_) (fun c37 => ?_)
  · rw [if_pos c37] at K hs
    refine z_go2 M.1 42 [(.aload_n 0, 1), (.iload_n 1, 1), (.iload_n 3, 1), (.iconst 0, 1)] (46, [(0, z_r 78), (1, .inl x1), (2, .inl x2), (3, .inl x3)], [.inl 0, .inl x3, .inl x1, z_r 78], zW T' G' (z_uS S 78 0 s0) n, 0, 0) (by decide +kernel) rfl ⟨trivial, trivial, trivial, trivial, trivial⟩ ?_
    refine z_callV M.1 (av := [.inl x1, .inl x3, .inl 0]) (st := []) (a := 78) (ci := 14) (by decide +kernel) (c_M_asks T' G' (z_uS S 78 0 s0) n x1 x3 0 hs.1) M.2.1 zl_M_463 zv_M_asks rfl rfl rfl ⟨by decide, by decide, by decide, by decide⟩ rfl (Nat.le_of_ble_eq_true rfl) (fun v w' hv => ?_)
    replace hs := hs.2
    obtain ⟨S46, hF46⟩ : ∃ y, F_M_asks (z_uS S 78 0 s0) x1 x3 0 = y := ⟨_, rfl⟩
    rw [hF46] at K hv
    try rw [hF46] at hs
    try dsimp only [z_let] at K hs
    obtain ⟨rfl, rfl⟩ := hv
    show z_G X zm_M_burn (49, [(0, z_r 78), (1, .inl x1), (2, .inl x2), (3, .inl x3)], [], zW T' G' S46 n, 0, 0)
    refine z_go2 M.1 49 [(.iconst 0, 1), (.istore 4, 2), (.iconst 0, 1), (.istore 5, 2)] (55, [(5, .inl 0), (4, .inl 0), (0, z_r 78), (1, .inl x1), (2, .inl x2), (3, .inl x3)], [], zW T' G' S46 n, 0, 0) (by decide +kernel) rfl ⟨trivial, trivial, trivial, trivial, trivial⟩ ?_
    refine z_lvs (lv' := [(0, z_r 78), (1, .inl x1), (2, .inl x2), (4, .inl 0), (5, .inl 0)]) [2, 3, 4, 1, 0] rfl ?_
    refine t_M_burn_L55 M (Q := fun o => F_M_burn_L55 x1 x2 1300 S46 0 0 = o) x1 x2 (fun y4_55 S55 hL55 => ?_) 1300 S46 0 0 rfl hs.1
    replace hs := hs.2
    rw [hL55] at K
    try dsimp only at K
    refine z_go2 M.1 170 [(.iload 4, 2)] (172, [(4, .inl y4_55)], [.inl y4_55], zW T' G' S55 n, 0, 0) (by decide +kernel) rfl ⟨trivial, trivial⟩ ?_
    exact z_iret M (by decide +kernel) .int rfl rfl (by decide) (by decide) (hQ _ _ K)
  · rw [if_neg c37] at K hs
    refine z_go2 M.1 40 [(.iconst 0, 1)] (41, [(0, z_r 78), (1, .inl x1), (2, .inl x2), (3, .inl x3)], [.inl 0], zW T' G' (z_uS S 78 0 s0) n, 0, 0) (by decide +kernel) rfl ⟨trivial, trivial⟩ ?_
    exact z_iret M (by decide +kernel) .int rfl rfl (by decide) (by decide) (hQ _ _ K)
def F_M_burn_j29 (S : (Nat → Nat → Int32)) (x1 : Int32) (x2 : Int32) (x3 : Int32) : (Int32 × (Nat → Nat → Int32)) := (F_M_burn_j30 S x1 x2 x3 1)
def Sf_M_burn_j29 (S : (Nat → Nat → Int32)) (x1 : Int32) (x2 : Int32) (x3 : Int32) : Prop := (Sf_M_burn_j30 S x1 x2 x3 1)
theorem t_M_burn_j29 {X : z_X} {Post : Option z_V → z_W → Prop} (M : z_M X zm_M_burn rm_M_burn Post) {T' : Nat → Nat × Nat} {G' : Nat → Nat → Option Nat} {n : Nat} {Q : (Int32 × (Nat → Nat → Int32)) → Prop} (S : (Nat → Nat → Int32)) (x1 : Int32) (x2 : Int32) (x3 : Int32) (hQ : ∀ v S', Q (v, S') → Post (some (.inl v)) (zW T' G' S' n)) (K : Q (F_M_burn_j29 S x1 x2 x3)) (hs : Sf_M_burn_j29 S x1 x2 x3) : z_G X zm_M_burn (29, [(0, z_r 78), (1, .inl x1), (2, .inl x2), (3, .inl x3)], [z_r 78], zW T' G' S n, 0, 0) := by
  unfold F_M_burn_j29 at K
  unfold Sf_M_burn_j29 at hs
  refine z_go2 M.1 29 [(.iconst 1, 1)] (30, [(0, z_r 78), (1, .inl x1), (2, .inl x2), (3, .inl x3)], [.inl 1, z_r 78], zW T' G' S n, 0, 0) (by decide +kernel) rfl ⟨trivial, trivial⟩ ?_
  exact z_lvs (lv' := [(0, z_r 78), (1, .inl x1), (2, .inl x2), (3, .inl x3)]) [0, 1, 2, 3] rfl (t_M_burn_j30 M S x1 x2 x3 1 hQ K hs)
def F_M_burn (S : (Nat → Nat → Int32)) (p1 : Int32) (p2 : Int32) (p3 : Int32) : (Int32 × (Nat → Nat → Int32)) := (if (F_M_isPerson S p1) = 0 then (F_M_burn_j29 S p1 p2 p3) else (if (F_M_isIn S p2 0 3) = 0 then (F_M_burn_j29 S p1 p2 p3) else (if (F_M_isDay S p3) = 0 then (F_M_burn_j29 S p1 p2 p3) else (F_M_burn_j30 S p1 p2 p3 0))))
def Sf_M_burn (S : (Nat → Nat → Int32)) (p1 : Int32) (p2 : Int32) (p3 : Int32) : Prop := (Sf_M_isPerson S p1 ∧ (if (F_M_isPerson S p1) = 0 then (Sf_M_burn_j29 S p1 p2 p3) else (if (F_M_isIn S p2 0 3) = 0 then (Sf_M_burn_j29 S p1 p2 p3) else (Sf_M_isDay S p3 ∧ (if (F_M_isDay S p3) = 0 then (Sf_M_burn_j29 S p1 p2 p3) else (Sf_M_burn_j30 S p1 p2 p3 0))))))
theorem c_M_burn (T' : Nat → Nat × Nat) (G' : Nat → Nat → Option Nat) (S : (Nat → Nat → Int32)) (n : Nat) (p1 : Int32) (p2 : Int32) (p3 : Int32) (hs : Sf_M_burn S p1 p2 p3) : z_Run rm_M_burn zm_M_burn [z_r 78, .inl p1, .inl p2, .inl p3] (zW T' G' S n) (zq (some (.inl (F_M_burn S p1 p2 p3).1)) (zW T' G' (F_M_burn S p1 p2 p3).2 n)) := by
  refine z_body (by decide) zf_M_ok (Nat.le_of_ble_eq_true rfl) (fun X M => ?_)
  obtain ⟨Q, hQ, K⟩ : ∃ Q : (Int32 × (Nat → Nat → Int32)) → Prop, (∀ v S', Q (v, S') → zq (some (.inl (F_M_burn S p1 p2 p3).1)) (zW T' G' (F_M_burn S p1 p2 p3).2 n) (some (.inl v)) (zW T' G' S' n)) ∧ Q (F_M_burn S p1 p2 p3) := ⟨fun o => F_M_burn S p1 p2 p3 = o, fun v S' h => ⟨by rw [h], by rw [h]⟩, rfl⟩
  show z_G X zm_M_burn (0, [(0, z_r 78), (1, .inl p1), (2, .inl p2), (3, .inl p3)], [], zW T' G' S n, 0, 0)
  unfold F_M_burn at K
  unfold Sf_M_burn at hs
  refine z_go2 M.1 0 [(.aload_n 0, 1), (.iload_n 1, 1)] (2, [(0, z_r 78), (1, .inl p1), (2, .inl p2), (3, .inl p3)], [.inl p1, z_r 78], zW T' G' S n, 0, 0) (by decide +kernel) rfl ⟨trivial, trivial, trivial⟩ ?_
  refine z_callS M.1 (av := [.inl p1]) (st := [z_r 78]) (by decide +kernel) (c_M_isPerson T' G' S n p1 hs.1) M.2.1 zl_M_295 zs_M_isPerson ⟨by decide, by decide, by decide, by decide⟩ rfl (Nat.le_of_ble_eq_true rfl) (fun v w' hv => ?_)
  obtain ⟨rfl, rfl⟩ := hv
  replace hs := hs.2
  show z_G X zm_M_burn (5, [(0, z_r 78), (1, .inl p1), (2, .inl p2), (3, .inl p3)], [.inl (F_M_isPerson S p1), z_r 78], zW T' G' S n, 0, 0)
  refine z_if_eq 29 M.1 (off := 24) (by decide +kernel) (by decide) (fun c5 => ?_) (fun c5 => ?_)
  · rw [if_pos c5] at K hs
    exact z_lvs (lv' := [(0, z_r 78), (1, .inl p1), (2, .inl p2), (3, .inl p3)]) [0, 1, 2, 3] rfl (t_M_burn_j29 M S p1 p2 p3 hQ K hs)
  · rw [if_neg c5] at K hs
    refine z_go2 M.1 8 [(.iload_n 2, 1), (.iconst 0, 1), (.iconst 3, 1)] (11, [(0, z_r 78), (1, .inl p1), (2, .inl p2), (3, .inl p3)], [.inl 3, .inl 0, .inl p2, z_r 78], zW T' G' S n, 0, 0) (by decide +kernel) rfl ⟨trivial, trivial, trivial, trivial⟩ ?_
    refine z_callS M.1 (av := [.inl p2, .inl 0, .inl 3]) (st := [z_r 78]) (by decide +kernel) (c_M_isIn T' G' S n p2 0 3) M.2.1 zl_M_178 zs_M_isIn ⟨by decide, by decide, by decide, by decide⟩ rfl (Nat.le_of_ble_eq_true rfl) (fun v w' hv => ?_)
    obtain ⟨rfl, rfl⟩ := hv
    show z_G X zm_M_burn (14, [(0, z_r 78), (1, .inl p1), (2, .inl p2), (3, .inl p3)], [.inl (F_M_isIn S p2 0 3), z_r 78], zW T' G' S n, 0, 0)
    refine z_if_eq 29 M.1 (off := 15) (by decide +kernel) (by decide) (fun c14 => ?_) (fun c14 => ?_)
    · rw [if_pos c14] at K hs
      exact z_lvs (lv' := [(0, z_r 78), (1, .inl p1), (2, .inl p2), (3, .inl p3)]) [0, 1, 2, 3] rfl (t_M_burn_j29 M S p1 p2 p3 hQ K hs)
    · rw [if_neg c14] at K hs
      refine z_go2 M.1 17 [(.aload_n 0, 1), (.iload_n 3, 1)] (19, [(0, z_r 78), (1, .inl p1), (2, .inl p2), (3, .inl p3)], [.inl p3, z_r 78, z_r 78], zW T' G' S n, 0, 0) (by decide +kernel) rfl ⟨trivial, trivial, trivial⟩ ?_
      refine z_callV M.1 (av := [.inl p3]) (st := [z_r 78]) (a := 78) (ci := 14) (by decide +kernel) (c_M_isDay T' G' S n p3 hs.1) M.2.1 zl_M_460 zv_M_isDay rfl rfl rfl ⟨by decide, by decide, by decide, by decide⟩ rfl (Nat.le_of_ble_eq_true rfl) (fun v w' hv => ?_)
      obtain ⟨rfl, rfl⟩ := hv
      replace hs := hs.2
      show z_G X zm_M_burn (22, [(0, z_r 78), (1, .inl p1), (2, .inl p2), (3, .inl p3)], [.inl (F_M_isDay S p3), z_r 78], zW T' G' S n, 0, 0)
      refine z_if_eq 29 M.1 (off := 7) (by decide +kernel) (by decide) (fun c22 => ?_) (fun c22 => ?_)
      · rw [if_pos c22] at K hs
        exact z_lvs (lv' := [(0, z_r 78), (1, .inl p1), (2, .inl p2), (3, .inl p3)]) [0, 1, 2, 3] rfl (t_M_burn_j29 M S p1 p2 p3 hQ K hs)
      · rw [if_neg c22] at K hs
        refine z_go2 M.1 25 [(.iconst 0, 1), (.goto 4, 3)] (30, [(0, z_r 78), (1, .inl p1), (2, .inl p2), (3, .inl p3)], [.inl 0, z_r 78], zW T' G' S n, 0, 0) (by decide +kernel) rfl ⟨trivial, trivial, trivial⟩ ?_
        exact z_lvs (lv' := [(0, z_r 78), (1, .inl p1), (2, .inl p2), (3, .inl p3)]) [0, 1, 2, 3] rfl (t_M_burn_j30 M S p1 p2 p3 0 hQ K hs)

-- TrackHouseModel.rule
abbrev rm_M_rule : Room := zr 1
def F_M_rule_j138 (S : (Nat → Nat → Int32)) (x1 : Int32) (x2 : Int32) (x3 : Int32) (x4 : Int32) (x5 : Int32) (x6 : Int32) (s0 : Int32) : (Int32 × (Nat → Nat → Int32)) := (if s0 ≤ 0 then ((((S 78 31) + 1) - 1), (z_uS (z_uS (z_uS (z_uS (z_uS (z_uS (z_uS (z_uS (z_uS (z_uS S 78 0 s0) 168 (S 78 31).toNatClampNeg x1) 169 (S 78 31).toNatClampNeg x2) 170 (S 78 31).toNatClampNeg (-1)) 171 (S 78 31).toNatClampNeg (-1)) 173 (S 78 31).toNatClampNeg x3) 174 (S 78 31).toNatClampNeg x4) 175 (S 78 31).toNatClampNeg x5) 176 (S 78 31).toNatClampNeg x6) 78 31 ((S 78 31) + 1))) else (0, (z_uS S 78 0 s0)))
def Sf_M_rule_j138 (S : (Nat → Nat → Int32)) (x1 : Int32) (x2 : Int32) (x3 : Int32) (x4 : Int32) (x5 : Int32) (x6 : Int32) (s0 : Int32) : Prop := (if s0 ≤ 0 then ((vp_in (S 78 31) 6) ∧ ((vp_in (S 78 31) 6) ∧ ((vp_in (S 78 31) 6) ∧ ((vp_in (S 78 31) 6) ∧ ((vp_in (S 78 31) 6) ∧ ((vp_in (S 78 31) 6) ∧ ((vp_in (S 78 31) 6) ∧ ((vp_in (S 78 31) 6) ∧ True)))))))) else True)
theorem t_M_rule_j138 {X : z_X} {Post : Option z_V → z_W → Prop} (M : z_M X zm_M_rule rm_M_rule Post) {T' : Nat → Nat × Nat} {G' : Nat → Nat → Option Nat} {n : Nat} {Q : (Int32 × (Nat → Nat → Int32)) → Prop} (S : (Nat → Nat → Int32)) (x1 : Int32) (x2 : Int32) (x3 : Int32) (x4 : Int32) (x5 : Int32) (x6 : Int32) (s0 : Int32) (hQ : ∀ v S', Q (v, S') → Post (some (.inl v)) (zW T' G' S' n)) (K : Q (F_M_rule_j138 S x1 x2 x3 x4 x5 x6 s0)) (hs : Sf_M_rule_j138 S x1 x2 x3 x4 x5 x6 s0) : z_G X zm_M_rule (138, [(0, z_r 78), (1, .inl x1), (2, .inl x2), (3, .inl x3), (4, .inl x4), (5, .inl x5), (6, .inl x6)], [.inl s0, z_r 78], zW T' G' S n, 0, 0) := by
  unfold F_M_rule_j138 at K
  unfold Sf_M_rule_j138 at hs
  refine z_go2 M.1 138 [(.putfield 175, 3), (.aload_n 0, 1), (.getfield 175, 3)] (145, [(0, z_r 78), (1, .inl x1), (2, .inl x2), (3, .inl x3), (4, .inl x4), (5, .inl x5), (6, .inl x6)], [.inl s0], zW T' G' (z_uS S 78 0 s0) n, 0, 0) (by decide +kernel) rfl ⟨⟨rfl, trivial⟩, trivial, rfl, trivial⟩ ?_
  refine z_if_le 150 M.1 (off := 5) (by decide +kernel) (by decide) (fun c145 => ?_) (fun c145 => ?_)
  · rw [if_pos c145] at K hs
    refine z_go2 M.1 150 [(.aload_n 0, 1), (.getfield 98, 3), (.aload_n 0, 1), (.getfield 267, 3), (.iload_n 1, 1), (.iastore, 1), (.aload_n 0, 1), (.getfield 101, 3), (.aload_n 0, 1), (.getfield 267, 3), (.iload_n 2, 1), (.iastore, 1), (.aload_n 0, 1), (.getfield 104, 3), (.aload_n 0, 1), (.getfield 267, 3), (.iconst (-1), 1), (.iastore, 1), (.aload_n 0, 1), (.getfield 107, 3), (.aload_n 0, 1), (.getfield 267, 3), (.iconst (-1), 1), (.iastore, 1), (.aload_n 0, 1), (.getfield 113, 3), (.aload_n 0, 1), (.getfield 267, 3), (.iload_n 3, 1), (.iastore, 1), (.aload_n 0, 1), (.getfield 116, 3), (.aload_n 0, 1), (.getfield 267, 3), (.iload 4, 2), (.iastore, 1), (.aload_n 0, 1), (.getfield 119, 3), (.aload_n 0, 1), (.getfield 267, 3), (.iload 5, 2), (.iastore, 1), (.aload_n 0, 1), (.getfield 122, 3), (.aload_n 0, 1), (.getfield 267, 3), (.iload 6, 2), (.iastore, 1), (.aload_n 0, 1), (.dup, 1), (.getfield 267, 3), (.iconst 1, 1), (.iadd, 1), (.putfield 267, 3), (.aload_n 0, 1), (.getfield 267, 3), (.iconst 1, 1), (.isub, 1)] (249, [(0, z_r 78), (1, .inl x1), (2, .inl x2), (3, .inl x3), (4, .inl x4), (5, .inl x5), (6, .inl x6)], [.inl (((S 78 31) + 1) - 1)], zW T' G' (z_uS (z_uS (z_uS (z_uS (z_uS (z_uS (z_uS (z_uS (z_uS (z_uS S 78 0 s0) 168 (S 78 31).toNatClampNeg x1) 169 (S 78 31).toNatClampNeg x2) 170 (S 78 31).toNatClampNeg (-1)) 171 (S 78 31).toNatClampNeg (-1)) 173 (S 78 31).toNatClampNeg x3) 174 (S 78 31).toNatClampNeg x4) 175 (S 78 31).toNatClampNeg x5) 176 (S 78 31).toNatClampNeg x6) 78 31 ((S 78 31) + 1)) n, 0, 0) (by decide +kernel) rfl ⟨trivial, rfl, trivial, rfl, trivial, ⟨rfl, hs.1⟩, trivial, rfl, trivial, rfl, trivial, ⟨rfl, hs.2.1⟩, trivial, rfl, trivial, rfl, trivial, ⟨rfl, hs.2.2.1⟩, trivial, rfl, trivial, rfl, trivial, ⟨rfl, hs.2.2.2.1⟩, trivial, rfl, trivial, rfl, trivial, ⟨rfl, hs.2.2.2.2.1⟩, trivial, rfl, trivial, rfl, trivial, ⟨rfl, hs.2.2.2.2.2.1⟩, trivial, rfl, trivial, rfl, trivial, ⟨rfl, hs.2.2.2.2.2.2.1⟩, trivial, rfl, trivial, rfl, trivial, ⟨rfl, hs.2.2.2.2.2.2.2.1⟩, trivial, rfl, rfl, trivial, trivial, ⟨rfl, trivial⟩, trivial, rfl, trivial, trivial, trivial⟩ ?_
    replace hs := hs.2.2.2.2.2.2.2.2
    exact z_iret M (by decide +kernel) .int rfl rfl (by decide) (by decide) (hQ _ _ K)
  · rw [if_neg c145] at K hs
    refine z_go2 M.1 148 [(.iconst 0, 1)] (149, [(0, z_r 78), (1, .inl x1), (2, .inl x2), (3, .inl x3), (4, .inl x4), (5, .inl x5), (6, .inl x6)], [.inl 0], zW T' G' (z_uS S 78 0 s0) n, 0, 0) (by decide +kernel) rfl ⟨trivial, trivial⟩ ?_
    exact z_iret M (by decide +kernel) .int rfl rfl (by decide) (by decide) (hQ _ _ K)
def F_M_rule_j112 (S : (Nat → Nat → Int32)) (x1 : Int32) (x2 : Int32) (x3 : Int32) (x4 : Int32) (x5 : Int32) (x6 : Int32) (s0 : Int32) : (Int32 × (Nat → Nat → Int32)) := (if s0 = 0 then (F_M_rule_j138 S x1 x2 x3 x4 x5 x6 1) else (if (S 78 31) = 6 then (F_M_rule_j138 S x1 x2 x3 x4 x5 x6 2) else (F_M_rule_j138 S x1 x2 x3 x4 x5 x6 0)))
def Sf_M_rule_j112 (S : (Nat → Nat → Int32)) (x1 : Int32) (x2 : Int32) (x3 : Int32) (x4 : Int32) (x5 : Int32) (x6 : Int32) (s0 : Int32) : Prop := (if s0 = 0 then (Sf_M_rule_j138 S x1 x2 x3 x4 x5 x6 1) else (if (S 78 31) = 6 then (Sf_M_rule_j138 S x1 x2 x3 x4 x5 x6 2) else (Sf_M_rule_j138 S x1 x2 x3 x4 x5 x6 0)))
theorem t_M_rule_j112 {X : z_X} {Post : Option z_V → z_W → Prop} (M : z_M X zm_M_rule rm_M_rule Post) {T' : Nat → Nat × Nat} {G' : Nat → Nat → Option Nat} {n : Nat} {Q : (Int32 × (Nat → Nat → Int32)) → Prop} (S : (Nat → Nat → Int32)) (x1 : Int32) (x2 : Int32) (x3 : Int32) (x4 : Int32) (x5 : Int32) (x6 : Int32) (s0 : Int32) (hQ : ∀ v S', Q (v, S') → Post (some (.inl v)) (zW T' G' S' n)) (K : Q (F_M_rule_j112 S x1 x2 x3 x4 x5 x6 s0)) (hs : Sf_M_rule_j112 S x1 x2 x3 x4 x5 x6 s0) : z_G X zm_M_rule (112, [(0, z_r 78), (1, .inl x1), (2, .inl x2), (3, .inl x3), (4, .inl x4), (5, .inl x5), (6, .inl x6)], [.inl s0], zW T' G' S n, 0, 0) := by
  unfold F_M_rule_j112 at K
  unfold Sf_M_rule_j112 at hs
  refine z_go2 M.1 112 [(.istore 7, 2), (.aload_n 0, 1), (.iload 7, 2)] (117, [(7, .inl s0), (0, z_r 78), (1, .inl x1), (2, .inl x2), (3, .inl x3), (4, .inl x4), (5, .inl x5), (6, .inl x6)], [.inl s0, z_r 78], zW T' G' S n, 0, 0) (by decide +kernel) rfl ⟨trivial, trivial, trivial, trivial⟩ ?_
  refine z_if_ne 124 M.1 (off := 7) (by decide +kernel) (by decide) (fun c117 => ?_) (fun c117 => ?_)
  · rw [if_neg c117] at K hs
    refine z_go2 M.1 124 [(.aload_n 0, 1), (.getfield 267, 3), (.bipush 6, 2)] (130, [(7, .inl s0), (0, z_r 78), (1, .inl x1), (2, .inl x2), (3, .inl x3), (4, .inl x4), (5, .inl x5), (6, .inl x6)], [.inl 6, .inl (S 78 31), z_r 78], zW T' G' S n, 0, 0) (by decide +kernel) rfl ⟨trivial, rfl, trivial, trivial⟩ ?_
    refine z_icmp_ne 137 M.1 (off := 7) (by decide +kernel) (by decide) (fun c130 => ?_) (fun c130 => ?_)
    · rw [if_neg c130] at K hs
      refine z_go2 M.1 137 [(.iconst 0, 1)] (138, [(7, .inl s0), (0, z_r 78), (1, .inl x1), (2, .inl x2), (3, .inl x3), (4, .inl x4), (5, .inl x5), (6, .inl x6)], [.inl 0, z_r 78], zW T' G' S n, 0, 0) (by decide +kernel) rfl ⟨trivial, trivial⟩ ?_
      exact z_lvs (lv' := [(0, z_r 78), (1, .inl x1), (2, .inl x2), (3, .inl x3), (4, .inl x4), (5, .inl x5), (6, .inl x6)]) [1, 2, 3, 4, 5, 6, 7] rfl (t_M_rule_j138 M S x1 x2 x3 x4 x5 x6 0 hQ K hs)
    · rw [if_pos c130] at K hs
      refine z_go2 M.1 133 [(.iconst 2, 1), (.goto 4, 3)] (138, [(7, .inl s0), (0, z_r 78), (1, .inl x1), (2, .inl x2), (3, .inl x3), (4, .inl x4), (5, .inl x5), (6, .inl x6)], [.inl 2, z_r 78], zW T' G' S n, 0, 0) (by decide +kernel) rfl ⟨trivial, trivial, trivial⟩ ?_
      exact z_lvs (lv' := [(0, z_r 78), (1, .inl x1), (2, .inl x2), (3, .inl x3), (4, .inl x4), (5, .inl x5), (6, .inl x6)]) [1, 2, 3, 4, 5, 6, 7] rfl (t_M_rule_j138 M S x1 x2 x3 x4 x5 x6 2 hQ K hs)
  · rw [if_pos c117] at K hs
    refine z_go2 M.1 120 [(.iconst 1, 1), (.goto 17, 3)] (138, [(7, .inl s0), (0, z_r 78), (1, .inl x1), (2, .inl x2), (3, .inl x3), (4, .inl x4), (5, .inl x5), (6, .inl x6)], [.inl 1, z_r 78], zW T' G' S n, 0, 0) (by decide +kernel) rfl ⟨trivial, trivial, trivial⟩ ?_
    exact z_lvs (lv' := [(0, z_r 78), (1, .inl x1), (2, .inl x2), (3, .inl x3), (4, .inl x4), (5, .inl x5), (6, .inl x6)]) [1, 2, 3, 4, 5, 6, 7] rfl (t_M_rule_j138 M S x1 x2 x3 x4 x5 x6 1 hQ K hs)
def F_M_rule_j111 (S : (Nat → Nat → Int32)) (x1 : Int32) (x2 : Int32) (x3 : Int32) (x4 : Int32) (x5 : Int32) (x6 : Int32) : (Int32 × (Nat → Nat → Int32)) := (F_M_rule_j112 S x1 x2 x3 x4 x5 x6 0)
def Sf_M_rule_j111 (S : (Nat → Nat → Int32)) (x1 : Int32) (x2 : Int32) (x3 : Int32) (x4 : Int32) (x5 : Int32) (x6 : Int32) : Prop := (Sf_M_rule_j112 S x1 x2 x3 x4 x5 x6 0)
theorem t_M_rule_j111 {X : z_X} {Post : Option z_V → z_W → Prop} (M : z_M X zm_M_rule rm_M_rule Post) {T' : Nat → Nat × Nat} {G' : Nat → Nat → Option Nat} {n : Nat} {Q : (Int32 × (Nat → Nat → Int32)) → Prop} (S : (Nat → Nat → Int32)) (x1 : Int32) (x2 : Int32) (x3 : Int32) (x4 : Int32) (x5 : Int32) (x6 : Int32) (hQ : ∀ v S', Q (v, S') → Post (some (.inl v)) (zW T' G' S' n)) (K : Q (F_M_rule_j111 S x1 x2 x3 x4 x5 x6)) (hs : Sf_M_rule_j111 S x1 x2 x3 x4 x5 x6) : z_G X zm_M_rule (111, [(0, z_r 78), (1, .inl x1), (2, .inl x2), (3, .inl x3), (4, .inl x4), (5, .inl x5), (6, .inl x6)], [], zW T' G' S n, 0, 0) := by
  unfold F_M_rule_j111 at K
  unfold Sf_M_rule_j111 at hs
  refine z_go2 M.1 111 [(.iconst 0, 1)] (112, [(0, z_r 78), (1, .inl x1), (2, .inl x2), (3, .inl x3), (4, .inl x4), (5, .inl x5), (6, .inl x6)], [.inl 0], zW T' G' S n, 0, 0) (by decide +kernel) rfl ⟨trivial, trivial⟩ ?_
  exact z_lvs (lv' := [(0, z_r 78), (1, .inl x1), (2, .inl x2), (3, .inl x3), (4, .inl x4), (5, .inl x5), (6, .inl x6)]) [0, 1, 2, 3, 4, 5, 6] rfl (t_M_rule_j112 M S x1 x2 x3 x4 x5 x6 0 hQ K hs)
def F_M_rule_j90 (S : (Nat → Nat → Int32)) (x1 : Int32) (x2 : Int32) (x3 : Int32) (x4 : Int32) (x5 : Int32) (x6 : Int32) (s0 : Int32) (s1 : Int32) (s2 : Int32) : (Int32 × (Nat → Nat → Int32)) := (if (F_M_isIn S s2 s1 s0) = 0 then (F_M_rule_j111 S x1 x2 x3 x4 x5 x6) else (if (F_M_isIn S x6 0 99) = 0 then (F_M_rule_j111 S x1 x2 x3 x4 x5 x6) else (F_M_rule_j112 S x1 x2 x3 x4 x5 x6 1)))
def Sf_M_rule_j90 (S : (Nat → Nat → Int32)) (x1 : Int32) (x2 : Int32) (x3 : Int32) (x4 : Int32) (x5 : Int32) (x6 : Int32) (s0 : Int32) (s1 : Int32) (s2 : Int32) : Prop := (if (F_M_isIn S s2 s1 s0) = 0 then (Sf_M_rule_j111 S x1 x2 x3 x4 x5 x6) else (if (F_M_isIn S x6 0 99) = 0 then (Sf_M_rule_j111 S x1 x2 x3 x4 x5 x6) else (Sf_M_rule_j112 S x1 x2 x3 x4 x5 x6 1)))
theorem t_M_rule_j90 {X : z_X} {Post : Option z_V → z_W → Prop} (M : z_M X zm_M_rule rm_M_rule Post) {T' : Nat → Nat × Nat} {G' : Nat → Nat → Option Nat} {n : Nat} {Q : (Int32 × (Nat → Nat → Int32)) → Prop} (S : (Nat → Nat → Int32)) (x1 : Int32) (x2 : Int32) (x3 : Int32) (x4 : Int32) (x5 : Int32) (x6 : Int32) (s0 : Int32) (s1 : Int32) (s2 : Int32) (hQ : ∀ v S', Q (v, S') → Post (some (.inl v)) (zW T' G' S' n)) (K : Q (F_M_rule_j90 S x1 x2 x3 x4 x5 x6 s0 s1 s2)) (hs : Sf_M_rule_j90 S x1 x2 x3 x4 x5 x6 s0 s1 s2) : z_G X zm_M_rule (90, [(0, z_r 78), (1, .inl x1), (2, .inl x2), (3, .inl x3), (4, .inl x4), (5, .inl x5), (6, .inl x6)], [.inl s0, .inl s1, .inl s2], zW T' G' S n, 0, 0) := by
  unfold F_M_rule_j90 at K
  unfold Sf_M_rule_j90 at hs
  refine z_callS M.1 (av := [.inl s2, .inl s1, .inl s0]) (st := []) (by decide +kernel) (c_M_isIn T' G' S n s2 s1 s0) M.2.1 zl_M_178 zs_M_isIn ⟨by decide, by decide, by decide, by decide⟩ rfl (Nat.le_of_ble_eq_true rfl) (fun v w' hv => ?_)
  obtain ⟨rfl, rfl⟩ := hv
  show z_G X zm_M_rule (93, [(0, z_r 78), (1, .inl x1), (2, .inl x2), (3, .inl x3), (4, .inl x4), (5, .inl x5), (6, .inl x6)], [.inl (F_M_isIn S s2 s1 s0)], zW T' G' S n, 0, 0)
  refine z_if_eq 111 M.1 (off := 18) (by decide +kernel) (by decide) (fun c93 => ?_) (fun c93 => ?_)
  · rw [if_pos c93] at K hs
    exact z_lvs (lv' := [(0, z_r 78), (1, .inl x1), (2, .inl x2), (3, .inl x3), (4, .inl x4), (5, .inl x5), (6, .inl x6)]) [0, 1, 2, 3, 4, 5, 6] rfl (t_M_rule_j111 M S x1 x2 x3 x4 x5 x6 hQ K hs)
  · rw [if_neg c93] at K hs
    refine z_go2 M.1 96 [(.iload 6, 2), (.iconst 0, 1), (.bipush 99, 2)] (101, [(0, z_r 78), (1, .inl x1), (2, .inl x2), (3, .inl x3), (4, .inl x4), (5, .inl x5), (6, .inl x6)], [.inl 99, .inl 0, .inl x6], zW T' G' S n, 0, 0) (by decide +kernel) rfl ⟨trivial, trivial, trivial, trivial⟩ ?_
    refine z_callS M.1 (av := [.inl x6, .inl 0, .inl 99]) (st := []) (by decide +kernel) (c_M_isIn T' G' S n x6 0 99) M.2.1 zl_M_178 zs_M_isIn ⟨by decide, by decide, by decide, by decide⟩ rfl (Nat.le_of_ble_eq_true rfl) (fun v w' hv => ?_)
    obtain ⟨rfl, rfl⟩ := hv
    show z_G X zm_M_rule (104, [(0, z_r 78), (1, .inl x1), (2, .inl x2), (3, .inl x3), (4, .inl x4), (5, .inl x5), (6, .inl x6)], [.inl (F_M_isIn S x6 0 99)], zW T' G' S n, 0, 0)
    refine z_if_eq 111 M.1 (off := 7) (by decide +kernel) (by decide) (fun c104 => ?_) (fun c104 => ?_)
    · rw [if_pos c104] at K hs
      exact z_lvs (lv' := [(0, z_r 78), (1, .inl x1), (2, .inl x2), (3, .inl x3), (4, .inl x4), (5, .inl x5), (6, .inl x6)]) [0, 1, 2, 3, 4, 5, 6] rfl (t_M_rule_j111 M S x1 x2 x3 x4 x5 x6 hQ K hs)
    · rw [if_neg c104] at K hs
      refine z_go2 M.1 107 [(.iconst 1, 1), (.goto 4, 3)] (112, [(0, z_r 78), (1, .inl x1), (2, .inl x2), (3, .inl x3), (4, .inl x4), (5, .inl x5), (6, .inl x6)], [.inl 1], zW T' G' S n, 0, 0) (by decide +kernel) rfl ⟨trivial, trivial, trivial⟩ ?_
      exact z_lvs (lv' := [(0, z_r 78), (1, .inl x1), (2, .inl x2), (3, .inl x3), (4, .inl x4), (5, .inl x5), (6, .inl x6)]) [0, 1, 2, 3, 4, 5, 6] rfl (t_M_rule_j112 M S x1 x2 x3 x4 x5 x6 1 hQ K hs)
def F_M_rule_j59 (S : (Nat → Nat → Int32)) (x1 : Int32) (x2 : Int32) (x3 : Int32) (x4 : Int32) (x5 : Int32) (x6 : Int32) (s0 : Int32) : (Int32 × (Nat → Nat → Int32)) := (if s0 = 0 then (F_M_rule_j111 S x1 x2 x3 x4 x5 x6) else (if x4 = 0 then (F_M_rule_j90 S x1 x2 x3 x4 x5 x6 2 0 x5) else (if x4 = 1 then (F_M_rule_j90 S x1 x2 x3 x4 x5 x6 5 0 x5) else (F_M_rule_j90 S x1 x2 x3 x4 x5 x6 7 0 x5))))
def Sf_M_rule_j59 (S : (Nat → Nat → Int32)) (x1 : Int32) (x2 : Int32) (x3 : Int32) (x4 : Int32) (x5 : Int32) (x6 : Int32) (s0 : Int32) : Prop := (if s0 = 0 then (Sf_M_rule_j111 S x1 x2 x3 x4 x5 x6) else (if x4 = 0 then (Sf_M_rule_j90 S x1 x2 x3 x4 x5 x6 2 0 x5) else (if x4 = 1 then (Sf_M_rule_j90 S x1 x2 x3 x4 x5 x6 5 0 x5) else (Sf_M_rule_j90 S x1 x2 x3 x4 x5 x6 7 0 x5))))
theorem t_M_rule_j59 {X : z_X} {Post : Option z_V → z_W → Prop} (M : z_M X zm_M_rule rm_M_rule Post) {T' : Nat → Nat × Nat} {G' : Nat → Nat → Option Nat} {n : Nat} {Q : (Int32 × (Nat → Nat → Int32)) → Prop} (S : (Nat → Nat → Int32)) (x1 : Int32) (x2 : Int32) (x3 : Int32) (x4 : Int32) (x5 : Int32) (x6 : Int32) (s0 : Int32) (hQ : ∀ v S', Q (v, S') → Post (some (.inl v)) (zW T' G' S' n)) (K : Q (F_M_rule_j59 S x1 x2 x3 x4 x5 x6 s0)) (hs : Sf_M_rule_j59 S x1 x2 x3 x4 x5 x6 s0) : z_G X zm_M_rule (59, [(0, z_r 78), (1, .inl x1), (2, .inl x2), (3, .inl x3), (4, .inl x4), (5, .inl x5), (6, .inl x6)], [.inl s0], zW T' G' S n, 0, 0) := by
  unfold F_M_rule_j59 at K
  unfold Sf_M_rule_j59 at hs
  refine z_go2 M.1 59 [(.istore 7, 2), (.iload 7, 2)] (63, [(7, .inl s0), (0, z_r 78), (1, .inl x1), (2, .inl x2), (3, .inl x3), (4, .inl x4), (5, .inl x5), (6, .inl x6)], [.inl s0], zW T' G' S n, 0, 0) (by decide +kernel) rfl ⟨trivial, trivial, trivial⟩ ?_
  refine z_if_eq 111 M.1 (off := 48) (by decide +kernel) (by decide) (fun c63 => ?_) (fun c63 => ?_)
  · rw [if_pos c63] at K hs
    exact z_lvs (lv' := [(0, z_r 78), (1, .inl x1), (2, .inl x2), (3, .inl x3), (4, .inl x4), (5, .inl x5), (6, .inl x6)]) [1, 2, 3, 4, 5, 6, 7] rfl (t_M_rule_j111 M S x1 x2 x3 x4 x5 x6 hQ K hs)
  · rw [if_neg c63] at K hs
    refine z_go2 M.1 66 [(.iload 5, 2), (.iconst 0, 1), (.iload 4, 2)] (71, [(7, .inl s0), (0, z_r 78), (1, .inl x1), (2, .inl x2), (3, .inl x3), (4, .inl x4), (5, .inl x5), (6, .inl x6)], [.inl x4, .inl 0, .inl x5], zW T' G' S n, 0, 0) (by decide +kernel) rfl ⟨trivial, trivial, trivial, trivial⟩ ?_
    refine z_if_ne 78 M.1 (off := 7) (by decide +kernel) (by decide) (fun c71 => ?_) (fun c71 => ?_)
    · rw [if_neg c71] at K hs
      refine z_go2 M.1 78 [(.iload 4, 2), (.iconst 1, 1)] (81, [(7, .inl s0), (0, z_r 78), (1, .inl x1), (2, .inl x2), (3, .inl x3), (4, .inl x4), (5, .inl x5), (6, .inl x6)], [.inl 1, .inl x4, .inl 0, .inl x5], zW T' G' S n, 0, 0) (by decide +kernel) rfl ⟨trivial, trivial, trivial⟩ ?_
      refine z_icmp_ne 88 M.1 (off := 7) (by decide +kernel) (by decide) (fun c81 => ?_) (fun c81 => ?_)
      · rw [if_neg c81] at K hs
        refine z_go2 M.1 88 [(.bipush 7, 2)] (90, [(7, .inl s0), (0, z_r 78), (1, .inl x1), (2, .inl x2), (3, .inl x3), (4, .inl x4), (5, .inl x5), (6, .inl x6)], [.inl 7, .inl 0, .inl x5], zW T' G' S n, 0, 0) (by decide +kernel) rfl ⟨trivial, trivial⟩ ?_
        exact z_lvs (lv' := [(0, z_r 78), (1, .inl x1), (2, .inl x2), (3, .inl x3), (4, .inl x4), (5, .inl x5), (6, .inl x6)]) [1, 2, 3, 4, 5, 6, 7] rfl (t_M_rule_j90 M S x1 x2 x3 x4 x5 x6 7 0 x5 hQ K hs)
      · rw [if_pos c81] at K hs
        refine z_go2 M.1 84 [(.iconst 5, 1), (.goto 5, 3)] (90, [(7, .inl s0), (0, z_r 78), (1, .inl x1), (2, .inl x2), (3, .inl x3), (4, .inl x4), (5, .inl x5), (6, .inl x6)], [.inl 5, .inl 0, .inl x5], zW T' G' S n, 0, 0) (by decide +kernel) rfl ⟨trivial, trivial, trivial⟩ ?_
        exact z_lvs (lv' := [(0, z_r 78), (1, .inl x1), (2, .inl x2), (3, .inl x3), (4, .inl x4), (5, .inl x5), (6, .inl x6)]) [1, 2, 3, 4, 5, 6, 7] rfl (t_M_rule_j90 M S x1 x2 x3 x4 x5 x6 5 0 x5 hQ K hs)
    · rw [if_pos c71] at K hs
      refine z_go2 M.1 74 [(.iconst 2, 1), (.goto 15, 3)] (90, [(7, .inl s0), (0, z_r 78), (1, .inl x1), (2, .inl x2), (3, .inl x3), (4, .inl x4), (5, .inl x5), (6, .inl x6)], [.inl 2, .inl 0, .inl x5], zW T' G' S n, 0, 0) (by decide +kernel) rfl ⟨trivial, trivial, trivial⟩ ?_
      exact z_lvs (lv' := [(0, z_r 78), (1, .inl x1), (2, .inl x2), (3, .inl x3), (4, .inl x4), (5, .inl x5), (6, .inl x6)]) [1, 2, 3, 4, 5, 6, 7] rfl (t_M_rule_j90 M S x1 x2 x3 x4 x5 x6 2 0 x5 hQ K hs)
def F_M_rule_j58 (S : (Nat → Nat → Int32)) (x1 : Int32) (x2 : Int32) (x3 : Int32) (x4 : Int32) (x5 : Int32) (x6 : Int32) : (Int32 × (Nat → Nat → Int32)) := (F_M_rule_j59 S x1 x2 x3 x4 x5 x6 0)
def Sf_M_rule_j58 (S : (Nat → Nat → Int32)) (x1 : Int32) (x2 : Int32) (x3 : Int32) (x4 : Int32) (x5 : Int32) (x6 : Int32) : Prop := (Sf_M_rule_j59 S x1 x2 x3 x4 x5 x6 0)
theorem t_M_rule_j58 {X : z_X} {Post : Option z_V → z_W → Prop} (M : z_M X zm_M_rule rm_M_rule Post) {T' : Nat → Nat × Nat} {G' : Nat → Nat → Option Nat} {n : Nat} {Q : (Int32 × (Nat → Nat → Int32)) → Prop} (S : (Nat → Nat → Int32)) (x1 : Int32) (x2 : Int32) (x3 : Int32) (x4 : Int32) (x5 : Int32) (x6 : Int32) (hQ : ∀ v S', Q (v, S') → Post (some (.inl v)) (zW T' G' S' n)) (K : Q (F_M_rule_j58 S x1 x2 x3 x4 x5 x6)) (hs : Sf_M_rule_j58 S x1 x2 x3 x4 x5 x6) : z_G X zm_M_rule (58, [(0, z_r 78), (1, .inl x1), (2, .inl x2), (3, .inl x3), (4, .inl x4), (5, .inl x5), (6, .inl x6)], [], zW T' G' S n, 0, 0) := by
  unfold F_M_rule_j58 at K
  unfold Sf_M_rule_j58 at hs
  refine z_go2 M.1 58 [(.iconst 0, 1)] (59, [(0, z_r 78), (1, .inl x1), (2, .inl x2), (3, .inl x3), (4, .inl x4), (5, .inl x5), (6, .inl x6)], [.inl 0], zW T' G' S n, 0, 0) (by decide +kernel) rfl ⟨trivial, trivial⟩ ?_
  exact z_lvs (lv' := [(0, z_r 78), (1, .inl x1), (2, .inl x2), (3, .inl x3), (4, .inl x4), (5, .inl x5), (6, .inl x6)]) [0, 1, 2, 3, 4, 5, 6] rfl (t_M_rule_j59 M S x1 x2 x3 x4 x5 x6 0 hQ K hs)
def F_M_rule_j29 (S : (Nat → Nat → Int32)) (x1 : Int32) (x2 : Int32) (x3 : Int32) (x4 : Int32) (x5 : Int32) (x6 : Int32) (s0 : Int32) (s1 : Int32) (s2 : Int32) : (Int32 × (Nat → Nat → Int32)) := (if (F_M_isIn S s2 s1 s0) = 0 then (F_M_rule_j58 S x1 x2 x3 x4 x5 x6) else (if (F_M_isIn S x3 0 3) = 0 then (F_M_rule_j58 S x1 x2 x3 x4 x5 x6) else (if (F_M_isIn S x4 0 2) = 0 then (F_M_rule_j58 S x1 x2 x3 x4 x5 x6) else (F_M_rule_j59 S x1 x2 x3 x4 x5 x6 1))))
def Sf_M_rule_j29 (S : (Nat → Nat → Int32)) (x1 : Int32) (x2 : Int32) (x3 : Int32) (x4 : Int32) (x5 : Int32) (x6 : Int32) (s0 : Int32) (s1 : Int32) (s2 : Int32) : Prop := (if (F_M_isIn S s2 s1 s0) = 0 then (Sf_M_rule_j58 S x1 x2 x3 x4 x5 x6) else (if (F_M_isIn S x3 0 3) = 0 then (Sf_M_rule_j58 S x1 x2 x3 x4 x5 x6) else (if (F_M_isIn S x4 0 2) = 0 then (Sf_M_rule_j58 S x1 x2 x3 x4 x5 x6) else (Sf_M_rule_j59 S x1 x2 x3 x4 x5 x6 1))))
theorem t_M_rule_j29 {X : z_X} {Post : Option z_V → z_W → Prop} (M : z_M X zm_M_rule rm_M_rule Post) {T' : Nat → Nat × Nat} {G' : Nat → Nat → Option Nat} {n : Nat} {Q : (Int32 × (Nat → Nat → Int32)) → Prop} (S : (Nat → Nat → Int32)) (x1 : Int32) (x2 : Int32) (x3 : Int32) (x4 : Int32) (x5 : Int32) (x6 : Int32) (s0 : Int32) (s1 : Int32) (s2 : Int32) (hQ : ∀ v S', Q (v, S') → Post (some (.inl v)) (zW T' G' S' n)) (K : Q (F_M_rule_j29 S x1 x2 x3 x4 x5 x6 s0 s1 s2)) (hs : Sf_M_rule_j29 S x1 x2 x3 x4 x5 x6 s0 s1 s2) : z_G X zm_M_rule (29, [(0, z_r 78), (1, .inl x1), (2, .inl x2), (3, .inl x3), (4, .inl x4), (5, .inl x5), (6, .inl x6)], [.inl s0, .inl s1, .inl s2], zW T' G' S n, 0, 0) := by
  unfold F_M_rule_j29 at K
  unfold Sf_M_rule_j29 at hs
  refine z_callS M.1 (av := [.inl s2, .inl s1, .inl s0]) (st := []) (by decide +kernel) (c_M_isIn T' G' S n s2 s1 s0) M.2.1 zl_M_178 zs_M_isIn ⟨by decide, by decide, by decide, by decide⟩ rfl (Nat.le_of_ble_eq_true rfl) (fun v w' hv => ?_)
  obtain ⟨rfl, rfl⟩ := hv
  show z_G X zm_M_rule (32, [(0, z_r 78), (1, .inl x1), (2, .inl x2), (3, .inl x3), (4, .inl x4), (5, .inl x5), (6, .inl x6)], [.inl (F_M_isIn S s2 s1 s0)], zW T' G' S n, 0, 0)
  refine z_if_eq 58 M.1 (off := 26) (by decide +kernel) (by decide) (fun c32 => ?_) (fun c32 => ?_)
  · rw [if_pos c32] at K hs
    exact z_lvs (lv' := [(0, z_r 78), (1, .inl x1), (2, .inl x2), (3, .inl x3), (4, .inl x4), (5, .inl x5), (6, .inl x6)]) [0, 1, 2, 3, 4, 5, 6] rfl (t_M_rule_j58 M S x1 x2 x3 x4 x5 x6 hQ K hs)
  · rw [if_neg c32] at K hs
    refine z_go2 M.1 35 [(.iload_n 3, 1), (.iconst 0, 1), (.iconst 3, 1)] (38, [(0, z_r 78), (1, .inl x1), (2, .inl x2), (3, .inl x3), (4, .inl x4), (5, .inl x5), (6, .inl x6)], [.inl 3, .inl 0, .inl x3], zW T' G' S n, 0, 0) (by decide +kernel) rfl ⟨trivial, trivial, trivial, trivial⟩ ?_
    refine z_callS M.1 (av := [.inl x3, .inl 0, .inl 3]) (st := []) (by decide +kernel) (c_M_isIn T' G' S n x3 0 3) M.2.1 zl_M_178 zs_M_isIn ⟨by decide, by decide, by decide, by decide⟩ rfl (Nat.le_of_ble_eq_true rfl) (fun v w' hv => ?_)
    obtain ⟨rfl, rfl⟩ := hv
    show z_G X zm_M_rule (41, [(0, z_r 78), (1, .inl x1), (2, .inl x2), (3, .inl x3), (4, .inl x4), (5, .inl x5), (6, .inl x6)], [.inl (F_M_isIn S x3 0 3)], zW T' G' S n, 0, 0)
    refine z_if_eq 58 M.1 (off := 17) (by decide +kernel) (by decide) (fun c41 => ?_) (fun c41 => ?_)
    · rw [if_pos c41] at K hs
      exact z_lvs (lv' := [(0, z_r 78), (1, .inl x1), (2, .inl x2), (3, .inl x3), (4, .inl x4), (5, .inl x5), (6, .inl x6)]) [0, 1, 2, 3, 4, 5, 6] rfl (t_M_rule_j58 M S x1 x2 x3 x4 x5 x6 hQ K hs)
    · rw [if_neg c41] at K hs
      refine z_go2 M.1 44 [(.iload 4, 2), (.iconst 0, 1), (.iconst 2, 1)] (48, [(0, z_r 78), (1, .inl x1), (2, .inl x2), (3, .inl x3), (4, .inl x4), (5, .inl x5), (6, .inl x6)], [.inl 2, .inl 0, .inl x4], zW T' G' S n, 0, 0) (by decide +kernel) rfl ⟨trivial, trivial, trivial, trivial⟩ ?_
      refine z_callS M.1 (av := [.inl x4, .inl 0, .inl 2]) (st := []) (by decide +kernel) (c_M_isIn T' G' S n x4 0 2) M.2.1 zl_M_178 zs_M_isIn ⟨by decide, by decide, by decide, by decide⟩ rfl (Nat.le_of_ble_eq_true rfl) (fun v w' hv => ?_)
      obtain ⟨rfl, rfl⟩ := hv
      show z_G X zm_M_rule (51, [(0, z_r 78), (1, .inl x1), (2, .inl x2), (3, .inl x3), (4, .inl x4), (5, .inl x5), (6, .inl x6)], [.inl (F_M_isIn S x4 0 2)], zW T' G' S n, 0, 0)
      refine z_if_eq 58 M.1 (off := 7) (by decide +kernel) (by decide) (fun c51 => ?_) (fun c51 => ?_)
      · rw [if_pos c51] at K hs
        exact z_lvs (lv' := [(0, z_r 78), (1, .inl x1), (2, .inl x2), (3, .inl x3), (4, .inl x4), (5, .inl x5), (6, .inl x6)]) [0, 1, 2, 3, 4, 5, 6] rfl (t_M_rule_j58 M S x1 x2 x3 x4 x5 x6 hQ K hs)
      · rw [if_neg c51] at K hs
        refine z_go2 M.1 54 [(.iconst 1, 1), (.goto 4, 3)] (59, [(0, z_r 78), (1, .inl x1), (2, .inl x2), (3, .inl x3), (4, .inl x4), (5, .inl x5), (6, .inl x6)], [.inl 1], zW T' G' S n, 0, 0) (by decide +kernel) rfl ⟨trivial, trivial, trivial⟩ ?_
        exact z_lvs (lv' := [(0, z_r 78), (1, .inl x1), (2, .inl x2), (3, .inl x3), (4, .inl x4), (5, .inl x5), (6, .inl x6)]) [0, 1, 2, 3, 4, 5, 6] rfl (t_M_rule_j59 M S x1 x2 x3 x4 x5 x6 1 hQ K hs)
def F_M_rule (S : (Nat → Nat → Int32)) (p1 : Int32) (p2 : Int32) (p3 : Int32) (p4 : Int32) (p5 : Int32) (p6 : Int32) : (Int32 × (Nat → Nat → Int32)) := (if (F_M_isIn S p1 0 2) = 0 then (F_M_rule_j58 S p1 p2 p3 p4 p5 p6) else (if p1 = 0 then (F_M_rule_j29 S p1 p2 p3 p4 p5 p6 0 0 p2) else (if p1 = 1 then (F_M_rule_j29 S p1 p2 p3 p4 p5 p6 5 0 p2) else (F_M_rule_j29 S p1 p2 p3 p4 p5 p6 2 0 p2))))
def Sf_M_rule (S : (Nat → Nat → Int32)) (p1 : Int32) (p2 : Int32) (p3 : Int32) (p4 : Int32) (p5 : Int32) (p6 : Int32) : Prop := (if (F_M_isIn S p1 0 2) = 0 then (Sf_M_rule_j58 S p1 p2 p3 p4 p5 p6) else (if p1 = 0 then (Sf_M_rule_j29 S p1 p2 p3 p4 p5 p6 0 0 p2) else (if p1 = 1 then (Sf_M_rule_j29 S p1 p2 p3 p4 p5 p6 5 0 p2) else (Sf_M_rule_j29 S p1 p2 p3 p4 p5 p6 2 0 p2))))
theorem c_M_rule (T' : Nat → Nat × Nat) (G' : Nat → Nat → Option Nat) (S : (Nat → Nat → Int32)) (n : Nat) (p1 : Int32) (p2 : Int32) (p3 : Int32) (p4 : Int32) (p5 : Int32) (p6 : Int32) (hs : Sf_M_rule S p1 p2 p3 p4 p5 p6) : z_Run rm_M_rule zm_M_rule [z_r 78, .inl p1, .inl p2, .inl p3, .inl p4, .inl p5, .inl p6] (zW T' G' S n) (zq (some (.inl (F_M_rule S p1 p2 p3 p4 p5 p6).1)) (zW T' G' (F_M_rule S p1 p2 p3 p4 p5 p6).2 n)) := by
  refine z_body (by decide) zf_M_ok (Nat.le_of_ble_eq_true rfl) (fun X M => ?_)
  obtain ⟨Q, hQ, K⟩ : ∃ Q : (Int32 × (Nat → Nat → Int32)) → Prop, (∀ v S', Q (v, S') → zq (some (.inl (F_M_rule S p1 p2 p3 p4 p5 p6).1)) (zW T' G' (F_M_rule S p1 p2 p3 p4 p5 p6).2 n) (some (.inl v)) (zW T' G' S' n)) ∧ Q (F_M_rule S p1 p2 p3 p4 p5 p6) := ⟨fun o => F_M_rule S p1 p2 p3 p4 p5 p6 = o, fun v S' h => ⟨by rw [h], by rw [h]⟩, rfl⟩
  show z_G X zm_M_rule (0, [(0, z_r 78), (1, .inl p1), (2, .inl p2), (3, .inl p3), (4, .inl p4), (5, .inl p5), (6, .inl p6)], [], zW T' G' S n, 0, 0)
  unfold F_M_rule at K
  unfold Sf_M_rule at hs
  refine z_go2 M.1 0 [(.iload_n 1, 1), (.iconst 0, 1), (.iconst 2, 1)] (3, [(0, z_r 78), (1, .inl p1), (2, .inl p2), (3, .inl p3), (4, .inl p4), (5, .inl p5), (6, .inl p6)], [.inl 2, .inl 0, .inl p1], zW T' G' S n, 0, 0) (by decide +kernel) rfl ⟨trivial, trivial, trivial, trivial⟩ ?_
  refine z_callS M.1 (av := [.inl p1, .inl 0, .inl 2]) (st := []) (by decide +kernel) (c_M_isIn T' G' S n p1 0 2) M.2.1 zl_M_178 zs_M_isIn ⟨by decide, by decide, by decide, by decide⟩ rfl (Nat.le_of_ble_eq_true rfl) (fun v w' hv => ?_)
  obtain ⟨rfl, rfl⟩ := hv
  show z_G X zm_M_rule (6, [(0, z_r 78), (1, .inl p1), (2, .inl p2), (3, .inl p3), (4, .inl p4), (5, .inl p5), (6, .inl p6)], [.inl (F_M_isIn S p1 0 2)], zW T' G' S n, 0, 0)
  refine z_if_eq 58 M.1 (off := 52) (by decide +kernel) (by decide) (fun c6 => ?_) (fun c6 => ?_)
  · rw [if_pos c6] at K hs
    exact z_lvs (lv' := [(0, z_r 78), (1, .inl p1), (2, .inl p2), (3, .inl p3), (4, .inl p4), (5, .inl p5), (6, .inl p6)]) [0, 1, 2, 3, 4, 5, 6] rfl (t_M_rule_j58 M S p1 p2 p3 p4 p5 p6 hQ K hs)
  · rw [if_neg c6] at K hs
    refine z_go2 M.1 9 [(.iload_n 2, 1), (.iconst 0, 1), (.iload_n 1, 1)] (12, [(0, z_r 78), (1, .inl p1), (2, .inl p2), (3, .inl p3), (4, .inl p4), (5, .inl p5), (6, .inl p6)], [.inl p1, .inl 0, .inl p2], zW T' G' S n, 0, 0) (by decide +kernel) rfl ⟨trivial, trivial, trivial, trivial⟩ ?_
    refine z_if_ne 19 M.1 (off := 7) (by decide +kernel) (by decide) (fun c12 => ?_) (fun c12 => ?_)
    · rw [if_neg c12] at K hs
      refine z_go2 M.1 19 [(.iload_n 1, 1), (.iconst 1, 1)] (21, [(0, z_r 78), (1, .inl p1), (2, .inl p2), (3, .inl p3), (4, .inl p4), (5, .inl p5), (6, .inl p6)], [.inl 1, .inl p1, .inl 0, .inl p2], zW T' G' S n, 0, 0) (by decide +kernel) rfl ⟨trivial, trivial, trivial⟩ ?_
      refine z_icmp_ne 28 M.1 (off := 7) (by decide +kernel) (by decide) (fun c21 => ?_) (fun c21 => ?_)
      · rw [if_neg c21] at K hs
        refine z_go2 M.1 28 [(.iconst 2, 1)] (29, [(0, z_r 78), (1, .inl p1), (2, .inl p2), (3, .inl p3), (4, .inl p4), (5, .inl p5), (6, .inl p6)], [.inl 2, .inl 0, .inl p2], zW T' G' S n, 0, 0) (by decide +kernel) rfl ⟨trivial, trivial⟩ ?_
        exact z_lvs (lv' := [(0, z_r 78), (1, .inl p1), (2, .inl p2), (3, .inl p3), (4, .inl p4), (5, .inl p5), (6, .inl p6)]) [0, 1, 2, 3, 4, 5, 6] rfl (t_M_rule_j29 M S p1 p2 p3 p4 p5 p6 2 0 p2 hQ K hs)
      · rw [if_pos c21] at K hs
        refine z_go2 M.1 24 [(.iconst 5, 1), (.goto 4, 3)] (29, [(0, z_r 78), (1, .inl p1), (2, .inl p2), (3, .inl p3), (4, .inl p4), (5, .inl p5), (6, .inl p6)], [.inl 5, .inl 0, .inl p2], zW T' G' S n, 0, 0) (by decide +kernel) rfl ⟨trivial, trivial, trivial⟩ ?_
        exact z_lvs (lv' := [(0, z_r 78), (1, .inl p1), (2, .inl p2), (3, .inl p3), (4, .inl p4), (5, .inl p5), (6, .inl p6)]) [0, 1, 2, 3, 4, 5, 6] rfl (t_M_rule_j29 M S p1 p2 p3 p4 p5 p6 5 0 p2 hQ K hs)
    · rw [if_pos c12] at K hs
      refine z_go2 M.1 15 [(.iconst 0, 1), (.goto 13, 3)] (29, [(0, z_r 78), (1, .inl p1), (2, .inl p2), (3, .inl p3), (4, .inl p4), (5, .inl p5), (6, .inl p6)], [.inl 0, .inl 0, .inl p2], zW T' G' S n, 0, 0) (by decide +kernel) rfl ⟨trivial, trivial, trivial⟩ ?_
      exact z_lvs (lv' := [(0, z_r 78), (1, .inl p1), (2, .inl p2), (3, .inl p3), (4, .inl p4), (5, .inl p5), (6, .inl p6)]) [0, 1, 2, 3, 4, 5, 6] rfl (t_M_rule_j29 M S p1 p2 p3 p4 p5 p6 0 0 p2 hQ K hs)

-- TrackHouseModel.narrow
abbrev rm_M_narrow : Room := zr 1
def F_M_narrow_j65 (S : (Nat → Nat → Int32)) (x1 : Int32) (x2 : Int32) (x3 : Int32) (x4 : Int32) (s0 : Int32) : (Nat → Nat → Int32) := (if s0 = 0 then (z_uS (z_uS (z_uS (z_uS S 78 0 s0) 170 (x1).toNatClampNeg x2) 171 (x1).toNatClampNeg x3) 172 (x1).toNatClampNeg x4) else (z_uS S 78 0 s0))
def Sf_M_narrow_j65 (S : (Nat → Nat → Int32)) (x1 : Int32) (x2 : Int32) (x3 : Int32) (x4 : Int32) (s0 : Int32) : Prop := (if s0 = 0 then ((vp_in x1 6) ∧ ((vp_in x1 6) ∧ ((vp_in x1 6) ∧ True))) else True)
theorem t_M_narrow_j65 {X : z_X} {Post : Option z_V → z_W → Prop} (M : z_M X zm_M_narrow rm_M_narrow Post) {T' : Nat → Nat × Nat} {G' : Nat → Nat → Option Nat} {n : Nat} {Q : (Nat → Nat → Int32) → Prop} (S : (Nat → Nat → Int32)) (x1 : Int32) (x2 : Int32) (x3 : Int32) (x4 : Int32) (s0 : Int32) (hQ : ∀ S', Q S' → Post none (zW T' G' S' n)) (K : Q (F_M_narrow_j65 S x1 x2 x3 x4 s0)) (hs : Sf_M_narrow_j65 S x1 x2 x3 x4 s0) : z_G X zm_M_narrow (65, [(0, z_r 78), (1, .inl x1), (2, .inl x2), (3, .inl x3), (4, .inl x4)], [.inl s0, z_r 78], zW T' G' S n, 0, 0) := by
  unfold F_M_narrow_j65 at K
  unfold Sf_M_narrow_j65 at hs
  refine z_go2 M.1 65 [(.putfield 175, 3), (.aload_n 0, 1), (.getfield 175, 3)] (72, [(0, z_r 78), (1, .inl x1), (2, .inl x2), (3, .inl x3), (4, .inl x4)], [.inl s0], zW T' G' (z_uS S 78 0 s0) n, 0, 0) (by decide +kernel) rfl ⟨⟨rfl, trivial⟩, trivial, rfl, trivial⟩ ?_
  refine z_if_ne 97 M.1 (off := 25) (by decide +kernel) (by decide) (fun c72 => ?_) (fun c72 => ?_)
  · rw [if_neg c72] at K hs
    exact z_vret M (by decide +kernel) rfl (by decide) (by decide) (hQ _ K)
  · rw [if_pos c72] at K hs
    refine z_go2 M.1 75 [(.aload_n 0, 1), (.getfield 104, 3), (.iload_n 1, 1), (.iload_n 2, 1), (.iastore, 1), (.aload_n 0, 1), (.getfield 107, 3), (.iload_n 1, 1), (.iload_n 3, 1), (.iastore, 1), (.aload_n 0, 1), (.getfield 110, 3), (.iload_n 1, 1), (.iload 4, 2), (.iastore, 1)] (97, [(0, z_r 78), (1, .inl x1), (2, .inl x2), (3, .inl x3), (4, .inl x4)], [], zW T' G' (z_uS (z_uS (z_uS (z_uS S 78 0 s0) 170 (x1).toNatClampNeg x2) 171 (x1).toNatClampNeg x3) 172 (x1).toNatClampNeg x4) n, 0, 0) (by decide +kernel) rfl ⟨trivial, rfl, trivial, trivial, ⟨rfl, hs.1⟩, trivial, rfl, trivial, trivial, ⟨rfl, hs.2.1⟩, trivial, rfl, trivial, trivial, ⟨rfl, hs.2.2.1⟩, trivial⟩ ?_
    replace hs := hs.2.2.2
    exact z_vret M (by decide +kernel) rfl (by decide) (by decide) (hQ _ K)
def F_M_narrow_j34 (S : (Nat → Nat → Int32)) (x1 : Int32) (x2 : Int32) (x3 : Int32) (x4 : Int32) (s0 : Int32) : (Nat → Nat → Int32) := (if (F_M_isIn S x1 0 ((S 78 31) - 1)) = 0 then (F_M_narrow_j65 S x1 x2 x3 x4 1) else (if s0 = 0 then (F_M_narrow_j65 S x1 x2 x3 x4 2) else (F_M_narrow_j65 S x1 x2 x3 x4 0)))
def Sf_M_narrow_j34 (S : (Nat → Nat → Int32)) (x1 : Int32) (x2 : Int32) (x3 : Int32) (x4 : Int32) (s0 : Int32) : Prop := (if (F_M_isIn S x1 0 ((S 78 31) - 1)) = 0 then (Sf_M_narrow_j65 S x1 x2 x3 x4 1) else (if s0 = 0 then (Sf_M_narrow_j65 S x1 x2 x3 x4 2) else (Sf_M_narrow_j65 S x1 x2 x3 x4 0)))
theorem t_M_narrow_j34 {X : z_X} {Post : Option z_V → z_W → Prop} (M : z_M X zm_M_narrow rm_M_narrow Post) {T' : Nat → Nat × Nat} {G' : Nat → Nat → Option Nat} {n : Nat} {Q : (Nat → Nat → Int32) → Prop} (S : (Nat → Nat → Int32)) (x1 : Int32) (x2 : Int32) (x3 : Int32) (x4 : Int32) (s0 : Int32) (hQ : ∀ S', Q S' → Post none (zW T' G' S' n)) (K : Q (F_M_narrow_j34 S x1 x2 x3 x4 s0)) (hs : Sf_M_narrow_j34 S x1 x2 x3 x4 s0) : z_G X zm_M_narrow (34, [(0, z_r 78), (1, .inl x1), (2, .inl x2), (3, .inl x3), (4, .inl x4)], [.inl s0], zW T' G' S n, 0, 0) := by
  unfold F_M_narrow_j34 at K
  unfold Sf_M_narrow_j34 at hs
  refine z_go2 M.1 34 [(.istore 5, 2), (.aload_n 0, 1), (.iload_n 1, 1), (.iconst 0, 1), (.aload_n 0, 1), (.getfield 267, 3), (.iconst 1, 1), (.isub, 1)] (45, [(5, .inl s0), (0, z_r 78), (1, .inl x1), (2, .inl x2), (3, .inl x3), (4, .inl x4)], [.inl ((S 78 31) - 1), .inl 0, .inl x1, z_r 78], zW T' G' S n, 0, 0) (by decide +kernel) rfl ⟨trivial, trivial, trivial, trivial, trivial, rfl, trivial, trivial, trivial⟩ ?_
  refine z_callS M.1 (av := [.inl x1, .inl 0, .inl ((S 78 31) - 1)]) (st := [z_r 78]) (by decide +kernel) (c_M_isIn T' G' S n x1 0 ((S 78 31) - 1)) M.2.1 zl_M_178 zs_M_isIn ⟨by decide, by decide, by decide, by decide⟩ rfl (Nat.le_of_ble_eq_true rfl) (fun v w' hv => ?_)
  obtain ⟨rfl, rfl⟩ := hv
  show z_G X zm_M_narrow (48, [(5, .inl s0), (0, z_r 78), (1, .inl x1), (2, .inl x2), (3, .inl x3), (4, .inl x4)], [.inl (F_M_isIn S x1 0 ((S 78 31) - 1)), z_r 78], zW T' G' S n, 0, 0)
  refine z_if_ne 55 M.1 (off := 7) (by decide +kernel) (by decide) (fun c48 => ?_) (fun c48 => ?_)
  · rw [if_neg c48] at K hs
    refine z_go2 M.1 55 [(.iload 5, 2)] (57, [(5, .inl s0), (0, z_r 78), (1, .inl x1), (2, .inl x2), (3, .inl x3), (4, .inl x4)], [.inl s0, z_r 78], zW T' G' S n, 0, 0) (by decide +kernel) rfl ⟨trivial, trivial⟩ ?_
    refine z_if_eq 64 M.1 (off := 7) (by decide +kernel) (by decide) (fun c57 => ?_) (fun c57 => ?_)
    · rw [if_pos c57] at K hs
      refine z_go2 M.1 64 [(.iconst 2, 1)] (65, [(5, .inl s0), (0, z_r 78), (1, .inl x1), (2, .inl x2), (3, .inl x3), (4, .inl x4)], [.inl 2, z_r 78], zW T' G' S n, 0, 0) (by decide +kernel) rfl ⟨trivial, trivial⟩ ?_
      exact z_lvs (lv' := [(0, z_r 78), (1, .inl x1), (2, .inl x2), (3, .inl x3), (4, .inl x4)]) [1, 2, 3, 4, 5] rfl (t_M_narrow_j65 M S x1 x2 x3 x4 2 hQ K hs)
    · rw [if_neg c57] at K hs
      refine z_go2 M.1 60 [(.iconst 0, 1), (.goto 4, 3)] (65, [(5, .inl s0), (0, z_r 78), (1, .inl x1), (2, .inl x2), (3, .inl x3), (4, .inl x4)], [.inl 0, z_r 78], zW T' G' S n, 0, 0) (by decide +kernel) rfl ⟨trivial, trivial, trivial⟩ ?_
      exact z_lvs (lv' := [(0, z_r 78), (1, .inl x1), (2, .inl x2), (3, .inl x3), (4, .inl x4)]) [1, 2, 3, 4, 5] rfl (t_M_narrow_j65 M S x1 x2 x3 x4 0 hQ K hs)
  · rw [if_pos c48] at K hs
    refine z_go2 M.1 51 [(.iconst 1, 1), (.goto 13, 3)] (65, [(5, .inl s0), (0, z_r 78), (1, .inl x1), (2, .inl x2), (3, .inl x3), (4, .inl x4)], [.inl 1, z_r 78], zW T' G' S n, 0, 0) (by decide +kernel) rfl ⟨trivial, trivial, trivial⟩ ?_
    exact z_lvs (lv' := [(0, z_r 78), (1, .inl x1), (2, .inl x2), (3, .inl x3), (4, .inl x4)]) [1, 2, 3, 4, 5] rfl (t_M_narrow_j65 M S x1 x2 x3 x4 1 hQ K hs)
def F_M_narrow_j33 (S : (Nat → Nat → Int32)) (x1 : Int32) (x2 : Int32) (x3 : Int32) (x4 : Int32) : (Nat → Nat → Int32) := (F_M_narrow_j34 S x1 x2 x3 x4 0)
def Sf_M_narrow_j33 (S : (Nat → Nat → Int32)) (x1 : Int32) (x2 : Int32) (x3 : Int32) (x4 : Int32) : Prop := (Sf_M_narrow_j34 S x1 x2 x3 x4 0)
theorem t_M_narrow_j33 {X : z_X} {Post : Option z_V → z_W → Prop} (M : z_M X zm_M_narrow rm_M_narrow Post) {T' : Nat → Nat × Nat} {G' : Nat → Nat → Option Nat} {n : Nat} {Q : (Nat → Nat → Int32) → Prop} (S : (Nat → Nat → Int32)) (x1 : Int32) (x2 : Int32) (x3 : Int32) (x4 : Int32) (hQ : ∀ S', Q S' → Post none (zW T' G' S' n)) (K : Q (F_M_narrow_j33 S x1 x2 x3 x4)) (hs : Sf_M_narrow_j33 S x1 x2 x3 x4) : z_G X zm_M_narrow (33, [(0, z_r 78), (1, .inl x1), (2, .inl x2), (3, .inl x3), (4, .inl x4)], [], zW T' G' S n, 0, 0) := by
  unfold F_M_narrow_j33 at K
  unfold Sf_M_narrow_j33 at hs
  refine z_go2 M.1 33 [(.iconst 0, 1)] (34, [(0, z_r 78), (1, .inl x1), (2, .inl x2), (3, .inl x3), (4, .inl x4)], [.inl 0], zW T' G' S n, 0, 0) (by decide +kernel) rfl ⟨trivial, trivial⟩ ?_
  exact z_lvs (lv' := [(0, z_r 78), (1, .inl x1), (2, .inl x2), (3, .inl x3), (4, .inl x4)]) [0, 1, 2, 3, 4] rfl (t_M_narrow_j34 M S x1 x2 x3 x4 0 hQ K hs)
def F_M_narrow (S : (Nat → Nat → Int32)) (p1 : Int32) (p2 : Int32) (p3 : Int32) (p4 : Int32) : (Nat → Nat → Int32) := (if (F_M_isIn S p2 (-1) 2) = 0 then (F_M_narrow_j33 S p1 p2 p3 p4) else (if (F_M_isIn S p3 (-1) 2) = 0 then (F_M_narrow_j33 S p1 p2 p3 p4) else (if (F_M_isIn S p4 0 99) = 0 then (F_M_narrow_j33 S p1 p2 p3 p4) else (F_M_narrow_j34 S p1 p2 p3 p4 1))))
def Sf_M_narrow (S : (Nat → Nat → Int32)) (p1 : Int32) (p2 : Int32) (p3 : Int32) (p4 : Int32) : Prop := (if (F_M_isIn S p2 (-1) 2) = 0 then (Sf_M_narrow_j33 S p1 p2 p3 p4) else (if (F_M_isIn S p3 (-1) 2) = 0 then (Sf_M_narrow_j33 S p1 p2 p3 p4) else (if (F_M_isIn S p4 0 99) = 0 then (Sf_M_narrow_j33 S p1 p2 p3 p4) else (Sf_M_narrow_j34 S p1 p2 p3 p4 1))))
theorem c_M_narrow (T' : Nat → Nat × Nat) (G' : Nat → Nat → Option Nat) (S : (Nat → Nat → Int32)) (n : Nat) (p1 : Int32) (p2 : Int32) (p3 : Int32) (p4 : Int32) (hs : Sf_M_narrow S p1 p2 p3 p4) : z_Run rm_M_narrow zm_M_narrow [z_r 78, .inl p1, .inl p2, .inl p3, .inl p4] (zW T' G' S n) (zq none (zW T' G' (F_M_narrow S p1 p2 p3 p4) n)) := by
  refine z_body (by decide) zf_M_ok (Nat.le_of_ble_eq_true rfl) (fun X M => ?_)
  obtain ⟨Q, hQ, K⟩ : ∃ Q : (Nat → Nat → Int32) → Prop, (∀ S', Q S' → zq none (zW T' G' (F_M_narrow S p1 p2 p3 p4) n) none (zW T' G' S' n)) ∧ Q (F_M_narrow S p1 p2 p3 p4) := ⟨fun o => F_M_narrow S p1 p2 p3 p4 = o, fun S' h => ⟨rfl, by rw [h]⟩, rfl⟩
  show z_G X zm_M_narrow (0, [(0, z_r 78), (1, .inl p1), (2, .inl p2), (3, .inl p3), (4, .inl p4)], [], zW T' G' S n, 0, 0)
  unfold F_M_narrow at K
  unfold Sf_M_narrow at hs
  refine z_go2 M.1 0 [(.iload_n 2, 1), (.iconst (-1), 1), (.iconst 2, 1)] (3, [(0, z_r 78), (1, .inl p1), (2, .inl p2), (3, .inl p3), (4, .inl p4)], [.inl 2, .inl (-1), .inl p2], zW T' G' S n, 0, 0) (by decide +kernel) rfl ⟨trivial, trivial, trivial, trivial⟩ ?_
  refine z_callS M.1 (av := [.inl p2, .inl (-1), .inl 2]) (st := []) (by decide +kernel) (c_M_isIn T' G' S n p2 (-1) 2) M.2.1 zl_M_178 zs_M_isIn ⟨by decide, by decide, by decide, by decide⟩ rfl (Nat.le_of_ble_eq_true rfl) (fun v w' hv => ?_)
  obtain ⟨rfl, rfl⟩ := hv
  show z_G X zm_M_narrow (6, [(0, z_r 78), (1, .inl p1), (2, .inl p2), (3, .inl p3), (4, .inl p4)], [.inl (F_M_isIn S p2 (-1) 2)], zW T' G' S n, 0, 0)
  refine z_if_eq 33 M.1 (off := 27) (by decide +kernel) (by decide) (fun c6 => ?_) (fun c6 => ?_)
  · rw [if_pos c6] at K hs
    exact z_lvs (lv' := [(0, z_r 78), (1, .inl p1), (2, .inl p2), (3, .inl p3), (4, .inl p4)]) [0, 1, 2, 3, 4] rfl (t_M_narrow_j33 M S p1 p2 p3 p4 hQ K hs)
  · rw [if_neg c6] at K hs
    refine z_go2 M.1 9 [(.iload_n 3, 1), (.iconst (-1), 1), (.iconst 2, 1)] (12, [(0, z_r 78), (1, .inl p1), (2, .inl p2), (3, .inl p3), (4, .inl p4)], [.inl 2, .inl (-1), .inl p3], zW T' G' S n, 0, 0) (by decide +kernel) rfl ⟨trivial, trivial, trivial, trivial⟩ ?_
    refine z_callS M.1 (av := [.inl p3, .inl (-1), .inl 2]) (st := []) (by decide +kernel) (c_M_isIn T' G' S n p3 (-1) 2) M.2.1 zl_M_178 zs_M_isIn ⟨by decide, by decide, by decide, by decide⟩ rfl (Nat.le_of_ble_eq_true rfl) (fun v w' hv => ?_)
    obtain ⟨rfl, rfl⟩ := hv
    show z_G X zm_M_narrow (15, [(0, z_r 78), (1, .inl p1), (2, .inl p2), (3, .inl p3), (4, .inl p4)], [.inl (F_M_isIn S p3 (-1) 2)], zW T' G' S n, 0, 0)
    refine z_if_eq 33 M.1 (off := 18) (by decide +kernel) (by decide) (fun c15 => ?_) (fun c15 => ?_)
    · rw [if_pos c15] at K hs
      exact z_lvs (lv' := [(0, z_r 78), (1, .inl p1), (2, .inl p2), (3, .inl p3), (4, .inl p4)]) [0, 1, 2, 3, 4] rfl (t_M_narrow_j33 M S p1 p2 p3 p4 hQ K hs)
    · rw [if_neg c15] at K hs
      refine z_go2 M.1 18 [(.iload 4, 2), (.iconst 0, 1), (.bipush 99, 2)] (23, [(0, z_r 78), (1, .inl p1), (2, .inl p2), (3, .inl p3), (4, .inl p4)], [.inl 99, .inl 0, .inl p4], zW T' G' S n, 0, 0) (by decide +kernel) rfl ⟨trivial, trivial, trivial, trivial⟩ ?_
      refine z_callS M.1 (av := [.inl p4, .inl 0, .inl 99]) (st := []) (by decide +kernel) (c_M_isIn T' G' S n p4 0 99) M.2.1 zl_M_178 zs_M_isIn ⟨by decide, by decide, by decide, by decide⟩ rfl (Nat.le_of_ble_eq_true rfl) (fun v w' hv => ?_)
      obtain ⟨rfl, rfl⟩ := hv
      show z_G X zm_M_narrow (26, [(0, z_r 78), (1, .inl p1), (2, .inl p2), (3, .inl p3), (4, .inl p4)], [.inl (F_M_isIn S p4 0 99)], zW T' G' S n, 0, 0)
      refine z_if_eq 33 M.1 (off := 7) (by decide +kernel) (by decide) (fun c26 => ?_) (fun c26 => ?_)
      · rw [if_pos c26] at K hs
        exact z_lvs (lv' := [(0, z_r 78), (1, .inl p1), (2, .inl p2), (3, .inl p3), (4, .inl p4)]) [0, 1, 2, 3, 4] rfl (t_M_narrow_j33 M S p1 p2 p3 p4 hQ K hs)
      · rw [if_neg c26] at K hs
        refine z_go2 M.1 29 [(.iconst 1, 1), (.goto 4, 3)] (34, [(0, z_r 78), (1, .inl p1), (2, .inl p2), (3, .inl p3), (4, .inl p4)], [.inl 1], zW T' G' S n, 0, 0) (by decide +kernel) rfl ⟨trivial, trivial, trivial⟩ ?_
        exact z_lvs (lv' := [(0, z_r 78), (1, .inl p1), (2, .inl p2), (3, .inl p3), (4, .inl p4)]) [0, 1, 2, 3, 4] rfl (t_M_narrow_j34 M S p1 p2 p3 p4 1 hQ K hs)

-- TrackHouseModel.goal
abbrev rm_M_goal : Room := zr 1
def F_M_goal_j62 (S : (Nat → Nat → Int32)) (x1 : Int32) (x2 : Int32) (x3 : Int32) (x4 : Int32) (s0 : Int32) : (Int32 × (Nat → Nat → Int32)) := (if s0 ≤ 0 then ((S 164 (x1).toNatClampNeg), (z_uS (z_uS (z_uS (z_uS S 78 0 s0) 164 (x1).toNatClampNeg x2) 165 (x1).toNatClampNeg x3) 166 (x1).toNatClampNeg x4)) else (0, (z_uS S 78 0 s0)))
def Sf_M_goal_j62 (S : (Nat → Nat → Int32)) (x1 : Int32) (x2 : Int32) (x3 : Int32) (x4 : Int32) (s0 : Int32) : Prop := (if s0 ≤ 0 then ((vp_in x1 3) ∧ ((vp_in x1 3) ∧ ((vp_in x1 3) ∧ ((vp_in x1 3) ∧ True)))) else True)
theorem t_M_goal_j62 {X : z_X} {Post : Option z_V → z_W → Prop} (M : z_M X zm_M_goal rm_M_goal Post) {T' : Nat → Nat × Nat} {G' : Nat → Nat → Option Nat} {n : Nat} {Q : (Int32 × (Nat → Nat → Int32)) → Prop} (S : (Nat → Nat → Int32)) (x1 : Int32) (x2 : Int32) (x3 : Int32) (x4 : Int32) (s0 : Int32) (hQ : ∀ v S', Q (v, S') → Post (some (.inl v)) (zW T' G' S' n)) (K : Q (F_M_goal_j62 S x1 x2 x3 x4 s0)) (hs : Sf_M_goal_j62 S x1 x2 x3 x4 s0) : z_G X zm_M_goal (62, [(0, z_r 78), (1, .inl x1), (2, .inl x2), (3, .inl x3), (4, .inl x4)], [.inl s0, z_r 78], zW T' G' S n, 0, 0) := by
  unfold F_M_goal_j62 at K
  unfold Sf_M_goal_j62 at hs
  refine z_go2 M.1 62 [(.putfield 175, 3), (.aload_n 0, 1), (.getfield 175, 3)] (69, [(0, z_r 78), (1, .inl x1), (2, .inl x2), (3, .inl x3), (4, .inl x4)], [.inl s0], zW T' G' (z_uS S 78 0 s0) n, 0, 0) (by decide +kernel) rfl ⟨⟨rfl, trivial⟩, trivial, rfl, trivial⟩ ?_
  refine z_if_le 74 M.1 (off := 5) (by decide +kernel) (by decide) (fun c69 => ?_) (fun c69 => ?_)
  · rw [if_pos c69] at K hs
    refine z_go2 M.1 74 [(.aload_n 0, 1), (.getfield 86, 3), (.iload_n 1, 1), (.iaload, 1), (.istore 6, 2), (.aload_n 0, 1), (.getfield 86, 3), (.iload_n 1, 1), (.iload_n 2, 1), (.iastore, 1), (.aload_n 0, 1), (.getfield 89, 3), (.iload_n 1, 1), (.iload_n 3, 1), (.iastore, 1), (.aload_n 0, 1), (.getfield 92, 3), (.iload_n 1, 1), (.iload 4, 2), (.iastore, 1), (.iload 6, 2)] (106, [(6, .inl (S 164 (x1).toNatClampNeg)), (0, z_r 78), (1, .inl x1), (2, .inl x2), (3, .inl x3), (4, .inl x4)], [.inl (S 164 (x1).toNatClampNeg)], zW T' G' (z_uS (z_uS (z_uS (z_uS S 78 0 s0) 164 (x1).toNatClampNeg x2) 165 (x1).toNatClampNeg x3) 166 (x1).toNatClampNeg x4) n, 0, 0) (by decide +kernel) rfl ⟨trivial, rfl, trivial, ⟨rfl, hs.1⟩, trivial, trivial, rfl, trivial, trivial, ⟨rfl, hs.2.1⟩, trivial, rfl, trivial, trivial, ⟨rfl, hs.2.2.1⟩, trivial, rfl, trivial, trivial, ⟨rfl, hs.2.2.2.1⟩, trivial, trivial⟩ ?_
    replace hs := hs.2.2.2.2
    exact z_iret M (by decide +kernel) .int rfl rfl (by decide) (by decide) (hQ _ _ K)
  · rw [if_neg c69] at K hs
    refine z_go2 M.1 72 [(.iconst 0, 1)] (73, [(0, z_r 78), (1, .inl x1), (2, .inl x2), (3, .inl x3), (4, .inl x4)], [.inl 0], zW T' G' (z_uS S 78 0 s0) n, 0, 0) (by decide +kernel) rfl ⟨trivial, trivial⟩ ?_
    exact z_iret M (by decide +kernel) .int rfl rfl (by decide) (by decide) (hQ _ _ K)
def F_M_goal_j36 (S : (Nat → Nat → Int32)) (x1 : Int32) (x2 : Int32) (x3 : Int32) (x4 : Int32) (s0 : Int32) : (Int32 × (Nat → Nat → Int32)) := (if (F_M_isIn S x1 0 2) = 0 then (F_M_goal_j62 S x1 x2 x3 x4 1) else (if s0 = 0 then (F_M_goal_j62 S x1 x2 x3 x4 2) else (F_M_goal_j62 S x1 x2 x3 x4 0)))
def Sf_M_goal_j36 (S : (Nat → Nat → Int32)) (x1 : Int32) (x2 : Int32) (x3 : Int32) (x4 : Int32) (s0 : Int32) : Prop := (if (F_M_isIn S x1 0 2) = 0 then (Sf_M_goal_j62 S x1 x2 x3 x4 1) else (if s0 = 0 then (Sf_M_goal_j62 S x1 x2 x3 x4 2) else (Sf_M_goal_j62 S x1 x2 x3 x4 0)))
theorem t_M_goal_j36 {X : z_X} {Post : Option z_V → z_W → Prop} (M : z_M X zm_M_goal rm_M_goal Post) {T' : Nat → Nat × Nat} {G' : Nat → Nat → Option Nat} {n : Nat} {Q : (Int32 × (Nat → Nat → Int32)) → Prop} (S : (Nat → Nat → Int32)) (x1 : Int32) (x2 : Int32) (x3 : Int32) (x4 : Int32) (s0 : Int32) (hQ : ∀ v S', Q (v, S') → Post (some (.inl v)) (zW T' G' S' n)) (K : Q (F_M_goal_j36 S x1 x2 x3 x4 s0)) (hs : Sf_M_goal_j36 S x1 x2 x3 x4 s0) : z_G X zm_M_goal (36, [(0, z_r 78), (1, .inl x1), (2, .inl x2), (3, .inl x3), (4, .inl x4)], [.inl s0], zW T' G' S n, 0, 0) := by
  unfold F_M_goal_j36 at K
  unfold Sf_M_goal_j36 at hs
  refine z_go2 M.1 36 [(.istore 5, 2), (.aload_n 0, 1), (.iload_n 1, 1), (.iconst 0, 1), (.iconst 2, 1)] (42, [(5, .inl s0), (0, z_r 78), (1, .inl x1), (2, .inl x2), (3, .inl x3), (4, .inl x4)], [.inl 2, .inl 0, .inl x1, z_r 78], zW T' G' S n, 0, 0) (by decide +kernel) rfl ⟨trivial, trivial, trivial, trivial, trivial, trivial⟩ ?_
  refine z_callS M.1 (av := [.inl x1, .inl 0, .inl 2]) (st := [z_r 78]) (by decide +kernel) (c_M_isIn T' G' S n x1 0 2) M.2.1 zl_M_178 zs_M_isIn ⟨by decide, by decide, by decide, by decide⟩ rfl (Nat.le_of_ble_eq_true rfl) (fun v w' hv => ?_)
  obtain ⟨rfl, rfl⟩ := hv
  show z_G X zm_M_goal (45, [(5, .inl s0), (0, z_r 78), (1, .inl x1), (2, .inl x2), (3, .inl x3), (4, .inl x4)], [.inl (F_M_isIn S x1 0 2), z_r 78], zW T' G' S n, 0, 0)
  refine z_if_ne 52 M.1 (off := 7) (by decide +kernel) (by decide) (fun c45 => ?_) (fun c45 => ?_)
  · rw [if_neg c45] at K hs
    refine z_go2 M.1 52 [(.iload 5, 2)] (54, [(5, .inl s0), (0, z_r 78), (1, .inl x1), (2, .inl x2), (3, .inl x3), (4, .inl x4)], [.inl s0, z_r 78], zW T' G' S n, 0, 0) (by decide +kernel) rfl ⟨trivial, trivial⟩ ?_
    refine z_if_eq 61 M.1 (off := 7) (by decide +kernel) (by decide) (fun c54 => ?_) (fun c54 => ?_)
    · rw [if_pos c54] at K hs
      refine z_go2 M.1 61 [(.iconst 2, 1)] (62, [(5, .inl s0), (0, z_r 78), (1, .inl x1), (2, .inl x2), (3, .inl x3), (4, .inl x4)], [.inl 2, z_r 78], zW T' G' S n, 0, 0) (by decide +kernel) rfl ⟨trivial, trivial⟩ ?_
      exact z_lvs (lv' := [(0, z_r 78), (1, .inl x1), (2, .inl x2), (3, .inl x3), (4, .inl x4)]) [1, 2, 3, 4, 5] rfl (t_M_goal_j62 M S x1 x2 x3 x4 2 hQ K hs)
    · rw [if_neg c54] at K hs
      refine z_go2 M.1 57 [(.iconst 0, 1), (.goto 4, 3)] (62, [(5, .inl s0), (0, z_r 78), (1, .inl x1), (2, .inl x2), (3, .inl x3), (4, .inl x4)], [.inl 0, z_r 78], zW T' G' S n, 0, 0) (by decide +kernel) rfl ⟨trivial, trivial, trivial⟩ ?_
      exact z_lvs (lv' := [(0, z_r 78), (1, .inl x1), (2, .inl x2), (3, .inl x3), (4, .inl x4)]) [1, 2, 3, 4, 5] rfl (t_M_goal_j62 M S x1 x2 x3 x4 0 hQ K hs)
  · rw [if_pos c45] at K hs
    refine z_go2 M.1 48 [(.iconst 1, 1), (.goto 13, 3)] (62, [(5, .inl s0), (0, z_r 78), (1, .inl x1), (2, .inl x2), (3, .inl x3), (4, .inl x4)], [.inl 1, z_r 78], zW T' G' S n, 0, 0) (by decide +kernel) rfl ⟨trivial, trivial, trivial⟩ ?_
    exact z_lvs (lv' := [(0, z_r 78), (1, .inl x1), (2, .inl x2), (3, .inl x3), (4, .inl x4)]) [1, 2, 3, 4, 5] rfl (t_M_goal_j62 M S x1 x2 x3 x4 1 hQ K hs)
def F_M_goal_j35 (S : (Nat → Nat → Int32)) (x1 : Int32) (x2 : Int32) (x3 : Int32) (x4 : Int32) : (Int32 × (Nat → Nat → Int32)) := (F_M_goal_j36 S x1 x2 x3 x4 0)
def Sf_M_goal_j35 (S : (Nat → Nat → Int32)) (x1 : Int32) (x2 : Int32) (x3 : Int32) (x4 : Int32) : Prop := (Sf_M_goal_j36 S x1 x2 x3 x4 0)
theorem t_M_goal_j35 {X : z_X} {Post : Option z_V → z_W → Prop} (M : z_M X zm_M_goal rm_M_goal Post) {T' : Nat → Nat × Nat} {G' : Nat → Nat → Option Nat} {n : Nat} {Q : (Int32 × (Nat → Nat → Int32)) → Prop} (S : (Nat → Nat → Int32)) (x1 : Int32) (x2 : Int32) (x3 : Int32) (x4 : Int32) (hQ : ∀ v S', Q (v, S') → Post (some (.inl v)) (zW T' G' S' n)) (K : Q (F_M_goal_j35 S x1 x2 x3 x4)) (hs : Sf_M_goal_j35 S x1 x2 x3 x4) : z_G X zm_M_goal (35, [(0, z_r 78), (1, .inl x1), (2, .inl x2), (3, .inl x3), (4, .inl x4)], [], zW T' G' S n, 0, 0) := by
  unfold F_M_goal_j35 at K
  unfold Sf_M_goal_j35 at hs
  refine z_go2 M.1 35 [(.iconst 0, 1)] (36, [(0, z_r 78), (1, .inl x1), (2, .inl x2), (3, .inl x3), (4, .inl x4)], [.inl 0], zW T' G' S n, 0, 0) (by decide +kernel) rfl ⟨trivial, trivial⟩ ?_
  exact z_lvs (lv' := [(0, z_r 78), (1, .inl x1), (2, .inl x2), (3, .inl x3), (4, .inl x4)]) [0, 1, 2, 3, 4] rfl (t_M_goal_j36 M S x1 x2 x3 x4 0 hQ K hs)
def F_M_goal (S : (Nat → Nat → Int32)) (p1 : Int32) (p2 : Int32) (p3 : Int32) (p4 : Int32) : (Int32 × (Nat → Nat → Int32)) := (if (F_M_isIn S p2 0 99) = 0 then (F_M_goal_j35 S p1 p2 p3 p4) else (if (F_M_isIn S p3 0 63) = 0 then (F_M_goal_j35 S p1 p2 p3 p4) else (if (F_M_isIn S p4 0 63) = 0 then (F_M_goal_j35 S p1 p2 p3 p4) else (F_M_goal_j36 S p1 p2 p3 p4 1))))
def Sf_M_goal (S : (Nat → Nat → Int32)) (p1 : Int32) (p2 : Int32) (p3 : Int32) (p4 : Int32) : Prop := (if (F_M_isIn S p2 0 99) = 0 then (Sf_M_goal_j35 S p1 p2 p3 p4) else (if (F_M_isIn S p3 0 63) = 0 then (Sf_M_goal_j35 S p1 p2 p3 p4) else (if (F_M_isIn S p4 0 63) = 0 then (Sf_M_goal_j35 S p1 p2 p3 p4) else (Sf_M_goal_j36 S p1 p2 p3 p4 1))))
theorem c_M_goal (T' : Nat → Nat × Nat) (G' : Nat → Nat → Option Nat) (S : (Nat → Nat → Int32)) (n : Nat) (p1 : Int32) (p2 : Int32) (p3 : Int32) (p4 : Int32) (hs : Sf_M_goal S p1 p2 p3 p4) : z_Run rm_M_goal zm_M_goal [z_r 78, .inl p1, .inl p2, .inl p3, .inl p4] (zW T' G' S n) (zq (some (.inl (F_M_goal S p1 p2 p3 p4).1)) (zW T' G' (F_M_goal S p1 p2 p3 p4).2 n)) := by
  refine z_body (by decide) zf_M_ok (Nat.le_of_ble_eq_true rfl) (fun X M => ?_)
  obtain ⟨Q, hQ, K⟩ : ∃ Q : (Int32 × (Nat → Nat → Int32)) → Prop, (∀ v S', Q (v, S') → zq (some (.inl (F_M_goal S p1 p2 p3 p4).1)) (zW T' G' (F_M_goal S p1 p2 p3 p4).2 n) (some (.inl v)) (zW T' G' S' n)) ∧ Q (F_M_goal S p1 p2 p3 p4) := ⟨fun o => F_M_goal S p1 p2 p3 p4 = o, fun v S' h => ⟨by rw [h], by rw [h]⟩, rfl⟩
  show z_G X zm_M_goal (0, [(0, z_r 78), (1, .inl p1), (2, .inl p2), (3, .inl p3), (4, .inl p4)], [], zW T' G' S n, 0, 0)
  unfold F_M_goal at K
  unfold Sf_M_goal at hs
  refine z_go2 M.1 0 [(.iload_n 2, 1), (.iconst 0, 1), (.bipush 99, 2)] (4, [(0, z_r 78), (1, .inl p1), (2, .inl p2), (3, .inl p3), (4, .inl p4)], [.inl 99, .inl 0, .inl p2], zW T' G' S n, 0, 0) (by decide +kernel) rfl ⟨trivial, trivial, trivial, trivial⟩ ?_
  refine z_callS M.1 (av := [.inl p2, .inl 0, .inl 99]) (st := []) (by decide +kernel) (c_M_isIn T' G' S n p2 0 99) M.2.1 zl_M_178 zs_M_isIn ⟨by decide, by decide, by decide, by decide⟩ rfl (Nat.le_of_ble_eq_true rfl) (fun v w' hv => ?_)
  obtain ⟨rfl, rfl⟩ := hv
  show z_G X zm_M_goal (7, [(0, z_r 78), (1, .inl p1), (2, .inl p2), (3, .inl p3), (4, .inl p4)], [.inl (F_M_isIn S p2 0 99)], zW T' G' S n, 0, 0)
  refine z_if_eq 35 M.1 (off := 28) (by decide +kernel) (by decide) (fun c7 => ?_) (fun c7 => ?_)
  · rw [if_pos c7] at K hs
    exact z_lvs (lv' := [(0, z_r 78), (1, .inl p1), (2, .inl p2), (3, .inl p3), (4, .inl p4)]) [0, 1, 2, 3, 4] rfl (t_M_goal_j35 M S p1 p2 p3 p4 hQ K hs)
  · rw [if_neg c7] at K hs
    refine z_go2 M.1 10 [(.iload_n 3, 1), (.iconst 0, 1), (.bipush 63, 2)] (14, [(0, z_r 78), (1, .inl p1), (2, .inl p2), (3, .inl p3), (4, .inl p4)], [.inl 63, .inl 0, .inl p3], zW T' G' S n, 0, 0) (by decide +kernel) rfl ⟨trivial, trivial, trivial, trivial⟩ ?_
    refine z_callS M.1 (av := [.inl p3, .inl 0, .inl 63]) (st := []) (by decide +kernel) (c_M_isIn T' G' S n p3 0 63) M.2.1 zl_M_178 zs_M_isIn ⟨by decide, by decide, by decide, by decide⟩ rfl (Nat.le_of_ble_eq_true rfl) (fun v w' hv => ?_)
    obtain ⟨rfl, rfl⟩ := hv
    show z_G X zm_M_goal (17, [(0, z_r 78), (1, .inl p1), (2, .inl p2), (3, .inl p3), (4, .inl p4)], [.inl (F_M_isIn S p3 0 63)], zW T' G' S n, 0, 0)
    refine z_if_eq 35 M.1 (off := 18) (by decide +kernel) (by decide) (fun c17 => ?_) (fun c17 => ?_)
    · rw [if_pos c17] at K hs
      exact z_lvs (lv' := [(0, z_r 78), (1, .inl p1), (2, .inl p2), (3, .inl p3), (4, .inl p4)]) [0, 1, 2, 3, 4] rfl (t_M_goal_j35 M S p1 p2 p3 p4 hQ K hs)
    · rw [if_neg c17] at K hs
      refine z_go2 M.1 20 [(.iload 4, 2), (.iconst 0, 1), (.bipush 63, 2)] (25, [(0, z_r 78), (1, .inl p1), (2, .inl p2), (3, .inl p3), (4, .inl p4)], [.inl 63, .inl 0, .inl p4], zW T' G' S n, 0, 0) (by decide +kernel) rfl ⟨trivial, trivial, trivial, trivial⟩ ?_
      refine z_callS M.1 (av := [.inl p4, .inl 0, .inl 63]) (st := []) (by decide +kernel) (c_M_isIn T' G' S n p4 0 63) M.2.1 zl_M_178 zs_M_isIn ⟨by decide, by decide, by decide, by decide⟩ rfl (Nat.le_of_ble_eq_true rfl) (fun v w' hv => ?_)
      obtain ⟨rfl, rfl⟩ := hv
      show z_G X zm_M_goal (28, [(0, z_r 78), (1, .inl p1), (2, .inl p2), (3, .inl p3), (4, .inl p4)], [.inl (F_M_isIn S p4 0 63)], zW T' G' S n, 0, 0)
      refine z_if_eq 35 M.1 (off := 7) (by decide +kernel) (by decide) (fun c28 => ?_) (fun c28 => ?_)
      · rw [if_pos c28] at K hs
        exact z_lvs (lv' := [(0, z_r 78), (1, .inl p1), (2, .inl p2), (3, .inl p3), (4, .inl p4)]) [0, 1, 2, 3, 4] rfl (t_M_goal_j35 M S p1 p2 p3 p4 hQ K hs)
      · rw [if_neg c28] at K hs
        refine z_go2 M.1 31 [(.iconst 1, 1), (.goto 4, 3)] (36, [(0, z_r 78), (1, .inl p1), (2, .inl p2), (3, .inl p3), (4, .inl p4)], [.inl 1], zW T' G' S n, 0, 0) (by decide +kernel) rfl ⟨trivial, trivial, trivial⟩ ?_
        exact z_lvs (lv' := [(0, z_r 78), (1, .inl p1), (2, .inl p2), (3, .inl p3), (4, .inl p4)]) [0, 1, 2, 3, 4] rfl (t_M_goal_j36 M S p1 p2 p3 p4 1 hQ K hs)

-- TrackHouseModel.isWorking
abbrev rm_M_isWorking : Room := zr 0
def F_M_isWorking (S : (Nat → Nat → Int32)) (p0 : Int32) : Int32 := (if (4 : Int32) < (p0 - p0 / 7 * 7) then 0 else 1)
theorem c_M_isWorking (T' : Nat → Nat × Nat) (G' : Nat → Nat → Option Nat) (S : (Nat → Nat → Int32)) (n : Nat) (p0 : Int32) : z_Run rm_M_isWorking zm_M_isWorking [.inl p0] (zW T' G' S n) (zq (some (.inl (F_M_isWorking S p0))) (zW T' G' S n)) := by
  refine z_body (by decide) zf_M_ok (Nat.le_of_ble_eq_true rfl) (fun X M => ?_)
  obtain ⟨Q, hQ, K⟩ : ∃ Q : Int32 → Prop, (∀ v, Q v → zq (some (.inl (F_M_isWorking S p0))) (zW T' G' S n) (some (.inl v)) (zW T' G' S n)) ∧ Q (F_M_isWorking S p0) := ⟨fun o => F_M_isWorking S p0 = o, fun v h => ⟨by rw [h], rfl⟩, rfl⟩
  show z_G X zm_M_isWorking (0, [(0, .inl p0)], [], zW T' G' S n, 0, 0)
  unfold F_M_isWorking at K
  refine z_go2 M.1 0 [(.iload_n 0, 1), (.bipush 7, 2), (.irem, 1), (.iconst 4, 1)] (5, [(0, .inl p0)], [.inl 4, .inl (p0 - p0 / 7 * 7)], zW T' G' S n, 0, 0) (by decide +kernel) rfl ⟨trivial, trivial, (by decide), trivial, trivial⟩ ?_
  refine z_icmp_gt 12 M.1 (off := 7) (by decide +kernel) (by decide) (fun c5 => ?_) (fun c5 => ?_)
  · rw [if_pos c5] at K
    refine z_go2 M.1 12 [(.iconst 0, 1)] (13, [(0, .inl p0)], [.inl 0], zW T' G' S n, 0, 0) (by decide +kernel) rfl ⟨trivial, trivial⟩ ?_
    exact z_iret M (by decide +kernel) .boolean rfl rfl (by decide) (by decide) (hQ _ K)
  · rw [if_neg c5] at K
    refine z_go2 M.1 8 [(.iconst 1, 1), (.goto 4, 3)] (13, [(0, .inl p0)], [.inl 1], zW T' G' S n, 0, 0) (by decide +kernel) rfl ⟨trivial, trivial, trivial⟩ ?_
    exact z_iret M (by decide +kernel) .boolean rfl rfl (by decide) (by decide) (hQ _ K)

-- TrackHouseModel.runs
abbrev rm_M_runs : Room := zr 0
def F_M_runs (S : (Nat → Nat → Int32)) (p1 : Int32) (p2 : Int32) : Int32 := (if p2 = (-1) then 0 else (if (((S 165 (S 88 (p1).toNatClampNeg).toNatClampNeg) >>> (p2 &&& 31)) &&& 1) = 1 then 1 else 0))
def Sf_M_runs (S : (Nat → Nat → Int32)) (p1 : Int32) (p2 : Int32) : Prop := (if p2 = (-1) then True else ((vp_in p1 30) ∧ ((vp_in (S 88 (p1).toNatClampNeg) 3) ∧ True)))
theorem c_M_runs (T' : Nat → Nat × Nat) (G' : Nat → Nat → Option Nat) (S : (Nat → Nat → Int32)) (n : Nat) (p1 : Int32) (p2 : Int32) (hs : Sf_M_runs S p1 p2) : z_Run rm_M_runs zm_M_runs [z_r 78, .inl p1, .inl p2] (zW T' G' S n) (zq (some (.inl (F_M_runs S p1 p2))) (zW T' G' S n)) := by
  refine z_body (by decide) zf_M_ok (Nat.le_of_ble_eq_true rfl) (fun X M => ?_)
  obtain ⟨Q, hQ, K⟩ : ∃ Q : Int32 → Prop, (∀ v, Q v → zq (some (.inl (F_M_runs S p1 p2))) (zW T' G' S n) (some (.inl v)) (zW T' G' S n)) ∧ Q (F_M_runs S p1 p2) := ⟨fun o => F_M_runs S p1 p2 = o, fun v h => ⟨by rw [h], rfl⟩, rfl⟩
  show z_G X zm_M_runs (0, [(0, z_r 78), (1, .inl p1), (2, .inl p2)], [], zW T' G' S n, 0, 0)
  unfold F_M_runs at K
  unfold Sf_M_runs at hs
  refine z_go2 M.1 0 [(.iload_n 2, 1), (.iconst (-1), 1)] (2, [(0, z_r 78), (1, .inl p1), (2, .inl p2)], [.inl (-1), .inl p2], zW T' G' S n, 0, 0) (by decide +kernel) rfl ⟨trivial, trivial, trivial⟩ ?_
  refine z_icmp_eq 31 M.1 (off := 29) (by decide +kernel) (by decide) (fun c2 => ?_) (fun c2 => ?_)
  · rw [if_pos c2] at K hs
    refine z_go2 M.1 31 [(.iconst 0, 1)] (32, [(0, z_r 78), (1, .inl p1), (2, .inl p2)], [.inl 0], zW T' G' S n, 0, 0) (by decide +kernel) rfl ⟨trivial, trivial⟩ ?_
    exact z_iret M (by decide +kernel) .boolean rfl rfl (by decide) (by decide) (hQ _ K)
  · rw [if_neg c2] at K hs
    refine z_go2 M.1 5 [(.aload_n 0, 1), (.getfield 89, 3), (.aload_n 0, 1), (.getfield 34, 3), (.getfield 237, 3), (.iload_n 1, 1), (.iaload, 1), (.iaload, 1), (.iload_n 2, 1), (.ishr, 1), (.iconst 1, 1), (.iand, 1), (.iconst 1, 1)] (24, [(0, z_r 78), (1, .inl p1), (2, .inl p2)], [.inl 1, .inl (((S 165 (S 88 (p1).toNatClampNeg).toNatClampNeg) >>> (p2 &&& 31)) &&& 1)], zW T' G' S n, 0, 0) (by decide +kernel) rfl ⟨trivial, rfl, trivial, rfl, rfl, trivial, ⟨rfl, hs.1⟩, ⟨rfl, hs.2.1⟩, trivial, trivial, trivial, trivial, trivial, trivial⟩ ?_
    replace hs := hs.2.2
    refine z_icmp_ne 31 M.1 (off := 7) (by decide +kernel) (by decide) (fun c24 => ?_) (fun c24 => ?_)
    · rw [if_neg c24] at K
      refine z_go2 M.1 31 [(.iconst 0, 1)] (32, [(0, z_r 78), (1, .inl p1), (2, .inl p2)], [.inl 0], zW T' G' S n, 0, 0) (by decide +kernel) rfl ⟨trivial, trivial⟩ ?_
      exact z_iret M (by decide +kernel) .boolean rfl rfl (by decide) (by decide) (hQ _ K)
    · rw [if_pos c24] at K
      refine z_go2 M.1 27 [(.iconst 1, 1), (.goto 4, 3)] (32, [(0, z_r 78), (1, .inl p1), (2, .inl p2)], [.inl 1], zW T' G' S n, 0, 0) (by decide +kernel) rfl ⟨trivial, trivial, trivial⟩ ?_
      exact z_iret M (by decide +kernel) .boolean rfl rfl (by decide) (by decide) (hQ _ K)

-- TrackHouseModel.leftOf
abbrev rm_M_leftOf : Room := zr 2
def F_M_leftOf_l4_38 (rc : Int32 → Int32 → (Int32)) (S : (Nat → Nat → Int32)) (x1 : Int32) (x3 : Int32) (s0 : Int32) : (Int32) := (rc (s0 + 0) (x3 + 1))
def Sf_M_leftOf_l4_38 (rc : Int32 → Int32 → (Int32)) (sr : Int32 → Int32 → Prop) (S : (Nat → Nat → Int32)) (x1 : Int32) (x3 : Int32) (s0 : Int32) : Prop := (sr (s0 + 0) (x3 + 1))
theorem t_M_leftOf_l4_38 {X : z_X} {Post : Option z_V → z_W → Prop} (M : z_M X zm_M_leftOf rm_M_leftOf Post) {T' : Nat → Nat × Nat} {G' : Nat → Nat → Option Nat} {n : Nat} {Q : (Int32) → Prop} (rc : Int32 → Int32 → (Int32)) (sr : Int32 → Int32 → Prop) (S : (Nat → Nat → Int32)) (x1 : Int32) (x3 : Int32) (s0 : Int32) (hE : ∀ (y2 : Int32), Q y2 → z_G X zm_M_leftOf (47, [(0, z_r 78), (1, .inl x1), (2, .inl y2)], [], zW T' G' S n, 0, 0)) (hC : ∀ (x2 : Int32) (x3 : Int32), Q (rc x2 x3) → sr x2 x3 → z_G X zm_M_leftOf (4, [(0, z_r 78), (1, .inl x1), (2, .inl x2), (3, .inl x3)], [], zW T' G' S n, 0, 0)) (K : Q (F_M_leftOf_l4_38 rc S x1 x3 s0)) (hs : Sf_M_leftOf_l4_38 rc sr S x1 x3 s0) : z_G X zm_M_leftOf (38, [(0, z_r 78), (1, .inl x1), (3, .inl x3)], [.inl s0], zW T' G' S n, 0, 0) := by
  unfold F_M_leftOf_l4_38 at K
  unfold Sf_M_leftOf_l4_38 at hs
  refine z_go2 M.1 38 [(.iconst 0, 1), (.iadd, 1), (.istore_n 2, 1), (.iinc 3 1, 3), (.goto (-40), 3)] (4, [(3, .inl (x3 + 1)), (2, .inl (s0 + 0)), (0, z_r 78), (1, .inl x1)], [], zW T' G' S n, 0, 0) (by decide +kernel) rfl ⟨trivial, trivial, trivial, trivial, trivial, trivial⟩ ?_
  exact z_lvs (lv' := [(0, z_r 78), (1, .inl x1), (2, .inl (s0 + 0)), (3, .inl (x3 + 1))]) [2, 3, 1, 0] rfl (hC (s0 + 0) (x3 + 1) K hs)
def F_M_leftOf_L4 (S : (Nat → Nat → Int32)) (x1 : Int32) : Nat → Int32 → Int32 → (Int32)
  | 0, x2, x3 => x2
  | f + 1, x2, x3 => (if (S 78 1) ≤ x3 then x2 else (if (F_M_isWorking S x3) = 0 then (F_M_leftOf_l4_38 (F_M_leftOf_L4 S x1 f) S x1 x3 x2) else (if (F_M_runs S x1 (F_M_stateAt S x1 x3)) = 0 then (F_M_leftOf_l4_38 (F_M_leftOf_L4 S x1 f) S x1 x3 x2) else ((F_M_leftOf_L4 S x1 f) (x2 + 1) (x3 + 1)))))
def Sf_M_leftOf_L4 (S : (Nat → Nat → Int32)) (x1 : Int32) : Nat → Int32 → Int32 → Prop
  | 0, _, _ => False
  | f + 1, x2, x3 => (if (S 78 1) ≤ x3 then True else (if (F_M_isWorking S x3) = 0 then (Sf_M_leftOf_l4_38 (F_M_leftOf_L4 S x1 f) (Sf_M_leftOf_L4 S x1 f) S x1 x3 x2) else (Sf_M_stateAt S x1 x3 ∧ (Sf_M_runs S x1 (F_M_stateAt S x1 x3) ∧ (if (F_M_runs S x1 (F_M_stateAt S x1 x3)) = 0 then (Sf_M_leftOf_l4_38 (F_M_leftOf_L4 S x1 f) (Sf_M_leftOf_L4 S x1 f) S x1 x3 x2) else ((Sf_M_leftOf_L4 S x1 f) (x2 + 1) (x3 + 1)))))))
theorem t_M_leftOf_L4 {X : z_X} {Post : Option z_V → z_W → Prop} (M : z_M X zm_M_leftOf rm_M_leftOf Post) {T' : Nat → Nat × Nat} {G' : Nat → Nat → Option Nat} {n : Nat} {Q : (Int32) → Prop} (S : (Nat → Nat → Int32))  (x1 : Int32) (hE : ∀ (y2 : Int32), Q y2 → z_G X zm_M_leftOf (47, [(0, z_r 78), (1, .inl x1), (2, .inl y2)], [], zW T' G' S n, 0, 0)) (f : Nat) : ∀ (x2 : Int32) (x3 : Int32), Q (F_M_leftOf_L4 S x1 f x2 x3) → Sf_M_leftOf_L4 S x1 f x2 x3 → z_G X zm_M_leftOf (4, [(0, z_r 78), (1, .inl x1), (2, .inl x2), (3, .inl x3)], [], zW T' G' S n, 0, 0) := by
  induction f with
  | zero => intro x2 x3 K hs; exact False.elim hs
  | succ f hC =>
    intro x2 x3 K hs
    rw [F_M_leftOf_L4] at K
    rw [Sf_M_leftOf_L4] at hs
    refine z_go2 M.1 4 [(.iload_n 3, 1), (.aload_n 0, 1), (.getfield 185, 3)] (9, [(0, z_r 78), (1, .inl x1), (2, .inl x2), (3, .inl x3)], [.inl (S 78 1), .inl x3], zW T' G' S n, 0, 0) (by decide +kernel) rfl ⟨trivial, trivial, rfl, trivial⟩ ?_
    refine z_icmp_ge 47 M.1 (off := 38) (by decide +kernel) (by decide) (fun c9 => ?_) (fun c9 => ?_)
    · rw [if_pos c9] at K hs
      exact z_lvs (lv' := [(0, z_r 78), (1, .inl x1), (2, .inl x2)]) [0, 1, 2] rfl (hE x2 K)
    · rw [if_neg c9] at K hs
      refine z_go2 M.1 12 [(.iload_n 2, 1), (.iload_n 3, 1)] (14, [(0, z_r 78), (1, .inl x1), (2, .inl x2), (3, .inl x3)], [.inl x3, .inl x2], zW T' G' S n, 0, 0) (by decide +kernel) rfl ⟨trivial, trivial, trivial⟩ ?_
      refine z_callS M.1 (av := [.inl x3]) (st := [.inl x2]) (by decide +kernel) (c_M_isWorking T' G' S n x3) M.2.1 zl_M_483 zs_M_isWorking ⟨by decide, by decide, by decide, by decide⟩ rfl (Nat.le_of_ble_eq_true rfl) (fun v w' hv => ?_)
      obtain ⟨rfl, rfl⟩ := hv
      show z_G X zm_M_leftOf (17, [(0, z_r 78), (1, .inl x1), (2, .inl x2), (3, .inl x3)], [.inl (F_M_isWorking S x3), .inl x2], zW T' G' S n, 0, 0)
      refine z_if_eq 38 M.1 (off := 21) (by decide +kernel) (by decide) (fun c17 => ?_) (fun c17 => ?_)
      · rw [if_pos c17] at K hs
        exact z_lvs (lv' := [(0, z_r 78), (1, .inl x1), (3, .inl x3)]) [0, 1, 3] rfl (t_M_leftOf_l4_38 M (F_M_leftOf_L4 S x1 f) (Sf_M_leftOf_L4 S x1 f) S x1 x3 x2 hE hC K hs)
      · rw [if_neg c17] at K hs
        refine z_go2 M.1 20 [(.aload_n 0, 1), (.iload_n 1, 1), (.aload_n 0, 1), (.iload_n 1, 1), (.iload_n 3, 1)] (25, [(0, z_r 78), (1, .inl x1), (2, .inl x2), (3, .inl x3)], [.inl x3, .inl x1, z_r 78, .inl x1, z_r 78, .inl x2], zW T' G' S n, 0, 0) (by decide +kernel) rfl ⟨trivial, trivial, trivial, trivial, trivial, trivial⟩ ?_
        refine z_callV M.1 (av := [.inl x1, .inl x3]) (st := [.inl x1, z_r 78, .inl x2]) (a := 78) (ci := 14) (by decide +kernel) (c_M_stateAt T' G' S n x1 x3 hs.1) M.2.1 zl_M_477 zv_M_stateAt rfl rfl rfl ⟨by decide, by decide, by decide, by decide⟩ rfl (Nat.le_of_ble_eq_true rfl) (fun v w' hv => ?_)
        obtain ⟨rfl, rfl⟩ := hv
        replace hs := hs.2
        show z_G X zm_M_leftOf (28, [(0, z_r 78), (1, .inl x1), (2, .inl x2), (3, .inl x3)], [.inl (F_M_stateAt S x1 x3), .inl x1, z_r 78, .inl x2], zW T' G' S n, 0, 0)
        refine z_callV M.1 (av := [.inl x1, .inl (F_M_stateAt S x1 x3)]) (st := [.inl x2]) (a := 78) (ci := 14) (by decide +kernel) (c_M_runs T' G' S n x1 (F_M_stateAt S x1 x3) hs.1) M.2.1 zl_M_486 zv_M_runs rfl rfl rfl ⟨by decide, by decide, by decide, by decide⟩ rfl (Nat.le_of_ble_eq_true rfl) (fun v w' hv => ?_)
        obtain ⟨rfl, rfl⟩ := hv
        replace hs := hs.2
        show z_G X zm_M_leftOf (31, [(0, z_r 78), (1, .inl x1), (2, .inl x2), (3, .inl x3)], [.inl (F_M_runs S x1 (F_M_stateAt S x1 x3)), .inl x2], zW T' G' S n, 0, 0)
        refine z_if_eq 38 M.1 (off := 7) (by decide +kernel) (by decide) (fun c31 => ?_) (fun c31 => ?_)
        · rw [if_pos c31] at K hs
          exact z_lvs (lv' := [(0, z_r 78), (1, .inl x1), (3, .inl x3)]) [0, 1, 3] rfl (t_M_leftOf_l4_38 M (F_M_leftOf_L4 S x1 f) (Sf_M_leftOf_L4 S x1 f) S x1 x3 x2 hE hC K hs)
        · rw [if_neg c31] at K hs
          refine z_go2 M.1 34 [(.iconst 1, 1), (.goto 4, 3), (.iadd, 1), (.istore_n 2, 1), (.iinc 3 1, 3), (.goto (-40), 3)] (4, [(3, .inl (x3 + 1)), (2, .inl (x2 + 1)), (0, z_r 78), (1, .inl x1)], [], zW T' G' S n, 0, 0) (by decide +kernel) rfl ⟨trivial, trivial, trivial, trivial, trivial, trivial, trivial⟩ ?_
          exact z_lvs (lv' := [(0, z_r 78), (1, .inl x1), (2, .inl (x2 + 1)), (3, .inl (x3 + 1))]) [2, 3, 1, 0] rfl (hC (x2 + 1) (x3 + 1) K hs)
def F_M_leftOf (S : (Nat → Nat → Int32)) (p1 : Int32) : Int32 := (match F_M_leftOf_L4 S p1 1300 0 0 with | y2_4 => ((S 164 (S 88 (p1).toNatClampNeg).toNatClampNeg) - y2_4))
def Sf_M_leftOf (S : (Nat → Nat → Int32)) (p1 : Int32) : Prop := (Sf_M_leftOf_L4 S p1 1300 0 0 ∧ (match F_M_leftOf_L4 S p1 1300 0 0 with | y2_4 => ((vp_in p1 30) ∧ ((vp_in (S 88 (p1).toNatClampNeg) 3) ∧ True))))
theorem c_M_leftOf (T' : Nat → Nat × Nat) (G' : Nat → Nat → Option Nat) (S : (Nat → Nat → Int32)) (n : Nat) (p1 : Int32) (hs : Sf_M_leftOf S p1) : z_Run rm_M_leftOf zm_M_leftOf [z_r 78, .inl p1] (zW T' G' S n) (zq (some (.inl (F_M_leftOf S p1))) (zW T' G' S n)) := by
  refine z_body (by decide) zf_M_ok (Nat.le_of_ble_eq_true rfl) (fun X M => ?_)
  obtain ⟨Q, hQ, K⟩ : ∃ Q : Int32 → Prop, (∀ v, Q v → zq (some (.inl (F_M_leftOf S p1))) (zW T' G' S n) (some (.inl v)) (zW T' G' S n)) ∧ Q (F_M_leftOf S p1) := ⟨fun o => F_M_leftOf S p1 = o, fun v h => ⟨by rw [h], rfl⟩, rfl⟩
  show z_G X zm_M_leftOf (0, [(0, z_r 78), (1, .inl p1)], [], zW T' G' S n, 0, 0)
  unfold F_M_leftOf at K
  unfold Sf_M_leftOf at hs
  refine z_go2 M.1 0 [(.iconst 0, 1), (.istore_n 2, 1), (.iconst 0, 1), (.istore_n 3, 1)] (4, [(3, .inl 0), (2, .inl 0), (0, z_r 78), (1, .inl p1)], [], zW T' G' S n, 0, 0) (by decide +kernel) rfl ⟨trivial, trivial, trivial, trivial, trivial⟩ ?_
  refine z_lvs (lv' := [(0, z_r 78), (1, .inl p1), (2, .inl 0), (3, .inl 0)]) [2, 3, 1, 0] rfl ?_
  refine t_M_leftOf_L4 M (Q := fun o => F_M_leftOf_L4 S p1 1300 0 0 = o) S p1 (fun y2_4 hL4 => ?_) 1300 0 0 rfl hs.1
  replace hs := hs.2
  rw [hL4] at K
  try rw [hL4] at hs
  try dsimp only at K hs
  refine z_go2 M.1 47 [(.aload_n 0, 1), (.getfield 86, 3), (.aload_n 0, 1), (.getfield 34, 3), (.getfield 237, 3), (.iload_n 1, 1), (.iaload, 1), (.iaload, 1), (.iload_n 2, 1), (.isub, 1)] (63, [(0, z_r 78), (1, .inl p1), (2, .inl y2_4)], [.inl ((S 164 (S 88 (p1).toNatClampNeg).toNatClampNeg) - y2_4)], zW T' G' S n, 0, 0) (by decide +kernel) rfl ⟨trivial, rfl, trivial, rfl, rfl, trivial, ⟨rfl, hs.1⟩, ⟨rfl, hs.2.1⟩, trivial, trivial, trivial⟩ ?_
  replace hs := hs.2.2
  exact z_iret M (by decide +kernel) .int rfl rfl (by decide) (by decide) (hQ _ K)

-- TrackHouseModel.asksGoal
abbrev rm_M_asksGoal : Room := zr 2
def F_M_asksGoal_j36 (S : (Nat → Nat → Int32)) (s0 : Int32) : (Int32 × (Nat → Nat → Int32)) := (if s0 = 0 then (1, (z_uS S 78 0 s0)) else (0, (z_uS S 78 0 s0)))
theorem t_M_asksGoal_j36 {X : z_X} {Post : Option z_V → z_W → Prop} (M : z_M X zm_M_asksGoal rm_M_asksGoal Post) {T' : Nat → Nat × Nat} {G' : Nat → Nat → Option Nat} {n : Nat} {Q : (Int32 × (Nat → Nat → Int32)) → Prop} (S : (Nat → Nat → Int32)) (s0 : Int32) (hQ : ∀ v S', Q (v, S') → Post (some (.inl v)) (zW T' G' S' n)) (K : Q (F_M_asksGoal_j36 S s0)) : z_G X zm_M_asksGoal (36, [(0, z_r 78)], [.inl s0, z_r 78], zW T' G' S n, 0, 0) := by
  unfold F_M_asksGoal_j36 at K
  refine z_go2 M.1 36 [(.putfield 175, 3), (.aload_n 0, 1), (.getfield 175, 3)] (43, [(0, z_r 78)], [.inl s0], zW T' G' (z_uS S 78 0 s0) n, 0, 0) (by decide +kernel) rfl ⟨⟨rfl, trivial⟩, trivial, rfl, trivial⟩ ?_
  refine z_if_ne 50 M.1 (off := 7) (by decide +kernel) (by decide) (fun c43 => ?_) (fun c43 => ?_)
  · rw [if_neg c43] at K
    refine z_go2 M.1 50 [(.iconst 0, 1)] (51, [(0, z_r 78)], [.inl 0], zW T' G' (z_uS S 78 0 s0) n, 0, 0) (by decide +kernel) rfl ⟨trivial, trivial⟩ ?_
    exact z_iret M (by decide +kernel) .boolean rfl rfl (by decide) (by decide) (hQ _ _ K)
  · rw [if_pos c43] at K
    refine z_go2 M.1 46 [(.iconst 1, 1), (.goto 4, 3)] (51, [(0, z_r 78)], [.inl 1], zW T' G' (z_uS S 78 0 s0) n, 0, 0) (by decide +kernel) rfl ⟨trivial, trivial, trivial⟩ ?_
    exact z_iret M (by decide +kernel) .boolean rfl rfl (by decide) (by decide) (hQ _ _ K)
def F_M_asksGoal (S : (Nat → Nat → Int32)) (p1 : Int32) : (Int32 × (Nat → Nat → Int32)) := (if (F_M_isItem S p1) = 0 then (F_M_asksGoal_j36 S 1) else (if (S 164 (S 88 (p1).toNatClampNeg).toNatClampNeg) = (-1) then (F_M_asksGoal_j36 S 2) else (F_M_asksGoal_j36 S 0)))
def Sf_M_asksGoal (S : (Nat → Nat → Int32)) (p1 : Int32) : Prop := (Sf_M_isItem S p1 ∧ (if (F_M_isItem S p1) = 0 then True else ((vp_in p1 30) ∧ ((vp_in (S 88 (p1).toNatClampNeg) 3) ∧ True))))
theorem c_M_asksGoal (T' : Nat → Nat × Nat) (G' : Nat → Nat → Option Nat) (S : (Nat → Nat → Int32)) (n : Nat) (p1 : Int32) (hs : Sf_M_asksGoal S p1) : z_Run rm_M_asksGoal zm_M_asksGoal [z_r 78, .inl p1] (zW T' G' S n) (zq (some (.inl (F_M_asksGoal S p1).1)) (zW T' G' (F_M_asksGoal S p1).2 n)) := by
  refine z_body (by decide) zf_M_ok (Nat.le_of_ble_eq_true rfl) (fun X M => ?_)
  obtain ⟨Q, hQ, K⟩ : ∃ Q : (Int32 × (Nat → Nat → Int32)) → Prop, (∀ v S', Q (v, S') → zq (some (.inl (F_M_asksGoal S p1).1)) (zW T' G' (F_M_asksGoal S p1).2 n) (some (.inl v)) (zW T' G' S' n)) ∧ Q (F_M_asksGoal S p1) := ⟨fun o => F_M_asksGoal S p1 = o, fun v S' h => ⟨by rw [h], by rw [h]⟩, rfl⟩
  show z_G X zm_M_asksGoal (0, [(0, z_r 78), (1, .inl p1)], [], zW T' G' S n, 0, 0)
  unfold F_M_asksGoal at K
  unfold Sf_M_asksGoal at hs
  refine z_go2 M.1 0 [(.aload_n 0, 1), (.aload_n 0, 1), (.iload_n 1, 1)] (3, [(0, z_r 78), (1, .inl p1)], [.inl p1, z_r 78, z_r 78], zW T' G' S n, 0, 0) (by decide +kernel) rfl ⟨trivial, trivial, trivial, trivial⟩ ?_
  refine z_callV M.1 (av := [.inl p1]) (st := [z_r 78]) (a := 78) (ci := 14) (by decide +kernel) (c_M_isItem T' G' S n p1 hs.1) M.2.1 zl_M_474 zv_M_isItem rfl rfl rfl ⟨by decide, by decide, by decide, by decide⟩ rfl (Nat.le_of_ble_eq_true rfl) (fun v w' hv => ?_)
  obtain ⟨rfl, rfl⟩ := hv
  replace hs := hs.2
  show z_G X zm_M_asksGoal (6, [(0, z_r 78), (1, .inl p1)], [.inl (F_M_isItem S p1), z_r 78], zW T' G' S n, 0, 0)
  refine z_if_ne 13 M.1 (off := 7) (by decide +kernel) (by decide) (fun c6 => ?_) (fun c6 => ?_)
  · rw [if_neg c6] at K hs
    refine z_go2 M.1 13 [(.aload_n 0, 1), (.getfield 86, 3), (.aload_n 0, 1), (.getfield 34, 3), (.getfield 237, 3), (.iload_n 1, 1), (.iaload, 1), (.iaload, 1), (.iconst (-1), 1)] (28, [(0, z_r 78), (1, .inl p1)], [.inl (-1), .inl (S 164 (S 88 (p1).toNatClampNeg).toNatClampNeg), z_r 78], zW T' G' S n, 0, 0) (by decide +kernel) rfl ⟨trivial, rfl, trivial, rfl, rfl, trivial, ⟨rfl, hs.1⟩, ⟨rfl, hs.2.1⟩, trivial, trivial⟩ ?_
    replace hs := hs.2.2
    refine z_icmp_ne 35 M.1 (off := 7) (by decide +kernel) (by decide) (fun c28 => ?_) (fun c28 => ?_)
    · rw [if_neg c28] at K
      refine z_go2 M.1 35 [(.iconst 0, 1)] (36, [(0, z_r 78), (1, .inl p1)], [.inl 0, z_r 78], zW T' G' S n, 0, 0) (by decide +kernel) rfl ⟨trivial, trivial⟩ ?_
      exact z_lvs (lv' := [(0, z_r 78)]) [0] rfl (t_M_asksGoal_j36 M S 0 hQ K)
    · rw [if_pos c28] at K
      refine z_go2 M.1 31 [(.iconst 2, 1), (.goto 4, 3)] (36, [(0, z_r 78), (1, .inl p1)], [.inl 2, z_r 78], zW T' G' S n, 0, 0) (by decide +kernel) rfl ⟨trivial, trivial, trivial⟩ ?_
      exact z_lvs (lv' := [(0, z_r 78)]) [0] rfl (t_M_asksGoal_j36 M S 2 hQ K)
  · rw [if_pos c6] at K hs
    refine z_go2 M.1 9 [(.iconst 1, 1), (.goto 26, 3)] (36, [(0, z_r 78), (1, .inl p1)], [.inl 1, z_r 78], zW T' G' S n, 0, 0) (by decide +kernel) rfl ⟨trivial, trivial, trivial⟩ ?_
    exact z_lvs (lv' := [(0, z_r 78)]) [0] rfl (t_M_asksGoal_j36 M S 1 hQ K)

-- TrackHouseModel.left
abbrev rm_M_left : Room := zr 3
def F_M_left (S : (Nat → Nat → Int32)) (p1 : Int32) : (Int32 × (Nat → Nat → Int32)) := (match F_M_asksGoal S p1 with | (r2, S2) => (if r2 = 0 then (0, S2) else ((F_M_leftOf S2 p1), S2)))
def Sf_M_left (S : (Nat → Nat → Int32)) (p1 : Int32) : Prop := (Sf_M_asksGoal S p1 ∧ (match F_M_asksGoal S p1 with | (r2, S2) => (if r2 = 0 then True else (Sf_M_leftOf S2 p1 ∧ True))))
theorem c_M_left (T' : Nat → Nat × Nat) (G' : Nat → Nat → Option Nat) (S : (Nat → Nat → Int32)) (n : Nat) (p1 : Int32) (hs : Sf_M_left S p1) : z_Run rm_M_left zm_M_left [z_r 78, .inl p1] (zW T' G' S n) (zq (some (.inl (F_M_left S p1).1)) (zW T' G' (F_M_left S p1).2 n)) := by
  refine z_body (by decide) zf_M_ok (Nat.le_of_ble_eq_true rfl) (fun X M => ?_)
  obtain ⟨Q, hQ, K⟩ : ∃ Q : (Int32 × (Nat → Nat → Int32)) → Prop, (∀ v S', Q (v, S') → zq (some (.inl (F_M_left S p1).1)) (zW T' G' (F_M_left S p1).2 n) (some (.inl v)) (zW T' G' S' n)) ∧ Q (F_M_left S p1) := ⟨fun o => F_M_left S p1 = o, fun v S' h => ⟨by rw [h], by rw [h]⟩, rfl⟩
  show z_G X zm_M_left (0, [(0, z_r 78), (1, .inl p1)], [], zW T' G' S n, 0, 0)
  unfold F_M_left at K
  unfold Sf_M_left at hs
  refine z_go2 M.1 0 [(.aload_n 0, 1), (.iload_n 1, 1)] (2, [(0, z_r 78), (1, .inl p1)], [.inl p1, z_r 78], zW T' G' S n, 0, 0) (by decide +kernel) rfl ⟨trivial, trivial, trivial⟩ ?_
  refine z_callV M.1 (av := [.inl p1]) (st := []) (a := 78) (ci := 14) (by decide +kernel) (c_M_asksGoal T' G' S n p1 hs.1) M.2.1 zl_M_489 zv_M_asksGoal rfl rfl rfl ⟨by decide, by decide, by decide, by decide⟩ rfl (Nat.le_of_ble_eq_true rfl) (fun v w' hv => ?_)
  replace hs := hs.2
  rcases hF2 : F_M_asksGoal S p1 with ⟨r2, S2⟩
  rw [hF2] at K hv
  try rw [hF2] at hs
  try dsimp only at K hs
  obtain ⟨rfl, rfl⟩ := hv
  show z_G X zm_M_left (5, [(0, z_r 78), (1, .inl p1)], [.inl r2], zW T' G' S2 n, 0, 0)
  refine z_if_eq 16 M.1 (off := 11) (by decide +kernel) (by decide) (fun c5 => ?_) (fun c5 => ?_)
  · rw [if_pos c5] at K hs
    refine z_go2 M.1 16 [(.iconst 0, 1)] (17, [(0, z_r 78), (1, .inl p1)], [.inl 0], zW T' G' S2 n, 0, 0) (by decide +kernel) rfl ⟨trivial, trivial⟩ ?_
    exact z_iret M (by decide +kernel) .int rfl rfl (by decide) (by decide) (hQ _ _ K)
  · rw [if_neg c5] at K hs
    refine z_go2 M.1 8 [(.aload_n 0, 1), (.iload_n 1, 1)] (10, [(0, z_r 78), (1, .inl p1)], [.inl p1, z_r 78], zW T' G' S2 n, 0, 0) (by decide +kernel) rfl ⟨trivial, trivial, trivial⟩ ?_
    refine z_callV M.1 (av := [.inl p1]) (st := []) (a := 78) (ci := 14) (by decide +kernel) (c_M_leftOf T' G' S2 n p1 hs.1) M.2.1 zl_M_492 zv_M_leftOf rfl rfl rfl ⟨by decide, by decide, by decide, by decide⟩ rfl (Nat.le_of_ble_eq_true rfl) (fun v w' hv => ?_)
    obtain ⟨rfl, rfl⟩ := hv
    replace hs := hs.2
    show z_G X zm_M_left (13, [(0, z_r 78), (1, .inl p1)], [.inl (F_M_leftOf S2 p1)], zW T' G' S2 n, 0, 0)
    refine z_go2 M.1 13 [(.goto 4, 3)] (17, [(0, z_r 78), (1, .inl p1)], [.inl (F_M_leftOf S2 p1)], zW T' G' S2 n, 0, 0) (by decide +kernel) rfl ⟨trivial, trivial⟩ ?_
    exact z_iret M (by decide +kernel) .int rfl rfl (by decide) (by decide) (hQ _ _ K)

-- TrackHouseModel.breach
abbrev rm_M_breach : Room := zr 3
def F_M_breach_l44_55 (rc : (Nat → Nat → Int32) → Int32 → Int32 → (Int32 × (Nat → Nat → Int32))) (S : (Nat → Nat → Int32)) (x2 : Int32) (x3 : Int32) : (Int32 × (Nat → Nat → Int32)) := (if (F_M_isWorking S x3) = 0 then (rc S (x2 - 0) (x3 + 1)) else (rc S (x2 - 1) (x3 + 1)))
def Sf_M_breach_l44_55 (rc : (Nat → Nat → Int32) → Int32 → Int32 → (Int32 × (Nat → Nat → Int32))) (sr : (Nat → Nat → Int32) → Int32 → Int32 → Prop) (S : (Nat → Nat → Int32)) (x2 : Int32) (x3 : Int32) : Prop := (if (F_M_isWorking S x3) = 0 then (sr S (x2 - 0) (x3 + 1)) else (sr S (x2 - 1) (x3 + 1)))
theorem t_M_breach_l44_55 {X : z_X} {Post : Option z_V → z_W → Prop} (M : z_M X zm_M_breach rm_M_breach Post) {T' : Nat → Nat × Nat} {G' : Nat → Nat → Option Nat} {n : Nat} {Q : (Int32 × (Nat → Nat → Int32)) → Prop} (rc : (Nat → Nat → Int32) → Int32 → Int32 → (Int32 × (Nat → Nat → Int32))) (sr : (Nat → Nat → Int32) → Int32 → Int32 → Prop) (S : (Nat → Nat → Int32)) (x2 : Int32) (x3 : Int32) (hE : ∀ (y3 : Int32) (S' : (Nat → Nat → Int32)), Q (y3, S') → z_G X zm_M_breach (76, [(3, .inl y3)], [], zW T' G' S' n, 0, 0)) (hC : ∀ (S : (Nat → Nat → Int32)) (x2 : Int32) (x3 : Int32), Q (rc S x2 x3) → sr S x2 x3 → z_G X zm_M_breach (44, [(2, .inl x2), (3, .inl x3)], [], zW T' G' S n, 0, 0)) (K : Q (F_M_breach_l44_55 rc S x2 x3)) (hs : Sf_M_breach_l44_55 rc sr S x2 x3) : z_G X zm_M_breach (55, [(2, .inl x2), (3, .inl x3)], [], zW T' G' S n, 0, 0) := by
  unfold F_M_breach_l44_55 at K
  unfold Sf_M_breach_l44_55 at hs
  refine z_go2 M.1 55 [(.iload_n 2, 1), (.iload_n 3, 1)] (57, [(2, .inl x2), (3, .inl x3)], [.inl x3, .inl x2], zW T' G' S n, 0, 0) (by decide +kernel) rfl ⟨trivial, trivial, trivial⟩ ?_
  refine z_callS M.1 (av := [.inl x3]) (st := [.inl x2]) (by decide +kernel) (c_M_isWorking T' G' S n x3) M.2.1 zl_M_483 zs_M_isWorking ⟨by decide, by decide, by decide, by decide⟩ rfl (Nat.le_of_ble_eq_true rfl) (fun v w' hv => ?_)
  obtain ⟨rfl, rfl⟩ := hv
  show z_G X zm_M_breach (60, [(2, .inl x2), (3, .inl x3)], [.inl (F_M_isWorking S x3), .inl x2], zW T' G' S n, 0, 0)
  refine z_if_eq 67 M.1 (off := 7) (by decide +kernel) (by decide) (fun c60 => ?_) (fun c60 => ?_)
  · rw [if_pos c60] at K hs
    refine z_go2 M.1 67 [(.iconst 0, 1), (.isub, 1), (.istore_n 2, 1), (.iinc 3 1, 3), (.goto (-29), 3)] (44, [(3, .inl (x3 + 1)), (2, .inl (x2 - 0))], [], zW T' G' S n, 0, 0) (by decide +kernel) rfl ⟨trivial, trivial, trivial, trivial, trivial, trivial⟩ ?_
    exact z_lvs (lv' := [(2, .inl (x2 - 0)), (3, .inl (x3 + 1))]) [1, 0] rfl (hC S (x2 - 0) (x3 + 1) K hs)
  · rw [if_neg c60] at K hs
    refine z_go2 M.1 63 [(.iconst 1, 1), (.goto 4, 3), (.isub, 1), (.istore_n 2, 1), (.iinc 3 1, 3), (.goto (-29), 3)] (44, [(3, .inl (x3 + 1)), (2, .inl (x2 - 1))], [], zW T' G' S n, 0, 0) (by decide +kernel) rfl ⟨trivial, trivial, trivial, trivial, trivial, trivial, trivial⟩ ?_
    exact z_lvs (lv' := [(2, .inl (x2 - 1)), (3, .inl (x3 + 1))]) [1, 0] rfl (hC S (x2 - 1) (x3 + 1) K hs)
def F_M_breach_L44 : Nat → (Nat → Nat → Int32) → Int32 → Int32 → (Int32 × (Nat → Nat → Int32))
  | 0, S, x2, x3 => (x3, S)
  | f + 1, S, x2, x3 => (if (0 : Int32) < x2 then (F_M_breach_l44_55 (F_M_breach_L44 f) S x2 x3) else (if (F_M_isWorking S x3) = 0 then (F_M_breach_l44_55 (F_M_breach_L44 f) S x2 x3) else (x3, S)))
def Sf_M_breach_L44 : Nat → (Nat → Nat → Int32) → Int32 → Int32 → Prop
  | 0, _, _, _ => False
  | f + 1, S, x2, x3 => (if (0 : Int32) < x2 then (Sf_M_breach_l44_55 (F_M_breach_L44 f) (Sf_M_breach_L44 f) S x2 x3) else (if (F_M_isWorking S x3) = 0 then (Sf_M_breach_l44_55 (F_M_breach_L44 f) (Sf_M_breach_L44 f) S x2 x3) else True))
theorem t_M_breach_L44 {X : z_X} {Post : Option z_V → z_W → Prop} (M : z_M X zm_M_breach rm_M_breach Post) {T' : Nat → Nat × Nat} {G' : Nat → Nat → Option Nat} {n : Nat} {Q : (Int32 × (Nat → Nat → Int32)) → Prop}  (hE : ∀ (y3 : Int32) (S' : (Nat → Nat → Int32)), Q (y3, S') → z_G X zm_M_breach (76, [(3, .inl y3)], [], zW T' G' S' n, 0, 0)) (f : Nat) : ∀ (S : (Nat → Nat → Int32)) (x2 : Int32) (x3 : Int32), Q (F_M_breach_L44 f S x2 x3) → Sf_M_breach_L44 f S x2 x3 → z_G X zm_M_breach (44, [(2, .inl x2), (3, .inl x3)], [], zW T' G' S n, 0, 0) := by
  induction f with
  | zero => intro S x2 x3 K hs; exact False.elim hs
  | succ f hC =>
    intro S x2 x3 K hs
    rw [F_M_breach_L44] at K
    rw [Sf_M_breach_L44] at hs
    refine z_go2 M.1 44 [(.iload_n 2, 1)] (45, [(2, .inl x2), (3, .inl x3)], [.inl x2], zW T' G' S n, 0, 0) (by decide +kernel) rfl ⟨trivial, trivial⟩ ?_
    refine z_if_gt 55 M.1 (off := 10) (by decide +kernel) (by decide) (fun c45 => ?_) (fun c45 => ?_)
    · rw [if_pos c45] at K hs
      exact z_lvs (lv' := [(2, .inl x2), (3, .inl x3)]) [0, 1] rfl (t_M_breach_l44_55 M (F_M_breach_L44 f) (Sf_M_breach_L44 f) S x2 x3 hE hC K hs)
    · rw [if_neg c45] at K hs
      refine z_go2 M.1 48 [(.iload_n 3, 1)] (49, [(2, .inl x2), (3, .inl x3)], [.inl x3], zW T' G' S n, 0, 0) (by decide +kernel) rfl ⟨trivial, trivial⟩ ?_
      refine z_callS M.1 (av := [.inl x3]) (st := []) (by decide +kernel) (c_M_isWorking T' G' S n x3) M.2.1 zl_M_483 zs_M_isWorking ⟨by decide, by decide, by decide, by decide⟩ rfl (Nat.le_of_ble_eq_true rfl) (fun v w' hv => ?_)
      obtain ⟨rfl, rfl⟩ := hv
      show z_G X zm_M_breach (52, [(2, .inl x2), (3, .inl x3)], [.inl (F_M_isWorking S x3)], zW T' G' S n, 0, 0)
      refine z_if_ne 76 M.1 (off := 24) (by decide +kernel) (by decide) (fun c52 => ?_) (fun c52 => ?_)
      · rw [if_neg c52] at K hs
        exact z_lvs (lv' := [(3, .inl x3)]) [1] rfl (hE x3 S K)
      · rw [if_pos c52] at K hs
        exact z_lvs (lv' := [(2, .inl x2), (3, .inl x3)]) [0, 1] rfl (t_M_breach_l44_55 M (F_M_breach_L44 f) (Sf_M_breach_L44 f) S x2 x3 hE hC K hs)
def F_M_breach (S : (Nat → Nat → Int32)) (p1 : Int32) : (Int32 × (Nat → Nat → Int32)) := (match F_M_asksGoal S p1 with | (r2, S2) => (if r2 = 0 then (0, S2) else (if (F_M_leftOf S2 p1) < 0 then ((-1), S2) else (if (F_M_runs S2 p1 (S2 89 (p1).toNatClampNeg)) = 0 then ((-1), S2) else (match F_M_breach_L44 1300 S2 (F_M_leftOf S2 p1) (S2 78 1) with | (y3_44, S44) => (y3_44, S44))))))
def Sf_M_breach (S : (Nat → Nat → Int32)) (p1 : Int32) : Prop := (Sf_M_asksGoal S p1 ∧ (match F_M_asksGoal S p1 with | (r2, S2) => (if r2 = 0 then True else (Sf_M_leftOf S2 p1 ∧ (if (F_M_leftOf S2 p1) < 0 then True else ((vp_in p1 30) ∧ (Sf_M_runs S2 p1 (S2 89 (p1).toNatClampNeg) ∧ (if (F_M_runs S2 p1 (S2 89 (p1).toNatClampNeg)) = 0 then True else (Sf_M_breach_L44 1300 S2 (F_M_leftOf S2 p1) (S2 78 1) ∧ True)))))))))
theorem c_M_breach (T' : Nat → Nat × Nat) (G' : Nat → Nat → Option Nat) (S : (Nat → Nat → Int32)) (n : Nat) (p1 : Int32) (hs : Sf_M_breach S p1) : z_Run rm_M_breach zm_M_breach [z_r 78, .inl p1] (zW T' G' S n) (zq (some (.inl (F_M_breach S p1).1)) (zW T' G' (F_M_breach S p1).2 n)) := by
  refine z_body (by decide) zf_M_ok (Nat.le_of_ble_eq_true rfl) (fun X M => ?_)
  obtain ⟨Q, hQ, K⟩ : ∃ Q : (Int32 × (Nat → Nat → Int32)) → Prop, (∀ v S', Q (v, S') → zq (some (.inl (F_M_breach S p1).1)) (zW T' G' (F_M_breach S p1).2 n) (some (.inl v)) (zW T' G' S' n)) ∧ Q (F_M_breach S p1) := ⟨fun o => F_M_breach S p1 = o, fun v S' h => ⟨by rw [h], by rw [h]⟩, rfl⟩
  show z_G X zm_M_breach (0, [(0, z_r 78), (1, .inl p1)], [], zW T' G' S n, 0, 0)
  unfold F_M_breach at K
  unfold Sf_M_breach at hs
  refine z_go2 M.1 0 [(.aload_n 0, 1), (.iload_n 1, 1)] (2, [(0, z_r 78), (1, .inl p1)], [.inl p1, z_r 78], zW T' G' S n, 0, 0) (by decide +kernel) rfl ⟨trivial, trivial, trivial⟩ ?_
  refine z_callV M.1 (av := [.inl p1]) (st := []) (a := 78) (ci := 14) (by decide +kernel) (c_M_asksGoal T' G' S n p1 hs.1) M.2.1 zl_M_489 zv_M_asksGoal rfl rfl rfl ⟨by decide, by decide, by decide, by decide⟩ rfl (Nat.le_of_ble_eq_true rfl) (fun v w' hv => ?_)
  replace hs := hs.2
  rcases hF2 : F_M_asksGoal S p1 with ⟨r2, S2⟩
  rw [hF2] at K hv
  try rw [hF2] at hs
  try dsimp only at K hs
  obtain ⟨rfl, rfl⟩ := hv
  show z_G X zm_M_breach (5, [(0, z_r 78), (1, .inl p1)], [.inl r2], zW T' G' S2 n, 0, 0)
  refine z_if_ne 10 M.1 (off := 5) (by decide +kernel) (by decide) (fun c5 => ?_) (fun c5 => ?_)
  · rw [if_neg c5] at K hs
    refine z_go2 M.1 10 [(.aload_n 0, 1), (.iload_n 1, 1)] (12, [(0, z_r 78), (1, .inl p1)], [.inl p1, z_r 78], zW T' G' S2 n, 0, 0) (by decide +kernel) rfl ⟨trivial, trivial, trivial⟩ ?_
    refine z_callV M.1 (av := [.inl p1]) (st := []) (a := 78) (ci := 14) (by decide +kernel) (c_M_leftOf T' G' S2 n p1 hs.1) M.2.1 zl_M_492 zv_M_leftOf rfl rfl rfl ⟨by decide, by decide, by decide, by decide⟩ rfl (Nat.le_of_ble_eq_true rfl) (fun v w' hv => ?_)
    obtain ⟨rfl, rfl⟩ := hv
    replace hs := hs.2
    show z_G X zm_M_breach (15, [(0, z_r 78), (1, .inl p1)], [.inl (F_M_leftOf S2 p1)], zW T' G' S2 n, 0, 0)
    refine z_go2 M.1 15 [(.istore_n 2, 1), (.iload_n 2, 1)] (17, [(2, .inl (F_M_leftOf S2 p1)), (0, z_r 78), (1, .inl p1)], [.inl (F_M_leftOf S2 p1)], zW T' G' S2 n, 0, 0) (by decide +kernel) rfl ⟨trivial, trivial, trivial⟩ ?_
    refine z_if_lt 37 M.1 (off := 20) (by decide +kernel) (by decide) (fun c17 => ?_) (fun c17 => ?_)
    · rw [if_pos c17] at K hs
      refine z_go2 M.1 37 [(.iconst (-1), 1)] (38, [(2, .inl (F_M_leftOf S2 p1)), (0, z_r 78), (1, .inl p1)], [.inl (-1)], zW T' G' S2 n, 0, 0) (by decide +kernel) rfl ⟨trivial, trivial⟩ ?_
      exact z_iret M (by decide +kernel) .int rfl rfl (by decide) (by decide) (hQ _ _ K)
    · rw [if_neg c17] at K hs
      refine z_go2 M.1 20 [(.aload_n 0, 1), (.iload_n 1, 1), (.aload_n 0, 1), (.getfield 34, 3), (.getfield 198, 3), (.iload_n 1, 1), (.iaload, 1)] (31, [(2, .inl (F_M_leftOf S2 p1)), (0, z_r 78), (1, .inl p1)], [.inl (S2 89 (p1).toNatClampNeg), .inl p1, z_r 78], zW T' G' S2 n, 0, 0) (by decide +kernel) rfl ⟨trivial, trivial, trivial, rfl, rfl, trivial, ⟨rfl, hs.1⟩, trivial⟩ ?_
      replace hs := hs.2
      refine z_callV M.1 (av := [.inl p1, .inl (S2 89 (p1).toNatClampNeg)]) (st := []) (a := 78) (ci := 14) (by decide +kernel) (c_M_runs T' G' S2 n p1 (S2 89 (p1).toNatClampNeg) hs.1) M.2.1 zl_M_486 zv_M_runs rfl rfl rfl ⟨by decide, by decide, by decide, by decide⟩ rfl (Nat.le_of_ble_eq_true rfl) (fun v w' hv => ?_)
      obtain ⟨rfl, rfl⟩ := hv
      replace hs := hs.2
      show z_G X zm_M_breach (34, [(2, .inl (F_M_leftOf S2 p1)), (0, z_r 78), (1, .inl p1)], [.inl (F_M_runs S2 p1 (S2 89 (p1).toNatClampNeg))], zW T' G' S2 n, 0, 0)
      refine z_if_ne 39 M.1 (off := 5) (by decide +kernel) (by decide) (fun c34 => ?_) (fun c34 => ?_)
      · rw [if_neg c34] at K hs
        refine z_go2 M.1 39 [(.aload_n 0, 1), (.getfield 185, 3), (.istore_n 3, 1)] (44, [(3, .inl (S2 78 1)), (2, .inl (F_M_leftOf S2 p1)), (0, z_r 78), (1, .inl p1)], [], zW T' G' S2 n, 0, 0) (by decide +kernel) rfl ⟨trivial, rfl, trivial, trivial⟩ ?_
        refine z_lvs (lv' := [(2, .inl (F_M_leftOf S2 p1)), (3, .inl (S2 78 1))]) [1, 0] rfl ?_
        refine t_M_breach_L44 M (Q := fun o => F_M_breach_L44 1300 S2 (F_M_leftOf S2 p1) (S2 78 1) = o) (fun y3_44 S44 hL44 => ?_) 1300 S2 (F_M_leftOf S2 p1) (S2 78 1) rfl hs.1
        replace hs := hs.2
        rw [hL44] at K
        try dsimp only at K
        refine z_go2 M.1 76 [(.iload_n 3, 1)] (77, [(3, .inl y3_44)], [.inl y3_44], zW T' G' S44 n, 0, 0) (by decide +kernel) rfl ⟨trivial, trivial⟩ ?_
        exact z_iret M (by decide +kernel) .int rfl rfl (by decide) (by decide) (hQ _ _ K)
      · rw [if_pos c34] at K hs
        refine z_go2 M.1 37 [(.iconst (-1), 1)] (38, [(2, .inl (F_M_leftOf S2 p1)), (0, z_r 78), (1, .inl p1)], [.inl (-1)], zW T' G' S2 n, 0, 0) (by decide +kernel) rfl ⟨trivial, trivial⟩ ?_
        exact z_iret M (by decide +kernel) .int rfl rfl (by decide) (by decide) (hQ _ _ K)
  · rw [if_pos c5] at K hs
    refine z_go2 M.1 8 [(.iconst 0, 1)] (9, [(0, z_r 78), (1, .inl p1)], [.inl 0], zW T' G' S2 n, 0, 0) (by decide +kernel) rfl ⟨trivial, trivial⟩ ?_
    exact z_iret M (by decide +kernel) .int rfl rfl (by decide) (by decide) (hQ _ _ K)

-- TrackHouseModel.bulk
abbrev rm_M_bulk : Room := zr 95
def F_M_bulk_l114_193 (fl : Nat → Nat) (rc : (Nat → Nat → Int32) → Int32 → Int32 → Int32 → (Int32 × Int32 × (Nat → Nat → Int32))) (S : (Nat → Nat → Int32)) (x1 : Int32) (x2 : Int32) (x3 : Int32) (x5 : Int32) (x7 : Int32) (x8 : Int32) (x9 : Int32) (s0 : Int32) (s1 : Int32) : (Int32 × Int32 × (Nat → Nat → Int32)) := (if x9 = 0 then (rc S (s1 + s0) x7 (x8 + 1)) else (if (S 90 (((3 : Int32) * x8) + x2).toNatClampNeg) = x3 then (rc S (s1 + s0) x7 (x8 + 1)) else (z_let (F_M_change 86 (z_uS (z_uS S 181 (x7).toNatClampNeg x8) 182 (x7).toNatClampNeg (S 90 (((3 : Int32) * x8) + x2).toNatClampNeg)) 3 x1 x8 x2 x3) (fun S263 => (rc S263 (s1 + s0) (x7 + 1) (x8 + 1))))))
def Sf_M_bulk_l114_193 (fl : Nat → Nat) (rc : (Nat → Nat → Int32) → Int32 → Int32 → Int32 → (Int32 × Int32 × (Nat → Nat → Int32))) (sr : (Nat → Nat → Int32) → Int32 → Int32 → Int32 → Prop) (S : (Nat → Nat → Int32)) (x1 : Int32) (x2 : Int32) (x3 : Int32) (x5 : Int32) (x7 : Int32) (x8 : Int32) (x9 : Int32) (s0 : Int32) (s1 : Int32) : Prop := (if x9 = 0 then (sr S (s1 + s0) x7 (x8 + 1)) else ((vp_in (((3 : Int32) * x8) + x2) 90) ∧ (if (S 90 (((3 : Int32) * x8) + x2).toNatClampNeg) = x3 then (sr S (s1 + s0) x7 (x8 + 1)) else ((vp_in x7 2000) ∧ ((vp_in (((3 : Int32) * x8) + x2) 90) ∧ ((vp_in x7 2000) ∧ (Sf_M_change 86 (z_uS (z_uS S 181 (x7).toNatClampNeg x8) 182 (x7).toNatClampNeg (S 90 (((3 : Int32) * x8) + x2).toNatClampNeg)) 3 x1 x8 x2 x3 ∧ (z_let (F_M_change 86 (z_uS (z_uS S 181 (x7).toNatClampNeg x8) 182 (x7).toNatClampNeg (S 90 (((3 : Int32) * x8) + x2).toNatClampNeg)) 3 x1 x8 x2 x3) (fun S263 => (sr S263 (s1 + s0) (x7 + 1) (x8 + 1)))))))))))
theorem t_M_bulk_l114_193 {X : z_X} {Post : Option z_V → z_W → Prop} (M : z_M X zm_M_bulk rm_M_bulk Post) {T' : Nat → Nat × Nat} {G' : Nat → Nat → Option Nat} {n : Nat} (fl : Nat → Nat) (hfl : zOK T' G' fl n) {Q : (Int32 × Int32 × (Nat → Nat → Int32)) → Prop} (rc : (Nat → Nat → Int32) → Int32 → Int32 → Int32 → (Int32 × Int32 × (Nat → Nat → Int32))) (sr : (Nat → Nat → Int32) → Int32 → Int32 → Int32 → Prop) (S : (Nat → Nat → Int32)) (x1 : Int32) (x2 : Int32) (x3 : Int32) (x5 : Int32) (x7 : Int32) (x8 : Int32) (x9 : Int32) (s0 : Int32) (s1 : Int32) (hE : ∀ (y6 : Int32) (y7 : Int32) (S' : (Nat → Nat → Int32)), Q (y6, y7, S') → z_G X zm_M_bulk (272, [(0, z_r 78), (1, .inl x1), (2, .inl x2), (3, .inl x3), (5, .inl x5), (6, .inl y6), (7, .inl y7)], [], zW T' G' S' n, 0, 0)) (hC : ∀ (S : (Nat → Nat → Int32)) (x6 : Int32) (x7 : Int32) (x8 : Int32), Q (rc S x6 x7 x8) → sr S x6 x7 x8 → z_G X zm_M_bulk (114, [(0, z_r 78), (1, .inl x1), (2, .inl x2), (3, .inl x3), (5, .inl x5), (6, .inl x6), (7, .inl x7), (8, .inl x8)], [], zW T' G' S n, 0, 0)) (K : Q (F_M_bulk_l114_193 fl rc S x1 x2 x3 x5 x7 x8 x9 s0 s1)) (hs : Sf_M_bulk_l114_193 fl rc sr S x1 x2 x3 x5 x7 x8 x9 s0 s1) : z_G X zm_M_bulk (193, [(0, z_r 78), (1, .inl x1), (2, .inl x2), (3, .inl x3), (5, .inl x5), (7, .inl x7), (8, .inl x8), (9, .inl x9)], [.inl s0, .inl s1], zW T' G' S n, 0, 0) := by
  unfold F_M_bulk_l114_193 at K
  unfold Sf_M_bulk_l114_193 at hs
  refine z_go2 M.1 193 [(.iadd, 1), (.istore 6, 2), (.iload 9, 2)] (198, [(6, .inl (s1 + s0)), (0, z_r 78), (1, .inl x1), (2, .inl x2), (3, .inl x3), (5, .inl x5), (7, .inl x7), (8, .inl x8), (9, .inl x9)], [.inl x9], zW T' G' S n, 0, 0) (by decide +kernel) rfl ⟨trivial, trivial, trivial, trivial⟩ ?_
  refine z_if_eq 266 M.1 (off := 68) (by decide +kernel) (by decide) (fun c198 => ?_) (fun c198 => ?_)
  · rw [if_pos c198] at K hs
    refine z_go2 M.1 266 [(.iinc 8 1, 3), (.goto (-155), 3)] (114, [(8, .inl (x8 + 1)), (6, .inl (s1 + s0)), (0, z_r 78), (1, .inl x1), (2, .inl x2), (3, .inl x3), (5, .inl x5), (7, .inl x7), (9, .inl x9)], [], zW T' G' S n, 0, 0) (by decide +kernel) rfl ⟨trivial, trivial, trivial⟩ ?_
    exact z_lvs (lv' := [(0, z_r 78), (1, .inl x1), (2, .inl x2), (3, .inl x3), (5, .inl x5), (6, .inl (s1 + s0)), (7, .inl x7), (8, .inl (x8 + 1))]) [2, 3, 4, 5, 6, 1, 7, 0] rfl (hC S (s1 + s0) x7 (x8 + 1) K hs)
  · rw [if_neg c198] at K hs
    refine z_go2 M.1 201 [(.aload_n 0, 1), (.getfield 34, 3), (.getfield 201, 3), (.iconst 3, 1), (.iload 8, 2), (.imul, 1), (.iload_n 2, 1), (.iadd, 1), (.iaload, 1), (.iload_n 3, 1)] (216, [(6, .inl (s1 + s0)), (0, z_r 78), (1, .inl x1), (2, .inl x2), (3, .inl x3), (5, .inl x5), (7, .inl x7), (8, .inl x8), (9, .inl x9)], [.inl x3, .inl (S 90 (((3 : Int32) * x8) + x2).toNatClampNeg)], zW T' G' S n, 0, 0) (by decide +kernel) rfl ⟨trivial, rfl, rfl, trivial, trivial, trivial, trivial, trivial, ⟨rfl, hs.1⟩, trivial, trivial⟩ ?_
    replace hs := hs.2
    refine z_icmp_eq 266 M.1 (off := 50) (by decide +kernel) (by decide) (fun c216 => ?_) (fun c216 => ?_)
    · rw [if_pos c216] at K hs
      refine z_go2 M.1 266 [(.iinc 8 1, 3), (.goto (-155), 3)] (114, [(8, .inl (x8 + 1)), (6, .inl (s1 + s0)), (0, z_r 78), (1, .inl x1), (2, .inl x2), (3, .inl x3), (5, .inl x5), (7, .inl x7), (9, .inl x9)], [], zW T' G' S n, 0, 0) (by decide +kernel) rfl ⟨trivial, trivial, trivial⟩ ?_
      exact z_lvs (lv' := [(0, z_r 78), (1, .inl x1), (2, .inl x2), (3, .inl x3), (5, .inl x5), (6, .inl (s1 + s0)), (7, .inl x7), (8, .inl (x8 + 1))]) [2, 3, 4, 5, 6, 1, 7, 0] rfl (hC S (s1 + s0) x7 (x8 + 1) K hs)
    · rw [if_neg c216] at K hs
      refine z_go2 M.1 219 [(.aload_n 0, 1), (.getfield 137, 3), (.iload 7, 2), (.iload 8, 2), (.iastore, 1), (.aload_n 0, 1), (.getfield 140, 3), (.iload 7, 2), (.aload_n 0, 1), (.getfield 34, 3), (.getfield 201, 3), (.iconst 3, 1), (.iload 8, 2), (.imul, 1), (.iload_n 2, 1), (.iadd, 1), (.iaload, 1), (.iastore, 1), (.iinc 7 1, 3), (.aload_n 0, 1), (.aload_n 0, 1), (.getfield 34, 3), (.iconst 3, 1), (.iload_n 1, 1), (.iload 8, 2), (.iload_n 2, 1), (.iload_n 3, 1)] (263, [(7, .inl (x7 + 1)), (6, .inl (s1 + s0)), (0, z_r 78), (1, .inl x1), (2, .inl x2), (3, .inl x3), (5, .inl x5), (8, .inl x8), (9, .inl x9)], [.inl x3, .inl x2, .inl x8, .inl x1, .inl 3, z_r 86, z_r 78], zW T' G' (z_uS (z_uS S 181 (x7).toNatClampNeg x8) 182 (x7).toNatClampNeg (S 90 (((3 : Int32) * x8) + x2).toNatClampNeg)) n, 0, 0) (by decide +kernel) rfl ⟨trivial, rfl, trivial, trivial, ⟨rfl, hs.1⟩, trivial, rfl, trivial, trivial, rfl, rfl, trivial, trivial, trivial, trivial, trivial, ⟨rfl, hs.2.1⟩, ⟨rfl, hs.2.2.1⟩, trivial, trivial, trivial, rfl, trivial, trivial, trivial, trivial, trivial, trivial⟩ ?_
      replace hs := hs.2.2.2
      refine z_callV M.1 (av := [z_r 86, .inl 3, .inl x1, .inl x8, .inl x2, .inl x3]) (st := []) (a := 78) (ci := 14) (by decide +kernel) (c_M_change_86 T' G' (z_uS (z_uS S 181 (x7).toNatClampNeg x8) 182 (x7).toNatClampNeg (S 90 (((3 : Int32) * x8) + x2).toNatClampNeg)) n 3 x1 x8 x2 x3 hs.1) M.2.1 zl_M_259 zv_M_change rfl rfl rfl ⟨by decide, by decide, by decide, by decide⟩ rfl (Nat.le_of_ble_eq_true rfl) (fun v w' hv => ?_)
      replace hs := hs.2
      obtain ⟨S263, hF263⟩ : ∃ y, F_M_change 86 (z_uS (z_uS S 181 (x7).toNatClampNeg x8) 182 (x7).toNatClampNeg (S 90 (((3 : Int32) * x8) + x2).toNatClampNeg)) 3 x1 x8 x2 x3 = y := ⟨_, rfl⟩
      rw [hF263] at K hv
      try rw [hF263] at hs
      try dsimp only [z_let] at K hs
      obtain ⟨rfl, rfl⟩ := hv
      show z_G X zm_M_bulk (266, [(7, .inl (x7 + 1)), (6, .inl (s1 + s0)), (0, z_r 78), (1, .inl x1), (2, .inl x2), (3, .inl x3), (5, .inl x5), (8, .inl x8), (9, .inl x9)], [], zW T' G' S263 n, 0, 0)
      refine z_go2 M.1 266 [(.iinc 8 1, 3), (.goto (-155), 3)] (114, [(8, .inl (x8 + 1)), (7, .inl (x7 + 1)), (6, .inl (s1 + s0)), (0, z_r 78), (1, .inl x1), (2, .inl x2), (3, .inl x3), (5, .inl x5), (9, .inl x9)], [], zW T' G' S263 n, 0, 0) (by decide +kernel) rfl ⟨trivial, trivial, trivial⟩ ?_
      exact z_lvs (lv' := [(0, z_r 78), (1, .inl x1), (2, .inl x2), (3, .inl x3), (5, .inl x5), (6, .inl (s1 + s0)), (7, .inl (x7 + 1)), (8, .inl (x8 + 1))]) [3, 4, 5, 6, 7, 2, 1, 0] rfl (hC S263 (s1 + s0) (x7 + 1) (x8 + 1) K hs)
def F_M_bulk_l114_179 (fl : Nat → Nat) (rc : (Nat → Nat → Int32) → Int32 → Int32 → Int32 → (Int32 × Int32 × (Nat → Nat → Int32))) (S : (Nat → Nat → Int32)) (x1 : Int32) (x2 : Int32) (x3 : Int32) (x5 : Int32) (x6 : Int32) (x7 : Int32) (x8 : Int32) (s0 : Int32) : (Int32 × Int32 × (Nat → Nat → Int32)) := (if s0 = 0 then (F_M_bulk_l114_193 fl rc S x1 x2 x3 x5 x7 x8 s0 1 x6) else (F_M_bulk_l114_193 fl rc S x1 x2 x3 x5 x7 x8 s0 0 x6))
def Sf_M_bulk_l114_179 (fl : Nat → Nat) (rc : (Nat → Nat → Int32) → Int32 → Int32 → Int32 → (Int32 × Int32 × (Nat → Nat → Int32))) (sr : (Nat → Nat → Int32) → Int32 → Int32 → Int32 → Prop) (S : (Nat → Nat → Int32)) (x1 : Int32) (x2 : Int32) (x3 : Int32) (x5 : Int32) (x6 : Int32) (x7 : Int32) (x8 : Int32) (s0 : Int32) : Prop := (if s0 = 0 then (Sf_M_bulk_l114_193 fl rc sr S x1 x2 x3 x5 x7 x8 s0 1 x6) else (Sf_M_bulk_l114_193 fl rc sr S x1 x2 x3 x5 x7 x8 s0 0 x6))
theorem t_M_bulk_l114_179 {X : z_X} {Post : Option z_V → z_W → Prop} (M : z_M X zm_M_bulk rm_M_bulk Post) {T' : Nat → Nat × Nat} {G' : Nat → Nat → Option Nat} {n : Nat} (fl : Nat → Nat) (hfl : zOK T' G' fl n) {Q : (Int32 × Int32 × (Nat → Nat → Int32)) → Prop} (rc : (Nat → Nat → Int32) → Int32 → Int32 → Int32 → (Int32 × Int32 × (Nat → Nat → Int32))) (sr : (Nat → Nat → Int32) → Int32 → Int32 → Int32 → Prop) (S : (Nat → Nat → Int32)) (x1 : Int32) (x2 : Int32) (x3 : Int32) (x5 : Int32) (x6 : Int32) (x7 : Int32) (x8 : Int32) (s0 : Int32) (hE : ∀ (y6 : Int32) (y7 : Int32) (S' : (Nat → Nat → Int32)), Q (y6, y7, S') → z_G X zm_M_bulk (272, [(0, z_r 78), (1, .inl x1), (2, .inl x2), (3, .inl x3), (5, .inl x5), (6, .inl y6), (7, .inl y7)], [], zW T' G' S' n, 0, 0)) (hC : ∀ (S : (Nat → Nat → Int32)) (x6 : Int32) (x7 : Int32) (x8 : Int32), Q (rc S x6 x7 x8) → sr S x6 x7 x8 → z_G X zm_M_bulk (114, [(0, z_r 78), (1, .inl x1), (2, .inl x2), (3, .inl x3), (5, .inl x5), (6, .inl x6), (7, .inl x7), (8, .inl x8)], [], zW T' G' S n, 0, 0)) (K : Q (F_M_bulk_l114_179 fl rc S x1 x2 x3 x5 x6 x7 x8 s0)) (hs : Sf_M_bulk_l114_179 fl rc sr S x1 x2 x3 x5 x6 x7 x8 s0) : z_G X zm_M_bulk (179, [(0, z_r 78), (1, .inl x1), (2, .inl x2), (3, .inl x3), (5, .inl x5), (6, .inl x6), (7, .inl x7), (8, .inl x8)], [.inl s0], zW T' G' S n, 0, 0) := by
  unfold F_M_bulk_l114_179 at K
  unfold Sf_M_bulk_l114_179 at hs
  refine z_go2 M.1 179 [(.istore 9, 2), (.iload 6, 2), (.iload 9, 2)] (185, [(9, .inl s0), (0, z_r 78), (1, .inl x1), (2, .inl x2), (3, .inl x3), (5, .inl x5), (6, .inl x6), (7, .inl x7), (8, .inl x8)], [.inl s0, .inl x6], zW T' G' S n, 0, 0) (by decide +kernel) rfl ⟨trivial, trivial, trivial, trivial⟩ ?_
  refine z_if_eq 192 M.1 (off := 7) (by decide +kernel) (by decide) (fun c185 => ?_) (fun c185 => ?_)
  · rw [if_pos c185] at K hs
    refine z_go2 M.1 192 [(.iconst 1, 1)] (193, [(9, .inl s0), (0, z_r 78), (1, .inl x1), (2, .inl x2), (3, .inl x3), (5, .inl x5), (6, .inl x6), (7, .inl x7), (8, .inl x8)], [.inl 1, .inl x6], zW T' G' S n, 0, 0) (by decide +kernel) rfl ⟨trivial, trivial⟩ ?_
    exact z_lvs (lv' := [(0, z_r 78), (1, .inl x1), (2, .inl x2), (3, .inl x3), (5, .inl x5), (7, .inl x7), (8, .inl x8), (9, .inl s0)]) [1, 2, 3, 4, 5, 7, 8, 0] rfl (t_M_bulk_l114_193 M fl hfl rc sr S x1 x2 x3 x5 x7 x8 s0 1 x6 hE hC K hs)
  · rw [if_neg c185] at K hs
    refine z_go2 M.1 188 [(.iconst 0, 1), (.goto 4, 3)] (193, [(9, .inl s0), (0, z_r 78), (1, .inl x1), (2, .inl x2), (3, .inl x3), (5, .inl x5), (6, .inl x6), (7, .inl x7), (8, .inl x8)], [.inl 0, .inl x6], zW T' G' S n, 0, 0) (by decide +kernel) rfl ⟨trivial, trivial, trivial⟩ ?_
    exact z_lvs (lv' := [(0, z_r 78), (1, .inl x1), (2, .inl x2), (3, .inl x3), (5, .inl x5), (7, .inl x7), (8, .inl x8), (9, .inl s0)]) [1, 2, 3, 4, 5, 7, 8, 0] rfl (t_M_bulk_l114_193 M fl hfl rc sr S x1 x2 x3 x5 x7 x8 s0 0 x6 hE hC K hs)
def F_M_bulk_l114_178 (fl : Nat → Nat) (rc : (Nat → Nat → Int32) → Int32 → Int32 → Int32 → (Int32 × Int32 × (Nat → Nat → Int32))) (S : (Nat → Nat → Int32)) (x1 : Int32) (x2 : Int32) (x3 : Int32) (x5 : Int32) (x6 : Int32) (x7 : Int32) (x8 : Int32) : (Int32 × Int32 × (Nat → Nat → Int32)) := (F_M_bulk_l114_179 fl rc S x1 x2 x3 x5 x6 x7 x8 0)
def Sf_M_bulk_l114_178 (fl : Nat → Nat) (rc : (Nat → Nat → Int32) → Int32 → Int32 → Int32 → (Int32 × Int32 × (Nat → Nat → Int32))) (sr : (Nat → Nat → Int32) → Int32 → Int32 → Int32 → Prop) (S : (Nat → Nat → Int32)) (x1 : Int32) (x2 : Int32) (x3 : Int32) (x5 : Int32) (x6 : Int32) (x7 : Int32) (x8 : Int32) : Prop := (Sf_M_bulk_l114_179 fl rc sr S x1 x2 x3 x5 x6 x7 x8 0)
theorem t_M_bulk_l114_178 {X : z_X} {Post : Option z_V → z_W → Prop} (M : z_M X zm_M_bulk rm_M_bulk Post) {T' : Nat → Nat × Nat} {G' : Nat → Nat → Option Nat} {n : Nat} (fl : Nat → Nat) (hfl : zOK T' G' fl n) {Q : (Int32 × Int32 × (Nat → Nat → Int32)) → Prop} (rc : (Nat → Nat → Int32) → Int32 → Int32 → Int32 → (Int32 × Int32 × (Nat → Nat → Int32))) (sr : (Nat → Nat → Int32) → Int32 → Int32 → Int32 → Prop) (S : (Nat → Nat → Int32)) (x1 : Int32) (x2 : Int32) (x3 : Int32) (x5 : Int32) (x6 : Int32) (x7 : Int32) (x8 : Int32) (hE : ∀ (y6 : Int32) (y7 : Int32) (S' : (Nat → Nat → Int32)), Q (y6, y7, S') → z_G X zm_M_bulk (272, [(0, z_r 78), (1, .inl x1), (2, .inl x2), (3, .inl x3), (5, .inl x5), (6, .inl y6), (7, .inl y7)], [], zW T' G' S' n, 0, 0)) (hC : ∀ (S : (Nat → Nat → Int32)) (x6 : Int32) (x7 : Int32) (x8 : Int32), Q (rc S x6 x7 x8) → sr S x6 x7 x8 → z_G X zm_M_bulk (114, [(0, z_r 78), (1, .inl x1), (2, .inl x2), (3, .inl x3), (5, .inl x5), (6, .inl x6), (7, .inl x7), (8, .inl x8)], [], zW T' G' S n, 0, 0)) (K : Q (F_M_bulk_l114_178 fl rc S x1 x2 x3 x5 x6 x7 x8)) (hs : Sf_M_bulk_l114_178 fl rc sr S x1 x2 x3 x5 x6 x7 x8) : z_G X zm_M_bulk (178, [(0, z_r 78), (1, .inl x1), (2, .inl x2), (3, .inl x3), (5, .inl x5), (6, .inl x6), (7, .inl x7), (8, .inl x8)], [], zW T' G' S n, 0, 0) := by
  unfold F_M_bulk_l114_178 at K
  unfold Sf_M_bulk_l114_178 at hs
  refine z_go2 M.1 178 [(.iconst 0, 1)] (179, [(0, z_r 78), (1, .inl x1), (2, .inl x2), (3, .inl x3), (5, .inl x5), (6, .inl x6), (7, .inl x7), (8, .inl x8)], [.inl 0], zW T' G' S n, 0, 0) (by decide +kernel) rfl ⟨trivial, trivial⟩ ?_
  exact z_lvs (lv' := [(0, z_r 78), (1, .inl x1), (2, .inl x2), (3, .inl x3), (5, .inl x5), (6, .inl x6), (7, .inl x7), (8, .inl x8)]) [0, 1, 2, 3, 4, 5, 6, 7] rfl (t_M_bulk_l114_179 M fl hfl rc sr S x1 x2 x3 x5 x6 x7 x8 0 hE hC K hs)
def F_M_bulk_L114 (fl : Nat → Nat) (x1 : Int32) (x2 : Int32) (x3 : Int32) (x5 : Int32) : Nat → (Nat → Nat → Int32) → Int32 → Int32 → Int32 → (Int32 × Int32 × (Nat → Nat → Int32))
  | 0, S, x6, x7, x8 => (x6, x7, S)
  | f + 1, S, x6, x7, x8 => (if (30 : Int32) ≤ x8 then (x6, x7, S) else (if (F_M_isFound S x1 x8) = 0 then ((F_M_bulk_L114 fl x1 x2 x3 x5 f) S x6 x7 (x8 + 1)) else (if (F_M_edits 86 S x1 x8) = 0 then (F_M_bulk_l114_178 fl (F_M_bulk_L114 fl x1 x2 x3 x5 f) S x1 x2 x3 x5 x6 x7 x8) else (if (F_M_hasField 86 S x8 x2) = 0 then (F_M_bulk_l114_178 fl (F_M_bulk_L114 fl x1 x2 x3 x5 f) S x1 x2 x3 x5 x6 x7 x8) else (if (F_M_readsIt 86 S x1 x8 x2) = 0 then (F_M_bulk_l114_178 fl (F_M_bulk_L114 fl x1 x2 x3 x5 f) S x1 x2 x3 x5 x6 x7 x8) else (F_M_bulk_l114_179 fl (F_M_bulk_L114 fl x1 x2 x3 x5 f) S x1 x2 x3 x5 x6 x7 x8 1))))))
def Sf_M_bulk_L114 (fl : Nat → Nat) (x1 : Int32) (x2 : Int32) (x3 : Int32) (x5 : Int32) : Nat → (Nat → Nat → Int32) → Int32 → Int32 → Int32 → Prop
  | 0, _, _, _, _ => False
  | f + 1, S, x6, x7, x8 => (if (30 : Int32) ≤ x8 then True else (Sf_M_isFound S x1 x8 ∧ (if (F_M_isFound S x1 x8) = 0 then ((Sf_M_bulk_L114 fl x1 x2 x3 x5 f) S x6 x7 (x8 + 1)) else (Sf_M_edits 86 S x1 x8 ∧ (if (F_M_edits 86 S x1 x8) = 0 then (Sf_M_bulk_l114_178 fl (F_M_bulk_L114 fl x1 x2 x3 x5 f) (Sf_M_bulk_L114 fl x1 x2 x3 x5 f) S x1 x2 x3 x5 x6 x7 x8) else (Sf_M_hasField 86 S x8 x2 ∧ (if (F_M_hasField 86 S x8 x2) = 0 then (Sf_M_bulk_l114_178 fl (F_M_bulk_L114 fl x1 x2 x3 x5 f) (Sf_M_bulk_L114 fl x1 x2 x3 x5 f) S x1 x2 x3 x5 x6 x7 x8) else (Sf_M_readsIt 86 S x1 x8 x2 ∧ (if (F_M_readsIt 86 S x1 x8 x2) = 0 then (Sf_M_bulk_l114_178 fl (F_M_bulk_L114 fl x1 x2 x3 x5 f) (Sf_M_bulk_L114 fl x1 x2 x3 x5 f) S x1 x2 x3 x5 x6 x7 x8) else (Sf_M_bulk_l114_179 fl (F_M_bulk_L114 fl x1 x2 x3 x5 f) (Sf_M_bulk_L114 fl x1 x2 x3 x5 f) S x1 x2 x3 x5 x6 x7 x8 1))))))))))
theorem t_M_bulk_L114 {X : z_X} {Post : Option z_V → z_W → Prop} (M : z_M X zm_M_bulk rm_M_bulk Post) {T' : Nat → Nat × Nat} {G' : Nat → Nat → Option Nat} {n : Nat} (fl : Nat → Nat) (hfl : zOK T' G' fl n) {Q : (Int32 × Int32 × (Nat → Nat → Int32)) → Prop}  (x1 : Int32) (x2 : Int32) (x3 : Int32) (x5 : Int32) (hE : ∀ (y6 : Int32) (y7 : Int32) (S' : (Nat → Nat → Int32)), Q (y6, y7, S') → z_G X zm_M_bulk (272, [(0, z_r 78), (1, .inl x1), (2, .inl x2), (3, .inl x3), (5, .inl x5), (6, .inl y6), (7, .inl y7)], [], zW T' G' S' n, 0, 0)) (f : Nat) : ∀ (S : (Nat → Nat → Int32)) (x6 : Int32) (x7 : Int32) (x8 : Int32), Q (F_M_bulk_L114 fl x1 x2 x3 x5 f S x6 x7 x8) → Sf_M_bulk_L114 fl x1 x2 x3 x5 f S x6 x7 x8 → z_G X zm_M_bulk (114, [(0, z_r 78), (1, .inl x1), (2, .inl x2), (3, .inl x3), (5, .inl x5), (6, .inl x6), (7, .inl x7), (8, .inl x8)], [], zW T' G' S n, 0, 0) := by
  induction f with
  | zero => intro S x6 x7 x8 K hs; exact False.elim hs
  | succ f hC =>
    intro S x6 x7 x8 K hs
    rw [F_M_bulk_L114] at K
    rw [Sf_M_bulk_L114] at hs
    refine z_go2 M.1 114 [(.iload 8, 2), (.bipush 30, 2)] (118, [(0, z_r 78), (1, .inl x1), (2, .inl x2), (3, .inl x3), (5, .inl x5), (6, .inl x6), (7, .inl x7), (8, .inl x8)], [.inl 30, .inl x8], zW T' G' S n, 0, 0) (by decide +kernel) rfl ⟨trivial, trivial, trivial⟩ ?_
    refine z_icmp_ge 272 M.1 (off := 154) (by decide +kernel) (by decide) (fun c118 => ?_) (fun c118 => ?_)
    · rw [if_pos c118] at K hs
      exact z_lvs (lv' := [(0, z_r 78), (1, .inl x1), (2, .inl x2), (3, .inl x3), (5, .inl x5), (6, .inl x6), (7, .inl x7)]) [0, 1, 2, 3, 4, 5, 6] rfl (hE x6 x7 S K)
    · rw [if_neg c118] at K hs
      refine z_go2 M.1 121 [(.aload_n 0, 1), (.iload_n 1, 1), (.iload 8, 2)] (125, [(0, z_r 78), (1, .inl x1), (2, .inl x2), (3, .inl x3), (5, .inl x5), (6, .inl x6), (7, .inl x7), (8, .inl x8)], [.inl x8, .inl x1, z_r 78], zW T' G' S n, 0, 0) (by decide +kernel) rfl ⟨trivial, trivial, trivial, trivial⟩ ?_
      refine z_callV M.1 (av := [.inl x1, .inl x8]) (st := []) (a := 78) (ci := 14) (by decide +kernel) (c_M_isFound T' G' S n x1 x8 hs.1) M.2.1 zl_M_471 zv_M_isFound rfl rfl rfl ⟨by decide, by decide, by decide, by decide⟩ rfl (Nat.le_of_ble_eq_true rfl) (fun v w' hv => ?_)
      obtain ⟨rfl, rfl⟩ := hv
      replace hs := hs.2
      show z_G X zm_M_bulk (128, [(0, z_r 78), (1, .inl x1), (2, .inl x2), (3, .inl x3), (5, .inl x5), (6, .inl x6), (7, .inl x7), (8, .inl x8)], [.inl (F_M_isFound S x1 x8)], zW T' G' S n, 0, 0)
      refine z_if_eq 266 M.1 (off := 138) (by decide +kernel) (by decide) (fun c128 => ?_) (fun c128 => ?_)
      · rw [if_pos c128] at K hs
        refine z_go2 M.1 266 [(.iinc 8 1, 3), (.goto (-155), 3)] (114, [(8, .inl (x8 + 1)), (0, z_r 78), (1, .inl x1), (2, .inl x2), (3, .inl x3), (5, .inl x5), (6, .inl x6), (7, .inl x7)], [], zW T' G' S n, 0, 0) (by decide +kernel) rfl ⟨trivial, trivial, trivial⟩ ?_
        exact z_lvs (lv' := [(0, z_r 78), (1, .inl x1), (2, .inl x2), (3, .inl x3), (5, .inl x5), (6, .inl x6), (7, .inl x7), (8, .inl (x8 + 1))]) [1, 2, 3, 4, 5, 6, 7, 0] rfl (hC S x6 x7 (x8 + 1) K hs)
      · rw [if_neg c128] at K hs
        refine z_go2 M.1 131 [(.aload_n 0, 1), (.aload_n 0, 1), (.getfield 34, 3), (.iload_n 1, 1), (.iload 8, 2)] (139, [(0, z_r 78), (1, .inl x1), (2, .inl x2), (3, .inl x3), (5, .inl x5), (6, .inl x6), (7, .inl x7), (8, .inl x8)], [.inl x8, .inl x1, z_r 86, z_r 78], zW T' G' S n, 0, 0) (by decide +kernel) rfl ⟨trivial, trivial, rfl, trivial, trivial, trivial⟩ ?_
        refine z_callV M.1 (av := [z_r 86, .inl x1, .inl x8]) (st := []) (a := 78) (ci := 14) (by decide +kernel) (c_M_edits_86 T' G' S n x1 x8 hs.1) M.2.1 zl_M_340 zv_M_edits rfl rfl rfl ⟨by decide, by decide, by decide, by decide⟩ rfl (Nat.le_of_ble_eq_true rfl) (fun v w' hv => ?_)
        obtain ⟨rfl, rfl⟩ := hv
        replace hs := hs.2
        show z_G X zm_M_bulk (142, [(0, z_r 78), (1, .inl x1), (2, .inl x2), (3, .inl x3), (5, .inl x5), (6, .inl x6), (7, .inl x7), (8, .inl x8)], [.inl (F_M_edits 86 S x1 x8)], zW T' G' S n, 0, 0)
        refine z_if_eq 178 M.1 (off := 36) (by decide +kernel) (by decide) (fun c142 => ?_) (fun c142 => ?_)
        · rw [if_pos c142] at K hs
          exact z_lvs (lv' := [(0, z_r 78), (1, .inl x1), (2, .inl x2), (3, .inl x3), (5, .inl x5), (6, .inl x6), (7, .inl x7), (8, .inl x8)]) [0, 1, 2, 3, 4, 5, 6, 7] rfl (t_M_bulk_l114_178 M fl hfl (F_M_bulk_L114 fl x1 x2 x3 x5 f) (Sf_M_bulk_L114 fl x1 x2 x3 x5 f) S x1 x2 x3 x5 x6 x7 x8 hE hC K hs)
        · rw [if_neg c142] at K hs
          refine z_go2 M.1 145 [(.aload_n 0, 1), (.aload_n 0, 1), (.getfield 34, 3), (.iload 8, 2), (.iload_n 2, 1)] (153, [(0, z_r 78), (1, .inl x1), (2, .inl x2), (3, .inl x3), (5, .inl x5), (6, .inl x6), (7, .inl x7), (8, .inl x8)], [.inl x2, .inl x8, z_r 86, z_r 78], zW T' G' S n, 0, 0) (by decide +kernel) rfl ⟨trivial, trivial, rfl, trivial, trivial, trivial⟩ ?_
          refine z_callV M.1 (av := [z_r 86, .inl x8, .inl x2]) (st := []) (a := 78) (ci := 14) (by decide +kernel) (c_M_hasField_86 T' G' S n x8 x2 hs.1) M.2.1 zl_M_240 zv_M_hasField rfl rfl rfl ⟨by decide, by decide, by decide, by decide⟩ rfl (Nat.le_of_ble_eq_true rfl) (fun v w' hv => ?_)
          obtain ⟨rfl, rfl⟩ := hv
          replace hs := hs.2
          show z_G X zm_M_bulk (156, [(0, z_r 78), (1, .inl x1), (2, .inl x2), (3, .inl x3), (5, .inl x5), (6, .inl x6), (7, .inl x7), (8, .inl x8)], [.inl (F_M_hasField 86 S x8 x2)], zW T' G' S n, 0, 0)
          refine z_if_eq 178 M.1 (off := 22) (by decide +kernel) (by decide) (fun c156 => ?_) (fun c156 => ?_)
          · rw [if_pos c156] at K hs
            exact z_lvs (lv' := [(0, z_r 78), (1, .inl x1), (2, .inl x2), (3, .inl x3), (5, .inl x5), (6, .inl x6), (7, .inl x7), (8, .inl x8)]) [0, 1, 2, 3, 4, 5, 6, 7] rfl (t_M_bulk_l114_178 M fl hfl (F_M_bulk_L114 fl x1 x2 x3 x5 f) (Sf_M_bulk_L114 fl x1 x2 x3 x5 f) S x1 x2 x3 x5 x6 x7 x8 hE hC K hs)
          · rw [if_neg c156] at K hs
            refine z_go2 M.1 159 [(.aload_n 0, 1), (.aload_n 0, 1), (.getfield 34, 3), (.iload_n 1, 1), (.iload 8, 2), (.iload_n 2, 1)] (168, [(0, z_r 78), (1, .inl x1), (2, .inl x2), (3, .inl x3), (5, .inl x5), (6, .inl x6), (7, .inl x7), (8, .inl x8)], [.inl x2, .inl x8, .inl x1, z_r 86, z_r 78], zW T' G' S n, 0, 0) (by decide +kernel) rfl ⟨trivial, trivial, rfl, trivial, trivial, trivial, trivial⟩ ?_
            refine z_callV M.1 (av := [z_r 86, .inl x1, .inl x8, .inl x2]) (st := []) (a := 78) (ci := 14) (by decide +kernel) (c_M_readsIt_86 T' G' S n x1 x8 x2 hs.1) M.2.1 zl_M_243 zv_M_readsIt rfl rfl rfl ⟨by decide, by decide, by decide, by decide⟩ rfl (Nat.le_of_ble_eq_true rfl) (fun v w' hv => ?_)
            obtain ⟨rfl, rfl⟩ := hv
            replace hs := hs.2
            show z_G X zm_M_bulk (171, [(0, z_r 78), (1, .inl x1), (2, .inl x2), (3, .inl x3), (5, .inl x5), (6, .inl x6), (7, .inl x7), (8, .inl x8)], [.inl (F_M_readsIt 86 S x1 x8 x2)], zW T' G' S n, 0, 0)
            refine z_if_eq 178 M.1 (off := 7) (by decide +kernel) (by decide) (fun c171 => ?_) (fun c171 => ?_)
            · rw [if_pos c171] at K hs
              exact z_lvs (lv' := [(0, z_r 78), (1, .inl x1), (2, .inl x2), (3, .inl x3), (5, .inl x5), (6, .inl x6), (7, .inl x7), (8, .inl x8)]) [0, 1, 2, 3, 4, 5, 6, 7] rfl (t_M_bulk_l114_178 M fl hfl (F_M_bulk_L114 fl x1 x2 x3 x5 f) (Sf_M_bulk_L114 fl x1 x2 x3 x5 f) S x1 x2 x3 x5 x6 x7 x8 hE hC K hs)
            · rw [if_neg c171] at K hs
              refine z_go2 M.1 174 [(.iconst 1, 1), (.goto 4, 3)] (179, [(0, z_r 78), (1, .inl x1), (2, .inl x2), (3, .inl x3), (5, .inl x5), (6, .inl x6), (7, .inl x7), (8, .inl x8)], [.inl 1], zW T' G' S n, 0, 0) (by decide +kernel) rfl ⟨trivial, trivial, trivial⟩ ?_
              exact z_lvs (lv' := [(0, z_r 78), (1, .inl x1), (2, .inl x2), (3, .inl x3), (5, .inl x5), (6, .inl x6), (7, .inl x7), (8, .inl x8)]) [0, 1, 2, 3, 4, 5, 6, 7] rfl (t_M_bulk_l114_179 M fl hfl (F_M_bulk_L114 fl x1 x2 x3 x5 f) (Sf_M_bulk_L114 fl x1 x2 x3 x5 f) S x1 x2 x3 x5 x6 x7 x8 1 hE hC K hs)
def F_M_bulk_j288 (fl : Nat → Nat) (S : (Nat → Nat → Int32)) (x1 : Int32) (x2 : Int32) (x3 : Int32) (x6 : Int32) (x7 : Int32) (s0 : Int32) : (Int32 × (Nat → Nat → Int32)) := (if s0 ≤ 0 then ((((100 : Int32) * (x7 - (S 180 (S 78 41).toNatClampNeg))) + x6), (z_uS (z_uS (z_uS (z_uS (z_uS (z_uS S 78 0 s0) 177 (S 78 41).toNatClampNeg x1) 178 (S 78 41).toNatClampNeg x2) 179 (S 78 41).toNatClampNeg x3) 78 41 ((S 78 41) + 1)) 180 ((S 78 41) + 1).toNatClampNeg x7)) else (0, (z_uS S 78 0 s0)))
def Sf_M_bulk_j288 (fl : Nat → Nat) (S : (Nat → Nat → Int32)) (x1 : Int32) (x2 : Int32) (x3 : Int32) (x6 : Int32) (x7 : Int32) (s0 : Int32) : Prop := (if s0 ≤ 0 then ((vp_in (S 78 41) 601) ∧ ((vp_in (S 78 41) 600) ∧ ((vp_in (S 78 41) 600) ∧ ((vp_in (S 78 41) 600) ∧ ((vp_in ((S 78 41) + 1) 601) ∧ True))))) else True)
theorem t_M_bulk_j288 {X : z_X} {Post : Option z_V → z_W → Prop} (M : z_M X zm_M_bulk rm_M_bulk Post) {T' : Nat → Nat × Nat} {G' : Nat → Nat → Option Nat} {n : Nat} (fl : Nat → Nat) (hfl : zOK T' G' fl n) {Q : (Int32 × (Nat → Nat → Int32)) → Prop} (S : (Nat → Nat → Int32)) (x1 : Int32) (x2 : Int32) (x3 : Int32) (x6 : Int32) (x7 : Int32) (s0 : Int32) (hQ : ∀ v S', Q (v, S') → Post (some (.inl v)) (zW T' G' S' n)) (K : Q (F_M_bulk_j288 fl S x1 x2 x3 x6 x7 s0)) (hs : Sf_M_bulk_j288 fl S x1 x2 x3 x6 x7 s0) : z_G X zm_M_bulk (288, [(0, z_r 78), (1, .inl x1), (2, .inl x2), (3, .inl x3), (6, .inl x6), (7, .inl x7)], [.inl s0, z_r 78], zW T' G' S n, 0, 0) := by
  unfold F_M_bulk_j288 at K
  unfold Sf_M_bulk_j288 at hs
  refine z_go2 M.1 288 [(.putfield 175, 3), (.aload_n 0, 1), (.getfield 175, 3)] (295, [(0, z_r 78), (1, .inl x1), (2, .inl x2), (3, .inl x3), (6, .inl x6), (7, .inl x7)], [.inl s0], zW T' G' (z_uS S 78 0 s0) n, 0, 0) (by decide +kernel) rfl ⟨⟨rfl, trivial⟩, trivial, rfl, trivial⟩ ?_
  refine z_if_le 300 M.1 (off := 5) (by decide +kernel) (by decide) (fun c295 => ?_) (fun c295 => ?_)
  · rw [if_pos c295] at K hs
    refine z_go2 M.1 300 [(.iload 7, 2), (.aload_n 0, 1), (.getfield 134, 3), (.aload_n 0, 1), (.getfield 495, 3), (.iaload, 1), (.isub, 1), (.istore 8, 2), (.aload_n 0, 1), (.getfield 125, 3), (.aload_n 0, 1), (.getfield 495, 3), (.iload_n 1, 1), (.iastore, 1), (.aload_n 0, 1), (.getfield 128, 3), (.aload_n 0, 1), (.getfield 495, 3), (.iload_n 2, 1), (.iastore, 1), (.aload_n 0, 1), (.getfield 131, 3), (.aload_n 0, 1), (.getfield 495, 3), (.iload_n 3, 1), (.iastore, 1), (.aload_n 0, 1), (.dup, 1), (.getfield 495, 3), (.iconst 1, 1), (.iadd, 1), (.putfield 495, 3), (.aload_n 0, 1), (.getfield 134, 3), (.aload_n 0, 1), (.getfield 495, 3), (.iload 7, 2), (.iastore, 1), (.bipush 100, 2), (.iload 8, 2), (.imul, 1), (.iload 6, 2), (.iadd, 1)] (373, [(8, .inl (x7 - (S 180 (S 78 41).toNatClampNeg))), (0, z_r 78), (1, .inl x1), (2, .inl x2), (3, .inl x3), (6, .inl x6), (7, .inl x7)], [.inl (((100 : Int32) * (x7 - (S 180 (S 78 41).toNatClampNeg))) + x6)], zW T' G' (z_uS (z_uS (z_uS (z_uS (z_uS (z_uS S 78 0 s0) 177 (S 78 41).toNatClampNeg x1) 178 (S 78 41).toNatClampNeg x2) 179 (S 78 41).toNatClampNeg x3) 78 41 ((S 78 41) + 1)) 180 ((S 78 41) + 1).toNatClampNeg x7) n, 0, 0) (by decide +kernel) rfl ⟨trivial, trivial, rfl, trivial, rfl, ⟨rfl, hs.1⟩, trivial, trivial, trivial, rfl, trivial, rfl, trivial, ⟨rfl, hs.2.1⟩, trivial, rfl, trivial, rfl, trivial, ⟨rfl, hs.2.2.1⟩, trivial, rfl, trivial, rfl, trivial, ⟨rfl, hs.2.2.2.1⟩, trivial, rfl, rfl, trivial, trivial, ⟨rfl, trivial⟩, trivial, rfl, trivial, rfl, trivial, ⟨rfl, hs.2.2.2.2.1⟩, trivial, trivial, trivial, trivial, trivial, trivial⟩ ?_
    replace hs := hs.2.2.2.2.2
    exact z_iret M (by decide +kernel) .int rfl rfl (by decide) (by decide) (hQ _ _ K)
  · rw [if_neg c295] at K hs
    refine z_go2 M.1 298 [(.iconst 0, 1)] (299, [(0, z_r 78), (1, .inl x1), (2, .inl x2), (3, .inl x3), (6, .inl x6), (7, .inl x7)], [.inl 0], zW T' G' (z_uS S 78 0 s0) n, 0, 0) (by decide +kernel) rfl ⟨trivial, trivial⟩ ?_
    exact z_iret M (by decide +kernel) .int rfl rfl (by decide) (by decide) (hQ _ _ K)
def F_M_bulk_j60 (fl : Nat → Nat) (S : (Nat → Nat → Int32)) (x1 : Int32) (x2 : Int32) (x3 : Int32) (s0 : Int32) : (Int32 × (Nat → Nat → Int32)) := (if s0 ≤ 0 then (z_let (F_M_asks (z_uS S 78 0 s0) x1 (S 78 1) 0) (fun S79 => (z_let (F_M_finds S79 x1 (S79 78 1)) (fun S88 => (match F_M_bulk_L114 fl x1 x2 x3 (S88 78 2) 1300 S88 0 (S88 180 (S88 78 41).toNatClampNeg) 0 with | (y6_114, y7_114, S114) => (match F_M_stays fl S114 (S88 78 2) 1 with | (r277, S277) => (if r277 = 0 then (F_M_bulk_j288 fl S277 x1 x2 x3 y6_114 y7_114 3) else (F_M_bulk_j288 fl S277 x1 x2 x3 y6_114 y7_114 0)))))))) else (0, (z_uS S 78 0 s0)))
def Sf_M_bulk_j60 (fl : Nat → Nat) (S : (Nat → Nat → Int32)) (x1 : Int32) (x2 : Int32) (x3 : Int32) (s0 : Int32) : Prop := (if s0 ≤ 0 then (Sf_M_asks (z_uS S 78 0 s0) x1 (S 78 1) 0 ∧ (z_let (F_M_asks (z_uS S 78 0 s0) x1 (S 78 1) 0) (fun S79 => (Sf_M_finds S79 x1 (S79 78 1) ∧ (z_let (F_M_finds S79 x1 (S79 78 1)) (fun S88 => ((vp_in (S88 78 41) 601) ∧ (Sf_M_bulk_L114 fl x1 x2 x3 (S88 78 2) 1300 S88 0 (S88 180 (S88 78 41).toNatClampNeg) 0 ∧ (match F_M_bulk_L114 fl x1 x2 x3 (S88 78 2) 1300 S88 0 (S88 180 (S88 78 41).toNatClampNeg) 0 with | (y6_114, y7_114, S114) => (Sf_M_stays fl S114 (S88 78 2) 1 ∧ (match F_M_stays fl S114 (S88 78 2) 1 with | (r277, S277) => (if r277 = 0 then (Sf_M_bulk_j288 fl S277 x1 x2 x3 y6_114 y7_114 3) else (Sf_M_bulk_j288 fl S277 x1 x2 x3 y6_114 y7_114 0))))))))))))) else True)
theorem t_M_bulk_j60 {X : z_X} {Post : Option z_V → z_W → Prop} (M : z_M X zm_M_bulk rm_M_bulk Post) {T' : Nat → Nat × Nat} {G' : Nat → Nat → Option Nat} {n : Nat} (fl : Nat → Nat) (hfl : zOK T' G' fl n) {Q : (Int32 × (Nat → Nat → Int32)) → Prop} (S : (Nat → Nat → Int32)) (x1 : Int32) (x2 : Int32) (x3 : Int32) (s0 : Int32) (hQ : ∀ v S', Q (v, S') → Post (some (.inl v)) (zW T' G' S' n)) (K : Q (F_M_bulk_j60 fl S x1 x2 x3 s0)) (hs : Sf_M_bulk_j60 fl S x1 x2 x3 s0) : z_G X zm_M_bulk (60, [(0, z_r 78), (1, .inl x1), (2, .inl x2), (3, .inl x3)], [.inl s0, z_r 78], zW T' G' S n, 0, 0) := by
  unfold F_M_bulk_j60 at K
  unfold Sf_M_bulk_j60 at hs
  refine z_go2 M.1 60 [(.putfield 175, 3), (.aload_n 0, 1), (.getfield 175, 3)] (67, [(0, z_r 78), (1, .inl x1), (2, .inl x2), (3, .inl x3)], [.inl s0], zW T' G' (z_uS S 78 0 s0) n, 0, 0) (by decide +kernel) rfl ⟨⟨rfl, trivial⟩, trivial, rfl, trivial⟩ ?_
  refine z_if_le 72 M.1 (off := 5) (by decide +kernel) (by decide) (fun c67 => ?_) (fun c67 => ?_)
  · rw [if_pos c67] at K hs
    refine z_go2 M.1 72 [(.aload_n 0, 1), (.iload_n 1, 1), (.aload_n 0, 1), (.getfield 185, 3), (.iconst 0, 1)] (79, [(0, z_r 78), (1, .inl x1), (2, .inl x2), (3, .inl x3)], [.inl 0, .inl (S 78 1), .inl x1, z_r 78], zW T' G' (z_uS S 78 0 s0) n, 0, 0) (by decide +kernel) rfl ⟨trivial, trivial, trivial, rfl, trivial, trivial⟩ ?_
    refine z_callV M.1 (av := [.inl x1, .inl (S 78 1), .inl 0]) (st := []) (a := 78) (ci := 14) (by decide +kernel) (c_M_asks T' G' (z_uS S 78 0 s0) n x1 (S 78 1) 0 hs.1) M.2.1 zl_M_463 zv_M_asks rfl rfl rfl ⟨by decide, by decide, by decide, by decide⟩ rfl (Nat.le_of_ble_eq_true rfl) (fun v w' hv => ?_)
    replace hs := hs.2
    obtain ⟨S79, hF79⟩ : ∃ y, F_M_asks (z_uS S 78 0 s0) x1 (S 78 1) 0 = y := ⟨_, rfl⟩
    rw [hF79] at K hv
    try rw [hF79] at hs
    try dsimp only [z_let] at K hs
    obtain ⟨rfl, rfl⟩ := hv
    show z_G X zm_M_bulk (82, [(0, z_r 78), (1, .inl x1), (2, .inl x2), (3, .inl x3)], [], zW T' G' S79 n, 0, 0)
    refine z_go2 M.1 82 [(.aload_n 0, 1), (.iload_n 1, 1), (.aload_n 0, 1), (.getfield 185, 3)] (88, [(0, z_r 78), (1, .inl x1), (2, .inl x2), (3, .inl x3)], [.inl (S79 78 1), .inl x1, z_r 78], zW T' G' S79 n, 0, 0) (by decide +kernel) rfl ⟨trivial, trivial, trivial, rfl, trivial⟩ ?_
    refine z_callV M.1 (av := [.inl x1, .inl (S79 78 1)]) (st := []) (a := 78) (ci := 14) (by decide +kernel) (c_M_finds T' G' S79 n x1 (S79 78 1) hs.1) M.2.1 zl_M_467 zv_M_finds rfl rfl rfl ⟨by decide, by decide, by decide, by decide⟩ rfl (Nat.le_of_ble_eq_true rfl) (fun v w' hv => ?_)
    replace hs := hs.2
    obtain ⟨S88, hF88⟩ : ∃ y, F_M_finds S79 x1 (S79 78 1) = y := ⟨_, rfl⟩
    rw [hF88] at K hv
    try rw [hF88] at hs
    try dsimp only [z_let] at K hs
    obtain ⟨rfl, rfl⟩ := hv
    show z_G X zm_M_bulk (91, [(0, z_r 78), (1, .inl x1), (2, .inl x2), (3, .inl x3)], [], zW T' G' S88 n, 0, 0)
    refine z_go2 M.1 91 [(.aload_n 0, 1), (.getfield 182, 3), (.istore 5, 2), (.iconst 0, 1), (.istore 6, 2), (.aload_n 0, 1), (.getfield 134, 3), (.aload_n 0, 1), (.getfield 495, 3), (.iaload, 1), (.istore 7, 2), (.iconst 0, 1), (.istore 8, 2)] (114, [(8, .inl 0), (7, .inl (S88 180 (S88 78 41).toNatClampNeg)), (6, .inl 0), (5, .inl (S88 78 2)), (0, z_r 78), (1, .inl x1), (2, .inl x2), (3, .inl x3)], [], zW T' G' S88 n, 0, 0) (by decide +kernel) rfl ⟨trivial, rfl, trivial, trivial, trivial, trivial, rfl, trivial, rfl, ⟨rfl, hs.1⟩, trivial, trivial, trivial, trivial⟩ ?_
    replace hs := hs.2
    refine z_lvs (lv' := [(0, z_r 78), (1, .inl x1), (2, .inl x2), (3, .inl x3), (5, .inl (S88 78 2)), (6, .inl 0), (7, .inl (S88 180 (S88 78 41).toNatClampNeg)), (8, .inl 0)]) [4, 5, 6, 7, 3, 2, 1, 0] rfl ?_
    refine t_M_bulk_L114 M fl hfl (Q := fun o => F_M_bulk_L114 fl x1 x2 x3 (S88 78 2) 1300 S88 0 (S88 180 (S88 78 41).toNatClampNeg) 0 = o) x1 x2 x3 (S88 78 2) (fun y6_114 y7_114 S114 hL114 => ?_) 1300 S88 0 (S88 180 (S88 78 41).toNatClampNeg) 0 rfl hs.1
    replace hs := hs.2
    rw [hL114] at K
    try rw [hL114] at hs
    try dsimp only at K hs
    refine z_go2 M.1 272 [(.aload_n 0, 1), (.aload_n 0, 1), (.iload 5, 2), (.iconst 1, 1)] (277, [(0, z_r 78), (1, .inl x1), (2, .inl x2), (3, .inl x3), (5, .inl (S88 78 2)), (6, .inl y6_114), (7, .inl y7_114)], [.inl 1, .inl (S88 78 2), z_r 78, z_r 78], zW T' G' S114 n, 0, 0) (by decide +kernel) rfl ⟨trivial, trivial, trivial, trivial, trivial⟩ ?_
    refine z_callV M.1 (av := [.inl (S88 78 2), .inl 1]) (st := [z_r 78]) (a := 78) (ci := 14) (by decide +kernel) (c_M_stays T' G' n fl hfl S114 (S88 78 2) 1 hs.1) M.2.1 zl_M_301 zv_M_stays rfl rfl rfl ⟨by decide, by decide, by decide, by decide⟩ rfl (Nat.le_of_ble_eq_true rfl) (fun v w' hv => ?_)
    replace hs := hs.2
    rcases hF277 : F_M_stays fl S114 (S88 78 2) 1 with ⟨r277, S277⟩
    rw [hF277] at K hv
    try rw [hF277] at hs
    try dsimp only at K hs
    obtain ⟨rfl, rfl⟩ := hv
    show z_G X zm_M_bulk (280, [(0, z_r 78), (1, .inl x1), (2, .inl x2), (3, .inl x3), (5, .inl (S88 78 2)), (6, .inl y6_114), (7, .inl y7_114)], [.inl r277, z_r 78], zW T' G' S277 n, 0, 0)
    refine z_if_eq 287 M.1 (off := 7) (by decide +kernel) (by decide) (fun c280 => ?_) (fun c280 => ?_)
    · rw [if_pos c280] at K hs
      refine z_go2 M.1 287 [(.iconst 3, 1)] (288, [(0, z_r 78), (1, .inl x1), (2, .inl x2), (3, .inl x3), (5, .inl (S88 78 2)), (6, .inl y6_114), (7, .inl y7_114)], [.inl 3, z_r 78], zW T' G' S277 n, 0, 0) (by decide +kernel) rfl ⟨trivial, trivial⟩ ?_
      exact z_lvs (lv' := [(0, z_r 78), (1, .inl x1), (2, .inl x2), (3, .inl x3), (6, .inl y6_114), (7, .inl y7_114)]) [0, 1, 2, 3, 5, 6] rfl (t_M_bulk_j288 M fl hfl S277 x1 x2 x3 y6_114 y7_114 3 hQ K hs)
    · rw [if_neg c280] at K hs
      refine z_go2 M.1 283 [(.iconst 0, 1), (.goto 4, 3)] (288, [(0, z_r 78), (1, .inl x1), (2, .inl x2), (3, .inl x3), (5, .inl (S88 78 2)), (6, .inl y6_114), (7, .inl y7_114)], [.inl 0, z_r 78], zW T' G' S277 n, 0, 0) (by decide +kernel) rfl ⟨trivial, trivial, trivial⟩ ?_
      exact z_lvs (lv' := [(0, z_r 78), (1, .inl x1), (2, .inl x2), (3, .inl x3), (6, .inl y6_114), (7, .inl y7_114)]) [0, 1, 2, 3, 5, 6] rfl (t_M_bulk_j288 M fl hfl S277 x1 x2 x3 y6_114 y7_114 0 hQ K hs)
  · rw [if_neg c67] at K hs
    refine z_go2 M.1 70 [(.iconst 0, 1)] (71, [(0, z_r 78), (1, .inl x1), (2, .inl x2), (3, .inl x3)], [.inl 0], zW T' G' (z_uS S 78 0 s0) n, 0, 0) (by decide +kernel) rfl ⟨trivial, trivial⟩ ?_
    exact z_iret M (by decide +kernel) .int rfl rfl (by decide) (by decide) (hQ _ _ K)
def F_M_bulk_j24 (fl : Nat → Nat) (S : (Nat → Nat → Int32)) (x1 : Int32) (x2 : Int32) (x3 : Int32) (s0 : Int32) : (Int32 × (Nat → Nat → Int32)) := (if (F_M_isPerson S x1) = 0 then (F_M_bulk_j60 fl S x1 x2 x3 1) else (if s0 = 0 then (F_M_bulk_j60 fl S x1 x2 x3 2) else (match F_M_reads_0 S with | (r48, S48) => (if r48 = (-1) then (F_M_bulk_j60 fl S48 x1 x2 x3 0) else (F_M_bulk_j60 fl S48 x1 x2 x3 3)))))
def Sf_M_bulk_j24 (fl : Nat → Nat) (S : (Nat → Nat → Int32)) (x1 : Int32) (x2 : Int32) (x3 : Int32) (s0 : Int32) : Prop := (Sf_M_isPerson S x1 ∧ (if (F_M_isPerson S x1) = 0 then (Sf_M_bulk_j60 fl S x1 x2 x3 1) else (if s0 = 0 then (Sf_M_bulk_j60 fl S x1 x2 x3 2) else (Sf_M_reads_0 S ∧ (match F_M_reads_0 S with | (r48, S48) => (if r48 = (-1) then (Sf_M_bulk_j60 fl S48 x1 x2 x3 0) else (Sf_M_bulk_j60 fl S48 x1 x2 x3 3)))))))
theorem t_M_bulk_j24 {X : z_X} {Post : Option z_V → z_W → Prop} (M : z_M X zm_M_bulk rm_M_bulk Post) {T' : Nat → Nat × Nat} {G' : Nat → Nat → Option Nat} {n : Nat} (fl : Nat → Nat) (hfl : zOK T' G' fl n) {Q : (Int32 × (Nat → Nat → Int32)) → Prop} (S : (Nat → Nat → Int32)) (x1 : Int32) (x2 : Int32) (x3 : Int32) (s0 : Int32) (hQ : ∀ v S', Q (v, S') → Post (some (.inl v)) (zW T' G' S' n)) (K : Q (F_M_bulk_j24 fl S x1 x2 x3 s0)) (hs : Sf_M_bulk_j24 fl S x1 x2 x3 s0) : z_G X zm_M_bulk (24, [(0, z_r 78), (1, .inl x1), (2, .inl x2), (3, .inl x3)], [.inl s0], zW T' G' S n, 0, 0) := by
  unfold F_M_bulk_j24 at K
  unfold Sf_M_bulk_j24 at hs
  refine z_go2 M.1 24 [(.istore 4, 2), (.aload_n 0, 1), (.iload_n 1, 1)] (28, [(4, .inl s0), (0, z_r 78), (1, .inl x1), (2, .inl x2), (3, .inl x3)], [.inl x1, z_r 78], zW T' G' S n, 0, 0) (by decide +kernel) rfl ⟨trivial, trivial, trivial, trivial⟩ ?_
  refine z_callS M.1 (av := [.inl x1]) (st := [z_r 78]) (by decide +kernel) (c_M_isPerson T' G' S n x1 hs.1) M.2.1 zl_M_295 zs_M_isPerson ⟨by decide, by decide, by decide, by decide⟩ rfl (Nat.le_of_ble_eq_true rfl) (fun v w' hv => ?_)
  obtain ⟨rfl, rfl⟩ := hv
  replace hs := hs.2
  show z_G X zm_M_bulk (31, [(4, .inl s0), (0, z_r 78), (1, .inl x1), (2, .inl x2), (3, .inl x3)], [.inl (F_M_isPerson S x1), z_r 78], zW T' G' S n, 0, 0)
  refine z_if_ne 38 M.1 (off := 7) (by decide +kernel) (by decide) (fun c31 => ?_) (fun c31 => ?_)
  · rw [if_neg c31] at K hs
    refine z_go2 M.1 38 [(.iload 4, 2)] (40, [(4, .inl s0), (0, z_r 78), (1, .inl x1), (2, .inl x2), (3, .inl x3)], [.inl s0, z_r 78], zW T' G' S n, 0, 0) (by decide +kernel) rfl ⟨trivial, trivial⟩ ?_
    refine z_if_ne 47 M.1 (off := 7) (by decide +kernel) (by decide) (fun c40 => ?_) (fun c40 => ?_)
    · rw [if_neg c40] at K hs
      refine z_go2 M.1 47 [(.aload_n 0, 1)] (48, [(4, .inl s0), (0, z_r 78), (1, .inl x1), (2, .inl x2), (3, .inl x3)], [z_r 78, z_r 78], zW T' G' S n, 0, 0) (by decide +kernel) rfl ⟨trivial, trivial⟩ ?_
      refine z_callV M.1 (av := []) (st := [z_r 78]) (a := 78) (ci := 14) (by decide +kernel) (c_M_reads_0 T' G' S n hs.1) M.2.1 zl_M_416 zv_M_reads_0 rfl rfl rfl ⟨by decide, by decide, by decide, by decide⟩ rfl (Nat.le_of_ble_eq_true rfl) (fun v w' hv => ?_)
      replace hs := hs.2
      rcases hF48 : F_M_reads_0 S with ⟨r48, S48⟩
      rw [hF48] at K hv
      try rw [hF48] at hs
      try dsimp only at K hs
      obtain ⟨rfl, rfl⟩ := hv
      show z_G X zm_M_bulk (51, [(4, .inl s0), (0, z_r 78), (1, .inl x1), (2, .inl x2), (3, .inl x3)], [.inl r48, z_r 78], zW T' G' S48 n, 0, 0)
      refine z_go2 M.1 51 [(.iconst (-1), 1)] (52, [(4, .inl s0), (0, z_r 78), (1, .inl x1), (2, .inl x2), (3, .inl x3)], [.inl (-1), .inl r48, z_r 78], zW T' G' S48 n, 0, 0) (by decide +kernel) rfl ⟨trivial, trivial⟩ ?_
      refine z_icmp_ne 59 M.1 (off := 7) (by decide +kernel) (by decide) (fun c52 => ?_) (fun c52 => ?_)
      · rw [if_neg c52] at K hs
        refine z_go2 M.1 59 [(.iconst 3, 1)] (60, [(4, .inl s0), (0, z_r 78), (1, .inl x1), (2, .inl x2), (3, .inl x3)], [.inl 3, z_r 78], zW T' G' S48 n, 0, 0) (by decide +kernel) rfl ⟨trivial, trivial⟩ ?_
        exact z_lvs (lv' := [(0, z_r 78), (1, .inl x1), (2, .inl x2), (3, .inl x3)]) [1, 2, 3, 4] rfl (t_M_bulk_j60 M fl hfl S48 x1 x2 x3 3 hQ K hs)
      · rw [if_pos c52] at K hs
        refine z_go2 M.1 55 [(.iconst 0, 1), (.goto 4, 3)] (60, [(4, .inl s0), (0, z_r 78), (1, .inl x1), (2, .inl x2), (3, .inl x3)], [.inl 0, z_r 78], zW T' G' S48 n, 0, 0) (by decide +kernel) rfl ⟨trivial, trivial, trivial⟩ ?_
        exact z_lvs (lv' := [(0, z_r 78), (1, .inl x1), (2, .inl x2), (3, .inl x3)]) [1, 2, 3, 4] rfl (t_M_bulk_j60 M fl hfl S48 x1 x2 x3 0 hQ K hs)
    · rw [if_pos c40] at K hs
      refine z_go2 M.1 43 [(.iconst 2, 1), (.goto 16, 3)] (60, [(4, .inl s0), (0, z_r 78), (1, .inl x1), (2, .inl x2), (3, .inl x3)], [.inl 2, z_r 78], zW T' G' S n, 0, 0) (by decide +kernel) rfl ⟨trivial, trivial, trivial⟩ ?_
      exact z_lvs (lv' := [(0, z_r 78), (1, .inl x1), (2, .inl x2), (3, .inl x3)]) [1, 2, 3, 4] rfl (t_M_bulk_j60 M fl hfl S x1 x2 x3 2 hQ K hs)
  · rw [if_pos c31] at K hs
    refine z_go2 M.1 34 [(.iconst 1, 1), (.goto 25, 3)] (60, [(4, .inl s0), (0, z_r 78), (1, .inl x1), (2, .inl x2), (3, .inl x3)], [.inl 1, z_r 78], zW T' G' S n, 0, 0) (by decide +kernel) rfl ⟨trivial, trivial, trivial⟩ ?_
    exact z_lvs (lv' := [(0, z_r 78), (1, .inl x1), (2, .inl x2), (3, .inl x3)]) [1, 2, 3, 4] rfl (t_M_bulk_j60 M fl hfl S x1 x2 x3 1 hQ K hs)
def F_M_bulk_j23 (fl : Nat → Nat) (S : (Nat → Nat → Int32)) (x1 : Int32) (x2 : Int32) (x3 : Int32) : (Int32 × (Nat → Nat → Int32)) := (F_M_bulk_j24 fl S x1 x2 x3 0)
def Sf_M_bulk_j23 (fl : Nat → Nat) (S : (Nat → Nat → Int32)) (x1 : Int32) (x2 : Int32) (x3 : Int32) : Prop := (Sf_M_bulk_j24 fl S x1 x2 x3 0)
theorem t_M_bulk_j23 {X : z_X} {Post : Option z_V → z_W → Prop} (M : z_M X zm_M_bulk rm_M_bulk Post) {T' : Nat → Nat × Nat} {G' : Nat → Nat → Option Nat} {n : Nat} (fl : Nat → Nat) (hfl : zOK T' G' fl n) {Q : (Int32 × (Nat → Nat → Int32)) → Prop} (S : (Nat → Nat → Int32)) (x1 : Int32) (x2 : Int32) (x3 : Int32) (hQ : ∀ v S', Q (v, S') → Post (some (.inl v)) (zW T' G' S' n)) (K : Q (F_M_bulk_j23 fl S x1 x2 x3)) (hs : Sf_M_bulk_j23 fl S x1 x2 x3) : z_G X zm_M_bulk (23, [(0, z_r 78), (1, .inl x1), (2, .inl x2), (3, .inl x3)], [], zW T' G' S n, 0, 0) := by
  unfold F_M_bulk_j23 at K
  unfold Sf_M_bulk_j23 at hs
  refine z_go2 M.1 23 [(.iconst 0, 1)] (24, [(0, z_r 78), (1, .inl x1), (2, .inl x2), (3, .inl x3)], [.inl 0], zW T' G' S n, 0, 0) (by decide +kernel) rfl ⟨trivial, trivial⟩ ?_
  exact z_lvs (lv' := [(0, z_r 78), (1, .inl x1), (2, .inl x2), (3, .inl x3)]) [0, 1, 2, 3] rfl (t_M_bulk_j24 M fl hfl S x1 x2 x3 0 hQ K hs)
def F_M_bulk (fl : Nat → Nat) (S : (Nat → Nat → Int32)) (p1 : Int32) (p2 : Int32) (p3 : Int32) : (Int32 × (Nat → Nat → Int32)) := (if (F_M_isIn S p2 0 2) = 0 then (F_M_bulk_j23 fl S p1 p2 p3) else (if (F_M_isIn S p3 (-1) 99) = 0 then (F_M_bulk_j23 fl S p1 p2 p3) else (F_M_bulk_j24 fl S p1 p2 p3 1)))
def Sf_M_bulk (fl : Nat → Nat) (S : (Nat → Nat → Int32)) (p1 : Int32) (p2 : Int32) (p3 : Int32) : Prop := (if (F_M_isIn S p2 0 2) = 0 then (Sf_M_bulk_j23 fl S p1 p2 p3) else (if (F_M_isIn S p3 (-1) 99) = 0 then (Sf_M_bulk_j23 fl S p1 p2 p3) else (Sf_M_bulk_j24 fl S p1 p2 p3 1)))
theorem c_M_bulk (T' : Nat → Nat × Nat) (G' : Nat → Nat → Option Nat) (n : Nat) (fl : Nat → Nat) (hfl : zOK T' G' fl n) (S : (Nat → Nat → Int32)) (p1 : Int32) (p2 : Int32) (p3 : Int32) (hs : Sf_M_bulk fl S p1 p2 p3) : z_Run rm_M_bulk zm_M_bulk [z_r 78, .inl p1, .inl p2, .inl p3] (zW T' G' S n) (zq (some (.inl (F_M_bulk fl S p1 p2 p3).1)) (zW T' G' (F_M_bulk fl S p1 p2 p3).2 n)) := by
  refine z_body (by decide) zf_M_ok (Nat.le_of_ble_eq_true rfl) (fun X M => ?_)
  obtain ⟨Q, hQ, K⟩ : ∃ Q : (Int32 × (Nat → Nat → Int32)) → Prop, (∀ v S', Q (v, S') → zq (some (.inl (F_M_bulk fl S p1 p2 p3).1)) (zW T' G' (F_M_bulk fl S p1 p2 p3).2 n) (some (.inl v)) (zW T' G' S' n)) ∧ Q (F_M_bulk fl S p1 p2 p3) := ⟨fun o => F_M_bulk fl S p1 p2 p3 = o, fun v S' h => ⟨by rw [h], by rw [h]⟩, rfl⟩
  show z_G X zm_M_bulk (0, [(0, z_r 78), (1, .inl p1), (2, .inl p2), (3, .inl p3)], [], zW T' G' S n, 0, 0)
  unfold F_M_bulk at K
  unfold Sf_M_bulk at hs
  refine z_go2 M.1 0 [(.iload_n 2, 1), (.iconst 0, 1), (.iconst 2, 1)] (3, [(0, z_r 78), (1, .inl p1), (2, .inl p2), (3, .inl p3)], [.inl 2, .inl 0, .inl p2], zW T' G' S n, 0, 0) (by decide +kernel) rfl ⟨trivial, trivial, trivial, trivial⟩ ?_
  refine z_callS M.1 (av := [.inl p2, .inl 0, .inl 2]) (st := []) (by decide +kernel) (c_M_isIn T' G' S n p2 0 2) M.2.1 zl_M_178 zs_M_isIn ⟨by decide, by decide, by decide, by decide⟩ rfl (Nat.le_of_ble_eq_true rfl) (fun v w' hv => ?_)
  obtain ⟨rfl, rfl⟩ := hv
  show z_G X zm_M_bulk (6, [(0, z_r 78), (1, .inl p1), (2, .inl p2), (3, .inl p3)], [.inl (F_M_isIn S p2 0 2)], zW T' G' S n, 0, 0)
  refine z_if_eq 23 M.1 (off := 17) (by decide +kernel) (by decide) (fun c6 => ?_) (fun c6 => ?_)
  · rw [if_pos c6] at K hs
    exact z_lvs (lv' := [(0, z_r 78), (1, .inl p1), (2, .inl p2), (3, .inl p3)]) [0, 1, 2, 3] rfl (t_M_bulk_j23 M fl hfl S p1 p2 p3 hQ K hs)
  · rw [if_neg c6] at K hs
    refine z_go2 M.1 9 [(.iload_n 3, 1), (.iconst (-1), 1), (.bipush 99, 2)] (13, [(0, z_r 78), (1, .inl p1), (2, .inl p2), (3, .inl p3)], [.inl 99, .inl (-1), .inl p3], zW T' G' S n, 0, 0) (by decide +kernel) rfl ⟨trivial, trivial, trivial, trivial⟩ ?_
    refine z_callS M.1 (av := [.inl p3, .inl (-1), .inl 99]) (st := []) (by decide +kernel) (c_M_isIn T' G' S n p3 (-1) 99) M.2.1 zl_M_178 zs_M_isIn ⟨by decide, by decide, by decide, by decide⟩ rfl (Nat.le_of_ble_eq_true rfl) (fun v w' hv => ?_)
    obtain ⟨rfl, rfl⟩ := hv
    show z_G X zm_M_bulk (16, [(0, z_r 78), (1, .inl p1), (2, .inl p2), (3, .inl p3)], [.inl (F_M_isIn S p3 (-1) 99)], zW T' G' S n, 0, 0)
    refine z_if_eq 23 M.1 (off := 7) (by decide +kernel) (by decide) (fun c16 => ?_) (fun c16 => ?_)
    · rw [if_pos c16] at K hs
      exact z_lvs (lv' := [(0, z_r 78), (1, .inl p1), (2, .inl p2), (3, .inl p3)]) [0, 1, 2, 3] rfl (t_M_bulk_j23 M fl hfl S p1 p2 p3 hQ K hs)
    · rw [if_neg c16] at K hs
      refine z_go2 M.1 19 [(.iconst 1, 1), (.goto 4, 3)] (24, [(0, z_r 78), (1, .inl p1), (2, .inl p2), (3, .inl p3)], [.inl 1], zW T' G' S n, 0, 0) (by decide +kernel) rfl ⟨trivial, trivial, trivial⟩ ?_
      exact z_lvs (lv' := [(0, z_r 78), (1, .inl p1), (2, .inl p2), (3, .inl p3)]) [0, 1, 2, 3] rfl (t_M_bulk_j24 M fl hfl S p1 p2 p3 1 hQ K hs)

-- TrackHouseModel.unbulk
abbrev rm_M_unbulk : Room := zr 7
def F_M_unbulk_L44 (fl : Nat → Nat) (x1 : Int32) (x2 : Int32) : Nat → (Nat → Nat → Int32) → Int32 → ((Nat → Nat → Int32))
  | 0, S, x3 => S
  | f + 1, S, x3 => (if (S 180 (S 78 41).toNatClampNeg) ≤ x3 then S else (if (F_M_hasField 86 S (S 181 (x3).toNatClampNeg) (S 178 (x1).toNatClampNeg)) = 0 then ((F_M_unbulk_L44 fl x1 x2 f) S (x3 + 1)) else (if (S 90 (((3 : Int32) * (S 181 (x3).toNatClampNeg)) + (S 178 (x1).toNatClampNeg)).toNatClampNeg) = (S 179 (x1).toNatClampNeg) then (z_let (F_M_change 86 S 3 (S 177 (x1).toNatClampNeg) (S 181 (x3).toNatClampNeg) (S 178 (x1).toNatClampNeg) (S 182 (x3).toNatClampNeg)) (fun S138 => ((F_M_unbulk_L44 fl x1 x2 f) S138 (x3 + 1)))) else ((F_M_unbulk_L44 fl x1 x2 f) S (x3 + 1)))))
def Sf_M_unbulk_L44 (fl : Nat → Nat) (x1 : Int32) (x2 : Int32) : Nat → (Nat → Nat → Int32) → Int32 → Prop
  | 0, _, _ => False
  | f + 1, S, x3 => ((vp_in (S 78 41) 601) ∧ (if (S 180 (S 78 41).toNatClampNeg) ≤ x3 then True else ((vp_in x3 2000) ∧ ((vp_in x1 600) ∧ (Sf_M_hasField 86 S (S 181 (x3).toNatClampNeg) (S 178 (x1).toNatClampNeg) ∧ (if (F_M_hasField 86 S (S 181 (x3).toNatClampNeg) (S 178 (x1).toNatClampNeg)) = 0 then ((Sf_M_unbulk_L44 fl x1 x2 f) S (x3 + 1)) else ((vp_in x1 600) ∧ ((vp_in (((3 : Int32) * (S 181 (x3).toNatClampNeg)) + (S 178 (x1).toNatClampNeg)) 90) ∧ ((vp_in x1 600) ∧ (if (S 90 (((3 : Int32) * (S 181 (x3).toNatClampNeg)) + (S 178 (x1).toNatClampNeg)).toNatClampNeg) = (S 179 (x1).toNatClampNeg) then ((vp_in x1 600) ∧ ((vp_in x1 600) ∧ ((vp_in x3 2000) ∧ (Sf_M_change 86 S 3 (S 177 (x1).toNatClampNeg) (S 181 (x3).toNatClampNeg) (S 178 (x1).toNatClampNeg) (S 182 (x3).toNatClampNeg) ∧ (z_let (F_M_change 86 S 3 (S 177 (x1).toNatClampNeg) (S 181 (x3).toNatClampNeg) (S 178 (x1).toNatClampNeg) (S 182 (x3).toNatClampNeg)) (fun S138 => ((Sf_M_unbulk_L44 fl x1 x2 f) S138 (x3 + 1)))))))) else ((Sf_M_unbulk_L44 fl x1 x2 f) S (x3 + 1))))))))))))
theorem t_M_unbulk_L44 {X : z_X} {Post : Option z_V → z_W → Prop} (M : z_M X zm_M_unbulk rm_M_unbulk Post) {T' : Nat → Nat × Nat} {G' : Nat → Nat → Option Nat} {n : Nat} (fl : Nat → Nat) (hfl : zOK T' G' fl n) {Q : ((Nat → Nat → Int32)) → Prop}  (x1 : Int32) (x2 : Int32) (hE : ∀ (S' : (Nat → Nat → Int32)), Q S' → z_G X zm_M_unbulk (147, [(0, z_r 78), (2, .inl x2)], [], zW T' G' S' n, 0, 0)) (f : Nat) : ∀ (S : (Nat → Nat → Int32)) (x3 : Int32), Q (F_M_unbulk_L44 fl x1 x2 f S x3) → Sf_M_unbulk_L44 fl x1 x2 f S x3 → z_G X zm_M_unbulk (44, [(0, z_r 78), (1, .inl x1), (2, .inl x2), (3, .inl x3)], [], zW T' G' S n, 0, 0) := by
  induction f with
  | zero => intro S x3 K hs; exact False.elim hs
  | succ f hC =>
    intro S x3 K hs
    rw [F_M_unbulk_L44] at K
    rw [Sf_M_unbulk_L44] at hs
    refine z_go2 M.1 44 [(.iload_n 3, 1), (.aload_n 0, 1), (.getfield 134, 3), (.aload_n 0, 1), (.getfield 495, 3), (.iaload, 1)] (54, [(0, z_r 78), (1, .inl x1), (2, .inl x2), (3, .inl x3)], [.inl (S 180 (S 78 41).toNatClampNeg), .inl x3], zW T' G' S n, 0, 0) (by decide +kernel) rfl ⟨trivial, trivial, rfl, trivial, rfl, ⟨rfl, hs.1⟩, trivial⟩ ?_
    replace hs := hs.2
    refine z_icmp_ge 147 M.1 (off := 93) (by decide +kernel) (by decide) (fun c54 => ?_) (fun c54 => ?_)
    · rw [if_pos c54] at K hs
      exact z_lvs (lv' := [(0, z_r 78), (2, .inl x2)]) [0, 2] rfl (hE S K)
    · rw [if_neg c54] at K hs
      refine z_go2 M.1 57 [(.aload_n 0, 1), (.getfield 137, 3), (.iload_n 3, 1), (.iaload, 1), (.istore 4, 2), (.aload_n 0, 1), (.aload_n 0, 1), (.getfield 34, 3), (.iload 4, 2), (.aload_n 0, 1), (.getfield 128, 3), (.iload_n 1, 1), (.iaload, 1)] (78, [(4, .inl (S 181 (x3).toNatClampNeg)), (0, z_r 78), (1, .inl x1), (2, .inl x2), (3, .inl x3)], [.inl (S 178 (x1).toNatClampNeg), .inl (S 181 (x3).toNatClampNeg), z_r 86, z_r 78], zW T' G' S n, 0, 0) (by decide +kernel) rfl ⟨trivial, rfl, trivial, ⟨rfl, hs.1⟩, trivial, trivial, trivial, rfl, trivial, trivial, rfl, trivial, ⟨rfl, hs.2.1⟩, trivial⟩ ?_
      replace hs := hs.2.2
      refine z_callV M.1 (av := [z_r 86, .inl (S 181 (x3).toNatClampNeg), .inl (S 178 (x1).toNatClampNeg)]) (st := []) (a := 78) (ci := 14) (by decide +kernel) (c_M_hasField_86 T' G' S n (S 181 (x3).toNatClampNeg) (S 178 (x1).toNatClampNeg) hs.1) M.2.1 zl_M_240 zv_M_hasField rfl rfl rfl ⟨by decide, by decide, by decide, by decide⟩ rfl (Nat.le_of_ble_eq_true rfl) (fun v w' hv => ?_)
      obtain ⟨rfl, rfl⟩ := hv
      replace hs := hs.2
      show z_G X zm_M_unbulk (81, [(4, .inl (S 181 (x3).toNatClampNeg)), (0, z_r 78), (1, .inl x1), (2, .inl x2), (3, .inl x3)], [.inl (F_M_hasField 86 S (S 181 (x3).toNatClampNeg) (S 178 (x1).toNatClampNeg))], zW T' G' S n, 0, 0)
      refine z_if_eq 141 M.1 (off := 60) (by decide +kernel) (by decide) (fun c81 => ?_) (fun c81 => ?_)
      · rw [if_pos c81] at K hs
        refine z_go2 M.1 141 [(.iinc 3 1, 3), (.goto (-100), 3)] (44, [(3, .inl (x3 + 1)), (4, .inl (S 181 (x3).toNatClampNeg)), (0, z_r 78), (1, .inl x1), (2, .inl x2)], [], zW T' G' S n, 0, 0) (by decide +kernel) rfl ⟨trivial, trivial, trivial⟩ ?_
        exact z_lvs (lv' := [(0, z_r 78), (1, .inl x1), (2, .inl x2), (3, .inl (x3 + 1))]) [2, 3, 4, 0] rfl (hC S (x3 + 1) K hs)
      · rw [if_neg c81] at K hs
        refine z_go2 M.1 84 [(.aload_n 0, 1), (.getfield 34, 3), (.getfield 201, 3), (.iconst 3, 1), (.iload 4, 2), (.imul, 1), (.aload_n 0, 1), (.getfield 128, 3), (.iload_n 1, 1), (.iaload, 1), (.iadd, 1), (.iaload, 1), (.aload_n 0, 1), (.getfield 131, 3), (.iload_n 1, 1), (.iaload, 1)] (109, [(4, .inl (S 181 (x3).toNatClampNeg)), (0, z_r 78), (1, .inl x1), (2, .inl x2), (3, .inl x3)], [.inl (S 179 (x1).toNatClampNeg), .inl (S 90 (((3 : Int32) * (S 181 (x3).toNatClampNeg)) + (S 178 (x1).toNatClampNeg)).toNatClampNeg)], zW T' G' S n, 0, 0) (by decide +kernel) rfl ⟨trivial, rfl, rfl, trivial, trivial, trivial, trivial, rfl, trivial, ⟨rfl, hs.1⟩, trivial, ⟨rfl, hs.2.1⟩, trivial, rfl, trivial, ⟨rfl, hs.2.2.1⟩, trivial⟩ ?_
        replace hs := hs.2.2.2
        refine z_icmp_ne 141 M.1 (off := 32) (by decide +kernel) (by decide) (fun c109 => ?_) (fun c109 => ?_)
        · rw [if_neg c109] at K hs
          refine z_go2 M.1 141 [(.iinc 3 1, 3), (.goto (-100), 3)] (44, [(3, .inl (x3 + 1)), (4, .inl (S 181 (x3).toNatClampNeg)), (0, z_r 78), (1, .inl x1), (2, .inl x2)], [], zW T' G' S n, 0, 0) (by decide +kernel) rfl ⟨trivial, trivial, trivial⟩ ?_
          exact z_lvs (lv' := [(0, z_r 78), (1, .inl x1), (2, .inl x2), (3, .inl (x3 + 1))]) [2, 3, 4, 0] rfl (hC S (x3 + 1) K hs)
        · rw [if_pos c109] at K hs
          refine z_go2 M.1 112 [(.aload_n 0, 1), (.aload_n 0, 1), (.getfield 34, 3), (.iconst 3, 1), (.aload_n 0, 1), (.getfield 125, 3), (.iload_n 1, 1), (.iaload, 1), (.iload 4, 2), (.aload_n 0, 1), (.getfield 128, 3), (.iload_n 1, 1), (.iaload, 1), (.aload_n 0, 1), (.getfield 140, 3), (.iload_n 3, 1), (.iaload, 1)] (138, [(4, .inl (S 181 (x3).toNatClampNeg)), (0, z_r 78), (1, .inl x1), (2, .inl x2), (3, .inl x3)], [.inl (S 182 (x3).toNatClampNeg), .inl (S 178 (x1).toNatClampNeg), .inl (S 181 (x3).toNatClampNeg), .inl (S 177 (x1).toNatClampNeg), .inl 3, z_r 86, z_r 78], zW T' G' S n, 0, 0) (by decide +kernel) rfl ⟨trivial, trivial, rfl, trivial, trivial, rfl, trivial, ⟨rfl, hs.1⟩, trivial, trivial, rfl, trivial, ⟨rfl, hs.2.1⟩, trivial, rfl, trivial, ⟨rfl, hs.2.2.1⟩, trivial⟩ ?_
          replace hs := hs.2.2.2
          refine z_callV M.1 (av := [z_r 86, .inl 3, .inl (S 177 (x1).toNatClampNeg), .inl (S 181 (x3).toNatClampNeg), .inl (S 178 (x1).toNatClampNeg), .inl (S 182 (x3).toNatClampNeg)]) (st := []) (a := 78) (ci := 14) (by decide +kernel) (c_M_change_86 T' G' S n 3 (S 177 (x1).toNatClampNeg) (S 181 (x3).toNatClampNeg) (S 178 (x1).toNatClampNeg) (S 182 (x3).toNatClampNeg) hs.1) M.2.1 zl_M_259 zv_M_change rfl rfl rfl ⟨by decide, by decide, by decide, by decide⟩ rfl (Nat.le_of_ble_eq_true rfl) (fun v w' hv => ?_)
          replace hs := hs.2
          obtain ⟨S138, hF138⟩ : ∃ y, F_M_change 86 S 3 (S 177 (x1).toNatClampNeg) (S 181 (x3).toNatClampNeg) (S 178 (x1).toNatClampNeg) (S 182 (x3).toNatClampNeg) = y := ⟨_, rfl⟩
          rw [hF138] at K hv
          try rw [hF138] at hs
          try dsimp only [z_let] at K hs
          obtain ⟨rfl, rfl⟩ := hv
          show z_G X zm_M_unbulk (141, [(4, .inl (S 181 (x3).toNatClampNeg)), (0, z_r 78), (1, .inl x1), (2, .inl x2), (3, .inl x3)], [], zW T' G' S138 n, 0, 0)
          refine z_go2 M.1 141 [(.iinc 3 1, 3), (.goto (-100), 3)] (44, [(3, .inl (x3 + 1)), (4, .inl (S 181 (x3).toNatClampNeg)), (0, z_r 78), (1, .inl x1), (2, .inl x2)], [], zW T' G' S138 n, 0, 0) (by decide +kernel) rfl ⟨trivial, trivial, trivial⟩ ?_
          exact z_lvs (lv' := [(0, z_r 78), (1, .inl x1), (2, .inl x2), (3, .inl (x3 + 1))]) [2, 3, 4, 0] rfl (hC S138 (x3 + 1) K hs)
def F_M_unbulk_j169 (fl : Nat → Nat) (S : (Nat → Nat → Int32)) (x3 : Int32) (s0 : Int32) : (Int32 × (Nat → Nat → Int32)) := (if s0 ≤ 0 then (x3, (z_uS (z_uS S 78 0 s0) 78 41 ((S 78 41) - 1))) else (0, (z_uS S 78 0 s0)))
theorem t_M_unbulk_j169 {X : z_X} {Post : Option z_V → z_W → Prop} (M : z_M X zm_M_unbulk rm_M_unbulk Post) {T' : Nat → Nat × Nat} {G' : Nat → Nat → Option Nat} {n : Nat} (fl : Nat → Nat) (hfl : zOK T' G' fl n) {Q : (Int32 × (Nat → Nat → Int32)) → Prop} (S : (Nat → Nat → Int32)) (x3 : Int32) (s0 : Int32) (hQ : ∀ v S', Q (v, S') → Post (some (.inl v)) (zW T' G' S' n)) (K : Q (F_M_unbulk_j169 fl S x3 s0)) : z_G X zm_M_unbulk (169, [(0, z_r 78), (3, .inl x3)], [.inl s0, z_r 78], zW T' G' S n, 0, 0) := by
  unfold F_M_unbulk_j169 at K
  refine z_go2 M.1 169 [(.putfield 175, 3), (.aload_n 0, 1), (.getfield 175, 3)] (176, [(0, z_r 78), (3, .inl x3)], [.inl s0], zW T' G' (z_uS S 78 0 s0) n, 0, 0) (by decide +kernel) rfl ⟨⟨rfl, trivial⟩, trivial, rfl, trivial⟩ ?_
  refine z_if_le 181 M.1 (off := 5) (by decide +kernel) (by decide) (fun c176 => ?_) (fun c176 => ?_)
  · rw [if_pos c176] at K
    refine z_go2 M.1 181 [(.aload_n 0, 1), (.dup, 1), (.getfield 495, 3), (.iconst 1, 1), (.isub, 1), (.putfield 495, 3), (.iload_n 3, 1)] (192, [(0, z_r 78), (3, .inl x3)], [.inl x3], zW T' G' (z_uS (z_uS S 78 0 s0) 78 41 ((S 78 41) - 1)) n, 0, 0) (by decide +kernel) rfl ⟨trivial, rfl, rfl, trivial, trivial, ⟨rfl, trivial⟩, trivial, trivial⟩ ?_
    exact z_iret M (by decide +kernel) .int rfl rfl (by decide) (by decide) (hQ _ _ K)
  · rw [if_neg c176] at K
    refine z_go2 M.1 179 [(.iconst 0, 1)] (180, [(0, z_r 78), (3, .inl x3)], [.inl 0], zW T' G' (z_uS S 78 0 s0) n, 0, 0) (by decide +kernel) rfl ⟨trivial, trivial⟩ ?_
    exact z_iret M (by decide +kernel) .int rfl rfl (by decide) (by decide) (hQ _ _ K)
def F_M_unbulk_j13 (fl : Nat → Nat) (S : (Nat → Nat → Int32)) (s0 : Int32) : (Int32 × (Nat → Nat → Int32)) := (if s0 ≤ 0 then (match F_M_unbulk_L44 fl ((S 78 41) - 1) (S 78 2) 1300 (z_uS S 78 0 s0) (S 180 ((S 78 41) - 1).toNatClampNeg) with | S44 => (match F_M_stays fl S44 (S 78 2) 0 with | (r158, S158) => (if r158 = 0 then (F_M_unbulk_j169 fl S158 ((S44 78 2) - (S 78 2)) 1) else (F_M_unbulk_j169 fl S158 ((S44 78 2) - (S 78 2)) 0)))) else (0, (z_uS S 78 0 s0)))
def Sf_M_unbulk_j13 (fl : Nat → Nat) (S : (Nat → Nat → Int32)) (s0 : Int32) : Prop := (if s0 ≤ 0 then ((vp_in ((S 78 41) - 1) 601) ∧ (Sf_M_unbulk_L44 fl ((S 78 41) - 1) (S 78 2) 1300 (z_uS S 78 0 s0) (S 180 ((S 78 41) - 1).toNatClampNeg) ∧ (match F_M_unbulk_L44 fl ((S 78 41) - 1) (S 78 2) 1300 (z_uS S 78 0 s0) (S 180 ((S 78 41) - 1).toNatClampNeg) with | S44 => (Sf_M_stays fl S44 (S 78 2) 0 ∧ True)))) else True)
theorem t_M_unbulk_j13 {X : z_X} {Post : Option z_V → z_W → Prop} (M : z_M X zm_M_unbulk rm_M_unbulk Post) {T' : Nat → Nat × Nat} {G' : Nat → Nat → Option Nat} {n : Nat} (fl : Nat → Nat) (hfl : zOK T' G' fl n) {Q : (Int32 × (Nat → Nat → Int32)) → Prop} (S : (Nat → Nat → Int32)) (s0 : Int32) (hQ : ∀ v S', Q (v, S') → Post (some (.inl v)) (zW T' G' S' n)) (K : Q (F_M_unbulk_j13 fl S s0)) (hs : Sf_M_unbulk_j13 fl S s0) : z_G X zm_M_unbulk (13, [(0, z_r 78)], [.inl s0, z_r 78], zW T' G' S n, 0, 0) := by
  unfold F_M_unbulk_j13 at K
  unfold Sf_M_unbulk_j13 at hs
  refine z_go2 M.1 13 [(.putfield 175, 3), (.aload_n 0, 1), (.getfield 175, 3)] (20, [(0, z_r 78)], [.inl s0], zW T' G' (z_uS S 78 0 s0) n, 0, 0) (by decide +kernel) rfl ⟨⟨rfl, trivial⟩, trivial, rfl, trivial⟩ ?_
  refine z_if_le 25 M.1 (off := 5) (by decide +kernel) (by decide) (fun c20 => ?_) (fun c20 => ?_)
  · rw [if_pos c20] at K hs
    refine z_go2 M.1 25 [(.aload_n 0, 1), (.getfield 495, 3), (.iconst 1, 1), (.isub, 1), (.istore_n 1, 1), (.aload_n 0, 1), (.getfield 182, 3), (.istore_n 2, 1), (.aload_n 0, 1), (.getfield 134, 3), (.iload_n 1, 1), (.iaload, 1), (.istore_n 3, 1)] (44, [(3, .inl (S 180 ((S 78 41) - 1).toNatClampNeg)), (2, .inl (S 78 2)), (1, .inl ((S 78 41) - 1)), (0, z_r 78)], [], zW T' G' (z_uS S 78 0 s0) n, 0, 0) (by decide +kernel) rfl ⟨trivial, rfl, trivial, trivial, trivial, trivial, rfl, trivial, trivial, rfl, trivial, ⟨rfl, hs.1⟩, trivial, trivial⟩ ?_
    replace hs := hs.2
    refine z_lvs (lv' := [(0, z_r 78), (1, .inl ((S 78 41) - 1)), (2, .inl (S 78 2)), (3, .inl (S 180 ((S 78 41) - 1).toNatClampNeg))]) [3, 2, 1, 0] rfl ?_
    refine t_M_unbulk_L44 M fl hfl (Q := fun o => F_M_unbulk_L44 fl ((S 78 41) - 1) (S 78 2) 1300 (z_uS S 78 0 s0) (S 180 ((S 78 41) - 1).toNatClampNeg) = o) ((S 78 41) - 1) (S 78 2) (fun S44 hL44 => ?_) 1300 (z_uS S 78 0 s0) (S 180 ((S 78 41) - 1).toNatClampNeg) rfl hs.1
    replace hs := hs.2
    rw [hL44] at K
    try rw [hL44] at hs
    try dsimp only at K hs
    refine z_go2 M.1 147 [(.aload_n 0, 1), (.getfield 182, 3), (.iload_n 2, 1), (.isub, 1), (.istore_n 3, 1), (.aload_n 0, 1), (.aload_n 0, 1), (.iload_n 2, 1), (.iconst 0, 1)] (158, [(3, .inl ((S44 78 2) - (S 78 2))), (0, z_r 78), (2, .inl (S 78 2))], [.inl 0, .inl (S 78 2), z_r 78, z_r 78], zW T' G' S44 n, 0, 0) (by decide +kernel) rfl ⟨trivial, rfl, trivial, trivial, trivial, trivial, trivial, trivial, trivial, trivial⟩ ?_
    refine z_callV M.1 (av := [.inl (S 78 2), .inl 0]) (st := [z_r 78]) (a := 78) (ci := 14) (by decide +kernel) (c_M_stays T' G' n fl hfl S44 (S 78 2) 0 hs.1) M.2.1 zl_M_301 zv_M_stays rfl rfl rfl ⟨by decide, by decide, by decide, by decide⟩ rfl (Nat.le_of_ble_eq_true rfl) (fun v w' hv => ?_)
    replace hs := hs.2
    rcases hF158 : F_M_stays fl S44 (S 78 2) 0 with ⟨r158, S158⟩
    rw [hF158] at K hv
    try dsimp only at K
    obtain ⟨rfl, rfl⟩ := hv
    show z_G X zm_M_unbulk (161, [(3, .inl ((S44 78 2) - (S 78 2))), (0, z_r 78), (2, .inl (S 78 2))], [.inl r158, z_r 78], zW T' G' S158 n, 0, 0)
    refine z_if_eq 168 M.1 (off := 7) (by decide +kernel) (by decide) (fun c161 => ?_) (fun c161 => ?_)
    · rw [if_pos c161] at K
      refine z_go2 M.1 168 [(.iconst 1, 1)] (169, [(3, .inl ((S44 78 2) - (S 78 2))), (0, z_r 78), (2, .inl (S 78 2))], [.inl 1, z_r 78], zW T' G' S158 n, 0, 0) (by decide +kernel) rfl ⟨trivial, trivial⟩ ?_
      exact z_lvs (lv' := [(0, z_r 78), (3, .inl ((S44 78 2) - (S 78 2)))]) [1, 0] rfl (t_M_unbulk_j169 M fl hfl S158 ((S44 78 2) - (S 78 2)) 1 hQ K)
    · rw [if_neg c161] at K
      refine z_go2 M.1 164 [(.iconst 0, 1), (.goto 4, 3)] (169, [(3, .inl ((S44 78 2) - (S 78 2))), (0, z_r 78), (2, .inl (S 78 2))], [.inl 0, z_r 78], zW T' G' S158 n, 0, 0) (by decide +kernel) rfl ⟨trivial, trivial, trivial⟩ ?_
      exact z_lvs (lv' := [(0, z_r 78), (3, .inl ((S44 78 2) - (S 78 2)))]) [1, 0] rfl (t_M_unbulk_j169 M fl hfl S158 ((S44 78 2) - (S 78 2)) 0 hQ K)
  · rw [if_neg c20] at K hs
    refine z_go2 M.1 23 [(.iconst 0, 1)] (24, [(0, z_r 78)], [.inl 0], zW T' G' (z_uS S 78 0 s0) n, 0, 0) (by decide +kernel) rfl ⟨trivial, trivial⟩ ?_
    exact z_iret M (by decide +kernel) .int rfl rfl (by decide) (by decide) (hQ _ _ K)
def F_M_unbulk (fl : Nat → Nat) (S : (Nat → Nat → Int32)) : (Int32 × (Nat → Nat → Int32)) := (if (S 78 41) = 0 then (F_M_unbulk_j13 fl S 1) else (F_M_unbulk_j13 fl S 0))
def Sf_M_unbulk (fl : Nat → Nat) (S : (Nat → Nat → Int32)) : Prop := (if (S 78 41) = 0 then (Sf_M_unbulk_j13 fl S 1) else (Sf_M_unbulk_j13 fl S 0))
theorem c_M_unbulk (T' : Nat → Nat × Nat) (G' : Nat → Nat → Option Nat) (n : Nat) (fl : Nat → Nat) (hfl : zOK T' G' fl n) (S : (Nat → Nat → Int32)) (hs : Sf_M_unbulk fl S) : z_Run rm_M_unbulk zm_M_unbulk [z_r 78] (zW T' G' S n) (zq (some (.inl (F_M_unbulk fl S).1)) (zW T' G' (F_M_unbulk fl S).2 n)) := by
  refine z_body (by decide) zf_M_ok (Nat.le_of_ble_eq_true rfl) (fun X M => ?_)
  obtain ⟨Q, hQ, K⟩ : ∃ Q : (Int32 × (Nat → Nat → Int32)) → Prop, (∀ v S', Q (v, S') → zq (some (.inl (F_M_unbulk fl S).1)) (zW T' G' (F_M_unbulk fl S).2 n) (some (.inl v)) (zW T' G' S' n)) ∧ Q (F_M_unbulk fl S) := ⟨fun o => F_M_unbulk fl S = o, fun v S' h => ⟨by rw [h], by rw [h]⟩, rfl⟩
  show z_G X zm_M_unbulk (0, [(0, z_r 78)], [], zW T' G' S n, 0, 0)
  unfold F_M_unbulk at K
  unfold Sf_M_unbulk at hs
  refine z_go2 M.1 0 [(.aload_n 0, 1), (.aload_n 0, 1), (.getfield 495, 3)] (5, [(0, z_r 78)], [.inl (S 78 41), z_r 78], zW T' G' S n, 0, 0) (by decide +kernel) rfl ⟨trivial, trivial, rfl, trivial⟩ ?_
  refine z_if_ne 12 M.1 (off := 7) (by decide +kernel) (by decide) (fun c5 => ?_) (fun c5 => ?_)
  · rw [if_neg c5] at K hs
    refine z_go2 M.1 12 [(.iconst 0, 1)] (13, [(0, z_r 78)], [.inl 0, z_r 78], zW T' G' S n, 0, 0) (by decide +kernel) rfl ⟨trivial, trivial⟩ ?_
    exact z_lvs (lv' := [(0, z_r 78)]) [0] rfl (t_M_unbulk_j13 M fl hfl S 0 hQ K hs)
  · rw [if_pos c5] at K hs
    refine z_go2 M.1 8 [(.iconst 1, 1), (.goto 4, 3)] (13, [(0, z_r 78)], [.inl 1, z_r 78], zW T' G' S n, 0, 0) (by decide +kernel) rfl ⟨trivial, trivial, trivial⟩ ?_
    exact z_lvs (lv' := [(0, z_r 78)]) [0] rfl (t_M_unbulk_j13 M fl hfl S 1 hQ K hs)

-- TrackHouseModel.unite
abbrev rm_M_unite : Room := zr 7
def F_M_unite_L49 (fl : Nat → Nat) (x1 : Int32) (x2 : Int32) (x3 : Int32) : Nat → (Nat → Nat → Int32) → Int32 → ((Nat → Nat → Int32))
  | 0, S, x4 => S
  | f + 1, S, x4 => (if (3 : Int32) ≤ x4 then S else (z_let (F_M_roles S x2 x2 x4 ((S 97 (((3 : Int32) * x2) + x4).toNatClampNeg) ||| (S 97 (((3 : Int32) * x1) + x4).toNatClampNeg))) (fun S89 => ((F_M_unite_L49 fl x1 x2 x3 f) S89 (x4 + 1)))))
def Sf_M_unite_L49 (fl : Nat → Nat) (x1 : Int32) (x2 : Int32) (x3 : Int32) : Nat → (Nat → Nat → Int32) → Int32 → Prop
  | 0, _, _ => False
  | f + 1, S, x4 => (if (3 : Int32) ≤ x4 then True else ((vp_in (((3 : Int32) * x2) + x4) 24) ∧ ((vp_in (((3 : Int32) * x1) + x4) 24) ∧ (Sf_M_roles S x2 x2 x4 ((S 97 (((3 : Int32) * x2) + x4).toNatClampNeg) ||| (S 97 (((3 : Int32) * x1) + x4).toNatClampNeg)) ∧ (z_let (F_M_roles S x2 x2 x4 ((S 97 (((3 : Int32) * x2) + x4).toNatClampNeg) ||| (S 97 (((3 : Int32) * x1) + x4).toNatClampNeg))) (fun S89 => ((Sf_M_unite_L49 fl x1 x2 x3 f) S89 (x4 + 1))))))))
theorem t_M_unite_L49 {X : z_X} {Post : Option z_V → z_W → Prop} (M : z_M X zm_M_unite rm_M_unite Post) {T' : Nat → Nat × Nat} {G' : Nat → Nat → Option Nat} {n : Nat} (fl : Nat → Nat) (hfl : zOK T' G' fl n) {Q : ((Nat → Nat → Int32)) → Prop}  (x1 : Int32) (x2 : Int32) (x3 : Int32) (hE : ∀ (S' : (Nat → Nat → Int32)), Q S' → z_G X zm_M_unite (98, [(0, z_r 78), (1, .inl x1), (2, .inl x2), (3, .inl x3)], [], zW T' G' S' n, 0, 0)) (f : Nat) : ∀ (S : (Nat → Nat → Int32)) (x4 : Int32), Q (F_M_unite_L49 fl x1 x2 x3 f S x4) → Sf_M_unite_L49 fl x1 x2 x3 f S x4 → z_G X zm_M_unite (49, [(0, z_r 78), (1, .inl x1), (2, .inl x2), (3, .inl x3), (4, .inl x4)], [], zW T' G' S n, 0, 0) := by
  induction f with
  | zero => intro S x4 K hs; exact False.elim hs
  | succ f hC =>
    intro S x4 K hs
    rw [F_M_unite_L49] at K
    rw [Sf_M_unite_L49] at hs
    refine z_go2 M.1 49 [(.iload 4, 2), (.iconst 3, 1)] (52, [(0, z_r 78), (1, .inl x1), (2, .inl x2), (3, .inl x3), (4, .inl x4)], [.inl 3, .inl x4], zW T' G' S n, 0, 0) (by decide +kernel) rfl ⟨trivial, trivial, trivial⟩ ?_
    refine z_icmp_ge 98 M.1 (off := 46) (by decide +kernel) (by decide) (fun c52 => ?_) (fun c52 => ?_)
    · rw [if_pos c52] at K hs
      exact z_lvs (lv' := [(0, z_r 78), (1, .inl x1), (2, .inl x2), (3, .inl x3)]) [0, 1, 2, 3] rfl (hE S K)
    · rw [if_neg c52] at K hs
      refine z_go2 M.1 55 [(.aload_n 0, 1), (.iload_n 2, 1), (.iload_n 2, 1), (.iload 4, 2), (.aload_n 0, 1), (.getfield 34, 3), (.getfield 223, 3), (.iconst 3, 1), (.iload_n 2, 1), (.imul, 1), (.iload 4, 2), (.iadd, 1), (.iaload, 1), (.aload_n 0, 1), (.getfield 34, 3), (.getfield 223, 3), (.iconst 3, 1), (.iload_n 1, 1), (.imul, 1), (.iload 4, 2), (.iadd, 1), (.iaload, 1), (.ior, 1)] (89, [(0, z_r 78), (1, .inl x1), (2, .inl x2), (3, .inl x3), (4, .inl x4)], [.inl ((S 97 (((3 : Int32) * x2) + x4).toNatClampNeg) ||| (S 97 (((3 : Int32) * x1) + x4).toNatClampNeg)), .inl x4, .inl x2, .inl x2, z_r 78], zW T' G' S n, 0, 0) (by decide +kernel) rfl ⟨trivial, trivial, trivial, trivial, trivial, rfl, rfl, trivial, trivial, trivial, trivial, trivial, ⟨rfl, hs.1⟩, trivial, rfl, rfl, trivial, trivial, trivial, trivial, trivial, ⟨rfl, hs.2.1⟩, trivial, trivial⟩ ?_
      replace hs := hs.2.2
      refine z_callV M.1 (av := [.inl x2, .inl x2, .inl x4, .inl ((S 97 (((3 : Int32) * x2) + x4).toNatClampNeg) ||| (S 97 (((3 : Int32) * x1) + x4).toNatClampNeg))]) (st := []) (a := 78) (ci := 14) (by decide +kernel) (c_M_roles T' G' S n x2 x2 x4 ((S 97 (((3 : Int32) * x2) + x4).toNatClampNeg) ||| (S 97 (((3 : Int32) * x1) + x4).toNatClampNeg)) hs.1) M.2.1 zl_M_298 zv_M_roles rfl rfl rfl ⟨by decide, by decide, by decide, by decide⟩ rfl (Nat.le_of_ble_eq_true rfl) (fun v w' hv => ?_)
      replace hs := hs.2
      obtain ⟨S89, hF89⟩ : ∃ y, F_M_roles S x2 x2 x4 ((S 97 (((3 : Int32) * x2) + x4).toNatClampNeg) ||| (S 97 (((3 : Int32) * x1) + x4).toNatClampNeg)) = y := ⟨_, rfl⟩
      rw [hF89] at K hv
      try rw [hF89] at hs
      try dsimp only [z_let] at K hs
      obtain ⟨rfl, rfl⟩ := hv
      show z_G X zm_M_unite (92, [(0, z_r 78), (1, .inl x1), (2, .inl x2), (3, .inl x3), (4, .inl x4)], [], zW T' G' S89 n, 0, 0)
      refine z_go2 M.1 92 [(.iinc 4 1, 3), (.goto (-46), 3)] (49, [(4, .inl (x4 + 1)), (0, z_r 78), (1, .inl x1), (2, .inl x2), (3, .inl x3)], [], zW T' G' S89 n, 0, 0) (by decide +kernel) rfl ⟨trivial, trivial, trivial⟩ ?_
      exact z_lvs (lv' := [(0, z_r 78), (1, .inl x1), (2, .inl x2), (3, .inl x3), (4, .inl (x4 + 1))]) [1, 2, 3, 4, 0] rfl (hC S89 (x4 + 1) K hs)
def F_M_unite_l104_149 (fl : Nat → Nat) (rc : (Nat → Nat → Int32) → Int32 → Int32 → (Int32 × (Nat → Nat → Int32))) (S : (Nat → Nat → Int32)) (x1 : Int32) (x2 : Int32) (x3 : Int32) (x5 : Int32) (x6 : Int32) (s0 : Int32) (s1 : Int32) : (Int32 × (Nat → Nat → Int32)) := (if x6 = 0 then (rc S (s1 + s0) (x5 + 1)) else (z_let (F_M_change 86 S 4 x2 x5 0 x2) (fun S168 => (rc S168 (s1 + s0) (x5 + 1)))))
def Sf_M_unite_l104_149 (fl : Nat → Nat) (rc : (Nat → Nat → Int32) → Int32 → Int32 → (Int32 × (Nat → Nat → Int32))) (sr : (Nat → Nat → Int32) → Int32 → Int32 → Prop) (S : (Nat → Nat → Int32)) (x1 : Int32) (x2 : Int32) (x3 : Int32) (x5 : Int32) (x6 : Int32) (s0 : Int32) (s1 : Int32) : Prop := (if x6 = 0 then (sr S (s1 + s0) (x5 + 1)) else (Sf_M_change 86 S 4 x2 x5 0 x2 ∧ (z_let (F_M_change 86 S 4 x2 x5 0 x2) (fun S168 => (sr S168 (s1 + s0) (x5 + 1))))))
theorem t_M_unite_l104_149 {X : z_X} {Post : Option z_V → z_W → Prop} (M : z_M X zm_M_unite rm_M_unite Post) {T' : Nat → Nat × Nat} {G' : Nat → Nat → Option Nat} {n : Nat} (fl : Nat → Nat) (hfl : zOK T' G' fl n) {Q : (Int32 × (Nat → Nat → Int32)) → Prop} (rc : (Nat → Nat → Int32) → Int32 → Int32 → (Int32 × (Nat → Nat → Int32))) (sr : (Nat → Nat → Int32) → Int32 → Int32 → Prop) (S : (Nat → Nat → Int32)) (x1 : Int32) (x2 : Int32) (x3 : Int32) (x5 : Int32) (x6 : Int32) (s0 : Int32) (s1 : Int32) (hE : ∀ (y4 : Int32) (S' : (Nat → Nat → Int32)), Q (y4, S') → z_G X zm_M_unite (177, [(0, z_r 78), (1, .inl x1), (2, .inl x2), (3, .inl x3), (4, .inl y4)], [], zW T' G' S' n, 0, 0)) (hC : ∀ (S : (Nat → Nat → Int32)) (x4 : Int32) (x5 : Int32), Q (rc S x4 x5) → sr S x4 x5 → z_G X zm_M_unite (104, [(0, z_r 78), (1, .inl x1), (2, .inl x2), (3, .inl x3), (4, .inl x4), (5, .inl x5)], [], zW T' G' S n, 0, 0)) (K : Q (F_M_unite_l104_149 fl rc S x1 x2 x3 x5 x6 s0 s1)) (hs : Sf_M_unite_l104_149 fl rc sr S x1 x2 x3 x5 x6 s0 s1) : z_G X zm_M_unite (149, [(0, z_r 78), (1, .inl x1), (2, .inl x2), (3, .inl x3), (5, .inl x5), (6, .inl x6)], [.inl s0, .inl s1], zW T' G' S n, 0, 0) := by
  unfold F_M_unite_l104_149 at K
  unfold Sf_M_unite_l104_149 at hs
  refine z_go2 M.1 149 [(.iadd, 1), (.istore 4, 2), (.iload 6, 2)] (154, [(4, .inl (s1 + s0)), (0, z_r 78), (1, .inl x1), (2, .inl x2), (3, .inl x3), (5, .inl x5), (6, .inl x6)], [.inl x6], zW T' G' S n, 0, 0) (by decide +kernel) rfl ⟨trivial, trivial, trivial, trivial⟩ ?_
  refine z_if_eq 171 M.1 (off := 17) (by decide +kernel) (by decide) (fun c154 => ?_) (fun c154 => ?_)
  · rw [if_pos c154] at K hs
    refine z_go2 M.1 171 [(.iinc 5 1, 3), (.goto (-70), 3)] (104, [(5, .inl (x5 + 1)), (4, .inl (s1 + s0)), (0, z_r 78), (1, .inl x1), (2, .inl x2), (3, .inl x3), (6, .inl x6)], [], zW T' G' S n, 0, 0) (by decide +kernel) rfl ⟨trivial, trivial, trivial⟩ ?_
    exact z_lvs (lv' := [(0, z_r 78), (1, .inl x1), (2, .inl x2), (3, .inl x3), (4, .inl (s1 + s0)), (5, .inl (x5 + 1))]) [2, 3, 4, 5, 1, 0] rfl (hC S (s1 + s0) (x5 + 1) K hs)
  · rw [if_neg c154] at K hs
    refine z_go2 M.1 157 [(.aload_n 0, 1), (.aload_n 0, 1), (.getfield 34, 3), (.iconst 4, 1), (.iload_n 2, 1), (.iload 5, 2), (.iconst 0, 1), (.iload_n 2, 1)] (168, [(4, .inl (s1 + s0)), (0, z_r 78), (1, .inl x1), (2, .inl x2), (3, .inl x3), (5, .inl x5), (6, .inl x6)], [.inl x2, .inl 0, .inl x5, .inl x2, .inl 4, z_r 86, z_r 78], zW T' G' S n, 0, 0) (by decide +kernel) rfl ⟨trivial, trivial, rfl, trivial, trivial, trivial, trivial, trivial, trivial⟩ ?_
    refine z_callV M.1 (av := [z_r 86, .inl 4, .inl x2, .inl x5, .inl 0, .inl x2]) (st := []) (a := 78) (ci := 14) (by decide +kernel) (c_M_change_86 T' G' S n 4 x2 x5 0 x2 hs.1) M.2.1 zl_M_259 zv_M_change rfl rfl rfl ⟨by decide, by decide, by decide, by decide⟩ rfl (Nat.le_of_ble_eq_true rfl) (fun v w' hv => ?_)
    replace hs := hs.2
    obtain ⟨S168, hF168⟩ : ∃ y, F_M_change 86 S 4 x2 x5 0 x2 = y := ⟨_, rfl⟩
    rw [hF168] at K hv
    try rw [hF168] at hs
    try dsimp only [z_let] at K hs
    obtain ⟨rfl, rfl⟩ := hv
    show z_G X zm_M_unite (171, [(4, .inl (s1 + s0)), (0, z_r 78), (1, .inl x1), (2, .inl x2), (3, .inl x3), (5, .inl x5), (6, .inl x6)], [], zW T' G' S168 n, 0, 0)
    refine z_go2 M.1 171 [(.iinc 5 1, 3), (.goto (-70), 3)] (104, [(5, .inl (x5 + 1)), (4, .inl (s1 + s0)), (0, z_r 78), (1, .inl x1), (2, .inl x2), (3, .inl x3), (6, .inl x6)], [], zW T' G' S168 n, 0, 0) (by decide +kernel) rfl ⟨trivial, trivial, trivial⟩ ?_
    exact z_lvs (lv' := [(0, z_r 78), (1, .inl x1), (2, .inl x2), (3, .inl x3), (4, .inl (s1 + s0)), (5, .inl (x5 + 1))]) [2, 3, 4, 5, 1, 0] rfl (hC S168 (s1 + s0) (x5 + 1) K hs)
def F_M_unite_l104_135 (fl : Nat → Nat) (rc : (Nat → Nat → Int32) → Int32 → Int32 → (Int32 × (Nat → Nat → Int32))) (S : (Nat → Nat → Int32)) (x1 : Int32) (x2 : Int32) (x3 : Int32) (x4 : Int32) (x5 : Int32) (s0 : Int32) : (Int32 × (Nat → Nat → Int32)) := (if s0 = 0 then (F_M_unite_l104_149 fl rc S x1 x2 x3 x5 s0 0 x4) else (F_M_unite_l104_149 fl rc S x1 x2 x3 x5 s0 1 x4))
def Sf_M_unite_l104_135 (fl : Nat → Nat) (rc : (Nat → Nat → Int32) → Int32 → Int32 → (Int32 × (Nat → Nat → Int32))) (sr : (Nat → Nat → Int32) → Int32 → Int32 → Prop) (S : (Nat → Nat → Int32)) (x1 : Int32) (x2 : Int32) (x3 : Int32) (x4 : Int32) (x5 : Int32) (s0 : Int32) : Prop := (if s0 = 0 then (Sf_M_unite_l104_149 fl rc sr S x1 x2 x3 x5 s0 0 x4) else (Sf_M_unite_l104_149 fl rc sr S x1 x2 x3 x5 s0 1 x4))
theorem t_M_unite_l104_135 {X : z_X} {Post : Option z_V → z_W → Prop} (M : z_M X zm_M_unite rm_M_unite Post) {T' : Nat → Nat × Nat} {G' : Nat → Nat → Option Nat} {n : Nat} (fl : Nat → Nat) (hfl : zOK T' G' fl n) {Q : (Int32 × (Nat → Nat → Int32)) → Prop} (rc : (Nat → Nat → Int32) → Int32 → Int32 → (Int32 × (Nat → Nat → Int32))) (sr : (Nat → Nat → Int32) → Int32 → Int32 → Prop) (S : (Nat → Nat → Int32)) (x1 : Int32) (x2 : Int32) (x3 : Int32) (x4 : Int32) (x5 : Int32) (s0 : Int32) (hE : ∀ (y4 : Int32) (S' : (Nat → Nat → Int32)), Q (y4, S') → z_G X zm_M_unite (177, [(0, z_r 78), (1, .inl x1), (2, .inl x2), (3, .inl x3), (4, .inl y4)], [], zW T' G' S' n, 0, 0)) (hC : ∀ (S : (Nat → Nat → Int32)) (x4 : Int32) (x5 : Int32), Q (rc S x4 x5) → sr S x4 x5 → z_G X zm_M_unite (104, [(0, z_r 78), (1, .inl x1), (2, .inl x2), (3, .inl x3), (4, .inl x4), (5, .inl x5)], [], zW T' G' S n, 0, 0)) (K : Q (F_M_unite_l104_135 fl rc S x1 x2 x3 x4 x5 s0)) (hs : Sf_M_unite_l104_135 fl rc sr S x1 x2 x3 x4 x5 s0) : z_G X zm_M_unite (135, [(0, z_r 78), (1, .inl x1), (2, .inl x2), (3, .inl x3), (4, .inl x4), (5, .inl x5)], [.inl s0], zW T' G' S n, 0, 0) := by
  unfold F_M_unite_l104_135 at K
  unfold Sf_M_unite_l104_135 at hs
  refine z_go2 M.1 135 [(.istore 6, 2), (.iload 4, 2), (.iload 6, 2)] (141, [(6, .inl s0), (0, z_r 78), (1, .inl x1), (2, .inl x2), (3, .inl x3), (4, .inl x4), (5, .inl x5)], [.inl s0, .inl x4], zW T' G' S n, 0, 0) (by decide +kernel) rfl ⟨trivial, trivial, trivial, trivial⟩ ?_
  refine z_if_eq 148 M.1 (off := 7) (by decide +kernel) (by decide) (fun c141 => ?_) (fun c141 => ?_)
  · rw [if_pos c141] at K hs
    refine z_go2 M.1 148 [(.iconst 0, 1)] (149, [(6, .inl s0), (0, z_r 78), (1, .inl x1), (2, .inl x2), (3, .inl x3), (4, .inl x4), (5, .inl x5)], [.inl 0, .inl x4], zW T' G' S n, 0, 0) (by decide +kernel) rfl ⟨trivial, trivial⟩ ?_
    exact z_lvs (lv' := [(0, z_r 78), (1, .inl x1), (2, .inl x2), (3, .inl x3), (5, .inl x5), (6, .inl s0)]) [1, 2, 3, 4, 6, 0] rfl (t_M_unite_l104_149 M fl hfl rc sr S x1 x2 x3 x5 s0 0 x4 hE hC K hs)
  · rw [if_neg c141] at K hs
    refine z_go2 M.1 144 [(.iconst 1, 1), (.goto 4, 3)] (149, [(6, .inl s0), (0, z_r 78), (1, .inl x1), (2, .inl x2), (3, .inl x3), (4, .inl x4), (5, .inl x5)], [.inl 1, .inl x4], zW T' G' S n, 0, 0) (by decide +kernel) rfl ⟨trivial, trivial, trivial⟩ ?_
    exact z_lvs (lv' := [(0, z_r 78), (1, .inl x1), (2, .inl x2), (3, .inl x3), (5, .inl x5), (6, .inl s0)]) [1, 2, 3, 4, 6, 0] rfl (t_M_unite_l104_149 M fl hfl rc sr S x1 x2 x3 x5 s0 1 x4 hE hC K hs)
def F_M_unite_L104 (fl : Nat → Nat) (x1 : Int32) (x2 : Int32) (x3 : Int32) : Nat → (Nat → Nat → Int32) → Int32 → Int32 → (Int32 × (Nat → Nat → Int32))
  | 0, S, x4, x5 => (x4, S)
  | f + 1, S, x4, x5 => (if (S 86 0) ≤ x5 then (x4, S) else (if (S 91 (x5).toNatClampNeg) = x1 then (F_M_unite_l104_135 fl (F_M_unite_L104 fl x1 x2 x3 f) S x1 x2 x3 x4 x5 1) else (F_M_unite_l104_135 fl (F_M_unite_L104 fl x1 x2 x3 f) S x1 x2 x3 x4 x5 0)))
def Sf_M_unite_L104 (fl : Nat → Nat) (x1 : Int32) (x2 : Int32) (x3 : Int32) : Nat → (Nat → Nat → Int32) → Int32 → Int32 → Prop
  | 0, _, _, _ => False
  | f + 1, S, x4, x5 => (if (S 86 0) ≤ x5 then True else ((vp_in x5 30) ∧ (if (S 91 (x5).toNatClampNeg) = x1 then (Sf_M_unite_l104_135 fl (F_M_unite_L104 fl x1 x2 x3 f) (Sf_M_unite_L104 fl x1 x2 x3 f) S x1 x2 x3 x4 x5 1) else (Sf_M_unite_l104_135 fl (F_M_unite_L104 fl x1 x2 x3 f) (Sf_M_unite_L104 fl x1 x2 x3 f) S x1 x2 x3 x4 x5 0))))
theorem t_M_unite_L104 {X : z_X} {Post : Option z_V → z_W → Prop} (M : z_M X zm_M_unite rm_M_unite Post) {T' : Nat → Nat × Nat} {G' : Nat → Nat → Option Nat} {n : Nat} (fl : Nat → Nat) (hfl : zOK T' G' fl n) {Q : (Int32 × (Nat → Nat → Int32)) → Prop}  (x1 : Int32) (x2 : Int32) (x3 : Int32) (hE : ∀ (y4 : Int32) (S' : (Nat → Nat → Int32)), Q (y4, S') → z_G X zm_M_unite (177, [(0, z_r 78), (1, .inl x1), (2, .inl x2), (3, .inl x3), (4, .inl y4)], [], zW T' G' S' n, 0, 0)) (f : Nat) : ∀ (S : (Nat → Nat → Int32)) (x4 : Int32) (x5 : Int32), Q (F_M_unite_L104 fl x1 x2 x3 f S x4 x5) → Sf_M_unite_L104 fl x1 x2 x3 f S x4 x5 → z_G X zm_M_unite (104, [(0, z_r 78), (1, .inl x1), (2, .inl x2), (3, .inl x3), (4, .inl x4), (5, .inl x5)], [], zW T' G' S n, 0, 0) := by
  induction f with
  | zero => intro S x4 x5 K hs; exact False.elim hs
  | succ f hC =>
    intro S x4 x5 K hs
    rw [F_M_unite_L104] at K
    rw [Sf_M_unite_L104] at hs
    refine z_go2 M.1 104 [(.iload 5, 2), (.aload_n 0, 1), (.getfield 34, 3), (.getfield 330, 3)] (113, [(0, z_r 78), (1, .inl x1), (2, .inl x2), (3, .inl x3), (4, .inl x4), (5, .inl x5)], [.inl (S 86 0), .inl x5], zW T' G' S n, 0, 0) (by decide +kernel) rfl ⟨trivial, trivial, rfl, rfl, trivial⟩ ?_
    refine z_icmp_ge 177 M.1 (off := 64) (by decide +kernel) (by decide) (fun c113 => ?_) (fun c113 => ?_)
    · rw [if_pos c113] at K hs
      exact z_lvs (lv' := [(0, z_r 78), (1, .inl x1), (2, .inl x2), (3, .inl x3), (4, .inl x4)]) [0, 1, 2, 3, 4] rfl (hE x4 S K)
    · rw [if_neg c113] at K hs
      refine z_go2 M.1 116 [(.aload_n 0, 1), (.getfield 34, 3), (.getfield 204, 3), (.iload 5, 2), (.iaload, 1), (.iload_n 1, 1)] (127, [(0, z_r 78), (1, .inl x1), (2, .inl x2), (3, .inl x3), (4, .inl x4), (5, .inl x5)], [.inl x1, .inl (S 91 (x5).toNatClampNeg)], zW T' G' S n, 0, 0) (by decide +kernel) rfl ⟨trivial, rfl, rfl, trivial, ⟨rfl, hs.1⟩, trivial, trivial⟩ ?_
      replace hs := hs.2
      refine z_icmp_ne 134 M.1 (off := 7) (by decide +kernel) (by decide) (fun c127 => ?_) (fun c127 => ?_)
      · rw [if_neg c127] at K hs
        refine z_go2 M.1 134 [(.iconst 0, 1)] (135, [(0, z_r 78), (1, .inl x1), (2, .inl x2), (3, .inl x3), (4, .inl x4), (5, .inl x5)], [.inl 0], zW T' G' S n, 0, 0) (by decide +kernel) rfl ⟨trivial, trivial⟩ ?_
        exact z_lvs (lv' := [(0, z_r 78), (1, .inl x1), (2, .inl x2), (3, .inl x3), (4, .inl x4), (5, .inl x5)]) [0, 1, 2, 3, 4, 5] rfl (t_M_unite_l104_135 M fl hfl (F_M_unite_L104 fl x1 x2 x3 f) (Sf_M_unite_L104 fl x1 x2 x3 f) S x1 x2 x3 x4 x5 0 hE hC K hs)
      · rw [if_pos c127] at K hs
        refine z_go2 M.1 130 [(.iconst 1, 1), (.goto 4, 3)] (135, [(0, z_r 78), (1, .inl x1), (2, .inl x2), (3, .inl x3), (4, .inl x4), (5, .inl x5)], [.inl 1], zW T' G' S n, 0, 0) (by decide +kernel) rfl ⟨trivial, trivial, trivial⟩ ?_
        exact z_lvs (lv' := [(0, z_r 78), (1, .inl x1), (2, .inl x2), (3, .inl x3), (4, .inl x4), (5, .inl x5)]) [0, 1, 2, 3, 4, 5] rfl (t_M_unite_l104_135 M fl hfl (F_M_unite_L104 fl x1 x2 x3 f) (Sf_M_unite_L104 fl x1 x2 x3 f) S x1 x2 x3 x4 x5 1 hE hC K hs)
def F_M_unite_L180 (fl : Nat → Nat) (x1 : Int32) (x2 : Int32) (x3 : Int32) (x4 : Int32) : Nat → (Nat → Nat → Int32) → Int32 → ((Nat → Nat → Int32))
  | 0, S, x5 => S
  | f + 1, S, x5 => (if (3 : Int32) ≤ x5 then S else (z_let (F_M_roles S x2 x1 x5 0) (fun S192 => ((F_M_unite_L180 fl x1 x2 x3 x4 f) S192 (x5 + 1)))))
def Sf_M_unite_L180 (fl : Nat → Nat) (x1 : Int32) (x2 : Int32) (x3 : Int32) (x4 : Int32) : Nat → (Nat → Nat → Int32) → Int32 → Prop
  | 0, _, _ => False
  | f + 1, S, x5 => (if (3 : Int32) ≤ x5 then True else (Sf_M_roles S x2 x1 x5 0 ∧ (z_let (F_M_roles S x2 x1 x5 0) (fun S192 => ((Sf_M_unite_L180 fl x1 x2 x3 x4 f) S192 (x5 + 1))))))
theorem t_M_unite_L180 {X : z_X} {Post : Option z_V → z_W → Prop} (M : z_M X zm_M_unite rm_M_unite Post) {T' : Nat → Nat × Nat} {G' : Nat → Nat → Option Nat} {n : Nat} (fl : Nat → Nat) (hfl : zOK T' G' fl n) {Q : ((Nat → Nat → Int32)) → Prop}  (x1 : Int32) (x2 : Int32) (x3 : Int32) (x4 : Int32) (hE : ∀ (S' : (Nat → Nat → Int32)), Q S' → z_G X zm_M_unite (201, [(0, z_r 78), (1, .inl x1), (2, .inl x2), (3, .inl x3), (4, .inl x4)], [], zW T' G' S' n, 0, 0)) (f : Nat) : ∀ (S : (Nat → Nat → Int32)) (x5 : Int32), Q (F_M_unite_L180 fl x1 x2 x3 x4 f S x5) → Sf_M_unite_L180 fl x1 x2 x3 x4 f S x5 → z_G X zm_M_unite (180, [(0, z_r 78), (1, .inl x1), (2, .inl x2), (3, .inl x3), (4, .inl x4), (5, .inl x5)], [], zW T' G' S n, 0, 0) := by
  induction f with
  | zero => intro S x5 K hs; exact False.elim hs
  | succ f hC =>
    intro S x5 K hs
    rw [F_M_unite_L180] at K
    rw [Sf_M_unite_L180] at hs
    refine z_go2 M.1 180 [(.iload 5, 2), (.iconst 3, 1)] (183, [(0, z_r 78), (1, .inl x1), (2, .inl x2), (3, .inl x3), (4, .inl x4), (5, .inl x5)], [.inl 3, .inl x5], zW T' G' S n, 0, 0) (by decide +kernel) rfl ⟨trivial, trivial, trivial⟩ ?_
    refine z_icmp_ge 201 M.1 (off := 18) (by decide +kernel) (by decide) (fun c183 => ?_) (fun c183 => ?_)
    · rw [if_pos c183] at K hs
      exact z_lvs (lv' := [(0, z_r 78), (1, .inl x1), (2, .inl x2), (3, .inl x3), (4, .inl x4)]) [0, 1, 2, 3, 4] rfl (hE S K)
    · rw [if_neg c183] at K hs
      refine z_go2 M.1 186 [(.aload_n 0, 1), (.iload_n 2, 1), (.iload_n 1, 1), (.iload 5, 2), (.iconst 0, 1)] (192, [(0, z_r 78), (1, .inl x1), (2, .inl x2), (3, .inl x3), (4, .inl x4), (5, .inl x5)], [.inl 0, .inl x5, .inl x1, .inl x2, z_r 78], zW T' G' S n, 0, 0) (by decide +kernel) rfl ⟨trivial, trivial, trivial, trivial, trivial, trivial⟩ ?_
      refine z_callV M.1 (av := [.inl x2, .inl x1, .inl x5, .inl 0]) (st := []) (a := 78) (ci := 14) (by decide +kernel) (c_M_roles T' G' S n x2 x1 x5 0 hs.1) M.2.1 zl_M_298 zv_M_roles rfl rfl rfl ⟨by decide, by decide, by decide, by decide⟩ rfl (Nat.le_of_ble_eq_true rfl) (fun v w' hv => ?_)
      replace hs := hs.2
      obtain ⟨S192, hF192⟩ : ∃ y, F_M_roles S x2 x1 x5 0 = y := ⟨_, rfl⟩
      rw [hF192] at K hv
      try rw [hF192] at hs
      try dsimp only [z_let] at K hs
      obtain ⟨rfl, rfl⟩ := hv
      show z_G X zm_M_unite (195, [(0, z_r 78), (1, .inl x1), (2, .inl x2), (3, .inl x3), (4, .inl x4), (5, .inl x5)], [], zW T' G' S192 n, 0, 0)
      refine z_go2 M.1 195 [(.iinc 5 1, 3), (.goto (-18), 3)] (180, [(5, .inl (x5 + 1)), (0, z_r 78), (1, .inl x1), (2, .inl x2), (3, .inl x3), (4, .inl x4)], [], zW T' G' S192 n, 0, 0) (by decide +kernel) rfl ⟨trivial, trivial, trivial⟩ ?_
      exact z_lvs (lv' := [(0, z_r 78), (1, .inl x1), (2, .inl x2), (3, .inl x3), (4, .inl x4), (5, .inl (x5 + 1))]) [1, 2, 3, 4, 5, 0] rfl (hC S192 (x5 + 1) K hs)
def F_M_unite_L231 (fl : Nat → Nat) (x1 : Int32) (x2 : Int32) (x4 : Int32) : Nat → (Nat → Nat → Int32) → Int32 → ((Nat → Nat → Int32))
  | 0, S, x5 => S
  | f + 1, S, x5 => (if (30 : Int32) ≤ x5 then S else ((F_M_unite_L231 fl x1 x2 x4 f) (z_uS S 183 (((30 : Int32) * x2) + x5).toNatClampNeg (vp_nar .boolean ((S 183 (((30 : Int32) * x2) + x5).toNatClampNeg) ||| (S 183 (((30 : Int32) * x1) + x5).toNatClampNeg)))) (x5 + 1)))
def Sf_M_unite_L231 (fl : Nat → Nat) (x1 : Int32) (x2 : Int32) (x4 : Int32) : Nat → (Nat → Nat → Int32) → Int32 → Prop
  | 0, _, _ => False
  | f + 1, S, x5 => (if (30 : Int32) ≤ x5 then True else ((vp_in (((30 : Int32) * x2) + x5) 240) ∧ ((vp_in (((30 : Int32) * x1) + x5) 240) ∧ ((vp_in (((30 : Int32) * x2) + x5) 240) ∧ ((Sf_M_unite_L231 fl x1 x2 x4 f) (z_uS S 183 (((30 : Int32) * x2) + x5).toNatClampNeg (vp_nar .boolean ((S 183 (((30 : Int32) * x2) + x5).toNatClampNeg) ||| (S 183 (((30 : Int32) * x1) + x5).toNatClampNeg)))) (x5 + 1))))))
theorem t_M_unite_L231 {X : z_X} {Post : Option z_V → z_W → Prop} (M : z_M X zm_M_unite rm_M_unite Post) {T' : Nat → Nat × Nat} {G' : Nat → Nat → Option Nat} {n : Nat} (fl : Nat → Nat) (hfl : zOK T' G' fl n) {Q : ((Nat → Nat → Int32)) → Prop}  (x1 : Int32) (x2 : Int32) (x4 : Int32) (hE : ∀ (S' : (Nat → Nat → Int32)), Q S' → z_G X zm_M_unite (271, [(4, .inl x4)], [], zW T' G' S' n, 0, 0)) (f : Nat) : ∀ (S : (Nat → Nat → Int32)) (x5 : Int32), Q (F_M_unite_L231 fl x1 x2 x4 f S x5) → Sf_M_unite_L231 fl x1 x2 x4 f S x5 → z_G X zm_M_unite (231, [(0, z_r 78), (1, .inl x1), (2, .inl x2), (4, .inl x4), (5, .inl x5)], [], zW T' G' S n, 0, 0) := by
  induction f with
  | zero => intro S x5 K hs; exact False.elim hs
  | succ f hC =>
    intro S x5 K hs
    rw [F_M_unite_L231] at K
    rw [Sf_M_unite_L231] at hs
    refine z_go2 M.1 231 [(.iload 5, 2), (.bipush 30, 2)] (235, [(0, z_r 78), (1, .inl x1), (2, .inl x2), (4, .inl x4), (5, .inl x5)], [.inl 30, .inl x5], zW T' G' S n, 0, 0) (by decide +kernel) rfl ⟨trivial, trivial, trivial⟩ ?_
    refine z_icmp_ge 271 M.1 (off := 36) (by decide +kernel) (by decide) (fun c235 => ?_) (fun c235 => ?_)
    · rw [if_pos c235] at K hs
      exact z_lvs (lv' := [(4, .inl x4)]) [3] rfl (hE S K)
    · rw [if_neg c235] at K hs
      refine z_go2 M.1 238 [(.aload_n 0, 1), (.getfield 143, 3), (.bipush 30, 2), (.iload_n 2, 1), (.imul, 1), (.iload 5, 2), (.iadd, 1), (.dup2, 1), (.baload, 1), (.aload_n 0, 1), (.getfield 143, 3), (.bipush 30, 2), (.iload_n 1, 1), (.imul, 1), (.iload 5, 2), (.iadd, 1), (.baload, 1), (.ior, 1), (.bastore, 1), (.iinc 5 1, 3), (.goto (-37), 3)] (231, [(5, .inl (x5 + 1)), (0, z_r 78), (1, .inl x1), (2, .inl x2), (4, .inl x4)], [], zW T' G' (z_uS S 183 (((30 : Int32) * x2) + x5).toNatClampNeg (vp_nar .boolean ((S 183 (((30 : Int32) * x2) + x5).toNatClampNeg) ||| (S 183 (((30 : Int32) * x1) + x5).toNatClampNeg)))) n, 0, 0) (by decide +kernel) rfl ⟨trivial, rfl, trivial, trivial, trivial, trivial, trivial, ⟨rfl, rfl⟩, ⟨rfl, hs.1⟩, trivial, rfl, trivial, trivial, trivial, trivial, trivial, ⟨rfl, hs.2.1⟩, trivial, ⟨rfl, hs.2.2.1⟩, trivial, trivial, trivial⟩ ?_
      replace hs := hs.2.2.2
      exact z_lvs (lv' := [(0, z_r 78), (1, .inl x1), (2, .inl x2), (4, .inl x4), (5, .inl (x5 + 1))]) [1, 2, 3, 4, 0] rfl (hC (z_uS S 183 (((30 : Int32) * x2) + x5).toNatClampNeg (vp_nar .boolean ((S 183 (((30 : Int32) * x2) + x5).toNatClampNeg) ||| (S 183 (((30 : Int32) * x1) + x5).toNatClampNeg)))) (x5 + 1) K hs)
def F_M_unite_j216 (fl : Nat → Nat) (S : (Nat → Nat → Int32)) (x1 : Int32) (x2 : Int32) (x4 : Int32) (s0 : Int32) : (Int32 × (Nat → Nat → Int32)) := (if s0 ≤ 0 then (match F_M_unite_L231 fl x1 x2 x4 1300 (z_uS S 78 0 s0) 0 with | S231 => (x4, S231)) else (0, (z_uS S 78 0 s0)))
def Sf_M_unite_j216 (fl : Nat → Nat) (S : (Nat → Nat → Int32)) (x1 : Int32) (x2 : Int32) (x4 : Int32) (s0 : Int32) : Prop := (if s0 ≤ 0 then (Sf_M_unite_L231 fl x1 x2 x4 1300 (z_uS S 78 0 s0) 0 ∧ True) else True)
theorem t_M_unite_j216 {X : z_X} {Post : Option z_V → z_W → Prop} (M : z_M X zm_M_unite rm_M_unite Post) {T' : Nat → Nat × Nat} {G' : Nat → Nat → Option Nat} {n : Nat} (fl : Nat → Nat) (hfl : zOK T' G' fl n) {Q : (Int32 × (Nat → Nat → Int32)) → Prop} (S : (Nat → Nat → Int32)) (x1 : Int32) (x2 : Int32) (x4 : Int32) (s0 : Int32) (hQ : ∀ v S', Q (v, S') → Post (some (.inl v)) (zW T' G' S' n)) (K : Q (F_M_unite_j216 fl S x1 x2 x4 s0)) (hs : Sf_M_unite_j216 fl S x1 x2 x4 s0) : z_G X zm_M_unite (216, [(0, z_r 78), (1, .inl x1), (2, .inl x2), (4, .inl x4)], [.inl s0, z_r 78], zW T' G' S n, 0, 0) := by
  unfold F_M_unite_j216 at K
  unfold Sf_M_unite_j216 at hs
  refine z_go2 M.1 216 [(.putfield 175, 3), (.aload_n 0, 1), (.getfield 175, 3)] (223, [(0, z_r 78), (1, .inl x1), (2, .inl x2), (4, .inl x4)], [.inl s0], zW T' G' (z_uS S 78 0 s0) n, 0, 0) (by decide +kernel) rfl ⟨⟨rfl, trivial⟩, trivial, rfl, trivial⟩ ?_
  refine z_if_le 228 M.1 (off := 5) (by decide +kernel) (by decide) (fun c223 => ?_) (fun c223 => ?_)
  · rw [if_pos c223] at K hs
    refine z_go2 M.1 228 [(.iconst 0, 1), (.istore 5, 2)] (231, [(5, .inl 0), (0, z_r 78), (1, .inl x1), (2, .inl x2), (4, .inl x4)], [], zW T' G' (z_uS S 78 0 s0) n, 0, 0) (by decide +kernel) rfl ⟨trivial, trivial, trivial⟩ ?_
    refine z_lvs (lv' := [(0, z_r 78), (1, .inl x1), (2, .inl x2), (4, .inl x4), (5, .inl 0)]) [1, 2, 3, 4, 0] rfl ?_
    refine t_M_unite_L231 M fl hfl (Q := fun o => F_M_unite_L231 fl x1 x2 x4 1300 (z_uS S 78 0 s0) 0 = o) x1 x2 x4 (fun S231 hL231 => ?_) 1300 (z_uS S 78 0 s0) 0 rfl hs.1
    replace hs := hs.2
    rw [hL231] at K
    try dsimp only at K
    refine z_go2 M.1 271 [(.iload 4, 2)] (273, [(4, .inl x4)], [.inl x4], zW T' G' S231 n, 0, 0) (by decide +kernel) rfl ⟨trivial, trivial⟩ ?_
    exact z_iret M (by decide +kernel) .int rfl rfl (by decide) (by decide) (hQ _ _ K)
  · rw [if_neg c223] at K hs
    refine z_go2 M.1 226 [(.iconst 0, 1)] (227, [(0, z_r 78), (1, .inl x1), (2, .inl x2), (4, .inl x4)], [.inl 0], zW T' G' (z_uS S 78 0 s0) n, 0, 0) (by decide +kernel) rfl ⟨trivial, trivial⟩ ?_
    exact z_iret M (by decide +kernel) .int rfl rfl (by decide) (by decide) (hQ _ _ K)
def F_M_unite_j29 (fl : Nat → Nat) (S : (Nat → Nat → Int32)) (x1 : Int32) (x2 : Int32) (s0 : Int32) : (Int32 × (Nat → Nat → Int32)) := (if s0 ≤ 0 then (match F_M_unite_L49 fl x1 x2 (S 78 2) 1300 (z_uS S 78 0 s0) 0 with | S49 => (match F_M_unite_L104 fl x1 x2 (S 78 2) 1300 S49 0 0 with | (y4_104, S104) => (match F_M_unite_L180 fl x1 x2 (S 78 2) y4_104 1300 S104 0 with | S180 => (match F_M_stays fl S180 (S 78 2) 1 with | (r205, S205) => (if r205 = 0 then (F_M_unite_j216 fl S205 x1 x2 y4_104 3) else (F_M_unite_j216 fl S205 x1 x2 y4_104 0)))))) else (0, (z_uS S 78 0 s0)))
def Sf_M_unite_j29 (fl : Nat → Nat) (S : (Nat → Nat → Int32)) (x1 : Int32) (x2 : Int32) (s0 : Int32) : Prop := (if s0 ≤ 0 then (Sf_M_unite_L49 fl x1 x2 (S 78 2) 1300 (z_uS S 78 0 s0) 0 ∧ (match F_M_unite_L49 fl x1 x2 (S 78 2) 1300 (z_uS S 78 0 s0) 0 with | S49 => (Sf_M_unite_L104 fl x1 x2 (S 78 2) 1300 S49 0 0 ∧ (match F_M_unite_L104 fl x1 x2 (S 78 2) 1300 S49 0 0 with | (y4_104, S104) => (Sf_M_unite_L180 fl x1 x2 (S 78 2) y4_104 1300 S104 0 ∧ (match F_M_unite_L180 fl x1 x2 (S 78 2) y4_104 1300 S104 0 with | S180 => (Sf_M_stays fl S180 (S 78 2) 1 ∧ (match F_M_stays fl S180 (S 78 2) 1 with | (r205, S205) => (if r205 = 0 then (Sf_M_unite_j216 fl S205 x1 x2 y4_104 3) else (Sf_M_unite_j216 fl S205 x1 x2 y4_104 0)))))))))) else True)
theorem t_M_unite_j29 {X : z_X} {Post : Option z_V → z_W → Prop} (M : z_M X zm_M_unite rm_M_unite Post) {T' : Nat → Nat × Nat} {G' : Nat → Nat → Option Nat} {n : Nat} (fl : Nat → Nat) (hfl : zOK T' G' fl n) {Q : (Int32 × (Nat → Nat → Int32)) → Prop} (S : (Nat → Nat → Int32)) (x1 : Int32) (x2 : Int32) (s0 : Int32) (hQ : ∀ v S', Q (v, S') → Post (some (.inl v)) (zW T' G' S' n)) (K : Q (F_M_unite_j29 fl S x1 x2 s0)) (hs : Sf_M_unite_j29 fl S x1 x2 s0) : z_G X zm_M_unite (29, [(0, z_r 78), (1, .inl x1), (2, .inl x2)], [.inl s0, z_r 78], zW T' G' S n, 0, 0) := by
  unfold F_M_unite_j29 at K
  unfold Sf_M_unite_j29 at hs
  refine z_go2 M.1 29 [(.putfield 175, 3), (.aload_n 0, 1), (.getfield 175, 3)] (36, [(0, z_r 78), (1, .inl x1), (2, .inl x2)], [.inl s0], zW T' G' (z_uS S 78 0 s0) n, 0, 0) (by decide +kernel) rfl ⟨⟨rfl, trivial⟩, trivial, rfl, trivial⟩ ?_
  refine z_if_le 41 M.1 (off := 5) (by decide +kernel) (by decide) (fun c36 => ?_) (fun c36 => ?_)
  · rw [if_pos c36] at K hs
    refine z_go2 M.1 41 [(.aload_n 0, 1), (.getfield 182, 3), (.istore_n 3, 1), (.iconst 0, 1), (.istore 4, 2)] (49, [(4, .inl 0), (3, .inl (S 78 2)), (0, z_r 78), (1, .inl x1), (2, .inl x2)], [], zW T' G' (z_uS S 78 0 s0) n, 0, 0) (by decide +kernel) rfl ⟨trivial, rfl, trivial, trivial, trivial, trivial⟩ ?_
    refine z_lvs (lv' := [(0, z_r 78), (1, .inl x1), (2, .inl x2), (3, .inl (S 78 2)), (4, .inl 0)]) [2, 3, 4, 1, 0] rfl ?_
    refine t_M_unite_L49 M fl hfl (Q := fun o => F_M_unite_L49 fl x1 x2 (S 78 2) 1300 (z_uS S 78 0 s0) 0 = o) x1 x2 (S 78 2) (fun S49 hL49 => ?_) 1300 (z_uS S 78 0 s0) 0 rfl hs.1
    replace hs := hs.2
    rw [hL49] at K
    try rw [hL49] at hs
    try dsimp only at K hs
    refine z_go2 M.1 98 [(.iconst 0, 1), (.istore 4, 2), (.iconst 0, 1), (.istore 5, 2)] (104, [(5, .inl 0), (4, .inl 0), (0, z_r 78), (1, .inl x1), (2, .inl x2), (3, .inl (S 78 2))], [], zW T' G' S49 n, 0, 0) (by decide +kernel) rfl ⟨trivial, trivial, trivial, trivial, trivial⟩ ?_
    refine z_lvs (lv' := [(0, z_r 78), (1, .inl x1), (2, .inl x2), (3, .inl (S 78 2)), (4, .inl 0), (5, .inl 0)]) [2, 3, 4, 5, 1, 0] rfl ?_
    refine t_M_unite_L104 M fl hfl (Q := fun o => F_M_unite_L104 fl x1 x2 (S 78 2) 1300 S49 0 0 = o) x1 x2 (S 78 2) (fun y4_104 S104 hL104 => ?_) 1300 S49 0 0 rfl hs.1
    replace hs := hs.2
    rw [hL104] at K
    try rw [hL104] at hs
    try dsimp only at K hs
    refine z_go2 M.1 177 [(.iconst 0, 1), (.istore 5, 2)] (180, [(5, .inl 0), (0, z_r 78), (1, .inl x1), (2, .inl x2), (3, .inl (S 78 2)), (4, .inl y4_104)], [], zW T' G' S104 n, 0, 0) (by decide +kernel) rfl ⟨trivial, trivial, trivial⟩ ?_
    refine z_lvs (lv' := [(0, z_r 78), (1, .inl x1), (2, .inl x2), (3, .inl (S 78 2)), (4, .inl y4_104), (5, .inl 0)]) [1, 2, 3, 4, 5, 0] rfl ?_
    refine t_M_unite_L180 M fl hfl (Q := fun o => F_M_unite_L180 fl x1 x2 (S 78 2) y4_104 1300 S104 0 = o) x1 x2 (S 78 2) y4_104 (fun S180 hL180 => ?_) 1300 S104 0 rfl hs.1
    replace hs := hs.2
    rw [hL180] at K
    try rw [hL180] at hs
    try dsimp only at K hs
    refine z_go2 M.1 201 [(.aload_n 0, 1), (.aload_n 0, 1), (.iload_n 3, 1), (.iconst 1, 1)] (205, [(0, z_r 78), (1, .inl x1), (2, .inl x2), (3, .inl (S 78 2)), (4, .inl y4_104)], [.inl 1, .inl (S 78 2), z_r 78, z_r 78], zW T' G' S180 n, 0, 0) (by decide +kernel) rfl ⟨trivial, trivial, trivial, trivial, trivial⟩ ?_
    refine z_callV M.1 (av := [.inl (S 78 2), .inl 1]) (st := [z_r 78]) (a := 78) (ci := 14) (by decide +kernel) (c_M_stays T' G' n fl hfl S180 (S 78 2) 1 hs.1) M.2.1 zl_M_301 zv_M_stays rfl rfl rfl ⟨by decide, by decide, by decide, by decide⟩ rfl (Nat.le_of_ble_eq_true rfl) (fun v w' hv => ?_)
    replace hs := hs.2
    rcases hF205 : F_M_stays fl S180 (S 78 2) 1 with ⟨r205, S205⟩
    rw [hF205] at K hv
    try rw [hF205] at hs
    try dsimp only at K hs
    obtain ⟨rfl, rfl⟩ := hv
    show z_G X zm_M_unite (208, [(0, z_r 78), (1, .inl x1), (2, .inl x2), (3, .inl (S 78 2)), (4, .inl y4_104)], [.inl r205, z_r 78], zW T' G' S205 n, 0, 0)
    refine z_if_eq 215 M.1 (off := 7) (by decide +kernel) (by decide) (fun c208 => ?_) (fun c208 => ?_)
    · rw [if_pos c208] at K hs
      refine z_go2 M.1 215 [(.iconst 3, 1)] (216, [(0, z_r 78), (1, .inl x1), (2, .inl x2), (3, .inl (S 78 2)), (4, .inl y4_104)], [.inl 3, z_r 78], zW T' G' S205 n, 0, 0) (by decide +kernel) rfl ⟨trivial, trivial⟩ ?_
      exact z_lvs (lv' := [(0, z_r 78), (1, .inl x1), (2, .inl x2), (4, .inl y4_104)]) [0, 1, 2, 4] rfl (t_M_unite_j216 M fl hfl S205 x1 x2 y4_104 3 hQ K hs)
    · rw [if_neg c208] at K hs
      refine z_go2 M.1 211 [(.iconst 0, 1), (.goto 4, 3)] (216, [(0, z_r 78), (1, .inl x1), (2, .inl x2), (3, .inl (S 78 2)), (4, .inl y4_104)], [.inl 0, z_r 78], zW T' G' S205 n, 0, 0) (by decide +kernel) rfl ⟨trivial, trivial, trivial⟩ ?_
      exact z_lvs (lv' := [(0, z_r 78), (1, .inl x1), (2, .inl x2), (4, .inl y4_104)]) [0, 1, 2, 4] rfl (t_M_unite_j216 M fl hfl S205 x1 x2 y4_104 0 hQ K hs)
  · rw [if_neg c36] at K hs
    refine z_go2 M.1 39 [(.iconst 0, 1)] (40, [(0, z_r 78), (1, .inl x1), (2, .inl x2)], [.inl 0], zW T' G' (z_uS S 78 0 s0) n, 0, 0) (by decide +kernel) rfl ⟨trivial, trivial⟩ ?_
    exact z_iret M (by decide +kernel) .int rfl rfl (by decide) (by decide) (hQ _ _ K)
def F_M_unite_j15 (fl : Nat → Nat) (S : (Nat → Nat → Int32)) (x1 : Int32) (x2 : Int32) : (Int32 × (Nat → Nat → Int32)) := (F_M_unite_j29 fl S x1 x2 1)
def Sf_M_unite_j15 (fl : Nat → Nat) (S : (Nat → Nat → Int32)) (x1 : Int32) (x2 : Int32) : Prop := (Sf_M_unite_j29 fl S x1 x2 1)
theorem t_M_unite_j15 {X : z_X} {Post : Option z_V → z_W → Prop} (M : z_M X zm_M_unite rm_M_unite Post) {T' : Nat → Nat × Nat} {G' : Nat → Nat → Option Nat} {n : Nat} (fl : Nat → Nat) (hfl : zOK T' G' fl n) {Q : (Int32 × (Nat → Nat → Int32)) → Prop} (S : (Nat → Nat → Int32)) (x1 : Int32) (x2 : Int32) (hQ : ∀ v S', Q (v, S') → Post (some (.inl v)) (zW T' G' S' n)) (K : Q (F_M_unite_j15 fl S x1 x2)) (hs : Sf_M_unite_j15 fl S x1 x2) : z_G X zm_M_unite (15, [(0, z_r 78), (1, .inl x1), (2, .inl x2)], [z_r 78], zW T' G' S n, 0, 0) := by
  unfold F_M_unite_j15 at K
  unfold Sf_M_unite_j15 at hs
  refine z_go2 M.1 15 [(.iconst 1, 1), (.goto 13, 3)] (29, [(0, z_r 78), (1, .inl x1), (2, .inl x2)], [.inl 1, z_r 78], zW T' G' S n, 0, 0) (by decide +kernel) rfl ⟨trivial, trivial, trivial⟩ ?_
  exact z_lvs (lv' := [(0, z_r 78), (1, .inl x1), (2, .inl x2)]) [0, 1, 2] rfl (t_M_unite_j29 M fl hfl S x1 x2 1 hQ K hs)
def F_M_unite (fl : Nat → Nat) (S : (Nat → Nat → Int32)) (p1 : Int32) (p2 : Int32) : (Int32 × (Nat → Nat → Int32)) := (if (F_M_isPerson S p1) = 0 then (F_M_unite_j15 fl S p1 p2) else (if (F_M_isPerson S p2) = 0 then (F_M_unite_j15 fl S p1 p2) else (if p1 = p2 then (F_M_unite_j29 fl S p1 p2 2) else (F_M_unite_j29 fl S p1 p2 0))))
def Sf_M_unite (fl : Nat → Nat) (S : (Nat → Nat → Int32)) (p1 : Int32) (p2 : Int32) : Prop := (Sf_M_isPerson S p1 ∧ (if (F_M_isPerson S p1) = 0 then (Sf_M_unite_j15 fl S p1 p2) else (Sf_M_isPerson S p2 ∧ (if (F_M_isPerson S p2) = 0 then (Sf_M_unite_j15 fl S p1 p2) else (if p1 = p2 then (Sf_M_unite_j29 fl S p1 p2 2) else (Sf_M_unite_j29 fl S p1 p2 0))))))
theorem c_M_unite (T' : Nat → Nat × Nat) (G' : Nat → Nat → Option Nat) (n : Nat) (fl : Nat → Nat) (hfl : zOK T' G' fl n) (S : (Nat → Nat → Int32)) (p1 : Int32) (p2 : Int32) (hs : Sf_M_unite fl S p1 p2) : z_Run rm_M_unite zm_M_unite [z_r 78, .inl p1, .inl p2] (zW T' G' S n) (zq (some (.inl (F_M_unite fl S p1 p2).1)) (zW T' G' (F_M_unite fl S p1 p2).2 n)) := by
  refine z_body (by decide) zf_M_ok (Nat.le_of_ble_eq_true rfl) (fun X M => ?_)
  obtain ⟨Q, hQ, K⟩ : ∃ Q : (Int32 × (Nat → Nat → Int32)) → Prop, (∀ v S', Q (v, S') → zq (some (.inl (F_M_unite fl S p1 p2).1)) (zW T' G' (F_M_unite fl S p1 p2).2 n) (some (.inl v)) (zW T' G' S' n)) ∧ Q (F_M_unite fl S p1 p2) := ⟨fun o => F_M_unite fl S p1 p2 = o, fun v S' h => ⟨by rw [h], by rw [h]⟩, rfl⟩
  show z_G X zm_M_unite (0, [(0, z_r 78), (1, .inl p1), (2, .inl p2)], [], zW T' G' S n, 0, 0)
  unfold F_M_unite at K
  unfold Sf_M_unite at hs
  refine z_go2 M.1 0 [(.aload_n 0, 1), (.iload_n 1, 1)] (2, [(0, z_r 78), (1, .inl p1), (2, .inl p2)], [.inl p1, z_r 78], zW T' G' S n, 0, 0) (by decide +kernel) rfl ⟨trivial, trivial, trivial⟩ ?_
  refine z_callS M.1 (av := [.inl p1]) (st := [z_r 78]) (by decide +kernel) (c_M_isPerson T' G' S n p1 hs.1) M.2.1 zl_M_295 zs_M_isPerson ⟨by decide, by decide, by decide, by decide⟩ rfl (Nat.le_of_ble_eq_true rfl) (fun v w' hv => ?_)
  obtain ⟨rfl, rfl⟩ := hv
  replace hs := hs.2
  show z_G X zm_M_unite (5, [(0, z_r 78), (1, .inl p1), (2, .inl p2)], [.inl (F_M_isPerson S p1), z_r 78], zW T' G' S n, 0, 0)
  refine z_if_eq 15 M.1 (off := 10) (by decide +kernel) (by decide) (fun c5 => ?_) (fun c5 => ?_)
  · rw [if_pos c5] at K hs
    exact z_lvs (lv' := [(0, z_r 78), (1, .inl p1), (2, .inl p2)]) [0, 1, 2] rfl (t_M_unite_j15 M fl hfl S p1 p2 hQ K hs)
  · rw [if_neg c5] at K hs
    refine z_go2 M.1 8 [(.iload_n 2, 1)] (9, [(0, z_r 78), (1, .inl p1), (2, .inl p2)], [.inl p2, z_r 78], zW T' G' S n, 0, 0) (by decide +kernel) rfl ⟨trivial, trivial⟩ ?_
    refine z_callS M.1 (av := [.inl p2]) (st := [z_r 78]) (by decide +kernel) (c_M_isPerson T' G' S n p2 hs.1) M.2.1 zl_M_295 zs_M_isPerson ⟨by decide, by decide, by decide, by decide⟩ rfl (Nat.le_of_ble_eq_true rfl) (fun v w' hv => ?_)
    obtain ⟨rfl, rfl⟩ := hv
    replace hs := hs.2
    show z_G X zm_M_unite (12, [(0, z_r 78), (1, .inl p1), (2, .inl p2)], [.inl (F_M_isPerson S p2), z_r 78], zW T' G' S n, 0, 0)
    refine z_if_ne 19 M.1 (off := 7) (by decide +kernel) (by decide) (fun c12 => ?_) (fun c12 => ?_)
    · rw [if_neg c12] at K hs
      refine z_go2 M.1 19 [(.iload_n 1, 1), (.iload_n 2, 1)] (21, [(0, z_r 78), (1, .inl p1), (2, .inl p2)], [.inl p2, .inl p1, z_r 78], zW T' G' S n, 0, 0) (by decide +kernel) rfl ⟨trivial, trivial, trivial⟩ ?_
      refine z_icmp_ne 28 M.1 (off := 7) (by decide +kernel) (by decide) (fun c21 => ?_) (fun c21 => ?_)
      · rw [if_neg c21] at K hs
        refine z_go2 M.1 28 [(.iconst 0, 1)] (29, [(0, z_r 78), (1, .inl p1), (2, .inl p2)], [.inl 0, z_r 78], zW T' G' S n, 0, 0) (by decide +kernel) rfl ⟨trivial, trivial⟩ ?_
        exact z_lvs (lv' := [(0, z_r 78), (1, .inl p1), (2, .inl p2)]) [0, 1, 2] rfl (t_M_unite_j29 M fl hfl S p1 p2 0 hQ K hs)
      · rw [if_pos c21] at K hs
        refine z_go2 M.1 24 [(.iconst 2, 1), (.goto 4, 3)] (29, [(0, z_r 78), (1, .inl p1), (2, .inl p2)], [.inl 2, z_r 78], zW T' G' S n, 0, 0) (by decide +kernel) rfl ⟨trivial, trivial, trivial⟩ ?_
        exact z_lvs (lv' := [(0, z_r 78), (1, .inl p1), (2, .inl p2)]) [0, 1, 2] rfl (t_M_unite_j29 M fl hfl S p1 p2 2 hQ K hs)
    · rw [if_pos c12] at K hs
      exact z_lvs (lv' := [(0, z_r 78), (1, .inl p1), (2, .inl p2)]) [0, 1, 2] rfl (t_M_unite_j15 M fl hfl S p1 p2 hQ K hs)

-- TrackHouseModel.watch
abbrev rm_M_watch : Room := zr 3
def F_M_watch_j56 (S : (Nat → Nat → Int32)) (x1 : Int32) (x2 : Int32) (s0 : Int32) (s1 : Int32) : (Int32 × (Nat → Nat → Int32)) := (((z_uS S 183 (s1).toNatClampNeg (vp_nar .boolean s0)) 183 (((30 : Int32) * x1) + x2).toNatClampNeg), (z_uS S 183 (s1).toNatClampNeg (vp_nar .boolean s0)))
def Sf_M_watch_j56 (S : (Nat → Nat → Int32)) (x1 : Int32) (x2 : Int32) (s0 : Int32) (s1 : Int32) : Prop := ((vp_in s1 240) ∧ ((vp_in (((30 : Int32) * x1) + x2) 240) ∧ (narrow .boolean (.int ((z_uS S 183 (s1).toNatClampNeg (vp_nar .boolean s0)) 183 (((30 : Int32) * x1) + x2).toNatClampNeg)) = .int ((z_uS S 183 (s1).toNatClampNeg (vp_nar .boolean s0)) 183 (((30 : Int32) * x1) + x2).toNatClampNeg) ∧ True)))
theorem t_M_watch_j56 {X : z_X} {Post : Option z_V → z_W → Prop} (M : z_M X zm_M_watch rm_M_watch Post) {T' : Nat → Nat × Nat} {G' : Nat → Nat → Option Nat} {n : Nat} {Q : (Int32 × (Nat → Nat → Int32)) → Prop} (S : (Nat → Nat → Int32)) (x1 : Int32) (x2 : Int32) (s0 : Int32) (s1 : Int32) (hQ : ∀ v S', Q (v, S') → Post (some (.inl v)) (zW T' G' S' n)) (K : Q (F_M_watch_j56 S x1 x2 s0 s1)) (hs : Sf_M_watch_j56 S x1 x2 s0 s1) : z_G X zm_M_watch (56, [(0, z_r 78), (1, .inl x1), (2, .inl x2)], [.inl s0, .inl s1, z_r 183], zW T' G' S n, 0, 0) := by
  unfold F_M_watch_j56 at K
  unfold Sf_M_watch_j56 at hs
  refine z_go2 M.1 56 [(.bastore, 1), (.aload_n 0, 1), (.getfield 143, 3), (.bipush 30, 2), (.iload_n 1, 1), (.imul, 1), (.iload_n 2, 1), (.iadd, 1), (.baload, 1)] (68, [(0, z_r 78), (1, .inl x1), (2, .inl x2)], [.inl ((z_uS S 183 (s1).toNatClampNeg (vp_nar .boolean s0)) 183 (((30 : Int32) * x1) + x2).toNatClampNeg)], zW T' G' (z_uS S 183 (s1).toNatClampNeg (vp_nar .boolean s0)) n, 0, 0) (by decide +kernel) rfl ⟨⟨rfl, hs.1⟩, trivial, rfl, trivial, trivial, trivial, trivial, trivial, ⟨rfl, hs.2.1⟩, trivial⟩ ?_
  replace hs := hs.2.2
  exact z_iret M (by decide +kernel) .boolean rfl hs.1 (by decide) (by decide) (hQ _ _ K)
def F_M_watch_j15 (S : (Nat → Nat → Int32)) (x1 : Int32) (x2 : Int32) (s0 : Int32) : (Int32 × (Nat → Nat → Int32)) := (if s0 ≤ 0 then (if (S 183 (((30 : Int32) * x1) + x2).toNatClampNeg) = 0 then (F_M_watch_j56 (z_uS S 78 0 s0) x1 x2 1 (((30 : Int32) * x1) + x2)) else (F_M_watch_j56 (z_uS S 78 0 s0) x1 x2 0 (((30 : Int32) * x1) + x2))) else (0, (z_uS S 78 0 s0)))
def Sf_M_watch_j15 (S : (Nat → Nat → Int32)) (x1 : Int32) (x2 : Int32) (s0 : Int32) : Prop := (if s0 ≤ 0 then ((vp_in (((30 : Int32) * x1) + x2) 240) ∧ (if (S 183 (((30 : Int32) * x1) + x2).toNatClampNeg) = 0 then (Sf_M_watch_j56 (z_uS S 78 0 s0) x1 x2 1 (((30 : Int32) * x1) + x2)) else (Sf_M_watch_j56 (z_uS S 78 0 s0) x1 x2 0 (((30 : Int32) * x1) + x2)))) else True)
theorem t_M_watch_j15 {X : z_X} {Post : Option z_V → z_W → Prop} (M : z_M X zm_M_watch rm_M_watch Post) {T' : Nat → Nat × Nat} {G' : Nat → Nat → Option Nat} {n : Nat} {Q : (Int32 × (Nat → Nat → Int32)) → Prop} (S : (Nat → Nat → Int32)) (x1 : Int32) (x2 : Int32) (s0 : Int32) (hQ : ∀ v S', Q (v, S') → Post (some (.inl v)) (zW T' G' S' n)) (K : Q (F_M_watch_j15 S x1 x2 s0)) (hs : Sf_M_watch_j15 S x1 x2 s0) : z_G X zm_M_watch (15, [(0, z_r 78), (1, .inl x1), (2, .inl x2)], [.inl s0, z_r 78], zW T' G' S n, 0, 0) := by
  unfold F_M_watch_j15 at K
  unfold Sf_M_watch_j15 at hs
  refine z_go2 M.1 15 [(.putfield 175, 3), (.aload_n 0, 1), (.getfield 175, 3)] (22, [(0, z_r 78), (1, .inl x1), (2, .inl x2)], [.inl s0], zW T' G' (z_uS S 78 0 s0) n, 0, 0) (by decide +kernel) rfl ⟨⟨rfl, trivial⟩, trivial, rfl, trivial⟩ ?_
  refine z_if_le 27 M.1 (off := 5) (by decide +kernel) (by decide) (fun c22 => ?_) (fun c22 => ?_)
  · rw [if_pos c22] at K hs
    refine z_go2 M.1 27 [(.aload_n 0, 1), (.getfield 143, 3), (.bipush 30, 2), (.iload_n 1, 1), (.imul, 1), (.iload_n 2, 1), (.iadd, 1), (.aload_n 0, 1), (.getfield 143, 3), (.bipush 30, 2), (.iload_n 1, 1), (.imul, 1), (.iload_n 2, 1), (.iadd, 1), (.baload, 1)] (48, [(0, z_r 78), (1, .inl x1), (2, .inl x2)], [.inl (S 183 (((30 : Int32) * x1) + x2).toNatClampNeg), .inl (((30 : Int32) * x1) + x2), z_r 183], zW T' G' (z_uS S 78 0 s0) n, 0, 0) (by decide +kernel) rfl ⟨trivial, rfl, trivial, trivial, trivial, trivial, trivial, trivial, rfl, trivial, trivial, trivial, trivial, trivial, ⟨rfl, hs.1⟩, trivial⟩ ?_
    replace hs := hs.2
    refine z_if_ne 55 M.1 (off := 7) (by decide +kernel) (by decide) (fun c48 => ?_) (fun c48 => ?_)
    · rw [if_neg c48] at K hs
      refine z_go2 M.1 55 [(.iconst 0, 1)] (56, [(0, z_r 78), (1, .inl x1), (2, .inl x2)], [.inl 0, .inl (((30 : Int32) * x1) + x2), z_r 183], zW T' G' (z_uS S 78 0 s0) n, 0, 0) (by decide +kernel) rfl ⟨trivial, trivial⟩ ?_
      exact z_lvs (lv' := [(0, z_r 78), (1, .inl x1), (2, .inl x2)]) [0, 1, 2] rfl (t_M_watch_j56 M (z_uS S 78 0 s0) x1 x2 0 (((30 : Int32) * x1) + x2) hQ K hs)
    · rw [if_pos c48] at K hs
      refine z_go2 M.1 51 [(.iconst 1, 1), (.goto 4, 3)] (56, [(0, z_r 78), (1, .inl x1), (2, .inl x2)], [.inl 1, .inl (((30 : Int32) * x1) + x2), z_r 183], zW T' G' (z_uS S 78 0 s0) n, 0, 0) (by decide +kernel) rfl ⟨trivial, trivial, trivial⟩ ?_
      exact z_lvs (lv' := [(0, z_r 78), (1, .inl x1), (2, .inl x2)]) [0, 1, 2] rfl (t_M_watch_j56 M (z_uS S 78 0 s0) x1 x2 1 (((30 : Int32) * x1) + x2) hQ K hs)
  · rw [if_neg c22] at K hs
    refine z_go2 M.1 25 [(.iconst 0, 1)] (26, [(0, z_r 78), (1, .inl x1), (2, .inl x2)], [.inl 0], zW T' G' (z_uS S 78 0 s0) n, 0, 0) (by decide +kernel) rfl ⟨trivial, trivial⟩ ?_
    exact z_iret M (by decide +kernel) .boolean rfl rfl (by decide) (by decide) (hQ _ _ K)
def F_M_watch (S : (Nat → Nat → Int32)) (p1 : Int32) (p2 : Int32) : (Int32 × (Nat → Nat → Int32)) := (if (F_M_isSeen S p1 p2) = 0 then (F_M_watch_j15 S p1 p2 1) else (F_M_watch_j15 S p1 p2 0))
def Sf_M_watch (S : (Nat → Nat → Int32)) (p1 : Int32) (p2 : Int32) : Prop := (Sf_M_isSeen S p1 p2 ∧ (if (F_M_isSeen S p1 p2) = 0 then (Sf_M_watch_j15 S p1 p2 1) else (Sf_M_watch_j15 S p1 p2 0)))
theorem c_M_watch (T' : Nat → Nat × Nat) (G' : Nat → Nat → Option Nat) (S : (Nat → Nat → Int32)) (n : Nat) (p1 : Int32) (p2 : Int32) (hs : Sf_M_watch S p1 p2) : z_Run rm_M_watch zm_M_watch [z_r 78, .inl p1, .inl p2] (zW T' G' S n) (zq (some (.inl (F_M_watch S p1 p2).1)) (zW T' G' (F_M_watch S p1 p2).2 n)) := by
  refine z_body (by decide) zf_M_ok (Nat.le_of_ble_eq_true rfl) (fun X M => ?_)
  obtain ⟨Q, hQ, K⟩ : ∃ Q : (Int32 × (Nat → Nat → Int32)) → Prop, (∀ v S', Q (v, S') → zq (some (.inl (F_M_watch S p1 p2).1)) (zW T' G' (F_M_watch S p1 p2).2 n) (some (.inl v)) (zW T' G' S' n)) ∧ Q (F_M_watch S p1 p2) := ⟨fun o => F_M_watch S p1 p2 = o, fun v S' h => ⟨by rw [h], by rw [h]⟩, rfl⟩
  show z_G X zm_M_watch (0, [(0, z_r 78), (1, .inl p1), (2, .inl p2)], [], zW T' G' S n, 0, 0)
  unfold F_M_watch at K
  unfold Sf_M_watch at hs
  refine z_go2 M.1 0 [(.aload_n 0, 1), (.aload_n 0, 1), (.iload_n 1, 1), (.iload_n 2, 1)] (4, [(0, z_r 78), (1, .inl p1), (2, .inl p2)], [.inl p2, .inl p1, z_r 78, z_r 78], zW T' G' S n, 0, 0) (by decide +kernel) rfl ⟨trivial, trivial, trivial, trivial, trivial⟩ ?_
  refine z_callV M.1 (av := [.inl p1, .inl p2]) (st := [z_r 78]) (a := 78) (ci := 14) (by decide +kernel) (c_M_isSeen T' G' S n p1 p2 hs.1) M.2.1 zl_M_336 zv_M_isSeen rfl rfl rfl ⟨by decide, by decide, by decide, by decide⟩ rfl (Nat.le_of_ble_eq_true rfl) (fun v w' hv => ?_)
  obtain ⟨rfl, rfl⟩ := hv
  replace hs := hs.2
  show z_G X zm_M_watch (7, [(0, z_r 78), (1, .inl p1), (2, .inl p2)], [.inl (F_M_isSeen S p1 p2), z_r 78], zW T' G' S n, 0, 0)
  refine z_if_eq 14 M.1 (off := 7) (by decide +kernel) (by decide) (fun c7 => ?_) (fun c7 => ?_)
  · rw [if_pos c7] at K hs
    refine z_go2 M.1 14 [(.iconst 1, 1)] (15, [(0, z_r 78), (1, .inl p1), (2, .inl p2)], [.inl 1, z_r 78], zW T' G' S n, 0, 0) (by decide +kernel) rfl ⟨trivial, trivial⟩ ?_
    exact z_lvs (lv' := [(0, z_r 78), (1, .inl p1), (2, .inl p2)]) [0, 1, 2] rfl (t_M_watch_j15 M S p1 p2 1 hQ K hs)
  · rw [if_neg c7] at K hs
    refine z_go2 M.1 10 [(.iconst 0, 1), (.goto 4, 3)] (15, [(0, z_r 78), (1, .inl p1), (2, .inl p2)], [.inl 0, z_r 78], zW T' G' S n, 0, 0) (by decide +kernel) rfl ⟨trivial, trivial, trivial⟩ ?_
    exact z_lvs (lv' := [(0, z_r 78), (1, .inl p1), (2, .inl p2)]) [0, 1, 2] rfl (t_M_watch_j15 M S p1 p2 0 hQ K hs)

-- TrackHouseModel.inbox
abbrev rm_M_inbox : Room := zr 2
def F_M_inbox_l34_128 (rc : (Nat → Nat → Int32) → Int32 → Int32 → (Int32 × (Nat → Nat → Int32))) (S : (Nat → Nat → Int32)) (x1 : Int32) (x3 : Int32) (s0 : Int32) : (Int32 × (Nat → Nat → Int32)) := (rc S (s0 + 0) (x3 + 1))
def Sf_M_inbox_l34_128 (rc : (Nat → Nat → Int32) → Int32 → Int32 → (Int32 × (Nat → Nat → Int32))) (sr : (Nat → Nat → Int32) → Int32 → Int32 → Prop) (S : (Nat → Nat → Int32)) (x1 : Int32) (x3 : Int32) (s0 : Int32) : Prop := (sr S (s0 + 0) (x3 + 1))
theorem t_M_inbox_l34_128 {X : z_X} {Post : Option z_V → z_W → Prop} (M : z_M X zm_M_inbox rm_M_inbox Post) {T' : Nat → Nat × Nat} {G' : Nat → Nat → Option Nat} {n : Nat} {Q : (Int32 × (Nat → Nat → Int32)) → Prop} (rc : (Nat → Nat → Int32) → Int32 → Int32 → (Int32 × (Nat → Nat → Int32))) (sr : (Nat → Nat → Int32) → Int32 → Int32 → Prop) (S : (Nat → Nat → Int32)) (x1 : Int32) (x3 : Int32) (s0 : Int32) (hE : ∀ (y2 : Int32) (S' : (Nat → Nat → Int32)), Q (y2, S') → z_G X zm_M_inbox (137, [(0, z_r 78), (1, .inl x1), (2, .inl y2)], [], zW T' G' S' n, 0, 0)) (hC : ∀ (S : (Nat → Nat → Int32)) (x2 : Int32) (x3 : Int32), Q (rc S x2 x3) → sr S x2 x3 → z_G X zm_M_inbox (34, [(0, z_r 78), (1, .inl x1), (2, .inl x2), (3, .inl x3)], [], zW T' G' S n, 0, 0)) (K : Q (F_M_inbox_l34_128 rc S x1 x3 s0)) (hs : Sf_M_inbox_l34_128 rc sr S x1 x3 s0) : z_G X zm_M_inbox (128, [(0, z_r 78), (1, .inl x1), (3, .inl x3)], [.inl s0], zW T' G' S n, 0, 0) := by
  unfold F_M_inbox_l34_128 at K
  unfold Sf_M_inbox_l34_128 at hs
  refine z_go2 M.1 128 [(.iconst 0, 1), (.iadd, 1), (.istore_n 2, 1), (.iinc 3 1, 3), (.goto (-100), 3)] (34, [(3, .inl (x3 + 1)), (2, .inl (s0 + 0)), (0, z_r 78), (1, .inl x1)], [], zW T' G' S n, 0, 0) (by decide +kernel) rfl ⟨trivial, trivial, trivial, trivial, trivial, trivial⟩ ?_
  exact z_lvs (lv' := [(0, z_r 78), (1, .inl x1), (2, .inl (s0 + 0)), (3, .inl (x3 + 1))]) [2, 3, 1, 0] rfl (hC S (s0 + 0) (x3 + 1) K hs)
def F_M_inbox_l34_98 (rc : (Nat → Nat → Int32) → Int32 → Int32 → (Int32 × (Nat → Nat → Int32))) (S : (Nat → Nat → Int32)) (x1 : Int32) (x2 : Int32) (x3 : Int32) (s0 : Int32) : (Int32 × (Nat → Nat → Int32)) := (if s0 = 0 then (F_M_inbox_l34_128 rc S x1 x3 x2) else (if (F_M_sees 86 S x1 (S 82 (x3).toNatClampNeg)) = 0 then (F_M_inbox_l34_128 rc S x1 x3 x2) else (rc S (x2 + 1) (x3 + 1))))
def Sf_M_inbox_l34_98 (rc : (Nat → Nat → Int32) → Int32 → Int32 → (Int32 × (Nat → Nat → Int32))) (sr : (Nat → Nat → Int32) → Int32 → Int32 → Prop) (S : (Nat → Nat → Int32)) (x1 : Int32) (x2 : Int32) (x3 : Int32) (s0 : Int32) : Prop := (if s0 = 0 then (Sf_M_inbox_l34_128 rc sr S x1 x3 x2) else ((vp_in x3 1200) ∧ (Sf_M_sees 86 S x1 (S 82 (x3).toNatClampNeg) ∧ (if (F_M_sees 86 S x1 (S 82 (x3).toNatClampNeg)) = 0 then (Sf_M_inbox_l34_128 rc sr S x1 x3 x2) else (sr S (x2 + 1) (x3 + 1))))))
theorem t_M_inbox_l34_98 {X : z_X} {Post : Option z_V → z_W → Prop} (M : z_M X zm_M_inbox rm_M_inbox Post) {T' : Nat → Nat × Nat} {G' : Nat → Nat → Option Nat} {n : Nat} {Q : (Int32 × (Nat → Nat → Int32)) → Prop} (rc : (Nat → Nat → Int32) → Int32 → Int32 → (Int32 × (Nat → Nat → Int32))) (sr : (Nat → Nat → Int32) → Int32 → Int32 → Prop) (S : (Nat → Nat → Int32)) (x1 : Int32) (x2 : Int32) (x3 : Int32) (s0 : Int32) (hE : ∀ (y2 : Int32) (S' : (Nat → Nat → Int32)), Q (y2, S') → z_G X zm_M_inbox (137, [(0, z_r 78), (1, .inl x1), (2, .inl y2)], [], zW T' G' S' n, 0, 0)) (hC : ∀ (S : (Nat → Nat → Int32)) (x2 : Int32) (x3 : Int32), Q (rc S x2 x3) → sr S x2 x3 → z_G X zm_M_inbox (34, [(0, z_r 78), (1, .inl x1), (2, .inl x2), (3, .inl x3)], [], zW T' G' S n, 0, 0)) (K : Q (F_M_inbox_l34_98 rc S x1 x2 x3 s0)) (hs : Sf_M_inbox_l34_98 rc sr S x1 x2 x3 s0) : z_G X zm_M_inbox (98, [(0, z_r 78), (1, .inl x1), (2, .inl x2), (3, .inl x3)], [.inl s0], zW T' G' S n, 0, 0) := by
  unfold F_M_inbox_l34_98 at K
  unfold Sf_M_inbox_l34_98 at hs
  refine z_go2 M.1 98 [(.istore 4, 2), (.iload_n 2, 1), (.iload 4, 2)] (103, [(4, .inl s0), (0, z_r 78), (1, .inl x1), (2, .inl x2), (3, .inl x3)], [.inl s0, .inl x2], zW T' G' S n, 0, 0) (by decide +kernel) rfl ⟨trivial, trivial, trivial, trivial⟩ ?_
  refine z_if_eq 128 M.1 (off := 25) (by decide +kernel) (by decide) (fun c103 => ?_) (fun c103 => ?_)
  · rw [if_pos c103] at K hs
    exact z_lvs (lv' := [(0, z_r 78), (1, .inl x1), (3, .inl x3)]) [1, 2, 4] rfl (t_M_inbox_l34_128 M rc sr S x1 x3 x2 hE hC K hs)
  · rw [if_neg c103] at K hs
    refine z_go2 M.1 106 [(.aload_n 0, 1), (.aload_n 0, 1), (.getfield 34, 3), (.iload_n 1, 1), (.aload_n 0, 1), (.getfield 19, 3), (.iload_n 3, 1), (.iaload, 1)] (118, [(4, .inl s0), (0, z_r 78), (1, .inl x1), (2, .inl x2), (3, .inl x3)], [.inl (S 82 (x3).toNatClampNeg), .inl x1, z_r 86, z_r 78, .inl x2], zW T' G' S n, 0, 0) (by decide +kernel) rfl ⟨trivial, trivial, rfl, trivial, trivial, rfl, trivial, ⟨rfl, hs.1⟩, trivial⟩ ?_
    replace hs := hs.2
    refine z_callV M.1 (av := [z_r 86, .inl x1, .inl (S 82 (x3).toNatClampNeg)]) (st := [.inl x2]) (a := 78) (ci := 14) (by decide +kernel) (c_M_sees_86 T' G' S n x1 (S 82 (x3).toNatClampNeg) hs.1) M.2.1 zl_M_233 zv_M_sees rfl rfl rfl ⟨by decide, by decide, by decide, by decide⟩ rfl (Nat.le_of_ble_eq_true rfl) (fun v w' hv => ?_)
    obtain ⟨rfl, rfl⟩ := hv
    replace hs := hs.2
    show z_G X zm_M_inbox (121, [(4, .inl s0), (0, z_r 78), (1, .inl x1), (2, .inl x2), (3, .inl x3)], [.inl (F_M_sees 86 S x1 (S 82 (x3).toNatClampNeg)), .inl x2], zW T' G' S n, 0, 0)
    refine z_if_eq 128 M.1 (off := 7) (by decide +kernel) (by decide) (fun c121 => ?_) (fun c121 => ?_)
    · rw [if_pos c121] at K hs
      exact z_lvs (lv' := [(0, z_r 78), (1, .inl x1), (3, .inl x3)]) [1, 2, 4] rfl (t_M_inbox_l34_128 M rc sr S x1 x3 x2 hE hC K hs)
    · rw [if_neg c121] at K hs
      refine z_go2 M.1 124 [(.iconst 1, 1), (.goto 4, 3), (.iadd, 1), (.istore_n 2, 1), (.iinc 3 1, 3), (.goto (-100), 3)] (34, [(3, .inl (x3 + 1)), (2, .inl (x2 + 1)), (4, .inl s0), (0, z_r 78), (1, .inl x1)], [], zW T' G' S n, 0, 0) (by decide +kernel) rfl ⟨trivial, trivial, trivial, trivial, trivial, trivial, trivial⟩ ?_
      exact z_lvs (lv' := [(0, z_r 78), (1, .inl x1), (2, .inl (x2 + 1)), (3, .inl (x3 + 1))]) [3, 4, 1, 0] rfl (hC S (x2 + 1) (x3 + 1) K hs)
def F_M_inbox_l34_97 (rc : (Nat → Nat → Int32) → Int32 → Int32 → (Int32 × (Nat → Nat → Int32))) (S : (Nat → Nat → Int32)) (x1 : Int32) (x2 : Int32) (x3 : Int32) : (Int32 × (Nat → Nat → Int32)) := (F_M_inbox_l34_98 rc S x1 x2 x3 0)
def Sf_M_inbox_l34_97 (rc : (Nat → Nat → Int32) → Int32 → Int32 → (Int32 × (Nat → Nat → Int32))) (sr : (Nat → Nat → Int32) → Int32 → Int32 → Prop) (S : (Nat → Nat → Int32)) (x1 : Int32) (x2 : Int32) (x3 : Int32) : Prop := (Sf_M_inbox_l34_98 rc sr S x1 x2 x3 0)
theorem t_M_inbox_l34_97 {X : z_X} {Post : Option z_V → z_W → Prop} (M : z_M X zm_M_inbox rm_M_inbox Post) {T' : Nat → Nat × Nat} {G' : Nat → Nat → Option Nat} {n : Nat} {Q : (Int32 × (Nat → Nat → Int32)) → Prop} (rc : (Nat → Nat → Int32) → Int32 → Int32 → (Int32 × (Nat → Nat → Int32))) (sr : (Nat → Nat → Int32) → Int32 → Int32 → Prop) (S : (Nat → Nat → Int32)) (x1 : Int32) (x2 : Int32) (x3 : Int32) (hE : ∀ (y2 : Int32) (S' : (Nat → Nat → Int32)), Q (y2, S') → z_G X zm_M_inbox (137, [(0, z_r 78), (1, .inl x1), (2, .inl y2)], [], zW T' G' S' n, 0, 0)) (hC : ∀ (S : (Nat → Nat → Int32)) (x2 : Int32) (x3 : Int32), Q (rc S x2 x3) → sr S x2 x3 → z_G X zm_M_inbox (34, [(0, z_r 78), (1, .inl x1), (2, .inl x2), (3, .inl x3)], [], zW T' G' S n, 0, 0)) (K : Q (F_M_inbox_l34_97 rc S x1 x2 x3)) (hs : Sf_M_inbox_l34_97 rc sr S x1 x2 x3) : z_G X zm_M_inbox (97, [(0, z_r 78), (1, .inl x1), (2, .inl x2), (3, .inl x3)], [], zW T' G' S n, 0, 0) := by
  unfold F_M_inbox_l34_97 at K
  unfold Sf_M_inbox_l34_97 at hs
  refine z_go2 M.1 97 [(.iconst 0, 1)] (98, [(0, z_r 78), (1, .inl x1), (2, .inl x2), (3, .inl x3)], [.inl 0], zW T' G' S n, 0, 0) (by decide +kernel) rfl ⟨trivial, trivial⟩ ?_
  exact z_lvs (lv' := [(0, z_r 78), (1, .inl x1), (2, .inl x2), (3, .inl x3)]) [0, 1, 2, 3] rfl (t_M_inbox_l34_98 M rc sr S x1 x2 x3 0 hE hC K hs)
def F_M_inbox_l34_88 (rc : (Nat → Nat → Int32) → Int32 → Int32 → (Int32 × (Nat → Nat → Int32))) (S : (Nat → Nat → Int32)) (x1 : Int32) (x2 : Int32) (x3 : Int32) (s0 : Int32) (s1 : Int32) : (Int32 × (Nat → Nat → Int32)) := (if (S 183 (s1 + s0).toNatClampNeg) = 0 then (F_M_inbox_l34_97 rc S x1 x2 x3) else (F_M_inbox_l34_98 rc S x1 x2 x3 1))
def Sf_M_inbox_l34_88 (rc : (Nat → Nat → Int32) → Int32 → Int32 → (Int32 × (Nat → Nat → Int32))) (sr : (Nat → Nat → Int32) → Int32 → Int32 → Prop) (S : (Nat → Nat → Int32)) (x1 : Int32) (x2 : Int32) (x3 : Int32) (s0 : Int32) (s1 : Int32) : Prop := ((vp_in (s1 + s0) 240) ∧ (if (S 183 (s1 + s0).toNatClampNeg) = 0 then (Sf_M_inbox_l34_97 rc sr S x1 x2 x3) else (Sf_M_inbox_l34_98 rc sr S x1 x2 x3 1)))
theorem t_M_inbox_l34_88 {X : z_X} {Post : Option z_V → z_W → Prop} (M : z_M X zm_M_inbox rm_M_inbox Post) {T' : Nat → Nat × Nat} {G' : Nat → Nat → Option Nat} {n : Nat} {Q : (Int32 × (Nat → Nat → Int32)) → Prop} (rc : (Nat → Nat → Int32) → Int32 → Int32 → (Int32 × (Nat → Nat → Int32))) (sr : (Nat → Nat → Int32) → Int32 → Int32 → Prop) (S : (Nat → Nat → Int32)) (x1 : Int32) (x2 : Int32) (x3 : Int32) (s0 : Int32) (s1 : Int32) (hE : ∀ (y2 : Int32) (S' : (Nat → Nat → Int32)), Q (y2, S') → z_G X zm_M_inbox (137, [(0, z_r 78), (1, .inl x1), (2, .inl y2)], [], zW T' G' S' n, 0, 0)) (hC : ∀ (S : (Nat → Nat → Int32)) (x2 : Int32) (x3 : Int32), Q (rc S x2 x3) → sr S x2 x3 → z_G X zm_M_inbox (34, [(0, z_r 78), (1, .inl x1), (2, .inl x2), (3, .inl x3)], [], zW T' G' S n, 0, 0)) (K : Q (F_M_inbox_l34_88 rc S x1 x2 x3 s0 s1)) (hs : Sf_M_inbox_l34_88 rc sr S x1 x2 x3 s0 s1) : z_G X zm_M_inbox (88, [(0, z_r 78), (1, .inl x1), (2, .inl x2), (3, .inl x3)], [.inl s0, .inl s1, z_r 183], zW T' G' S n, 0, 0) := by
  unfold F_M_inbox_l34_88 at K
  unfold Sf_M_inbox_l34_88 at hs
  refine z_go2 M.1 88 [(.iadd, 1), (.baload, 1)] (90, [(0, z_r 78), (1, .inl x1), (2, .inl x2), (3, .inl x3)], [.inl (S 183 (s1 + s0).toNatClampNeg)], zW T' G' S n, 0, 0) (by decide +kernel) rfl ⟨trivial, ⟨rfl, hs.1⟩, trivial⟩ ?_
  replace hs := hs.2
  refine z_if_eq 97 M.1 (off := 7) (by decide +kernel) (by decide) (fun c90 => ?_) (fun c90 => ?_)
  · rw [if_pos c90] at K hs
    exact z_lvs (lv' := [(0, z_r 78), (1, .inl x1), (2, .inl x2), (3, .inl x3)]) [0, 1, 2, 3] rfl (t_M_inbox_l34_97 M rc sr S x1 x2 x3 hE hC K hs)
  · rw [if_neg c90] at K hs
    refine z_go2 M.1 93 [(.iconst 1, 1), (.goto 4, 3)] (98, [(0, z_r 78), (1, .inl x1), (2, .inl x2), (3, .inl x3)], [.inl 1], zW T' G' S n, 0, 0) (by decide +kernel) rfl ⟨trivial, trivial, trivial⟩ ?_
    exact z_lvs (lv' := [(0, z_r 78), (1, .inl x1), (2, .inl x2), (3, .inl x3)]) [0, 1, 2, 3] rfl (t_M_inbox_l34_98 M rc sr S x1 x2 x3 1 hE hC K hs)
def F_M_inbox_L34 (x1 : Int32) : Nat → (Nat → Nat → Int32) → Int32 → Int32 → (Int32 × (Nat → Nat → Int32))
  | 0, S, x2, x3 => (x2, S)
  | f + 1, S, x2, x3 => (if (S 78 2) ≤ x3 then (x2, S) else (if (S 79 (x3).toNatClampNeg) = 0 then (F_M_inbox_l34_97 (F_M_inbox_L34 x1 f) S x1 x2 x3) else (if (S 81 (x3).toNatClampNeg) = x1 then (F_M_inbox_l34_97 (F_M_inbox_L34 x1 f) S x1 x2 x3) else (if (S 79 (x3).toNatClampNeg) = 0 then (F_M_inbox_l34_88 (F_M_inbox_L34 x1 f) S x1 x2 x3 0 ((30 : Int32) * x1)) else (F_M_inbox_l34_88 (F_M_inbox_L34 x1 f) S x1 x2 x3 (S 82 (x3).toNatClampNeg) ((30 : Int32) * x1))))))
def Sf_M_inbox_L34 (x1 : Int32) : Nat → (Nat → Nat → Int32) → Int32 → Int32 → Prop
  | 0, _, _, _ => False
  | f + 1, S, x2, x3 => (if (S 78 2) ≤ x3 then True else ((vp_in x3 1200) ∧ (if (S 79 (x3).toNatClampNeg) = 0 then (Sf_M_inbox_l34_97 (F_M_inbox_L34 x1 f) (Sf_M_inbox_L34 x1 f) S x1 x2 x3) else ((vp_in x3 1200) ∧ (if (S 81 (x3).toNatClampNeg) = x1 then (Sf_M_inbox_l34_97 (F_M_inbox_L34 x1 f) (Sf_M_inbox_L34 x1 f) S x1 x2 x3) else ((vp_in x3 1200) ∧ (if (S 79 (x3).toNatClampNeg) = 0 then (Sf_M_inbox_l34_88 (F_M_inbox_L34 x1 f) (Sf_M_inbox_L34 x1 f) S x1 x2 x3 0 ((30 : Int32) * x1)) else ((vp_in x3 1200) ∧ (Sf_M_inbox_l34_88 (F_M_inbox_L34 x1 f) (Sf_M_inbox_L34 x1 f) S x1 x2 x3 (S 82 (x3).toNatClampNeg) ((30 : Int32) * x1))))))))))
theorem t_M_inbox_L34 {X : z_X} {Post : Option z_V → z_W → Prop} (M : z_M X zm_M_inbox rm_M_inbox Post) {T' : Nat → Nat × Nat} {G' : Nat → Nat → Option Nat} {n : Nat} {Q : (Int32 × (Nat → Nat → Int32)) → Prop}  (x1 : Int32) (hE : ∀ (y2 : Int32) (S' : (Nat → Nat → Int32)), Q (y2, S') → z_G X zm_M_inbox (137, [(0, z_r 78), (1, .inl x1), (2, .inl y2)], [], zW T' G' S' n, 0, 0)) (f : Nat) : ∀ (S : (Nat → Nat → Int32)) (x2 : Int32) (x3 : Int32), Q (F_M_inbox_L34 x1 f S x2 x3) → Sf_M_inbox_L34 x1 f S x2 x3 → z_G X zm_M_inbox (34, [(0, z_r 78), (1, .inl x1), (2, .inl x2), (3, .inl x3)], [], zW T' G' S n, 0, 0) := by
  induction f with
  | zero => intro S x2 x3 K hs; exact False.elim hs
  | succ f hC =>
    intro S x2 x3 K hs
    rw [F_M_inbox_L34] at K
    rw [Sf_M_inbox_L34] at hs
    refine z_go2 M.1 34 [(.iload_n 3, 1), (.aload_n 0, 1), (.getfield 182, 3)] (39, [(0, z_r 78), (1, .inl x1), (2, .inl x2), (3, .inl x3)], [.inl (S 78 2), .inl x3], zW T' G' S n, 0, 0) (by decide +kernel) rfl ⟨trivial, trivial, rfl, trivial⟩ ?_
    refine z_icmp_ge 137 M.1 (off := 98) (by decide +kernel) (by decide) (fun c39 => ?_) (fun c39 => ?_)
    · rw [if_pos c39] at K hs
      exact z_lvs (lv' := [(0, z_r 78), (1, .inl x1), (2, .inl x2)]) [0, 1, 2] rfl (hE x2 S K)
    · rw [if_neg c39] at K hs
      refine z_go2 M.1 42 [(.aload_n 0, 1), (.getfield 7, 3), (.iload_n 3, 1), (.iaload, 1)] (48, [(0, z_r 78), (1, .inl x1), (2, .inl x2), (3, .inl x3)], [.inl (S 79 (x3).toNatClampNeg)], zW T' G' S n, 0, 0) (by decide +kernel) rfl ⟨trivial, rfl, trivial, ⟨rfl, hs.1⟩, trivial⟩ ?_
      replace hs := hs.2
      refine z_if_eq 97 M.1 (off := 49) (by decide +kernel) (by decide) (fun c48 => ?_) (fun c48 => ?_)
      · rw [if_pos c48] at K hs
        exact z_lvs (lv' := [(0, z_r 78), (1, .inl x1), (2, .inl x2), (3, .inl x3)]) [0, 1, 2, 3] rfl (t_M_inbox_l34_97 M (F_M_inbox_L34 x1 f) (Sf_M_inbox_L34 x1 f) S x1 x2 x3 hE hC K hs)
      · rw [if_neg c48] at K hs
        refine z_go2 M.1 51 [(.aload_n 0, 1), (.getfield 16, 3), (.iload_n 3, 1), (.iaload, 1), (.iload_n 1, 1)] (58, [(0, z_r 78), (1, .inl x1), (2, .inl x2), (3, .inl x3)], [.inl x1, .inl (S 81 (x3).toNatClampNeg)], zW T' G' S n, 0, 0) (by decide +kernel) rfl ⟨trivial, rfl, trivial, ⟨rfl, hs.1⟩, trivial, trivial⟩ ?_
        replace hs := hs.2
        refine z_icmp_eq 97 M.1 (off := 39) (by decide +kernel) (by decide) (fun c58 => ?_) (fun c58 => ?_)
        · rw [if_pos c58] at K hs
          exact z_lvs (lv' := [(0, z_r 78), (1, .inl x1), (2, .inl x2), (3, .inl x3)]) [0, 1, 2, 3] rfl (t_M_inbox_l34_97 M (F_M_inbox_L34 x1 f) (Sf_M_inbox_L34 x1 f) S x1 x2 x3 hE hC K hs)
        · rw [if_neg c58] at K hs
          refine z_go2 M.1 61 [(.aload_n 0, 1), (.getfield 143, 3), (.bipush 30, 2), (.iload_n 1, 1), (.imul, 1), (.aload_n 0, 1), (.getfield 7, 3), (.iload_n 3, 1), (.iaload, 1)] (75, [(0, z_r 78), (1, .inl x1), (2, .inl x2), (3, .inl x3)], [.inl (S 79 (x3).toNatClampNeg), .inl ((30 : Int32) * x1), z_r 183], zW T' G' S n, 0, 0) (by decide +kernel) rfl ⟨trivial, rfl, trivial, trivial, trivial, trivial, rfl, trivial, ⟨rfl, hs.1⟩, trivial⟩ ?_
          replace hs := hs.2
          refine z_if_ne 82 M.1 (off := 7) (by decide +kernel) (by decide) (fun c75 => ?_) (fun c75 => ?_)
          · rw [if_neg c75] at K hs
            refine z_go2 M.1 82 [(.aload_n 0, 1), (.getfield 19, 3), (.iload_n 3, 1), (.iaload, 1)] (88, [(0, z_r 78), (1, .inl x1), (2, .inl x2), (3, .inl x3)], [.inl (S 82 (x3).toNatClampNeg), .inl ((30 : Int32) * x1), z_r 183], zW T' G' S n, 0, 0) (by decide +kernel) rfl ⟨trivial, rfl, trivial, ⟨rfl, hs.1⟩, trivial⟩ ?_
            replace hs := hs.2
            exact z_lvs (lv' := [(0, z_r 78), (1, .inl x1), (2, .inl x2), (3, .inl x3)]) [0, 1, 2, 3] rfl (t_M_inbox_l34_88 M (F_M_inbox_L34 x1 f) (Sf_M_inbox_L34 x1 f) S x1 x2 x3 (S 82 (x3).toNatClampNeg) ((30 : Int32) * x1) hE hC K hs)
          · rw [if_pos c75] at K hs
            refine z_go2 M.1 78 [(.iconst 0, 1), (.goto 9, 3)] (88, [(0, z_r 78), (1, .inl x1), (2, .inl x2), (3, .inl x3)], [.inl 0, .inl ((30 : Int32) * x1), z_r 183], zW T' G' S n, 0, 0) (by decide +kernel) rfl ⟨trivial, trivial, trivial⟩ ?_
            exact z_lvs (lv' := [(0, z_r 78), (1, .inl x1), (2, .inl x2), (3, .inl x3)]) [0, 1, 2, 3] rfl (t_M_inbox_l34_88 M (F_M_inbox_L34 x1 f) (Sf_M_inbox_L34 x1 f) S x1 x2 x3 0 ((30 : Int32) * x1) hE hC K hs)
def F_M_inbox_j13 (S : (Nat → Nat → Int32)) (x1 : Int32) (s0 : Int32) : (Int32 × (Nat → Nat → Int32)) := (if s0 ≤ 0 then (match F_M_inbox_L34 x1 1300 (z_uS S 78 0 s0) 0 (S 184 (x1).toNatClampNeg) with | (y2_34, S34) => (y2_34, (z_uS S34 184 (x1).toNatClampNeg (S34 78 2)))) else (0, (z_uS S 78 0 s0)))
def Sf_M_inbox_j13 (S : (Nat → Nat → Int32)) (x1 : Int32) (s0 : Int32) : Prop := (if s0 ≤ 0 then ((vp_in x1 8) ∧ (Sf_M_inbox_L34 x1 1300 (z_uS S 78 0 s0) 0 (S 184 (x1).toNatClampNeg) ∧ (match F_M_inbox_L34 x1 1300 (z_uS S 78 0 s0) 0 (S 184 (x1).toNatClampNeg) with | (y2_34, S34) => ((vp_in x1 8) ∧ True)))) else True)
theorem t_M_inbox_j13 {X : z_X} {Post : Option z_V → z_W → Prop} (M : z_M X zm_M_inbox rm_M_inbox Post) {T' : Nat → Nat × Nat} {G' : Nat → Nat → Option Nat} {n : Nat} {Q : (Int32 × (Nat → Nat → Int32)) → Prop} (S : (Nat → Nat → Int32)) (x1 : Int32) (s0 : Int32) (hQ : ∀ v S', Q (v, S') → Post (some (.inl v)) (zW T' G' S' n)) (K : Q (F_M_inbox_j13 S x1 s0)) (hs : Sf_M_inbox_j13 S x1 s0) : z_G X zm_M_inbox (13, [(0, z_r 78), (1, .inl x1)], [.inl s0, z_r 78], zW T' G' S n, 0, 0) := by
  unfold F_M_inbox_j13 at K
  unfold Sf_M_inbox_j13 at hs
  refine z_go2 M.1 13 [(.putfield 175, 3), (.aload_n 0, 1), (.getfield 175, 3)] (20, [(0, z_r 78), (1, .inl x1)], [.inl s0], zW T' G' (z_uS S 78 0 s0) n, 0, 0) (by decide +kernel) rfl ⟨⟨rfl, trivial⟩, trivial, rfl, trivial⟩ ?_
  refine z_if_le 25 M.1 (off := 5) (by decide +kernel) (by decide) (fun c20 => ?_) (fun c20 => ?_)
  · rw [if_pos c20] at K hs
    refine z_go2 M.1 25 [(.iconst 0, 1), (.istore_n 2, 1), (.aload_n 0, 1), (.getfield 147, 3), (.iload_n 1, 1), (.iaload, 1), (.istore_n 3, 1)] (34, [(3, .inl (S 184 (x1).toNatClampNeg)), (2, .inl 0), (0, z_r 78), (1, .inl x1)], [], zW T' G' (z_uS S 78 0 s0) n, 0, 0) (by decide +kernel) rfl ⟨trivial, trivial, trivial, rfl, trivial, ⟨rfl, hs.1⟩, trivial, trivial⟩ ?_
    replace hs := hs.2
    refine z_lvs (lv' := [(0, z_r 78), (1, .inl x1), (2, .inl 0), (3, .inl (S 184 (x1).toNatClampNeg))]) [2, 3, 1, 0] rfl ?_
    refine t_M_inbox_L34 M (Q := fun o => F_M_inbox_L34 x1 1300 (z_uS S 78 0 s0) 0 (S 184 (x1).toNatClampNeg) = o) x1 (fun y2_34 S34 hL34 => ?_) 1300 (z_uS S 78 0 s0) 0 (S 184 (x1).toNatClampNeg) rfl hs.1
    replace hs := hs.2
    rw [hL34] at K
    try rw [hL34] at hs
    try dsimp only at K hs
    refine z_go2 M.1 137 [(.aload_n 0, 1), (.getfield 147, 3), (.iload_n 1, 1), (.aload_n 0, 1), (.getfield 182, 3), (.iastore, 1), (.iload_n 2, 1)] (148, [(0, z_r 78), (1, .inl x1), (2, .inl y2_34)], [.inl y2_34], zW T' G' (z_uS S34 184 (x1).toNatClampNeg (S34 78 2)) n, 0, 0) (by decide +kernel) rfl ⟨trivial, rfl, trivial, trivial, rfl, ⟨rfl, hs.1⟩, trivial, trivial⟩ ?_
    replace hs := hs.2
    exact z_iret M (by decide +kernel) .int rfl rfl (by decide) (by decide) (hQ _ _ K)
  · rw [if_neg c20] at K hs
    refine z_go2 M.1 23 [(.iconst 0, 1)] (24, [(0, z_r 78), (1, .inl x1)], [.inl 0], zW T' G' (z_uS S 78 0 s0) n, 0, 0) (by decide +kernel) rfl ⟨trivial, trivial⟩ ?_
    exact z_iret M (by decide +kernel) .int rfl rfl (by decide) (by decide) (hQ _ _ K)
def F_M_inbox (S : (Nat → Nat → Int32)) (p1 : Int32) : (Int32 × (Nat → Nat → Int32)) := (if (F_M_isPerson S p1) = 0 then (F_M_inbox_j13 S p1 1) else (F_M_inbox_j13 S p1 0))
def Sf_M_inbox (S : (Nat → Nat → Int32)) (p1 : Int32) : Prop := (Sf_M_isPerson S p1 ∧ (if (F_M_isPerson S p1) = 0 then (Sf_M_inbox_j13 S p1 1) else (Sf_M_inbox_j13 S p1 0)))
theorem c_M_inbox (T' : Nat → Nat × Nat) (G' : Nat → Nat → Option Nat) (S : (Nat → Nat → Int32)) (n : Nat) (p1 : Int32) (hs : Sf_M_inbox S p1) : z_Run rm_M_inbox zm_M_inbox [z_r 78, .inl p1] (zW T' G' S n) (zq (some (.inl (F_M_inbox S p1).1)) (zW T' G' (F_M_inbox S p1).2 n)) := by
  refine z_body (by decide) zf_M_ok (Nat.le_of_ble_eq_true rfl) (fun X M => ?_)
  obtain ⟨Q, hQ, K⟩ : ∃ Q : (Int32 × (Nat → Nat → Int32)) → Prop, (∀ v S', Q (v, S') → zq (some (.inl (F_M_inbox S p1).1)) (zW T' G' (F_M_inbox S p1).2 n) (some (.inl v)) (zW T' G' S' n)) ∧ Q (F_M_inbox S p1) := ⟨fun o => F_M_inbox S p1 = o, fun v S' h => ⟨by rw [h], by rw [h]⟩, rfl⟩
  show z_G X zm_M_inbox (0, [(0, z_r 78), (1, .inl p1)], [], zW T' G' S n, 0, 0)
  unfold F_M_inbox at K
  unfold Sf_M_inbox at hs
  refine z_go2 M.1 0 [(.aload_n 0, 1), (.iload_n 1, 1)] (2, [(0, z_r 78), (1, .inl p1)], [.inl p1, z_r 78], zW T' G' S n, 0, 0) (by decide +kernel) rfl ⟨trivial, trivial, trivial⟩ ?_
  refine z_callS M.1 (av := [.inl p1]) (st := [z_r 78]) (by decide +kernel) (c_M_isPerson T' G' S n p1 hs.1) M.2.1 zl_M_295 zs_M_isPerson ⟨by decide, by decide, by decide, by decide⟩ rfl (Nat.le_of_ble_eq_true rfl) (fun v w' hv => ?_)
  obtain ⟨rfl, rfl⟩ := hv
  replace hs := hs.2
  show z_G X zm_M_inbox (5, [(0, z_r 78), (1, .inl p1)], [.inl (F_M_isPerson S p1), z_r 78], zW T' G' S n, 0, 0)
  refine z_if_eq 12 M.1 (off := 7) (by decide +kernel) (by decide) (fun c5 => ?_) (fun c5 => ?_)
  · rw [if_pos c5] at K hs
    refine z_go2 M.1 12 [(.iconst 1, 1)] (13, [(0, z_r 78), (1, .inl p1)], [.inl 1, z_r 78], zW T' G' S n, 0, 0) (by decide +kernel) rfl ⟨trivial, trivial⟩ ?_
    exact z_lvs (lv' := [(0, z_r 78), (1, .inl p1)]) [0, 1] rfl (t_M_inbox_j13 M S p1 1 hQ K hs)
  · rw [if_neg c5] at K hs
    refine z_go2 M.1 8 [(.iconst 0, 1), (.goto 4, 3)] (13, [(0, z_r 78), (1, .inl p1)], [.inl 0, z_r 78], zW T' G' S n, 0, 0) (by decide +kernel) rfl ⟨trivial, trivial, trivial⟩ ?_
    exact z_lvs (lv' := [(0, z_r 78), (1, .inl p1)]) [0, 1] rfl (t_M_inbox_j13 M S p1 0 hQ K hs)

