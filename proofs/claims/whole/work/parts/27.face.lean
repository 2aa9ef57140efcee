-- TrackHouse.stateOn
abbrev rm_T_stateOn : Room := zx 7 1
def F_T_stateOn_l32_98 (rc : Int32 → Int32 → (Int32)) (S : (Nat → Nat → Int32)) (x1 : Int32) (x2 : Int32) (x3 : Int32) (x4 : Int32) : (Int32) := (if (zAt (S 4) 900 x4) = x1 then (if (zAt (S 5) 900 x4) = 0 then (rc (zAt (S 8) 900 x4) (x4 + 1)) else (rc x3 (x4 + 1))) else (rc x3 (x4 + 1)))
def Sf_T_stateOn_l32_98 (rc : Int32 → Int32 → (Int32)) (sr : Int32 → Int32 → Prop) (S : (Nat → Nat → Int32)) (x1 : Int32) (x2 : Int32) (x3 : Int32) (x4 : Int32) : Prop := (if (zAt (S 4) 900 x4) = x1 then (if (zAt (S 5) 900 x4) = 0 then (sr (zAt (S 8) 900 x4) (x4 + 1)) else (sr x3 (x4 + 1))) else (sr x3 (x4 + 1)))
theorem t_T_stateOn_l32_98 {X : z_X} {Post : Option z_V → z_W → Prop} {PX : String → z_W → Prop} (M : z_MX X zm_T_stateOn rm_T_stateOn Post PX) {T' : Nat → Nat × Nat} {G' : Nat → Nat → Option Nat} {n : Nat} {Q : (Int32) → Prop} (rc : Int32 → Int32 → (Int32)) (sr : Int32 → Int32 → Prop) (S : (Nat → Nat → Int32)) (x1 : Int32) (x2 : Int32) (x3 : Int32) (x4 : Int32) (hE : ∀ (y3 : Int32), Q y3 → z_G X zm_T_stateOn (148, [(3, .inl y3)], [], zW T' G' S n, 1, 6)) (hC : ∀ (x3 : Int32) (x4 : Int32), Q (rc x3 x4) → sr x3 x4 → z_G X zm_T_stateOn (32, [(0, z_r 0), (1, .inl x1), (2, .inl x2), (3, .inl x3), (4, .inl x4)], [], zW T' G' S n, 1, 6)) (K : Q (F_T_stateOn_l32_98 rc S x1 x2 x3 x4)) (hs : Sf_T_stateOn_l32_98 rc sr S x1 x2 x3 x4) : z_G X zm_T_stateOn (98, [(0, z_r 0), (1, .inl x1), (2, .inl x2), (3, .inl x3), (4, .inl x4)], [], zW T' G' S n, 1, 6) := by
  unfold F_T_stateOn_l32_98 at K
  unfold Sf_T_stateOn_l32_98 at hs
  refine z_go2 M.1.1 98 [(.aload_n 0, 1), (.getfield 12, 3), (.getfield 316, 3), (.iload 4, 2)] (107, [(0, z_r 0), (1, .inl x1), (2, .inl x2), (3, .inl x3), (4, .inl x4)], [.inl x4, z_r 4], zW T' G' S n, 1, 6) (by decide +kernel) rfl ⟨trivial, rfl, rfl, trivial, trivial⟩ ?_
  refine z_callS M.1.1 (av := [z_r 4, .inl x4]) (st := []) (by decide +kernel) (c_at (zW T' G' S n) 4 900 rfl (by decide) x4) M.1.2.1 zl_T_134 zs_T_at ⟨by decide, by decide, by decide, by decide⟩ rfl (Nat.le_of_ble_eq_true rfl) (fun v w' hv => ?_)
  obtain ⟨rfl, rfl⟩ := hv
  show z_G X zm_T_stateOn (110, [(0, z_r 0), (1, .inl x1), (2, .inl x2), (3, .inl x3), (4, .inl x4)], [.inl (zAt (S 4) 900 x4)], zW T' G' S n, 1, 6)
  refine z_go2 M.1.1 110 [(.iload_n 1, 1)] (111, [(0, z_r 0), (1, .inl x1), (2, .inl x2), (3, .inl x3), (4, .inl x4)], [.inl x1, .inl (zAt (S 4) 900 x4)], zW T' G' S n, 1, 6) (by decide +kernel) rfl ⟨trivial, trivial⟩ ?_
  refine z_icmp_ne 142 M.1.1 (off := 31) (by decide +kernel) (by decide) (fun c111 => ?_) (fun c111 => ?_)
  · rw [if_neg c111] at K hs
    refine z_go2 M.1.1 142 [(.iinc 4 1, 3), (.goto (-113), 3)] (32, [(4, .inl (x4 + 1)), (0, z_r 0), (1, .inl x1), (2, .inl x2), (3, .inl x3)], [], zW T' G' S n, 1, 6) (by decide +kernel) rfl ⟨trivial, trivial, trivial⟩ ?_
    exact z_lvs (lv' := [(0, z_r 0), (1, .inl x1), (2, .inl x2), (3, .inl x3), (4, .inl (x4 + 1))]) [1, 2, 3, 4, 0] rfl (hC x3 (x4 + 1) K hs)
  · rw [if_pos c111] at K hs
    refine z_go2 M.1.1 114 [(.aload_n 0, 1), (.getfield 12, 3), (.getfield 319, 3), (.iload 4, 2)] (123, [(0, z_r 0), (1, .inl x1), (2, .inl x2), (3, .inl x3), (4, .inl x4)], [.inl x4, z_r 5], zW T' G' S n, 1, 6) (by decide +kernel) rfl ⟨trivial, rfl, rfl, trivial, trivial⟩ ?_
    refine z_callS M.1.1 (av := [z_r 5, .inl x4]) (st := []) (by decide +kernel) (c_at (zW T' G' S n) 5 900 rfl (by decide) x4) M.1.2.1 zl_T_134 zs_T_at ⟨by decide, by decide, by decide, by decide⟩ rfl (Nat.le_of_ble_eq_true rfl) (fun v w' hv => ?_)
    obtain ⟨rfl, rfl⟩ := hv
    show z_G X zm_T_stateOn (126, [(0, z_r 0), (1, .inl x1), (2, .inl x2), (3, .inl x3), (4, .inl x4)], [.inl (zAt (S 5) 900 x4)], zW T' G' S n, 1, 6)
    refine z_if_ne 142 M.1.1 (off := 16) (by decide +kernel) (by decide) (fun c126 => ?_) (fun c126 => ?_)
    · rw [if_neg c126] at K hs
      refine z_go2 M.1.1 142 [(.iinc 4 1, 3), (.goto (-113), 3)] (32, [(4, .inl (x4 + 1)), (0, z_r 0), (1, .inl x1), (2, .inl x2), (3, .inl x3)], [], zW T' G' S n, 1, 6) (by decide +kernel) rfl ⟨trivial, trivial, trivial⟩ ?_
      exact z_lvs (lv' := [(0, z_r 0), (1, .inl x1), (2, .inl x2), (3, .inl x3), (4, .inl (x4 + 1))]) [1, 2, 3, 4, 0] rfl (hC x3 (x4 + 1) K hs)
    · rw [if_pos c126] at K hs
      refine z_go2 M.1.1 129 [(.aload_n 0, 1), (.getfield 12, 3), (.getfield 322, 3), (.iload 4, 2)] (138, [(0, z_r 0), (1, .inl x1), (2, .inl x2), (3, .inl x3), (4, .inl x4)], [.inl x4, z_r 8], zW T' G' S n, 1, 6) (by decide +kernel) rfl ⟨trivial, rfl, rfl, trivial, trivial⟩ ?_
      refine z_callS M.1.1 (av := [z_r 8, .inl x4]) (st := []) (by decide +kernel) (c_at (zW T' G' S n) 8 900 rfl (by decide) x4) M.1.2.1 zl_T_134 zs_T_at ⟨by decide, by decide, by decide, by decide⟩ rfl (Nat.le_of_ble_eq_true rfl) (fun v w' hv => ?_)
      obtain ⟨rfl, rfl⟩ := hv
      show z_G X zm_T_stateOn (141, [(0, z_r 0), (1, .inl x1), (2, .inl x2), (3, .inl x3), (4, .inl x4)], [.inl (zAt (S 8) 900 x4)], zW T' G' S n, 1, 6)
      refine z_go2 M.1.1 141 [(.istore_n 3, 1), (.iinc 4 1, 3), (.goto (-113), 3)] (32, [(4, .inl (x4 + 1)), (3, .inl (zAt (S 8) 900 x4)), (0, z_r 0), (1, .inl x1), (2, .inl x2)], [], zW T' G' S n, 1, 6) (by decide +kernel) rfl ⟨trivial, trivial, trivial, trivial⟩ ?_
      exact z_lvs (lv' := [(0, z_r 0), (1, .inl x1), (2, .inl x2), (3, .inl (zAt (S 8) 900 x4)), (4, .inl (x4 + 1))]) [2, 3, 4, 1, 0] rfl (hC (zAt (S 8) 900 x4) (x4 + 1) K hs)
def F_T_stateOn_L32 (S : (Nat → Nat → Int32)) (x1 : Int32) (x2 : Int32) : Nat → Int32 → Int32 → (Int32)
  | 0, x3, x4 => x3
  | f + 1, x3, x4 => (if (S 1 7) ≤ x4 then x3 else (if x2 < (zAt (S 2) 900 x4) then x3 else (if (zAt (S 4) 900 x4) = x1 then (if (zAt (S 5) 900 x4) = 13 then ((F_T_stateOn_L32 S x1 x2 f) 0 (x4 + 1)) else (F_T_stateOn_l32_98 (F_T_stateOn_L32 S x1 x2 f) S x1 x2 x3 x4)) else (F_T_stateOn_l32_98 (F_T_stateOn_L32 S x1 x2 f) S x1 x2 x3 x4))))
def Sf_T_stateOn_L32 (S : (Nat → Nat → Int32)) (x1 : Int32) (x2 : Int32) : Nat → Int32 → Int32 → Prop
  | 0, _, _ => False
  | f + 1, x3, x4 => (if (S 1 7) ≤ x4 then True else (if x2 < (zAt (S 2) 900 x4) then True else (if (zAt (S 4) 900 x4) = x1 then (if (zAt (S 5) 900 x4) = 13 then ((Sf_T_stateOn_L32 S x1 x2 f) 0 (x4 + 1)) else (Sf_T_stateOn_l32_98 (F_T_stateOn_L32 S x1 x2 f) (Sf_T_stateOn_L32 S x1 x2 f) S x1 x2 x3 x4)) else (Sf_T_stateOn_l32_98 (F_T_stateOn_L32 S x1 x2 f) (Sf_T_stateOn_L32 S x1 x2 f) S x1 x2 x3 x4))))
theorem t_T_stateOn_L32 {X : z_X} {Post : Option z_V → z_W → Prop} {PX : String → z_W → Prop} (M : z_MX X zm_T_stateOn rm_T_stateOn Post PX) {T' : Nat → Nat × Nat} {G' : Nat → Nat → Option Nat} {n : Nat} {Q : (Int32) → Prop} (S : (Nat → Nat → Int32))  (x1 : Int32) (x2 : Int32) (hE : ∀ (y3 : Int32), Q y3 → z_G X zm_T_stateOn (148, [(3, .inl y3)], [], zW T' G' S n, 1, 6)) (f : Nat) : ∀ (x3 : Int32) (x4 : Int32), Q (F_T_stateOn_L32 S x1 x2 f x3 x4) → Sf_T_stateOn_L32 S x1 x2 f x3 x4 → z_G X zm_T_stateOn (32, [(0, z_r 0), (1, .inl x1), (2, .inl x2), (3, .inl x3), (4, .inl x4)], [], zW T' G' S n, 1, 6) := by
  induction f with
  | zero => intro x3 x4 K hs; exact False.elim hs
  | succ f hC =>
    intro x3 x4 K hs
    rw [F_T_stateOn_L32] at K
    rw [Sf_T_stateOn_L32] at hs
    refine z_go2 M.1.1 32 [(.iload 4, 2), (.aload_n 0, 1), (.getfield 12, 3), (.getfield 118, 3)] (41, [(0, z_r 0), (1, .inl x1), (2, .inl x2), (3, .inl x3), (4, .inl x4)], [.inl (S 1 7), .inl x4], zW T' G' S n, 1, 6) (by decide +kernel) rfl ⟨trivial, trivial, rfl, rfl, trivial⟩ ?_
    refine z_icmp_ge 148 M.1.1 (off := 107) (by decide +kernel) (by decide) (fun c41 => ?_) (fun c41 => ?_)
    · rw [if_pos c41] at K hs
      exact z_lvs (lv' := [(3, .inl x3)]) [3] rfl (hE x3 K)
    · rw [if_neg c41] at K hs
      refine z_go2 M.1.1 44 [(.aload_n 0, 1), (.getfield 12, 3), (.getfield 313, 3), (.iload 4, 2)] (53, [(0, z_r 0), (1, .inl x1), (2, .inl x2), (3, .inl x3), (4, .inl x4)], [.inl x4, z_r 2], zW T' G' S n, 1, 6) (by decide +kernel) rfl ⟨trivial, rfl, rfl, trivial, trivial⟩ ?_
      refine z_callS M.1.1 (av := [z_r 2, .inl x4]) (st := []) (by decide +kernel) (c_at (zW T' G' S n) 2 900 rfl (by decide) x4) M.1.2.1 zl_T_134 zs_T_at ⟨by decide, by decide, by decide, by decide⟩ rfl (Nat.le_of_ble_eq_true rfl) (fun v w' hv => ?_)
      obtain ⟨rfl, rfl⟩ := hv
      show z_G X zm_T_stateOn (56, [(0, z_r 0), (1, .inl x1), (2, .inl x2), (3, .inl x3), (4, .inl x4)], [.inl (zAt (S 2) 900 x4)], zW T' G' S n, 1, 6)
      refine z_go2 M.1.1 56 [(.iload_n 2, 1)] (57, [(0, z_r 0), (1, .inl x1), (2, .inl x2), (3, .inl x3), (4, .inl x4)], [.inl x2, .inl (zAt (S 2) 900 x4)], zW T' G' S n, 1, 6) (by decide +kernel) rfl ⟨trivial, trivial⟩ ?_
      refine z_icmp_gt 148 M.1.1 (off := 91) (by decide +kernel) (by decide) (fun c57 => ?_) (fun c57 => ?_)
      · rw [if_pos c57] at K hs
        exact z_lvs (lv' := [(3, .inl x3)]) [3] rfl (hE x3 K)
      · rw [if_neg c57] at K hs
        refine z_go2 M.1.1 60 [(.aload_n 0, 1), (.getfield 12, 3), (.getfield 316, 3), (.iload 4, 2)] (69, [(0, z_r 0), (1, .inl x1), (2, .inl x2), (3, .inl x3), (4, .inl x4)], [.inl x4, z_r 4], zW T' G' S n, 1, 6) (by decide +kernel) rfl ⟨trivial, rfl, rfl, trivial, trivial⟩ ?_
        refine z_callS M.1.1 (av := [z_r 4, .inl x4]) (st := []) (by decide +kernel) (c_at (zW T' G' S n) 4 900 rfl (by decide) x4) M.1.2.1 zl_T_134 zs_T_at ⟨by decide, by decide, by decide, by decide⟩ rfl (Nat.le_of_ble_eq_true rfl) (fun v w' hv => ?_)
        obtain ⟨rfl, rfl⟩ := hv
        show z_G X zm_T_stateOn (72, [(0, z_r 0), (1, .inl x1), (2, .inl x2), (3, .inl x3), (4, .inl x4)], [.inl (zAt (S 4) 900 x4)], zW T' G' S n, 1, 6)
        refine z_go2 M.1.1 72 [(.iload_n 1, 1)] (73, [(0, z_r 0), (1, .inl x1), (2, .inl x2), (3, .inl x3), (4, .inl x4)], [.inl x1, .inl (zAt (S 4) 900 x4)], zW T' G' S n, 1, 6) (by decide +kernel) rfl ⟨trivial, trivial⟩ ?_
        refine z_icmp_ne 98 M.1.1 (off := 25) (by decide +kernel) (by decide) (fun c73 => ?_) (fun c73 => ?_)
        · rw [if_neg c73] at K hs
          exact z_lvs (lv' := [(0, z_r 0), (1, .inl x1), (2, .inl x2), (3, .inl x3), (4, .inl x4)]) [0, 1, 2, 3, 4] rfl (t_T_stateOn_l32_98 M (F_T_stateOn_L32 S x1 x2 f) (Sf_T_stateOn_L32 S x1 x2 f) S x1 x2 x3 x4 hE hC K hs)
        · rw [if_pos c73] at K hs
          refine z_go2 M.1.1 76 [(.aload_n 0, 1), (.getfield 12, 3), (.getfield 319, 3), (.iload 4, 2)] (85, [(0, z_r 0), (1, .inl x1), (2, .inl x2), (3, .inl x3), (4, .inl x4)], [.inl x4, z_r 5], zW T' G' S n, 1, 6) (by decide +kernel) rfl ⟨trivial, rfl, rfl, trivial, trivial⟩ ?_
          refine z_callS M.1.1 (av := [z_r 5, .inl x4]) (st := []) (by decide +kernel) (c_at (zW T' G' S n) 5 900 rfl (by decide) x4) M.1.2.1 zl_T_134 zs_T_at ⟨by decide, by decide, by decide, by decide⟩ rfl (Nat.le_of_ble_eq_true rfl) (fun v w' hv => ?_)
          obtain ⟨rfl, rfl⟩ := hv
          show z_G X zm_T_stateOn (88, [(0, z_r 0), (1, .inl x1), (2, .inl x2), (3, .inl x3), (4, .inl x4)], [.inl (zAt (S 5) 900 x4)], zW T' G' S n, 1, 6)
          refine z_go2 M.1.1 88 [(.bipush 13, 2)] (90, [(0, z_r 0), (1, .inl x1), (2, .inl x2), (3, .inl x3), (4, .inl x4)], [.inl 13, .inl (zAt (S 5) 900 x4)], zW T' G' S n, 1, 6) (by decide +kernel) rfl ⟨trivial, trivial⟩ ?_
          refine z_icmp_ne 98 M.1.1 (off := 8) (by decide +kernel) (by decide) (fun c90 => ?_) (fun c90 => ?_)
          · rw [if_neg c90] at K hs
            exact z_lvs (lv' := [(0, z_r 0), (1, .inl x1), (2, .inl x2), (3, .inl x3), (4, .inl x4)]) [0, 1, 2, 3, 4] rfl (t_T_stateOn_l32_98 M (F_T_stateOn_L32 S x1 x2 f) (Sf_T_stateOn_L32 S x1 x2 f) S x1 x2 x3 x4 hE hC K hs)
          · rw [if_pos c90] at K hs
            refine z_go2 M.1.1 93 [(.iconst 0, 1), (.istore_n 3, 1), (.goto 47, 3), (.iinc 4 1, 3), (.goto (-113), 3)] (32, [(4, .inl (x4 + 1)), (3, .inl 0), (0, z_r 0), (1, .inl x1), (2, .inl x2)], [], zW T' G' S n, 1, 6) (by decide +kernel) rfl ⟨trivial, trivial, trivial, trivial, trivial, trivial⟩ ?_
            exact z_lvs (lv' := [(0, z_r 0), (1, .inl x1), (2, .inl x2), (3, .inl 0), (4, .inl (x4 + 1))]) [2, 3, 4, 1, 0] rfl (hC 0 (x4 + 1) K hs)
def F_T_stateOn (S : (Nat → Nat → Int32)) (p1 : Int32) (p2 : Int32) : ((String ⊕ Int32) × (Nat → Nat → Int32)) := (if (F_World_has 9 S p1) = 0 then (.inl "java/lang/IndexOutOfBoundsException", S) else (if (F_T_isDay S p2) = 0 then (.inl "java/lang/IndexOutOfBoundsException", S) else (match F_T_stateOn_L32 S p1 p2 1300 (-1) 0 with | y3_32 => (.inr y3_32, S))))
def Sf_T_stateOn (S : (Nat → Nat → Int32)) (p1 : Int32) (p2 : Int32) : Prop := (if (F_World_has 9 S p1) = 0 then True else (if (F_T_isDay S p2) = 0 then True else (Sf_T_stateOn_L32 S p1 p2 1300 (-1) 0 ∧ True)))
theorem c_T_stateOn (T' : Nat → Nat × Nat) (G' : Nat → Nat → Option Nat) (S : (Nat → Nat → Int32)) (n : Nat) (p1 : Int32) (p2 : Int32) (hs : Sf_T_stateOn S p1 p2) : z_RunX rm_T_stateOn zm_T_stateOn [z_r 0, .inl p1, .inl p2] (zW T' G' S n) (fun v w' => ∃ x S', F_T_stateOn S p1 p2 = (.inr x, S') ∧ v = some (.inl x) ∧ w' = zW T' G' S' n) (fun E w' => ∃ S' n2, n ≤ n2 ∧ F_T_stateOn S p1 p2 = (.inl E, S') ∧ w' = zW T' G' S' n2) := by
  refine z_bodyX (by decide) zf_T_ok (Nat.le_of_ble_eq_true rfl) (fun X M => ?_)
  obtain ⟨Q, hQ, hX, K⟩ : ∃ Q : ((String ⊕ Int32) × (Nat → Nat → Int32)) → Prop, (∀ v S', Q (.inr v, S') → ∃ x S'', F_T_stateOn S p1 p2 = (.inr x, S'') ∧ some (.inl v : z_V) = some (.inl x) ∧ zW T' G' S' n = zW T' G' S'' n) ∧ (∀ E S' (n2 : Nat), n ≤ n2 → Q (.inl E, S') → ∃ S'' n3, n ≤ n3 ∧ F_T_stateOn S p1 p2 = (.inl E, S'') ∧ zW T' G' S' n2 = zW T' G' S'' n3) ∧ Q (F_T_stateOn S p1 p2) := ⟨fun o => F_T_stateOn S p1 p2 = o, fun v S' h => ⟨v, S', h, rfl, rfl⟩, fun E S' n2 hn h => ⟨S', n2, hn, h, rfl⟩, rfl⟩
  show z_G X zm_T_stateOn (0, [(0, z_r 0), (1, .inl p1), (2, .inl p2)], [], zW T' G' S n, 0, 0)
  unfold F_T_stateOn at K
  unfold Sf_T_stateOn at hs
  refine z_go2 M.1.1 0 [(.aload_n 0, 1), (.getfield 19, 3), (.iload_n 1, 1)] (5, [(0, z_r 0), (1, .inl p1), (2, .inl p2)], [.inl p1, z_r 9], zW T' G' S n, 0, 0) (by decide +kernel) rfl ⟨trivial, rfl, trivial, trivial⟩ ?_
  refine z_callV M.1.1 (av := [.inl p1]) (st := []) (a := 9) (ci := 10) (by decide +kernel) (c_World_has_9 T' G' S n p1) M.1.2.1 zl_T_210 zv_World_has rfl rfl rfl ⟨by decide, by decide, by decide, by decide⟩ rfl (Nat.le_of_ble_eq_true rfl) (fun v w' hv => ?_)
  obtain ⟨rfl, rfl⟩ := hv
  show z_G X zm_T_stateOn (8, [(0, z_r 0), (1, .inl p1), (2, .inl p2)], [.inl (F_World_has 9 S p1)], zW T' G' S n, 0, 0)
  refine z_if_eq 23 M.1.1 (off := 15) (by decide +kernel) (by decide) (fun c8 => ?_) (fun c8 => ?_)
  · rw [if_pos c8] at K hs
    refine z_go2 M.1.1 23 [(.iconst 0, 1)] (24, [(0, z_r 0), (1, .inl p1), (2, .inl p2)], [.inl 0], zW T' G' S n, 0, 0) (by decide +kernel) rfl ⟨trivial, trivial⟩ ?_
    refine z_callSX M.1.1 (av := [.inl 0]) (st := []) (by decide +kernel) (c_mustExist T' G' S n 0) M.1.2.1 zl_T_104 (z_wi 698 (by decide +kernel) rfl) zs_T_mustExist ⟨by decide, by decide, by decide, by decide⟩ rfl (Nat.le_of_ble_eq_true rfl) (fun E w' hx => ?_) (fun v w' hv => ?_)
    · obtain ⟨h0, rfl, n2, hn2, rfl⟩ := hx
      exact M.2 _ _ (hX _ _ n2 hn2 K) (Nat.le_of_ble_eq_true rfl) (Nat.le_of_ble_eq_true rfl)
    · obtain ⟨h0, rfl, rfl⟩ := hv
      exact absurd rfl h0
  · rw [if_neg c8] at K hs
    refine z_go2 M.1.1 11 [(.aload_n 0, 1), (.iload_n 2, 1)] (13, [(0, z_r 0), (1, .inl p1), (2, .inl p2)], [.inl p2, z_r 0], zW T' G' S n, 0, 0) (by decide +kernel) rfl ⟨trivial, trivial, trivial⟩ ?_
    refine z_callV M.1.1 (av := [.inl p2]) (st := []) (a := 0) (ci := 11) (by decide +kernel) (c_T_isDay T' G' S n p2) M.1.2.1 zl_T_293 zv_T_isDay rfl rfl rfl ⟨by decide, by decide, by decide, by decide⟩ rfl (Nat.le_of_ble_eq_true rfl) (fun v w' hv => ?_)
    obtain ⟨rfl, rfl⟩ := hv
    show z_G X zm_T_stateOn (16, [(0, z_r 0), (1, .inl p1), (2, .inl p2)], [.inl (F_T_isDay S p2)], zW T' G' S n, 0, 0)
    refine z_if_eq 23 M.1.1 (off := 7) (by decide +kernel) (by decide) (fun c16 => ?_) (fun c16 => ?_)
    · rw [if_pos c16] at K hs
      refine z_go2 M.1.1 23 [(.iconst 0, 1)] (24, [(0, z_r 0), (1, .inl p1), (2, .inl p2)], [.inl 0], zW T' G' S n, 0, 0) (by decide +kernel) rfl ⟨trivial, trivial⟩ ?_
      refine z_callSX M.1.1 (av := [.inl 0]) (st := []) (by decide +kernel) (c_mustExist T' G' S n 0) M.1.2.1 zl_T_104 (z_wi 698 (by decide +kernel) rfl) zs_T_mustExist ⟨by decide, by decide, by decide, by decide⟩ rfl (Nat.le_of_ble_eq_true rfl) (fun E w' hx => ?_) (fun v w' hv => ?_)
      · obtain ⟨h0, rfl, n2, hn2, rfl⟩ := hx
        exact M.2 _ _ (hX _ _ n2 hn2 K) (Nat.le_of_ble_eq_true rfl) (Nat.le_of_ble_eq_true rfl)
      · obtain ⟨h0, rfl, rfl⟩ := hv
        exact absurd rfl h0
    · rw [if_neg c16] at K hs
      refine z_go2 M.1.1 19 [(.iconst 1, 1), (.goto 4, 3)] (24, [(0, z_r 0), (1, .inl p1), (2, .inl p2)], [.inl 1], zW T' G' S n, 0, 0) (by decide +kernel) rfl ⟨trivial, trivial, trivial⟩ ?_
      refine z_callSX M.1.1 (av := [.inl 1]) (st := []) (by decide +kernel) (c_mustExist T' G' S n 1) M.1.2.1 zl_T_104 (z_wi 698 (by decide +kernel) rfl) zs_T_mustExist ⟨by decide, by decide, by decide, by decide⟩ rfl (Nat.le_of_ble_eq_true rfl) (fun E w' hx => ?_) (fun v w' hv => ?_)
      · obtain ⟨h0, rfl, n2, hn2, rfl⟩ := hx
        exact absurd h0 (by decide)
      · obtain ⟨h0, rfl, rfl⟩ := hv
        show z_G X zm_T_stateOn (27, [(0, z_r 0), (1, .inl p1), (2, .inl p2)], [], zW T' G' S n, 1, 6)
        refine z_go2 M.1.1 27 [(.iconst (-1), 1), (.istore_n 3, 1), (.iconst 0, 1), (.istore 4, 2)] (32, [(4, .inl 0), (3, .inl (-1)), (0, z_r 0), (1, .inl p1), (2, .inl p2)], [], zW T' G' S n, 1, 6) (by decide +kernel) rfl ⟨trivial, trivial, trivial, trivial, trivial⟩ ?_
        refine z_lvs (lv' := [(0, z_r 0), (1, .inl p1), (2, .inl p2), (3, .inl (-1)), (4, .inl 0)]) [2, 3, 4, 1, 0] rfl ?_
        refine t_T_stateOn_L32 M (Q := fun o => F_T_stateOn_L32 S p1 p2 1300 (-1) 0 = o) S p1 p2 (fun y3_32 hL32 => ?_) 1300 (-1) 0 rfl hs.1
        replace hs := hs.2
        rw [hL32] at K
        try dsimp only at K
        refine z_go2 M.1.1 148 [(.iload_n 3, 1)] (149, [(3, .inl y3_32)], [.inl y3_32], zW T' G' S n, 1, 6) (by decide +kernel) rfl ⟨trivial, trivial⟩ ?_
        exact z_iret M.1 (by decide +kernel) .int rfl rfl (by decide) (by decide) (hQ _ _ K)

-- TrackHouse.stateOnAnew
abbrev rm_T_stateOnAnew : Room := zx 7 1
def F_T_stateOnAnew_l48_107 (rc : Int32 → Int32 → (Int32)) (S : (Nat → Nat → Int32)) (x1 : Int32) (x2 : Int32) (x3 : Int32) (x4 : Int32) : (Int32) := (if (zAt (S 4) 900 x4) = x1 then (if (zAt (S 5) 900 x4) = 0 then (rc (zAt (S 7) 900 x4) (x4 + (-1))) else (rc x3 (x4 + (-1)))) else (rc x3 (x4 + (-1))))
def Sf_T_stateOnAnew_l48_107 (rc : Int32 → Int32 → (Int32)) (sr : Int32 → Int32 → Prop) (S : (Nat → Nat → Int32)) (x1 : Int32) (x2 : Int32) (x3 : Int32) (x4 : Int32) : Prop := (if (zAt (S 4) 900 x4) = x1 then (if (zAt (S 5) 900 x4) = 0 then (sr (zAt (S 7) 900 x4) (x4 + (-1))) else (sr x3 (x4 + (-1)))) else (sr x3 (x4 + (-1))))
theorem t_T_stateOnAnew_l48_107 {X : z_X} {Post : Option z_V → z_W → Prop} {PX : String → z_W → Prop} (M : z_MX X zm_T_stateOnAnew rm_T_stateOnAnew Post PX) {T' : Nat → Nat × Nat} {G' : Nat → Nat → Option Nat} {n : Nat} {Q : (Int32) → Prop} (rc : Int32 → Int32 → (Int32)) (sr : Int32 → Int32 → Prop) (S : (Nat → Nat → Int32)) (x1 : Int32) (x2 : Int32) (x3 : Int32) (x4 : Int32) (hE : ∀ (y3 : Int32), Q y3 → z_G X zm_T_stateOnAnew (157, [(3, .inl y3)], [], zW T' G' S n, 1, 6)) (hC : ∀ (x3 : Int32) (x4 : Int32), Q (rc x3 x4) → sr x3 x4 → z_G X zm_T_stateOnAnew (48, [(0, z_r 0), (1, .inl x1), (2, .inl x2), (3, .inl x3), (4, .inl x4)], [], zW T' G' S n, 1, 6)) (K : Q (F_T_stateOnAnew_l48_107 rc S x1 x2 x3 x4)) (hs : Sf_T_stateOnAnew_l48_107 rc sr S x1 x2 x3 x4) : z_G X zm_T_stateOnAnew (107, [(0, z_r 0), (1, .inl x1), (2, .inl x2), (3, .inl x3), (4, .inl x4)], [], zW T' G' S n, 1, 6) := by
  unfold F_T_stateOnAnew_l48_107 at K
  unfold Sf_T_stateOnAnew_l48_107 at hs
  refine z_go2 M.1.1 107 [(.aload_n 0, 1), (.getfield 12, 3), (.getfield 316, 3), (.iload 4, 2)] (116, [(0, z_r 0), (1, .inl x1), (2, .inl x2), (3, .inl x3), (4, .inl x4)], [.inl x4, z_r 4], zW T' G' S n, 1, 6) (by decide +kernel) rfl ⟨trivial, rfl, rfl, trivial, trivial⟩ ?_
  refine z_callS M.1.1 (av := [z_r 4, .inl x4]) (st := []) (by decide +kernel) (c_at (zW T' G' S n) 4 900 rfl (by decide) x4) M.1.2.1 zl_T_134 zs_T_at ⟨by decide, by decide, by decide, by decide⟩ rfl (Nat.le_of_ble_eq_true rfl) (fun v w' hv => ?_)
  obtain ⟨rfl, rfl⟩ := hv
  show z_G X zm_T_stateOnAnew (119, [(0, z_r 0), (1, .inl x1), (2, .inl x2), (3, .inl x3), (4, .inl x4)], [.inl (zAt (S 4) 900 x4)], zW T' G' S n, 1, 6)
  refine z_go2 M.1.1 119 [(.iload_n 1, 1)] (120, [(0, z_r 0), (1, .inl x1), (2, .inl x2), (3, .inl x3), (4, .inl x4)], [.inl x1, .inl (zAt (S 4) 900 x4)], zW T' G' S n, 1, 6) (by decide +kernel) rfl ⟨trivial, trivial⟩ ?_
  refine z_icmp_ne 151 M.1.1 (off := 31) (by decide +kernel) (by decide) (fun c120 => ?_) (fun c120 => ?_)
  · rw [if_neg c120] at K hs
    refine z_go2 M.1.1 151 [(.iinc 4 (-1), 3), (.goto (-106), 3)] (48, [(4, .inl (x4 + (-1))), (0, z_r 0), (1, .inl x1), (2, .inl x2), (3, .inl x3)], [], zW T' G' S n, 1, 6) (by decide +kernel) rfl ⟨trivial, trivial, trivial⟩ ?_
    exact z_lvs (lv' := [(0, z_r 0), (1, .inl x1), (2, .inl x2), (3, .inl x3), (4, .inl (x4 + (-1)))]) [1, 2, 3, 4, 0] rfl (hC x3 (x4 + (-1)) K hs)
  · rw [if_pos c120] at K hs
    refine z_go2 M.1.1 123 [(.aload_n 0, 1), (.getfield 12, 3), (.getfield 319, 3), (.iload 4, 2)] (132, [(0, z_r 0), (1, .inl x1), (2, .inl x2), (3, .inl x3), (4, .inl x4)], [.inl x4, z_r 5], zW T' G' S n, 1, 6) (by decide +kernel) rfl ⟨trivial, rfl, rfl, trivial, trivial⟩ ?_
    refine z_callS M.1.1 (av := [z_r 5, .inl x4]) (st := []) (by decide +kernel) (c_at (zW T' G' S n) 5 900 rfl (by decide) x4) M.1.2.1 zl_T_134 zs_T_at ⟨by decide, by decide, by decide, by decide⟩ rfl (Nat.le_of_ble_eq_true rfl) (fun v w' hv => ?_)
    obtain ⟨rfl, rfl⟩ := hv
    show z_G X zm_T_stateOnAnew (135, [(0, z_r 0), (1, .inl x1), (2, .inl x2), (3, .inl x3), (4, .inl x4)], [.inl (zAt (S 5) 900 x4)], zW T' G' S n, 1, 6)
    refine z_if_ne 151 M.1.1 (off := 16) (by decide +kernel) (by decide) (fun c135 => ?_) (fun c135 => ?_)
    · rw [if_neg c135] at K hs
      refine z_go2 M.1.1 151 [(.iinc 4 (-1), 3), (.goto (-106), 3)] (48, [(4, .inl (x4 + (-1))), (0, z_r 0), (1, .inl x1), (2, .inl x2), (3, .inl x3)], [], zW T' G' S n, 1, 6) (by decide +kernel) rfl ⟨trivial, trivial, trivial⟩ ?_
      exact z_lvs (lv' := [(0, z_r 0), (1, .inl x1), (2, .inl x2), (3, .inl x3), (4, .inl (x4 + (-1)))]) [1, 2, 3, 4, 0] rfl (hC x3 (x4 + (-1)) K hs)
    · rw [if_pos c135] at K hs
      refine z_go2 M.1.1 138 [(.aload_n 0, 1), (.getfield 12, 3), (.getfield 325, 3), (.iload 4, 2)] (147, [(0, z_r 0), (1, .inl x1), (2, .inl x2), (3, .inl x3), (4, .inl x4)], [.inl x4, z_r 7], zW T' G' S n, 1, 6) (by decide +kernel) rfl ⟨trivial, rfl, rfl, trivial, trivial⟩ ?_
      refine z_callS M.1.1 (av := [z_r 7, .inl x4]) (st := []) (by decide +kernel) (c_at (zW T' G' S n) 7 900 rfl (by decide) x4) M.1.2.1 zl_T_134 zs_T_at ⟨by decide, by decide, by decide, by decide⟩ rfl (Nat.le_of_ble_eq_true rfl) (fun v w' hv => ?_)
      obtain ⟨rfl, rfl⟩ := hv
      show z_G X zm_T_stateOnAnew (150, [(0, z_r 0), (1, .inl x1), (2, .inl x2), (3, .inl x3), (4, .inl x4)], [.inl (zAt (S 7) 900 x4)], zW T' G' S n, 1, 6)
      refine z_go2 M.1.1 150 [(.istore_n 3, 1), (.iinc 4 (-1), 3), (.goto (-106), 3)] (48, [(4, .inl (x4 + (-1))), (3, .inl (zAt (S 7) 900 x4)), (0, z_r 0), (1, .inl x1), (2, .inl x2)], [], zW T' G' S n, 1, 6) (by decide +kernel) rfl ⟨trivial, trivial, trivial, trivial⟩ ?_
      exact z_lvs (lv' := [(0, z_r 0), (1, .inl x1), (2, .inl x2), (3, .inl (zAt (S 7) 900 x4)), (4, .inl (x4 + (-1)))]) [2, 3, 4, 1, 0] rfl (hC (zAt (S 7) 900 x4) (x4 + (-1)) K hs)
def F_T_stateOnAnew_L48 (S : (Nat → Nat → Int32)) (x1 : Int32) (x2 : Int32) : Nat → Int32 → Int32 → (Int32)
  | 0, x3, x4 => x3
  | f + 1, x3, x4 => (if x4 < 0 then x3 else (if (zAt (S 2) 900 x4) ≤ x2 then x3 else (if (zAt (S 4) 900 x4) = x1 then (if (zAt (S 5) 900 x4) = 13 then ((F_T_stateOnAnew_L48 S x1 x2 f) (-1) (x4 + (-1))) else (F_T_stateOnAnew_l48_107 (F_T_stateOnAnew_L48 S x1 x2 f) S x1 x2 x3 x4)) else (F_T_stateOnAnew_l48_107 (F_T_stateOnAnew_L48 S x1 x2 f) S x1 x2 x3 x4))))
def Sf_T_stateOnAnew_L48 (S : (Nat → Nat → Int32)) (x1 : Int32) (x2 : Int32) : Nat → Int32 → Int32 → Prop
  | 0, _, _ => False
  | f + 1, x3, x4 => (if x4 < 0 then True else (if (zAt (S 2) 900 x4) ≤ x2 then True else (if (zAt (S 4) 900 x4) = x1 then (if (zAt (S 5) 900 x4) = 13 then ((Sf_T_stateOnAnew_L48 S x1 x2 f) (-1) (x4 + (-1))) else (Sf_T_stateOnAnew_l48_107 (F_T_stateOnAnew_L48 S x1 x2 f) (Sf_T_stateOnAnew_L48 S x1 x2 f) S x1 x2 x3 x4)) else (Sf_T_stateOnAnew_l48_107 (F_T_stateOnAnew_L48 S x1 x2 f) (Sf_T_stateOnAnew_L48 S x1 x2 f) S x1 x2 x3 x4))))
theorem t_T_stateOnAnew_L48 {X : z_X} {Post : Option z_V → z_W → Prop} {PX : String → z_W → Prop} (M : z_MX X zm_T_stateOnAnew rm_T_stateOnAnew Post PX) {T' : Nat → Nat × Nat} {G' : Nat → Nat → Option Nat} {n : Nat} {Q : (Int32) → Prop} (S : (Nat → Nat → Int32))  (x1 : Int32) (x2 : Int32) (hE : ∀ (y3 : Int32), Q y3 → z_G X zm_T_stateOnAnew (157, [(3, .inl y3)], [], zW T' G' S n, 1, 6)) (f : Nat) : ∀ (x3 : Int32) (x4 : Int32), Q (F_T_stateOnAnew_L48 S x1 x2 f x3 x4) → Sf_T_stateOnAnew_L48 S x1 x2 f x3 x4 → z_G X zm_T_stateOnAnew (48, [(0, z_r 0), (1, .inl x1), (2, .inl x2), (3, .inl x3), (4, .inl x4)], [], zW T' G' S n, 1, 6) := by
  induction f with
  | zero => intro x3 x4 K hs; exact False.elim hs
  | succ f hC =>
    intro x3 x4 K hs
    rw [F_T_stateOnAnew_L48] at K
    rw [Sf_T_stateOnAnew_L48] at hs
    refine z_go2 M.1.1 48 [(.iload 4, 2)] (50, [(0, z_r 0), (1, .inl x1), (2, .inl x2), (3, .inl x3), (4, .inl x4)], [.inl x4], zW T' G' S n, 1, 6) (by decide +kernel) rfl ⟨trivial, trivial⟩ ?_
    refine z_if_lt 157 M.1.1 (off := 107) (by decide +kernel) (by decide) (fun c50 => ?_) (fun c50 => ?_)
    · rw [if_pos c50] at K hs
      exact z_lvs (lv' := [(3, .inl x3)]) [3] rfl (hE x3 K)
    · rw [if_neg c50] at K hs
      refine z_go2 M.1.1 53 [(.aload_n 0, 1), (.getfield 12, 3), (.getfield 313, 3), (.iload 4, 2)] (62, [(0, z_r 0), (1, .inl x1), (2, .inl x2), (3, .inl x3), (4, .inl x4)], [.inl x4, z_r 2], zW T' G' S n, 1, 6) (by decide +kernel) rfl ⟨trivial, rfl, rfl, trivial, trivial⟩ ?_
      refine z_callS M.1.1 (av := [z_r 2, .inl x4]) (st := []) (by decide +kernel) (c_at (zW T' G' S n) 2 900 rfl (by decide) x4) M.1.2.1 zl_T_134 zs_T_at ⟨by decide, by decide, by decide, by decide⟩ rfl (Nat.le_of_ble_eq_true rfl) (fun v w' hv => ?_)
      obtain ⟨rfl, rfl⟩ := hv
      show z_G X zm_T_stateOnAnew (65, [(0, z_r 0), (1, .inl x1), (2, .inl x2), (3, .inl x3), (4, .inl x4)], [.inl (zAt (S 2) 900 x4)], zW T' G' S n, 1, 6)
      refine z_go2 M.1.1 65 [(.iload_n 2, 1)] (66, [(0, z_r 0), (1, .inl x1), (2, .inl x2), (3, .inl x3), (4, .inl x4)], [.inl x2, .inl (zAt (S 2) 900 x4)], zW T' G' S n, 1, 6) (by decide +kernel) rfl ⟨trivial, trivial⟩ ?_
      refine z_icmp_le 157 M.1.1 (off := 91) (by decide +kernel) (by decide) (fun c66 => ?_) (fun c66 => ?_)
      · rw [if_pos c66] at K hs
        exact z_lvs (lv' := [(3, .inl x3)]) [3] rfl (hE x3 K)
      · rw [if_neg c66] at K hs
        refine z_go2 M.1.1 69 [(.aload_n 0, 1), (.getfield 12, 3), (.getfield 316, 3), (.iload 4, 2)] (78, [(0, z_r 0), (1, .inl x1), (2, .inl x2), (3, .inl x3), (4, .inl x4)], [.inl x4, z_r 4], zW T' G' S n, 1, 6) (by decide +kernel) rfl ⟨trivial, rfl, rfl, trivial, trivial⟩ ?_
        refine z_callS M.1.1 (av := [z_r 4, .inl x4]) (st := []) (by decide +kernel) (c_at (zW T' G' S n) 4 900 rfl (by decide) x4) M.1.2.1 zl_T_134 zs_T_at ⟨by decide, by decide, by decide, by decide⟩ rfl (Nat.le_of_ble_eq_true rfl) (fun v w' hv => ?_)
        obtain ⟨rfl, rfl⟩ := hv
        show z_G X zm_T_stateOnAnew (81, [(0, z_r 0), (1, .inl x1), (2, .inl x2), (3, .inl x3), (4, .inl x4)], [.inl (zAt (S 4) 900 x4)], zW T' G' S n, 1, 6)
        refine z_go2 M.1.1 81 [(.iload_n 1, 1)] (82, [(0, z_r 0), (1, .inl x1), (2, .inl x2), (3, .inl x3), (4, .inl x4)], [.inl x1, .inl (zAt (S 4) 900 x4)], zW T' G' S n, 1, 6) (by decide +kernel) rfl ⟨trivial, trivial⟩ ?_
        refine z_icmp_ne 107 M.1.1 (off := 25) (by decide +kernel) (by decide) (fun c82 => ?_) (fun c82 => ?_)
        · rw [if_neg c82] at K hs
          exact z_lvs (lv' := [(0, z_r 0), (1, .inl x1), (2, .inl x2), (3, .inl x3), (4, .inl x4)]) [0, 1, 2, 3, 4] rfl (t_T_stateOnAnew_l48_107 M (F_T_stateOnAnew_L48 S x1 x2 f) (Sf_T_stateOnAnew_L48 S x1 x2 f) S x1 x2 x3 x4 hE hC K hs)
        · rw [if_pos c82] at K hs
          refine z_go2 M.1.1 85 [(.aload_n 0, 1), (.getfield 12, 3), (.getfield 319, 3), (.iload 4, 2)] (94, [(0, z_r 0), (1, .inl x1), (2, .inl x2), (3, .inl x3), (4, .inl x4)], [.inl x4, z_r 5], zW T' G' S n, 1, 6) (by decide +kernel) rfl ⟨trivial, rfl, rfl, trivial, trivial⟩ ?_
          refine z_callS M.1.1 (av := [z_r 5, .inl x4]) (st := []) (by decide +kernel) (c_at (zW T' G' S n) 5 900 rfl (by decide) x4) M.1.2.1 zl_T_134 zs_T_at ⟨by decide, by decide, by decide, by decide⟩ rfl (Nat.le_of_ble_eq_true rfl) (fun v w' hv => ?_)
          obtain ⟨rfl, rfl⟩ := hv
          show z_G X zm_T_stateOnAnew (97, [(0, z_r 0), (1, .inl x1), (2, .inl x2), (3, .inl x3), (4, .inl x4)], [.inl (zAt (S 5) 900 x4)], zW T' G' S n, 1, 6)
          refine z_go2 M.1.1 97 [(.bipush 13, 2)] (99, [(0, z_r 0), (1, .inl x1), (2, .inl x2), (3, .inl x3), (4, .inl x4)], [.inl 13, .inl (zAt (S 5) 900 x4)], zW T' G' S n, 1, 6) (by decide +kernel) rfl ⟨trivial, trivial⟩ ?_
          refine z_icmp_ne 107 M.1.1 (off := 8) (by decide +kernel) (by decide) (fun c99 => ?_) (fun c99 => ?_)
          · rw [if_neg c99] at K hs
            exact z_lvs (lv' := [(0, z_r 0), (1, .inl x1), (2, .inl x2), (3, .inl x3), (4, .inl x4)]) [0, 1, 2, 3, 4] rfl (t_T_stateOnAnew_l48_107 M (F_T_stateOnAnew_L48 S x1 x2 f) (Sf_T_stateOnAnew_L48 S x1 x2 f) S x1 x2 x3 x4 hE hC K hs)
          · rw [if_pos c99] at K hs
            refine z_go2 M.1.1 102 [(.iconst (-1), 1), (.istore_n 3, 1), (.goto 47, 3), (.iinc 4 (-1), 3), (.goto (-106), 3)] (48, [(4, .inl (x4 + (-1))), (3, .inl (-1)), (0, z_r 0), (1, .inl x1), (2, .inl x2)], [], zW T' G' S n, 1, 6) (by decide +kernel) rfl ⟨trivial, trivial, trivial, trivial, trivial, trivial⟩ ?_
            exact z_lvs (lv' := [(0, z_r 0), (1, .inl x1), (2, .inl x2), (3, .inl (-1)), (4, .inl (x4 + (-1)))]) [2, 3, 4, 1, 0] rfl (hC (-1) (x4 + (-1)) K hs)
def F_T_stateOnAnew (S : (Nat → Nat → Int32)) (p1 : Int32) (p2 : Int32) : ((String ⊕ Int32) × (Nat → Nat → Int32)) := (if (F_World_has 9 S p1) = 0 then (.inl "java/lang/IndexOutOfBoundsException", S) else (if (F_T_isDay S p2) = 0 then (.inl "java/lang/IndexOutOfBoundsException", S) else (match F_T_stateOnAnew_L48 S p1 p2 1300 (F_World_cell 9 S p1 0) ((S 1 7) - 1) with | y3_48 => (.inr y3_48, S))))
def Sf_T_stateOnAnew (S : (Nat → Nat → Int32)) (p1 : Int32) (p2 : Int32) : Prop := (if (F_World_has 9 S p1) = 0 then True else (if (F_T_isDay S p2) = 0 then True else (Sf_World_cell 9 S p1 0 ∧ (Sf_T_stateOnAnew_L48 S p1 p2 1300 (F_World_cell 9 S p1 0) ((S 1 7) - 1) ∧ True))))
theorem c_T_stateOnAnew (T' : Nat → Nat × Nat) (G' : Nat → Nat → Option Nat) (S : (Nat → Nat → Int32)) (n : Nat) (p1 : Int32) (p2 : Int32) (hs : Sf_T_stateOnAnew S p1 p2) : z_RunX rm_T_stateOnAnew zm_T_stateOnAnew [z_r 0, .inl p1, .inl p2] (zW T' G' S n) (fun v w' => ∃ x S', F_T_stateOnAnew S p1 p2 = (.inr x, S') ∧ v = some (.inl x) ∧ w' = zW T' G' S' n) (fun E w' => ∃ S' n2, n ≤ n2 ∧ F_T_stateOnAnew S p1 p2 = (.inl E, S') ∧ w' = zW T' G' S' n2) := by
  refine z_bodyX (by decide) zf_T_ok (Nat.le_of_ble_eq_true rfl) (fun X M => ?_)
  obtain ⟨Q, hQ, hX, K⟩ : ∃ Q : ((String ⊕ Int32) × (Nat → Nat → Int32)) → Prop, (∀ v S', Q (.inr v, S') → ∃ x S'', F_T_stateOnAnew S p1 p2 = (.inr x, S'') ∧ some (.inl v : z_V) = some (.inl x) ∧ zW T' G' S' n = zW T' G' S'' n) ∧ (∀ E S' (n2 : Nat), n ≤ n2 → Q (.inl E, S') → ∃ S'' n3, n ≤ n3 ∧ F_T_stateOnAnew S p1 p2 = (.inl E, S'') ∧ zW T' G' S' n2 = zW T' G' S'' n3) ∧ Q (F_T_stateOnAnew S p1 p2) := ⟨fun o => F_T_stateOnAnew S p1 p2 = o, fun v S' h => ⟨v, S', h, rfl, rfl⟩, fun E S' n2 hn h => ⟨S', n2, hn, h, rfl⟩, rfl⟩
  show z_G X zm_T_stateOnAnew (0, [(0, z_r 0), (1, .inl p1), (2, .inl p2)], [], zW T' G' S n, 0, 0)
  unfold F_T_stateOnAnew at K
  unfold Sf_T_stateOnAnew at hs
  refine z_go2 M.1.1 0 [(.aload_n 0, 1), (.getfield 19, 3), (.iload_n 1, 1)] (5, [(0, z_r 0), (1, .inl p1), (2, .inl p2)], [.inl p1, z_r 9], zW T' G' S n, 0, 0) (by decide +kernel) rfl ⟨trivial, rfl, trivial, trivial⟩ ?_
  refine z_callV M.1.1 (av := [.inl p1]) (st := []) (a := 9) (ci := 10) (by decide +kernel) (c_World_has_9 T' G' S n p1) M.1.2.1 zl_T_210 zv_World_has rfl rfl rfl ⟨by decide, by decide, by decide, by decide⟩ rfl (Nat.le_of_ble_eq_true rfl) (fun v w' hv => ?_)
  obtain ⟨rfl, rfl⟩ := hv
  show z_G X zm_T_stateOnAnew (8, [(0, z_r 0), (1, .inl p1), (2, .inl p2)], [.inl (F_World_has 9 S p1)], zW T' G' S n, 0, 0)
  refine z_if_eq 23 M.1.1 (off := 15) (by decide +kernel) (by decide) (fun c8 => ?_) (fun c8 => ?_)
  · rw [if_pos c8] at K hs
    refine z_go2 M.1.1 23 [(.iconst 0, 1)] (24, [(0, z_r 0), (1, .inl p1), (2, .inl p2)], [.inl 0], zW T' G' S n, 0, 0) (by decide +kernel) rfl ⟨trivial, trivial⟩ ?_
    refine z_callSX M.1.1 (av := [.inl 0]) (st := []) (by decide +kernel) (c_mustExist T' G' S n 0) M.1.2.1 zl_T_104 (z_wi 698 (by decide +kernel) rfl) zs_T_mustExist ⟨by decide, by decide, by decide, by decide⟩ rfl (Nat.le_of_ble_eq_true rfl) (fun E w' hx => ?_) (fun v w' hv => ?_)
    · obtain ⟨h0, rfl, n2, hn2, rfl⟩ := hx
      exact M.2 _ _ (hX _ _ n2 hn2 K) (Nat.le_of_ble_eq_true rfl) (Nat.le_of_ble_eq_true rfl)
    · obtain ⟨h0, rfl, rfl⟩ := hv
      exact absurd rfl h0
  · rw [if_neg c8] at K hs
    refine z_go2 M.1.1 11 [(.aload_n 0, 1), (.iload_n 2, 1)] (13, [(0, z_r 0), (1, .inl p1), (2, .inl p2)], [.inl p2, z_r 0], zW T' G' S n, 0, 0) (by decide +kernel) rfl ⟨trivial, trivial, trivial⟩ ?_
    refine z_callV M.1.1 (av := [.inl p2]) (st := []) (a := 0) (ci := 11) (by decide +kernel) (c_T_isDay T' G' S n p2) M.1.2.1 zl_T_293 zv_T_isDay rfl rfl rfl ⟨by decide, by decide, by decide, by decide⟩ rfl (Nat.le_of_ble_eq_true rfl) (fun v w' hv => ?_)
    obtain ⟨rfl, rfl⟩ := hv
    show z_G X zm_T_stateOnAnew (16, [(0, z_r 0), (1, .inl p1), (2, .inl p2)], [.inl (F_T_isDay S p2)], zW T' G' S n, 0, 0)
    refine z_if_eq 23 M.1.1 (off := 7) (by decide +kernel) (by decide) (fun c16 => ?_) (fun c16 => ?_)
    · rw [if_pos c16] at K hs
      refine z_go2 M.1.1 23 [(.iconst 0, 1)] (24, [(0, z_r 0), (1, .inl p1), (2, .inl p2)], [.inl 0], zW T' G' S n, 0, 0) (by decide +kernel) rfl ⟨trivial, trivial⟩ ?_
      refine z_callSX M.1.1 (av := [.inl 0]) (st := []) (by decide +kernel) (c_mustExist T' G' S n 0) M.1.2.1 zl_T_104 (z_wi 698 (by decide +kernel) rfl) zs_T_mustExist ⟨by decide, by decide, by decide, by decide⟩ rfl (Nat.le_of_ble_eq_true rfl) (fun E w' hx => ?_) (fun v w' hv => ?_)
      · obtain ⟨h0, rfl, n2, hn2, rfl⟩ := hx
        exact M.2 _ _ (hX _ _ n2 hn2 K) (Nat.le_of_ble_eq_true rfl) (Nat.le_of_ble_eq_true rfl)
      · obtain ⟨h0, rfl, rfl⟩ := hv
        exact absurd rfl h0
    · rw [if_neg c16] at K hs
      refine z_go2 M.1.1 19 [(.iconst 1, 1), (.goto 4, 3)] (24, [(0, z_r 0), (1, .inl p1), (2, .inl p2)], [.inl 1], zW T' G' S n, 0, 0) (by decide +kernel) rfl ⟨trivial, trivial, trivial⟩ ?_
      refine z_callSX M.1.1 (av := [.inl 1]) (st := []) (by decide +kernel) (c_mustExist T' G' S n 1) M.1.2.1 zl_T_104 (z_wi 698 (by decide +kernel) rfl) zs_T_mustExist ⟨by decide, by decide, by decide, by decide⟩ rfl (Nat.le_of_ble_eq_true rfl) (fun E w' hx => ?_) (fun v w' hv => ?_)
      · obtain ⟨h0, rfl, n2, hn2, rfl⟩ := hx
        exact absurd h0 (by decide)
      · obtain ⟨h0, rfl, rfl⟩ := hv
        show z_G X zm_T_stateOnAnew (27, [(0, z_r 0), (1, .inl p1), (2, .inl p2)], [], zW T' G' S n, 1, 6)
        refine z_go2 M.1.1 27 [(.aload_n 0, 1), (.getfield 19, 3), (.iload_n 1, 1), (.iconst 0, 1)] (33, [(0, z_r 0), (1, .inl p1), (2, .inl p2)], [.inl 0, .inl p1, z_r 9], zW T' G' S n, 1, 6) (by decide +kernel) rfl ⟨trivial, rfl, trivial, trivial, trivial⟩ ?_
        refine z_callV M.1.1 (av := [.inl p1, .inl 0]) (st := []) (a := 9) (ci := 10) (by decide +kernel) (c_World_cell_9 T' G' S n p1 0 hs.1) M.1.2.1 zl_T_207 zv_World_cell rfl rfl rfl ⟨by decide, by decide, by decide, by decide⟩ rfl (Nat.le_of_ble_eq_true rfl) (fun v w' hv => ?_)
        obtain ⟨rfl, rfl⟩ := hv
        replace hs := hs.2
        show z_G X zm_T_stateOnAnew (36, [(0, z_r 0), (1, .inl p1), (2, .inl p2)], [.inl (F_World_cell 9 S p1 0)], zW T' G' S n, 1, 6)
        refine z_go2 M.1.1 36 [(.istore_n 3, 1), (.aload_n 0, 1), (.getfield 12, 3), (.getfield 118, 3), (.iconst 1, 1), (.isub, 1), (.istore 4, 2)] (48, [(4, .inl ((S 1 7) - 1)), (3, .inl (F_World_cell 9 S p1 0)), (0, z_r 0), (1, .inl p1), (2, .inl p2)], [], zW T' G' S n, 1, 6) (by decide +kernel) rfl ⟨trivial, trivial, rfl, rfl, trivial, trivial, trivial, trivial⟩ ?_
        refine z_lvs (lv' := [(0, z_r 0), (1, .inl p1), (2, .inl p2), (3, .inl (F_World_cell 9 S p1 0)), (4, .inl ((S 1 7) - 1))]) [2, 3, 4, 1, 0] rfl ?_
        refine t_T_stateOnAnew_L48 M (Q := fun o => F_T_stateOnAnew_L48 S p1 p2 1300 (F_World_cell 9 S p1 0) ((S 1 7) - 1) = o) S p1 p2 (fun y3_48 hL48 => ?_) 1300 (F_World_cell 9 S p1 0) ((S 1 7) - 1) rfl hs.1
        replace hs := hs.2
        rw [hL48] at K
        try dsimp only at K
        refine z_go2 M.1.1 157 [(.iload_n 3, 1)] (158, [(3, .inl y3_48)], [.inl y3_48], zW T' G' S n, 1, 6) (by decide +kernel) rfl ⟨trivial, trivial⟩ ?_
        exact z_iret M.1 (by decide +kernel) .int rfl rfl (by decide) (by decide) (hQ _ _ K)

-- TrackHouse.field
abbrev rm_T_field : Room := zx 7 2
def F_T_field (S : (Nat → Nat → Int32)) (p1 : Int32) (p2 : Int32) (p3 : Int32) : ((String ⊕ Int32) × (Nat → Nat → Int32)) := (if (F_T_isPerson S p1) = 0 then (.inl "java/lang/IndexOutOfBoundsException", S) else (match F_T_isSeen S p1 p2 with | (r10, S10) => (if r10 = 0 then (.inl "java/lang/IndexOutOfBoundsException", S10) else (if (F_T_isAnyField S10 p3) = 0 then (.inl "java/lang/IllegalArgumentException", S10) else (.inr (F_Sight_value 9 S10 p2 p3), S10)))))
def Sf_T_field (S : (Nat → Nat → Int32)) (p1 : Int32) (p2 : Int32) (p3 : Int32) : Prop := (if (F_T_isPerson S p1) = 0 then True else (Sf_T_isSeen S p1 p2 ∧ (match F_T_isSeen S p1 p2 with | (r10, S10) => (if r10 = 0 then True else (if (F_T_isAnyField S10 p3) = 0 then True else (Sf_Sight_value 9 S10 p2 p3 ∧ True))))))
theorem c_T_field (T' : Nat → Nat × Nat) (G' : Nat → Nat → Option Nat) (q0 : Nat) (S : (Nat → Nat → Int32)) (n : Nat) (p1 : Int32) (p2 : Int32) (p3 : Int32) (hs : Sf_T_field S p1 p2 p3) : z_RunX rm_T_field zm_T_field [z_r 0, .inl p1, .inl p2, .inl p3] (zW T' (zwG G' q0) S n) (fun v w' => ∃ x S' q, F_T_field S p1 p2 p3 = (.inr x, S') ∧ v = some (.inl x) ∧ w' = zW T' (zwG G' q) S' n) (fun E w' => ∃ S' n2 q, n ≤ n2 ∧ F_T_field S p1 p2 p3 = (.inl E, S') ∧ w' = zW T' (zwG G' q) S' n2) := by
  refine z_bodyX (by decide) zf_T_ok (Nat.le_of_ble_eq_true rfl) (fun X M => ?_)
  obtain ⟨Q, hQ, hX, K⟩ : ∃ Q : ((String ⊕ Int32) × (Nat → Nat → Int32)) → Prop, (∀ v S' q, Q (.inr v, S') → ∃ x S'' q2, F_T_field S p1 p2 p3 = (.inr x, S'') ∧ some (.inl v : z_V) = some (.inl x) ∧ zW T' (zwG G' q) S' n = zW T' (zwG G' q2) S'' n) ∧ (∀ E S' (n2 : Nat) q, n ≤ n2 → Q (.inl E, S') → ∃ S'' n3 q2, n ≤ n3 ∧ F_T_field S p1 p2 p3 = (.inl E, S'') ∧ zW T' (zwG G' q) S' n2 = zW T' (zwG G' q2) S'' n3) ∧ Q (F_T_field S p1 p2 p3) := ⟨fun o => F_T_field S p1 p2 p3 = o, fun v S' q h => ⟨v, S', q, h, rfl, rfl⟩, fun E S' n2 q hn h => ⟨S', n2, q, hn, h, rfl⟩, rfl⟩
  show z_G X zm_T_field (0, [(0, z_r 0), (1, .inl p1), (2, .inl p2), (3, .inl p3)], [], zW T' (zwG G' q0) S n, 0, 0)
  unfold F_T_field at K
  unfold Sf_T_field at hs
  refine z_go2 M.1.1 0 [(.iload_n 1, 1)] (1, [(0, z_r 0), (1, .inl p1), (2, .inl p2), (3, .inl p3)], [.inl p1], zW T' (zwG G' q0) S n, 0, 0) (by decide +kernel) rfl ⟨trivial, trivial⟩ ?_
  refine z_callS M.1.1 (av := [.inl p1]) (st := []) (by decide +kernel) (c_T_isPerson T' (zwG G' q0) S n p1) M.1.2.1 zl_T_97 zs_T_isPerson ⟨by decide, by decide, by decide, by decide⟩ rfl (Nat.le_of_ble_eq_true rfl) (fun v w' hv => ?_)
  obtain ⟨rfl, rfl⟩ := hv
  show z_G X zm_T_field (4, [(0, z_r 0), (1, .inl p1), (2, .inl p2), (3, .inl p3)], [.inl (F_T_isPerson S p1)], zW T' (zwG G' q0) S n, 0, 0)
  refine z_if_eq 20 M.1.1 (off := 16) (by decide +kernel) (by decide) (fun c4 => ?_) (fun c4 => ?_)
  · rw [if_pos c4] at K hs
    refine z_go2 M.1.1 20 [(.iconst 0, 1)] (21, [(0, z_r 0), (1, .inl p1), (2, .inl p2), (3, .inl p3)], [.inl 0], zW T' (zwG G' q0) S n, 0, 0) (by decide +kernel) rfl ⟨trivial, trivial⟩ ?_
    refine z_callSX M.1.1 (av := [.inl 0]) (st := []) (by decide +kernel) (c_mustExist T' (zwG G' q0) S n 0) M.1.2.1 zl_T_104 (z_wi 698 (by decide +kernel) rfl) zs_T_mustExist ⟨by decide, by decide, by decide, by decide⟩ rfl (Nat.le_of_ble_eq_true rfl) (fun E w' hx => ?_) (fun v w' hv => ?_)
    · obtain ⟨h0, rfl, n2, hn2, rfl⟩ := hx
      exact M.2 _ _ (hX _ _ n2 _ hn2 K) (Nat.le_of_ble_eq_true rfl) (Nat.le_of_ble_eq_true rfl)
    · obtain ⟨h0, rfl, rfl⟩ := hv
      exact absurd rfl h0
  · rw [if_neg c4] at K hs
    refine z_go2 M.1.1 7 [(.aload_n 0, 1), (.iload_n 1, 1), (.iload_n 2, 1)] (10, [(0, z_r 0), (1, .inl p1), (2, .inl p2), (3, .inl p3)], [.inl p2, .inl p1, z_r 0], zW T' (zwG G' q0) S n, 0, 0) (by decide +kernel) rfl ⟨trivial, trivial, trivial, trivial⟩ ?_
    refine z_callV M.1.1 (av := [.inl p1, .inl p2]) (st := []) (a := 0) (ci := 11) (by decide +kernel) (c_T_isSeen T' G' q0 S n p1 p2 hs.1) M.1.2.1 zl_T_238 zv_T_isSeen rfl rfl rfl ⟨by decide, by decide, by decide, by decide⟩ rfl (Nat.le_of_ble_eq_true rfl) (fun v w' hv => ?_)
    replace hs := hs.2
    rcases hF10 : F_T_isSeen S p1 p2 with ⟨r10, S10⟩
    rw [hF10] at K hv
    try rw [hF10] at hs
    try dsimp only at K hs
    obtain ⟨rfl, rfl⟩ := hv
    show z_G X zm_T_field (13, [(0, z_r 0), (1, .inl p1), (2, .inl p2), (3, .inl p3)], [.inl r10], zW T' (zwG G' 9) S10 n, 0, 0)
    refine z_if_eq 20 M.1.1 (off := 7) (by decide +kernel) (by decide) (fun c13 => ?_) (fun c13 => ?_)
    · rw [if_pos c13] at K hs
      refine z_go2 M.1.1 20 [(.iconst 0, 1)] (21, [(0, z_r 0), (1, .inl p1), (2, .inl p2), (3, .inl p3)], [.inl 0], zW T' (zwG G' 9) S10 n, 0, 0) (by decide +kernel) rfl ⟨trivial, trivial⟩ ?_
      refine z_callSX M.1.1 (av := [.inl 0]) (st := []) (by decide +kernel) (c_mustExist T' (zwG G' 9) S10 n 0) M.1.2.1 zl_T_104 (z_wi 698 (by decide +kernel) rfl) zs_T_mustExist ⟨by decide, by decide, by decide, by decide⟩ rfl (Nat.le_of_ble_eq_true rfl) (fun E w' hx => ?_) (fun v w' hv => ?_)
      · obtain ⟨h0, rfl, n2, hn2, rfl⟩ := hx
        exact M.2 _ _ (hX _ _ n2 _ hn2 K) (Nat.le_of_ble_eq_true rfl) (Nat.le_of_ble_eq_true rfl)
      · obtain ⟨h0, rfl, rfl⟩ := hv
        exact absurd rfl h0
    · rw [if_neg c13] at K hs
      refine z_go2 M.1.1 16 [(.iconst 1, 1), (.goto 4, 3)] (21, [(0, z_r 0), (1, .inl p1), (2, .inl p2), (3, .inl p3)], [.inl 1], zW T' (zwG G' 9) S10 n, 0, 0) (by decide +kernel) rfl ⟨trivial, trivial, trivial⟩ ?_
      refine z_callSX M.1.1 (av := [.inl 1]) (st := []) (by decide +kernel) (c_mustExist T' (zwG G' 9) S10 n 1) M.1.2.1 zl_T_104 (z_wi 698 (by decide +kernel) rfl) zs_T_mustExist ⟨by decide, by decide, by decide, by decide⟩ rfl (Nat.le_of_ble_eq_true rfl) (fun E w' hx => ?_) (fun v w' hv => ?_)
      · obtain ⟨h0, rfl, n2, hn2, rfl⟩ := hx
        exact absurd h0 (by decide)
      · obtain ⟨h0, rfl, rfl⟩ := hv
        show z_G X zm_T_field (24, [(0, z_r 0), (1, .inl p1), (2, .inl p2), (3, .inl p3)], [], zW T' (zwG G' 9) S10 n, 1, 6)
        refine z_go2 M.1.1 24 [(.iload_n 3, 1)] (25, [(0, z_r 0), (1, .inl p1), (2, .inl p2), (3, .inl p3)], [.inl p3], zW T' (zwG G' 9) S10 n, 1, 6) (by decide +kernel) rfl ⟨trivial, trivial⟩ ?_
        refine z_callS M.1.1 (av := [.inl p3]) (st := []) (by decide +kernel) (c_T_isAnyField T' (zwG G' 9) S10 n p3) M.1.2.1 zl_T_148 zs_T_isAnyField ⟨by decide, by decide, by decide, by decide⟩ rfl (Nat.le_of_ble_eq_true rfl) (fun v w' hv => ?_)
        obtain ⟨rfl, rfl⟩ := hv
        show z_G X zm_T_field (28, [(0, z_r 0), (1, .inl p1), (2, .inl p2), (3, .inl p3)], [.inl (F_T_isAnyField S10 p3)], zW T' (zwG G' 9) S10 n, 1, 6)
        refine z_callSX M.1.1 (av := [.inl (F_T_isAnyField S10 p3)]) (st := []) (by decide +kernel) (c_mustFit T' (zwG G' 9) S10 n (F_T_isAnyField S10 p3)) M.1.2.1 zl_T_111 (z_wi 772 (by decide +kernel) rfl) zs_T_mustFit ⟨by decide, by decide, by decide, by decide⟩ rfl (Nat.le_of_ble_eq_true rfl) (fun E w' hx => ?_) (fun v w' hv => ?_)
        · obtain ⟨h0, rfl, n2, hn2, rfl⟩ := hx
          rw [if_pos h0] at K
          exact M.2 _ _ (hX _ _ n2 _ hn2 K) (Nat.le_of_ble_eq_true rfl) (Nat.le_of_ble_eq_true rfl)
        · obtain ⟨h0, rfl, rfl⟩ := hv
          rw [if_neg h0] at K hs
          show z_G X zm_T_field (31, [(0, z_r 0), (1, .inl p1), (2, .inl p2), (3, .inl p3)], [], zW T' (zwG G' 9) S10 n, 2, 12)
          refine z_go2 M.1.1 31 [(.aload_n 0, 1), (.getfield 47, 3), (.iload_n 2, 1), (.iload_n 3, 1)] (37, [(0, z_r 0), (1, .inl p1), (2, .inl p2), (3, .inl p3)], [.inl p3, .inl p2, z_r 36], zW T' (zwG G' 9) S10 n, 2, 12) (by decide +kernel) rfl ⟨trivial, rfl, trivial, trivial, trivial⟩ ?_
          refine z_callV M.1.1 (av := [.inl p2, .inl p3]) (st := []) (a := 36) (ci := 8) (by decide +kernel) (c_Sight_value_9 T' G' S10 n p2 p3 hs.1) M.1.2.1 zl_T_328 zv_Sight_value rfl rfl rfl ⟨by decide, by decide, by decide, by decide⟩ rfl (Nat.le_of_ble_eq_true rfl) (fun v w' hv => ?_)
          obtain ⟨rfl, rfl⟩ := hv
          replace hs := hs.2
          show z_G X zm_T_field (40, [(0, z_r 0), (1, .inl p1), (2, .inl p2), (3, .inl p3)], [.inl (F_Sight_value 9 S10 p2 p3)], zW T' (zwG G' 9) S10 n, 2, 12)
          exact z_iret M.1 (by decide +kernel) .int rfl rfl (by decide) (by decide) (hQ _ _ _ K)

-- TrackHouse.ranked
abbrev rm_T_ranked : Room := zx 7 2
def F_T_ranked (S : (Nat → Nat → Int32)) (p1 : Int32) (p2 : Int32) : ((String ⊕ Int32) × (Nat → Nat → Int32)) := (if (F_T_isPerson S p1) = 0 then (.inl "java/lang/IndexOutOfBoundsException", S) else (z_let (F_Sight_look 9 S p1) (fun S16 => (if (F_Ranks_atPlace S16 (S16 36 8) p2) = (-1) then (.inl "java/lang/IndexOutOfBoundsException", S16) else (.inr (F_Ranks_atPlace S16 (S16 36 8) p2), S16)))))
def Sf_T_ranked (S : (Nat → Nat → Int32)) (p1 : Int32) (p2 : Int32) : Prop := (if (F_T_isPerson S p1) = 0 then True else (Sf_Sight_look 9 S p1 ∧ (z_let (F_Sight_look 9 S p1) (fun S16 => (Sf_Ranks_atPlace S16 (S16 36 8) p2 ∧ True)))))
theorem c_T_ranked (T' : Nat → Nat × Nat) (G' : Nat → Nat → Option Nat) (q0 : Nat) (S : (Nat → Nat → Int32)) (n : Nat) (p1 : Int32) (p2 : Int32) (hs : Sf_T_ranked S p1 p2) : z_RunX rm_T_ranked zm_T_ranked [z_r 0, .inl p1, .inl p2] (zW T' (zwG G' q0) S n) (fun v w' => ∃ x S' q, F_T_ranked S p1 p2 = (.inr x, S') ∧ v = some (.inl x) ∧ w' = zW T' (zwG G' q) S' n) (fun E w' => ∃ S' n2 q, n ≤ n2 ∧ F_T_ranked S p1 p2 = (.inl E, S') ∧ w' = zW T' (zwG G' q) S' n2) := by
  refine z_bodyX (by decide) zf_T_ok (Nat.le_of_ble_eq_true rfl) (fun X M => ?_)
  obtain ⟨Q, hQ, hX, K⟩ : ∃ Q : ((String ⊕ Int32) × (Nat → Nat → Int32)) → Prop, (∀ v S' q, Q (.inr v, S') → ∃ x S'' q2, F_T_ranked S p1 p2 = (.inr x, S'') ∧ some (.inl v : z_V) = some (.inl x) ∧ zW T' (zwG G' q) S' n = zW T' (zwG G' q2) S'' n) ∧ (∀ E S' (n2 : Nat) q, n ≤ n2 → Q (.inl E, S') → ∃ S'' n3 q2, n ≤ n3 ∧ F_T_ranked S p1 p2 = (.inl E, S'') ∧ zW T' (zwG G' q) S' n2 = zW T' (zwG G' q2) S'' n3) ∧ Q (F_T_ranked S p1 p2) := ⟨fun o => F_T_ranked S p1 p2 = o, fun v S' q h => ⟨v, S', q, h, rfl, rfl⟩, fun E S' n2 q hn h => ⟨S', n2, q, hn, h, rfl⟩, rfl⟩
  show z_G X zm_T_ranked (0, [(0, z_r 0), (1, .inl p1), (2, .inl p2)], [], zW T' (zwG G' q0) S n, 0, 0)
  unfold F_T_ranked at K
  unfold Sf_T_ranked at hs
  refine z_go2 M.1.1 0 [(.iload_n 1, 1)] (1, [(0, z_r 0), (1, .inl p1), (2, .inl p2)], [.inl p1], zW T' (zwG G' q0) S n, 0, 0) (by decide +kernel) rfl ⟨trivial, trivial⟩ ?_
  refine z_callS M.1.1 (av := [.inl p1]) (st := []) (by decide +kernel) (c_T_isPerson T' (zwG G' q0) S n p1) M.1.2.1 zl_T_97 zs_T_isPerson ⟨by decide, by decide, by decide, by decide⟩ rfl (Nat.le_of_ble_eq_true rfl) (fun v w' hv => ?_)
  obtain ⟨rfl, rfl⟩ := hv
  show z_G X zm_T_ranked (4, [(0, z_r 0), (1, .inl p1), (2, .inl p2)], [.inl (F_T_isPerson S p1)], zW T' (zwG G' q0) S n, 0, 0)
  refine z_callSX M.1.1 (av := [.inl (F_T_isPerson S p1)]) (st := []) (by decide +kernel) (c_mustExist T' (zwG G' q0) S n (F_T_isPerson S p1)) M.1.2.1 zl_T_104 (z_wi 698 (by decide +kernel) rfl) zs_T_mustExist ⟨by decide, by decide, by decide, by decide⟩ rfl (Nat.le_of_ble_eq_true rfl) (fun E w' hx => ?_) (fun v w' hv => ?_)
  · obtain ⟨h0, rfl, n2, hn2, rfl⟩ := hx
    rw [if_pos h0] at K
    exact M.2 _ _ (hX _ _ n2 _ hn2 K) (Nat.le_of_ble_eq_true rfl) (Nat.le_of_ble_eq_true rfl)
  · obtain ⟨h0, rfl, rfl⟩ := hv
    rw [if_neg h0] at K hs
    show z_G X zm_T_ranked (7, [(0, z_r 0), (1, .inl p1), (2, .inl p2)], [], zW T' (zwG G' q0) S n, 1, 6)
    refine z_go2 M.1.1 7 [(.aload_n 0, 1), (.getfield 47, 3), (.aload_n 0, 1), (.getfield 19, 3), (.iload_n 1, 1)] (16, [(0, z_r 0), (1, .inl p1), (2, .inl p2)], [.inl p1, z_r 9, z_r 36], zW T' (zwG G' q0) S n, 1, 6) (by decide +kernel) rfl ⟨trivial, rfl, trivial, rfl, trivial, trivial⟩ ?_
    refine z_callV M.1.1 (av := [z_r 9, .inl p1]) (st := []) (a := 36) (ci := 8) (by decide +kernel) (c_Sight_look_9 T' G' q0 S n p1 hs.1) M.1.2.1 zl_T_331 zv_Sight_look rfl rfl rfl ⟨by decide, by decide, by decide, by decide⟩ rfl (Nat.le_of_ble_eq_true rfl) (fun v w' hv => ?_)
    replace hs := hs.2
    obtain ⟨S16, hF16⟩ : ∃ y, F_Sight_look 9 S p1 = y := ⟨_, rfl⟩
    rw [hF16] at K hv
    try rw [hF16] at hs
    try dsimp only [z_let] at K hs
    obtain ⟨rfl, rfl⟩ := hv
    show z_G X zm_T_ranked (19, [(0, z_r 0), (1, .inl p1), (2, .inl p2)], [], zW T' (zwG G' 9) S16 n, 1, 6)
    refine z_go2 M.1.1 19 [(.aload_n 0, 1), (.getfield 72, 3), (.aload_n 0, 1), (.getfield 47, 3), (.getfield 335, 3), (.iload_n 2, 1)] (31, [(0, z_r 0), (1, .inl p1), (2, .inl p2)], [.inl p2, .inl (S16 36 8), z_r 68], zW T' (zwG G' 9) S16 n, 1, 6) (by decide +kernel) rfl ⟨trivial, rfl, trivial, rfl, rfl, trivial, trivial⟩ ?_
    refine z_callV M.1.1 (av := [.inl (S16 36 8), .inl p2]) (st := []) (a := 68) (ci := 6) (by decide +kernel) (c_Ranks_atPlace T' (zwG G' 9) S16 n (S16 36 8) p2 hs.1) M.1.2.1 zl_T_338 zv_Ranks_atPlace rfl rfl rfl ⟨by decide, by decide, by decide, by decide⟩ rfl (Nat.le_of_ble_eq_true rfl) (fun v w' hv => ?_)
    obtain ⟨rfl, rfl⟩ := hv
    replace hs := hs.2
    show z_G X zm_T_ranked (34, [(0, z_r 0), (1, .inl p1), (2, .inl p2)], [.inl (F_Ranks_atPlace S16 (S16 36 8) p2)], zW T' (zwG G' 9) S16 n, 1, 6)
    refine z_go2 M.1.1 34 [(.istore_n 3, 1), (.iload_n 3, 1), (.iconst (-1), 1)] (37, [(3, .inl (F_Ranks_atPlace S16 (S16 36 8) p2)), (0, z_r 0), (1, .inl p1), (2, .inl p2)], [.inl (-1), .inl (F_Ranks_atPlace S16 (S16 36 8) p2)], zW T' (zwG G' 9) S16 n, 1, 6) (by decide +kernel) rfl ⟨trivial, trivial, trivial, trivial⟩ ?_
    refine z_icmp_eq 44 M.1.1 (off := 7) (by decide +kernel) (by decide) (fun c37 => ?_) (fun c37 => ?_)
    · rw [if_pos c37] at K
      refine z_go2 M.1.1 44 [(.iconst 0, 1)] (45, [(3, .inl (F_Ranks_atPlace S16 (S16 36 8) p2)), (0, z_r 0), (1, .inl p1), (2, .inl p2)], [.inl 0], zW T' (zwG G' 9) S16 n, 1, 6) (by decide +kernel) rfl ⟨trivial, trivial⟩ ?_
      refine z_callSX M.1.1 (av := [.inl 0]) (st := []) (by decide +kernel) (c_mustExist T' (zwG G' 9) S16 n 0) M.1.2.1 zl_T_104 (z_wi 698 (by decide +kernel) rfl) zs_T_mustExist ⟨by decide, by decide, by decide, by decide⟩ rfl (Nat.le_of_ble_eq_true rfl) (fun E w' hx => ?_) (fun v w' hv => ?_)
      · obtain ⟨h0, rfl, n2, hn2, rfl⟩ := hx
        exact M.2 _ _ (hX _ _ n2 _ hn2 K) (Nat.le_of_ble_eq_true rfl) (Nat.le_of_ble_eq_true rfl)
      · obtain ⟨h0, rfl, rfl⟩ := hv
        exact absurd rfl h0
    · rw [if_neg c37] at K
      refine z_go2 M.1.1 40 [(.iconst 1, 1), (.goto 4, 3)] (45, [(3, .inl (F_Ranks_atPlace S16 (S16 36 8) p2)), (0, z_r 0), (1, .inl p1), (2, .inl p2)], [.inl 1], zW T' (zwG G' 9) S16 n, 1, 6) (by decide +kernel) rfl ⟨trivial, trivial, trivial⟩ ?_
      refine z_callSX M.1.1 (av := [.inl 1]) (st := []) (by decide +kernel) (c_mustExist T' (zwG G' 9) S16 n 1) M.1.2.1 zl_T_104 (z_wi 698 (by decide +kernel) rfl) zs_T_mustExist ⟨by decide, by decide, by decide, by decide⟩ rfl (Nat.le_of_ble_eq_true rfl) (fun E w' hx => ?_) (fun v w' hv => ?_)
      · obtain ⟨h0, rfl, n2, hn2, rfl⟩ := hx
        exact absurd h0 (by decide)
      · obtain ⟨h0, rfl, rfl⟩ := hv
        show z_G X zm_T_ranked (48, [(3, .inl (F_Ranks_atPlace S16 (S16 36 8) p2)), (0, z_r 0), (1, .inl p1), (2, .inl p2)], [], zW T' (zwG G' 9) S16 n, 2, 12)
        refine z_go2 M.1.1 48 [(.iload_n 3, 1)] (49, [(3, .inl (F_Ranks_atPlace S16 (S16 36 8) p2)), (0, z_r 0), (1, .inl p1), (2, .inl p2)], [.inl (F_Ranks_atPlace S16 (S16 36 8) p2)], zW T' (zwG G' 9) S16 n, 2, 12) (by decide +kernel) rfl ⟨trivial, trivial⟩ ?_
        exact z_iret M.1 (by decide +kernel) .int rfl rfl (by decide) (by decide) (hQ _ _ _ K)

-- TrackHouse.burn
abbrev rm_T_burn : Room := zx 7 1
def F_T_burn_L63 (x2 : Int32) : Nat → (Nat → Nat → Int32) → Int32 → Int32 → (Int32 × (Nat → Nat → Int32))
  | 0, S, x4, x5 => (x4, S)
  | f + 1, S, x4, x5 => (if (30 : Int32) ≤ x5 then (x4, S) else (if (F_World_cell 28 S x5 7) = x2 then (if (F_T_isIn S (zAt (S 49) 3 (F_World_cell 28 S x5 9)) (F_World_cell 28 S x5 0)) = 0 then ((F_T_burn_L63 x2 f) S (x4 ||| (F_T_bit S x5)) (x5 + 1)) else ((F_T_burn_L63 x2 f) S x4 (x5 + 1))) else ((F_T_burn_L63 x2 f) S x4 (x5 + 1))))
def Sf_T_burn_L63 (x2 : Int32) : Nat → (Nat → Nat → Int32) → Int32 → Int32 → Prop
  | 0, _, _, _ => False
  | f + 1, S, x4, x5 => (if (30 : Int32) ≤ x5 then True else (Sf_World_cell 28 S x5 9 ∧ (Sf_World_cell 28 S x5 7 ∧ (if (F_World_cell 28 S x5 7) = x2 then (Sf_World_cell 28 S x5 0 ∧ (if (F_T_isIn S (zAt (S 49) 3 (F_World_cell 28 S x5 9)) (F_World_cell 28 S x5 0)) = 0 then ((Sf_T_burn_L63 x2 f) S (x4 ||| (F_T_bit S x5)) (x5 + 1)) else ((Sf_T_burn_L63 x2 f) S x4 (x5 + 1)))) else ((Sf_T_burn_L63 x2 f) S x4 (x5 + 1))))))
theorem t_T_burn_L63 {X : z_X} {Post : Option z_V → z_W → Prop} {PX : String → z_W → Prop} (M : z_MX X zm_T_burn rm_T_burn Post PX) {T' : Nat → Nat × Nat} {G' : Nat → Nat → Option Nat} {n : Nat} {q0 : Nat} {Q : (Int32 × (Nat → Nat → Int32)) → Prop}  (x2 : Int32) (hE : ∀ (y4 : Int32) (S' : (Nat → Nat → Int32)), Q (y4, S') → z_G X zm_T_burn (151, [(0, z_r 0), (4, .inl y4)], [], zW T' (zwG G' 28) S' n, 1, 6)) (f : Nat) : ∀ (S : (Nat → Nat → Int32)) (x4 : Int32) (x5 : Int32), Q (F_T_burn_L63 x2 f S x4 x5) → Sf_T_burn_L63 x2 f S x4 x5 → z_G X zm_T_burn (63, [(0, z_r 0), (2, .inl x2), (4, .inl x4), (5, .inl x5)], [], zW T' (zwG G' 28) S n, 1, 6) := by
  induction f with
  | zero => intro S x4 x5 K hs; exact False.elim hs
  | succ f hC =>
    intro S x4 x5 K hs
    rw [F_T_burn_L63] at K
    rw [Sf_T_burn_L63] at hs
    refine z_go2 M.1.1 63 [(.iload 5, 2), (.bipush 30, 2)] (67, [(0, z_r 0), (2, .inl x2), (4, .inl x4), (5, .inl x5)], [.inl 30, .inl x5], zW T' (zwG G' 28) S n, 1, 6) (by decide +kernel) rfl ⟨trivial, trivial, trivial⟩ ?_
    refine z_icmp_ge 151 M.1.1 (off := 84) (by decide +kernel) (by decide) (fun c67 => ?_) (fun c67 => ?_)
    · rw [if_pos c67] at K hs
      exact z_lvs (lv' := [(0, z_r 0), (4, .inl x4)]) [0, 2] rfl (hE x4 S K)
    · rw [if_neg c67] at K hs
      refine z_go2 M.1.1 70 [(.aload_n 0, 1), (.getfield 54, 3), (.getfield 349, 3), (.aload_n 0, 1), (.getfield 42, 3), (.getfield 346, 3), (.iload 5, 2), (.bipush 9, 2)] (88, [(0, z_r 0), (2, .inl x2), (4, .inl x4), (5, .inl x5)], [.inl 9, .inl x5, z_r 28, z_r 49], zW T' (zwG G' 28) S n, 1, 6) (by decide +kernel) rfl ⟨trivial, rfl, rfl, trivial, rfl, rfl, trivial, trivial, trivial⟩ ?_
      refine z_callV M.1.1 (av := [.inl x5, .inl 9]) (st := [z_r 49]) (a := 28) (ci := 10) (by decide +kernel) (c_World_cell_28 T' (zwG G' 28) S n x5 9 hs.1) M.1.2.1 zl_T_207 zv_World_cell rfl rfl rfl ⟨by decide, by decide, by decide, by decide⟩ rfl (Nat.le_of_ble_eq_true rfl) (fun v w' hv => ?_)
      obtain ⟨rfl, rfl⟩ := hv
      replace hs := hs.2
      show z_G X zm_T_burn (91, [(0, z_r 0), (2, .inl x2), (4, .inl x4), (5, .inl x5)], [.inl (F_World_cell 28 S x5 9), z_r 49], zW T' (zwG G' 28) S n, 1, 6)
      refine z_callS M.1.1 (av := [z_r 49, .inl (F_World_cell 28 S x5 9)]) (st := []) (by decide +kernel) (c_at (zW T' (zwG G' 28) S n) 49 3 rfl (by decide) (F_World_cell 28 S x5 9)) M.1.2.1 zl_T_134 zs_T_at ⟨by decide, by decide, by decide, by decide⟩ rfl (Nat.le_of_ble_eq_true rfl) (fun v w' hv => ?_)
      obtain ⟨rfl, rfl⟩ := hv
      show z_G X zm_T_burn (94, [(0, z_r 0), (2, .inl x2), (4, .inl x4), (5, .inl x5)], [.inl (zAt (S 49) 3 (F_World_cell 28 S x5 9))], zW T' (zwG G' 28) S n, 1, 6)
      refine z_go2 M.1.1 94 [(.istore 6, 2), (.aload_n 0, 1), (.getfield 42, 3), (.getfield 346, 3), (.iload 5, 2), (.bipush 7, 2)] (107, [(6, .inl (zAt (S 49) 3 (F_World_cell 28 S x5 9))), (0, z_r 0), (2, .inl x2), (4, .inl x4), (5, .inl x5)], [.inl 7, .inl x5, z_r 28], zW T' (zwG G' 28) S n, 1, 6) (by decide +kernel) rfl ⟨trivial, trivial, rfl, rfl, trivial, trivial, trivial⟩ ?_
      refine z_callV M.1.1 (av := [.inl x5, .inl 7]) (st := []) (a := 28) (ci := 10) (by decide +kernel) (c_World_cell_28 T' (zwG G' 28) S n x5 7 hs.1) M.1.2.1 zl_T_207 zv_World_cell rfl rfl rfl ⟨by decide, by decide, by decide, by decide⟩ rfl (Nat.le_of_ble_eq_true rfl) (fun v w' hv => ?_)
      obtain ⟨rfl, rfl⟩ := hv
      replace hs := hs.2
      show z_G X zm_T_burn (110, [(6, .inl (zAt (S 49) 3 (F_World_cell 28 S x5 9))), (0, z_r 0), (2, .inl x2), (4, .inl x4), (5, .inl x5)], [.inl (F_World_cell 28 S x5 7)], zW T' (zwG G' 28) S n, 1, 6)
      refine z_go2 M.1.1 110 [(.iload_n 2, 1)] (111, [(6, .inl (zAt (S 49) 3 (F_World_cell 28 S x5 9))), (0, z_r 0), (2, .inl x2), (4, .inl x4), (5, .inl x5)], [.inl x2, .inl (F_World_cell 28 S x5 7)], zW T' (zwG G' 28) S n, 1, 6) (by decide +kernel) rfl ⟨trivial, trivial⟩ ?_
      refine z_icmp_ne 145 M.1.1 (off := 34) (by decide +kernel) (by decide) (fun c111 => ?_) (fun c111 => ?_)
      · rw [if_neg c111] at K hs
        refine z_go2 M.1.1 145 [(.iinc 5 1, 3), (.goto (-85), 3)] (63, [(5, .inl (x5 + 1)), (6, .inl (zAt (S 49) 3 (F_World_cell 28 S x5 9))), (0, z_r 0), (2, .inl x2), (4, .inl x4)], [], zW T' (zwG G' 28) S n, 1, 6) (by decide +kernel) rfl ⟨trivial, trivial, trivial⟩ ?_
        exact z_lvs (lv' := [(0, z_r 0), (2, .inl x2), (4, .inl x4), (5, .inl (x5 + 1))]) [2, 3, 4, 0] rfl (hC S x4 (x5 + 1) K hs)
      · rw [if_pos c111] at K hs
        refine z_go2 M.1.1 114 [(.iload 6, 2), (.aload_n 0, 1), (.getfield 42, 3), (.getfield 346, 3), (.iload 5, 2), (.iconst 0, 1)] (126, [(6, .inl (zAt (S 49) 3 (F_World_cell 28 S x5 9))), (0, z_r 0), (2, .inl x2), (4, .inl x4), (5, .inl x5)], [.inl 0, .inl x5, z_r 28, .inl (zAt (S 49) 3 (F_World_cell 28 S x5 9))], zW T' (zwG G' 28) S n, 1, 6) (by decide +kernel) rfl ⟨trivial, trivial, rfl, rfl, trivial, trivial, trivial⟩ ?_
        refine z_callV M.1.1 (av := [.inl x5, .inl 0]) (st := [.inl (zAt (S 49) 3 (F_World_cell 28 S x5 9))]) (a := 28) (ci := 10) (by decide +kernel) (c_World_cell_28 T' (zwG G' 28) S n x5 0 hs.1) M.1.2.1 zl_T_207 zv_World_cell rfl rfl rfl ⟨by decide, by decide, by decide, by decide⟩ rfl (Nat.le_of_ble_eq_true rfl) (fun v w' hv => ?_)
        obtain ⟨rfl, rfl⟩ := hv
        replace hs := hs.2
        show z_G X zm_T_burn (129, [(6, .inl (zAt (S 49) 3 (F_World_cell 28 S x5 9))), (0, z_r 0), (2, .inl x2), (4, .inl x4), (5, .inl x5)], [.inl (F_World_cell 28 S x5 0), .inl (zAt (S 49) 3 (F_World_cell 28 S x5 9))], zW T' (zwG G' 28) S n, 1, 6)
        refine z_callS M.1.1 (av := [.inl (zAt (S 49) 3 (F_World_cell 28 S x5 9)), .inl (F_World_cell 28 S x5 0)]) (st := []) (by decide +kernel) (c_T_isIn T' (zwG G' 28) S n (zAt (S 49) 3 (F_World_cell 28 S x5 9)) (F_World_cell 28 S x5 0)) M.1.2.1 zl_T_307 zs_T_isIn ⟨by decide, by decide, by decide, by decide⟩ rfl (Nat.le_of_ble_eq_true rfl) (fun v w' hv => ?_)
        obtain ⟨rfl, rfl⟩ := hv
        show z_G X zm_T_burn (132, [(6, .inl (zAt (S 49) 3 (F_World_cell 28 S x5 9))), (0, z_r 0), (2, .inl x2), (4, .inl x4), (5, .inl x5)], [.inl (F_T_isIn S (zAt (S 49) 3 (F_World_cell 28 S x5 9)) (F_World_cell 28 S x5 0))], zW T' (zwG G' 28) S n, 1, 6)
        refine z_if_ne 145 M.1.1 (off := 13) (by decide +kernel) (by decide) (fun c132 => ?_) (fun c132 => ?_)
        · rw [if_neg c132] at K hs
          refine z_go2 M.1.1 145 [(.iinc 5 1, 3), (.goto (-85), 3)] (63, [(5, .inl (x5 + 1)), (6, .inl (zAt (S 49) 3 (F_World_cell 28 S x5 9))), (0, z_r 0), (2, .inl x2), (4, .inl x4)], [], zW T' (zwG G' 28) S n, 1, 6) (by decide +kernel) rfl ⟨trivial, trivial, trivial⟩ ?_
          exact z_lvs (lv' := [(0, z_r 0), (2, .inl x2), (4, .inl x4), (5, .inl (x5 + 1))]) [2, 3, 4, 0] rfl (hC S x4 (x5 + 1) K hs)
        · rw [if_pos c132] at K hs
          refine z_go2 M.1.1 135 [(.iload 4, 2), (.iload 5, 2)] (139, [(6, .inl (zAt (S 49) 3 (F_World_cell 28 S x5 9))), (0, z_r 0), (2, .inl x2), (4, .inl x4), (5, .inl x5)], [.inl x5, .inl x4], zW T' (zwG G' 28) S n, 1, 6) (by decide +kernel) rfl ⟨trivial, trivial, trivial⟩ ?_
          refine z_callS M.1.1 (av := [.inl x5]) (st := [.inl x4]) (by decide +kernel) (c_T_bit T' (zwG G' 28) S n x5) M.1.2.1 zl_T_352 zs_T_bit ⟨by decide, by decide, by decide, by decide⟩ rfl (Nat.le_of_ble_eq_true rfl) (fun v w' hv => ?_)
          obtain ⟨rfl, rfl⟩ := hv
          show z_G X zm_T_burn (142, [(6, .inl (zAt (S 49) 3 (F_World_cell 28 S x5 9))), (0, z_r 0), (2, .inl x2), (4, .inl x4), (5, .inl x5)], [.inl (F_T_bit S x5), .inl x4], zW T' (zwG G' 28) S n, 1, 6)
          refine z_go2 M.1.1 142 [(.ior, 1), (.istore 4, 2), (.iinc 5 1, 3), (.goto (-85), 3)] (63, [(5, .inl (x5 + 1)), (4, .inl (x4 ||| (F_T_bit S x5))), (6, .inl (zAt (S 49) 3 (F_World_cell 28 S x5 9))), (0, z_r 0), (2, .inl x2)], [], zW T' (zwG G' 28) S n, 1, 6) (by decide +kernel) rfl ⟨trivial, trivial, trivial, trivial, trivial⟩ ?_
          exact z_lvs (lv' := [(0, z_r 0), (2, .inl x2), (4, .inl (x4 ||| (F_T_bit S x5))), (5, .inl (x5 + 1))]) [3, 4, 1, 0] rfl (hC S (x4 ||| (F_T_bit S x5)) (x5 + 1) K hs)
def F_T_burn (S : (Nat → Nat → Int32)) (p1 : Int32) (p2 : Int32) (p3 : Int32) : ((String ⊕ Int32) × (Nat → Nat → Int32)) := (if (F_T_isPerson S p1) = 0 then (.inl "java/lang/IndexOutOfBoundsException", S) else (if (F_T_isSprint S p2) = 0 then (.inl "java/lang/IndexOutOfBoundsException", S) else (if (F_T_isDay S p3) = 0 then (.inl "java/lang/IndexOutOfBoundsException", S) else (z_let (F_View_readUpTo S p3) (fun S39 => (z_let (F_Sight_look 28 S39 p1) (fun S54 => (match F_T_burn_L63 p2 1300 S54 0 0 with | (y4_63, S63) => (.inr (F_Sight_total 28 S63 (y4_63 &&& (S63 36 8)) 0), S63)))))))))
def Sf_T_burn (S : (Nat → Nat → Int32)) (p1 : Int32) (p2 : Int32) (p3 : Int32) : Prop := (if (F_T_isPerson S p1) = 0 then True else (if (F_T_isSprint S p2) = 0 then True else (if (F_T_isDay S p3) = 0 then True else (Sf_View_readUpTo S p3 ∧ (z_let (F_View_readUpTo S p3) (fun S39 => (Sf_Sight_look 28 S39 p1 ∧ (z_let (F_Sight_look 28 S39 p1) (fun S54 => (Sf_T_burn_L63 p2 1300 S54 0 0 ∧ (match F_T_burn_L63 p2 1300 S54 0 0 with | (y4_63, S63) => (Sf_Sight_total 28 S63 (y4_63 &&& (S63 36 8)) 0 ∧ True))))))))))))
theorem c_T_burn (T' : Nat → Nat × Nat) (G' : Nat → Nat → Option Nat) (q0 : Nat) (S : (Nat → Nat → Int32)) (n : Nat) (p1 : Int32) (p2 : Int32) (p3 : Int32) (hs : Sf_T_burn S p1 p2 p3) : z_RunX rm_T_burn zm_T_burn [z_r 0, .inl p1, .inl p2, .inl p3] (zW T' (zwG G' q0) S n) (fun v w' => ∃ x S' q, F_T_burn S p1 p2 p3 = (.inr x, S') ∧ v = some (.inl x) ∧ w' = zW T' (zwG G' q) S' n) (fun E w' => ∃ S' n2 q, n ≤ n2 ∧ F_T_burn S p1 p2 p3 = (.inl E, S') ∧ w' = zW T' (zwG G' q) S' n2) := by
  refine z_bodyX (by decide) zf_T_ok (Nat.le_of_ble_eq_true rfl) (fun X M => ?_)
  obtain ⟨Q, hQ, hX, K⟩ : ∃ Q : ((String ⊕ Int32) × (Nat → Nat → Int32)) → Prop, (∀ v S' q, Q (.inr v, S') → ∃ x S'' q2, F_T_burn S p1 p2 p3 = (.inr x, S'') ∧ some (.inl v : z_V) = some (.inl x) ∧ zW T' (zwG G' q) S' n = zW T' (zwG G' q2) S'' n) ∧ (∀ E S' (n2 : Nat) q, n ≤ n2 → Q (.inl E, S') → ∃ S'' n3 q2, n ≤ n3 ∧ F_T_burn S p1 p2 p3 = (.inl E, S'') ∧ zW T' (zwG G' q) S' n2 = zW T' (zwG G' q2) S'' n3) ∧ Q (F_T_burn S p1 p2 p3) := ⟨fun o => F_T_burn S p1 p2 p3 = o, fun v S' q h => ⟨v, S', q, h, rfl, rfl⟩, fun E S' n2 q hn h => ⟨S', n2, q, hn, h, rfl⟩, rfl⟩
  show z_G X zm_T_burn (0, [(0, z_r 0), (1, .inl p1), (2, .inl p2), (3, .inl p3)], [], zW T' (zwG G' q0) S n, 0, 0)
  unfold F_T_burn at K
  unfold Sf_T_burn at hs
  refine z_go2 M.1.1 0 [(.iload_n 1, 1)] (1, [(0, z_r 0), (1, .inl p1), (2, .inl p2), (3, .inl p3)], [.inl p1], zW T' (zwG G' q0) S n, 0, 0) (by decide +kernel) rfl ⟨trivial, trivial⟩ ?_
  refine z_callS M.1.1 (av := [.inl p1]) (st := []) (by decide +kernel) (c_T_isPerson T' (zwG G' q0) S n p1) M.1.2.1 zl_T_97 zs_T_isPerson ⟨by decide, by decide, by decide, by decide⟩ rfl (Nat.le_of_ble_eq_true rfl) (fun v w' hv => ?_)
  obtain ⟨rfl, rfl⟩ := hv
  show z_G X zm_T_burn (4, [(0, z_r 0), (1, .inl p1), (2, .inl p2), (3, .inl p3)], [.inl (F_T_isPerson S p1)], zW T' (zwG G' q0) S n, 0, 0)
  refine z_if_eq 26 M.1.1 (off := 22) (by decide +kernel) (by decide) (fun c4 => ?_) (fun c4 => ?_)
  · rw [if_pos c4] at K hs
    refine z_go2 M.1.1 26 [(.iconst 0, 1)] (27, [(0, z_r 0), (1, .inl p1), (2, .inl p2), (3, .inl p3)], [.inl 0], zW T' (zwG G' q0) S n, 0, 0) (by decide +kernel) rfl ⟨trivial, trivial⟩ ?_
    refine z_callSX M.1.1 (av := [.inl 0]) (st := []) (by decide +kernel) (c_mustExist T' (zwG G' q0) S n 0) M.1.2.1 zl_T_104 (z_wi 698 (by decide +kernel) rfl) zs_T_mustExist ⟨by decide, by decide, by decide, by decide⟩ rfl (Nat.le_of_ble_eq_true rfl) (fun E w' hx => ?_) (fun v w' hv => ?_)
    · obtain ⟨h0, rfl, n2, hn2, rfl⟩ := hx
      exact M.2 _ _ (hX _ _ n2 _ hn2 K) (Nat.le_of_ble_eq_true rfl) (Nat.le_of_ble_eq_true rfl)
    · obtain ⟨h0, rfl, rfl⟩ := hv
      exact absurd rfl h0
  · rw [if_neg c4] at K hs
    refine z_go2 M.1.1 7 [(.iload_n 2, 1)] (8, [(0, z_r 0), (1, .inl p1), (2, .inl p2), (3, .inl p3)], [.inl p2], zW T' (zwG G' q0) S n, 0, 0) (by decide +kernel) rfl ⟨trivial, trivial⟩ ?_
    refine z_callS M.1.1 (av := [.inl p2]) (st := []) (by decide +kernel) (c_T_isSprint T' (zwG G' q0) S n p2) M.1.2.1 zl_T_273 zs_T_isSprint ⟨by decide, by decide, by decide, by decide⟩ rfl (Nat.le_of_ble_eq_true rfl) (fun v w' hv => ?_)
    obtain ⟨rfl, rfl⟩ := hv
    show z_G X zm_T_burn (11, [(0, z_r 0), (1, .inl p1), (2, .inl p2), (3, .inl p3)], [.inl (F_T_isSprint S p2)], zW T' (zwG G' q0) S n, 0, 0)
    refine z_if_eq 26 M.1.1 (off := 15) (by decide +kernel) (by decide) (fun c11 => ?_) (fun c11 => ?_)
    · rw [if_pos c11] at K hs
      refine z_go2 M.1.1 26 [(.iconst 0, 1)] (27, [(0, z_r 0), (1, .inl p1), (2, .inl p2), (3, .inl p3)], [.inl 0], zW T' (zwG G' q0) S n, 0, 0) (by decide +kernel) rfl ⟨trivial, trivial⟩ ?_
      refine z_callSX M.1.1 (av := [.inl 0]) (st := []) (by decide +kernel) (c_mustExist T' (zwG G' q0) S n 0) M.1.2.1 zl_T_104 (z_wi 698 (by decide +kernel) rfl) zs_T_mustExist ⟨by decide, by decide, by decide, by decide⟩ rfl (Nat.le_of_ble_eq_true rfl) (fun E w' hx => ?_) (fun v w' hv => ?_)
      · obtain ⟨h0, rfl, n2, hn2, rfl⟩ := hx
        exact M.2 _ _ (hX _ _ n2 _ hn2 K) (Nat.le_of_ble_eq_true rfl) (Nat.le_of_ble_eq_true rfl)
      · obtain ⟨h0, rfl, rfl⟩ := hv
        exact absurd rfl h0
    · rw [if_neg c11] at K hs
      refine z_go2 M.1.1 14 [(.aload_n 0, 1), (.iload_n 3, 1)] (16, [(0, z_r 0), (1, .inl p1), (2, .inl p2), (3, .inl p3)], [.inl p3, z_r 0], zW T' (zwG G' q0) S n, 0, 0) (by decide +kernel) rfl ⟨trivial, trivial, trivial⟩ ?_
      refine z_callV M.1.1 (av := [.inl p3]) (st := []) (a := 0) (ci := 11) (by decide +kernel) (c_T_isDay T' (zwG G' q0) S n p3) M.1.2.1 zl_T_293 zv_T_isDay rfl rfl rfl ⟨by decide, by decide, by decide, by decide⟩ rfl (Nat.le_of_ble_eq_true rfl) (fun v w' hv => ?_)
      obtain ⟨rfl, rfl⟩ := hv
      show z_G X zm_T_burn (19, [(0, z_r 0), (1, .inl p1), (2, .inl p2), (3, .inl p3)], [.inl (F_T_isDay S p3)], zW T' (zwG G' q0) S n, 0, 0)
      refine z_if_eq 26 M.1.1 (off := 7) (by decide +kernel) (by decide) (fun c19 => ?_) (fun c19 => ?_)
      · rw [if_pos c19] at K hs
        refine z_go2 M.1.1 26 [(.iconst 0, 1)] (27, [(0, z_r 0), (1, .inl p1), (2, .inl p2), (3, .inl p3)], [.inl 0], zW T' (zwG G' q0) S n, 0, 0) (by decide +kernel) rfl ⟨trivial, trivial⟩ ?_
        refine z_callSX M.1.1 (av := [.inl 0]) (st := []) (by decide +kernel) (c_mustExist T' (zwG G' q0) S n 0) M.1.2.1 zl_T_104 (z_wi 698 (by decide +kernel) rfl) zs_T_mustExist ⟨by decide, by decide, by decide, by decide⟩ rfl (Nat.le_of_ble_eq_true rfl) (fun E w' hx => ?_) (fun v w' hv => ?_)
        · obtain ⟨h0, rfl, n2, hn2, rfl⟩ := hx
          exact M.2 _ _ (hX _ _ n2 _ hn2 K) (Nat.le_of_ble_eq_true rfl) (Nat.le_of_ble_eq_true rfl)
        · obtain ⟨h0, rfl, rfl⟩ := hv
          exact absurd rfl h0
      · rw [if_neg c19] at K hs
        refine z_go2 M.1.1 22 [(.iconst 1, 1), (.goto 4, 3)] (27, [(0, z_r 0), (1, .inl p1), (2, .inl p2), (3, .inl p3)], [.inl 1], zW T' (zwG G' q0) S n, 0, 0) (by decide +kernel) rfl ⟨trivial, trivial, trivial⟩ ?_
        refine z_callSX M.1.1 (av := [.inl 1]) (st := []) (by decide +kernel) (c_mustExist T' (zwG G' q0) S n 1) M.1.2.1 zl_T_104 (z_wi 698 (by decide +kernel) rfl) zs_T_mustExist ⟨by decide, by decide, by decide, by decide⟩ rfl (Nat.le_of_ble_eq_true rfl) (fun E w' hx => ?_) (fun v w' hv => ?_)
        · obtain ⟨h0, rfl, n2, hn2, rfl⟩ := hx
          exact absurd h0 (by decide)
        · obtain ⟨h0, rfl, rfl⟩ := hv
          show z_G X zm_T_burn (30, [(0, z_r 0), (1, .inl p1), (2, .inl p2), (3, .inl p3)], [], zW T' (zwG G' q0) S n, 1, 6)
          refine z_go2 M.1.1 30 [(.aload_n 0, 1), (.getfield 42, 3), (.aload_n 0, 1), (.getfield 12, 3), (.iload_n 3, 1)] (39, [(0, z_r 0), (1, .inl p1), (2, .inl p2), (3, .inl p3)], [.inl p3, z_r 1, z_r 27], zW T' (zwG G' q0) S n, 1, 6) (by decide +kernel) rfl ⟨trivial, rfl, trivial, rfl, trivial, trivial⟩ ?_
          refine z_callV M.1.1 (av := [z_r 1, .inl p3]) (st := []) (a := 27) (ci := 9) (by decide +kernel) (c_View_readUpTo T' (zwG G' q0) S n p3 hs.1) M.1.2.1 zl_T_341 zv_View_readUpTo rfl rfl rfl ⟨by decide, by decide, by decide, by decide⟩ rfl (Nat.le_of_ble_eq_true rfl) (fun v w' hv => ?_)
          replace hs := hs.2
          obtain ⟨S39, hF39⟩ : ∃ y, F_View_readUpTo S p3 = y := ⟨_, rfl⟩
          rw [hF39] at K hv
          try rw [hF39] at hs
          try dsimp only [z_let] at K hs
          obtain ⟨rfl, rfl⟩ := hv
          show z_G X zm_T_burn (42, [(0, z_r 0), (1, .inl p1), (2, .inl p2), (3, .inl p3)], [], zW T' (zwG G' q0) S39 n, 1, 6)
          refine z_go2 M.1.1 42 [(.aload_n 0, 1), (.getfield 47, 3), (.aload_n 0, 1), (.getfield 42, 3), (.getfield 346, 3), (.iload_n 1, 1)] (54, [(0, z_r 0), (1, .inl p1), (2, .inl p2), (3, .inl p3)], [.inl p1, z_r 28, z_r 36], zW T' (zwG G' q0) S39 n, 1, 6) (by decide +kernel) rfl ⟨trivial, rfl, trivial, rfl, rfl, trivial, trivial⟩ ?_
          refine z_callV M.1.1 (av := [z_r 28, .inl p1]) (st := []) (a := 36) (ci := 8) (by decide +kernel) (c_Sight_look_28 T' G' q0 S39 n p1 hs.1) M.1.2.1 zl_T_331 zv_Sight_look rfl rfl rfl ⟨by decide, by decide, by decide, by decide⟩ rfl (Nat.le_of_ble_eq_true rfl) (fun v w' hv => ?_)
          replace hs := hs.2
          obtain ⟨S54, hF54⟩ : ∃ y, F_Sight_look 28 S39 p1 = y := ⟨_, rfl⟩
          rw [hF54] at K hv
          try rw [hF54] at hs
          try dsimp only [z_let] at K hs
          obtain ⟨rfl, rfl⟩ := hv
          show z_G X zm_T_burn (57, [(0, z_r 0), (1, .inl p1), (2, .inl p2), (3, .inl p3)], [], zW T' (zwG G' 28) S54 n, 1, 6)
          refine z_go2 M.1.1 57 [(.iconst 0, 1), (.istore 4, 2), (.iconst 0, 1), (.istore 5, 2)] (63, [(5, .inl 0), (4, .inl 0), (0, z_r 0), (1, .inl p1), (2, .inl p2), (3, .inl p3)], [], zW T' (zwG G' 28) S54 n, 1, 6) (by decide +kernel) rfl ⟨trivial, trivial, trivial, trivial, trivial⟩ ?_
          refine z_lvs (lv' := [(0, z_r 0), (2, .inl p2), (4, .inl 0), (5, .inl 0)]) [2, 4, 1, 0] rfl ?_
          refine t_T_burn_L63 M (q0 := q0) (Q := fun o => F_T_burn_L63 p2 1300 S54 0 0 = o) p2 (fun y4_63 S63 hL63 => ?_) 1300 S54 0 0 rfl hs.1
          replace hs := hs.2
          rw [hL63] at K
          try rw [hL63] at hs
          try dsimp only at K hs
          refine z_go2 M.1.1 151 [(.aload_n 0, 1), (.getfield 47, 3), (.iload 4, 2), (.aload_n 0, 1), (.getfield 47, 3), (.getfield 335, 3), (.iand, 1), (.iconst 0, 1)] (166, [(0, z_r 0), (4, .inl y4_63)], [.inl 0, .inl (y4_63 &&& (S63 36 8)), z_r 36], zW T' (zwG G' 28) S63 n, 1, 6) (by decide +kernel) rfl ⟨trivial, rfl, trivial, trivial, rfl, rfl, trivial, trivial, trivial⟩ ?_
          refine z_callV M.1.1 (av := [.inl (y4_63 &&& (S63 36 8)), .inl 0]) (st := []) (a := 36) (ci := 8) (by decide +kernel) (c_Sight_total_28 T' G' S63 n (y4_63 &&& (S63 36 8)) 0 hs.1) M.1.2.1 zl_T_310 zv_Sight_total rfl rfl rfl ⟨by decide, by decide, by decide, by decide⟩ rfl (Nat.le_of_ble_eq_true rfl) (fun v w' hv => ?_)
          obtain ⟨rfl, rfl⟩ := hv
          replace hs := hs.2
          show z_G X zm_T_burn (169, [(0, z_r 0), (4, .inl y4_63)], [.inl (F_Sight_total 28 S63 (y4_63 &&& (S63 36 8)) 0)], zW T' (zwG G' 28) S63 n, 1, 6)
          exact z_iret M.1 (by decide +kernel) .int rfl rfl (by decide) (by decide) (hQ _ _ _ K)

-- TrackHouse.rule
abbrev rm_T_rule : Room := zx 7 3
def F_T_rule (S : (Nat → Nat → Int32)) (p1 : Int32) (p2 : Int32) (p3 : Int32) (p4 : Int32) (p5 : Int32) (p6 : Int32) : ((String ⊕ Int32) × (Nat → Nat → Int32)) := (if (F_T_isTrigger S p1 p2) = 0 then (.inl "java/lang/IllegalArgumentException", S) else (if p3 < 0 then (.inl "java/lang/IllegalArgumentException", S) else (if (3 : Int32) < p3 then (.inl "java/lang/IllegalArgumentException", S) else (if (F_T_isAction S p4 p5) = 0 then (.inl "java/lang/IllegalArgumentException", S) else (if (F_T_isNumber S p6) = 0 then (.inl "java/lang/IllegalArgumentException", S) else (if (6 : Int32) ≤ (S 59 8) then (.inl "java/lang/IllegalStateException", S) else (z_let (F_Rules_setCause (z_uS S 59 8 ((S 59 8) + 1)) (S 59 8) p1 p2) (fun S96 => (z_let (F_Rules_setDeed S96 (S 59 8) p3 p4 p5 p6) (fun S112 => (z_let (F_Rules_setTerms S112 (S 59 8) (-1) (-1) 0) (fun S124 => (.inr (S 59 8), S124)))))))))))))
def Sf_T_rule (S : (Nat → Nat → Int32)) (p1 : Int32) (p2 : Int32) (p3 : Int32) (p4 : Int32) (p5 : Int32) (p6 : Int32) : Prop := (Sf_T_isTrigger S p1 p2 ∧ (if (F_T_isTrigger S p1 p2) = 0 then True else (if p3 < 0 then True else (if (3 : Int32) < p3 then True else (Sf_T_isAction S p4 p5 ∧ True)))))
theorem c_T_rule (T' : Nat → Nat × Nat) (G' : Nat → Nat → Option Nat) (S : (Nat → Nat → Int32)) (n : Nat) (p1 : Int32) (p2 : Int32) (p3 : Int32) (p4 : Int32) (p5 : Int32) (p6 : Int32) (hs : Sf_T_rule S p1 p2 p3 p4 p5 p6) : z_RunX rm_T_rule zm_T_rule [z_r 0, .inl p1, .inl p2, .inl p3, .inl p4, .inl p5, .inl p6] (zW T' G' S n) (fun v w' => ∃ x S', F_T_rule S p1 p2 p3 p4 p5 p6 = (.inr x, S') ∧ v = some (.inl x) ∧ w' = zW T' G' S' n) (fun E w' => ∃ S' n2, n ≤ n2 ∧ F_T_rule S p1 p2 p3 p4 p5 p6 = (.inl E, S') ∧ w' = zW T' G' S' n2) := by
  refine z_bodyX (by decide) zf_T_ok (Nat.le_of_ble_eq_true rfl) (fun X M => ?_)
  obtain ⟨Q, hQ, hX, K⟩ : ∃ Q : ((String ⊕ Int32) × (Nat → Nat → Int32)) → Prop, (∀ v S', Q (.inr v, S') → ∃ x S'', F_T_rule S p1 p2 p3 p4 p5 p6 = (.inr x, S'') ∧ some (.inl v : z_V) = some (.inl x) ∧ zW T' G' S' n = zW T' G' S'' n) ∧ (∀ E S' (n2 : Nat), n ≤ n2 → Q (.inl E, S') → ∃ S'' n3, n ≤ n3 ∧ F_T_rule S p1 p2 p3 p4 p5 p6 = (.inl E, S'') ∧ zW T' G' S' n2 = zW T' G' S'' n3) ∧ Q (F_T_rule S p1 p2 p3 p4 p5 p6) := ⟨fun o => F_T_rule S p1 p2 p3 p4 p5 p6 = o, fun v S' h => ⟨v, S', h, rfl, rfl⟩, fun E S' n2 hn h => ⟨S', n2, hn, h, rfl⟩, rfl⟩
  show z_G X zm_T_rule (0, [(0, z_r 0), (1, .inl p1), (2, .inl p2), (3, .inl p3), (4, .inl p4), (5, .inl p5), (6, .inl p6)], [], zW T' G' S n, 0, 0)
  unfold F_T_rule at K
  unfold Sf_T_rule at hs
  refine z_go2 M.1.1 0 [(.iload_n 1, 1), (.iload_n 2, 1)] (2, [(0, z_r 0), (1, .inl p1), (2, .inl p2), (3, .inl p3), (4, .inl p4), (5, .inl p5), (6, .inl p6)], [.inl p2, .inl p1], zW T' G' S n, 0, 0) (by decide +kernel) rfl ⟨trivial, trivial, trivial⟩ ?_
  refine z_callS M.1.1 (av := [.inl p1, .inl p2]) (st := []) (by decide +kernel) (c_T_isTrigger T' G' S n p1 p2 hs.1) M.1.2.1 zl_T_355 zs_T_isTrigger ⟨by decide, by decide, by decide, by decide⟩ rfl (Nat.le_of_ble_eq_true rfl) (fun v w' hv => ?_)
  obtain ⟨rfl, rfl⟩ := hv
  replace hs := hs.2
  show z_G X zm_T_rule (5, [(0, z_r 0), (1, .inl p1), (2, .inl p2), (3, .inl p3), (4, .inl p4), (5, .inl p5), (6, .inl p6)], [.inl (F_T_isTrigger S p1 p2)], zW T' G' S n, 0, 0)
  refine z_if_eq 21 M.1.1 (off := 16) (by decide +kernel) (by decide) (fun c5 => ?_) (fun c5 => ?_)
  · rw [if_pos c5] at K hs
    refine z_go2 M.1.1 21 [(.iconst 0, 1)] (22, [(0, z_r 0), (1, .inl p1), (2, .inl p2), (3, .inl p3), (4, .inl p4), (5, .inl p5), (6, .inl p6)], [.inl 0], zW T' G' S n, 0, 0) (by decide +kernel) rfl ⟨trivial, trivial⟩ ?_
    refine z_callSX M.1.1 (av := [.inl 0]) (st := []) (by decide +kernel) (c_mustFit T' G' S n 0) M.1.2.1 zl_T_111 (z_wi 772 (by decide +kernel) rfl) zs_T_mustFit ⟨by decide, by decide, by decide, by decide⟩ rfl (Nat.le_of_ble_eq_true rfl) (fun E w' hx => ?_) (fun v w' hv => ?_)
    · obtain ⟨h0, rfl, n2, hn2, rfl⟩ := hx
      exact M.2 _ _ (hX _ _ n2 hn2 K) (Nat.le_of_ble_eq_true rfl) (Nat.le_of_ble_eq_true rfl)
    · obtain ⟨h0, rfl, rfl⟩ := hv
      exact absurd rfl h0
  · rw [if_neg c5] at K hs
    refine z_go2 M.1.1 8 [(.iload_n 3, 1)] (9, [(0, z_r 0), (1, .inl p1), (2, .inl p2), (3, .inl p3), (4, .inl p4), (5, .inl p5), (6, .inl p6)], [.inl p3], zW T' G' S n, 0, 0) (by decide +kernel) rfl ⟨trivial, trivial⟩ ?_
    refine z_if_lt 21 M.1.1 (off := 12) (by decide +kernel) (by decide) (fun c9 => ?_) (fun c9 => ?_)
    · rw [if_pos c9] at K hs
      refine z_go2 M.1.1 21 [(.iconst 0, 1)] (22, [(0, z_r 0), (1, .inl p1), (2, .inl p2), (3, .inl p3), (4, .inl p4), (5, .inl p5), (6, .inl p6)], [.inl 0], zW T' G' S n, 0, 0) (by decide +kernel) rfl ⟨trivial, trivial⟩ ?_
      refine z_callSX M.1.1 (av := [.inl 0]) (st := []) (by decide +kernel) (c_mustFit T' G' S n 0) M.1.2.1 zl_T_111 (z_wi 772 (by decide +kernel) rfl) zs_T_mustFit ⟨by decide, by decide, by decide, by decide⟩ rfl (Nat.le_of_ble_eq_true rfl) (fun E w' hx => ?_) (fun v w' hv => ?_)
      · obtain ⟨h0, rfl, n2, hn2, rfl⟩ := hx
        exact M.2 _ _ (hX _ _ n2 hn2 K) (Nat.le_of_ble_eq_true rfl) (Nat.le_of_ble_eq_true rfl)
      · obtain ⟨h0, rfl, rfl⟩ := hv
        exact absurd rfl h0
    · rw [if_neg c9] at K hs
      refine z_go2 M.1.1 12 [(.iload_n 3, 1), (.iconst 3, 1)] (14, [(0, z_r 0), (1, .inl p1), (2, .inl p2), (3, .inl p3), (4, .inl p4), (5, .inl p5), (6, .inl p6)], [.inl 3, .inl p3], zW T' G' S n, 0, 0) (by decide +kernel) rfl ⟨trivial, trivial, trivial⟩ ?_
      refine z_icmp_gt 21 M.1.1 (off := 7) (by decide +kernel) (by decide) (fun c14 => ?_) (fun c14 => ?_)
      · rw [if_pos c14] at K hs
        refine z_go2 M.1.1 21 [(.iconst 0, 1)] (22, [(0, z_r 0), (1, .inl p1), (2, .inl p2), (3, .inl p3), (4, .inl p4), (5, .inl p5), (6, .inl p6)], [.inl 0], zW T' G' S n, 0, 0) (by decide +kernel) rfl ⟨trivial, trivial⟩ ?_
        refine z_callSX M.1.1 (av := [.inl 0]) (st := []) (by decide +kernel) (c_mustFit T' G' S n 0) M.1.2.1 zl_T_111 (z_wi 772 (by decide +kernel) rfl) zs_T_mustFit ⟨by decide, by decide, by decide, by decide⟩ rfl (Nat.le_of_ble_eq_true rfl) (fun E w' hx => ?_) (fun v w' hv => ?_)
        · obtain ⟨h0, rfl, n2, hn2, rfl⟩ := hx
          exact M.2 _ _ (hX _ _ n2 hn2 K) (Nat.le_of_ble_eq_true rfl) (Nat.le_of_ble_eq_true rfl)
        · obtain ⟨h0, rfl, rfl⟩ := hv
          exact absurd rfl h0
      · rw [if_neg c14] at K hs
        refine z_go2 M.1.1 17 [(.iconst 1, 1), (.goto 4, 3)] (22, [(0, z_r 0), (1, .inl p1), (2, .inl p2), (3, .inl p3), (4, .inl p4), (5, .inl p5), (6, .inl p6)], [.inl 1], zW T' G' S n, 0, 0) (by decide +kernel) rfl ⟨trivial, trivial, trivial⟩ ?_
        refine z_callSX M.1.1 (av := [.inl 1]) (st := []) (by decide +kernel) (c_mustFit T' G' S n 1) M.1.2.1 zl_T_111 (z_wi 772 (by decide +kernel) rfl) zs_T_mustFit ⟨by decide, by decide, by decide, by decide⟩ rfl (Nat.le_of_ble_eq_true rfl) (fun E w' hx => ?_) (fun v w' hv => ?_)
        · obtain ⟨h0, rfl, n2, hn2, rfl⟩ := hx
          exact absurd h0 (by decide)
        · obtain ⟨h0, rfl, rfl⟩ := hv
          show z_G X zm_T_rule (25, [(0, z_r 0), (1, .inl p1), (2, .inl p2), (3, .inl p3), (4, .inl p4), (5, .inl p5), (6, .inl p6)], [], zW T' G' S n, 1, 6)
          refine z_go2 M.1.1 25 [(.iload 4, 2), (.iload 5, 2)] (29, [(0, z_r 0), (1, .inl p1), (2, .inl p2), (3, .inl p3), (4, .inl p4), (5, .inl p5), (6, .inl p6)], [.inl p5, .inl p4], zW T' G' S n, 1, 6) (by decide +kernel) rfl ⟨trivial, trivial, trivial⟩ ?_
          refine z_callS M.1.1 (av := [.inl p4, .inl p5]) (st := []) (by decide +kernel) (c_T_isAction T' G' S n p4 p5 hs.1) M.1.2.1 zl_T_358 zs_T_isAction ⟨by decide, by decide, by decide, by decide⟩ rfl (Nat.le_of_ble_eq_true rfl) (fun v w' hv => ?_)
          obtain ⟨rfl, rfl⟩ := hv
          replace hs := hs.2
          show z_G X zm_T_rule (32, [(0, z_r 0), (1, .inl p1), (2, .inl p2), (3, .inl p3), (4, .inl p4), (5, .inl p5), (6, .inl p6)], [.inl (F_T_isAction S p4 p5)], zW T' G' S n, 1, 6)
          refine z_if_eq 47 M.1.1 (off := 15) (by decide +kernel) (by decide) (fun c32 => ?_) (fun c32 => ?_)
          · rw [if_pos c32] at K
            refine z_go2 M.1.1 47 [(.iconst 0, 1)] (48, [(0, z_r 0), (1, .inl p1), (2, .inl p2), (3, .inl p3), (4, .inl p4), (5, .inl p5), (6, .inl p6)], [.inl 0], zW T' G' S n, 1, 6) (by decide +kernel) rfl ⟨trivial, trivial⟩ ?_
            refine z_callSX M.1.1 (av := [.inl 0]) (st := []) (by decide +kernel) (c_mustFit T' G' S n 0) M.1.2.1 zl_T_111 (z_wi 772 (by decide +kernel) rfl) zs_T_mustFit ⟨by decide, by decide, by decide, by decide⟩ rfl (Nat.le_of_ble_eq_true rfl) (fun E w' hx => ?_) (fun v w' hv => ?_)
            · obtain ⟨h0, rfl, n2, hn2, rfl⟩ := hx
              exact M.2 _ _ (hX _ _ n2 hn2 K) (Nat.le_of_ble_eq_true rfl) (Nat.le_of_ble_eq_true rfl)
            · obtain ⟨h0, rfl, rfl⟩ := hv
              exact absurd rfl h0
          · rw [if_neg c32] at K
            refine z_go2 M.1.1 35 [(.iload 6, 2)] (37, [(0, z_r 0), (1, .inl p1), (2, .inl p2), (3, .inl p3), (4, .inl p4), (5, .inl p5), (6, .inl p6)], [.inl p6], zW T' G' S n, 1, 6) (by decide +kernel) rfl ⟨trivial, trivial⟩ ?_
            refine z_callS M.1.1 (av := [.inl p6]) (st := []) (by decide +kernel) (c_T_isNumber T' G' S n p6) M.1.2.1 zl_T_194 zs_T_isNumber ⟨by decide, by decide, by decide, by decide⟩ rfl (Nat.le_of_ble_eq_true rfl) (fun v w' hv => ?_)
            obtain ⟨rfl, rfl⟩ := hv
            show z_G X zm_T_rule (40, [(0, z_r 0), (1, .inl p1), (2, .inl p2), (3, .inl p3), (4, .inl p4), (5, .inl p5), (6, .inl p6)], [.inl (F_T_isNumber S p6)], zW T' G' S n, 1, 6)
            refine z_if_eq 47 M.1.1 (off := 7) (by decide +kernel) (by decide) (fun c40 => ?_) (fun c40 => ?_)
            · rw [if_pos c40] at K
              refine z_go2 M.1.1 47 [(.iconst 0, 1)] (48, [(0, z_r 0), (1, .inl p1), (2, .inl p2), (3, .inl p3), (4, .inl p4), (5, .inl p5), (6, .inl p6)], [.inl 0], zW T' G' S n, 1, 6) (by decide +kernel) rfl ⟨trivial, trivial⟩ ?_
              refine z_callSX M.1.1 (av := [.inl 0]) (st := []) (by decide +kernel) (c_mustFit T' G' S n 0) M.1.2.1 zl_T_111 (z_wi 772 (by decide +kernel) rfl) zs_T_mustFit ⟨by decide, by decide, by decide, by decide⟩ rfl (Nat.le_of_ble_eq_true rfl) (fun E w' hx => ?_) (fun v w' hv => ?_)
              · obtain ⟨h0, rfl, n2, hn2, rfl⟩ := hx
                exact M.2 _ _ (hX _ _ n2 hn2 K) (Nat.le_of_ble_eq_true rfl) (Nat.le_of_ble_eq_true rfl)
              · obtain ⟨h0, rfl, rfl⟩ := hv
                exact absurd rfl h0
            · rw [if_neg c40] at K
              refine z_go2 M.1.1 43 [(.iconst 1, 1), (.goto 4, 3)] (48, [(0, z_r 0), (1, .inl p1), (2, .inl p2), (3, .inl p3), (4, .inl p4), (5, .inl p5), (6, .inl p6)], [.inl 1], zW T' G' S n, 1, 6) (by decide +kernel) rfl ⟨trivial, trivial, trivial⟩ ?_
              refine z_callSX M.1.1 (av := [.inl 1]) (st := []) (by decide +kernel) (c_mustFit T' G' S n 1) M.1.2.1 zl_T_111 (z_wi 772 (by decide +kernel) rfl) zs_T_mustFit ⟨by decide, by decide, by decide, by decide⟩ rfl (Nat.le_of_ble_eq_true rfl) (fun E w' hx => ?_) (fun v w' hv => ?_)
              · obtain ⟨h0, rfl, n2, hn2, rfl⟩ := hx
                exact absurd h0 (by decide)
              · obtain ⟨h0, rfl, rfl⟩ := hv
                show z_G X zm_T_rule (51, [(0, z_r 0), (1, .inl p1), (2, .inl p2), (3, .inl p3), (4, .inl p4), (5, .inl p5), (6, .inl p6)], [], zW T' G' S n, 2, 12)
                refine z_go2 M.1.1 51 [(.aload_n 0, 1), (.getfield 65, 3), (.getfield 361, 3), (.istore 7, 2), (.iload 7, 2), (.bipush 6, 2)] (64, [(7, .inl (S 59 8)), (0, z_r 0), (1, .inl p1), (2, .inl p2), (3, .inl p3), (4, .inl p4), (5, .inl p5), (6, .inl p6)], [.inl 6, .inl (S 59 8)], zW T' G' S n, 2, 12) (by decide +kernel) rfl ⟨trivial, rfl, rfl, trivial, trivial, trivial, trivial⟩ ?_
                refine z_icmp_ge 71 M.1.1 (off := 7) (by decide +kernel) (by decide) (fun c64 => ?_) (fun c64 => ?_)
                · rw [if_pos c64] at K
                  refine z_go2 M.1.1 71 [(.iconst 0, 1)] (72, [(7, .inl (S 59 8)), (0, z_r 0), (1, .inl p1), (2, .inl p2), (3, .inl p3), (4, .inl p4), (5, .inl p5), (6, .inl p6)], [.inl 0], zW T' G' S n, 2, 12) (by decide +kernel) rfl ⟨trivial, trivial⟩ ?_
                  refine z_callSX M.1.1 (av := [.inl 0]) (st := []) (by decide +kernel) (c_mustBeAllowed T' G' S n 0) M.1.2.1 zl_T_128 (z_wi 847 (by decide +kernel) rfl) zs_T_mustBeAllowed ⟨by decide, by decide, by decide, by decide⟩ rfl (Nat.le_of_ble_eq_true rfl) (fun E w' hx => ?_) (fun v w' hv => ?_)
                  · obtain ⟨h0, rfl, n2, hn2, rfl⟩ := hx
                    exact M.2 _ _ (hX _ _ n2 hn2 K) (Nat.le_of_ble_eq_true rfl) (Nat.le_of_ble_eq_true rfl)
                  · obtain ⟨h0, rfl, rfl⟩ := hv
                    exact absurd rfl h0
                · rw [if_neg c64] at K
                  refine z_go2 M.1.1 67 [(.iconst 1, 1), (.goto 4, 3)] (72, [(7, .inl (S 59 8)), (0, z_r 0), (1, .inl p1), (2, .inl p2), (3, .inl p3), (4, .inl p4), (5, .inl p5), (6, .inl p6)], [.inl 1], zW T' G' S n, 2, 12) (by decide +kernel) rfl ⟨trivial, trivial, trivial⟩ ?_
                  refine z_callSX M.1.1 (av := [.inl 1]) (st := []) (by decide +kernel) (c_mustBeAllowed T' G' S n 1) M.1.2.1 zl_T_128 (z_wi 847 (by decide +kernel) rfl) zs_T_mustBeAllowed ⟨by decide, by decide, by decide, by decide⟩ rfl (Nat.le_of_ble_eq_true rfl) (fun E w' hx => ?_) (fun v w' hv => ?_)
                  · obtain ⟨h0, rfl, n2, hn2, rfl⟩ := hx
                    exact absurd h0 (by decide)
                  · obtain ⟨h0, rfl, rfl⟩ := hv
                    show z_G X zm_T_rule (75, [(7, .inl (S 59 8)), (0, z_r 0), (1, .inl p1), (2, .inl p2), (3, .inl p3), (4, .inl p4), (5, .inl p5), (6, .inl p6)], [], zW T' G' S n, 3, 18)
                    refine z_go2 M.1.1 75 [(.aload_n 0, 1), (.getfield 65, 3), (.dup, 1), (.getfield 361, 3), (.iconst 1, 1), (.iadd, 1), (.putfield 361, 3), (.aload_n 0, 1), (.getfield 65, 3), (.iload 7, 2), (.iload_n 1, 1), (.iload_n 2, 1)] (96, [(7, .inl (S 59 8)), (0, z_r 0), (1, .inl p1), (2, .inl p2), (3, .inl p3), (4, .inl p4), (5, .inl p5), (6, .inl p6)], [.inl p2, .inl p1, .inl (S 59 8), z_r 59], zW T' G' (z_uS S 59 8 ((S 59 8) + 1)) n, 3, 18) (by decide +kernel) rfl ⟨trivial, rfl, rfl, rfl, trivial, trivial, ⟨rfl, trivial⟩, trivial, rfl, trivial, trivial, trivial, trivial⟩ ?_
                    refine z_callV M.1.1 (av := [.inl (S 59 8), .inl p1, .inl p2]) (st := []) (a := 59) (ci := 7) (by decide +kernel) (c_Rules_setCause T' G' (z_uS S 59 8 ((S 59 8) + 1)) n (S 59 8) p1 p2) M.1.2.1 zl_T_362 zv_Rules_setCause rfl rfl rfl ⟨by decide, by decide, by decide, by decide⟩ rfl (Nat.le_of_ble_eq_true rfl) (fun v w' hv => ?_)
                    obtain ⟨S96, hF96⟩ : ∃ y, F_Rules_setCause (z_uS S 59 8 ((S 59 8) + 1)) (S 59 8) p1 p2 = y := ⟨_, rfl⟩
                    rw [hF96] at K hv
                    try dsimp only [z_let] at K
                    obtain ⟨rfl, rfl⟩ := hv
                    show z_G X zm_T_rule (99, [(7, .inl (S 59 8)), (0, z_r 0), (1, .inl p1), (2, .inl p2), (3, .inl p3), (4, .inl p4), (5, .inl p5), (6, .inl p6)], [], zW T' G' S96 n, 3, 18)
                    refine z_go2 M.1.1 99 [(.aload_n 0, 1), (.getfield 65, 3), (.iload 7, 2), (.iload_n 3, 1), (.iload 4, 2), (.iload 5, 2), (.iload 6, 2)] (112, [(7, .inl (S 59 8)), (0, z_r 0), (1, .inl p1), (2, .inl p2), (3, .inl p3), (4, .inl p4), (5, .inl p5), (6, .inl p6)], [.inl p6, .inl p5, .inl p4, .inl p3, .inl (S 59 8), z_r 59], zW T' G' S96 n, 3, 18) (by decide +kernel) rfl ⟨trivial, rfl, trivial, trivial, trivial, trivial, trivial, trivial⟩ ?_
                    refine z_callV M.1.1 (av := [.inl (S 59 8), .inl p3, .inl p4, .inl p5, .inl p6]) (st := []) (a := 59) (ci := 7) (by decide +kernel) (c_Rules_setDeed T' G' S96 n (S 59 8) p3 p4 p5 p6) M.1.2.1 zl_T_365 zv_Rules_setDeed rfl rfl rfl ⟨by decide, by decide, by decide, by decide⟩ rfl (Nat.le_of_ble_eq_true rfl) (fun v w' hv => ?_)
                    obtain ⟨S112, hF112⟩ : ∃ y, F_Rules_setDeed S96 (S 59 8) p3 p4 p5 p6 = y := ⟨_, rfl⟩
                    rw [hF112] at K hv
                    try dsimp only [z_let] at K
                    obtain ⟨rfl, rfl⟩ := hv
                    show z_G X zm_T_rule (115, [(7, .inl (S 59 8)), (0, z_r 0), (1, .inl p1), (2, .inl p2), (3, .inl p3), (4, .inl p4), (5, .inl p5), (6, .inl p6)], [], zW T' G' S112 n, 3, 18)
                    refine z_go2 M.1.1 115 [(.aload_n 0, 1), (.getfield 65, 3), (.iload 7, 2), (.iconst (-1), 1), (.iconst (-1), 1), (.iconst 0, 1)] (124, [(7, .inl (S 59 8)), (0, z_r 0), (1, .inl p1), (2, .inl p2), (3, .inl p3), (4, .inl p4), (5, .inl p5), (6, .inl p6)], [.inl 0, .inl (-1), .inl (-1), .inl (S 59 8), z_r 59], zW T' G' S112 n, 3, 18) (by decide +kernel) rfl ⟨trivial, rfl, trivial, trivial, trivial, trivial, trivial⟩ ?_
                    refine z_callV M.1.1 (av := [.inl (S 59 8), .inl (-1), .inl (-1), .inl 0]) (st := []) (a := 59) (ci := 7) (by decide +kernel) (c_Rules_setTerms T' G' S112 n (S 59 8) (-1) (-1) 0) M.1.2.1 zl_T_368 zv_Rules_setTerms rfl rfl rfl ⟨by decide, by decide, by decide, by decide⟩ rfl (Nat.le_of_ble_eq_true rfl) (fun v w' hv => ?_)
                    obtain ⟨S124, hF124⟩ : ∃ y, F_Rules_setTerms S112 (S 59 8) (-1) (-1) 0 = y := ⟨_, rfl⟩
                    rw [hF124] at K hv
                    try dsimp only [z_let] at K
                    obtain ⟨rfl, rfl⟩ := hv
                    show z_G X zm_T_rule (127, [(7, .inl (S 59 8)), (0, z_r 0), (1, .inl p1), (2, .inl p2), (3, .inl p3), (4, .inl p4), (5, .inl p5), (6, .inl p6)], [], zW T' G' S124 n, 3, 18)
                    refine z_go2 M.1.1 127 [(.iload 7, 2)] (129, [(7, .inl (S 59 8)), (0, z_r 0), (1, .inl p1), (2, .inl p2), (3, .inl p3), (4, .inl p4), (5, .inl p5), (6, .inl p6)], [.inl (S 59 8)], zW T' G' S124 n, 3, 18) (by decide +kernel) rfl ⟨trivial, trivial⟩ ?_
                    exact z_iret M.1 (by decide +kernel) .int rfl rfl (by decide) (by decide) (hQ _ _ K)

-- TrackHouse.narrow
abbrev rm_T_narrow : Room := zx 7 2
def F_T_narrow_j47 (S : (Nat → Nat → Int32)) (x1 : Int32) (x2 : Int32) (x3 : Int32) (x4 : Int32) : ((String ⊕ Unit) × (Nat → Nat → Int32)) := (if (F_T_isNumber S x4) = 0 then (.inl "java/lang/IllegalArgumentException", S) else (z_let (F_Rules_setTerms S x1 x2 x3 x4) (fun S72 => (.inr (), S72))))
theorem t_T_narrow_j47 {X : z_X} {Post : Option z_V → z_W → Prop} {PX : String → z_W → Prop} (M : z_MX X zm_T_narrow rm_T_narrow Post PX) {T' : Nat → Nat × Nat} {G' : Nat → Nat → Option Nat} {n : Nat} {Q : ((String ⊕ Unit) × (Nat → Nat → Int32)) → Prop} (S : (Nat → Nat → Int32)) (x1 : Int32) (x2 : Int32) (x3 : Int32) (x4 : Int32) (hQ : ∀ S', Q (.inr (), S') → Post none (zW T' G' S' n)) (hX : ∀ E S' (n2 : Nat), n ≤ n2 → Q (.inl E, S') → PX E (zW T' G' S' n2)) (K : Q (F_T_narrow_j47 S x1 x2 x3 x4)) : z_G X zm_T_narrow (47, [(0, z_r 0), (1, .inl x1), (2, .inl x2), (3, .inl x3), (4, .inl x4)], [], zW T' G' S n, 1, 6) := by
  unfold F_T_narrow_j47 at K
  refine z_go2 M.1.1 47 [(.iload 4, 2)] (49, [(0, z_r 0), (1, .inl x1), (2, .inl x2), (3, .inl x3), (4, .inl x4)], [.inl x4], zW T' G' S n, 1, 6) (by decide +kernel) rfl ⟨trivial, trivial⟩ ?_
  refine z_callS M.1.1 (av := [.inl x4]) (st := []) (by decide +kernel) (c_T_isNumber T' G' S n x4) M.1.2.1 zl_T_194 zs_T_isNumber ⟨by decide, by decide, by decide, by decide⟩ rfl (Nat.le_of_ble_eq_true rfl) (fun v w' hv => ?_)
  obtain ⟨rfl, rfl⟩ := hv
  show z_G X zm_T_narrow (52, [(0, z_r 0), (1, .inl x1), (2, .inl x2), (3, .inl x3), (4, .inl x4)], [.inl (F_T_isNumber S x4)], zW T' G' S n, 1, 6)
  refine z_if_eq 59 M.1.1 (off := 7) (by decide +kernel) (by decide) (fun c52 => ?_) (fun c52 => ?_)
  · rw [if_pos c52] at K
    refine z_go2 M.1.1 59 [(.iconst 0, 1)] (60, [(0, z_r 0), (1, .inl x1), (2, .inl x2), (3, .inl x3), (4, .inl x4)], [.inl 0], zW T' G' S n, 1, 6) (by decide +kernel) rfl ⟨trivial, trivial⟩ ?_
    refine z_callSX M.1.1 (av := [.inl 0]) (st := []) (by decide +kernel) (c_mustFit T' G' S n 0) M.1.2.1 zl_T_111 (z_wi 772 (by decide +kernel) rfl) zs_T_mustFit ⟨by decide, by decide, by decide, by decide⟩ rfl (Nat.le_of_ble_eq_true rfl) (fun E w' hx => ?_) (fun v w' hv => ?_)
    · obtain ⟨h0, rfl, n2, hn2, rfl⟩ := hx
      exact M.2 _ _ (hX _ _ n2 hn2 K) (Nat.le_of_ble_eq_true rfl) (Nat.le_of_ble_eq_true rfl)
    · obtain ⟨h0, rfl, rfl⟩ := hv
      exact absurd rfl h0
  · rw [if_neg c52] at K
    refine z_go2 M.1.1 55 [(.iconst 1, 1), (.goto 4, 3)] (60, [(0, z_r 0), (1, .inl x1), (2, .inl x2), (3, .inl x3), (4, .inl x4)], [.inl 1], zW T' G' S n, 1, 6) (by decide +kernel) rfl ⟨trivial, trivial, trivial⟩ ?_
    refine z_callSX M.1.1 (av := [.inl 1]) (st := []) (by decide +kernel) (c_mustFit T' G' S n 1) M.1.2.1 zl_T_111 (z_wi 772 (by decide +kernel) rfl) zs_T_mustFit ⟨by decide, by decide, by decide, by decide⟩ rfl (Nat.le_of_ble_eq_true rfl) (fun E w' hx => ?_) (fun v w' hv => ?_)
    · obtain ⟨h0, rfl, n2, hn2, rfl⟩ := hx
      exact absurd h0 (by decide)
    · obtain ⟨h0, rfl, rfl⟩ := hv
      show z_G X zm_T_narrow (63, [(0, z_r 0), (1, .inl x1), (2, .inl x2), (3, .inl x3), (4, .inl x4)], [], zW T' G' S n, 2, 12)
      refine z_go2 M.1.1 63 [(.aload_n 0, 1), (.getfield 65, 3), (.iload_n 1, 1), (.iload_n 2, 1), (.iload_n 3, 1), (.iload 4, 2)] (72, [(0, z_r 0), (1, .inl x1), (2, .inl x2), (3, .inl x3), (4, .inl x4)], [.inl x4, .inl x3, .inl x2, .inl x1, z_r 59], zW T' G' S n, 2, 12) (by decide +kernel) rfl ⟨trivial, rfl, trivial, trivial, trivial, trivial, trivial⟩ ?_
      refine z_callV M.1.1 (av := [.inl x1, .inl x2, .inl x3, .inl x4]) (st := []) (a := 59) (ci := 7) (by decide +kernel) (c_Rules_setTerms T' G' S n x1 x2 x3 x4) M.1.2.1 zl_T_368 zv_Rules_setTerms rfl rfl rfl ⟨by decide, by decide, by decide, by decide⟩ rfl (Nat.le_of_ble_eq_true rfl) (fun v w' hv => ?_)
      obtain ⟨S72, hF72⟩ : ∃ y, F_Rules_setTerms S x1 x2 x3 x4 = y := ⟨_, rfl⟩
      rw [hF72] at K hv
      try dsimp only [z_let] at K
      obtain ⟨rfl, rfl⟩ := hv
      show z_G X zm_T_narrow (75, [(0, z_r 0), (1, .inl x1), (2, .inl x2), (3, .inl x3), (4, .inl x4)], [], zW T' G' S72 n, 2, 12)
      exact z_vret M.1 (by decide +kernel) rfl (by decide) (by decide) (hQ _ K)
def F_T_narrow_j35 (S : (Nat → Nat → Int32)) (x1 : Int32) (x2 : Int32) (x3 : Int32) (x4 : Int32) : ((String ⊕ Unit) × (Nat → Nat → Int32)) := (if x3 = (-1) then (F_T_narrow_j47 S x1 x2 x3 x4) else (if (F_T_isField S x3) = 0 then (.inl "java/lang/IllegalArgumentException", S) else (F_T_narrow_j47 S x1 x2 x3 x4)))
theorem t_T_narrow_j35 {X : z_X} {Post : Option z_V → z_W → Prop} {PX : String → z_W → Prop} (M : z_MX X zm_T_narrow rm_T_narrow Post PX) {T' : Nat → Nat × Nat} {G' : Nat → Nat → Option Nat} {n : Nat} {Q : ((String ⊕ Unit) × (Nat → Nat → Int32)) → Prop} (S : (Nat → Nat → Int32)) (x1 : Int32) (x2 : Int32) (x3 : Int32) (x4 : Int32) (hQ : ∀ S', Q (.inr (), S') → Post none (zW T' G' S' n)) (hX : ∀ E S' (n2 : Nat), n ≤ n2 → Q (.inl E, S') → PX E (zW T' G' S' n2)) (K : Q (F_T_narrow_j35 S x1 x2 x3 x4)) : z_G X zm_T_narrow (35, [(0, z_r 0), (1, .inl x1), (2, .inl x2), (3, .inl x3), (4, .inl x4)], [], zW T' G' S n, 1, 6) := by
  unfold F_T_narrow_j35 at K
  refine z_go2 M.1.1 35 [(.iload_n 3, 1), (.iconst (-1), 1)] (37, [(0, z_r 0), (1, .inl x1), (2, .inl x2), (3, .inl x3), (4, .inl x4)], [.inl (-1), .inl x3], zW T' G' S n, 1, 6) (by decide +kernel) rfl ⟨trivial, trivial, trivial⟩ ?_
  refine z_icmp_eq 47 M.1.1 (off := 10) (by decide +kernel) (by decide) (fun c37 => ?_) (fun c37 => ?_)
  · rw [if_pos c37] at K
    exact z_lvs (lv' := [(0, z_r 0), (1, .inl x1), (2, .inl x2), (3, .inl x3), (4, .inl x4)]) [0, 1, 2, 3, 4] rfl (t_T_narrow_j47 M S x1 x2 x3 x4 hQ hX K)
  · rw [if_neg c37] at K
    refine z_go2 M.1.1 40 [(.iload_n 3, 1)] (41, [(0, z_r 0), (1, .inl x1), (2, .inl x2), (3, .inl x3), (4, .inl x4)], [.inl x3], zW T' G' S n, 1, 6) (by decide +kernel) rfl ⟨trivial, trivial⟩ ?_
    refine z_callS M.1.1 (av := [.inl x3]) (st := []) (by decide +kernel) (c_T_isField T' G' S n x3) M.1.2.1 zl_T_157 zs_T_isField ⟨by decide, by decide, by decide, by decide⟩ rfl (Nat.le_of_ble_eq_true rfl) (fun v w' hv => ?_)
    obtain ⟨rfl, rfl⟩ := hv
    show z_G X zm_T_narrow (44, [(0, z_r 0), (1, .inl x1), (2, .inl x2), (3, .inl x3), (4, .inl x4)], [.inl (F_T_isField S x3)], zW T' G' S n, 1, 6)
    refine z_if_eq 59 M.1.1 (off := 15) (by decide +kernel) (by decide) (fun c44 => ?_) (fun c44 => ?_)
    · rw [if_pos c44] at K
      refine z_go2 M.1.1 59 [(.iconst 0, 1)] (60, [(0, z_r 0), (1, .inl x1), (2, .inl x2), (3, .inl x3), (4, .inl x4)], [.inl 0], zW T' G' S n, 1, 6) (by decide +kernel) rfl ⟨trivial, trivial⟩ ?_
      refine z_callSX M.1.1 (av := [.inl 0]) (st := []) (by decide +kernel) (c_mustFit T' G' S n 0) M.1.2.1 zl_T_111 (z_wi 772 (by decide +kernel) rfl) zs_T_mustFit ⟨by decide, by decide, by decide, by decide⟩ rfl (Nat.le_of_ble_eq_true rfl) (fun E w' hx => ?_) (fun v w' hv => ?_)
      · obtain ⟨h0, rfl, n2, hn2, rfl⟩ := hx
        exact M.2 _ _ (hX _ _ n2 hn2 K) (Nat.le_of_ble_eq_true rfl) (Nat.le_of_ble_eq_true rfl)
      · obtain ⟨h0, rfl, rfl⟩ := hv
        exact absurd rfl h0
    · rw [if_neg c44] at K
      exact z_lvs (lv' := [(0, z_r 0), (1, .inl x1), (2, .inl x2), (3, .inl x3), (4, .inl x4)]) [0, 1, 2, 3, 4] rfl (t_T_narrow_j47 M S x1 x2 x3 x4 hQ hX K)
def F_T_narrow (S : (Nat → Nat → Int32)) (p1 : Int32) (p2 : Int32) (p3 : Int32) (p4 : Int32) : ((String ⊕ Unit) × (Nat → Nat → Int32)) := (if p1 < 0 then (.inl "java/lang/IndexOutOfBoundsException", S) else (if (S 59 8) ≤ p1 then (.inl "java/lang/IndexOutOfBoundsException", S) else (if p2 = (-1) then (F_T_narrow_j35 S p1 p2 p3 p4) else (if (F_T_isKind S p2) = 0 then (.inl "java/lang/IllegalArgumentException", S) else (F_T_narrow_j35 S p1 p2 p3 p4)))))
theorem c_T_narrow (T' : Nat → Nat × Nat) (G' : Nat → Nat → Option Nat) (S : (Nat → Nat → Int32)) (n : Nat) (p1 : Int32) (p2 : Int32) (p3 : Int32) (p4 : Int32) : z_RunX rm_T_narrow zm_T_narrow [z_r 0, .inl p1, .inl p2, .inl p3, .inl p4] (zW T' G' S n) (fun v w' => ∃ S', F_T_narrow S p1 p2 p3 p4 = (.inr (), S') ∧ v = none ∧ w' = zW T' G' S' n) (fun E w' => ∃ S' n2, n ≤ n2 ∧ F_T_narrow S p1 p2 p3 p4 = (.inl E, S') ∧ w' = zW T' G' S' n2) := by
  refine z_bodyX (by decide) zf_T_ok (Nat.le_of_ble_eq_true rfl) (fun X M => ?_)
  obtain ⟨Q, hQ, hX, K⟩ : ∃ Q : ((String ⊕ Unit) × (Nat → Nat → Int32)) → Prop, (∀ S', Q (.inr (), S') → ∃ S'', F_T_narrow S p1 p2 p3 p4 = (.inr (), S'') ∧ (none : Option z_V) = none ∧ zW T' G' S' n = zW T' G' S'' n) ∧ (∀ E S' (n2 : Nat), n ≤ n2 → Q (.inl E, S') → ∃ S'' n3, n ≤ n3 ∧ F_T_narrow S p1 p2 p3 p4 = (.inl E, S'') ∧ zW T' G' S' n2 = zW T' G' S'' n3) ∧ Q (F_T_narrow S p1 p2 p3 p4) := ⟨fun o => F_T_narrow S p1 p2 p3 p4 = o, fun S' h => ⟨S', h, rfl, rfl⟩, fun E S' n2 hn h => ⟨S', n2, hn, h, rfl⟩, rfl⟩
  show z_G X zm_T_narrow (0, [(0, z_r 0), (1, .inl p1), (2, .inl p2), (3, .inl p3), (4, .inl p4)], [], zW T' G' S n, 0, 0)
  unfold F_T_narrow at K
  refine z_go2 M.1.1 0 [(.iload_n 1, 1)] (1, [(0, z_r 0), (1, .inl p1), (2, .inl p2), (3, .inl p3), (4, .inl p4)], [.inl p1], zW T' G' S n, 0, 0) (by decide +kernel) rfl ⟨trivial, trivial⟩ ?_
  refine z_if_lt 19 M.1.1 (off := 18) (by decide +kernel) (by decide) (fun c1 => ?_) (fun c1 => ?_)
  · rw [if_pos c1] at K
    refine z_go2 M.1.1 19 [(.iconst 0, 1)] (20, [(0, z_r 0), (1, .inl p1), (2, .inl p2), (3, .inl p3), (4, .inl p4)], [.inl 0], zW T' G' S n, 0, 0) (by decide +kernel) rfl ⟨trivial, trivial⟩ ?_
    refine z_callSX M.1.1 (av := [.inl 0]) (st := []) (by decide +kernel) (c_mustExist T' G' S n 0) M.1.2.1 zl_T_104 (z_wi 698 (by decide +kernel) rfl) zs_T_mustExist ⟨by decide, by decide, by decide, by decide⟩ rfl (Nat.le_of_ble_eq_true rfl) (fun E w' hx => ?_) (fun v w' hv => ?_)
    · obtain ⟨h0, rfl, n2, hn2, rfl⟩ := hx
      exact M.2 _ _ (hX _ _ n2 hn2 K) (Nat.le_of_ble_eq_true rfl) (Nat.le_of_ble_eq_true rfl)
    · obtain ⟨h0, rfl, rfl⟩ := hv
      exact absurd rfl h0
  · rw [if_neg c1] at K
    refine z_go2 M.1.1 4 [(.iload_n 1, 1), (.aload_n 0, 1), (.getfield 65, 3), (.getfield 361, 3)] (12, [(0, z_r 0), (1, .inl p1), (2, .inl p2), (3, .inl p3), (4, .inl p4)], [.inl (S 59 8), .inl p1], zW T' G' S n, 0, 0) (by decide +kernel) rfl ⟨trivial, trivial, rfl, rfl, trivial⟩ ?_
    refine z_icmp_ge 19 M.1.1 (off := 7) (by decide +kernel) (by decide) (fun c12 => ?_) (fun c12 => ?_)
    · rw [if_pos c12] at K
      refine z_go2 M.1.1 19 [(.iconst 0, 1)] (20, [(0, z_r 0), (1, .inl p1), (2, .inl p2), (3, .inl p3), (4, .inl p4)], [.inl 0], zW T' G' S n, 0, 0) (by decide +kernel) rfl ⟨trivial, trivial⟩ ?_
      refine z_callSX M.1.1 (av := [.inl 0]) (st := []) (by decide +kernel) (c_mustExist T' G' S n 0) M.1.2.1 zl_T_104 (z_wi 698 (by decide +kernel) rfl) zs_T_mustExist ⟨by decide, by decide, by decide, by decide⟩ rfl (Nat.le_of_ble_eq_true rfl) (fun E w' hx => ?_) (fun v w' hv => ?_)
      · obtain ⟨h0, rfl, n2, hn2, rfl⟩ := hx
        exact M.2 _ _ (hX _ _ n2 hn2 K) (Nat.le_of_ble_eq_true rfl) (Nat.le_of_ble_eq_true rfl)
      · obtain ⟨h0, rfl, rfl⟩ := hv
        exact absurd rfl h0
    · rw [if_neg c12] at K
      refine z_go2 M.1.1 15 [(.iconst 1, 1), (.goto 4, 3)] (20, [(0, z_r 0), (1, .inl p1), (2, .inl p2), (3, .inl p3), (4, .inl p4)], [.inl 1], zW T' G' S n, 0, 0) (by decide +kernel) rfl ⟨trivial, trivial, trivial⟩ ?_
      refine z_callSX M.1.1 (av := [.inl 1]) (st := []) (by decide +kernel) (c_mustExist T' G' S n 1) M.1.2.1 zl_T_104 (z_wi 698 (by decide +kernel) rfl) zs_T_mustExist ⟨by decide, by decide, by decide, by decide⟩ rfl (Nat.le_of_ble_eq_true rfl) (fun E w' hx => ?_) (fun v w' hv => ?_)
      · obtain ⟨h0, rfl, n2, hn2, rfl⟩ := hx
        exact absurd h0 (by decide)
      · obtain ⟨h0, rfl, rfl⟩ := hv
        show z_G X zm_T_narrow (23, [(0, z_r 0), (1, .inl p1), (2, .inl p2), (3, .inl p3), (4, .inl p4)], [], zW T' G' S n, 1, 6)
        refine z_go2 M.1.1 23 [(.iload_n 2, 1), (.iconst (-1), 1)] (25, [(0, z_r 0), (1, .inl p1), (2, .inl p2), (3, .inl p3), (4, .inl p4)], [.inl (-1), .inl p2], zW T' G' S n, 1, 6) (by decide +kernel) rfl ⟨trivial, trivial, trivial⟩ ?_
        refine z_icmp_eq 35 M.1.1 (off := 10) (by decide +kernel) (by decide) (fun c25 => ?_) (fun c25 => ?_)
        · rw [if_pos c25] at K
          exact z_lvs (lv' := [(0, z_r 0), (1, .inl p1), (2, .inl p2), (3, .inl p3), (4, .inl p4)]) [0, 1, 2, 3, 4] rfl (t_T_narrow_j35 M S p1 p2 p3 p4 hQ hX K)
        · rw [if_neg c25] at K
          refine z_go2 M.1.1 28 [(.iload_n 2, 1)] (29, [(0, z_r 0), (1, .inl p1), (2, .inl p2), (3, .inl p3), (4, .inl p4)], [.inl p2], zW T' G' S n, 1, 6) (by decide +kernel) rfl ⟨trivial, trivial⟩ ?_
          refine z_callS M.1.1 (av := [.inl p2]) (st := []) (by decide +kernel) (c_T_isKind T' G' S n p2) M.1.2.1 zl_T_154 zs_T_isKind ⟨by decide, by decide, by decide, by decide⟩ rfl (Nat.le_of_ble_eq_true rfl) (fun v w' hv => ?_)
          obtain ⟨rfl, rfl⟩ := hv
          show z_G X zm_T_narrow (32, [(0, z_r 0), (1, .inl p1), (2, .inl p2), (3, .inl p3), (4, .inl p4)], [.inl (F_T_isKind S p2)], zW T' G' S n, 1, 6)
          refine z_if_eq 59 M.1.1 (off := 27) (by decide +kernel) (by decide) (fun c32 => ?_) (fun c32 => ?_)
          · rw [if_pos c32] at K
            refine z_go2 M.1.1 59 [(.iconst 0, 1)] (60, [(0, z_r 0), (1, .inl p1), (2, .inl p2), (3, .inl p3), (4, .inl p4)], [.inl 0], zW T' G' S n, 1, 6) (by decide +kernel) rfl ⟨trivial, trivial⟩ ?_
            refine z_callSX M.1.1 (av := [.inl 0]) (st := []) (by decide +kernel) (c_mustFit T' G' S n 0) M.1.2.1 zl_T_111 (z_wi 772 (by decide +kernel) rfl) zs_T_mustFit ⟨by decide, by decide, by decide, by decide⟩ rfl (Nat.le_of_ble_eq_true rfl) (fun E w' hx => ?_) (fun v w' hv => ?_)
            · obtain ⟨h0, rfl, n2, hn2, rfl⟩ := hx
              exact M.2 _ _ (hX _ _ n2 hn2 K) (Nat.le_of_ble_eq_true rfl) (Nat.le_of_ble_eq_true rfl)
            · obtain ⟨h0, rfl, rfl⟩ := hv
              exact absurd rfl h0
          · rw [if_neg c32] at K
            exact z_lvs (lv' := [(0, z_r 0), (1, .inl p1), (2, .inl p2), (3, .inl p3), (4, .inl p4)]) [0, 1, 2, 3, 4] rfl (t_T_narrow_j35 M S p1 p2 p3 p4 hQ hX K)

-- TrackHouse.goal
abbrev rm_T_goal : Room := zx 7 2
def F_T_goal (S : (Nat → Nat → Int32)) (p1 : Int32) (p2 : Int32) (p3 : Int32) (p4 : Int32) : ((String ⊕ Int32) × (Nat → Nat → Int32)) := (if (F_T_isKind S p1) = 0 then (.inl "java/lang/IndexOutOfBoundsException", S) else (if (F_T_isNumber S p2) = 0 then (.inl "java/lang/IllegalArgumentException", S) else (if p3 < 0 then (.inl "java/lang/IllegalArgumentException", S) else (if (63 : Int32) < p3 then (.inl "java/lang/IllegalArgumentException", S) else (if p4 < 0 then (.inl "java/lang/IllegalArgumentException", S) else (if (63 : Int32) < p4 then (.inl "java/lang/IllegalArgumentException", S) else (z_let (zPut S 47 3 p1 p2) (fun S66 => (z_let (zPut S66 48 3 p1 p3) (fun S78 => (z_let (zPut S78 49 3 p1 p4) (fun S91 => (.inr (zAt (S 47) 3 p1), S91)))))))))))))
theorem c_T_goal (T' : Nat → Nat × Nat) (G' : Nat → Nat → Option Nat) (S : (Nat → Nat → Int32)) (n : Nat) (p1 : Int32) (p2 : Int32) (p3 : Int32) (p4 : Int32) : z_RunX rm_T_goal zm_T_goal [z_r 0, .inl p1, .inl p2, .inl p3, .inl p4] (zW T' G' S n) (fun v w' => ∃ x S', F_T_goal S p1 p2 p3 p4 = (.inr x, S') ∧ v = some (.inl x) ∧ w' = zW T' G' S' n) (fun E w' => ∃ S' n2, n ≤ n2 ∧ F_T_goal S p1 p2 p3 p4 = (.inl E, S') ∧ w' = zW T' G' S' n2) := by
  refine z_bodyX (by decide) zf_T_ok (Nat.le_of_ble_eq_true rfl) (fun X M => ?_)
  obtain ⟨Q, hQ, hX, K⟩ : ∃ Q : ((String ⊕ Int32) × (Nat → Nat → Int32)) → Prop, (∀ v S', Q (.inr v, S') → ∃ x S'', F_T_goal S p1 p2 p3 p4 = (.inr x, S'') ∧ some (.inl v : z_V) = some (.inl x) ∧ zW T' G' S' n = zW T' G' S'' n) ∧ (∀ E S' (n2 : Nat), n ≤ n2 → Q (.inl E, S') → ∃ S'' n3, n ≤ n3 ∧ F_T_goal S p1 p2 p3 p4 = (.inl E, S'') ∧ zW T' G' S' n2 = zW T' G' S'' n3) ∧ Q (F_T_goal S p1 p2 p3 p4) := ⟨fun o => F_T_goal S p1 p2 p3 p4 = o, fun v S' h => ⟨v, S', h, rfl, rfl⟩, fun E S' n2 hn h => ⟨S', n2, hn, h, rfl⟩, rfl⟩
  show z_G X zm_T_goal (0, [(0, z_r 0), (1, .inl p1), (2, .inl p2), (3, .inl p3), (4, .inl p4)], [], zW T' G' S n, 0, 0)
  unfold F_T_goal at K
  refine z_go2 M.1.1 0 [(.iload_n 1, 1)] (1, [(0, z_r 0), (1, .inl p1), (2, .inl p2), (3, .inl p3), (4, .inl p4)], [.inl p1], zW T' G' S n, 0, 0) (by decide +kernel) rfl ⟨trivial, trivial⟩ ?_
  refine z_callS M.1.1 (av := [.inl p1]) (st := []) (by decide +kernel) (c_T_isKind T' G' S n p1) M.1.2.1 zl_T_154 zs_T_isKind ⟨by decide, by decide, by decide, by decide⟩ rfl (Nat.le_of_ble_eq_true rfl) (fun v w' hv => ?_)
  obtain ⟨rfl, rfl⟩ := hv
  show z_G X zm_T_goal (4, [(0, z_r 0), (1, .inl p1), (2, .inl p2), (3, .inl p3), (4, .inl p4)], [.inl (F_T_isKind S p1)], zW T' G' S n, 0, 0)
  refine z_callSX M.1.1 (av := [.inl (F_T_isKind S p1)]) (st := []) (by decide +kernel) (c_mustExist T' G' S n (F_T_isKind S p1)) M.1.2.1 zl_T_104 (z_wi 698 (by decide +kernel) rfl) zs_T_mustExist ⟨by decide, by decide, by decide, by decide⟩ rfl (Nat.le_of_ble_eq_true rfl) (fun E w' hx => ?_) (fun v w' hv => ?_)
  · obtain ⟨h0, rfl, n2, hn2, rfl⟩ := hx
    rw [if_pos h0] at K
    exact M.2 _ _ (hX _ _ n2 hn2 K) (Nat.le_of_ble_eq_true rfl) (Nat.le_of_ble_eq_true rfl)
  · obtain ⟨h0, rfl, rfl⟩ := hv
    rw [if_neg h0] at K
    show z_G X zm_T_goal (7, [(0, z_r 0), (1, .inl p1), (2, .inl p2), (3, .inl p3), (4, .inl p4)], [], zW T' G' S n, 1, 6)
    refine z_go2 M.1.1 7 [(.iload_n 2, 1)] (8, [(0, z_r 0), (1, .inl p1), (2, .inl p2), (3, .inl p3), (4, .inl p4)], [.inl p2], zW T' G' S n, 1, 6) (by decide +kernel) rfl ⟨trivial, trivial⟩ ?_
    refine z_callS M.1.1 (av := [.inl p2]) (st := []) (by decide +kernel) (c_T_isNumber T' G' S n p2) M.1.2.1 zl_T_194 zs_T_isNumber ⟨by decide, by decide, by decide, by decide⟩ rfl (Nat.le_of_ble_eq_true rfl) (fun v w' hv => ?_)
    obtain ⟨rfl, rfl⟩ := hv
    show z_G X zm_T_goal (11, [(0, z_r 0), (1, .inl p1), (2, .inl p2), (3, .inl p3), (4, .inl p4)], [.inl (F_T_isNumber S p2)], zW T' G' S n, 1, 6)
    refine z_if_eq 40 M.1.1 (off := 29) (by decide +kernel) (by decide) (fun c11 => ?_) (fun c11 => ?_)
    · rw [if_pos c11] at K
      refine z_go2 M.1.1 40 [(.iconst 0, 1)] (41, [(0, z_r 0), (1, .inl p1), (2, .inl p2), (3, .inl p3), (4, .inl p4)], [.inl 0], zW T' G' S n, 1, 6) (by decide +kernel) rfl ⟨trivial, trivial⟩ ?_
      refine z_callSX M.1.1 (av := [.inl 0]) (st := []) (by decide +kernel) (c_mustFit T' G' S n 0) M.1.2.1 zl_T_111 (z_wi 772 (by decide +kernel) rfl) zs_T_mustFit ⟨by decide, by decide, by decide, by decide⟩ rfl (Nat.le_of_ble_eq_true rfl) (fun E w' hx => ?_) (fun v w' hv => ?_)
      · obtain ⟨h0, rfl, n2, hn2, rfl⟩ := hx
        exact M.2 _ _ (hX _ _ n2 hn2 K) (Nat.le_of_ble_eq_true rfl) (Nat.le_of_ble_eq_true rfl)
      · obtain ⟨h0, rfl, rfl⟩ := hv
        exact absurd rfl h0
    · rw [if_neg c11] at K
      refine z_go2 M.1.1 14 [(.iload_n 3, 1)] (15, [(0, z_r 0), (1, .inl p1), (2, .inl p2), (3, .inl p3), (4, .inl p4)], [.inl p3], zW T' G' S n, 1, 6) (by decide +kernel) rfl ⟨trivial, trivial⟩ ?_
      refine z_if_lt 40 M.1.1 (off := 25) (by decide +kernel) (by decide) (fun c15 => ?_) (fun c15 => ?_)
      · rw [if_pos c15] at K
        refine z_go2 M.1.1 40 [(.iconst 0, 1)] (41, [(0, z_r 0), (1, .inl p1), (2, .inl p2), (3, .inl p3), (4, .inl p4)], [.inl 0], zW T' G' S n, 1, 6) (by decide +kernel) rfl ⟨trivial, trivial⟩ ?_
        refine z_callSX M.1.1 (av := [.inl 0]) (st := []) (by decide +kernel) (c_mustFit T' G' S n 0) M.1.2.1 zl_T_111 (z_wi 772 (by decide +kernel) rfl) zs_T_mustFit ⟨by decide, by decide, by decide, by decide⟩ rfl (Nat.le_of_ble_eq_true rfl) (fun E w' hx => ?_) (fun v w' hv => ?_)
        · obtain ⟨h0, rfl, n2, hn2, rfl⟩ := hx
          exact M.2 _ _ (hX _ _ n2 hn2 K) (Nat.le_of_ble_eq_true rfl) (Nat.le_of_ble_eq_true rfl)
        · obtain ⟨h0, rfl, rfl⟩ := hv
          exact absurd rfl h0
      · rw [if_neg c15] at K
        refine z_go2 M.1.1 18 [(.iload_n 3, 1), (.bipush 63, 2)] (21, [(0, z_r 0), (1, .inl p1), (2, .inl p2), (3, .inl p3), (4, .inl p4)], [.inl 63, .inl p3], zW T' G' S n, 1, 6) (by decide +kernel) rfl ⟨trivial, trivial, trivial⟩ ?_
        refine z_icmp_gt 40 M.1.1 (off := 19) (by decide +kernel) (by decide) (fun c21 => ?_) (fun c21 => ?_)
        · rw [if_pos c21] at K
          refine z_go2 M.1.1 40 [(.iconst 0, 1)] (41, [(0, z_r 0), (1, .inl p1), (2, .inl p2), (3, .inl p3), (4, .inl p4)], [.inl 0], zW T' G' S n, 1, 6) (by decide +kernel) rfl ⟨trivial, trivial⟩ ?_
          refine z_callSX M.1.1 (av := [.inl 0]) (st := []) (by decide +kernel) (c_mustFit T' G' S n 0) M.1.2.1 zl_T_111 (z_wi 772 (by decide +kernel) rfl) zs_T_mustFit ⟨by decide, by decide, by decide, by decide⟩ rfl (Nat.le_of_ble_eq_true rfl) (fun E w' hx => ?_) (fun v w' hv => ?_)
          · obtain ⟨h0, rfl, n2, hn2, rfl⟩ := hx
            exact M.2 _ _ (hX _ _ n2 hn2 K) (Nat.le_of_ble_eq_true rfl) (Nat.le_of_ble_eq_true rfl)
          · obtain ⟨h0, rfl, rfl⟩ := hv
            exact absurd rfl h0
        · rw [if_neg c21] at K
          refine z_go2 M.1.1 24 [(.iload 4, 2)] (26, [(0, z_r 0), (1, .inl p1), (2, .inl p2), (3, .inl p3), (4, .inl p4)], [.inl p4], zW T' G' S n, 1, 6) (by decide +kernel) rfl ⟨trivial, trivial⟩ ?_
          refine z_if_lt 40 M.1.1 (off := 14) (by decide +kernel) (by decide) (fun c26 => ?_) (fun c26 => ?_)
          · rw [if_pos c26] at K
            refine z_go2 M.1.1 40 [(.iconst 0, 1)] (41, [(0, z_r 0), (1, .inl p1), (2, .inl p2), (3, .inl p3), (4, .inl p4)], [.inl 0], zW T' G' S n, 1, 6) (by decide +kernel) rfl ⟨trivial, trivial⟩ ?_
            refine z_callSX M.1.1 (av := [.inl 0]) (st := []) (by decide +kernel) (c_mustFit T' G' S n 0) M.1.2.1 zl_T_111 (z_wi 772 (by decide +kernel) rfl) zs_T_mustFit ⟨by decide, by decide, by decide, by decide⟩ rfl (Nat.le_of_ble_eq_true rfl) (fun E w' hx => ?_) (fun v w' hv => ?_)
            · obtain ⟨h0, rfl, n2, hn2, rfl⟩ := hx
              exact M.2 _ _ (hX _ _ n2 hn2 K) (Nat.le_of_ble_eq_true rfl) (Nat.le_of_ble_eq_true rfl)
            · obtain ⟨h0, rfl, rfl⟩ := hv
              exact absurd rfl h0
          · rw [if_neg c26] at K
            refine z_go2 M.1.1 29 [(.iload 4, 2), (.bipush 63, 2)] (33, [(0, z_r 0), (1, .inl p1), (2, .inl p2), (3, .inl p3), (4, .inl p4)], [.inl 63, .inl p4], zW T' G' S n, 1, 6) (by decide +kernel) rfl ⟨trivial, trivial, trivial⟩ ?_
            refine z_icmp_gt 40 M.1.1 (off := 7) (by decide +kernel) (by decide) (fun c33 => ?_) (fun c33 => ?_)
            · rw [if_pos c33] at K
              refine z_go2 M.1.1 40 [(.iconst 0, 1)] (41, [(0, z_r 0), (1, .inl p1), (2, .inl p2), (3, .inl p3), (4, .inl p4)], [.inl 0], zW T' G' S n, 1, 6) (by decide +kernel) rfl ⟨trivial, trivial⟩ ?_
              refine z_callSX M.1.1 (av := [.inl 0]) (st := []) (by decide +kernel) (c_mustFit T' G' S n 0) M.1.2.1 zl_T_111 (z_wi 772 (by decide +kernel) rfl) zs_T_mustFit ⟨by decide, by decide, by decide, by decide⟩ rfl (Nat.le_of_ble_eq_true rfl) (fun E w' hx => ?_) (fun v w' hv => ?_)
              · obtain ⟨h0, rfl, n2, hn2, rfl⟩ := hx
                exact M.2 _ _ (hX _ _ n2 hn2 K) (Nat.le_of_ble_eq_true rfl) (Nat.le_of_ble_eq_true rfl)
              · obtain ⟨h0, rfl, rfl⟩ := hv
                exact absurd rfl h0
            · rw [if_neg c33] at K
              refine z_go2 M.1.1 36 [(.iconst 1, 1), (.goto 4, 3)] (41, [(0, z_r 0), (1, .inl p1), (2, .inl p2), (3, .inl p3), (4, .inl p4)], [.inl 1], zW T' G' S n, 1, 6) (by decide +kernel) rfl ⟨trivial, trivial, trivial⟩ ?_
              refine z_callSX M.1.1 (av := [.inl 1]) (st := []) (by decide +kernel) (c_mustFit T' G' S n 1) M.1.2.1 zl_T_111 (z_wi 772 (by decide +kernel) rfl) zs_T_mustFit ⟨by decide, by decide, by decide, by decide⟩ rfl (Nat.le_of_ble_eq_true rfl) (fun E w' hx => ?_) (fun v w' hv => ?_)
              · obtain ⟨h0, rfl, n2, hn2, rfl⟩ := hx
                exact absurd h0 (by decide)
              · obtain ⟨h0, rfl, rfl⟩ := hv
                show z_G X zm_T_goal (44, [(0, z_r 0), (1, .inl p1), (2, .inl p2), (3, .inl p3), (4, .inl p4)], [], zW T' G' S n, 2, 12)
                refine z_go2 M.1.1 44 [(.aload_n 0, 1), (.getfield 54, 3), (.getfield 371, 3), (.iload_n 1, 1)] (52, [(0, z_r 0), (1, .inl p1), (2, .inl p2), (3, .inl p3), (4, .inl p4)], [.inl p1, z_r 47], zW T' G' S n, 2, 12) (by decide +kernel) rfl ⟨trivial, rfl, rfl, trivial, trivial⟩ ?_
                refine z_callS M.1.1 (av := [z_r 47, .inl p1]) (st := []) (by decide +kernel) (c_at (zW T' G' S n) 47 3 rfl (by decide) p1) M.1.2.1 zl_T_134 zs_T_at ⟨by decide, by decide, by decide, by decide⟩ rfl (Nat.le_of_ble_eq_true rfl) (fun v w' hv => ?_)
                obtain ⟨rfl, rfl⟩ := hv
                show z_G X zm_T_goal (55, [(0, z_r 0), (1, .inl p1), (2, .inl p2), (3, .inl p3), (4, .inl p4)], [.inl (zAt (S 47) 3 p1)], zW T' G' S n, 2, 12)
                refine z_go2 M.1.1 55 [(.istore 5, 2), (.aload_n 0, 1), (.getfield 54, 3), (.getfield 371, 3), (.iload_n 1, 1), (.iload_n 2, 1)] (66, [(5, .inl (zAt (S 47) 3 p1)), (0, z_r 0), (1, .inl p1), (2, .inl p2), (3, .inl p3), (4, .inl p4)], [.inl p2, .inl p1, z_r 47], zW T' G' S n, 2, 12) (by decide +kernel) rfl ⟨trivial, trivial, rfl, rfl, trivial, trivial, trivial⟩ ?_
                refine z_callS M.1.1 (av := [z_r 47, .inl p1, .inl p2]) (st := []) (by decide +kernel) (c_put (zW T' G' S n) 47 3 rfl (by decide) p1 p2) M.1.2.1 zl_T_141 zs_T_put ⟨by decide, by decide, by decide, by decide⟩ rfl (Nat.le_of_ble_eq_true rfl) (fun v w' hv => ?_)
                obtain ⟨S66, hF66⟩ : ∃ y, zPut S 47 3 p1 p2 = y := ⟨_, rfl⟩
                replace hv : v = none ∧ w' = zW T' G' (zPut S 47 3 p1 p2) n := hv
                rw [hF66] at K hv
                try dsimp only [z_let] at K
                obtain ⟨rfl, rfl⟩ := hv
                show z_G X zm_T_goal (69, [(5, .inl (zAt (S 47) 3 p1)), (0, z_r 0), (1, .inl p1), (2, .inl p2), (3, .inl p3), (4, .inl p4)], [], zW T' G' S66 n, 2, 12)
                refine z_go2 M.1.1 69 [(.aload_n 0, 1), (.getfield 54, 3), (.getfield 372, 3), (.iload_n 1, 1), (.iload_n 3, 1)] (78, [(5, .inl (zAt (S 47) 3 p1)), (0, z_r 0), (1, .inl p1), (2, .inl p2), (3, .inl p3), (4, .inl p4)], [.inl p3, .inl p1, z_r 48], zW T' G' S66 n, 2, 12) (by decide +kernel) rfl ⟨trivial, rfl, rfl, trivial, trivial, trivial⟩ ?_
                refine z_callS M.1.1 (av := [z_r 48, .inl p1, .inl p3]) (st := []) (by decide +kernel) (c_put (zW T' G' S66 n) 48 3 rfl (by decide) p1 p3) M.1.2.1 zl_T_141 zs_T_put ⟨by decide, by decide, by decide, by decide⟩ rfl (Nat.le_of_ble_eq_true rfl) (fun v w' hv => ?_)
                obtain ⟨S78, hF78⟩ : ∃ y, zPut S66 48 3 p1 p3 = y := ⟨_, rfl⟩
                replace hv : v = none ∧ w' = zW T' G' (zPut S66 48 3 p1 p3) n := hv
                rw [hF78] at K hv
                try dsimp only [z_let] at K
                obtain ⟨rfl, rfl⟩ := hv
                show z_G X zm_T_goal (81, [(5, .inl (zAt (S 47) 3 p1)), (0, z_r 0), (1, .inl p1), (2, .inl p2), (3, .inl p3), (4, .inl p4)], [], zW T' G' S78 n, 2, 12)
                refine z_go2 M.1.1 81 [(.aload_n 0, 1), (.getfield 54, 3), (.getfield 349, 3), (.iload_n 1, 1), (.iload 4, 2)] (91, [(5, .inl (zAt (S 47) 3 p1)), (0, z_r 0), (1, .inl p1), (2, .inl p2), (3, .inl p3), (4, .inl p4)], [.inl p4, .inl p1, z_r 49], zW T' G' S78 n, 2, 12) (by decide +kernel) rfl ⟨trivial, rfl, rfl, trivial, trivial, trivial⟩ ?_
                refine z_callS M.1.1 (av := [z_r 49, .inl p1, .inl p4]) (st := []) (by decide +kernel) (c_put (zW T' G' S78 n) 49 3 rfl (by decide) p1 p4) M.1.2.1 zl_T_141 zs_T_put ⟨by decide, by decide, by decide, by decide⟩ rfl (Nat.le_of_ble_eq_true rfl) (fun v w' hv => ?_)
                obtain ⟨S91, hF91⟩ : ∃ y, zPut S78 49 3 p1 p4 = y := ⟨_, rfl⟩
                replace hv : v = none ∧ w' = zW T' G' (zPut S78 49 3 p1 p4) n := hv
                rw [hF91] at K hv
                try dsimp only [z_let] at K
                obtain ⟨rfl, rfl⟩ := hv
                show z_G X zm_T_goal (94, [(5, .inl (zAt (S 47) 3 p1)), (0, z_r 0), (1, .inl p1), (2, .inl p2), (3, .inl p3), (4, .inl p4)], [], zW T' G' S91 n, 2, 12)
                refine z_go2 M.1.1 94 [(.iload 5, 2)] (96, [(5, .inl (zAt (S 47) 3 p1)), (0, z_r 0), (1, .inl p1), (2, .inl p2), (3, .inl p3), (4, .inl p4)], [.inl (zAt (S 47) 3 p1)], zW T' G' S91 n, 2, 12) (by decide +kernel) rfl ⟨trivial, trivial⟩ ?_
                exact z_iret M.1 (by decide +kernel) .int rfl rfl (by decide) (by decide) (hQ _ _ K)

-- TrackHouse.left
abbrev rm_T_left : Room := zx 7 2
def F_T_left (S : (Nat → Nat → Int32)) (p1 : Int32) : ((String ⊕ Int32) × (Nat → Nat → Int32)) := (if (F_World_has 9 S p1) = 0 then (.inl "java/lang/IndexOutOfBoundsException", S) else (if (F_T_goalDays S p1) = (-1) then (.inl "java/lang/IllegalStateException", S) else (.inr ((F_T_goalDays S p1) - (F_T_spentDays S p1)), S)))
def Sf_T_left (S : (Nat → Nat → Int32)) (p1 : Int32) : Prop := (if (F_World_has 9 S p1) = 0 then True else (Sf_T_goalDays S p1 ∧ (if (F_T_goalDays S p1) = (-1) then True else (Sf_T_goalDays S p1 ∧ (Sf_T_spentDays S p1 ∧ True)))))
theorem c_T_left (T' : Nat → Nat × Nat) (G' : Nat → Nat → Option Nat) (S : (Nat → Nat → Int32)) (n : Nat) (p1 : Int32) (hs : Sf_T_left S p1) : z_RunX rm_T_left zm_T_left [z_r 0, .inl p1] (zW T' G' S n) (fun v w' => ∃ x S', F_T_left S p1 = (.inr x, S') ∧ v = some (.inl x) ∧ w' = zW T' G' S' n) (fun E w' => ∃ S' n2, n ≤ n2 ∧ F_T_left S p1 = (.inl E, S') ∧ w' = zW T' G' S' n2) := by
  refine z_bodyX (by decide) zf_T_ok (Nat.le_of_ble_eq_true rfl) (fun X M => ?_)
  obtain ⟨Q, hQ, hX, K⟩ : ∃ Q : ((String ⊕ Int32) × (Nat → Nat → Int32)) → Prop, (∀ v S', Q (.inr v, S') → ∃ x S'', F_T_left S p1 = (.inr x, S'') ∧ some (.inl v : z_V) = some (.inl x) ∧ zW T' G' S' n = zW T' G' S'' n) ∧ (∀ E S' (n2 : Nat), n ≤ n2 → Q (.inl E, S') → ∃ S'' n3, n ≤ n3 ∧ F_T_left S p1 = (.inl E, S'') ∧ zW T' G' S' n2 = zW T' G' S'' n3) ∧ Q (F_T_left S p1) := ⟨fun o => F_T_left S p1 = o, fun v S' h => ⟨v, S', h, rfl, rfl⟩, fun E S' n2 hn h => ⟨S', n2, hn, h, rfl⟩, rfl⟩
  show z_G X zm_T_left (0, [(0, z_r 0), (1, .inl p1)], [], zW T' G' S n, 0, 0)
  unfold F_T_left at K
  unfold Sf_T_left at hs
  refine z_go2 M.1.1 0 [(.aload_n 0, 1), (.getfield 19, 3), (.iload_n 1, 1)] (5, [(0, z_r 0), (1, .inl p1)], [.inl p1, z_r 9], zW T' G' S n, 0, 0) (by decide +kernel) rfl ⟨trivial, rfl, trivial, trivial⟩ ?_
  refine z_callV M.1.1 (av := [.inl p1]) (st := []) (a := 9) (ci := 10) (by decide +kernel) (c_World_has_9 T' G' S n p1) M.1.2.1 zl_T_210 zv_World_has rfl rfl rfl ⟨by decide, by decide, by decide, by decide⟩ rfl (Nat.le_of_ble_eq_true rfl) (fun v w' hv => ?_)
  obtain ⟨rfl, rfl⟩ := hv
  show z_G X zm_T_left (8, [(0, z_r 0), (1, .inl p1)], [.inl (F_World_has 9 S p1)], zW T' G' S n, 0, 0)
  refine z_callSX M.1.1 (av := [.inl (F_World_has 9 S p1)]) (st := []) (by decide +kernel) (c_mustExist T' G' S n (F_World_has 9 S p1)) M.1.2.1 zl_T_104 (z_wi 698 (by decide +kernel) rfl) zs_T_mustExist ⟨by decide, by decide, by decide, by decide⟩ rfl (Nat.le_of_ble_eq_true rfl) (fun E w' hx => ?_) (fun v w' hv => ?_)
  · obtain ⟨h0, rfl, n2, hn2, rfl⟩ := hx
    rw [if_pos h0] at K
    exact M.2 _ _ (hX _ _ n2 hn2 K) (Nat.le_of_ble_eq_true rfl) (Nat.le_of_ble_eq_true rfl)
  · obtain ⟨h0, rfl, rfl⟩ := hv
    rw [if_neg h0] at K hs
    show z_G X zm_T_left (11, [(0, z_r 0), (1, .inl p1)], [], zW T' G' S n, 1, 6)
    refine z_go2 M.1.1 11 [(.aload_n 0, 1), (.iload_n 1, 1)] (13, [(0, z_r 0), (1, .inl p1)], [.inl p1, z_r 0], zW T' G' S n, 1, 6) (by decide +kernel) rfl ⟨trivial, trivial, trivial⟩ ?_
    refine z_callV M.1.1 (av := [.inl p1]) (st := []) (a := 0) (ci := 11) (by decide +kernel) (c_T_goalDays T' G' S n p1 hs.1) M.1.2.1 zl_T_375 zv_T_goalDays rfl rfl rfl ⟨by decide, by decide, by decide, by decide⟩ rfl (Nat.le_of_ble_eq_true rfl) (fun v w' hv => ?_)
    obtain ⟨rfl, rfl⟩ := hv
    replace hs := hs.2
    show z_G X zm_T_left (16, [(0, z_r 0), (1, .inl p1)], [.inl (F_T_goalDays S p1)], zW T' G' S n, 1, 6)
    refine z_go2 M.1.1 16 [(.iconst (-1), 1)] (17, [(0, z_r 0), (1, .inl p1)], [.inl (-1), .inl (F_T_goalDays S p1)], zW T' G' S n, 1, 6) (by decide +kernel) rfl ⟨trivial, trivial⟩ ?_
    refine z_icmp_eq 24 M.1.1 (off := 7) (by decide +kernel) (by decide) (fun c17 => ?_) (fun c17 => ?_)
    · rw [if_pos c17] at K hs
      refine z_go2 M.1.1 24 [(.iconst 0, 1)] (25, [(0, z_r 0), (1, .inl p1)], [.inl 0], zW T' G' S n, 1, 6) (by decide +kernel) rfl ⟨trivial, trivial⟩ ?_
      refine z_callSX M.1.1 (av := [.inl 0]) (st := []) (by decide +kernel) (c_mustBeAllowed T' G' S n 0) M.1.2.1 zl_T_128 (z_wi 847 (by decide +kernel) rfl) zs_T_mustBeAllowed ⟨by decide, by decide, by decide, by decide⟩ rfl (Nat.le_of_ble_eq_true rfl) (fun E w' hx => ?_) (fun v w' hv => ?_)
      · obtain ⟨h0, rfl, n2, hn2, rfl⟩ := hx
        exact M.2 _ _ (hX _ _ n2 hn2 K) (Nat.le_of_ble_eq_true rfl) (Nat.le_of_ble_eq_true rfl)
      · obtain ⟨h0, rfl, rfl⟩ := hv
        exact absurd rfl h0
    · rw [if_neg c17] at K hs
      refine z_go2 M.1.1 20 [(.iconst 1, 1), (.goto 4, 3)] (25, [(0, z_r 0), (1, .inl p1)], [.inl 1], zW T' G' S n, 1, 6) (by decide +kernel) rfl ⟨trivial, trivial, trivial⟩ ?_
      refine z_callSX M.1.1 (av := [.inl 1]) (st := []) (by decide +kernel) (c_mustBeAllowed T' G' S n 1) M.1.2.1 zl_T_128 (z_wi 847 (by decide +kernel) rfl) zs_T_mustBeAllowed ⟨by decide, by decide, by decide, by decide⟩ rfl (Nat.le_of_ble_eq_true rfl) (fun E w' hx => ?_) (fun v w' hv => ?_)
      · obtain ⟨h0, rfl, n2, hn2, rfl⟩ := hx
        exact absurd h0 (by decide)
      · obtain ⟨h0, rfl, rfl⟩ := hv
        show z_G X zm_T_left (28, [(0, z_r 0), (1, .inl p1)], [], zW T' G' S n, 2, 12)
        refine z_go2 M.1.1 28 [(.aload_n 0, 1), (.iload_n 1, 1)] (30, [(0, z_r 0), (1, .inl p1)], [.inl p1, z_r 0], zW T' G' S n, 2, 12) (by decide +kernel) rfl ⟨trivial, trivial, trivial⟩ ?_
        refine z_callV M.1.1 (av := [.inl p1]) (st := []) (a := 0) (ci := 11) (by decide +kernel) (c_T_goalDays T' G' S n p1 hs.1) M.1.2.1 zl_T_375 zv_T_goalDays rfl rfl rfl ⟨by decide, by decide, by decide, by decide⟩ rfl (Nat.le_of_ble_eq_true rfl) (fun v w' hv => ?_)
        obtain ⟨rfl, rfl⟩ := hv
        replace hs := hs.2
        show z_G X zm_T_left (33, [(0, z_r 0), (1, .inl p1)], [.inl (F_T_goalDays S p1)], zW T' G' S n, 2, 12)
        refine z_go2 M.1.1 33 [(.aload_n 0, 1), (.iload_n 1, 1)] (35, [(0, z_r 0), (1, .inl p1)], [.inl p1, z_r 0, .inl (F_T_goalDays S p1)], zW T' G' S n, 2, 12) (by decide +kernel) rfl ⟨trivial, trivial, trivial⟩ ?_
        refine z_callV M.1.1 (av := [.inl p1]) (st := [.inl (F_T_goalDays S p1)]) (a := 0) (ci := 11) (by decide +kernel) (c_T_spentDays T' G' S n p1 hs.1) M.1.2.1 zl_T_378 zv_T_spentDays rfl rfl rfl ⟨by decide, by decide, by decide, by decide⟩ rfl (Nat.le_of_ble_eq_true rfl) (fun v w' hv => ?_)
        obtain ⟨rfl, rfl⟩ := hv
        replace hs := hs.2
        show z_G X zm_T_left (38, [(0, z_r 0), (1, .inl p1)], [.inl (F_T_spentDays S p1), .inl (F_T_goalDays S p1)], zW T' G' S n, 2, 12)
        refine z_go2 M.1.1 38 [(.isub, 1)] (39, [(0, z_r 0), (1, .inl p1)], [.inl ((F_T_goalDays S p1) - (F_T_spentDays S p1))], zW T' G' S n, 2, 12) (by decide +kernel) rfl ⟨trivial, trivial⟩ ?_
        exact z_iret M.1 (by decide +kernel) .int rfl rfl (by decide) (by decide) (hQ _ _ K)

-- TrackHouse.breach
abbrev rm_T_breach : Room := zx 7 2
def F_T_breach_j89 (S : (Nat → Nat → Int32)) : ((String ⊕ Int32) × (Nat → Nat → Int32)) := (.inr (-1), S)
theorem t_T_breach_j89 {X : z_X} {Post : Option z_V → z_W → Prop} {PX : String → z_W → Prop} (M : z_MX X zm_T_breach rm_T_breach Post PX) {T' : Nat → Nat × Nat} {G' : Nat → Nat → Option Nat} {n : Nat} {Q : ((String ⊕ Int32) × (Nat → Nat → Int32)) → Prop} (S : (Nat → Nat → Int32)) (hQ : ∀ v S', Q (.inr v, S') → Post (some (.inl v)) (zW T' G' S' n)) (hX : ∀ E S' (n2 : Nat), n ≤ n2 → Q (.inl E, S') → PX E (zW T' G' S' n2)) (K : Q (F_T_breach_j89 S)) : z_G X zm_T_breach (89, [], [], zW T' G' S n, 2, 12) := by
  unfold F_T_breach_j89 at K
  refine z_go2 M.1.1 89 [(.iconst (-1), 1)] (90, [], [.inl (-1)], zW T' G' S n, 2, 12) (by decide +kernel) rfl ⟨trivial, trivial⟩ ?_
  exact z_iret M.1 (by decide +kernel) .int rfl rfl (by decide) (by decide) (hQ _ _ K)
def F_T_breach (S : (Nat → Nat → Int32)) (p1 : Int32) : ((String ⊕ Int32) × (Nat → Nat → Int32)) := (if (F_World_has 9 S p1) = 0 then (.inl "java/lang/IndexOutOfBoundsException", S) else (if (F_T_goalDays S p1) = (-1) then (.inl "java/lang/IllegalStateException", S) else (if (F_T_isIn S (zAt (S 48) 3 (F_World_cell 9 S p1 9)) (F_World_cell 9 S p1 0)) = 0 then (F_T_breach_j89 S) else (if ((F_T_goalDays S p1) - (F_T_spentDays S p1)) < 0 then (F_T_breach_j89 S) else (.inr (F_T_dayOfWork S ((F_T_goalDays S p1) - (F_T_spentDays S p1))), S)))))
def Sf_T_breach (S : (Nat → Nat → Int32)) (p1 : Int32) : Prop := (if (F_World_has 9 S p1) = 0 then True else (Sf_T_goalDays S p1 ∧ (if (F_T_goalDays S p1) = (-1) then True else (Sf_T_goalDays S p1 ∧ (Sf_T_spentDays S p1 ∧ (Sf_World_cell 9 S p1 9 ∧ (Sf_World_cell 9 S p1 0 ∧ (if (F_T_isIn S (zAt (S 48) 3 (F_World_cell 9 S p1 9)) (F_World_cell 9 S p1 0)) = 0 then True else (if ((F_T_goalDays S p1) - (F_T_spentDays S p1)) < 0 then True else (Sf_T_dayOfWork S ((F_T_goalDays S p1) - (F_T_spentDays S p1)) ∧ True))))))))))
theorem c_T_breach (T' : Nat → Nat × Nat) (G' : Nat → Nat → Option Nat) (S : (Nat → Nat → Int32)) (n : Nat) (p1 : Int32) (hs : Sf_T_breach S p1) : z_RunX rm_T_breach zm_T_breach [z_r 0, .inl p1] (zW T' G' S n) (fun v w' => ∃ x S', F_T_breach S p1 = (.inr x, S') ∧ v = some (.inl x) ∧ w' = zW T' G' S' n) (fun E w' => ∃ S' n2, n ≤ n2 ∧ F_T_breach S p1 = (.inl E, S') ∧ w' = zW T' G' S' n2) := by
  refine z_bodyX (by decide) zf_T_ok (Nat.le_of_ble_eq_true rfl) (fun X M => ?_)
  obtain ⟨Q, hQ, hX, K⟩ : ∃ Q : ((String ⊕ Int32) × (Nat → Nat → Int32)) → Prop, (∀ v S', Q (.inr v, S') → ∃ x S'', F_T_breach S p1 = (.inr x, S'') ∧ some (.inl v : z_V) = some (.inl x) ∧ zW T' G' S' n = zW T' G' S'' n) ∧ (∀ E S' (n2 : Nat), n ≤ n2 → Q (.inl E, S') → ∃ S'' n3, n ≤ n3 ∧ F_T_breach S p1 = (.inl E, S'') ∧ zW T' G' S' n2 = zW T' G' S'' n3) ∧ Q (F_T_breach S p1) := ⟨fun o => F_T_breach S p1 = o, fun v S' h => ⟨v, S', h, rfl, rfl⟩, fun E S' n2 hn h => ⟨S', n2, hn, h, rfl⟩, rfl⟩
  show z_G X zm_T_breach (0, [(0, z_r 0), (1, .inl p1)], [], zW T' G' S n, 0, 0)
  unfold F_T_breach at K
  unfold Sf_T_breach at hs
  refine z_go2 M.1.1 0 [(.aload_n 0, 1), (.getfield 19, 3), (.iload_n 1, 1)] (5, [(0, z_r 0), (1, .inl p1)], [.inl p1, z_r 9], zW T' G' S n, 0, 0) (by decide +kernel) rfl ⟨trivial, rfl, trivial, trivial⟩ ?_
  refine z_callV M.1.1 (av := [.inl p1]) (st := []) (a := 9) (ci := 10) (by decide +kernel) (c_World_has_9 T' G' S n p1) M.1.2.1 zl_T_210 zv_World_has rfl rfl rfl ⟨by decide, by decide, by decide, by decide⟩ rfl (Nat.le_of_ble_eq_true rfl) (fun v w' hv => ?_)
  obtain ⟨rfl, rfl⟩ := hv
  show z_G X zm_T_breach (8, [(0, z_r 0), (1, .inl p1)], [.inl (F_World_has 9 S p1)], zW T' G' S n, 0, 0)
  refine z_callSX M.1.1 (av := [.inl (F_World_has 9 S p1)]) (st := []) (by decide +kernel) (c_mustExist T' G' S n (F_World_has 9 S p1)) M.1.2.1 zl_T_104 (z_wi 698 (by decide +kernel) rfl) zs_T_mustExist ⟨by decide, by decide, by decide, by decide⟩ rfl (Nat.le_of_ble_eq_true rfl) (fun E w' hx => ?_) (fun v w' hv => ?_)
  · obtain ⟨h0, rfl, n2, hn2, rfl⟩ := hx
    rw [if_pos h0] at K
    exact M.2 _ _ (hX _ _ n2 hn2 K) (Nat.le_of_ble_eq_true rfl) (Nat.le_of_ble_eq_true rfl)
  · obtain ⟨h0, rfl, rfl⟩ := hv
    rw [if_neg h0] at K hs
    show z_G X zm_T_breach (11, [(0, z_r 0), (1, .inl p1)], [], zW T' G' S n, 1, 6)
    refine z_go2 M.1.1 11 [(.aload_n 0, 1), (.iload_n 1, 1)] (13, [(0, z_r 0), (1, .inl p1)], [.inl p1, z_r 0], zW T' G' S n, 1, 6) (by decide +kernel) rfl ⟨trivial, trivial, trivial⟩ ?_
    refine z_callV M.1.1 (av := [.inl p1]) (st := []) (a := 0) (ci := 11) (by decide +kernel) (c_T_goalDays T' G' S n p1 hs.1) M.1.2.1 zl_T_375 zv_T_goalDays rfl rfl rfl ⟨by decide, by decide, by decide, by decide⟩ rfl (Nat.le_of_ble_eq_true rfl) (fun v w' hv => ?_)
    obtain ⟨rfl, rfl⟩ := hv
    replace hs := hs.2
    show z_G X zm_T_breach (16, [(0, z_r 0), (1, .inl p1)], [.inl (F_T_goalDays S p1)], zW T' G' S n, 1, 6)
    refine z_go2 M.1.1 16 [(.iconst (-1), 1)] (17, [(0, z_r 0), (1, .inl p1)], [.inl (-1), .inl (F_T_goalDays S p1)], zW T' G' S n, 1, 6) (by decide +kernel) rfl ⟨trivial, trivial⟩ ?_
    refine z_icmp_eq 24 M.1.1 (off := 7) (by decide +kernel) (by decide) (fun c17 => ?_) (fun c17 => ?_)
    · rw [if_pos c17] at K hs
      refine z_go2 M.1.1 24 [(.iconst 0, 1)] (25, [(0, z_r 0), (1, .inl p1)], [.inl 0], zW T' G' S n, 1, 6) (by decide +kernel) rfl ⟨trivial, trivial⟩ ?_
      refine z_callSX M.1.1 (av := [.inl 0]) (st := []) (by decide +kernel) (c_mustBeAllowed T' G' S n 0) M.1.2.1 zl_T_128 (z_wi 847 (by decide +kernel) rfl) zs_T_mustBeAllowed ⟨by decide, by decide, by decide, by decide⟩ rfl (Nat.le_of_ble_eq_true rfl) (fun E w' hx => ?_) (fun v w' hv => ?_)
      · obtain ⟨h0, rfl, n2, hn2, rfl⟩ := hx
        exact M.2 _ _ (hX _ _ n2 hn2 K) (Nat.le_of_ble_eq_true rfl) (Nat.le_of_ble_eq_true rfl)
      · obtain ⟨h0, rfl, rfl⟩ := hv
        exact absurd rfl h0
    · rw [if_neg c17] at K hs
      refine z_go2 M.1.1 20 [(.iconst 1, 1), (.goto 4, 3)] (25, [(0, z_r 0), (1, .inl p1)], [.inl 1], zW T' G' S n, 1, 6) (by decide +kernel) rfl ⟨trivial, trivial, trivial⟩ ?_
      refine z_callSX M.1.1 (av := [.inl 1]) (st := []) (by decide +kernel) (c_mustBeAllowed T' G' S n 1) M.1.2.1 zl_T_128 (z_wi 847 (by decide +kernel) rfl) zs_T_mustBeAllowed ⟨by decide, by decide, by decide, by decide⟩ rfl (Nat.le_of_ble_eq_true rfl) (fun E w' hx => ?_) (fun v w' hv => ?_)
      · obtain ⟨h0, rfl, n2, hn2, rfl⟩ := hx
        exact absurd h0 (by decide)
      · obtain ⟨h0, rfl, rfl⟩ := hv
        show z_G X zm_T_breach (28, [(0, z_r 0), (1, .inl p1)], [], zW T' G' S n, 2, 12)
        refine z_go2 M.1.1 28 [(.aload_n 0, 1), (.iload_n 1, 1)] (30, [(0, z_r 0), (1, .inl p1)], [.inl p1, z_r 0], zW T' G' S n, 2, 12) (by decide +kernel) rfl ⟨trivial, trivial, trivial⟩ ?_
        refine z_callV M.1.1 (av := [.inl p1]) (st := []) (a := 0) (ci := 11) (by decide +kernel) (c_T_goalDays T' G' S n p1 hs.1) M.1.2.1 zl_T_375 zv_T_goalDays rfl rfl rfl ⟨by decide, by decide, by decide, by decide⟩ rfl (Nat.le_of_ble_eq_true rfl) (fun v w' hv => ?_)
        obtain ⟨rfl, rfl⟩ := hv
        replace hs := hs.2
        show z_G X zm_T_breach (33, [(0, z_r 0), (1, .inl p1)], [.inl (F_T_goalDays S p1)], zW T' G' S n, 2, 12)
        refine z_go2 M.1.1 33 [(.aload_n 0, 1), (.iload_n 1, 1)] (35, [(0, z_r 0), (1, .inl p1)], [.inl p1, z_r 0, .inl (F_T_goalDays S p1)], zW T' G' S n, 2, 12) (by decide +kernel) rfl ⟨trivial, trivial, trivial⟩ ?_
        refine z_callV M.1.1 (av := [.inl p1]) (st := [.inl (F_T_goalDays S p1)]) (a := 0) (ci := 11) (by decide +kernel) (c_T_spentDays T' G' S n p1 hs.1) M.1.2.1 zl_T_378 zv_T_spentDays rfl rfl rfl ⟨by decide, by decide, by decide, by decide⟩ rfl (Nat.le_of_ble_eq_true rfl) (fun v w' hv => ?_)
        obtain ⟨rfl, rfl⟩ := hv
        replace hs := hs.2
        show z_G X zm_T_breach (38, [(0, z_r 0), (1, .inl p1)], [.inl (F_T_spentDays S p1), .inl (F_T_goalDays S p1)], zW T' G' S n, 2, 12)
        refine z_go2 M.1.1 38 [(.isub, 1), (.istore_n 2, 1), (.aload_n 0, 1), (.getfield 54, 3), (.getfield 372, 3), (.aload_n 0, 1), (.getfield 19, 3), (.iload_n 1, 1), (.bipush 9, 2)] (54, [(2, .inl ((F_T_goalDays S p1) - (F_T_spentDays S p1))), (0, z_r 0), (1, .inl p1)], [.inl 9, .inl p1, z_r 9, z_r 48], zW T' G' S n, 2, 12) (by decide +kernel) rfl ⟨trivial, trivial, trivial, rfl, rfl, trivial, rfl, trivial, trivial, trivial⟩ ?_
        refine z_callV M.1.1 (av := [.inl p1, .inl 9]) (st := [z_r 48]) (a := 9) (ci := 10) (by decide +kernel) (c_World_cell_9 T' G' S n p1 9 hs.1) M.1.2.1 zl_T_207 zv_World_cell rfl rfl rfl ⟨by decide, by decide, by decide, by decide⟩ rfl (Nat.le_of_ble_eq_true rfl) (fun v w' hv => ?_)
        obtain ⟨rfl, rfl⟩ := hv
        replace hs := hs.2
        show z_G X zm_T_breach (57, [(2, .inl ((F_T_goalDays S p1) - (F_T_spentDays S p1))), (0, z_r 0), (1, .inl p1)], [.inl (F_World_cell 9 S p1 9), z_r 48], zW T' G' S n, 2, 12)
        refine z_callS M.1.1 (av := [z_r 48, .inl (F_World_cell 9 S p1 9)]) (st := []) (by decide +kernel) (c_at (zW T' G' S n) 48 3 rfl (by decide) (F_World_cell 9 S p1 9)) M.1.2.1 zl_T_134 zs_T_at ⟨by decide, by decide, by decide, by decide⟩ rfl (Nat.le_of_ble_eq_true rfl) (fun v w' hv => ?_)
        obtain ⟨rfl, rfl⟩ := hv
        show z_G X zm_T_breach (60, [(2, .inl ((F_T_goalDays S p1) - (F_T_spentDays S p1))), (0, z_r 0), (1, .inl p1)], [.inl (zAt (S 48) 3 (F_World_cell 9 S p1 9))], zW T' G' S n, 2, 12)
        refine z_go2 M.1.1 60 [(.aload_n 0, 1), (.getfield 19, 3), (.iload_n 1, 1), (.iconst 0, 1)] (66, [(2, .inl ((F_T_goalDays S p1) - (F_T_spentDays S p1))), (0, z_r 0), (1, .inl p1)], [.inl 0, .inl p1, z_r 9, .inl (zAt (S 48) 3 (F_World_cell 9 S p1 9))], zW T' G' S n, 2, 12) (by decide +kernel) rfl ⟨trivial, rfl, trivial, trivial, trivial⟩ ?_
        refine z_callV M.1.1 (av := [.inl p1, .inl 0]) (st := [.inl (zAt (S 48) 3 (F_World_cell 9 S p1 9))]) (a := 9) (ci := 10) (by decide +kernel) (c_World_cell_9 T' G' S n p1 0 hs.1) M.1.2.1 zl_T_207 zv_World_cell rfl rfl rfl ⟨by decide, by decide, by decide, by decide⟩ rfl (Nat.le_of_ble_eq_true rfl) (fun v w' hv => ?_)
        obtain ⟨rfl, rfl⟩ := hv
        replace hs := hs.2
        show z_G X zm_T_breach (69, [(2, .inl ((F_T_goalDays S p1) - (F_T_spentDays S p1))), (0, z_r 0), (1, .inl p1)], [.inl (F_World_cell 9 S p1 0), .inl (zAt (S 48) 3 (F_World_cell 9 S p1 9))], zW T' G' S n, 2, 12)
        refine z_callS M.1.1 (av := [.inl (zAt (S 48) 3 (F_World_cell 9 S p1 9)), .inl (F_World_cell 9 S p1 0)]) (st := []) (by decide +kernel) (c_T_isIn T' G' S n (zAt (S 48) 3 (F_World_cell 9 S p1 9)) (F_World_cell 9 S p1 0)) M.1.2.1 zl_T_307 zs_T_isIn ⟨by decide, by decide, by decide, by decide⟩ rfl (Nat.le_of_ble_eq_true rfl) (fun v w' hv => ?_)
        obtain ⟨rfl, rfl⟩ := hv
        show z_G X zm_T_breach (72, [(2, .inl ((F_T_goalDays S p1) - (F_T_spentDays S p1))), (0, z_r 0), (1, .inl p1)], [.inl (F_T_isIn S (zAt (S 48) 3 (F_World_cell 9 S p1 9)) (F_World_cell 9 S p1 0))], zW T' G' S n, 2, 12)
        refine z_go2 M.1.1 72 [(.istore_n 3, 1), (.iload_n 3, 1)] (74, [(3, .inl (F_T_isIn S (zAt (S 48) 3 (F_World_cell 9 S p1 9)) (F_World_cell 9 S p1 0))), (2, .inl ((F_T_goalDays S p1) - (F_T_spentDays S p1))), (0, z_r 0), (1, .inl p1)], [.inl (F_T_isIn S (zAt (S 48) 3 (F_World_cell 9 S p1 9)) (F_World_cell 9 S p1 0))], zW T' G' S n, 2, 12) (by decide +kernel) rfl ⟨trivial, trivial, trivial⟩ ?_
        refine z_if_eq 89 M.1.1 (off := 15) (by decide +kernel) (by decide) (fun c74 => ?_) (fun c74 => ?_)
        · rw [if_pos c74] at K hs
          exact z_lvs (lv' := []) [] rfl (t_T_breach_j89 M S hQ hX K)
        · rw [if_neg c74] at K hs
          refine z_go2 M.1.1 77 [(.iload_n 2, 1)] (78, [(3, .inl (F_T_isIn S (zAt (S 48) 3 (F_World_cell 9 S p1 9)) (F_World_cell 9 S p1 0))), (2, .inl ((F_T_goalDays S p1) - (F_T_spentDays S p1))), (0, z_r 0), (1, .inl p1)], [.inl ((F_T_goalDays S p1) - (F_T_spentDays S p1))], zW T' G' S n, 2, 12) (by decide +kernel) rfl ⟨trivial, trivial⟩ ?_
          refine z_if_lt 89 M.1.1 (off := 11) (by decide +kernel) (by decide) (fun c78 => ?_) (fun c78 => ?_)
          · rw [if_pos c78] at K hs
            exact z_lvs (lv' := []) [] rfl (t_T_breach_j89 M S hQ hX K)
          · rw [if_neg c78] at K hs
            refine z_go2 M.1.1 81 [(.aload_n 0, 1), (.iload_n 2, 1)] (83, [(3, .inl (F_T_isIn S (zAt (S 48) 3 (F_World_cell 9 S p1 9)) (F_World_cell 9 S p1 0))), (2, .inl ((F_T_goalDays S p1) - (F_T_spentDays S p1))), (0, z_r 0), (1, .inl p1)], [.inl ((F_T_goalDays S p1) - (F_T_spentDays S p1)), z_r 0], zW T' G' S n, 2, 12) (by decide +kernel) rfl ⟨trivial, trivial, trivial⟩ ?_
            refine z_callV M.1.1 (av := [.inl ((F_T_goalDays S p1) - (F_T_spentDays S p1))]) (st := []) (a := 0) (ci := 11) (by decide +kernel) (c_T_dayOfWork T' G' S n ((F_T_goalDays S p1) - (F_T_spentDays S p1)) hs.1) M.1.2.1 zl_T_381 zv_T_dayOfWork rfl rfl rfl ⟨by decide, by decide, by decide, by decide⟩ rfl (Nat.le_of_ble_eq_true rfl) (fun v w' hv => ?_)
            obtain ⟨rfl, rfl⟩ := hv
            replace hs := hs.2
            show z_G X zm_T_breach (86, [(3, .inl (F_T_isIn S (zAt (S 48) 3 (F_World_cell 9 S p1 9)) (F_World_cell 9 S p1 0))), (2, .inl ((F_T_goalDays S p1) - (F_T_spentDays S p1))), (0, z_r 0), (1, .inl p1)], [.inl (F_T_dayOfWork S ((F_T_goalDays S p1) - (F_T_spentDays S p1)))], zW T' G' S n, 2, 12)
            refine z_go2 M.1.1 86 [(.goto 4, 3)] (90, [(3, .inl (F_T_isIn S (zAt (S 48) 3 (F_World_cell 9 S p1 9)) (F_World_cell 9 S p1 0))), (2, .inl ((F_T_goalDays S p1) - (F_T_spentDays S p1))), (0, z_r 0), (1, .inl p1)], [.inl (F_T_dayOfWork S ((F_T_goalDays S p1) - (F_T_spentDays S p1)))], zW T' G' S n, 2, 12) (by decide +kernel) rfl ⟨trivial, trivial⟩ ?_
            exact z_iret M.1 (by decide +kernel) .int rfl rfl (by decide) (by decide) (hQ _ _ K)

-- TrackHouse.unbulk
abbrev rm_T_unbulk : Room := zx 7 2
def F_T_unbulk_l81_139 (rc : (Nat → Nat → Int32) → Int32 → ((Nat → Nat → Int32))) (S : (Nat → Nat → Int32)) (x1 : Int32) (x2 : Int32) (x4 : Int32) (x5 : Int32) (x6 : Int32) (x7 : Int32) (s0 : Int32) : ((Nat → Nat → Int32)) := (if s0 = 0 then (rc S (x6 + 1)) else (if (F_Kinds_has S (F_World_cell 9 S x7 9) (x2 - 1)) = 0 then (rc S (x6 + 1)) else (z_let (F_T_change S (zAt (S 72) 512 x1) x7 x2 0 (zAt (S 7) 900 x6)) (fun S198 => (rc S198 (x6 + 1))))))
def Sf_T_unbulk_l81_139 (rc : (Nat → Nat → Int32) → Int32 → ((Nat → Nat → Int32))) (sr : (Nat → Nat → Int32) → Int32 → Prop) (S : (Nat → Nat → Int32)) (x1 : Int32) (x2 : Int32) (x4 : Int32) (x5 : Int32) (x6 : Int32) (x7 : Int32) (s0 : Int32) : Prop := (if s0 = 0 then (sr S (x6 + 1)) else (Sf_World_cell 9 S x7 9 ∧ (Sf_Kinds_has S (F_World_cell 9 S x7 9) (x2 - 1) ∧ (if (F_Kinds_has S (F_World_cell 9 S x7 9) (x2 - 1)) = 0 then (sr S (x6 + 1)) else (Sf_T_change S (zAt (S 72) 512 x1) x7 x2 0 (zAt (S 7) 900 x6) ∧ (z_let (F_T_change S (zAt (S 72) 512 x1) x7 x2 0 (zAt (S 7) 900 x6)) (fun S198 => (sr S198 (x6 + 1)))))))))
theorem t_T_unbulk_l81_139 {X : z_X} {Post : Option z_V → z_W → Prop} {PX : String → z_W → Prop} (M : z_MX X zm_T_unbulk rm_T_unbulk Post PX) {T' : Nat → Nat × Nat} {G' : Nat → Nat → Option Nat} {n : Nat} {Q : ((Nat → Nat → Int32)) → Prop} (rc : (Nat → Nat → Int32) → Int32 → ((Nat → Nat → Int32))) (sr : (Nat → Nat → Int32) → Int32 → Prop) (S : (Nat → Nat → Int32)) (x1 : Int32) (x2 : Int32) (x4 : Int32) (x5 : Int32) (x6 : Int32) (x7 : Int32) (s0 : Int32) (hE : ∀ (S' : (Nat → Nat → Int32)), Q S' → z_G X zm_T_unbulk (207, [(0, z_r 0), (1, .inl x1), (5, .inl x5)], [], zW T' G' S' n, 1, 6)) (hC : ∀ (S : (Nat → Nat → Int32)) (x6 : Int32), Q (rc S x6) → sr S x6 → z_G X zm_T_unbulk (81, [(0, z_r 0), (1, .inl x1), (2, .inl x2), (4, .inl x4), (5, .inl x5), (6, .inl x6)], [], zW T' G' S n, 1, 6)) (K : Q (F_T_unbulk_l81_139 rc S x1 x2 x4 x5 x6 x7 s0)) (hs : Sf_T_unbulk_l81_139 rc sr S x1 x2 x4 x5 x6 x7 s0) : z_G X zm_T_unbulk (139, [(0, z_r 0), (1, .inl x1), (2, .inl x2), (4, .inl x4), (5, .inl x5), (6, .inl x6), (7, .inl x7)], [.inl s0], zW T' G' S n, 1, 6) := by
  unfold F_T_unbulk_l81_139 at K
  unfold Sf_T_unbulk_l81_139 at hs
  refine z_go2 M.1.1 139 [(.istore 8, 2), (.iload 8, 2)] (143, [(8, .inl s0), (0, z_r 0), (1, .inl x1), (2, .inl x2), (4, .inl x4), (5, .inl x5), (6, .inl x6), (7, .inl x7)], [.inl s0], zW T' G' S n, 1, 6) (by decide +kernel) rfl ⟨trivial, trivial, trivial⟩ ?_
  refine z_if_eq 201 M.1.1 (off := 58) (by decide +kernel) (by decide) (fun c143 => ?_) (fun c143 => ?_)
  · rw [if_pos c143] at K hs
    refine z_go2 M.1.1 201 [(.iinc 6 1, 3), (.goto (-123), 3)] (81, [(6, .inl (x6 + 1)), (8, .inl s0), (0, z_r 0), (1, .inl x1), (2, .inl x2), (4, .inl x4), (5, .inl x5), (7, .inl x7)], [], zW T' G' S n, 1, 6) (by decide +kernel) rfl ⟨trivial, trivial, trivial⟩ ?_
    exact z_lvs (lv' := [(0, z_r 0), (1, .inl x1), (2, .inl x2), (4, .inl x4), (5, .inl x5), (6, .inl (x6 + 1))]) [2, 3, 4, 5, 6, 0] rfl (hC S (x6 + 1) K hs)
  · rw [if_neg c143] at K hs
    refine z_go2 M.1.1 146 [(.aload_n 0, 1), (.getfield 54, 3), (.aload_n 0, 1), (.getfield 19, 3), (.iload 7, 2), (.bipush 9, 2)] (158, [(8, .inl s0), (0, z_r 0), (1, .inl x1), (2, .inl x2), (4, .inl x4), (5, .inl x5), (6, .inl x6), (7, .inl x7)], [.inl 9, .inl x7, z_r 9, z_r 43], zW T' G' S n, 1, 6) (by decide +kernel) rfl ⟨trivial, rfl, trivial, rfl, trivial, trivial, trivial⟩ ?_
    refine z_callV M.1.1 (av := [.inl x7, .inl 9]) (st := [z_r 43]) (a := 9) (ci := 10) (by decide +kernel) (c_World_cell_9 T' G' S n x7 9 hs.1) M.1.2.1 zl_T_207 zv_World_cell rfl rfl rfl ⟨by decide, by decide, by decide, by decide⟩ rfl (Nat.le_of_ble_eq_true rfl) (fun v w' hv => ?_)
    obtain ⟨rfl, rfl⟩ := hv
    replace hs := hs.2
    show z_G X zm_T_unbulk (161, [(8, .inl s0), (0, z_r 0), (1, .inl x1), (2, .inl x2), (4, .inl x4), (5, .inl x5), (6, .inl x6), (7, .inl x7)], [.inl (F_World_cell 9 S x7 9), z_r 43], zW T' G' S n, 1, 6)
    refine z_go2 M.1.1 161 [(.iload_n 2, 1), (.iconst 1, 1), (.isub, 1)] (164, [(8, .inl s0), (0, z_r 0), (1, .inl x1), (2, .inl x2), (4, .inl x4), (5, .inl x5), (6, .inl x6), (7, .inl x7)], [.inl (x2 - 1), .inl (F_World_cell 9 S x7 9), z_r 43], zW T' G' S n, 1, 6) (by decide +kernel) rfl ⟨trivial, trivial, trivial, trivial⟩ ?_
    refine z_callV M.1.1 (av := [.inl (F_World_cell 9 S x7 9), .inl (x2 - 1)]) (st := []) (a := 43) (ci := 3) (by decide +kernel) (c_Kinds_has T' G' S n (F_World_cell 9 S x7 9) (x2 - 1) hs.1) M.1.2.1 zl_T_393 zv_Kinds_has rfl rfl rfl ⟨by decide, by decide, by decide, by decide⟩ rfl (Nat.le_of_ble_eq_true rfl) (fun v w' hv => ?_)
    obtain ⟨rfl, rfl⟩ := hv
    replace hs := hs.2
    show z_G X zm_T_unbulk (167, [(8, .inl s0), (0, z_r 0), (1, .inl x1), (2, .inl x2), (4, .inl x4), (5, .inl x5), (6, .inl x6), (7, .inl x7)], [.inl (F_Kinds_has S (F_World_cell 9 S x7 9) (x2 - 1))], zW T' G' S n, 1, 6)
    refine z_if_eq 201 M.1.1 (off := 34) (by decide +kernel) (by decide) (fun c167 => ?_) (fun c167 => ?_)
    · rw [if_pos c167] at K hs
      refine z_go2 M.1.1 201 [(.iinc 6 1, 3), (.goto (-123), 3)] (81, [(6, .inl (x6 + 1)), (8, .inl s0), (0, z_r 0), (1, .inl x1), (2, .inl x2), (4, .inl x4), (5, .inl x5), (7, .inl x7)], [], zW T' G' S n, 1, 6) (by decide +kernel) rfl ⟨trivial, trivial, trivial⟩ ?_
      exact z_lvs (lv' := [(0, z_r 0), (1, .inl x1), (2, .inl x2), (4, .inl x4), (5, .inl x5), (6, .inl (x6 + 1))]) [2, 3, 4, 5, 6, 0] rfl (hC S (x6 + 1) K hs)
    · rw [if_neg c167] at K hs
      refine z_go2 M.1.1 170 [(.aload_n 0, 1), (.aload_n 0, 1), (.getfield 79, 3), (.getfield 394, 3), (.iload_n 1, 1)] (179, [(8, .inl s0), (0, z_r 0), (1, .inl x1), (2, .inl x2), (4, .inl x4), (5, .inl x5), (6, .inl x6), (7, .inl x7)], [.inl x1, z_r 72, z_r 0], zW T' G' S n, 1, 6) (by decide +kernel) rfl ⟨trivial, trivial, rfl, rfl, trivial, trivial⟩ ?_
      refine z_callS M.1.1 (av := [z_r 72, .inl x1]) (st := [z_r 0]) (by decide +kernel) (c_at (zW T' G' S n) 72 512 rfl (by decide) x1) M.1.2.1 zl_T_134 zs_T_at ⟨by decide, by decide, by decide, by decide⟩ rfl (Nat.le_of_ble_eq_true rfl) (fun v w' hv => ?_)
      obtain ⟨rfl, rfl⟩ := hv
      show z_G X zm_T_unbulk (182, [(8, .inl s0), (0, z_r 0), (1, .inl x1), (2, .inl x2), (4, .inl x4), (5, .inl x5), (6, .inl x6), (7, .inl x7)], [.inl (zAt (S 72) 512 x1), z_r 0], zW T' G' S n, 1, 6)
      refine z_go2 M.1.1 182 [(.iload 7, 2), (.iload_n 2, 1), (.iconst 0, 1), (.aload_n 0, 1), (.getfield 12, 3), (.getfield 325, 3), (.iload 6, 2)] (195, [(8, .inl s0), (0, z_r 0), (1, .inl x1), (2, .inl x2), (4, .inl x4), (5, .inl x5), (6, .inl x6), (7, .inl x7)], [.inl x6, z_r 7, .inl 0, .inl x2, .inl x7, .inl (zAt (S 72) 512 x1), z_r 0], zW T' G' S n, 1, 6) (by decide +kernel) rfl ⟨trivial, trivial, trivial, trivial, rfl, rfl, trivial, trivial⟩ ?_
      refine z_callS M.1.1 (av := [z_r 7, .inl x6]) (st := [.inl 0, .inl x2, .inl x7, .inl (zAt (S 72) 512 x1), z_r 0]) (by decide +kernel) (c_at (zW T' G' S n) 7 900 rfl (by decide) x6) M.1.2.1 zl_T_134 zs_T_at ⟨by decide, by decide, by decide, by decide⟩ rfl (Nat.le_of_ble_eq_true rfl) (fun v w' hv => ?_)
      obtain ⟨rfl, rfl⟩ := hv
      show z_G X zm_T_unbulk (198, [(8, .inl s0), (0, z_r 0), (1, .inl x1), (2, .inl x2), (4, .inl x4), (5, .inl x5), (6, .inl x6), (7, .inl x7)], [.inl (zAt (S 7) 900 x6), .inl 0, .inl x2, .inl x7, .inl (zAt (S 72) 512 x1), z_r 0], zW T' G' S n, 1, 6)
      refine z_callV M.1.1 (av := [.inl (zAt (S 72) 512 x1), .inl x7, .inl x2, .inl 0, .inl (zAt (S 7) 900 x6)]) (st := []) (a := 0) (ci := 11) (by decide +kernel) (c_T_change T' G' S n (zAt (S 72) 512 x1) x7 x2 0 (zAt (S 7) 900 x6) hs.1) M.1.2.1 zl_T_121 zv_T_change rfl rfl rfl ⟨by decide, by decide, by decide, by decide⟩ rfl (Nat.le_of_ble_eq_true rfl) (fun v w' hv => ?_)
      replace hs := hs.2
      obtain ⟨S198, hF198⟩ : ∃ y, F_T_change S (zAt (S 72) 512 x1) x7 x2 0 (zAt (S 7) 900 x6) = y := ⟨_, rfl⟩
      rw [hF198] at K hv
      try rw [hF198] at hs
      try dsimp only [z_let] at K hs
      obtain ⟨rfl, rfl⟩ := hv
      show z_G X zm_T_unbulk (201, [(8, .inl s0), (0, z_r 0), (1, .inl x1), (2, .inl x2), (4, .inl x4), (5, .inl x5), (6, .inl x6), (7, .inl x7)], [], zW T' G' S198 n, 1, 6)
      refine z_go2 M.1.1 201 [(.iinc 6 1, 3), (.goto (-123), 3)] (81, [(6, .inl (x6 + 1)), (8, .inl s0), (0, z_r 0), (1, .inl x1), (2, .inl x2), (4, .inl x4), (5, .inl x5), (7, .inl x7)], [], zW T' G' S198 n, 1, 6) (by decide +kernel) rfl ⟨trivial, trivial, trivial⟩ ?_
      exact z_lvs (lv' := [(0, z_r 0), (1, .inl x1), (2, .inl x2), (4, .inl x4), (5, .inl x5), (6, .inl (x6 + 1))]) [2, 3, 4, 5, 6, 0] rfl (hC S198 (x6 + 1) K hs)
def F_T_unbulk_L81 (x1 : Int32) (x2 : Int32) (x4 : Int32) (x5 : Int32) : Nat → (Nat → Nat → Int32) → Int32 → ((Nat → Nat → Int32))
  | 0, S, x6 => S
  | f + 1, S, x6 => (if x4 ≤ x6 then S else (if x5 ≤ x6 then S else (if (F_World_cell 9 S (zAt (S 4) 900 x6) x2) = (zAt (S 8) 900 x6) then (F_T_unbulk_l81_139 (F_T_unbulk_L81 x1 x2 x4 x5 f) S x1 x2 x4 x5 x6 (zAt (S 4) 900 x6) 1) else (F_T_unbulk_l81_139 (F_T_unbulk_L81 x1 x2 x4 x5 f) S x1 x2 x4 x5 x6 (zAt (S 4) 900 x6) 0))))
def Sf_T_unbulk_L81 (x1 : Int32) (x2 : Int32) (x4 : Int32) (x5 : Int32) : Nat → (Nat → Nat → Int32) → Int32 → Prop
  | 0, _, _ => False
  | f + 1, S, x6 => (if x4 ≤ x6 then True else (if x5 ≤ x6 then True else (Sf_World_cell 9 S (zAt (S 4) 900 x6) x2 ∧ (if (F_World_cell 9 S (zAt (S 4) 900 x6) x2) = (zAt (S 8) 900 x6) then (Sf_T_unbulk_l81_139 (F_T_unbulk_L81 x1 x2 x4 x5 f) (Sf_T_unbulk_L81 x1 x2 x4 x5 f) S x1 x2 x4 x5 x6 (zAt (S 4) 900 x6) 1) else (Sf_T_unbulk_l81_139 (F_T_unbulk_L81 x1 x2 x4 x5 f) (Sf_T_unbulk_L81 x1 x2 x4 x5 f) S x1 x2 x4 x5 x6 (zAt (S 4) 900 x6) 0)))))
theorem t_T_unbulk_L81 {X : z_X} {Post : Option z_V → z_W → Prop} {PX : String → z_W → Prop} (M : z_MX X zm_T_unbulk rm_T_unbulk Post PX) {T' : Nat → Nat × Nat} {G' : Nat → Nat → Option Nat} {n : Nat} {Q : ((Nat → Nat → Int32)) → Prop}  (x1 : Int32) (x2 : Int32) (x4 : Int32) (x5 : Int32) (hE : ∀ (S' : (Nat → Nat → Int32)), Q S' → z_G X zm_T_unbulk (207, [(0, z_r 0), (1, .inl x1), (5, .inl x5)], [], zW T' G' S' n, 1, 6)) (f : Nat) : ∀ (S : (Nat → Nat → Int32)) (x6 : Int32), Q (F_T_unbulk_L81 x1 x2 x4 x5 f S x6) → Sf_T_unbulk_L81 x1 x2 x4 x5 f S x6 → z_G X zm_T_unbulk (81, [(0, z_r 0), (1, .inl x1), (2, .inl x2), (4, .inl x4), (5, .inl x5), (6, .inl x6)], [], zW T' G' S n, 1, 6) := by
  induction f with
  | zero => intro S x6 K hs; exact False.elim hs
  | succ f hC =>
    intro S x6 K hs
    rw [F_T_unbulk_L81] at K
    rw [Sf_T_unbulk_L81] at hs
    refine z_go2 M.1.1 81 [(.iload 6, 2), (.iload 4, 2)] (85, [(0, z_r 0), (1, .inl x1), (2, .inl x2), (4, .inl x4), (5, .inl x5), (6, .inl x6)], [.inl x4, .inl x6], zW T' G' S n, 1, 6) (by decide +kernel) rfl ⟨trivial, trivial, trivial⟩ ?_
    refine z_icmp_ge 207 M.1.1 (off := 122) (by decide +kernel) (by decide) (fun c85 => ?_) (fun c85 => ?_)
    · rw [if_pos c85] at K hs
      exact z_lvs (lv' := [(0, z_r 0), (1, .inl x1), (5, .inl x5)]) [0, 1, 4] rfl (hE S K)
    · rw [if_neg c85] at K hs
      refine z_go2 M.1.1 88 [(.iload 6, 2), (.iload 5, 2)] (92, [(0, z_r 0), (1, .inl x1), (2, .inl x2), (4, .inl x4), (5, .inl x5), (6, .inl x6)], [.inl x5, .inl x6], zW T' G' S n, 1, 6) (by decide +kernel) rfl ⟨trivial, trivial, trivial⟩ ?_
      refine z_icmp_ge 207 M.1.1 (off := 115) (by decide +kernel) (by decide) (fun c92 => ?_) (fun c92 => ?_)
      · rw [if_pos c92] at K hs
        exact z_lvs (lv' := [(0, z_r 0), (1, .inl x1), (5, .inl x5)]) [0, 1, 4] rfl (hE S K)
      · rw [if_neg c92] at K hs
        refine z_go2 M.1.1 95 [(.aload_n 0, 1), (.getfield 12, 3), (.getfield 316, 3), (.iload 6, 2)] (104, [(0, z_r 0), (1, .inl x1), (2, .inl x2), (4, .inl x4), (5, .inl x5), (6, .inl x6)], [.inl x6, z_r 4], zW T' G' S n, 1, 6) (by decide +kernel) rfl ⟨trivial, rfl, rfl, trivial, trivial⟩ ?_
        refine z_callS M.1.1 (av := [z_r 4, .inl x6]) (st := []) (by decide +kernel) (c_at (zW T' G' S n) 4 900 rfl (by decide) x6) M.1.2.1 zl_T_134 zs_T_at ⟨by decide, by decide, by decide, by decide⟩ rfl (Nat.le_of_ble_eq_true rfl) (fun v w' hv => ?_)
        obtain ⟨rfl, rfl⟩ := hv
        show z_G X zm_T_unbulk (107, [(0, z_r 0), (1, .inl x1), (2, .inl x2), (4, .inl x4), (5, .inl x5), (6, .inl x6)], [.inl (zAt (S 4) 900 x6)], zW T' G' S n, 1, 6)
        refine z_go2 M.1.1 107 [(.istore 7, 2), (.aload_n 0, 1), (.getfield 19, 3), (.iload 7, 2), (.iload_n 2, 1)] (116, [(7, .inl (zAt (S 4) 900 x6)), (0, z_r 0), (1, .inl x1), (2, .inl x2), (4, .inl x4), (5, .inl x5), (6, .inl x6)], [.inl x2, .inl (zAt (S 4) 900 x6), z_r 9], zW T' G' S n, 1, 6) (by decide +kernel) rfl ⟨trivial, trivial, rfl, trivial, trivial, trivial⟩ ?_
        refine z_callV M.1.1 (av := [.inl (zAt (S 4) 900 x6), .inl x2]) (st := []) (a := 9) (ci := 10) (by decide +kernel) (c_World_cell_9 T' G' S n (zAt (S 4) 900 x6) x2 hs.1) M.1.2.1 zl_T_207 zv_World_cell rfl rfl rfl ⟨by decide, by decide, by decide, by decide⟩ rfl (Nat.le_of_ble_eq_true rfl) (fun v w' hv => ?_)
        obtain ⟨rfl, rfl⟩ := hv
        replace hs := hs.2
        show z_G X zm_T_unbulk (119, [(7, .inl (zAt (S 4) 900 x6)), (0, z_r 0), (1, .inl x1), (2, .inl x2), (4, .inl x4), (5, .inl x5), (6, .inl x6)], [.inl (F_World_cell 9 S (zAt (S 4) 900 x6) x2)], zW T' G' S n, 1, 6)
        refine z_go2 M.1.1 119 [(.aload_n 0, 1), (.getfield 12, 3), (.getfield 322, 3), (.iload 6, 2)] (128, [(7, .inl (zAt (S 4) 900 x6)), (0, z_r 0), (1, .inl x1), (2, .inl x2), (4, .inl x4), (5, .inl x5), (6, .inl x6)], [.inl x6, z_r 8, .inl (F_World_cell 9 S (zAt (S 4) 900 x6) x2)], zW T' G' S n, 1, 6) (by decide +kernel) rfl ⟨trivial, rfl, rfl, trivial, trivial⟩ ?_
        refine z_callS M.1.1 (av := [z_r 8, .inl x6]) (st := [.inl (F_World_cell 9 S (zAt (S 4) 900 x6) x2)]) (by decide +kernel) (c_at (zW T' G' S n) 8 900 rfl (by decide) x6) M.1.2.1 zl_T_134 zs_T_at ⟨by decide, by decide, by decide, by decide⟩ rfl (Nat.le_of_ble_eq_true rfl) (fun v w' hv => ?_)
        obtain ⟨rfl, rfl⟩ := hv
        show z_G X zm_T_unbulk (131, [(7, .inl (zAt (S 4) 900 x6)), (0, z_r 0), (1, .inl x1), (2, .inl x2), (4, .inl x4), (5, .inl x5), (6, .inl x6)], [.inl (zAt (S 8) 900 x6), .inl (F_World_cell 9 S (zAt (S 4) 900 x6) x2)], zW T' G' S n, 1, 6)
        refine z_icmp_ne 138 M.1.1 (off := 7) (by decide +kernel) (by decide) (fun c131 => ?_) (fun c131 => ?_)
        · rw [if_neg c131] at K hs
          refine z_go2 M.1.1 138 [(.iconst 0, 1)] (139, [(7, .inl (zAt (S 4) 900 x6)), (0, z_r 0), (1, .inl x1), (2, .inl x2), (4, .inl x4), (5, .inl x5), (6, .inl x6)], [.inl 0], zW T' G' S n, 1, 6) (by decide +kernel) rfl ⟨trivial, trivial⟩ ?_
          exact z_lvs (lv' := [(0, z_r 0), (1, .inl x1), (2, .inl x2), (4, .inl x4), (5, .inl x5), (6, .inl x6), (7, .inl (zAt (S 4) 900 x6))]) [1, 2, 3, 4, 5, 6, 0] rfl (t_T_unbulk_l81_139 M (F_T_unbulk_L81 x1 x2 x4 x5 f) (Sf_T_unbulk_L81 x1 x2 x4 x5 f) S x1 x2 x4 x5 x6 (zAt (S 4) 900 x6) 0 hE hC K hs)
        · rw [if_pos c131] at K hs
          refine z_go2 M.1.1 134 [(.iconst 1, 1), (.goto 4, 3)] (139, [(7, .inl (zAt (S 4) 900 x6)), (0, z_r 0), (1, .inl x1), (2, .inl x2), (4, .inl x4), (5, .inl x5), (6, .inl x6)], [.inl 1], zW T' G' S n, 1, 6) (by decide +kernel) rfl ⟨trivial, trivial, trivial⟩ ?_
          exact z_lvs (lv' := [(0, z_r 0), (1, .inl x1), (2, .inl x2), (4, .inl x4), (5, .inl x5), (6, .inl x6), (7, .inl (zAt (S 4) 900 x6))]) [1, 2, 3, 4, 5, 6, 0] rfl (t_T_unbulk_l81_139 M (F_T_unbulk_L81 x1 x2 x4 x5 f) (Sf_T_unbulk_L81 x1 x2 x4 x5 f) S x1 x2 x4 x5 x6 (zAt (S 4) 900 x6) 1 hE hC K hs)
def F_T_unbulk (S : (Nat → Nat → Int32)) : ((String ⊕ Int32) × (Nat → Nat → Int32)) := (if (S 71 4) ≤ 0 then (.inl "java/lang/IllegalStateException", S) else (match F_T_unbulk_L81 ((S 71 4) - 1) ((1 : Int32) + (zAt (S 73) 512 ((S 71 4) - 1))) ((zAt (S 74) 512 ((S 71 4) - 1)) + (zAt (S 75) 512 ((S 71 4) - 1))) (S 1 7) 1300 S (zAt (S 74) 512 ((S 71 4) - 1)) with | S81 => (match F_T_isWithinLimit S81 (S 1 7) with | (r222, S222) => (if r222 = 0 then (.inl "java/lang/IllegalStateException", S222) else (.inr ((S81 1 7) - (S 1 7)), (z_uS S222 71 4 ((S 71 4) - 1)))))))
def Sf_T_unbulk (S : (Nat → Nat → Int32)) : Prop := (if (S 71 4) ≤ 0 then True else (Sf_T_unbulk_L81 ((S 71 4) - 1) ((1 : Int32) + (zAt (S 73) 512 ((S 71 4) - 1))) ((zAt (S 74) 512 ((S 71 4) - 1)) + (zAt (S 75) 512 ((S 71 4) - 1))) (S 1 7) 1300 S (zAt (S 74) 512 ((S 71 4) - 1)) ∧ (match F_T_unbulk_L81 ((S 71 4) - 1) ((1 : Int32) + (zAt (S 73) 512 ((S 71 4) - 1))) ((zAt (S 74) 512 ((S 71 4) - 1)) + (zAt (S 75) 512 ((S 71 4) - 1))) (S 1 7) 1300 S (zAt (S 74) 512 ((S 71 4) - 1)) with | S81 => (Sf_T_isWithinLimit S81 (S 1 7) ∧ True))))
theorem c_T_unbulk (T' : Nat → Nat × Nat) (G' : Nat → Nat → Option Nat) (S : (Nat → Nat → Int32)) (n : Nat) (hs : Sf_T_unbulk S) : z_RunX rm_T_unbulk zm_T_unbulk [z_r 0] (zW T' G' S n) (fun v w' => ∃ x S', F_T_unbulk S = (.inr x, S') ∧ v = some (.inl x) ∧ w' = zW T' G' S' n) (fun E w' => ∃ S' n2, n ≤ n2 ∧ F_T_unbulk S = (.inl E, S') ∧ w' = zW T' G' S' n2) := by
  refine z_bodyX (by decide) zf_T_ok (Nat.le_of_ble_eq_true rfl) (fun X M => ?_)
  obtain ⟨Q, hQ, hX, K⟩ : ∃ Q : ((String ⊕ Int32) × (Nat → Nat → Int32)) → Prop, (∀ v S', Q (.inr v, S') → ∃ x S'', F_T_unbulk S = (.inr x, S'') ∧ some (.inl v : z_V) = some (.inl x) ∧ zW T' G' S' n = zW T' G' S'' n) ∧ (∀ E S' (n2 : Nat), n ≤ n2 → Q (.inl E, S') → ∃ S'' n3, n ≤ n3 ∧ F_T_unbulk S = (.inl E, S'') ∧ zW T' G' S' n2 = zW T' G' S'' n3) ∧ Q (F_T_unbulk S) := ⟨fun o => F_T_unbulk S = o, fun v S' h => ⟨v, S', h, rfl, rfl⟩, fun E S' n2 hn h => ⟨S', n2, hn, h, rfl⟩, rfl⟩
  show z_G X zm_T_unbulk (0, [(0, z_r 0)], [], zW T' G' S n, 0, 0)
  unfold F_T_unbulk at K
  unfold Sf_T_unbulk at hs
  refine z_go2 M.1.1 0 [(.aload_n 0, 1), (.getfield 79, 3), (.getfield 387, 3)] (7, [(0, z_r 0)], [.inl (S 71 4)], zW T' G' S n, 0, 0) (by decide +kernel) rfl ⟨trivial, rfl, rfl, trivial⟩ ?_
  refine z_if_le 14 M.1.1 (off := 7) (by decide +kernel) (by decide) (fun c7 => ?_) (fun c7 => ?_)
  · rw [if_pos c7] at K hs
    refine z_go2 M.1.1 14 [(.iconst 0, 1)] (15, [(0, z_r 0)], [.inl 0], zW T' G' S n, 0, 0) (by decide +kernel) rfl ⟨trivial, trivial⟩ ?_
    refine z_callSX M.1.1 (av := [.inl 0]) (st := []) (by decide +kernel) (c_mustBeAllowed T' G' S n 0) M.1.2.1 zl_T_128 (z_wi 847 (by decide +kernel) rfl) zs_T_mustBeAllowed ⟨by decide, by decide, by decide, by decide⟩ rfl (Nat.le_of_ble_eq_true rfl) (fun E w' hx => ?_) (fun v w' hv => ?_)
    · obtain ⟨h0, rfl, n2, hn2, rfl⟩ := hx
      exact M.2 _ _ (hX _ _ n2 hn2 K) (Nat.le_of_ble_eq_true rfl) (Nat.le_of_ble_eq_true rfl)
    · obtain ⟨h0, rfl, rfl⟩ := hv
      exact absurd rfl h0
  · rw [if_neg c7] at K hs
    refine z_go2 M.1.1 10 [(.iconst 1, 1), (.goto 4, 3)] (15, [(0, z_r 0)], [.inl 1], zW T' G' S n, 0, 0) (by decide +kernel) rfl ⟨trivial, trivial, trivial⟩ ?_
    refine z_callSX M.1.1 (av := [.inl 1]) (st := []) (by decide +kernel) (c_mustBeAllowed T' G' S n 1) M.1.2.1 zl_T_128 (z_wi 847 (by decide +kernel) rfl) zs_T_mustBeAllowed ⟨by decide, by decide, by decide, by decide⟩ rfl (Nat.le_of_ble_eq_true rfl) (fun E w' hx => ?_) (fun v w' hv => ?_)
    · obtain ⟨h0, rfl, n2, hn2, rfl⟩ := hx
      exact absurd h0 (by decide)
    · obtain ⟨h0, rfl, rfl⟩ := hv
      show z_G X zm_T_unbulk (18, [(0, z_r 0)], [], zW T' G' S n, 1, 6)
      refine z_go2 M.1.1 18 [(.aload_n 0, 1), (.getfield 79, 3), (.getfield 387, 3), (.iconst 1, 1), (.isub, 1), (.istore_n 1, 1), (.iconst 1, 1), (.aload_n 0, 1), (.getfield 79, 3), (.getfield 388, 3), (.iload_n 1, 1)] (37, [(1, .inl ((S 71 4) - 1)), (0, z_r 0)], [.inl ((S 71 4) - 1), z_r 73, .inl 1], zW T' G' S n, 1, 6) (by decide +kernel) rfl ⟨trivial, rfl, rfl, trivial, trivial, trivial, trivial, trivial, rfl, rfl, trivial, trivial⟩ ?_
      refine z_callS M.1.1 (av := [z_r 73, .inl ((S 71 4) - 1)]) (st := [.inl 1]) (by decide +kernel) (c_at (zW T' G' S n) 73 512 rfl (by decide) ((S 71 4) - 1)) M.1.2.1 zl_T_134 zs_T_at ⟨by decide, by decide, by decide, by decide⟩ rfl (Nat.le_of_ble_eq_true rfl) (fun v w' hv => ?_)
      obtain ⟨rfl, rfl⟩ := hv
      show z_G X zm_T_unbulk (40, [(1, .inl ((S 71 4) - 1)), (0, z_r 0)], [.inl (zAt (S 73) 512 ((S 71 4) - 1)), .inl 1], zW T' G' S n, 1, 6)
      refine z_go2 M.1.1 40 [(.iadd, 1), (.istore_n 2, 1), (.aload_n 0, 1), (.getfield 79, 3), (.getfield 389, 3), (.iload_n 1, 1)] (50, [(2, .inl ((1 : Int32) + (zAt (S 73) 512 ((S 71 4) - 1)))), (1, .inl ((S 71 4) - 1)), (0, z_r 0)], [.inl ((S 71 4) - 1), z_r 74], zW T' G' S n, 1, 6) (by decide +kernel) rfl ⟨trivial, trivial, trivial, rfl, rfl, trivial, trivial⟩ ?_
      refine z_callS M.1.1 (av := [z_r 74, .inl ((S 71 4) - 1)]) (st := []) (by decide +kernel) (c_at (zW T' G' S n) 74 512 rfl (by decide) ((S 71 4) - 1)) M.1.2.1 zl_T_134 zs_T_at ⟨by decide, by decide, by decide, by decide⟩ rfl (Nat.le_of_ble_eq_true rfl) (fun v w' hv => ?_)
      obtain ⟨rfl, rfl⟩ := hv
      show z_G X zm_T_unbulk (53, [(2, .inl ((1 : Int32) + (zAt (S 73) 512 ((S 71 4) - 1)))), (1, .inl ((S 71 4) - 1)), (0, z_r 0)], [.inl (zAt (S 74) 512 ((S 71 4) - 1))], zW T' G' S n, 1, 6)
      refine z_go2 M.1.1 53 [(.istore_n 3, 1), (.iload_n 3, 1), (.aload_n 0, 1), (.getfield 79, 3), (.getfield 392, 3), (.iload_n 1, 1)] (63, [(3, .inl (zAt (S 74) 512 ((S 71 4) - 1))), (2, .inl ((1 : Int32) + (zAt (S 73) 512 ((S 71 4) - 1)))), (1, .inl ((S 71 4) - 1)), (0, z_r 0)], [.inl ((S 71 4) - 1), z_r 75, .inl (zAt (S 74) 512 ((S 71 4) - 1))], zW T' G' S n, 1, 6) (by decide +kernel) rfl ⟨trivial, trivial, trivial, rfl, rfl, trivial, trivial⟩ ?_
      refine z_callS M.1.1 (av := [z_r 75, .inl ((S 71 4) - 1)]) (st := [.inl (zAt (S 74) 512 ((S 71 4) - 1))]) (by decide +kernel) (c_at (zW T' G' S n) 75 512 rfl (by decide) ((S 71 4) - 1)) M.1.2.1 zl_T_134 zs_T_at ⟨by decide, by decide, by decide, by decide⟩ rfl (Nat.le_of_ble_eq_true rfl) (fun v w' hv => ?_)
      obtain ⟨rfl, rfl⟩ := hv
      show z_G X zm_T_unbulk (66, [(3, .inl (zAt (S 74) 512 ((S 71 4) - 1))), (2, .inl ((1 : Int32) + (zAt (S 73) 512 ((S 71 4) - 1)))), (1, .inl ((S 71 4) - 1)), (0, z_r 0)], [.inl (zAt (S 75) 512 ((S 71 4) - 1)), .inl (zAt (S 74) 512 ((S 71 4) - 1))], zW T' G' S n, 1, 6)
      refine z_go2 M.1.1 66 [(.iadd, 1), (.istore 4, 2), (.aload_n 0, 1), (.getfield 12, 3), (.getfield 118, 3), (.istore 5, 2), (.iload_n 3, 1), (.istore 6, 2)] (81, [(6, .inl (zAt (S 74) 512 ((S 71 4) - 1))), (5, .inl (S 1 7)), (4, .inl ((zAt (S 74) 512 ((S 71 4) - 1)) + (zAt (S 75) 512 ((S 71 4) - 1)))), (3, .inl (zAt (S 74) 512 ((S 71 4) - 1))), (2, .inl ((1 : Int32) + (zAt (S 73) 512 ((S 71 4) - 1)))), (1, .inl ((S 71 4) - 1)), (0, z_r 0)], [], zW T' G' S n, 1, 6) (by decide +kernel) rfl ⟨trivial, trivial, trivial, rfl, rfl, trivial, trivial, trivial, trivial⟩ ?_
      refine z_lvs (lv' := [(0, z_r 0), (1, .inl ((S 71 4) - 1)), (2, .inl ((1 : Int32) + (zAt (S 73) 512 ((S 71 4) - 1)))), (4, .inl ((zAt (S 74) 512 ((S 71 4) - 1)) + (zAt (S 75) 512 ((S 71 4) - 1)))), (5, .inl (S 1 7)), (6, .inl (zAt (S 74) 512 ((S 71 4) - 1)))]) [6, 5, 4, 2, 1, 0] rfl ?_
      refine t_T_unbulk_L81 M (Q := fun o => F_T_unbulk_L81 ((S 71 4) - 1) ((1 : Int32) + (zAt (S 73) 512 ((S 71 4) - 1))) ((zAt (S 74) 512 ((S 71 4) - 1)) + (zAt (S 75) 512 ((S 71 4) - 1))) (S 1 7) 1300 S (zAt (S 74) 512 ((S 71 4) - 1)) = o) ((S 71 4) - 1) ((1 : Int32) + (zAt (S 73) 512 ((S 71 4) - 1))) ((zAt (S 74) 512 ((S 71 4) - 1)) + (zAt (S 75) 512 ((S 71 4) - 1))) (S 1 7) (fun S81 hL81 => ?_) 1300 S (zAt (S 74) 512 ((S 71 4) - 1)) rfl hs.1
      replace hs := hs.2
      rw [hL81] at K
      try rw [hL81] at hs
      try dsimp only at K hs
      refine z_go2 M.1.1 207 [(.aload_n 0, 1), (.getfield 12, 3), (.getfield 118, 3), (.iload 5, 2), (.isub, 1), (.istore 6, 2), (.aload_n 0, 1), (.iload 5, 2)] (222, [(6, .inl ((S81 1 7) - (S 1 7))), (0, z_r 0), (1, .inl ((S 71 4) - 1)), (5, .inl (S 1 7))], [.inl (S 1 7), z_r 0], zW T' G' S81 n, 1, 6) (by decide +kernel) rfl ⟨trivial, rfl, rfl, trivial, trivial, trivial, trivial, trivial, trivial⟩ ?_
      refine z_callV M.1.1 (av := [.inl (S 1 7)]) (st := []) (a := 0) (ci := 11) (by decide +kernel) (c_T_isWithinLimit T' G' S81 n (S 1 7) hs.1) M.1.2.1 zl_T_125 zv_T_isWithinLimit rfl rfl rfl ⟨by decide, by decide, by decide, by decide⟩ rfl (Nat.le_of_ble_eq_true rfl) (fun v w' hv => ?_)
      replace hs := hs.2
      rcases hF222 : F_T_isWithinLimit S81 (S 1 7) with ⟨r222, S222⟩
      rw [hF222] at K hv
      try dsimp only at K
      obtain ⟨rfl, rfl⟩ := hv
      show z_G X zm_T_unbulk (225, [(6, .inl ((S81 1 7) - (S 1 7))), (0, z_r 0), (1, .inl ((S 71 4) - 1)), (5, .inl (S 1 7))], [.inl r222], zW T' G' S222 n, 1, 6)
      refine z_callSX M.1.1 (av := [.inl r222]) (st := []) (by decide +kernel) (c_mustBeAllowed T' G' S222 n r222) M.1.2.1 zl_T_128 (z_wi 847 (by decide +kernel) rfl) zs_T_mustBeAllowed ⟨by decide, by decide, by decide, by decide⟩ rfl (Nat.le_of_ble_eq_true rfl) (fun E w' hx => ?_) (fun v w' hv => ?_)
      · obtain ⟨h0, rfl, n2, hn2, rfl⟩ := hx
        rw [if_pos h0] at K
        exact M.2 _ _ (hX _ _ n2 hn2 K) (Nat.le_of_ble_eq_true rfl) (Nat.le_of_ble_eq_true rfl)
      · obtain ⟨h0, rfl, rfl⟩ := hv
        rw [if_neg h0] at K
        show z_G X zm_T_unbulk (228, [(6, .inl ((S81 1 7) - (S 1 7))), (0, z_r 0), (1, .inl ((S 71 4) - 1)), (5, .inl (S 1 7))], [], zW T' G' S222 n, 2, 12)
        refine z_go2 M.1.1 228 [(.aload_n 0, 1), (.getfield 79, 3), (.iload_n 1, 1), (.putfield 387, 3), (.iload 6, 2)] (238, [(6, .inl ((S81 1 7) - (S 1 7))), (0, z_r 0), (1, .inl ((S 71 4) - 1)), (5, .inl (S 1 7))], [.inl ((S81 1 7) - (S 1 7))], zW T' G' (z_uS S222 71 4 ((S 71 4) - 1)) n, 2, 12) (by decide +kernel) rfl ⟨trivial, rfl, trivial, ⟨rfl, trivial⟩, trivial, trivial⟩ ?_
        exact z_iret M.1 (by decide +kernel) .int rfl rfl (by decide) (by decide) (hQ _ _ K)

-- TrackHouse.unite
abbrev rm_T_unite : Room := zx 7 3
def F_T_unite_L46 (x1 : Int32) (x2 : Int32) (x3 : Int32) : Nat → (Nat → Nat → Int32) → Int32 → ((Nat → Nat → Int32))
  | 0, S, x4 => S
  | f + 1, S, x4 => (if (3 : Int32) ≤ x4 then S else (z_let (F_T_change S x2 (-1) 14 ((x2 * 3) + x4) ((F_World_rolesOf 9 S x1 x4) ||| (F_World_rolesOf 9 S x2 x4))) (fun S88 => ((F_T_unite_L46 x1 x2 x3 f) S88 (x4 + 1)))))
def Sf_T_unite_L46 (x1 : Int32) (x2 : Int32) (x3 : Int32) : Nat → (Nat → Nat → Int32) → Int32 → Prop
  | 0, _, _ => False
  | f + 1, S, x4 => (if (3 : Int32) ≤ x4 then True else (Sf_T_change S x2 (-1) 14 ((x2 * 3) + x4) ((F_World_rolesOf 9 S x1 x4) ||| (F_World_rolesOf 9 S x2 x4)) ∧ (z_let (F_T_change S x2 (-1) 14 ((x2 * 3) + x4) ((F_World_rolesOf 9 S x1 x4) ||| (F_World_rolesOf 9 S x2 x4))) (fun S88 => ((Sf_T_unite_L46 x1 x2 x3 f) S88 (x4 + 1))))))
theorem t_T_unite_L46 {X : z_X} {Post : Option z_V → z_W → Prop} {PX : String → z_W → Prop} (M : z_MX X zm_T_unite rm_T_unite Post PX) {T' : Nat → Nat × Nat} {G' : Nat → Nat → Option Nat} {n : Nat} {Q : ((Nat → Nat → Int32)) → Prop}  (x1 : Int32) (x2 : Int32) (x3 : Int32) (hE : ∀ (S' : (Nat → Nat → Int32)), Q S' → z_G X zm_T_unite (97, [(0, z_r 0), (1, .inl x1), (2, .inl x2), (3, .inl x3)], [], zW T' G' S' n, 2, 12)) (f : Nat) : ∀ (S : (Nat → Nat → Int32)) (x4 : Int32), Q (F_T_unite_L46 x1 x2 x3 f S x4) → Sf_T_unite_L46 x1 x2 x3 f S x4 → z_G X zm_T_unite (46, [(0, z_r 0), (1, .inl x1), (2, .inl x2), (3, .inl x3), (4, .inl x4)], [], zW T' G' S n, 2, 12) := by
  induction f with
  | zero => intro S x4 K hs; exact False.elim hs
  | succ f hC =>
    intro S x4 K hs
    rw [F_T_unite_L46] at K
    rw [Sf_T_unite_L46] at hs
    refine z_go2 M.1.1 46 [(.iload 4, 2), (.iconst 3, 1)] (49, [(0, z_r 0), (1, .inl x1), (2, .inl x2), (3, .inl x3), (4, .inl x4)], [.inl 3, .inl x4], zW T' G' S n, 2, 12) (by decide +kernel) rfl ⟨trivial, trivial, trivial⟩ ?_
    refine z_icmp_ge 97 M.1.1 (off := 48) (by decide +kernel) (by decide) (fun c49 => ?_) (fun c49 => ?_)
    · rw [if_pos c49] at K hs
      exact z_lvs (lv' := [(0, z_r 0), (1, .inl x1), (2, .inl x2), (3, .inl x3)]) [0, 1, 2, 3] rfl (hE S K)
    · rw [if_neg c49] at K hs
      refine z_go2 M.1.1 52 [(.aload_n 0, 1), (.getfield 19, 3), (.iload_n 1, 1), (.iload 4, 2)] (59, [(0, z_r 0), (1, .inl x1), (2, .inl x2), (3, .inl x3), (4, .inl x4)], [.inl x4, .inl x1, z_r 9], zW T' G' S n, 2, 12) (by decide +kernel) rfl ⟨trivial, rfl, trivial, trivial, trivial⟩ ?_
      refine z_callV M.1.1 (av := [.inl x1, .inl x4]) (st := []) (a := 9) (ci := 10) (by decide +kernel) (c_World_rolesOf_9 T' G' S n x1 x4) M.1.2.1 zl_T_114 zv_World_rolesOf rfl rfl rfl ⟨by decide, by decide, by decide, by decide⟩ rfl (Nat.le_of_ble_eq_true rfl) (fun v w' hv => ?_)
      obtain ⟨rfl, rfl⟩ := hv
      show z_G X zm_T_unite (62, [(0, z_r 0), (1, .inl x1), (2, .inl x2), (3, .inl x3), (4, .inl x4)], [.inl (F_World_rolesOf 9 S x1 x4)], zW T' G' S n, 2, 12)
      refine z_go2 M.1.1 62 [(.aload_n 0, 1), (.getfield 19, 3), (.iload_n 2, 1), (.iload 4, 2)] (69, [(0, z_r 0), (1, .inl x1), (2, .inl x2), (3, .inl x3), (4, .inl x4)], [.inl x4, .inl x2, z_r 9, .inl (F_World_rolesOf 9 S x1 x4)], zW T' G' S n, 2, 12) (by decide +kernel) rfl ⟨trivial, rfl, trivial, trivial, trivial⟩ ?_
      refine z_callV M.1.1 (av := [.inl x2, .inl x4]) (st := [.inl (F_World_rolesOf 9 S x1 x4)]) (a := 9) (ci := 10) (by decide +kernel) (c_World_rolesOf_9 T' G' S n x2 x4) M.1.2.1 zl_T_114 zv_World_rolesOf rfl rfl rfl ⟨by decide, by decide, by decide, by decide⟩ rfl (Nat.le_of_ble_eq_true rfl) (fun v w' hv => ?_)
      obtain ⟨rfl, rfl⟩ := hv
      show z_G X zm_T_unite (72, [(0, z_r 0), (1, .inl x1), (2, .inl x2), (3, .inl x3), (4, .inl x4)], [.inl (F_World_rolesOf 9 S x2 x4), .inl (F_World_rolesOf 9 S x1 x4)], zW T' G' S n, 2, 12)
      refine z_go2 M.1.1 72 [(.ior, 1), (.istore 5, 2), (.aload_n 0, 1), (.iload_n 2, 1), (.iconst (-1), 1), (.bipush 14, 2), (.iload_n 2, 1), (.iconst 3, 1), (.imul, 1), (.iload 4, 2), (.iadd, 1), (.iload 5, 2)] (88, [(5, .inl ((F_World_rolesOf 9 S x1 x4) ||| (F_World_rolesOf 9 S x2 x4))), (0, z_r 0), (1, .inl x1), (2, .inl x2), (3, .inl x3), (4, .inl x4)], [.inl ((F_World_rolesOf 9 S x1 x4) ||| (F_World_rolesOf 9 S x2 x4)), .inl ((x2 * 3) + x4), .inl 14, .inl (-1), .inl x2, z_r 0], zW T' G' S n, 2, 12) (by decide +kernel) rfl ⟨trivial, trivial, trivial, trivial, trivial, trivial, trivial, trivial, trivial, trivial, trivial, trivial, trivial⟩ ?_
      refine z_callV M.1.1 (av := [.inl x2, .inl (-1), .inl 14, .inl ((x2 * 3) + x4), .inl ((F_World_rolesOf 9 S x1 x4) ||| (F_World_rolesOf 9 S x2 x4))]) (st := []) (a := 0) (ci := 11) (by decide +kernel) (c_T_change T' G' S n x2 (-1) 14 ((x2 * 3) + x4) ((F_World_rolesOf 9 S x1 x4) ||| (F_World_rolesOf 9 S x2 x4)) hs.1) M.1.2.1 zl_T_121 zv_T_change rfl rfl rfl ⟨by decide, by decide, by decide, by decide⟩ rfl (Nat.le_of_ble_eq_true rfl) (fun v w' hv => ?_)
      replace hs := hs.2
      obtain ⟨S88, hF88⟩ : ∃ y, F_T_change S x2 (-1) 14 ((x2 * 3) + x4) ((F_World_rolesOf 9 S x1 x4) ||| (F_World_rolesOf 9 S x2 x4)) = y := ⟨_, rfl⟩
      rw [hF88] at K hv
      try rw [hF88] at hs
      try dsimp only [z_let] at K hs
      obtain ⟨rfl, rfl⟩ := hv
      show z_G X zm_T_unite (91, [(5, .inl ((F_World_rolesOf 9 S x1 x4) ||| (F_World_rolesOf 9 S x2 x4))), (0, z_r 0), (1, .inl x1), (2, .inl x2), (3, .inl x3), (4, .inl x4)], [], zW T' G' S88 n, 2, 12)
      refine z_go2 M.1.1 91 [(.iinc 4 1, 3), (.goto (-48), 3)] (46, [(4, .inl (x4 + 1)), (5, .inl ((F_World_rolesOf 9 S x1 x4) ||| (F_World_rolesOf 9 S x2 x4))), (0, z_r 0), (1, .inl x1), (2, .inl x2), (3, .inl x3)], [], zW T' G' S88 n, 2, 12) (by decide +kernel) rfl ⟨trivial, trivial, trivial⟩ ?_
      exact z_lvs (lv' := [(0, z_r 0), (1, .inl x1), (2, .inl x2), (3, .inl x3), (4, .inl (x4 + 1))]) [2, 3, 4, 5, 0] rfl (hC S88 (x4 + 1) K hs)
def F_T_unite_L103 (x1 : Int32) (x2 : Int32) (x3 : Int32) : Nat → (Nat → Nat → Int32) → Int32 → Int32 → (Int32 × (Nat → Nat → Int32))
  | 0, S, x4, x5 => (x4, S)
  | f + 1, S, x4, x5 => (if (30 : Int32) ≤ x5 then (x4, S) else (if (F_World_has 9 S x5) = 0 then ((F_T_unite_L103 x1 x2 x3 f) S x4 (x5 + 1)) else (if (F_World_cell 9 S x5 4) = x1 then (z_let (F_T_change S x2 x5 4 0 x2) (fun S143 => ((F_T_unite_L103 x1 x2 x3 f) S143 (x4 + 1) (x5 + 1)))) else ((F_T_unite_L103 x1 x2 x3 f) S x4 (x5 + 1)))))
def Sf_T_unite_L103 (x1 : Int32) (x2 : Int32) (x3 : Int32) : Nat → (Nat → Nat → Int32) → Int32 → Int32 → Prop
  | 0, _, _, _ => False
  | f + 1, S, x4, x5 => (if (30 : Int32) ≤ x5 then True else (if (F_World_has 9 S x5) = 0 then ((Sf_T_unite_L103 x1 x2 x3 f) S x4 (x5 + 1)) else (Sf_World_cell 9 S x5 4 ∧ (if (F_World_cell 9 S x5 4) = x1 then (Sf_T_change S x2 x5 4 0 x2 ∧ (z_let (F_T_change S x2 x5 4 0 x2) (fun S143 => ((Sf_T_unite_L103 x1 x2 x3 f) S143 (x4 + 1) (x5 + 1))))) else ((Sf_T_unite_L103 x1 x2 x3 f) S x4 (x5 + 1))))))
theorem t_T_unite_L103 {X : z_X} {Post : Option z_V → z_W → Prop} {PX : String → z_W → Prop} (M : z_MX X zm_T_unite rm_T_unite Post PX) {T' : Nat → Nat × Nat} {G' : Nat → Nat → Option Nat} {n : Nat} {Q : (Int32 × (Nat → Nat → Int32)) → Prop}  (x1 : Int32) (x2 : Int32) (x3 : Int32) (hE : ∀ (y4 : Int32) (S' : (Nat → Nat → Int32)), Q (y4, S') → z_G X zm_T_unite (155, [(0, z_r 0), (1, .inl x1), (2, .inl x2), (3, .inl x3), (4, .inl y4)], [], zW T' G' S' n, 2, 12)) (f : Nat) : ∀ (S : (Nat → Nat → Int32)) (x4 : Int32) (x5 : Int32), Q (F_T_unite_L103 x1 x2 x3 f S x4 x5) → Sf_T_unite_L103 x1 x2 x3 f S x4 x5 → z_G X zm_T_unite (103, [(0, z_r 0), (1, .inl x1), (2, .inl x2), (3, .inl x3), (4, .inl x4), (5, .inl x5)], [], zW T' G' S n, 2, 12) := by
  induction f with
  | zero => intro S x4 x5 K hs; exact False.elim hs
  | succ f hC =>
    intro S x4 x5 K hs
    rw [F_T_unite_L103] at K
    rw [Sf_T_unite_L103] at hs
    refine z_go2 M.1.1 103 [(.iload 5, 2), (.bipush 30, 2)] (107, [(0, z_r 0), (1, .inl x1), (2, .inl x2), (3, .inl x3), (4, .inl x4), (5, .inl x5)], [.inl 30, .inl x5], zW T' G' S n, 2, 12) (by decide +kernel) rfl ⟨trivial, trivial, trivial⟩ ?_
    refine z_icmp_ge 155 M.1.1 (off := 48) (by decide +kernel) (by decide) (fun c107 => ?_) (fun c107 => ?_)
    · rw [if_pos c107] at K hs
      exact z_lvs (lv' := [(0, z_r 0), (1, .inl x1), (2, .inl x2), (3, .inl x3), (4, .inl x4)]) [0, 1, 2, 3, 4] rfl (hE x4 S K)
    · rw [if_neg c107] at K hs
      refine z_go2 M.1.1 110 [(.aload_n 0, 1), (.getfield 19, 3), (.iload 5, 2)] (116, [(0, z_r 0), (1, .inl x1), (2, .inl x2), (3, .inl x3), (4, .inl x4), (5, .inl x5)], [.inl x5, z_r 9], zW T' G' S n, 2, 12) (by decide +kernel) rfl ⟨trivial, rfl, trivial, trivial⟩ ?_
      refine z_callV M.1.1 (av := [.inl x5]) (st := []) (a := 9) (ci := 10) (by decide +kernel) (c_World_has_9 T' G' S n x5) M.1.2.1 zl_T_210 zv_World_has rfl rfl rfl ⟨by decide, by decide, by decide, by decide⟩ rfl (Nat.le_of_ble_eq_true rfl) (fun v w' hv => ?_)
      obtain ⟨rfl, rfl⟩ := hv
      show z_G X zm_T_unite (119, [(0, z_r 0), (1, .inl x1), (2, .inl x2), (3, .inl x3), (4, .inl x4), (5, .inl x5)], [.inl (F_World_has 9 S x5)], zW T' G' S n, 2, 12)
      refine z_if_eq 149 M.1.1 (off := 30) (by decide +kernel) (by decide) (fun c119 => ?_) (fun c119 => ?_)
      · rw [if_pos c119] at K hs
        refine z_go2 M.1.1 149 [(.iinc 5 1, 3), (.goto (-49), 3)] (103, [(5, .inl (x5 + 1)), (0, z_r 0), (1, .inl x1), (2, .inl x2), (3, .inl x3), (4, .inl x4)], [], zW T' G' S n, 2, 12) (by decide +kernel) rfl ⟨trivial, trivial, trivial⟩ ?_
        exact z_lvs (lv' := [(0, z_r 0), (1, .inl x1), (2, .inl x2), (3, .inl x3), (4, .inl x4), (5, .inl (x5 + 1))]) [1, 2, 3, 4, 5, 0] rfl (hC S x4 (x5 + 1) K hs)
      · rw [if_neg c119] at K hs
        refine z_go2 M.1.1 122 [(.aload_n 0, 1), (.getfield 19, 3), (.iload 5, 2), (.iconst 4, 1)] (129, [(0, z_r 0), (1, .inl x1), (2, .inl x2), (3, .inl x3), (4, .inl x4), (5, .inl x5)], [.inl 4, .inl x5, z_r 9], zW T' G' S n, 2, 12) (by decide +kernel) rfl ⟨trivial, rfl, trivial, trivial, trivial⟩ ?_
        refine z_callV M.1.1 (av := [.inl x5, .inl 4]) (st := []) (a := 9) (ci := 10) (by decide +kernel) (c_World_cell_9 T' G' S n x5 4 hs.1) M.1.2.1 zl_T_207 zv_World_cell rfl rfl rfl ⟨by decide, by decide, by decide, by decide⟩ rfl (Nat.le_of_ble_eq_true rfl) (fun v w' hv => ?_)
        obtain ⟨rfl, rfl⟩ := hv
        replace hs := hs.2
        show z_G X zm_T_unite (132, [(0, z_r 0), (1, .inl x1), (2, .inl x2), (3, .inl x3), (4, .inl x4), (5, .inl x5)], [.inl (F_World_cell 9 S x5 4)], zW T' G' S n, 2, 12)
        refine z_go2 M.1.1 132 [(.iload_n 1, 1)] (133, [(0, z_r 0), (1, .inl x1), (2, .inl x2), (3, .inl x3), (4, .inl x4), (5, .inl x5)], [.inl x1, .inl (F_World_cell 9 S x5 4)], zW T' G' S n, 2, 12) (by decide +kernel) rfl ⟨trivial, trivial⟩ ?_
        refine z_icmp_ne 149 M.1.1 (off := 16) (by decide +kernel) (by decide) (fun c133 => ?_) (fun c133 => ?_)
        · rw [if_neg c133] at K hs
          refine z_go2 M.1.1 149 [(.iinc 5 1, 3), (.goto (-49), 3)] (103, [(5, .inl (x5 + 1)), (0, z_r 0), (1, .inl x1), (2, .inl x2), (3, .inl x3), (4, .inl x4)], [], zW T' G' S n, 2, 12) (by decide +kernel) rfl ⟨trivial, trivial, trivial⟩ ?_
          exact z_lvs (lv' := [(0, z_r 0), (1, .inl x1), (2, .inl x2), (3, .inl x3), (4, .inl x4), (5, .inl (x5 + 1))]) [1, 2, 3, 4, 5, 0] rfl (hC S x4 (x5 + 1) K hs)
        · rw [if_pos c133] at K hs
          refine z_go2 M.1.1 136 [(.aload_n 0, 1), (.iload_n 2, 1), (.iload 5, 2), (.iconst 4, 1), (.iconst 0, 1), (.iload_n 2, 1)] (143, [(0, z_r 0), (1, .inl x1), (2, .inl x2), (3, .inl x3), (4, .inl x4), (5, .inl x5)], [.inl x2, .inl 0, .inl 4, .inl x5, .inl x2, z_r 0], zW T' G' S n, 2, 12) (by decide +kernel) rfl ⟨trivial, trivial, trivial, trivial, trivial, trivial, trivial⟩ ?_
          refine z_callV M.1.1 (av := [.inl x2, .inl x5, .inl 4, .inl 0, .inl x2]) (st := []) (a := 0) (ci := 11) (by decide +kernel) (c_T_change T' G' S n x2 x5 4 0 x2 hs.1) M.1.2.1 zl_T_121 zv_T_change rfl rfl rfl ⟨by decide, by decide, by decide, by decide⟩ rfl (Nat.le_of_ble_eq_true rfl) (fun v w' hv => ?_)
          replace hs := hs.2
          obtain ⟨S143, hF143⟩ : ∃ y, F_T_change S x2 x5 4 0 x2 = y := ⟨_, rfl⟩
          rw [hF143] at K hv
          try rw [hF143] at hs
          try dsimp only [z_let] at K hs
          obtain ⟨rfl, rfl⟩ := hv
          show z_G X zm_T_unite (146, [(0, z_r 0), (1, .inl x1), (2, .inl x2), (3, .inl x3), (4, .inl x4), (5, .inl x5)], [], zW T' G' S143 n, 2, 12)
          refine z_go2 M.1.1 146 [(.iinc 4 1, 3), (.iinc 5 1, 3), (.goto (-49), 3)] (103, [(5, .inl (x5 + 1)), (4, .inl (x4 + 1)), (0, z_r 0), (1, .inl x1), (2, .inl x2), (3, .inl x3)], [], zW T' G' S143 n, 2, 12) (by decide +kernel) rfl ⟨trivial, trivial, trivial, trivial⟩ ?_
          exact z_lvs (lv' := [(0, z_r 0), (1, .inl x1), (2, .inl x2), (3, .inl x3), (4, .inl (x4 + 1)), (5, .inl (x5 + 1))]) [2, 3, 4, 5, 1, 0] rfl (hC S143 (x4 + 1) (x5 + 1) K hs)
def F_T_unite_L158 (x1 : Int32) (x2 : Int32) (x3 : Int32) (x4 : Int32) : Nat → (Nat → Nat → Int32) → Int32 → ((Nat → Nat → Int32))
  | 0, S, x5 => S
  | f + 1, S, x5 => (if (3 : Int32) ≤ x5 then S else (z_let (F_T_change S x2 (-1) 14 ((x1 * 3) + x5) 0) (fun S176 => ((F_T_unite_L158 x1 x2 x3 x4 f) S176 (x5 + 1)))))
def Sf_T_unite_L158 (x1 : Int32) (x2 : Int32) (x3 : Int32) (x4 : Int32) : Nat → (Nat → Nat → Int32) → Int32 → Prop
  | 0, _, _ => False
  | f + 1, S, x5 => (if (3 : Int32) ≤ x5 then True else (Sf_T_change S x2 (-1) 14 ((x1 * 3) + x5) 0 ∧ (z_let (F_T_change S x2 (-1) 14 ((x1 * 3) + x5) 0) (fun S176 => ((Sf_T_unite_L158 x1 x2 x3 x4 f) S176 (x5 + 1))))))
theorem t_T_unite_L158 {X : z_X} {Post : Option z_V → z_W → Prop} {PX : String → z_W → Prop} (M : z_MX X zm_T_unite rm_T_unite Post PX) {T' : Nat → Nat × Nat} {G' : Nat → Nat → Option Nat} {n : Nat} {Q : ((Nat → Nat → Int32)) → Prop}  (x1 : Int32) (x2 : Int32) (x3 : Int32) (x4 : Int32) (hE : ∀ (S' : (Nat → Nat → Int32)), Q S' → z_G X zm_T_unite (185, [(0, z_r 0), (1, .inl x1), (2, .inl x2), (3, .inl x3), (4, .inl x4)], [], zW T' G' S' n, 2, 12)) (f : Nat) : ∀ (S : (Nat → Nat → Int32)) (x5 : Int32), Q (F_T_unite_L158 x1 x2 x3 x4 f S x5) → Sf_T_unite_L158 x1 x2 x3 x4 f S x5 → z_G X zm_T_unite (158, [(0, z_r 0), (1, .inl x1), (2, .inl x2), (3, .inl x3), (4, .inl x4), (5, .inl x5)], [], zW T' G' S n, 2, 12) := by
  induction f with
  | zero => intro S x5 K hs; exact False.elim hs
  | succ f hC =>
    intro S x5 K hs
    rw [F_T_unite_L158] at K
    rw [Sf_T_unite_L158] at hs
    refine z_go2 M.1.1 158 [(.iload 5, 2), (.iconst 3, 1)] (161, [(0, z_r 0), (1, .inl x1), (2, .inl x2), (3, .inl x3), (4, .inl x4), (5, .inl x5)], [.inl 3, .inl x5], zW T' G' S n, 2, 12) (by decide +kernel) rfl ⟨trivial, trivial, trivial⟩ ?_
    refine z_icmp_ge 185 M.1.1 (off := 24) (by decide +kernel) (by decide) (fun c161 => ?_) (fun c161 => ?_)
    · rw [if_pos c161] at K hs
      exact z_lvs (lv' := [(0, z_r 0), (1, .inl x1), (2, .inl x2), (3, .inl x3), (4, .inl x4)]) [0, 1, 2, 3, 4] rfl (hE S K)
    · rw [if_neg c161] at K hs
      refine z_go2 M.1.1 164 [(.aload_n 0, 1), (.iload_n 2, 1), (.iconst (-1), 1), (.bipush 14, 2), (.iload_n 1, 1), (.iconst 3, 1), (.imul, 1), (.iload 5, 2), (.iadd, 1), (.iconst 0, 1)] (176, [(0, z_r 0), (1, .inl x1), (2, .inl x2), (3, .inl x3), (4, .inl x4), (5, .inl x5)], [.inl 0, .inl ((x1 * 3) + x5), .inl 14, .inl (-1), .inl x2, z_r 0], zW T' G' S n, 2, 12) (by decide +kernel) rfl ⟨trivial, trivial, trivial, trivial, trivial, trivial, trivial, trivial, trivial, trivial, trivial⟩ ?_
      refine z_callV M.1.1 (av := [.inl x2, .inl (-1), .inl 14, .inl ((x1 * 3) + x5), .inl 0]) (st := []) (a := 0) (ci := 11) (by decide +kernel) (c_T_change T' G' S n x2 (-1) 14 ((x1 * 3) + x5) 0 hs.1) M.1.2.1 zl_T_121 zv_T_change rfl rfl rfl ⟨by decide, by decide, by decide, by decide⟩ rfl (Nat.le_of_ble_eq_true rfl) (fun v w' hv => ?_)
      replace hs := hs.2
      obtain ⟨S176, hF176⟩ : ∃ y, F_T_change S x2 (-1) 14 ((x1 * 3) + x5) 0 = y := ⟨_, rfl⟩
      rw [hF176] at K hv
      try rw [hF176] at hs
      try dsimp only [z_let] at K hs
      obtain ⟨rfl, rfl⟩ := hv
      show z_G X zm_T_unite (179, [(0, z_r 0), (1, .inl x1), (2, .inl x2), (3, .inl x3), (4, .inl x4), (5, .inl x5)], [], zW T' G' S176 n, 2, 12)
      refine z_go2 M.1.1 179 [(.iinc 5 1, 3), (.goto (-24), 3)] (158, [(5, .inl (x5 + 1)), (0, z_r 0), (1, .inl x1), (2, .inl x2), (3, .inl x3), (4, .inl x4)], [], zW T' G' S176 n, 2, 12) (by decide +kernel) rfl ⟨trivial, trivial, trivial⟩ ?_
      exact z_lvs (lv' := [(0, z_r 0), (1, .inl x1), (2, .inl x2), (3, .inl x3), (4, .inl x4), (5, .inl (x5 + 1))]) [1, 2, 3, 4, 5, 0] rfl (hC S176 (x5 + 1) K hs)
def F_T_unite (S : (Nat → Nat → Int32)) (p1 : Int32) (p2 : Int32) : ((String ⊕ Int32) × (Nat → Nat → Int32)) := (if (F_T_isPerson S p1) = 0 then (.inl "java/lang/IndexOutOfBoundsException", S) else (if (F_T_isPerson S p2) = 0 then (.inl "java/lang/IndexOutOfBoundsException", S) else (if p1 = p2 then (.inl "java/lang/IllegalArgumentException", S) else (match F_T_unite_L46 p1 p2 (S 1 7) 1300 S 0 with | S46 => (match F_T_unite_L103 p1 p2 (S 1 7) 1300 S46 0 0 with | (y4_103, S103) => (match F_T_unite_L158 p1 p2 (S 1 7) y4_103 1300 S103 0 with | S158 => (match F_T_isWithinLimit S158 (S 1 7) with | (r187, S187) => (if r187 = 0 then (.inl "java/lang/IllegalStateException", S187) else (z_let (zPut S187 76 8 p2 ((zAt (S187 76) 8 p2) ||| (zAt (S187 76) 8 p1))) (fun S215 => (.inr y4_103, S215)))))))))))
def Sf_T_unite (S : (Nat → Nat → Int32)) (p1 : Int32) (p2 : Int32) : Prop := (if (F_T_isPerson S p1) = 0 then True else (if (F_T_isPerson S p2) = 0 then True else (if p1 = p2 then True else (Sf_T_unite_L46 p1 p2 (S 1 7) 1300 S 0 ∧ (match F_T_unite_L46 p1 p2 (S 1 7) 1300 S 0 with | S46 => (Sf_T_unite_L103 p1 p2 (S 1 7) 1300 S46 0 0 ∧ (match F_T_unite_L103 p1 p2 (S 1 7) 1300 S46 0 0 with | (y4_103, S103) => (Sf_T_unite_L158 p1 p2 (S 1 7) y4_103 1300 S103 0 ∧ (match F_T_unite_L158 p1 p2 (S 1 7) y4_103 1300 S103 0 with | S158 => (Sf_T_isWithinLimit S158 (S 1 7) ∧ True))))))))))
theorem c_T_unite (T' : Nat → Nat × Nat) (G' : Nat → Nat → Option Nat) (S : (Nat → Nat → Int32)) (n : Nat) (p1 : Int32) (p2 : Int32) (hs : Sf_T_unite S p1 p2) : z_RunX rm_T_unite zm_T_unite [z_r 0, .inl p1, .inl p2] (zW T' G' S n) (fun v w' => ∃ x S', F_T_unite S p1 p2 = (.inr x, S') ∧ v = some (.inl x) ∧ w' = zW T' G' S' n) (fun E w' => ∃ S' n2, n ≤ n2 ∧ F_T_unite S p1 p2 = (.inl E, S') ∧ w' = zW T' G' S' n2) := by
  refine z_bodyX (by decide) zf_T_ok (Nat.le_of_ble_eq_true rfl) (fun X M => ?_)
  obtain ⟨Q, hQ, hX, K⟩ : ∃ Q : ((String ⊕ Int32) × (Nat → Nat → Int32)) → Prop, (∀ v S', Q (.inr v, S') → ∃ x S'', F_T_unite S p1 p2 = (.inr x, S'') ∧ some (.inl v : z_V) = some (.inl x) ∧ zW T' G' S' n = zW T' G' S'' n) ∧ (∀ E S' (n2 : Nat), n ≤ n2 → Q (.inl E, S') → ∃ S'' n3, n ≤ n3 ∧ F_T_unite S p1 p2 = (.inl E, S'') ∧ zW T' G' S' n2 = zW T' G' S'' n3) ∧ Q (F_T_unite S p1 p2) := ⟨fun o => F_T_unite S p1 p2 = o, fun v S' h => ⟨v, S', h, rfl, rfl⟩, fun E S' n2 hn h => ⟨S', n2, hn, h, rfl⟩, rfl⟩
  show z_G X zm_T_unite (0, [(0, z_r 0), (1, .inl p1), (2, .inl p2)], [], zW T' G' S n, 0, 0)
  unfold F_T_unite at K
  unfold Sf_T_unite at hs
  refine z_go2 M.1.1 0 [(.iload_n 1, 1)] (1, [(0, z_r 0), (1, .inl p1), (2, .inl p2)], [.inl p1], zW T' G' S n, 0, 0) (by decide +kernel) rfl ⟨trivial, trivial⟩ ?_
  refine z_callS M.1.1 (av := [.inl p1]) (st := []) (by decide +kernel) (c_T_isPerson T' G' S n p1) M.1.2.1 zl_T_97 zs_T_isPerson ⟨by decide, by decide, by decide, by decide⟩ rfl (Nat.le_of_ble_eq_true rfl) (fun v w' hv => ?_)
  obtain ⟨rfl, rfl⟩ := hv
  show z_G X zm_T_unite (4, [(0, z_r 0), (1, .inl p1), (2, .inl p2)], [.inl (F_T_isPerson S p1)], zW T' G' S n, 0, 0)
  refine z_if_eq 18 M.1.1 (off := 14) (by decide +kernel) (by decide) (fun c4 => ?_) (fun c4 => ?_)
  · rw [if_pos c4] at K hs
    refine z_go2 M.1.1 18 [(.iconst 0, 1)] (19, [(0, z_r 0), (1, .inl p1), (2, .inl p2)], [.inl 0], zW T' G' S n, 0, 0) (by decide +kernel) rfl ⟨trivial, trivial⟩ ?_
    refine z_callSX M.1.1 (av := [.inl 0]) (st := []) (by decide +kernel) (c_mustExist T' G' S n 0) M.1.2.1 zl_T_104 (z_wi 698 (by decide +kernel) rfl) zs_T_mustExist ⟨by decide, by decide, by decide, by decide⟩ rfl (Nat.le_of_ble_eq_true rfl) (fun E w' hx => ?_) (fun v w' hv => ?_)
    · obtain ⟨h0, rfl, n2, hn2, rfl⟩ := hx
      exact M.2 _ _ (hX _ _ n2 hn2 K) (Nat.le_of_ble_eq_true rfl) (Nat.le_of_ble_eq_true rfl)
    · obtain ⟨h0, rfl, rfl⟩ := hv
      exact absurd rfl h0
  · rw [if_neg c4] at K hs
    refine z_go2 M.1.1 7 [(.iload_n 2, 1)] (8, [(0, z_r 0), (1, .inl p1), (2, .inl p2)], [.inl p2], zW T' G' S n, 0, 0) (by decide +kernel) rfl ⟨trivial, trivial⟩ ?_
    refine z_callS M.1.1 (av := [.inl p2]) (st := []) (by decide +kernel) (c_T_isPerson T' G' S n p2) M.1.2.1 zl_T_97 zs_T_isPerson ⟨by decide, by decide, by decide, by decide⟩ rfl (Nat.le_of_ble_eq_true rfl) (fun v w' hv => ?_)
    obtain ⟨rfl, rfl⟩ := hv
    show z_G X zm_T_unite (11, [(0, z_r 0), (1, .inl p1), (2, .inl p2)], [.inl (F_T_isPerson S p2)], zW T' G' S n, 0, 0)
    refine z_if_eq 18 M.1.1 (off := 7) (by decide +kernel) (by decide) (fun c11 => ?_) (fun c11 => ?_)
    · rw [if_pos c11] at K hs
      refine z_go2 M.1.1 18 [(.iconst 0, 1)] (19, [(0, z_r 0), (1, .inl p1), (2, .inl p2)], [.inl 0], zW T' G' S n, 0, 0) (by decide +kernel) rfl ⟨trivial, trivial⟩ ?_
      refine z_callSX M.1.1 (av := [.inl 0]) (st := []) (by decide +kernel) (c_mustExist T' G' S n 0) M.1.2.1 zl_T_104 (z_wi 698 (by decide +kernel) rfl) zs_T_mustExist ⟨by decide, by decide, by decide, by decide⟩ rfl (Nat.le_of_ble_eq_true rfl) (fun E w' hx => ?_) (fun v w' hv => ?_)
      · obtain ⟨h0, rfl, n2, hn2, rfl⟩ := hx
        exact M.2 _ _ (hX _ _ n2 hn2 K) (Nat.le_of_ble_eq_true rfl) (Nat.le_of_ble_eq_true rfl)
      · obtain ⟨h0, rfl, rfl⟩ := hv
        exact absurd rfl h0
    · rw [if_neg c11] at K hs
      refine z_go2 M.1.1 14 [(.iconst 1, 1), (.goto 4, 3)] (19, [(0, z_r 0), (1, .inl p1), (2, .inl p2)], [.inl 1], zW T' G' S n, 0, 0) (by decide +kernel) rfl ⟨trivial, trivial, trivial⟩ ?_
      refine z_callSX M.1.1 (av := [.inl 1]) (st := []) (by decide +kernel) (c_mustExist T' G' S n 1) M.1.2.1 zl_T_104 (z_wi 698 (by decide +kernel) rfl) zs_T_mustExist ⟨by decide, by decide, by decide, by decide⟩ rfl (Nat.le_of_ble_eq_true rfl) (fun E w' hx => ?_) (fun v w' hv => ?_)
      · obtain ⟨h0, rfl, n2, hn2, rfl⟩ := hx
        exact absurd h0 (by decide)
      · obtain ⟨h0, rfl, rfl⟩ := hv
        show z_G X zm_T_unite (22, [(0, z_r 0), (1, .inl p1), (2, .inl p2)], [], zW T' G' S n, 1, 6)
        refine z_go2 M.1.1 22 [(.iload_n 1, 1), (.iload_n 2, 1)] (24, [(0, z_r 0), (1, .inl p1), (2, .inl p2)], [.inl p2, .inl p1], zW T' G' S n, 1, 6) (by decide +kernel) rfl ⟨trivial, trivial, trivial⟩ ?_
        refine z_icmp_eq 31 M.1.1 (off := 7) (by decide +kernel) (by decide) (fun c24 => ?_) (fun c24 => ?_)
        · rw [if_pos c24] at K hs
          refine z_go2 M.1.1 31 [(.iconst 0, 1)] (32, [(0, z_r 0), (1, .inl p1), (2, .inl p2)], [.inl 0], zW T' G' S n, 1, 6) (by decide +kernel) rfl ⟨trivial, trivial⟩ ?_
          refine z_callSX M.1.1 (av := [.inl 0]) (st := []) (by decide +kernel) (c_mustFit T' G' S n 0) M.1.2.1 zl_T_111 (z_wi 772 (by decide +kernel) rfl) zs_T_mustFit ⟨by decide, by decide, by decide, by decide⟩ rfl (Nat.le_of_ble_eq_true rfl) (fun E w' hx => ?_) (fun v w' hv => ?_)
          · obtain ⟨h0, rfl, n2, hn2, rfl⟩ := hx
            exact M.2 _ _ (hX _ _ n2 hn2 K) (Nat.le_of_ble_eq_true rfl) (Nat.le_of_ble_eq_true rfl)
          · obtain ⟨h0, rfl, rfl⟩ := hv
            exact absurd rfl h0
        · rw [if_neg c24] at K hs
          refine z_go2 M.1.1 27 [(.iconst 1, 1), (.goto 4, 3)] (32, [(0, z_r 0), (1, .inl p1), (2, .inl p2)], [.inl 1], zW T' G' S n, 1, 6) (by decide +kernel) rfl ⟨trivial, trivial, trivial⟩ ?_
          refine z_callSX M.1.1 (av := [.inl 1]) (st := []) (by decide +kernel) (c_mustFit T' G' S n 1) M.1.2.1 zl_T_111 (z_wi 772 (by decide +kernel) rfl) zs_T_mustFit ⟨by decide, by decide, by decide, by decide⟩ rfl (Nat.le_of_ble_eq_true rfl) (fun E w' hx => ?_) (fun v w' hv => ?_)
          · obtain ⟨h0, rfl, n2, hn2, rfl⟩ := hx
            exact absurd h0 (by decide)
          · obtain ⟨h0, rfl, rfl⟩ := hv
            show z_G X zm_T_unite (35, [(0, z_r 0), (1, .inl p1), (2, .inl p2)], [], zW T' G' S n, 2, 12)
            refine z_go2 M.1.1 35 [(.aload_n 0, 1), (.getfield 12, 3), (.getfield 118, 3), (.istore_n 3, 1), (.iconst 0, 1), (.istore 4, 2)] (46, [(4, .inl 0), (3, .inl (S 1 7)), (0, z_r 0), (1, .inl p1), (2, .inl p2)], [], zW T' G' S n, 2, 12) (by decide +kernel) rfl ⟨trivial, rfl, rfl, trivial, trivial, trivial, trivial⟩ ?_
            refine z_lvs (lv' := [(0, z_r 0), (1, .inl p1), (2, .inl p2), (3, .inl (S 1 7)), (4, .inl 0)]) [2, 3, 4, 1, 0] rfl ?_
            refine t_T_unite_L46 M (Q := fun o => F_T_unite_L46 p1 p2 (S 1 7) 1300 S 0 = o) p1 p2 (S 1 7) (fun S46 hL46 => ?_) 1300 S 0 rfl hs.1
            replace hs := hs.2
            rw [hL46] at K
            try rw [hL46] at hs
            try dsimp only at K hs
            refine z_go2 M.1.1 97 [(.iconst 0, 1), (.istore 4, 2), (.iconst 0, 1), (.istore 5, 2)] (103, [(5, .inl 0), (4, .inl 0), (0, z_r 0), (1, .inl p1), (2, .inl p2), (3, .inl (S 1 7))], [], zW T' G' S46 n, 2, 12) (by decide +kernel) rfl ⟨trivial, trivial, trivial, trivial, trivial⟩ ?_
            refine z_lvs (lv' := [(0, z_r 0), (1, .inl p1), (2, .inl p2), (3, .inl (S 1 7)), (4, .inl 0), (5, .inl 0)]) [2, 3, 4, 5, 1, 0] rfl ?_
            refine t_T_unite_L103 M (Q := fun o => F_T_unite_L103 p1 p2 (S 1 7) 1300 S46 0 0 = o) p1 p2 (S 1 7) (fun y4_103 S103 hL103 => ?_) 1300 S46 0 0 rfl hs.1
            replace hs := hs.2
            rw [hL103] at K
            try rw [hL103] at hs
            try dsimp only at K hs
            refine z_go2 M.1.1 155 [(.iconst 0, 1), (.istore 5, 2)] (158, [(5, .inl 0), (0, z_r 0), (1, .inl p1), (2, .inl p2), (3, .inl (S 1 7)), (4, .inl y4_103)], [], zW T' G' S103 n, 2, 12) (by decide +kernel) rfl ⟨trivial, trivial, trivial⟩ ?_
            refine z_lvs (lv' := [(0, z_r 0), (1, .inl p1), (2, .inl p2), (3, .inl (S 1 7)), (4, .inl y4_103), (5, .inl 0)]) [1, 2, 3, 4, 5, 0] rfl ?_
            refine t_T_unite_L158 M (Q := fun o => F_T_unite_L158 p1 p2 (S 1 7) y4_103 1300 S103 0 = o) p1 p2 (S 1 7) y4_103 (fun S158 hL158 => ?_) 1300 S103 0 rfl hs.1
            replace hs := hs.2
            rw [hL158] at K
            try rw [hL158] at hs
            try dsimp only at K hs
            refine z_go2 M.1.1 185 [(.aload_n 0, 1), (.iload_n 3, 1)] (187, [(0, z_r 0), (1, .inl p1), (2, .inl p2), (3, .inl (S 1 7)), (4, .inl y4_103)], [.inl (S 1 7), z_r 0], zW T' G' S158 n, 2, 12) (by decide +kernel) rfl ⟨trivial, trivial, trivial⟩ ?_
            refine z_callV M.1.1 (av := [.inl (S 1 7)]) (st := []) (a := 0) (ci := 11) (by decide +kernel) (c_T_isWithinLimit T' G' S158 n (S 1 7) hs.1) M.1.2.1 zl_T_125 zv_T_isWithinLimit rfl rfl rfl ⟨by decide, by decide, by decide, by decide⟩ rfl (Nat.le_of_ble_eq_true rfl) (fun v w' hv => ?_)
            replace hs := hs.2
            rcases hF187 : F_T_isWithinLimit S158 (S 1 7) with ⟨r187, S187⟩
            rw [hF187] at K hv
            try dsimp only at K
            obtain ⟨rfl, rfl⟩ := hv
            show z_G X zm_T_unite (190, [(0, z_r 0), (1, .inl p1), (2, .inl p2), (3, .inl (S 1 7)), (4, .inl y4_103)], [.inl r187], zW T' G' S187 n, 2, 12)
            refine z_callSX M.1.1 (av := [.inl r187]) (st := []) (by decide +kernel) (c_mustBeAllowed T' G' S187 n r187) M.1.2.1 zl_T_128 (z_wi 847 (by decide +kernel) rfl) zs_T_mustBeAllowed ⟨by decide, by decide, by decide, by decide⟩ rfl (Nat.le_of_ble_eq_true rfl) (fun E w' hx => ?_) (fun v w' hv => ?_)
            · obtain ⟨h0, rfl, n2, hn2, rfl⟩ := hx
              rw [if_pos h0] at K
              exact M.2 _ _ (hX _ _ n2 hn2 K) (Nat.le_of_ble_eq_true rfl) (Nat.le_of_ble_eq_true rfl)
            · obtain ⟨h0, rfl, rfl⟩ := hv
              rw [if_neg h0] at K
              show z_G X zm_T_unite (193, [(0, z_r 0), (1, .inl p1), (2, .inl p2), (3, .inl (S 1 7)), (4, .inl y4_103)], [], zW T' G' S187 n, 3, 18)
              refine z_go2 M.1.1 193 [(.aload_n 0, 1), (.getfield 83, 3), (.iload_n 2, 1), (.aload_n 0, 1), (.getfield 83, 3), (.iload_n 2, 1)] (203, [(0, z_r 0), (1, .inl p1), (2, .inl p2), (3, .inl (S 1 7)), (4, .inl y4_103)], [.inl p2, z_r 76, .inl p2, z_r 76], zW T' G' S187 n, 3, 18) (by decide +kernel) rfl ⟨trivial, rfl, trivial, trivial, rfl, trivial, trivial⟩ ?_
              refine z_callS M.1.1 (av := [z_r 76, .inl p2]) (st := [.inl p2, z_r 76]) (by decide +kernel) (c_at (zW T' G' S187 n) 76 8 rfl (by decide) p2) M.1.2.1 zl_T_134 zs_T_at ⟨by decide, by decide, by decide, by decide⟩ rfl (Nat.le_of_ble_eq_true rfl) (fun v w' hv => ?_)
              obtain ⟨rfl, rfl⟩ := hv
              show z_G X zm_T_unite (206, [(0, z_r 0), (1, .inl p1), (2, .inl p2), (3, .inl (S 1 7)), (4, .inl y4_103)], [.inl (zAt (S187 76) 8 p2), .inl p2, z_r 76], zW T' G' S187 n, 3, 18)
              refine z_go2 M.1.1 206 [(.aload_n 0, 1), (.getfield 83, 3), (.iload_n 1, 1)] (211, [(0, z_r 0), (1, .inl p1), (2, .inl p2), (3, .inl (S 1 7)), (4, .inl y4_103)], [.inl p1, z_r 76, .inl (zAt (S187 76) 8 p2), .inl p2, z_r 76], zW T' G' S187 n, 3, 18) (by decide +kernel) rfl ⟨trivial, rfl, trivial, trivial⟩ ?_
              refine z_callS M.1.1 (av := [z_r 76, .inl p1]) (st := [.inl (zAt (S187 76) 8 p2), .inl p2, z_r 76]) (by decide +kernel) (c_at (zW T' G' S187 n) 76 8 rfl (by decide) p1) M.1.2.1 zl_T_134 zs_T_at ⟨by decide, by decide, by decide, by decide⟩ rfl (Nat.le_of_ble_eq_true rfl) (fun v w' hv => ?_)
              obtain ⟨rfl, rfl⟩ := hv
              show z_G X zm_T_unite (214, [(0, z_r 0), (1, .inl p1), (2, .inl p2), (3, .inl (S 1 7)), (4, .inl y4_103)], [.inl (zAt (S187 76) 8 p1), .inl (zAt (S187 76) 8 p2), .inl p2, z_r 76], zW T' G' S187 n, 3, 18)
              refine z_go2 M.1.1 214 [(.ior, 1)] (215, [(0, z_r 0), (1, .inl p1), (2, .inl p2), (3, .inl (S 1 7)), (4, .inl y4_103)], [.inl ((zAt (S187 76) 8 p2) ||| (zAt (S187 76) 8 p1)), .inl p2, z_r 76], zW T' G' S187 n, 3, 18) (by decide +kernel) rfl ⟨trivial, trivial⟩ ?_
              refine z_callS M.1.1 (av := [z_r 76, .inl p2, .inl ((zAt (S187 76) 8 p2) ||| (zAt (S187 76) 8 p1))]) (st := []) (by decide +kernel) (c_put (zW T' G' S187 n) 76 8 rfl (by decide) p2 ((zAt (S187 76) 8 p2) ||| (zAt (S187 76) 8 p1))) M.1.2.1 zl_T_141 zs_T_put ⟨by decide, by decide, by decide, by decide⟩ rfl (Nat.le_of_ble_eq_true rfl) (fun v w' hv => ?_)
              obtain ⟨S215, hF215⟩ : ∃ y, zPut S187 76 8 p2 ((zAt (S187 76) 8 p2) ||| (zAt (S187 76) 8 p1)) = y := ⟨_, rfl⟩
              replace hv : v = none ∧ w' = zW T' G' (zPut S187 76 8 p2 ((zAt (S187 76) 8 p2) ||| (zAt (S187 76) 8 p1))) n := hv
              rw [hF215] at K hv
              try dsimp only [z_let] at K
              obtain ⟨rfl, rfl⟩ := hv
              show z_G X zm_T_unite (218, [(0, z_r 0), (1, .inl p1), (2, .inl p2), (3, .inl (S 1 7)), (4, .inl y4_103)], [], zW T' G' S215 n, 3, 18)
              refine z_go2 M.1.1 218 [(.iload 4, 2)] (220, [(0, z_r 0), (1, .inl p1), (2, .inl p2), (3, .inl (S 1 7)), (4, .inl y4_103)], [.inl y4_103], zW T' G' S215 n, 3, 18) (by decide +kernel) rfl ⟨trivial, trivial⟩ ?_
              exact z_iret M.1 (by decide +kernel) .int rfl rfl (by decide) (by decide) (hQ _ _ K)

-- TrackHouse.watch
abbrev rm_T_watch : Room := zx 7 1
def F_T_watch (S : (Nat → Nat → Int32)) (p1 : Int32) (p2 : Int32) : ((String ⊕ Int32) × (Nat → Nat → Int32)) := (if (F_T_isPerson S p1) = 0 then (.inl "java/lang/IndexOutOfBoundsException", S) else (match F_T_isSeen S p1 p2 with | (r10, S10) => (if r10 = 0 then (.inl "java/lang/IndexOutOfBoundsException", S10) else (z_let (zPut S10 76 8 p1 ((zAt (S10 76) 8 p1) ^^^ (F_T_bit S10 p2))) (fun S42 => (.inr (F_T_isIn S42 (zAt (S42 76) 8 p1) p2), S42))))))
def Sf_T_watch (S : (Nat → Nat → Int32)) (p1 : Int32) (p2 : Int32) : Prop := (if (F_T_isPerson S p1) = 0 then True else (Sf_T_isSeen S p1 p2 ∧ (match F_T_isSeen S p1 p2 with | (r10, S10) => (if r10 = 0 then True else (z_let (zPut S10 76 8 p1 ((zAt (S10 76) 8 p1) ^^^ (F_T_bit S10 p2))) (fun S42 => (narrow .boolean (.int (F_T_isIn S42 (zAt (S42 76) 8 p1) p2)) = .int (F_T_isIn S42 (zAt (S42 76) 8 p1) p2) ∧ True)))))))
theorem c_T_watch (T' : Nat → Nat × Nat) (G' : Nat → Nat → Option Nat) (q0 : Nat) (S : (Nat → Nat → Int32)) (n : Nat) (p1 : Int32) (p2 : Int32) (hs : Sf_T_watch S p1 p2) : z_RunX rm_T_watch zm_T_watch [z_r 0, .inl p1, .inl p2] (zW T' (zwG G' q0) S n) (fun v w' => ∃ x S' q, F_T_watch S p1 p2 = (.inr x, S') ∧ v = some (.inl x) ∧ w' = zW T' (zwG G' q) S' n) (fun E w' => ∃ S' n2 q, n ≤ n2 ∧ F_T_watch S p1 p2 = (.inl E, S') ∧ w' = zW T' (zwG G' q) S' n2) := by
  refine z_bodyX (by decide) zf_T_ok (Nat.le_of_ble_eq_true rfl) (fun X M => ?_)
  obtain ⟨Q, hQ, hX, K⟩ : ∃ Q : ((String ⊕ Int32) × (Nat → Nat → Int32)) → Prop, (∀ v S' q, Q (.inr v, S') → ∃ x S'' q2, F_T_watch S p1 p2 = (.inr x, S'') ∧ some (.inl v : z_V) = some (.inl x) ∧ zW T' (zwG G' q) S' n = zW T' (zwG G' q2) S'' n) ∧ (∀ E S' (n2 : Nat) q, n ≤ n2 → Q (.inl E, S') → ∃ S'' n3 q2, n ≤ n3 ∧ F_T_watch S p1 p2 = (.inl E, S'') ∧ zW T' (zwG G' q) S' n2 = zW T' (zwG G' q2) S'' n3) ∧ Q (F_T_watch S p1 p2) := ⟨fun o => F_T_watch S p1 p2 = o, fun v S' q h => ⟨v, S', q, h, rfl, rfl⟩, fun E S' n2 q hn h => ⟨S', n2, q, hn, h, rfl⟩, rfl⟩
  show z_G X zm_T_watch (0, [(0, z_r 0), (1, .inl p1), (2, .inl p2)], [], zW T' (zwG G' q0) S n, 0, 0)
  unfold F_T_watch at K
  unfold Sf_T_watch at hs
  refine z_go2 M.1.1 0 [(.iload_n 1, 1)] (1, [(0, z_r 0), (1, .inl p1), (2, .inl p2)], [.inl p1], zW T' (zwG G' q0) S n, 0, 0) (by decide +kernel) rfl ⟨trivial, trivial⟩ ?_
  refine z_callS M.1.1 (av := [.inl p1]) (st := []) (by decide +kernel) (c_T_isPerson T' (zwG G' q0) S n p1) M.1.2.1 zl_T_97 zs_T_isPerson ⟨by decide, by decide, by decide, by decide⟩ rfl (Nat.le_of_ble_eq_true rfl) (fun v w' hv => ?_)
  obtain ⟨rfl, rfl⟩ := hv
  show z_G X zm_T_watch (4, [(0, z_r 0), (1, .inl p1), (2, .inl p2)], [.inl (F_T_isPerson S p1)], zW T' (zwG G' q0) S n, 0, 0)
  refine z_if_eq 20 M.1.1 (off := 16) (by decide +kernel) (by decide) (fun c4 => ?_) (fun c4 => ?_)
  · rw [if_pos c4] at K hs
    refine z_go2 M.1.1 20 [(.iconst 0, 1)] (21, [(0, z_r 0), (1, .inl p1), (2, .inl p2)], [.inl 0], zW T' (zwG G' q0) S n, 0, 0) (by decide +kernel) rfl ⟨trivial, trivial⟩ ?_
    refine z_callSX M.1.1 (av := [.inl 0]) (st := []) (by decide +kernel) (c_mustExist T' (zwG G' q0) S n 0) M.1.2.1 zl_T_104 (z_wi 698 (by decide +kernel) rfl) zs_T_mustExist ⟨by decide, by decide, by decide, by decide⟩ rfl (Nat.le_of_ble_eq_true rfl) (fun E w' hx => ?_) (fun v w' hv => ?_)
    · obtain ⟨h0, rfl, n2, hn2, rfl⟩ := hx
      exact M.2 _ _ (hX _ _ n2 _ hn2 K) (Nat.le_of_ble_eq_true rfl) (Nat.le_of_ble_eq_true rfl)
    · obtain ⟨h0, rfl, rfl⟩ := hv
      exact absurd rfl h0
  · rw [if_neg c4] at K hs
    refine z_go2 M.1.1 7 [(.aload_n 0, 1), (.iload_n 1, 1), (.iload_n 2, 1)] (10, [(0, z_r 0), (1, .inl p1), (2, .inl p2)], [.inl p2, .inl p1, z_r 0], zW T' (zwG G' q0) S n, 0, 0) (by decide +kernel) rfl ⟨trivial, trivial, trivial, trivial⟩ ?_
    refine z_callV M.1.1 (av := [.inl p1, .inl p2]) (st := []) (a := 0) (ci := 11) (by decide +kernel) (c_T_isSeen T' G' q0 S n p1 p2 hs.1) M.1.2.1 zl_T_238 zv_T_isSeen rfl rfl rfl ⟨by decide, by decide, by decide, by decide⟩ rfl (Nat.le_of_ble_eq_true rfl) (fun v w' hv => ?_)
    replace hs := hs.2
    rcases hF10 : F_T_isSeen S p1 p2 with ⟨r10, S10⟩
    rw [hF10] at K hv
    try rw [hF10] at hs
    try dsimp only at K hs
    obtain ⟨rfl, rfl⟩ := hv
    show z_G X zm_T_watch (13, [(0, z_r 0), (1, .inl p1), (2, .inl p2)], [.inl r10], zW T' (zwG G' 9) S10 n, 0, 0)
    refine z_if_eq 20 M.1.1 (off := 7) (by decide +kernel) (by decide) (fun c13 => ?_) (fun c13 => ?_)
    · rw [if_pos c13] at K hs
      refine z_go2 M.1.1 20 [(.iconst 0, 1)] (21, [(0, z_r 0), (1, .inl p1), (2, .inl p2)], [.inl 0], zW T' (zwG G' 9) S10 n, 0, 0) (by decide +kernel) rfl ⟨trivial, trivial⟩ ?_
      refine z_callSX M.1.1 (av := [.inl 0]) (st := []) (by decide +kernel) (c_mustExist T' (zwG G' 9) S10 n 0) M.1.2.1 zl_T_104 (z_wi 698 (by decide +kernel) rfl) zs_T_mustExist ⟨by decide, by decide, by decide, by decide⟩ rfl (Nat.le_of_ble_eq_true rfl) (fun E w' hx => ?_) (fun v w' hv => ?_)
      · obtain ⟨h0, rfl, n2, hn2, rfl⟩ := hx
        exact M.2 _ _ (hX _ _ n2 _ hn2 K) (Nat.le_of_ble_eq_true rfl) (Nat.le_of_ble_eq_true rfl)
      · obtain ⟨h0, rfl, rfl⟩ := hv
        exact absurd rfl h0
    · rw [if_neg c13] at K hs
      refine z_go2 M.1.1 16 [(.iconst 1, 1), (.goto 4, 3)] (21, [(0, z_r 0), (1, .inl p1), (2, .inl p2)], [.inl 1], zW T' (zwG G' 9) S10 n, 0, 0) (by decide +kernel) rfl ⟨trivial, trivial, trivial⟩ ?_
      refine z_callSX M.1.1 (av := [.inl 1]) (st := []) (by decide +kernel) (c_mustExist T' (zwG G' 9) S10 n 1) M.1.2.1 zl_T_104 (z_wi 698 (by decide +kernel) rfl) zs_T_mustExist ⟨by decide, by decide, by decide, by decide⟩ rfl (Nat.le_of_ble_eq_true rfl) (fun E w' hx => ?_) (fun v w' hv => ?_)
      · obtain ⟨h0, rfl, n2, hn2, rfl⟩ := hx
        exact absurd h0 (by decide)
      · obtain ⟨h0, rfl, rfl⟩ := hv
        show z_G X zm_T_watch (24, [(0, z_r 0), (1, .inl p1), (2, .inl p2)], [], zW T' (zwG G' 9) S10 n, 1, 6)
        refine z_go2 M.1.1 24 [(.aload_n 0, 1), (.getfield 83, 3), (.iload_n 1, 1), (.aload_n 0, 1), (.getfield 83, 3), (.iload_n 1, 1)] (34, [(0, z_r 0), (1, .inl p1), (2, .inl p2)], [.inl p1, z_r 76, .inl p1, z_r 76], zW T' (zwG G' 9) S10 n, 1, 6) (by decide +kernel) rfl ⟨trivial, rfl, trivial, trivial, rfl, trivial, trivial⟩ ?_
        refine z_callS M.1.1 (av := [z_r 76, .inl p1]) (st := [.inl p1, z_r 76]) (by decide +kernel) (c_at (zW T' (zwG G' 9) S10 n) 76 8 rfl (by decide) p1) M.1.2.1 zl_T_134 zs_T_at ⟨by decide, by decide, by decide, by decide⟩ rfl (Nat.le_of_ble_eq_true rfl) (fun v w' hv => ?_)
        obtain ⟨rfl, rfl⟩ := hv
        show z_G X zm_T_watch (37, [(0, z_r 0), (1, .inl p1), (2, .inl p2)], [.inl (zAt (S10 76) 8 p1), .inl p1, z_r 76], zW T' (zwG G' 9) S10 n, 1, 6)
        refine z_go2 M.1.1 37 [(.iload_n 2, 1)] (38, [(0, z_r 0), (1, .inl p1), (2, .inl p2)], [.inl p2, .inl (zAt (S10 76) 8 p1), .inl p1, z_r 76], zW T' (zwG G' 9) S10 n, 1, 6) (by decide +kernel) rfl ⟨trivial, trivial⟩ ?_
        refine z_callS M.1.1 (av := [.inl p2]) (st := [.inl (zAt (S10 76) 8 p1), .inl p1, z_r 76]) (by decide +kernel) (c_T_bit T' (zwG G' 9) S10 n p2) M.1.2.1 zl_T_352 zs_T_bit ⟨by decide, by decide, by decide, by decide⟩ rfl (Nat.le_of_ble_eq_true rfl) (fun v w' hv => ?_)
        obtain ⟨rfl, rfl⟩ := hv
        show z_G X zm_T_watch (41, [(0, z_r 0), (1, .inl p1), (2, .inl p2)], [.inl (F_T_bit S10 p2), .inl (zAt (S10 76) 8 p1), .inl p1, z_r 76], zW T' (zwG G' 9) S10 n, 1, 6)
        refine z_go2 M.1.1 41 [(.ixor, 1)] (42, [(0, z_r 0), (1, .inl p1), (2, .inl p2)], [.inl ((zAt (S10 76) 8 p1) ^^^ (F_T_bit S10 p2)), .inl p1, z_r 76], zW T' (zwG G' 9) S10 n, 1, 6) (by decide +kernel) rfl ⟨trivial, trivial⟩ ?_
        refine z_callS M.1.1 (av := [z_r 76, .inl p1, .inl ((zAt (S10 76) 8 p1) ^^^ (F_T_bit S10 p2))]) (st := []) (by decide +kernel) (c_put (zW T' (zwG G' 9) S10 n) 76 8 rfl (by decide) p1 ((zAt (S10 76) 8 p1) ^^^ (F_T_bit S10 p2))) M.1.2.1 zl_T_141 zs_T_put ⟨by decide, by decide, by decide, by decide⟩ rfl (Nat.le_of_ble_eq_true rfl) (fun v w' hv => ?_)
        obtain ⟨S42, hF42⟩ : ∃ y, zPut S10 76 8 p1 ((zAt (S10 76) 8 p1) ^^^ (F_T_bit S10 p2)) = y := ⟨_, rfl⟩
        replace hv : v = none ∧ w' = zW T' (zwG G' 9) (zPut S10 76 8 p1 ((zAt (S10 76) 8 p1) ^^^ (F_T_bit S10 p2))) n := hv
        rw [hF42] at K hv
        try rw [hF42] at hs
        try dsimp only [z_let] at K hs
        obtain ⟨rfl, rfl⟩ := hv
        show z_G X zm_T_watch (45, [(0, z_r 0), (1, .inl p1), (2, .inl p2)], [], zW T' (zwG G' 9) S42 n, 1, 6)
        refine z_go2 M.1.1 45 [(.aload_n 0, 1), (.getfield 83, 3), (.iload_n 1, 1)] (50, [(0, z_r 0), (1, .inl p1), (2, .inl p2)], [.inl p1, z_r 76], zW T' (zwG G' 9) S42 n, 1, 6) (by decide +kernel) rfl ⟨trivial, rfl, trivial, trivial⟩ ?_
        refine z_callS M.1.1 (av := [z_r 76, .inl p1]) (st := []) (by decide +kernel) (c_at (zW T' (zwG G' 9) S42 n) 76 8 rfl (by decide) p1) M.1.2.1 zl_T_134 zs_T_at ⟨by decide, by decide, by decide, by decide⟩ rfl (Nat.le_of_ble_eq_true rfl) (fun v w' hv => ?_)
        obtain ⟨rfl, rfl⟩ := hv
        show z_G X zm_T_watch (53, [(0, z_r 0), (1, .inl p1), (2, .inl p2)], [.inl (zAt (S42 76) 8 p1)], zW T' (zwG G' 9) S42 n, 1, 6)
        refine z_go2 M.1.1 53 [(.iload_n 2, 1)] (54, [(0, z_r 0), (1, .inl p1), (2, .inl p2)], [.inl p2, .inl (zAt (S42 76) 8 p1)], zW T' (zwG G' 9) S42 n, 1, 6) (by decide +kernel) rfl ⟨trivial, trivial⟩ ?_
        refine z_callS M.1.1 (av := [.inl (zAt (S42 76) 8 p1), .inl p2]) (st := []) (by decide +kernel) (c_T_isIn T' (zwG G' 9) S42 n (zAt (S42 76) 8 p1) p2) M.1.2.1 zl_T_307 zs_T_isIn ⟨by decide, by decide, by decide, by decide⟩ rfl (Nat.le_of_ble_eq_true rfl) (fun v w' hv => ?_)
        obtain ⟨rfl, rfl⟩ := hv
        show z_G X zm_T_watch (57, [(0, z_r 0), (1, .inl p1), (2, .inl p2)], [.inl (F_T_isIn S42 (zAt (S42 76) 8 p1) p2)], zW T' (zwG G' 9) S42 n, 1, 6)
        exact z_iret M.1 (by decide +kernel) .boolean rfl hs.1 (by decide) (by decide) (hQ _ _ _ K)

-- TrackHouse.inbox
abbrev rm_T_inbox : Room := zx 7 1
def F_T_inbox_L48 (x1 : Int32) (x2 : Int32) : Nat → (Nat → Nat → Int32) → Int32 → Int32 → (Int32 × (Nat → Nat → Int32))
  | 0, S, x3, x4 => (x3, S)
  | f + 1, S, x3, x4 => (if (S 1 7) ≤ x4 then (x3, S) else (if (F_T_isIn S x2 (zAt (S 4) 900 x4)) = 0 then ((F_T_inbox_L48 x1 x2 f) S x3 (x4 + 1)) else (if (zAt (S 3) 900 x4) = x1 then ((F_T_inbox_L48 x1 x2 f) S x3 (x4 + 1)) else ((F_T_inbox_L48 x1 x2 f) S (x3 + 1) (x4 + 1)))))
def Sf_T_inbox_L48 (x1 : Int32) (x2 : Int32) : Nat → (Nat → Nat → Int32) → Int32 → Int32 → Prop
  | 0, _, _, _ => False
  | f + 1, S, x3, x4 => (if (S 1 7) ≤ x4 then True else (if (F_T_isIn S x2 (zAt (S 4) 900 x4)) = 0 then ((Sf_T_inbox_L48 x1 x2 f) S x3 (x4 + 1)) else (if (zAt (S 3) 900 x4) = x1 then ((Sf_T_inbox_L48 x1 x2 f) S x3 (x4 + 1)) else ((Sf_T_inbox_L48 x1 x2 f) S (x3 + 1) (x4 + 1)))))
theorem t_T_inbox_L48 {X : z_X} {Post : Option z_V → z_W → Prop} {PX : String → z_W → Prop} (M : z_MX X zm_T_inbox rm_T_inbox Post PX) {T' : Nat → Nat × Nat} {G' : Nat → Nat → Option Nat} {n : Nat} {q0 : Nat} {Q : (Int32 × (Nat → Nat → Int32)) → Prop}  (x1 : Int32) (x2 : Int32) (hE : ∀ (y3 : Int32) (S' : (Nat → Nat → Int32)), Q (y3, S') → z_G X zm_T_inbox (104, [(0, z_r 0), (1, .inl x1), (3, .inl y3)], [], zW T' (zwG G' 9) S' n, 1, 6)) (f : Nat) : ∀ (S : (Nat → Nat → Int32)) (x3 : Int32) (x4 : Int32), Q (F_T_inbox_L48 x1 x2 f S x3 x4) → Sf_T_inbox_L48 x1 x2 f S x3 x4 → z_G X zm_T_inbox (48, [(0, z_r 0), (1, .inl x1), (2, .inl x2), (3, .inl x3), (4, .inl x4)], [], zW T' (zwG G' 9) S n, 1, 6) := by
  induction f with
  | zero => intro S x3 x4 K hs; exact False.elim hs
  | succ f hC =>
    intro S x3 x4 K hs
    rw [F_T_inbox_L48] at K
    rw [Sf_T_inbox_L48] at hs
    refine z_go2 M.1.1 48 [(.iload 4, 2), (.aload_n 0, 1), (.getfield 12, 3), (.getfield 118, 3)] (57, [(0, z_r 0), (1, .inl x1), (2, .inl x2), (3, .inl x3), (4, .inl x4)], [.inl (S 1 7), .inl x4], zW T' (zwG G' 9) S n, 1, 6) (by decide +kernel) rfl ⟨trivial, trivial, rfl, rfl, trivial⟩ ?_
    refine z_icmp_ge 104 M.1.1 (off := 47) (by decide +kernel) (by decide) (fun c57 => ?_) (fun c57 => ?_)
    · rw [if_pos c57] at K hs
      exact z_lvs (lv' := [(0, z_r 0), (1, .inl x1), (3, .inl x3)]) [0, 1, 3] rfl (hE x3 S K)
    · rw [if_neg c57] at K hs
      refine z_go2 M.1.1 60 [(.iload_n 2, 1), (.aload_n 0, 1), (.getfield 12, 3), (.getfield 316, 3), (.iload 4, 2)] (70, [(0, z_r 0), (1, .inl x1), (2, .inl x2), (3, .inl x3), (4, .inl x4)], [.inl x4, z_r 4, .inl x2], zW T' (zwG G' 9) S n, 1, 6) (by decide +kernel) rfl ⟨trivial, trivial, rfl, rfl, trivial, trivial⟩ ?_
      refine z_callS M.1.1 (av := [z_r 4, .inl x4]) (st := [.inl x2]) (by decide +kernel) (c_at (zW T' (zwG G' 9) S n) 4 900 rfl (by decide) x4) M.1.2.1 zl_T_134 zs_T_at ⟨by decide, by decide, by decide, by decide⟩ rfl (Nat.le_of_ble_eq_true rfl) (fun v w' hv => ?_)
      obtain ⟨rfl, rfl⟩ := hv
      show z_G X zm_T_inbox (73, [(0, z_r 0), (1, .inl x1), (2, .inl x2), (3, .inl x3), (4, .inl x4)], [.inl (zAt (S 4) 900 x4), .inl x2], zW T' (zwG G' 9) S n, 1, 6)
      refine z_callS M.1.1 (av := [.inl x2, .inl (zAt (S 4) 900 x4)]) (st := []) (by decide +kernel) (c_T_isIn T' (zwG G' 9) S n x2 (zAt (S 4) 900 x4)) M.1.2.1 zl_T_307 zs_T_isIn ⟨by decide, by decide, by decide, by decide⟩ rfl (Nat.le_of_ble_eq_true rfl) (fun v w' hv => ?_)
      obtain ⟨rfl, rfl⟩ := hv
      show z_G X zm_T_inbox (76, [(0, z_r 0), (1, .inl x1), (2, .inl x2), (3, .inl x3), (4, .inl x4)], [.inl (F_T_isIn S x2 (zAt (S 4) 900 x4))], zW T' (zwG G' 9) S n, 1, 6)
      refine z_if_eq 98 M.1.1 (off := 22) (by decide +kernel) (by decide) (fun c76 => ?_) (fun c76 => ?_)
      · rw [if_pos c76] at K hs
        refine z_go2 M.1.1 98 [(.iinc 4 1, 3), (.goto (-53), 3)] (48, [(4, .inl (x4 + 1)), (0, z_r 0), (1, .inl x1), (2, .inl x2), (3, .inl x3)], [], zW T' (zwG G' 9) S n, 1, 6) (by decide +kernel) rfl ⟨trivial, trivial, trivial⟩ ?_
        exact z_lvs (lv' := [(0, z_r 0), (1, .inl x1), (2, .inl x2), (3, .inl x3), (4, .inl (x4 + 1))]) [1, 2, 3, 4, 0] rfl (hC S x3 (x4 + 1) K hs)
      · rw [if_neg c76] at K hs
        refine z_go2 M.1.1 79 [(.aload_n 0, 1), (.getfield 12, 3), (.getfield 397, 3), (.iload 4, 2)] (88, [(0, z_r 0), (1, .inl x1), (2, .inl x2), (3, .inl x3), (4, .inl x4)], [.inl x4, z_r 3], zW T' (zwG G' 9) S n, 1, 6) (by decide +kernel) rfl ⟨trivial, rfl, rfl, trivial, trivial⟩ ?_
        refine z_callS M.1.1 (av := [z_r 3, .inl x4]) (st := []) (by decide +kernel) (c_at (zW T' (zwG G' 9) S n) 3 900 rfl (by decide) x4) M.1.2.1 zl_T_134 zs_T_at ⟨by decide, by decide, by decide, by decide⟩ rfl (Nat.le_of_ble_eq_true rfl) (fun v w' hv => ?_)
        obtain ⟨rfl, rfl⟩ := hv
        show z_G X zm_T_inbox (91, [(0, z_r 0), (1, .inl x1), (2, .inl x2), (3, .inl x3), (4, .inl x4)], [.inl (zAt (S 3) 900 x4)], zW T' (zwG G' 9) S n, 1, 6)
        refine z_go2 M.1.1 91 [(.iload_n 1, 1)] (92, [(0, z_r 0), (1, .inl x1), (2, .inl x2), (3, .inl x3), (4, .inl x4)], [.inl x1, .inl (zAt (S 3) 900 x4)], zW T' (zwG G' 9) S n, 1, 6) (by decide +kernel) rfl ⟨trivial, trivial⟩ ?_
        refine z_icmp_eq 98 M.1.1 (off := 6) (by decide +kernel) (by decide) (fun c92 => ?_) (fun c92 => ?_)
        · rw [if_pos c92] at K hs
          refine z_go2 M.1.1 98 [(.iinc 4 1, 3), (.goto (-53), 3)] (48, [(4, .inl (x4 + 1)), (0, z_r 0), (1, .inl x1), (2, .inl x2), (3, .inl x3)], [], zW T' (zwG G' 9) S n, 1, 6) (by decide +kernel) rfl ⟨trivial, trivial, trivial⟩ ?_
          exact z_lvs (lv' := [(0, z_r 0), (1, .inl x1), (2, .inl x2), (3, .inl x3), (4, .inl (x4 + 1))]) [1, 2, 3, 4, 0] rfl (hC S x3 (x4 + 1) K hs)
        · rw [if_neg c92] at K hs
          refine z_go2 M.1.1 95 [(.iinc 3 1, 3), (.iinc 4 1, 3), (.goto (-53), 3)] (48, [(4, .inl (x4 + 1)), (3, .inl (x3 + 1)), (0, z_r 0), (1, .inl x1), (2, .inl x2)], [], zW T' (zwG G' 9) S n, 1, 6) (by decide +kernel) rfl ⟨trivial, trivial, trivial, trivial⟩ ?_
          exact z_lvs (lv' := [(0, z_r 0), (1, .inl x1), (2, .inl x2), (3, .inl (x3 + 1)), (4, .inl (x4 + 1))]) [2, 3, 4, 1, 0] rfl (hC S (x3 + 1) (x4 + 1) K hs)
def F_T_inbox (S : (Nat → Nat → Int32)) (p1 : Int32) : ((String ⊕ Int32) × (Nat → Nat → Int32)) := (if (F_T_isPerson S p1) = 0 then (.inl "java/lang/IndexOutOfBoundsException", S) else (z_let (F_Sight_look 9 S p1) (fun S16 => (match F_T_inbox_L48 p1 ((zAt (S16 76) 8 p1) &&& (S16 36 8)) 1300 S16 0 (zAt (S16 77) 8 p1) with | (y3_48, S48) => (z_let (zPut S48 77 8 p1 (S48 1 7)) (fun S116 => (.inr y3_48, S116)))))))
def Sf_T_inbox (S : (Nat → Nat → Int32)) (p1 : Int32) : Prop := (if (F_T_isPerson S p1) = 0 then True else (Sf_Sight_look 9 S p1 ∧ (z_let (F_Sight_look 9 S p1) (fun S16 => (Sf_T_inbox_L48 p1 ((zAt (S16 76) 8 p1) &&& (S16 36 8)) 1300 S16 0 (zAt (S16 77) 8 p1) ∧ True)))))
theorem c_T_inbox (T' : Nat → Nat × Nat) (G' : Nat → Nat → Option Nat) (q0 : Nat) (S : (Nat → Nat → Int32)) (n : Nat) (p1 : Int32) (hs : Sf_T_inbox S p1) : z_RunX rm_T_inbox zm_T_inbox [z_r 0, .inl p1] (zW T' (zwG G' q0) S n) (fun v w' => ∃ x S' q, F_T_inbox S p1 = (.inr x, S') ∧ v = some (.inl x) ∧ w' = zW T' (zwG G' q) S' n) (fun E w' => ∃ S' n2 q, n ≤ n2 ∧ F_T_inbox S p1 = (.inl E, S') ∧ w' = zW T' (zwG G' q) S' n2) := by
  refine z_bodyX (by decide) zf_T_ok (Nat.le_of_ble_eq_true rfl) (fun X M => ?_)
  obtain ⟨Q, hQ, hX, K⟩ : ∃ Q : ((String ⊕ Int32) × (Nat → Nat → Int32)) → Prop, (∀ v S' q, Q (.inr v, S') → ∃ x S'' q2, F_T_inbox S p1 = (.inr x, S'') ∧ some (.inl v : z_V) = some (.inl x) ∧ zW T' (zwG G' q) S' n = zW T' (zwG G' q2) S'' n) ∧ (∀ E S' (n2 : Nat) q, n ≤ n2 → Q (.inl E, S') → ∃ S'' n3 q2, n ≤ n3 ∧ F_T_inbox S p1 = (.inl E, S'') ∧ zW T' (zwG G' q) S' n2 = zW T' (zwG G' q2) S'' n3) ∧ Q (F_T_inbox S p1) := ⟨fun o => F_T_inbox S p1 = o, fun v S' q h => ⟨v, S', q, h, rfl, rfl⟩, fun E S' n2 q hn h => ⟨S', n2, q, hn, h, rfl⟩, rfl⟩
  show z_G X zm_T_inbox (0, [(0, z_r 0), (1, .inl p1)], [], zW T' (zwG G' q0) S n, 0, 0)
  unfold F_T_inbox at K
  unfold Sf_T_inbox at hs
  refine z_go2 M.1.1 0 [(.iload_n 1, 1)] (1, [(0, z_r 0), (1, .inl p1)], [.inl p1], zW T' (zwG G' q0) S n, 0, 0) (by decide +kernel) rfl ⟨trivial, trivial⟩ ?_
  refine z_callS M.1.1 (av := [.inl p1]) (st := []) (by decide +kernel) (c_T_isPerson T' (zwG G' q0) S n p1) M.1.2.1 zl_T_97 zs_T_isPerson ⟨by decide, by decide, by decide, by decide⟩ rfl (Nat.le_of_ble_eq_true rfl) (fun v w' hv => ?_)
  obtain ⟨rfl, rfl⟩ := hv
  show z_G X zm_T_inbox (4, [(0, z_r 0), (1, .inl p1)], [.inl (F_T_isPerson S p1)], zW T' (zwG G' q0) S n, 0, 0)
  refine z_callSX M.1.1 (av := [.inl (F_T_isPerson S p1)]) (st := []) (by decide +kernel) (c_mustExist T' (zwG G' q0) S n (F_T_isPerson S p1)) M.1.2.1 zl_T_104 (z_wi 698 (by decide +kernel) rfl) zs_T_mustExist ⟨by decide, by decide, by decide, by decide⟩ rfl (Nat.le_of_ble_eq_true rfl) (fun E w' hx => ?_) (fun v w' hv => ?_)
  · obtain ⟨h0, rfl, n2, hn2, rfl⟩ := hx
    rw [if_pos h0] at K
    exact M.2 _ _ (hX _ _ n2 _ hn2 K) (Nat.le_of_ble_eq_true rfl) (Nat.le_of_ble_eq_true rfl)
  · obtain ⟨h0, rfl, rfl⟩ := hv
    rw [if_neg h0] at K hs
    show z_G X zm_T_inbox (7, [(0, z_r 0), (1, .inl p1)], [], zW T' (zwG G' q0) S n, 1, 6)
    refine z_go2 M.1.1 7 [(.aload_n 0, 1), (.getfield 47, 3), (.aload_n 0, 1), (.getfield 19, 3), (.iload_n 1, 1)] (16, [(0, z_r 0), (1, .inl p1)], [.inl p1, z_r 9, z_r 36], zW T' (zwG G' q0) S n, 1, 6) (by decide +kernel) rfl ⟨trivial, rfl, trivial, rfl, trivial, trivial⟩ ?_
    refine z_callV M.1.1 (av := [z_r 9, .inl p1]) (st := []) (a := 36) (ci := 8) (by decide +kernel) (c_Sight_look_9 T' G' q0 S n p1 hs.1) M.1.2.1 zl_T_331 zv_Sight_look rfl rfl rfl ⟨by decide, by decide, by decide, by decide⟩ rfl (Nat.le_of_ble_eq_true rfl) (fun v w' hv => ?_)
    replace hs := hs.2
    obtain ⟨S16, hF16⟩ : ∃ y, F_Sight_look 9 S p1 = y := ⟨_, rfl⟩
    rw [hF16] at K hv
    try rw [hF16] at hs
    try dsimp only [z_let] at K hs
    obtain ⟨rfl, rfl⟩ := hv
    show z_G X zm_T_inbox (19, [(0, z_r 0), (1, .inl p1)], [], zW T' (zwG G' 9) S16 n, 1, 6)
    refine z_go2 M.1.1 19 [(.aload_n 0, 1), (.getfield 83, 3), (.iload_n 1, 1)] (24, [(0, z_r 0), (1, .inl p1)], [.inl p1, z_r 76], zW T' (zwG G' 9) S16 n, 1, 6) (by decide +kernel) rfl ⟨trivial, rfl, trivial, trivial⟩ ?_
    refine z_callS M.1.1 (av := [z_r 76, .inl p1]) (st := []) (by decide +kernel) (c_at (zW T' (zwG G' 9) S16 n) 76 8 rfl (by decide) p1) M.1.2.1 zl_T_134 zs_T_at ⟨by decide, by decide, by decide, by decide⟩ rfl (Nat.le_of_ble_eq_true rfl) (fun v w' hv => ?_)
    obtain ⟨rfl, rfl⟩ := hv
    show z_G X zm_T_inbox (27, [(0, z_r 0), (1, .inl p1)], [.inl (zAt (S16 76) 8 p1)], zW T' (zwG G' 9) S16 n, 1, 6)
    refine z_go2 M.1.1 27 [(.aload_n 0, 1), (.getfield 47, 3), (.getfield 335, 3), (.iand, 1), (.istore_n 2, 1), (.iconst 0, 1), (.istore_n 3, 1), (.aload_n 0, 1), (.getfield 87, 3), (.iload_n 1, 1)] (43, [(3, .inl 0), (2, .inl ((zAt (S16 76) 8 p1) &&& (S16 36 8))), (0, z_r 0), (1, .inl p1)], [.inl p1, z_r 77], zW T' (zwG G' 9) S16 n, 1, 6) (by decide +kernel) rfl ⟨trivial, rfl, rfl, trivial, trivial, trivial, trivial, trivial, rfl, trivial, trivial⟩ ?_
    refine z_callS M.1.1 (av := [z_r 77, .inl p1]) (st := []) (by decide +kernel) (c_at (zW T' (zwG G' 9) S16 n) 77 8 rfl (by decide) p1) M.1.2.1 zl_T_134 zs_T_at ⟨by decide, by decide, by decide, by decide⟩ rfl (Nat.le_of_ble_eq_true rfl) (fun v w' hv => ?_)
    obtain ⟨rfl, rfl⟩ := hv
    show z_G X zm_T_inbox (46, [(3, .inl 0), (2, .inl ((zAt (S16 76) 8 p1) &&& (S16 36 8))), (0, z_r 0), (1, .inl p1)], [.inl (zAt (S16 77) 8 p1)], zW T' (zwG G' 9) S16 n, 1, 6)
    refine z_go2 M.1.1 46 [(.istore 4, 2)] (48, [(4, .inl (zAt (S16 77) 8 p1)), (3, .inl 0), (2, .inl ((zAt (S16 76) 8 p1) &&& (S16 36 8))), (0, z_r 0), (1, .inl p1)], [], zW T' (zwG G' 9) S16 n, 1, 6) (by decide +kernel) rfl ⟨trivial, trivial⟩ ?_
    refine z_lvs (lv' := [(0, z_r 0), (1, .inl p1), (2, .inl ((zAt (S16 76) 8 p1) &&& (S16 36 8))), (3, .inl 0), (4, .inl (zAt (S16 77) 8 p1))]) [3, 4, 2, 1, 0] rfl ?_
    refine t_T_inbox_L48 M (q0 := q0) (Q := fun o => F_T_inbox_L48 p1 ((zAt (S16 76) 8 p1) &&& (S16 36 8)) 1300 S16 0 (zAt (S16 77) 8 p1) = o) p1 ((zAt (S16 76) 8 p1) &&& (S16 36 8)) (fun y3_48 S48 hL48 => ?_) 1300 S16 0 (zAt (S16 77) 8 p1) rfl hs.1
    replace hs := hs.2
    rw [hL48] at K
    try dsimp only at K
    refine z_go2 M.1.1 104 [(.aload_n 0, 1), (.getfield 87, 3), (.iload_n 1, 1), (.aload_n 0, 1), (.getfield 12, 3), (.getfield 118, 3)] (116, [(0, z_r 0), (1, .inl p1), (3, .inl y3_48)], [.inl (S48 1 7), .inl p1, z_r 77], zW T' (zwG G' 9) S48 n, 1, 6) (by decide +kernel) rfl ⟨trivial, rfl, trivial, trivial, rfl, rfl, trivial⟩ ?_
    refine z_callS M.1.1 (av := [z_r 77, .inl p1, .inl (S48 1 7)]) (st := []) (by decide +kernel) (c_put (zW T' (zwG G' 9) S48 n) 77 8 rfl (by decide) p1 (S48 1 7)) M.1.2.1 zl_T_141 zs_T_put ⟨by decide, by decide, by decide, by decide⟩ rfl (Nat.le_of_ble_eq_true rfl) (fun v w' hv => ?_)
    obtain ⟨S116, hF116⟩ : ∃ y, zPut S48 77 8 p1 (S48 1 7) = y := ⟨_, rfl⟩
    replace hv : v = none ∧ w' = zW T' (zwG G' 9) (zPut S48 77 8 p1 (S48 1 7)) n := hv
    rw [hF116] at K hv
    try dsimp only [z_let] at K
    obtain ⟨rfl, rfl⟩ := hv
    show z_G X zm_T_inbox (119, [(0, z_r 0), (1, .inl p1), (3, .inl y3_48)], [], zW T' (zwG G' 9) S116 n, 1, 6)
    refine z_go2 M.1.1 119 [(.iload_n 3, 1)] (120, [(0, z_r 0), (1, .inl p1), (3, .inl y3_48)], [.inl y3_48], zW T' (zwG G' 9) S116 n, 1, 6) (by decide +kernel) rfl ⟨trivial, trivial⟩ ?_
    exact z_iret M.1 (by decide +kernel) .int rfl rfl (by decide) (by decide) (hQ _ _ _ K)

