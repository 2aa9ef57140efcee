-- TrackHouse.stateOn
abbrev rm_T_stateOn : Room := zx 7 1
def F_T_stateOn_l32_98 (rc : Int32 → Int32 → (Int32)) (S : (Nat → Nat → Int32)) (x1 : Int32) (x2 : Int32) (x3 : Int32) (x4 : Int32) : (Int32) := (if (zAt (S 4) 900 x4) = x1 then (if (zAt (S 5) 900 x4) = 0 then (rc (zAt (S 8) 900 x4) (x4 + 1)) else (rc x3 (x4 + 1))) else (rc x3 (x4 + 1)))
def Sf_T_stateOn_l32_98 (rc : Int32 → Int32 → (Int32)) (sr : Int32 → Int32 → Prop) (S : (Nat → Nat → Int32)) (x1 : Int32) (x2 : Int32) (x3 : Int32) (x4 : Int32) : Prop := (if (zAt (S 4) 900 x4) = x1 then (if (zAt (S 5) 900 x4) = 0 then (sr (zAt (S 8) 900 x4) (x4 + 1)) else (sr x3 (x4 + 1))) else (sr x3 (x4 + 1)))
theorem t_T_stateOn_l32_98 {X : z_X} {Post : Option z_V → z_W → Prop} {PX : String → z_W → Prop} (M : z_MX X zm_T_stateOn rm_T_stateOn Post PX) {T' : Nat → Nat × Nat} {G' : Nat → Nat → Option Nat} {n : Nat} {Q : (Int32) → Prop} (rc : Int32 → Int32 → (Int32)) (sr : Int32 → Int32 → Prop) (S : (Nat → Nat → Int32)) (x1 : Int32) (x2 : Int32) (x3 : Int32) (x4 : Int32) (hE : ∀ (y3 : Int32), Q y3 → z_G X zm_T_stateOn (148, [(3, .inl y3)], [], zW T' G' S n, 1, 6)) (hC : ∀ (x3 : Int32) (x4 : Int32), Q (rc x3 x4) → sr x3 x4 → z_G X zm_T_stateOn (32, [(0, z_r 0), (1, .inl x1), (2, .inl x2), (3, .inl x3), (4, .inl x4)], [], zW T' G' S n, 1, 6)) (K : Q (F_T_stateOn_l32_98 rc S x1 x2 x3 x4)) (hs : Sf_T_stateOn_l32_98 rc sr S x1 x2 x3 x4) : z_G X zm_T_stateOn (98, [(0, z_r 0), (1, .inl x1), (2, .inl x2), (3, .inl x3), (4, .inl x4)], [], zW T' G' S n, 1, 6) := by
  unfold F_T_stateOn_l32_98 at K
  unfold Sf_T_stateOn_l32_98 at hs
  refine z_go2 M.1.1 98 [(.aload_n 0, 1), (.getfield 12, 3), (.getfield 316, 3), (.iload 4, 2)] (107, [(0, z_r 0), (1, .inl x1), (2, .inl x2), (3, .inl x3), (4, .inl x4)], [.inl x4, z_r 4], zW T' G' S n, 1, 6) (by decide +kernel) rfl ⟨trivial, rfl, rfl, trivial, trivial⟩ ?_
  refine z_callS M.1.1 (av := [z_r 4, .inl x4]) (st := []) (by decide +kernel) (c_at (zW T' G' S n) 4 900 rfl (by decide) x4) M.1.2.1 zl_T_134 zs_T_at ⟨by decide, by decide, by decide, by decide⟩ rfl (Nat.le_of_ble_eq_true rfl) (fun v w' hv => ?_)
  obtain ⟨rfl, rfl⟩ := hv
  show z_G X zm_T_stateOn (110, [(0, z_r 0), (1, .inl x1), (2, .inl x2), (3, .inl x3), (4, .inl x4)], [.inl (zAt (S 4) 900 x4)], zW T' G' S n, 1, 6)
  refine z_go2 M.1.1 110 [(.iload_n 1, 1)] (111, [(0, z_r 0), (1, .inl x1), (2, .inl x2), (3, .inl x3), (4, .inl x4)], [.inl x1, .inl (zAt (S 4) 900 x4)], zW T' G' S n, 1, 6) (by decide +kernel) rfl ⟨trivial, trivial⟩ ?_
  refine z_icmp_ne 142 M.1.1 (off := 31) (by decide +kernel) (by decide) (fun c111 => ?_) (fun c111 => ?_)
  · rw [if_neg c111] at K hs
    refine z_go2 M.1.1 142 [(.iinc 4 1, 3), (.goto (-113), 3)] (32, [(4, .inl (x4 + 1)), (0, z_r 0), (1, .inl x1), (2, .inl x2), (3, .inl x3)], [], zW T' G' S n, 1, 6) (by decide +kernel) rfl ⟨trivial, trivial, trivial⟩ ?_
    exact z_lvs (lv' := [(0, z_r 0), (1, .inl x1), (2, .inl x2), (3, .inl x3), (4, .inl (x4 + 1))]) [1, 2, 3, 4, 0] rfl (hC x3 (x4 + 1) K hs)
  · rw [if_pos c111] at K hs
    refine z_go2 M.1.1 114 [(.aload_n 0, 1), (.getfield 12, 3), (.getfield 319, 3), (.iload 4, 2)] (123, [(0, z_r 0), (1, .inl x1), (2, .inl x2), (3, .inl x3), (4, .inl x4)], [.inl x4, z_r 5], zW T' G' S n, 1, 6) (by decide +kernel) rfl ⟨trivial, rfl, rfl, trivial, trivial⟩ ?_
    refine z_callS M.1.1 (av := [z_r 5, .inl x4]) (st := []) (by decide +kernel) (c_at (zW T' G' S n) 5 900 rfl (by decide) x4) M.1.2.1 zl_T_134 zs_T_at ⟨by decide, by decide, by decide, by decide⟩ rfl (Nat.le_of_ble_eq_true rfl) (fun v w' hv => ?_)
    obtain ⟨rfl, rfl⟩ := hv
    show z_G X zm_T_stateOn (126, [(0, z_r 0), (1, .inl x1), (2, .inl x2), (3, .inl x3), (4, .inl x4)], [.inl (zAt (S 5) 900 x4)], zW T' G' S n, 1, 6)
    refine z_if_ne 142 M.1.1 (off := 16) (by decide +kernel) (by decide) (fun c126 => ?_) (fun c126 => ?_)
    · rw [if_neg c126] at K hs
      refine z_go2 M.1.1 142 [(.iinc 4 1, 3), (.goto (-113), 3)] (32, [(4, .inl (x4 + 1)), (0, z_r 0), (1, .inl x1), (2, .inl x2), (3, .inl x3)], [], zW T' G' S n, 1, 6) (by decide +kernel) rfl ⟨trivial, trivial, trivial⟩ ?_
      exact z_lvs (lv' := [(0, z_r 0), (1, .inl x1), (2, .inl x2), (3, .inl x3), (4, .inl (x4 + 1))]) [1, 2, 3, 4, 0] rfl (hC x3 (x4 + 1) K hs)
    · rw [if_pos c126] at K hs
      refine z_go2 M.1.1 129 [(.aload_n 0, 1), (.getfield 12, 3), (.getfield 322, 3), (.iload 4, 2)] (138, [(0, z_r 0), (1, .inl x1), (2, .inl x2), (3, .inl x3), (4, .inl x4)], [.inl x4, z_r 8], zW T' G' S n, 1, 6) (by decide +kernel) rfl ⟨trivial, rfl, rfl, trivial, trivial⟩ ?_
      refine z_callS M.1.1 (av := [z_r 8, .inl x4]) (st := []) (by decide +kernel) (c_at (zW T' G' S n) 8 900 rfl (by decide) x4) M.1.2.1 zl_T_134 zs_T_at ⟨by decide, by decide, by decide, by decide⟩ rfl (Nat.le_of_ble_eq_true rfl) (fun v w' hv => ?_)
      obtain ⟨rfl, rfl⟩ := hv
      show z_G X zm_T_stateOn (141, [(0, z_r 0), (1, .inl x1), (2, .inl x2), (3, .inl x3), (4, .inl x4)], [.inl (zAt (S 8) 900 x4)], zW T' G' S n, 1, 6)
      refine z_go2 M.1.1 141 [(.istore_n 3, 1), (.iinc 4 1, 3), (.goto (-113), 3)] (32, [(4, .inl (x4 + 1)), (3, .inl (zAt (S 8) 900 x4)), (0, z_r 0), (1, .inl x1), (2, .inl x2)], [], zW T' G' S n, 1, 6) (by decide +kernel) rfl ⟨trivial, trivial, trivial, trivial⟩ ?_
      exact z_lvs (lv' := [(0, z_r 0), (1, .inl x1), (2, .inl x2), (3, .inl (zAt (S 8) 900 x4)), (4, .inl (x4 + 1))]) [2, 3, 4, 1, 0] rfl (hC (zAt (S 8) 900 x4) (x4 + 1) K hs)
def F_T_stateOn_L32 (S : (Nat → Nat → Int32)) (x1 : Int32) (x2 : Int32) : Nat → Int32 → Int32 → (Int32)
  | 0, x3, x4 => x3
  | f + 1, x3, x4 => (if (S 1 7) ≤ x4 then x3 else (if x2 < (zAt (S 2) 900 x4) then x3 else (if (zAt (S 4) 900 x4) = x1 then (if (zAt (S 5) 900 x4) = 13 then ((F_T_stateOn_L32 S x1 x2 f) 0 (x4 + 1)) else (F_T_stateOn_l32_98 (F_T_stateOn_L32 S x1 x2 f) S x1 x2 x3 x4)) else (F_T_stateOn_l32_98 (F_T_stateOn_L32 S x1 x2 f) S x1 x2 x3 x4))))
def Sf_T_stateOn_L32 (S : (Nat → Nat → Int32)) (x1 : Int32) (x2 : Int32) : Nat → Int32 → Int32 → Prop
  | 0, _, _ => False
  | f + 1, x3, x4 => (if (S 1 7) ≤ x4 then True else (if x2 < (zAt (S 2) 900 x4) then True else (if (zAt (S 4) 900 x4) = x1 then (if (zAt (S 5) 900 x4) = 13 then ((Sf_T_stateOn_L32 S x1 x2 f) 0 (x4 + 1)) else (Sf_T_stateOn_l32_98 (F_T_stateOn_L32 S x1 x2 f) (Sf_T_stateOn_L32 S x1 x2 f) S x1 x2 x3 x4)) else (Sf_T_stateOn_l32_98 (F_T_stateOn_L32 S x1 x2 f) (Sf_T_stateOn_L32 S x1 x2 f) S x1 x2 x3 x4))))
theorem t_T_stateOn_L32 {X : z_X} {Post : Option z_V → z_W → Prop} {PX : String → z_W → Prop} (M : z_MX X zm_T_stateOn rm_T_stateOn Post PX) {T' : Nat → Nat × Nat} {G' : Nat → Nat → Option Nat} {n : Nat} {Q : (Int32) → Prop} (S : (Nat → Nat → Int32))  (x1 : Int32) (x2 : Int32) (hE : ∀ (y3 : Int32), Q y3 → z_G X zm_T_stateOn (148, [(3, .inl y3)], [], zW T' G' S n, 1, 6)) (f : Nat) : ∀ (x3 : Int32) (x4 : Int32), Q (F_T_stateOn_L32 S x1 x2 f x3 x4) → Sf_T_stateOn_L32 S x1 x2 f x3 x4 → z_G X zm_T_stateOn (32, [(0, z_r 0), (1, .inl x1), (2, .inl x2), (3, .inl x3), (4, .inl x4)], [], zW T' G' S n, 1, 6) := by
  induction f with
  | zero => intro x3 x4 K hs; exact False.elim hs
  | succ f hC =>
    intro x3 x4 K hs
    rw [F_T_stateOn_L32] at K
    rw [Sf_T_stateOn_L32] at hs
    refine z_go2 M.1.1 32 [(.iload 4, 2), (.aload_n 0, 1), (.getfield 12, 3), (.getfield 118, 3)] (41, [(0, z_r 0), (1, .inl x1), (2, .inl x2), (3, .inl x3), (4, .inl x4)], [.inl (S 1 7), .inl x4], zW T' G' S n, 1, 6) (by decide +kernel) rfl ⟨trivial, trivial, rfl, rfl, trivial⟩ ?_
    refine z_icmp_ge 148 M.1.1 (off := 107) (by decide +kernel) (by decide) (fun c41 => ?_) (fun c41 => ?_)
    · rw [if_pos c41] at K hs
      exact z_lvs (lv' := [(3, .inl x3)]) [3] rfl (hE x3 K)
    · rw [if_neg c41] at K hs
      refine z_go2 M.1.1 44 [(.aload_n 0, 1), (.getfield 12, 3), (.getfield 313, 3), (.iload 4, 2)] (53, [(0, z_r 0), (1, .inl x1), (2, .inl x2), (3, .inl x3), (4, .inl x4)], [.inl x4, z_r 2], zW T' G' S n, 1, 6) (by decide +kernel) rfl ⟨trivial, rfl, rfl, trivial, trivial⟩ ?_
      refine z_callS M.1.1 (av := [z_r 2, .inl x4]) (st := []) (by decide +kernel) (c_at (zW T' G' S n) 2 900 rfl (by decide) x4) M.1.2.1 zl_T_134 zs_T_at ⟨by decide, by decide, by decide, by decide⟩ rfl (Nat.le_of_ble_eq_true rfl) (fun v w' hv => ?_)
      obtain ⟨rfl, rfl⟩ := hv
      show z_G X zm_T_stateOn (56, [(0, z_r 0), (1, .inl x1), (2, .inl x2), (3, .inl x3), (4, .inl x4)], [.inl (zAt (S 2) 900 x4)], zW T' G' S n, 1, 6)
      refine z_go2 M.1.1 56 [(.iload_n 2, 1)] (57, [(0, z_r 0), (1, .inl x1), (2, .inl x2), (3, .inl x3), (4, .inl x4)], [.inl x2, .inl (zAt (S 2) 900 x4)], zW T' G' S n, 1, 6) (by decide +kernel) rfl ⟨trivial, trivial⟩ ?_
      refine z_icmp_gt 148 M.1.1 (off := 91) (by decide +kernel) (by decide) (fun c57 => ?_) (fun c57 => ?_)
      · rw [if_pos c57] at K hs
        exact z_lvs (lv' := [(3, .inl x3)]) [3] rfl (hE x3 K)
      · rw [if_neg c57] at K hs
        refine z_go2 M.1.1 60 [(.aload_n 0, 1), (.getfield 12, 3), (.getfield 316, 3), (.iload 4, 2)] (69, [(0, z_r 0), (1, .inl x1), (2, .inl x2), (3, .inl x3), (4, .inl x4)], [.inl x4, z_r 4], zW T' G' S n, 1, 6) (by decide +kernel) rfl ⟨trivial, rfl, rfl, trivial, trivial⟩ ?_
        refine z_callS M.1.1 (av := [z_r 4, .inl x4]) (st := []) (by decide +kernel) (c_at (zW T' G' S n) 4 900 rfl (by decide) x4) M.1.2.1 zl_T_134 zs_T_at ⟨by decide, by decide, by decide, by decide⟩ rfl (Nat.le_of_ble_eq_true rfl) (fun v w' hv => ?_)
        obtain ⟨rfl, rfl⟩ := hv
        show z_G X zm_T_stateOn (72, [(0, z_r 0), (1, .inl x1), (2, .inl x2), (3, .inl x3), (4, .inl x4)], [.inl (zAt (S 4) 900 x4)], zW T' G' S n, 1, 6)
        refine z_go2 M.1.1 72 [(.iload_n 1, 1)] (73, [(0, z_r 0), (1, .inl x1), (2, .inl x2), (3, .inl x3), (4, .inl x4)], [.inl x1, .inl (zAt (S 4) 900 x4)], zW T' G' S n, 1, 6) (by decide +kernel) rfl ⟨trivial, trivial⟩ ?_
        refine z_icmp_ne 98 M.1.1 (off := 25) (by decide +kernel) (by decide) (fun c73 => ?_) (fun c73 => ?_)
        · rw [if_neg c73] at K hs
          exact z_lvs (lv' := [(0, z_r 0), (1, .inl x1), (2, .inl x2), (3, .inl x3), (4, .inl x4)]) [0, 1, 2, 3, 4] rfl (t_T_stateOn_l32_98 M (F_T_stateOn_L32 S x1 x2 f) (Sf_T_stateOn_L32 S x1 x2 f) S x1 x2 x3 x4 hE hC K hs)
        · rw [if_pos c73] at K hs
          refine z_go2 M.1.1 76 [(.aload_n 0, 1), (.getfield 12, 3), (.getfield 319, 3), (.iload 4, 2)] (85, [(0, z_r 0), (1, .inl x1), (2, .inl x2), (3, .inl x3), (4, .inl x4)], [.inl x4, z_r 5], zW T' G' S n, 1, 6) (by decide +kernel) rfl ⟨trivial, rfl, rfl, trivial, trivial⟩ ?_
          refine z_callS M.1.1 (av := [z_r 5, .inl x4]) (st := []) (by decide +kernel) (c_at (zW T' G' S n) 5 900 rfl (by decide) x4) M.1.2.1 zl_T_134 zs_T_at ⟨by decide, by decide, by decide, by decide⟩ rfl (Nat.le_of_ble_eq_true rfl) (fun v w' hv => ?_)
          obtain ⟨rfl, rfl⟩ := hv
          show z_G X zm_T_stateOn (88, [(0, z_r 0), (1, .inl x1), (2, .inl x2), (3, .inl x3), (4, .inl x4)], [.inl (zAt (S 5) 900 x4)], zW T' G' S n, 1, 6)
          refine z_go2 M.1.1 88 [(.bipush 13, 2)] (90, [(0, z_r 0), (1, .inl x1), (2, .inl x2), (3, .inl x3), (4, .inl x4)], [.inl 13, .inl (zAt (S 5) 900 x4)], zW T' G' S n, 1, 6) (by decide +kernel) rfl ⟨trivial, trivial⟩ ?_
          refine z_icmp_ne 98 M.1.1 (off := 8) (by decide +kernel) (by decide) (fun c90 => ?_) (fun c90 => ?_)
          · rw [if_neg c90] at K hs
            exact z_lvs (lv' := [(0, z_r 0), (1, .inl x1), (2, .inl x2), (3, .inl x3), (4, .inl x4)]) [0, 1, 2, 3, 4] rfl (t_T_stateOn_l32_98 M (F_T_stateOn_L32 S x1 x2 f) (Sf_T_stateOn_L32 S x1 x2 f) S x1 x2 x3 x4 hE hC K hs)
          · rw [if_pos c90] at K hs
            refine z_go2 M.1.1 93 [(.iconst 0, 1), (.istore_n 3, 1), (.goto 47, 3), (.iinc 4 1, 3), (.goto (-113), 3)] (32, [(4, .inl (x4 + 1)), (3, .inl 0), (0, z_r 0), (1, .inl x1), (2, .inl x2)], [], zW T' G' S n, 1, 6) (by decide +kernel) rfl ⟨trivial, trivial, trivial, trivial, trivial, trivial⟩ ?_
            exact z_lvs (lv' := [(0, z_r 0), (1, .inl x1), (2, .inl x2), (3, .inl 0), (4, .inl (x4 + 1))]) [2, 3, 4, 1, 0] rfl (hC 0 (x4 + 1) K hs)
def F_T_stateOn (S : (Nat → Nat → Int32)) (p1 : Int32) (p2 : Int32) : ((String ⊕ Int32) × (Nat → Nat → Int32)) := (if (F_World_has 9 S p1) = 0 then (.inl "java/lang/IndexOutOfBoundsException", S) else (if (F_T_isDay S p2) = 0 then (.inl "java/lang/IndexOutOfBoundsException", S) else (match F_T_stateOn_L32 S p1 p2 1300 (-1) 0 with | y3_32 => (.inr y3_32, S))))
def Sf_T_stateOn (S : (Nat → Nat → Int32)) (p1 : Int32) (p2 : Int32) : Prop := (if (F_World_has 9 S p1) = 0 then True else (if (F_T_isDay S p2) = 0 then True else (Sf_T_stateOn_L32 S p1 p2 1300 (-1) 0 ∧ True)))
theorem c_T_stateOn (T' : Nat → Nat × Nat) (G' : Nat → Nat → Option Nat) (S : (Nat → Nat → Int32)) (n : Nat) (p1 : Int32) (p2 : Int32) (hs : Sf_T_stateOn S p1 p2) : z_RunX rm_T_stateOn zm_T_stateOn [z_r 0, .inl p1, .inl p2] (zW T' G' S n) (fun v w' => ∃ x S', F_T_stateOn S p1 p2 = (.inr x, S') ∧ v = some (.inl x) ∧ w' = zW T' G' S' n) (fun E w' => ∃ S' n2, n < n2 ∧ F_T_stateOn S p1 p2 = (.inl E, S') ∧ w' = zW T' G' S' n2) := by
  refine z_bodyX (by decide) zf_T_ok (Nat.le_of_ble_eq_true rfl) (fun X M => ?_)
  obtain ⟨Q, hQ, hX, K⟩ : ∃ Q : ((String ⊕ Int32) × (Nat → Nat → Int32)) → Prop, (∀ v S', Q (.inr v, S') → ∃ x S'', F_T_stateOn S p1 p2 = (.inr x, S'') ∧ some (.inl v : z_V) = some (.inl x) ∧ zW T' G' S' n = zW T' G' S'' n) ∧ (∀ E S' (n2 : Nat), n < n2 → Q (.inl E, S') → ∃ S'' n3, n < n3 ∧ F_T_stateOn S p1 p2 = (.inl E, S'') ∧ zW T' G' S' n2 = zW T' G' S'' n3) ∧ Q (F_T_stateOn S p1 p2) := ⟨fun o => F_T_stateOn S p1 p2 = o, fun v S' h => ⟨v, S', h, rfl, rfl⟩, fun E S' n2 hn h => ⟨S', n2, hn, h, rfl⟩, rfl⟩
  show z_G X zm_T_stateOn (0, [(0, z_r 0), (1, .inl p1), (2, .inl p2)], [], zW T' G' S n, 0, 0)
  unfold F_T_stateOn at K
  unfold Sf_T_stateOn at hs
  refine z_go2 M.1.1 0 [(.aload_n 0, 1), (.getfield 19, 3), (.iload_n 1, 1)] (5, [(0, z_r 0), (1, .inl p1), (2, .inl p2)], [.inl p1, z_r 9], zW T' G' S n, 0, 0) (by decide +kernel) rfl ⟨trivial, rfl, trivial, trivial⟩ ?_
  refine z_callV M.1.1 (av := [.inl p1]) (st := []) (a := 9) (ci := 10) (by decide +kernel) (c_World_has_9 T' G' S n p1) M.1.2.1 zl_T_210 zv_World_has rfl rfl rfl ⟨by decide, by decide, by decide, by decide⟩ rfl (Nat.le_of_ble_eq_true rfl) (fun v w' hv => ?_)
  obtain ⟨rfl, rfl⟩ := hv
  show z_G X zm_T_stateOn (8, [(0, z_r 0), (1, .inl p1), (2, .inl p2)], [.inl (F_World_has 9 S p1)], zW T' G' S n, 0, 0)
  refine z_if_eq 23 M.1.1 (off := 15) (by decide +kernel) (by decide) (fun c8 => ?_) (fun c8 => ?_)
  · rw [if_pos c8] at K hs
    refine z_go2 M.1.1 23 [(.iconst 0, 1)] (24, [(0, z_r 0), (1, .inl p1), (2, .inl p2)], [.inl 0], zW T' G' S n, 0, 0) (by decide +kernel) rfl ⟨trivial, trivial⟩ ?_
    refine z_callSX M.1.1 (av := [.inl 0]) (st := []) (by decide +kernel) (c_mustExist T' G' S n 0) M.1.2.1 zl_T_104 (z_wi 527 (by decide +kernel) rfl) zs_T_mustExist ⟨by decide, by decide, by decide, by decide⟩ rfl (Nat.le_of_ble_eq_true rfl) (fun E w' hx => ?_) (fun v w' hv => ?_)
    · obtain ⟨h0, rfl, n2, hn2, rfl⟩ := hx
      exact M.2 _ _ (hX _ _ n2 hn2 K) (Nat.le_of_ble_eq_true rfl) (Nat.le_of_ble_eq_true rfl)
    · obtain ⟨h0, rfl, rfl⟩ := hv
      exact absurd rfl h0
  · rw [if_neg c8] at K hs
    refine z_go2 M.1.1 11 [(.aload_n 0, 1), (.iload_n 2, 1)] (13, [(0, z_r 0), (1, .inl p1), (2, .inl p2)], [.inl p2, z_r 0], zW T' G' S n, 0, 0) (by decide +kernel) rfl ⟨trivial, trivial, trivial⟩ ?_
    refine z_callV M.1.1 (av := [.inl p2]) (st := []) (a := 0) (ci := 11) (by decide +kernel) (c_T_isDay T' G' S n p2) M.1.2.1 zl_T_293 zv_T_isDay rfl rfl rfl ⟨by decide, by decide, by decide, by decide⟩ rfl (Nat.le_of_ble_eq_true rfl) (fun v w' hv => ?_)
    obtain ⟨rfl, rfl⟩ := hv
    show z_G X zm_T_stateOn (16, [(0, z_r 0), (1, .inl p1), (2, .inl p2)], [.inl (F_T_isDay S p2)], zW T' G' S n, 0, 0)
    refine z_if_eq 23 M.1.1 (off := 7) (by decide +kernel) (by decide) (fun c16 => ?_) (fun c16 => ?_)
    · rw [if_pos c16] at K hs
      refine z_go2 M.1.1 23 [(.iconst 0, 1)] (24, [(0, z_r 0), (1, .inl p1), (2, .inl p2)], [.inl 0], zW T' G' S n, 0, 0) (by decide +kernel) rfl ⟨trivial, trivial⟩ ?_
      refine z_callSX M.1.1 (av := [.inl 0]) (st := []) (by decide +kernel) (c_mustExist T' G' S n 0) M.1.2.1 zl_T_104 (z_wi 527 (by decide +kernel) rfl) zs_T_mustExist ⟨by decide, by decide, by decide, by decide⟩ rfl (Nat.le_of_ble_eq_true rfl) (fun E w' hx => ?_) (fun v w' hv => ?_)
      · obtain ⟨h0, rfl, n2, hn2, rfl⟩ := hx
        exact M.2 _ _ (hX _ _ n2 hn2 K) (Nat.le_of_ble_eq_true rfl) (Nat.le_of_ble_eq_true rfl)
      · obtain ⟨h0, rfl, rfl⟩ := hv
        exact absurd rfl h0
    · rw [if_neg c16] at K hs
      refine z_go2 M.1.1 19 [(.iconst 1, 1), (.goto 4, 3)] (24, [(0, z_r 0), (1, .inl p1), (2, .inl p2)], [.inl 1], zW T' G' S n, 0, 0) (by decide +kernel) rfl ⟨trivial, trivial, trivial⟩ ?_
      refine z_callSX M.1.1 (av := [.inl 1]) (st := []) (by decide +kernel) (c_mustExist T' G' S n 1) M.1.2.1 zl_T_104 (z_wi 527 (by decide +kernel) rfl) zs_T_mustExist ⟨by decide, by decide, by decide, by decide⟩ rfl (Nat.le_of_ble_eq_true rfl) (fun E w' hx => ?_) (fun v w' hv => ?_)
      · obtain ⟨h0, rfl, n2, hn2, rfl⟩ := hx
        exact absurd h0 (by decide)
      · obtain ⟨h0, rfl, rfl⟩ := hv
        show z_G X zm_T_stateOn (27, [(0, z_r 0), (1, .inl p1), (2, .inl p2)], [], zW T' G' S n, 1, 6)
        refine z_go2 M.1.1 27 [(.iconst (-1), 1), (.istore_n 3, 1), (.iconst 0, 1), (.istore 4, 2)] (32, [(4, .inl 0), (3, .inl (-1)), (0, z_r 0), (1, .inl p1), (2, .inl p2)], [], zW T' G' S n, 1, 6) (by decide +kernel) rfl ⟨trivial, trivial, trivial, trivial, trivial⟩ ?_
        refine z_lvs (lv' := [(0, z_r 0), (1, .inl p1), (2, .inl p2), (3, .inl (-1)), (4, .inl 0)]) [2, 3, 4, 1, 0] rfl ?_
        refine t_T_stateOn_L32 M (Q := fun o => F_T_stateOn_L32 S p1 p2 1300 (-1) 0 = o) S p1 p2 (fun y3_32 hL32 => ?_) 1300 (-1) 0 rfl hs.1
        replace hs := hs.2
        rw [hL32] at K
        try dsimp only at K
        refine z_go2 M.1.1 148 [(.iload_n 3, 1)] (149, [(3, .inl y3_32)], [.inl y3_32], zW T' G' S n, 1, 6) (by decide +kernel) rfl ⟨trivial, trivial⟩ ?_
        exact z_iret M.1 (by decide +kernel) .int rfl rfl (by decide) (by decide) (hQ _ _ K)

-- TrackHouse.stateOnAnew
abbrev rm_T_stateOnAnew : Room := zx 7 1
def F_T_stateOnAnew_l48_107 (rc : Int32 → Int32 → (Int32)) (S : (Nat → Nat → Int32)) (x1 : Int32) (x2 : Int32) (x3 : Int32) (x4 : Int32) : (Int32) := (if (zAt (S 4) 900 x4) = x1 then (if (zAt (S 5) 900 x4) = 0 then (rc (zAt (S 7) 900 x4) (x4 + (-1))) else (rc x3 (x4 + (-1)))) else (rc x3 (x4 + (-1))))
def Sf_T_stateOnAnew_l48_107 (rc : Int32 → Int32 → (Int32)) (sr : Int32 → Int32 → Prop) (S : (Nat → Nat → Int32)) (x1 : Int32) (x2 : Int32) (x3 : Int32) (x4 : Int32) : Prop := (if (zAt (S 4) 900 x4) = x1 then (if (zAt (S 5) 900 x4) = 0 then (sr (zAt (S 7) 900 x4) (x4 + (-1))) else (sr x3 (x4 + (-1)))) else (sr x3 (x4 + (-1))))
theorem t_T_stateOnAnew_l48_107 {X : z_X} {Post : Option z_V → z_W → Prop} {PX : String → z_W → Prop} (M : z_MX X zm_T_stateOnAnew rm_T_stateOnAnew Post PX) {T' : Nat → Nat × Nat} {G' : Nat → Nat → Option Nat} {n : Nat} {Q : (Int32) → Prop} (rc : Int32 → Int32 → (Int32)) (sr : Int32 → Int32 → Prop) (S : (Nat → Nat → Int32)) (x1 : Int32) (x2 : Int32) (x3 : Int32) (x4 : Int32) (hE : ∀ (y3 : Int32), Q y3 → z_G X zm_T_stateOnAnew (157, [(3, .inl y3)], [], zW T' G' S n, 1, 6)) (hC : ∀ (x3 : Int32) (x4 : Int32), Q (rc x3 x4) → sr x3 x4 → z_G X zm_T_stateOnAnew (48, [(0, z_r 0), (1, .inl x1), (2, .inl x2), (3, .inl x3), (4, .inl x4)], [], zW T' G' S n, 1, 6)) (K : Q (F_T_stateOnAnew_l48_107 rc S x1 x2 x3 x4)) (hs : Sf_T_stateOnAnew_l48_107 rc sr S x1 x2 x3 x4) : z_G X zm_T_stateOnAnew (107, [(0, z_r 0), (1, .inl x1), (2, .inl x2), (3, .inl x3), (4, .inl x4)], [], zW T' G' S n, 1, 6) := by
  unfold F_T_stateOnAnew_l48_107 at K
  unfold Sf_T_stateOnAnew_l48_107 at hs
  refine z_go2 M.1.1 107 [(.aload_n 0, 1), (.getfield 12, 3), (.getfield 316, 3), (.iload 4, 2)] (116, [(0, z_r 0), (1, .inl x1), (2, .inl x2), (3, .inl x3), (4, .inl x4)], [.inl x4, z_r 4], zW T' G' S n, 1, 6) (by decide +kernel) rfl ⟨trivial, rfl, rfl, trivial, trivial⟩ ?_
  refine z_callS M.1.1 (av := [z_r 4, .inl x4]) (st := []) (by decide +kernel) (c_at (zW T' G' S n) 4 900 rfl (by decide) x4) M.1.2.1 zl_T_134 zs_T_at ⟨by decide, by decide, by decide, by decide⟩ rfl (Nat.le_of_ble_eq_true rfl) (fun v w' hv => ?_)
  obtain ⟨rfl, rfl⟩ := hv
  show z_G X zm_T_stateOnAnew (119, [(0, z_r 0), (1, .inl x1), (2, .inl x2), (3, .inl x3), (4, .inl x4)], [.inl (zAt (S 4) 900 x4)], zW T' G' S n, 1, 6)
  refine z_go2 M.1.1 119 [(.iload_n 1, 1)] (120, [(0, z_r 0), (1, .inl x1), (2, .inl x2), (3, .inl x3), (4, .inl x4)], [.inl x1, .inl (zAt (S 4) 900 x4)], zW T' G' S n, 1, 6) (by decide +kernel) rfl ⟨trivial, trivial⟩ ?_
  refine z_icmp_ne 151 M.1.1 (off := 31) (by decide +kernel) (by decide) (fun c120 => ?_) (fun c120 => ?_)
  · rw [if_neg c120] at K hs
    refine z_go2 M.1.1 151 [(.iinc 4 (-1), 3), (.goto (-106), 3)] (48, [(4, .inl (x4 + (-1))), (0, z_r 0), (1, .inl x1), (2, .inl x2), (3, .inl x3)], [], zW T' G' S n, 1, 6) (by decide +kernel) rfl ⟨trivial, trivial, trivial⟩ ?_
    exact z_lvs (lv' := [(0, z_r 0), (1, .inl x1), (2, .inl x2), (3, .inl x3), (4, .inl (x4 + (-1)))]) [1, 2, 3, 4, 0] rfl (hC x3 (x4 + (-1)) K hs)
  · rw [if_pos c120] at K hs
    refine z_go2 M.1.1 123 [(.aload_n 0, 1), (.getfield 12, 3), (.getfield 319, 3), (.iload 4, 2)] (132, [(0, z_r 0), (1, .inl x1), (2, .inl x2), (3, .inl x3), (4, .inl x4)], [.inl x4, z_r 5], zW T' G' S n, 1, 6) (by decide +kernel) rfl ⟨trivial, rfl, rfl, trivial, trivial⟩ ?_
    refine z_callS M.1.1 (av := [z_r 5, .inl x4]) (st := []) (by decide +kernel) (c_at (zW T' G' S n) 5 900 rfl (by decide) x4) M.1.2.1 zl_T_134 zs_T_at ⟨by decide, by decide, by decide, by decide⟩ rfl (Nat.le_of_ble_eq_true rfl) (fun v w' hv => ?_)
    obtain ⟨rfl, rfl⟩ := hv
    show z_G X zm_T_stateOnAnew (135, [(0, z_r 0), (1, .inl x1), (2, .inl x2), (3, .inl x3), (4, .inl x4)], [.inl (zAt (S 5) 900 x4)], zW T' G' S n, 1, 6)
    refine z_if_ne 151 M.1.1 (off := 16) (by decide +kernel) (by decide) (fun c135 => ?_) (fun c135 => ?_)
    · rw [if_neg c135] at K hs
      refine z_go2 M.1.1 151 [(.iinc 4 (-1), 3), (.goto (-106), 3)] (48, [(4, .inl (x4 + (-1))), (0, z_r 0), (1, .inl x1), (2, .inl x2), (3, .inl x3)], [], zW T' G' S n, 1, 6) (by decide +kernel) rfl ⟨trivial, trivial, trivial⟩ ?_
      exact z_lvs (lv' := [(0, z_r 0), (1, .inl x1), (2, .inl x2), (3, .inl x3), (4, .inl (x4 + (-1)))]) [1, 2, 3, 4, 0] rfl (hC x3 (x4 + (-1)) K hs)
    · rw [if_pos c135] at K hs
      refine z_go2 M.1.1 138 [(.aload_n 0, 1), (.getfield 12, 3), (.getfield 325, 3), (.iload 4, 2)] (147, [(0, z_r 0), (1, .inl x1), (2, .inl x2), (3, .inl x3), (4, .inl x4)], [.inl x4, z_r 7], zW T' G' S n, 1, 6) (by decide +kernel) rfl ⟨trivial, rfl, rfl, trivial, trivial⟩ ?_
      refine z_callS M.1.1 (av := [z_r 7, .inl x4]) (st := []) (by decide +kernel) (c_at (zW T' G' S n) 7 900 rfl (by decide) x4) M.1.2.1 zl_T_134 zs_T_at ⟨by decide, by decide, by decide, by decide⟩ rfl (Nat.le_of_ble_eq_true rfl) (fun v w' hv => ?_)
      obtain ⟨rfl, rfl⟩ := hv
      show z_G X zm_T_stateOnAnew (150, [(0, z_r 0), (1, .inl x1), (2, .inl x2), (3, .inl x3), (4, .inl x4)], [.inl (zAt (S 7) 900 x4)], zW T' G' S n, 1, 6)
      refine z_go2 M.1.1 150 [(.istore_n 3, 1), (.iinc 4 (-1), 3), (.goto (-106), 3)] (48, [(4, .inl (x4 + (-1))), (3, .inl (zAt (S 7) 900 x4)), (0, z_r 0), (1, .inl x1), (2, .inl x2)], [], zW T' G' S n, 1, 6) (by decide +kernel) rfl ⟨trivial, trivial, trivial, trivial⟩ ?_
      exact z_lvs (lv' := [(0, z_r 0), (1, .inl x1), (2, .inl x2), (3, .inl (zAt (S 7) 900 x4)), (4, .inl (x4 + (-1)))]) [2, 3, 4, 1, 0] rfl (hC (zAt (S 7) 900 x4) (x4 + (-1)) K hs)
def F_T_stateOnAnew_L48 (S : (Nat → Nat → Int32)) (x1 : Int32) (x2 : Int32) : Nat → Int32 → Int32 → (Int32)
  | 0, x3, x4 => x3
  | f + 1, x3, x4 => (if x4 < 0 then x3 else (if (zAt (S 2) 900 x4) ≤ x2 then x3 else (if (zAt (S 4) 900 x4) = x1 then (if (zAt (S 5) 900 x4) = 13 then ((F_T_stateOnAnew_L48 S x1 x2 f) (-1) (x4 + (-1))) else (F_T_stateOnAnew_l48_107 (F_T_stateOnAnew_L48 S x1 x2 f) S x1 x2 x3 x4)) else (F_T_stateOnAnew_l48_107 (F_T_stateOnAnew_L48 S x1 x2 f) S x1 x2 x3 x4))))
def Sf_T_stateOnAnew_L48 (S : (Nat → Nat → Int32)) (x1 : Int32) (x2 : Int32) : Nat → Int32 → Int32 → Prop
  | 0, _, _ => False
  | f + 1, x3, x4 => (if x4 < 0 then True else (if (zAt (S 2) 900 x4) ≤ x2 then True else (if (zAt (S 4) 900 x4) = x1 then (if (zAt (S 5) 900 x4) = 13 then ((Sf_T_stateOnAnew_L48 S x1 x2 f) (-1) (x4 + (-1))) else (Sf_T_stateOnAnew_l48_107 (F_T_stateOnAnew_L48 S x1 x2 f) (Sf_T_stateOnAnew_L48 S x1 x2 f) S x1 x2 x3 x4)) else (Sf_T_stateOnAnew_l48_107 (F_T_stateOnAnew_L48 S x1 x2 f) (Sf_T_stateOnAnew_L48 S x1 x2 f) S x1 x2 x3 x4))))
theorem t_T_stateOnAnew_L48 {X : z_X} {Post : Option z_V → z_W → Prop} {PX : String → z_W → Prop} (M : z_MX X zm_T_stateOnAnew rm_T_stateOnAnew Post PX) {T' : Nat → Nat × Nat} {G' : Nat → Nat → Option Nat} {n : Nat} {Q : (Int32) → Prop} (S : (Nat → Nat → Int32))  (x1 : Int32) (x2 : Int32) (hE : ∀ (y3 : Int32), Q y3 → z_G X zm_T_stateOnAnew (157, [(3, .inl y3)], [], zW T' G' S n, 1, 6)) (f : Nat) : ∀ (x3 : Int32) (x4 : Int32), Q (F_T_stateOnAnew_L48 S x1 x2 f x3 x4) → Sf_T_stateOnAnew_L48 S x1 x2 f x3 x4 → z_G X zm_T_stateOnAnew (48, [(0, z_r 0), (1, .inl x1), (2, .inl x2), (3, .inl x3), (4, .inl x4)], [], zW T' G' S n, 1, 6) := by
  induction f with
  | zero => intro x3 x4 K hs; exact False.elim hs
  | succ f hC =>
    intro x3 x4 K hs
    rw [F_T_stateOnAnew_L48] at K
    rw [Sf_T_stateOnAnew_L48] at hs
    refine z_go2 M.1.1 48 [(.iload 4, 2)] (50, [(0, z_r 0), (1, .inl x1), (2, .inl x2), (3, .inl x3), (4, .inl x4)], [.inl x4], zW T' G' S n, 1, 6) (by decide +kernel) rfl ⟨trivial, trivial⟩ ?_
    refine z_if_lt 157 M.1.1 (off := 107) (by decide +kernel) (by decide) (fun c50 => ?_) (fun c50 => ?_)
    · rw [if_pos c50] at K hs
      exact z_lvs (lv' := [(3, .inl x3)]) [3] rfl (hE x3 K)
    · rw [if_neg c50] at K hs
      refine z_go2 M.1.1 53 [(.aload_n 0, 1), (.getfield 12, 3), (.getfield 313, 3), (.iload 4, 2)] (62, [(0, z_r 0), (1, .inl x1), (2, .inl x2), (3, .inl x3), (4, .inl x4)], [.inl x4, z_r 2], zW T' G' S n, 1, 6) (by decide +kernel) rfl ⟨trivial, rfl, rfl, trivial, trivial⟩ ?_
      refine z_callS M.1.1 (av := [z_r 2, .inl x4]) (st := []) (by decide +kernel) (c_at (zW T' G' S n) 2 900 rfl (by decide) x4) M.1.2.1 zl_T_134 zs_T_at ⟨by decide, by decide, by decide, by decide⟩ rfl (Nat.le_of_ble_eq_true rfl) (fun v w' hv => ?_)
      obtain ⟨rfl, rfl⟩ := hv
      show z_G X zm_T_stateOnAnew (65, [(0, z_r 0), (1, .inl x1), (2, .inl x2), (3, .inl x3), (4, .inl x4)], [.inl (zAt (S 2) 900 x4)], zW T' G' S n, 1, 6)
      refine z_go2 M.1.1 65 [(.iload_n 2, 1)] (66, [(0, z_r 0), (1, .inl x1), (2, .inl x2), (3, .inl x3), (4, .inl x4)], [.inl x2, .inl (zAt (S 2) 900 x4)], zW T' G' S n, 1, 6) (by decide +kernel) rfl ⟨trivial, trivial⟩ ?_
      refine z_icmp_le 157 M.1.1 (off := 91) (by decide +kernel) (by decide) (fun c66 => ?_) (fun c66 => ?_)
      · rw [if_pos c66] at K hs
        exact z_lvs (lv' := [(3, .inl x3)]) [3] rfl (hE x3 K)
      · rw [if_neg c66] at K hs
        refine z_go2 M.1.1 69 [(.aload_n 0, 1), (.getfield 12, 3), (.getfield 316, 3), (.iload 4, 2)] (78, [(0, z_r 0), (1, .inl x1), (2, .inl x2), (3, .inl x3), (4, .inl x4)], [.inl x4, z_r 4], zW T' G' S n, 1, 6) (by decide +kernel) rfl ⟨trivial, rfl, rfl, trivial, trivial⟩ ?_
        refine z_callS M.1.1 (av := [z_r 4, .inl x4]) (st := []) (by decide +kernel) (c_at (zW T' G' S n) 4 900 rfl (by decide) x4) M.1.2.1 zl_T_134 zs_T_at ⟨by decide, by decide, by decide, by decide⟩ rfl (Nat.le_of_ble_eq_true rfl) (fun v w' hv => ?_)
        obtain ⟨rfl, rfl⟩ := hv
        show z_G X zm_T_stateOnAnew (81, [(0, z_r 0), (1, .inl x1), (2, .inl x2), (3, .inl x3), (4, .inl x4)], [.inl (zAt (S 4) 900 x4)], zW T' G' S n, 1, 6)
        refine z_go2 M.1.1 81 [(.iload_n 1, 1)] (82, [(0, z_r 0), (1, .inl x1), (2, .inl x2), (3, .inl x3), (4, .inl x4)], [.inl x1, .inl (zAt (S 4) 900 x4)], zW T' G' S n, 1, 6) (by decide +kernel) rfl ⟨trivial, trivial⟩ ?_
        refine z_icmp_ne 107 M.1.1 (off := 25) (by decide +kernel) (by decide) (fun c82 => ?_) (fun c82 => ?_)
        · rw [if_neg c82] at K hs
          exact z_lvs (lv' := [(0, z_r 0), (1, .inl x1), (2, .inl x2), (3, .inl x3), (4, .inl x4)]) [0, 1, 2, 3, 4] rfl (t_T_stateOnAnew_l48_107 M (F_T_stateOnAnew_L48 S x1 x2 f) (Sf_T_stateOnAnew_L48 S x1 x2 f) S x1 x2 x3 x4 hE hC K hs)
        · rw [if_pos c82] at K hs
          refine z_go2 M.1.1 85 [(.aload_n 0, 1), (.getfield 12, 3), (.getfield 319, 3), (.iload 4, 2)] (94, [(0, z_r 0), (1, .inl x1), (2, .inl x2), (3, .inl x3), (4, .inl x4)], [.inl x4, z_r 5], zW T' G' S n, 1, 6) (by decide +kernel) rfl ⟨trivial, rfl, rfl, trivial, trivial⟩ ?_
          refine z_callS M.1.1 (av := [z_r 5, .inl x4]) (st := []) (by decide +kernel) (c_at (zW T' G' S n) 5 900 rfl (by decide) x4) M.1.2.1 zl_T_134 zs_T_at ⟨by decide, by decide, by decide, by decide⟩ rfl (Nat.le_of_ble_eq_true rfl) (fun v w' hv => ?_)
          obtain ⟨rfl, rfl⟩ := hv
          show z_G X zm_T_stateOnAnew (97, [(0, z_r 0), (1, .inl x1), (2, .inl x2), (3, .inl x3), (4, .inl x4)], [.inl (zAt (S 5) 900 x4)], zW T' G' S n, 1, 6)
          refine z_go2 M.1.1 97 [(.bipush 13, 2)] (99, [(0, z_r 0), (1, .inl x1), (2, .inl x2), (3, .inl x3), (4, .inl x4)], [.inl 13, .inl (zAt (S 5) 900 x4)], zW T' G' S n, 1, 6) (by decide +kernel) rfl ⟨trivial, trivial⟩ ?_
          refine z_icmp_ne 107 M.1.1 (off := 8) (by decide +kernel) (by decide) (fun c99 => ?_) (fun c99 => ?_)
          · rw [if_neg c99] at K hs
            exact z_lvs (lv' := [(0, z_r 0), (1, .inl x1), (2, .inl x2), (3, .inl x3), (4, .inl x4)]) [0, 1, 2, 3, 4] rfl (t_T_stateOnAnew_l48_107 M (F_T_stateOnAnew_L48 S x1 x2 f) (Sf_T_stateOnAnew_L48 S x1 x2 f) S x1 x2 x3 x4 hE hC K hs)
          · rw [if_pos c99] at K hs
            refine z_go2 M.1.1 102 [(.iconst (-1), 1), (.istore_n 3, 1), (.goto 47, 3), (.iinc 4 (-1), 3), (.goto (-106), 3)] (48, [(4, .inl (x4 + (-1))), (3, .inl (-1)), (0, z_r 0), (1, .inl x1), (2, .inl x2)], [], zW T' G' S n, 1, 6) (by decide +kernel) rfl ⟨trivial, trivial, trivial, trivial, trivial, trivial⟩ ?_
            exact z_lvs (lv' := [(0, z_r 0), (1, .inl x1), (2, .inl x2), (3, .inl (-1)), (4, .inl (x4 + (-1)))]) [2, 3, 4, 1, 0] rfl (hC (-1) (x4 + (-1)) K hs)
def F_T_stateOnAnew (S : (Nat → Nat → Int32)) (p1 : Int32) (p2 : Int32) : ((String ⊕ Int32) × (Nat → Nat → Int32)) := (if (F_World_has 9 S p1) = 0 then (.inl "java/lang/IndexOutOfBoundsException", S) else (if (F_T_isDay S p2) = 0 then (.inl "java/lang/IndexOutOfBoundsException", S) else (match F_T_stateOnAnew_L48 S p1 p2 1300 (F_World_cell 9 S p1 0) ((S 1 7) - 1) with | y3_48 => (.inr y3_48, S))))
def Sf_T_stateOnAnew (S : (Nat → Nat → Int32)) (p1 : Int32) (p2 : Int32) : Prop := (if (F_World_has 9 S p1) = 0 then True else (if (F_T_isDay S p2) = 0 then True else (Sf_World_cell 9 S p1 0 ∧ (Sf_T_stateOnAnew_L48 S p1 p2 1300 (F_World_cell 9 S p1 0) ((S 1 7) - 1) ∧ True))))
theorem c_T_stateOnAnew (T' : Nat → Nat × Nat) (G' : Nat → Nat → Option Nat) (S : (Nat → Nat → Int32)) (n : Nat) (p1 : Int32) (p2 : Int32) (hs : Sf_T_stateOnAnew S p1 p2) : z_RunX rm_T_stateOnAnew zm_T_stateOnAnew [z_r 0, .inl p1, .inl p2] (zW T' G' S n) (fun v w' => ∃ x S', F_T_stateOnAnew S p1 p2 = (.inr x, S') ∧ v = some (.inl x) ∧ w' = zW T' G' S' n) (fun E w' => ∃ S' n2, n < n2 ∧ F_T_stateOnAnew S p1 p2 = (.inl E, S') ∧ w' = zW T' G' S' n2) := by
  refine z_bodyX (by decide) zf_T_ok (Nat.le_of_ble_eq_true rfl) (fun X M => ?_)
  obtain ⟨Q, hQ, hX, K⟩ : ∃ Q : ((String ⊕ Int32) × (Nat → Nat → Int32)) → Prop, (∀ v S', Q (.inr v, S') → ∃ x S'', F_T_stateOnAnew S p1 p2 = (.inr x, S'') ∧ some (.inl v : z_V) = some (.inl x) ∧ zW T' G' S' n = zW T' G' S'' n) ∧ (∀ E S' (n2 : Nat), n < n2 → Q (.inl E, S') → ∃ S'' n3, n < n3 ∧ F_T_stateOnAnew S p1 p2 = (.inl E, S'') ∧ zW T' G' S' n2 = zW T' G' S'' n3) ∧ Q (F_T_stateOnAnew S p1 p2) := ⟨fun o => F_T_stateOnAnew S p1 p2 = o, fun v S' h => ⟨v, S', h, rfl, rfl⟩, fun E S' n2 hn h => ⟨S', n2, hn, h, rfl⟩, rfl⟩
  show z_G X zm_T_stateOnAnew (0, [(0, z_r 0), (1, .inl p1), (2, .inl p2)], [], zW T' G' S n, 0, 0)
  unfold F_T_stateOnAnew at K
  unfold Sf_T_stateOnAnew at hs
  refine z_go2 M.1.1 0 [(.aload_n 0, 1), (.getfield 19, 3), (.iload_n 1, 1)] (5, [(0, z_r 0), (1, .inl p1), (2, .inl p2)], [.inl p1, z_r 9], zW T' G' S n, 0, 0) (by decide +kernel) rfl ⟨trivial, rfl, trivial, trivial⟩ ?_
  refine z_callV M.1.1 (av := [.inl p1]) (st := []) (a := 9) (ci := 10) (by decide +kernel) (c_World_has_9 T' G' S n p1) M.1.2.1 zl_T_210 zv_World_has rfl rfl rfl ⟨by decide, by decide, by decide, by decide⟩ rfl (Nat.le_of_ble_eq_true rfl) (fun v w' hv => ?_)
  obtain ⟨rfl, rfl⟩ := hv
  show z_G X zm_T_stateOnAnew (8, [(0, z_r 0), (1, .inl p1), (2, .inl p2)], [.inl (F_World_has 9 S p1)], zW T' G' S n, 0, 0)
  refine z_if_eq 23 M.1.1 (off := 15) (by decide +kernel) (by decide) (fun c8 => ?_) (fun c8 => ?_)
  · rw [if_pos c8] at K hs
    refine z_go2 M.1.1 23 [(.iconst 0, 1)] (24, [(0, z_r 0), (1, .inl p1), (2, .inl p2)], [.inl 0], zW T' G' S n, 0, 0) (by decide +kernel) rfl ⟨trivial, trivial⟩ ?_
    refine z_callSX M.1.1 (av := [.inl 0]) (st := []) (by decide +kernel) (c_mustExist T' G' S n 0) M.1.2.1 zl_T_104 (z_wi 527 (by decide +kernel) rfl) zs_T_mustExist ⟨by decide, by decide, by decide, by decide⟩ rfl (Nat.le_of_ble_eq_true rfl) (fun E w' hx => ?_) (fun v w' hv => ?_)
    · obtain ⟨h0, rfl, n2, hn2, rfl⟩ := hx
      exact M.2 _ _ (hX _ _ n2 hn2 K) (Nat.le_of_ble_eq_true rfl) (Nat.le_of_ble_eq_true rfl)
    · obtain ⟨h0, rfl, rfl⟩ := hv
      exact absurd rfl h0
  · rw [if_neg c8] at K hs
    refine z_go2 M.1.1 11 [(.aload_n 0, 1), (.iload_n 2, 1)] (13, [(0, z_r 0), (1, .inl p1), (2, .inl p2)], [.inl p2, z_r 0], zW T' G' S n, 0, 0) (by decide +kernel) rfl ⟨trivial, trivial, trivial⟩ ?_
    refine z_callV M.1.1 (av := [.inl p2]) (st := []) (a := 0) (ci := 11) (by decide +kernel) (c_T_isDay T' G' S n p2) M.1.2.1 zl_T_293 zv_T_isDay rfl rfl rfl ⟨by decide, by decide, by decide, by decide⟩ rfl (Nat.le_of_ble_eq_true rfl) (fun v w' hv => ?_)
    obtain ⟨rfl, rfl⟩ := hv
    show z_G X zm_T_stateOnAnew (16, [(0, z_r 0), (1, .inl p1), (2, .inl p2)], [.inl (F_T_isDay S p2)], zW T' G' S n, 0, 0)
    refine z_if_eq 23 M.1.1 (off := 7) (by decide +kernel) (by decide) (fun c16 => ?_) (fun c16 => ?_)
    · rw [if_pos c16] at K hs
      refine z_go2 M.1.1 23 [(.iconst 0, 1)] (24, [(0, z_r 0), (1, .inl p1), (2, .inl p2)], [.inl 0], zW T' G' S n, 0, 0) (by decide +kernel) rfl ⟨trivial, trivial⟩ ?_
      refine z_callSX M.1.1 (av := [.inl 0]) (st := []) (by decide +kernel) (c_mustExist T' G' S n 0) M.1.2.1 zl_T_104 (z_wi 527 (by decide +kernel) rfl) zs_T_mustExist ⟨by decide, by decide, by decide, by decide⟩ rfl (Nat.le_of_ble_eq_true rfl) (fun E w' hx => ?_) (fun v w' hv => ?_)
      · obtain ⟨h0, rfl, n2, hn2, rfl⟩ := hx
        exact M.2 _ _ (hX _ _ n2 hn2 K) (Nat.le_of_ble_eq_true rfl) (Nat.le_of_ble_eq_true rfl)
      · obtain ⟨h0, rfl, rfl⟩ := hv
        exact absurd rfl h0
    · rw [if_neg c16] at K hs
      refine z_go2 M.1.1 19 [(.iconst 1, 1), (.goto 4, 3)] (24, [(0, z_r 0), (1, .inl p1), (2, .inl p2)], [.inl 1], zW T' G' S n, 0, 0) (by decide +kernel) rfl ⟨trivial, trivial, trivial⟩ ?_
      refine z_callSX M.1.1 (av := [.inl 1]) (st := []) (by decide +kernel) (c_mustExist T' G' S n 1) M.1.2.1 zl_T_104 (z_wi 527 (by decide +kernel) rfl) zs_T_mustExist ⟨by decide, by decide, by decide, by decide⟩ rfl (Nat.le_of_ble_eq_true rfl) (fun E w' hx => ?_) (fun v w' hv => ?_)
      · obtain ⟨h0, rfl, n2, hn2, rfl⟩ := hx
        exact absurd h0 (by decide)
      · obtain ⟨h0, rfl, rfl⟩ := hv
        show z_G X zm_T_stateOnAnew (27, [(0, z_r 0), (1, .inl p1), (2, .inl p2)], [], zW T' G' S n, 1, 6)
        refine z_go2 M.1.1 27 [(.aload_n 0, 1), (.getfield 19, 3), (.iload_n 1, 1), (.iconst 0, 1)] (33, [(0, z_r 0), (1, .inl p1), (2, .inl p2)], [.inl 0, .inl p1, z_r 9], zW T' G' S n, 1, 6) (by decide +kernel) rfl ⟨trivial, rfl, trivial, trivial, trivial⟩ ?_
        refine z_callV M.1.1 (av := [.inl p1, .inl 0]) (st := []) (a := 9) (ci := 10) (by decide +kernel) (c_World_cell_9 T' G' S n p1 0 hs.1) M.1.2.1 zl_T_207 zv_World_cell rfl rfl rfl ⟨by decide, by decide, by decide, by decide⟩ rfl (Nat.le_of_ble_eq_true rfl) (fun v w' hv => ?_)
        obtain ⟨rfl, rfl⟩ := hv
        replace hs := hs.2
        show z_G X zm_T_stateOnAnew (36, [(0, z_r 0), (1, .inl p1), (2, .inl p2)], [.inl (F_World_cell 9 S p1 0)], zW T' G' S n, 1, 6)
        refine z_go2 M.1.1 36 [(.istore_n 3, 1), (.aload_n 0, 1), (.getfield 12, 3), (.getfield 118, 3), (.iconst 1, 1), (.isub, 1), (.istore 4, 2)] (48, [(4, .inl ((S 1 7) - 1)), (3, .inl (F_World_cell 9 S p1 0)), (0, z_r 0), (1, .inl p1), (2, .inl p2)], [], zW T' G' S n, 1, 6) (by decide +kernel) rfl ⟨trivial, trivial, rfl, rfl, trivial, trivial, trivial, trivial⟩ ?_
        refine z_lvs (lv' := [(0, z_r 0), (1, .inl p1), (2, .inl p2), (3, .inl (F_World_cell 9 S p1 0)), (4, .inl ((S 1 7) - 1))]) [2, 3, 4, 1, 0] rfl ?_
        refine t_T_stateOnAnew_L48 M (Q := fun o => F_T_stateOnAnew_L48 S p1 p2 1300 (F_World_cell 9 S p1 0) ((S 1 7) - 1) = o) S p1 p2 (fun y3_48 hL48 => ?_) 1300 (F_World_cell 9 S p1 0) ((S 1 7) - 1) rfl hs.1
        replace hs := hs.2
        rw [hL48] at K
        try dsimp only at K
        refine z_go2 M.1.1 157 [(.iload_n 3, 1)] (158, [(3, .inl y3_48)], [.inl y3_48], zW T' G' S n, 1, 6) (by decide +kernel) rfl ⟨trivial, trivial⟩ ?_
        exact z_iret M.1 (by decide +kernel) .int rfl rfl (by decide) (by decide) (hQ _ _ K)

-- TrackHouse.field
abbrev rm_T_field : Room := zx 7 2
def F_T_field (S : (Nat → Nat → Int32)) (p1 : Int32) (p2 : Int32) (p3 : Int32) : ((String ⊕ Int32) × (Nat → Nat → Int32)) := (if (F_T_isPerson S p1) = 0 then (.inl "java/lang/IndexOutOfBoundsException", S) else (match F_T_isSeen S p1 p2 with | (r10, S10) => (if r10 = 0 then (.inl "java/lang/IndexOutOfBoundsException", S10) else (if (F_T_isAnyField S10 p3) = 0 then (.inl "java/lang/IllegalArgumentException", S10) else (.inr (F_Sight_value 9 S10 p2 p3), S10)))))
def Sf_T_field (S : (Nat → Nat → Int32)) (p1 : Int32) (p2 : Int32) (p3 : Int32) : Prop := (if (F_T_isPerson S p1) = 0 then True else (Sf_T_isSeen S p1 p2 ∧ (match F_T_isSeen S p1 p2 with | (r10, S10) => (if r10 = 0 then True else (if (F_T_isAnyField S10 p3) = 0 then True else (Sf_Sight_value 9 S10 p2 p3 ∧ True))))))
theorem c_T_field (T' : Nat → Nat × Nat) (G' : Nat → Nat → Option Nat) (q0 : Nat) (S : (Nat → Nat → Int32)) (n : Nat) (p1 : Int32) (p2 : Int32) (p3 : Int32) (hs : Sf_T_field S p1 p2 p3) : z_RunX rm_T_field zm_T_field [z_r 0, .inl p1, .inl p2, .inl p3] (zW T' (zwG G' q0) S n) (fun v w' => ∃ x S' q, F_T_field S p1 p2 p3 = (.inr x, S') ∧ v = some (.inl x) ∧ w' = zW T' (zwG G' q) S' n) (fun E w' => ∃ S' n2 q, n < n2 ∧ F_T_field S p1 p2 p3 = (.inl E, S') ∧ w' = zW T' (zwG G' q) S' n2) := by
  refine z_bodyX (by decide) zf_T_ok (Nat.le_of_ble_eq_true rfl) (fun X M => ?_)
  obtain ⟨Q, hQ, hX, K⟩ : ∃ Q : ((String ⊕ Int32) × (Nat → Nat → Int32)) → Prop, (∀ v S' q, Q (.inr v, S') → ∃ x S'' q2, F_T_field S p1 p2 p3 = (.inr x, S'') ∧ some (.inl v : z_V) = some (.inl x) ∧ zW T' (zwG G' q) S' n = zW T' (zwG G' q2) S'' n) ∧ (∀ E S' (n2 : Nat) q, n < n2 → Q (.inl E, S') → ∃ S'' n3 q2, n < n3 ∧ F_T_field S p1 p2 p3 = (.inl E, S'') ∧ zW T' (zwG G' q) S' n2 = zW T' (zwG G' q2) S'' n3) ∧ Q (F_T_field S p1 p2 p3) := ⟨fun o => F_T_field S p1 p2 p3 = o, fun v S' q h => ⟨v, S', q, h, rfl, rfl⟩, fun E S' n2 q hn h => ⟨S', n2, q, hn, h, rfl⟩, rfl⟩
  show z_G X zm_T_field (0, [(0, z_r 0), (1, .inl p1), (2, .inl p2), (3, .inl p3)], [], zW T' (zwG G' q0) S n, 0, 0)
  unfold F_T_field at K
  unfold Sf_T_field at hs
  refine z_go2 M.1.1 0 [(.iload_n 1, 1)] (1, [(0, z_r 0), (1, .inl p1), (2, .inl p2), (3, .inl p3)], [.inl p1], zW T' (zwG G' q0) S n, 0, 0) (by decide +kernel) rfl ⟨trivial, trivial⟩ ?_
  refine z_callS M.1.1 (av := [.inl p1]) (st := []) (by decide +kernel) (c_T_isPerson T' (zwG G' q0) S n p1) M.1.2.1 zl_T_97 zs_T_isPerson ⟨by decide, by decide, by decide, by decide⟩ rfl (Nat.le_of_ble_eq_true rfl) (fun v w' hv => ?_)
  obtain ⟨rfl, rfl⟩ := hv
  show z_G X zm_T_field (4, [(0, z_r 0), (1, .inl p1), (2, .inl p2), (3, .inl p3)], [.inl (F_T_isPerson S p1)], zW T' (zwG G' q0) S n, 0, 0)
  refine z_if_eq 20 M.1.1 (off := 16) (by decide +kernel) (by decide) (fun c4 => ?_) (fun c4 => ?_)
  · rw [if_pos c4] at K hs
    refine z_go2 M.1.1 20 [(.iconst 0, 1)] (21, [(0, z_r 0), (1, .inl p1), (2, .inl p2), (3, .inl p3)], [.inl 0], zW T' (zwG G' q0) S n, 0, 0) (by decide +kernel) rfl ⟨trivial, trivial⟩ ?_
    refine z_callSX M.1.1 (av := [.inl 0]) (st := []) (by decide +kernel) (c_mustExist T' (zwG G' q0) S n 0) M.1.2.1 zl_T_104 (z_wi 527 (by decide +kernel) rfl) zs_T_mustExist ⟨by decide, by decide, by decide, by decide⟩ rfl (Nat.le_of_ble_eq_true rfl) (fun E w' hx => ?_) (fun v w' hv => ?_)
    · obtain ⟨h0, rfl, n2, hn2, rfl⟩ := hx
      exact M.2 _ _ (hX _ _ n2 _ hn2 K) (Nat.le_of_ble_eq_true rfl) (Nat.le_of_ble_eq_true rfl)
    · obtain ⟨h0, rfl, rfl⟩ := hv
      exact absurd rfl h0
  · rw [if_neg c4] at K hs
    refine z_go2 M.1.1 7 [(.aload_n 0, 1), (.iload_n 1, 1), (.iload_n 2, 1)] (10, [(0, z_r 0), (1, .inl p1), (2, .inl p2), (3, .inl p3)], [.inl p2, .inl p1, z_r 0], zW T' (zwG G' q0) S n, 0, 0) (by decide +kernel) rfl ⟨trivial, trivial, trivial, trivial⟩ ?_
    refine z_callV M.1.1 (av := [.inl p1, .inl p2]) (st := []) (a := 0) (ci := 11) (by decide +kernel) (c_T_isSeen T' G' q0 S n p1 p2 hs.1) M.1.2.1 zl_T_238 zv_T_isSeen rfl rfl rfl ⟨by decide, by decide, by decide, by decide⟩ rfl (Nat.le_of_ble_eq_true rfl) (fun v w' hv => ?_)
    replace hs := hs.2
    rcases hF10 : F_T_isSeen S p1 p2 with ⟨r10, S10⟩
    rw [hF10] at K hv
    try rw [hF10] at hs
    try dsimp only at K hs
    obtain ⟨rfl, rfl⟩ := hv
    show z_G X zm_T_field (13, [(0, z_r 0), (1, .inl p1), (2, .inl p2), (3, .inl p3)], [.inl r10], zW T' (zwG G' 9) S10 n, 0, 0)
    refine z_if_eq 20 M.1.1 (off := 7) (by decide +kernel) (by decide) (fun c13 => ?_) (fun c13 => ?_)
    · rw [if_pos c13] at K hs
      refine z_go2 M.1.1 20 [(.iconst 0, 1)] (21, [(0, z_r 0), (1, .inl p1), (2, .inl p2), (3, .inl p3)], [.inl 0], zW T' (zwG G' 9) S10 n, 0, 0) (by decide +kernel) rfl ⟨trivial, trivial⟩ ?_
      refine z_callSX M.1.1 (av := [.inl 0]) (st := []) (by decide +kernel) (c_mustExist T' (zwG G' 9) S10 n 0) M.1.2.1 zl_T_104 (z_wi 527 (by decide +kernel) rfl) zs_T_mustExist ⟨by decide, by decide, by decide, by decide⟩ rfl (Nat.le_of_ble_eq_true rfl) (fun E w' hx => ?_) (fun v w' hv => ?_)
      · obtain ⟨h0, rfl, n2, hn2, rfl⟩ := hx
        exact M.2 _ _ (hX _ _ n2 _ hn2 K) (Nat.le_of_ble_eq_true rfl) (Nat.le_of_ble_eq_true rfl)
      · obtain ⟨h0, rfl, rfl⟩ := hv
        exact absurd rfl h0
    · rw [if_neg c13] at K hs
      refine z_go2 M.1.1 16 [(.iconst 1, 1), (.goto 4, 3)] (21, [(0, z_r 0), (1, .inl p1), (2, .inl p2), (3, .inl p3)], [.inl 1], zW T' (zwG G' 9) S10 n, 0, 0) (by decide +kernel) rfl ⟨trivial, trivial, trivial⟩ ?_
      refine z_callSX M.1.1 (av := [.inl 1]) (st := []) (by decide +kernel) (c_mustExist T' (zwG G' 9) S10 n 1) M.1.2.1 zl_T_104 (z_wi 527 (by decide +kernel) rfl) zs_T_mustExist ⟨by decide, by decide, by decide, by decide⟩ rfl (Nat.le_of_ble_eq_true rfl) (fun E w' hx => ?_) (fun v w' hv => ?_)
      · obtain ⟨h0, rfl, n2, hn2, rfl⟩ := hx
        exact absurd h0 (by decide)
      · obtain ⟨h0, rfl, rfl⟩ := hv
        show z_G X zm_T_field (24, [(0, z_r 0), (1, .inl p1), (2, .inl p2), (3, .inl p3)], [], zW T' (zwG G' 9) S10 n, 1, 6)
        refine z_go2 M.1.1 24 [(.iload_n 3, 1)] (25, [(0, z_r 0), (1, .inl p1), (2, .inl p2), (3, .inl p3)], [.inl p3], zW T' (zwG G' 9) S10 n, 1, 6) (by decide +kernel) rfl ⟨trivial, trivial⟩ ?_
        refine z_callS M.1.1 (av := [.inl p3]) (st := []) (by decide +kernel) (c_T_isAnyField T' (zwG G' 9) S10 n p3) M.1.2.1 zl_T_148 zs_T_isAnyField ⟨by decide, by decide, by decide, by decide⟩ rfl (Nat.le_of_ble_eq_true rfl) (fun v w' hv => ?_)
        obtain ⟨rfl, rfl⟩ := hv
        show z_G X zm_T_field (28, [(0, z_r 0), (1, .inl p1), (2, .inl p2), (3, .inl p3)], [.inl (F_T_isAnyField S10 p3)], zW T' (zwG G' 9) S10 n, 1, 6)
        refine z_callSX M.1.1 (av := [.inl (F_T_isAnyField S10 p3)]) (st := []) (by decide +kernel) (c_mustFit T' (zwG G' 9) S10 n (F_T_isAnyField S10 p3)) M.1.2.1 zl_T_111 (z_wi 601 (by decide +kernel) rfl) zs_T_mustFit ⟨by decide, by decide, by decide, by decide⟩ rfl (Nat.le_of_ble_eq_true rfl) (fun E w' hx => ?_) (fun v w' hv => ?_)
        · obtain ⟨h0, rfl, n2, hn2, rfl⟩ := hx
          rw [if_pos h0] at K
          exact M.2 _ _ (hX _ _ n2 _ hn2 K) (Nat.le_of_ble_eq_true rfl) (Nat.le_of_ble_eq_true rfl)
        · obtain ⟨h0, rfl, rfl⟩ := hv
          rw [if_neg h0] at K hs
          show z_G X zm_T_field (31, [(0, z_r 0), (1, .inl p1), (2, .inl p2), (3, .inl p3)], [], zW T' (zwG G' 9) S10 n, 2, 12)
          refine z_go2 M.1.1 31 [(.aload_n 0, 1), (.getfield 47, 3), (.iload_n 2, 1), (.iload_n 3, 1)] (37, [(0, z_r 0), (1, .inl p1), (2, .inl p2), (3, .inl p3)], [.inl p3, .inl p2, z_r 36], zW T' (zwG G' 9) S10 n, 2, 12) (by decide +kernel) rfl ⟨trivial, rfl, trivial, trivial, trivial⟩ ?_
          refine z_callV M.1.1 (av := [.inl p2, .inl p3]) (st := []) (a := 36) (ci := 8) (by decide +kernel) (c_Sight_value_9 T' G' S10 n p2 p3 hs.1) M.1.2.1 zl_T_328 zv_Sight_value rfl rfl rfl ⟨by decide, by decide, by decide, by decide⟩ rfl (Nat.le_of_ble_eq_true rfl) (fun v w' hv => ?_)
          obtain ⟨rfl, rfl⟩ := hv
          replace hs := hs.2
          show z_G X zm_T_field (40, [(0, z_r 0), (1, .inl p1), (2, .inl p2), (3, .inl p3)], [.inl (F_Sight_value 9 S10 p2 p3)], zW T' (zwG G' 9) S10 n, 2, 12)
          exact z_iret M.1 (by decide +kernel) .int rfl rfl (by decide) (by decide) (hQ _ _ _ K)

