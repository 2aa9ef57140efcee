-- TrackHouse.bulk
abbrev rm_T_bulk : Room := zx 7 4
def F_T_bulk_l102_144 (rc : (Nat → Nat → Int32) → Int32 → Int32 → (Int32 × (Nat → Nat → Int32))) (S : (Nat → Nat → Int32)) (x1 : Int32) (x2 : Int32) (x3 : Int32) (x4 : Int32) (x5 : Int32) (x6 : Int32) (x7 : Int32) : (Int32 × (Nat → Nat → Int32)) := (if (F_T_isIn S x4 x7) = 0 then (rc S x5 (x7 + 1)) else (rc S (x5 + 1) (x7 + 1)))
def Sf_T_bulk_l102_144 (rc : (Nat → Nat → Int32) → Int32 → Int32 → (Int32 × (Nat → Nat → Int32))) (sr : (Nat → Nat → Int32) → Int32 → Int32 → Prop) (S : (Nat → Nat → Int32)) (x1 : Int32) (x2 : Int32) (x3 : Int32) (x4 : Int32) (x5 : Int32) (x6 : Int32) (x7 : Int32) : Prop := (if (F_T_isIn S x4 x7) = 0 then (sr S x5 (x7 + 1)) else (sr S (x5 + 1) (x7 + 1)))
theorem t_T_bulk_l102_144 {X : z_X} {Post : Option z_V → z_W → Prop} {PX : String → z_W → Prop} (M : z_MX X zm_T_bulk rm_T_bulk Post PX) {T' : Nat → Nat × Nat} {G' : Nat → Nat → Option Nat} {n : Nat} {q0 : Nat} {Q : (Int32 × (Nat → Nat → Int32)) → Prop} (rc : (Nat → Nat → Int32) → Int32 → Int32 → (Int32 × (Nat → Nat → Int32))) (sr : (Nat → Nat → Int32) → Int32 → Int32 → Prop) (S : (Nat → Nat → Int32)) (x1 : Int32) (x2 : Int32) (x3 : Int32) (x4 : Int32) (x5 : Int32) (x6 : Int32) (x7 : Int32) (hE : ∀ (y5 : Int32) (S' : (Nat → Nat → Int32)), Q (y5, S') → z_G X zm_T_bulk (163, [(0, z_r 0), (1, .inl x1), (2, .inl x2), (5, .inl y5), (6, .inl x6)], [], zW T' (zwG G' 28) S' n, 3, 18)) (hC : ∀ (S : (Nat → Nat → Int32)) (x5 : Int32) (x7 : Int32), Q (rc S x5 x7) → sr S x5 x7 → z_G X zm_T_bulk (102, [(0, z_r 0), (1, .inl x1), (2, .inl x2), (3, .inl x3), (4, .inl x4), (5, .inl x5), (6, .inl x6), (7, .inl x7)], [], zW T' (zwG G' 28) S n, 3, 18)) (K : Q (F_T_bulk_l102_144 rc S x1 x2 x3 x4 x5 x6 x7)) (hs : Sf_T_bulk_l102_144 rc sr S x1 x2 x3 x4 x5 x6 x7) : z_G X zm_T_bulk (144, [(0, z_r 0), (1, .inl x1), (2, .inl x2), (3, .inl x3), (4, .inl x4), (5, .inl x5), (6, .inl x6), (7, .inl x7)], [], zW T' (zwG G' 28) S n, 3, 18) := by
  unfold F_T_bulk_l102_144 at K
  unfold Sf_T_bulk_l102_144 at hs
  refine z_go2 M.1.1 144 [(.iload 4, 2), (.iload 7, 2)] (148, [(0, z_r 0), (1, .inl x1), (2, .inl x2), (3, .inl x3), (4, .inl x4), (5, .inl x5), (6, .inl x6), (7, .inl x7)], [.inl x7, .inl x4], zW T' (zwG G' 28) S n, 3, 18) (by decide +kernel) rfl ⟨trivial, trivial, trivial⟩ ?_
  refine z_callS M.1.1 (av := [.inl x4, .inl x7]) (st := []) (by decide +kernel) (c_T_isIn T' (zwG G' 28) S n x4 x7) M.1.2.1 zl_T_307 zs_T_isIn ⟨by decide, by decide, by decide, by decide⟩ rfl (Nat.le_of_ble_eq_true rfl) (fun v w' hv => ?_)
  obtain ⟨rfl, rfl⟩ := hv
  show z_G X zm_T_bulk (151, [(0, z_r 0), (1, .inl x1), (2, .inl x2), (3, .inl x3), (4, .inl x4), (5, .inl x5), (6, .inl x6), (7, .inl x7)], [.inl (F_T_isIn S x4 x7)], zW T' (zwG G' 28) S n, 3, 18)
  refine z_if_eq 157 M.1.1 (off := 6) (by decide +kernel) (by decide) (fun c151 => ?_) (fun c151 => ?_)
  · rw [if_pos c151] at K hs
    refine z_go2 M.1.1 157 [(.iinc 7 1, 3), (.goto (-58), 3)] (102, [(7, .inl (x7 + 1)), (0, z_r 0), (1, .inl x1), (2, .inl x2), (3, .inl x3), (4, .inl x4), (5, .inl x5), (6, .inl x6)], [], zW T' (zwG G' 28) S n, 3, 18) (by decide +kernel) rfl ⟨trivial, trivial, trivial⟩ ?_
    exact z_lvs (lv' := [(0, z_r 0), (1, .inl x1), (2, .inl x2), (3, .inl x3), (4, .inl x4), (5, .inl x5), (6, .inl x6), (7, .inl (x7 + 1))]) [1, 2, 3, 4, 5, 6, 7, 0] rfl (hC S x5 (x7 + 1) K hs)
  · rw [if_neg c151] at K hs
    refine z_go2 M.1.1 154 [(.iinc 5 1, 3), (.iinc 7 1, 3), (.goto (-58), 3)] (102, [(7, .inl (x7 + 1)), (5, .inl (x5 + 1)), (0, z_r 0), (1, .inl x1), (2, .inl x2), (3, .inl x3), (4, .inl x4), (6, .inl x6)], [], zW T' (zwG G' 28) S n, 3, 18) (by decide +kernel) rfl ⟨trivial, trivial, trivial, trivial⟩ ?_
    exact z_lvs (lv' := [(0, z_r 0), (1, .inl x1), (2, .inl x2), (3, .inl x3), (4, .inl x4), (5, .inl (x5 + 1)), (6, .inl x6), (7, .inl (x7 + 1))]) [2, 3, 4, 5, 6, 1, 7, 0] rfl (hC S (x5 + 1) (x7 + 1) K hs)
def F_T_bulk_L102 (x1 : Int32) (x2 : Int32) (x3 : Int32) (x4 : Int32) (x6 : Int32) : Nat → (Nat → Nat → Int32) → Int32 → Int32 → (Int32 × (Nat → Nat → Int32))
  | 0, S, x5, x7 => (x5, S)
  | f + 1, S, x5, x7 => (if (30 : Int32) ≤ x7 then (x5, S) else (if (F_T_isIn S x4 x7) = 0 then (F_T_bulk_l102_144 (F_T_bulk_L102 x1 x2 x3 x4 x6 f) S x1 x2 x3 x4 x5 x6 x7) else (if (F_T_canWrite S x7 x2) = 0 then (F_T_bulk_l102_144 (F_T_bulk_L102 x1 x2 x3 x4 x6 f) S x1 x2 x3 x4 x5 x6 x7) else (z_let (F_T_change S x1 x7 ((1 : Int32) + x2) 0 x3) (fun S138 => ((F_T_bulk_L102 x1 x2 x3 x4 x6 f) S138 x5 (x7 + 1)))))))
def Sf_T_bulk_L102 (x1 : Int32) (x2 : Int32) (x3 : Int32) (x4 : Int32) (x6 : Int32) : Nat → (Nat → Nat → Int32) → Int32 → Int32 → Prop
  | 0, _, _, _ => False
  | f + 1, S, x5, x7 => (if (30 : Int32) ≤ x7 then True else (if (F_T_isIn S x4 x7) = 0 then (Sf_T_bulk_l102_144 (F_T_bulk_L102 x1 x2 x3 x4 x6 f) (Sf_T_bulk_L102 x1 x2 x3 x4 x6 f) S x1 x2 x3 x4 x5 x6 x7) else (Sf_T_canWrite S x7 x2 ∧ (if (F_T_canWrite S x7 x2) = 0 then (Sf_T_bulk_l102_144 (F_T_bulk_L102 x1 x2 x3 x4 x6 f) (Sf_T_bulk_L102 x1 x2 x3 x4 x6 f) S x1 x2 x3 x4 x5 x6 x7) else (Sf_T_change S x1 x7 ((1 : Int32) + x2) 0 x3 ∧ (z_let (F_T_change S x1 x7 ((1 : Int32) + x2) 0 x3) (fun S138 => ((Sf_T_bulk_L102 x1 x2 x3 x4 x6 f) S138 x5 (x7 + 1)))))))))
theorem t_T_bulk_L102 {X : z_X} {Post : Option z_V → z_W → Prop} {PX : String → z_W → Prop} (M : z_MX X zm_T_bulk rm_T_bulk Post PX) {T' : Nat → Nat × Nat} {G' : Nat → Nat → Option Nat} {n : Nat} {q0 : Nat} {Q : (Int32 × (Nat → Nat → Int32)) → Prop}  (x1 : Int32) (x2 : Int32) (x3 : Int32) (x4 : Int32) (x6 : Int32) (hE : ∀ (y5 : Int32) (S' : (Nat → Nat → Int32)), Q (y5, S') → z_G X zm_T_bulk (163, [(0, z_r 0), (1, .inl x1), (2, .inl x2), (5, .inl y5), (6, .inl x6)], [], zW T' (zwG G' 28) S' n, 3, 18)) (f : Nat) : ∀ (S : (Nat → Nat → Int32)) (x5 : Int32) (x7 : Int32), Q (F_T_bulk_L102 x1 x2 x3 x4 x6 f S x5 x7) → Sf_T_bulk_L102 x1 x2 x3 x4 x6 f S x5 x7 → z_G X zm_T_bulk (102, [(0, z_r 0), (1, .inl x1), (2, .inl x2), (3, .inl x3), (4, .inl x4), (5, .inl x5), (6, .inl x6), (7, .inl x7)], [], zW T' (zwG G' 28) S n, 3, 18) := by
  induction f with
  | zero => intro S x5 x7 K hs; exact False.elim hs
  | succ f hC =>
    intro S x5 x7 K hs
    rw [F_T_bulk_L102] at K
    rw [Sf_T_bulk_L102] at hs
    refine z_go2 M.1.1 102 [(.iload 7, 2), (.bipush 30, 2)] (106, [(0, z_r 0), (1, .inl x1), (2, .inl x2), (3, .inl x3), (4, .inl x4), (5, .inl x5), (6, .inl x6), (7, .inl x7)], [.inl 30, .inl x7], zW T' (zwG G' 28) S n, 3, 18) (by decide +kernel) rfl ⟨trivial, trivial, trivial⟩ ?_
    refine z_icmp_ge 163 M.1.1 (off := 57) (by decide +kernel) (by decide) (fun c106 => ?_) (fun c106 => ?_)
    · rw [if_pos c106] at K hs
      exact z_lvs (lv' := [(0, z_r 0), (1, .inl x1), (2, .inl x2), (5, .inl x5), (6, .inl x6)]) [0, 1, 2, 5, 6] rfl (hE x5 S K)
    · rw [if_neg c106] at K hs
      refine z_go2 M.1.1 109 [(.iload 4, 2), (.iload 7, 2)] (113, [(0, z_r 0), (1, .inl x1), (2, .inl x2), (3, .inl x3), (4, .inl x4), (5, .inl x5), (6, .inl x6), (7, .inl x7)], [.inl x7, .inl x4], zW T' (zwG G' 28) S n, 3, 18) (by decide +kernel) rfl ⟨trivial, trivial, trivial⟩ ?_
      refine z_callS M.1.1 (av := [.inl x4, .inl x7]) (st := []) (by decide +kernel) (c_T_isIn T' (zwG G' 28) S n x4 x7) M.1.2.1 zl_T_307 zs_T_isIn ⟨by decide, by decide, by decide, by decide⟩ rfl (Nat.le_of_ble_eq_true rfl) (fun v w' hv => ?_)
      obtain ⟨rfl, rfl⟩ := hv
      show z_G X zm_T_bulk (116, [(0, z_r 0), (1, .inl x1), (2, .inl x2), (3, .inl x3), (4, .inl x4), (5, .inl x5), (6, .inl x6), (7, .inl x7)], [.inl (F_T_isIn S x4 x7)], zW T' (zwG G' 28) S n, 3, 18)
      refine z_if_eq 144 M.1.1 (off := 28) (by decide +kernel) (by decide) (fun c116 => ?_) (fun c116 => ?_)
      · rw [if_pos c116] at K hs
        exact z_lvs (lv' := [(0, z_r 0), (1, .inl x1), (2, .inl x2), (3, .inl x3), (4, .inl x4), (5, .inl x5), (6, .inl x6), (7, .inl x7)]) [0, 1, 2, 3, 4, 5, 6, 7] rfl (t_T_bulk_l102_144 M (q0 := q0) (F_T_bulk_L102 x1 x2 x3 x4 x6 f) (Sf_T_bulk_L102 x1 x2 x3 x4 x6 f) S x1 x2 x3 x4 x5 x6 x7 hE hC K hs)
      · rw [if_neg c116] at K hs
        refine z_go2 M.1.1 119 [(.aload_n 0, 1), (.iload 7, 2), (.iload_n 2, 1)] (123, [(0, z_r 0), (1, .inl x1), (2, .inl x2), (3, .inl x3), (4, .inl x4), (5, .inl x5), (6, .inl x6), (7, .inl x7)], [.inl x2, .inl x7, z_r 0], zW T' (zwG G' 28) S n, 3, 18) (by decide +kernel) rfl ⟨trivial, trivial, trivial, trivial⟩ ?_
        refine z_callV M.1.1 (av := [.inl x7, .inl x2]) (st := []) (a := 0) (ci := 11) (by decide +kernel) (c_T_canWrite T' (zwG G' 28) S n x7 x2 hs.1) M.1.2.1 zl_T_244 zv_T_canWrite rfl rfl rfl ⟨by decide, by decide, by decide, by decide⟩ rfl (Nat.le_of_ble_eq_true rfl) (fun v w' hv => ?_)
        obtain ⟨rfl, rfl⟩ := hv
        replace hs := hs.2
        show z_G X zm_T_bulk (126, [(0, z_r 0), (1, .inl x1), (2, .inl x2), (3, .inl x3), (4, .inl x4), (5, .inl x5), (6, .inl x6), (7, .inl x7)], [.inl (F_T_canWrite S x7 x2)], zW T' (zwG G' 28) S n, 3, 18)
        refine z_if_eq 144 M.1.1 (off := 18) (by decide +kernel) (by decide) (fun c126 => ?_) (fun c126 => ?_)
        · rw [if_pos c126] at K hs
          exact z_lvs (lv' := [(0, z_r 0), (1, .inl x1), (2, .inl x2), (3, .inl x3), (4, .inl x4), (5, .inl x5), (6, .inl x6), (7, .inl x7)]) [0, 1, 2, 3, 4, 5, 6, 7] rfl (t_T_bulk_l102_144 M (q0 := q0) (F_T_bulk_L102 x1 x2 x3 x4 x6 f) (Sf_T_bulk_L102 x1 x2 x3 x4 x6 f) S x1 x2 x3 x4 x5 x6 x7 hE hC K hs)
        · rw [if_neg c126] at K hs
          refine z_go2 M.1.1 129 [(.aload_n 0, 1), (.iload_n 1, 1), (.iload 7, 2), (.iconst 1, 1), (.iload_n 2, 1), (.iadd, 1), (.iconst 0, 1), (.iload_n 3, 1)] (138, [(0, z_r 0), (1, .inl x1), (2, .inl x2), (3, .inl x3), (4, .inl x4), (5, .inl x5), (6, .inl x6), (7, .inl x7)], [.inl x3, .inl 0, .inl ((1 : Int32) + x2), .inl x7, .inl x1, z_r 0], zW T' (zwG G' 28) S n, 3, 18) (by decide +kernel) rfl ⟨trivial, trivial, trivial, trivial, trivial, trivial, trivial, trivial, trivial⟩ ?_
          refine z_callV M.1.1 (av := [.inl x1, .inl x7, .inl ((1 : Int32) + x2), .inl 0, .inl x3]) (st := []) (a := 0) (ci := 11) (by decide +kernel) (c_T_change T' (zwG G' 28) S n x1 x7 ((1 : Int32) + x2) 0 x3 hs.1) M.1.2.1 zl_T_121 zv_T_change rfl rfl rfl ⟨by decide, by decide, by decide, by decide⟩ rfl (Nat.le_of_ble_eq_true rfl) (fun v w' hv => ?_)
          replace hs := hs.2
          obtain ⟨S138, hF138⟩ : ∃ y, F_T_change S x1 x7 ((1 : Int32) + x2) 0 x3 = y := ⟨_, rfl⟩
          rw [hF138] at K hv
          try rw [hF138] at hs
          try dsimp only [z_let] at K hs
          obtain ⟨rfl, rfl⟩ := hv
          show z_G X zm_T_bulk (141, [(0, z_r 0), (1, .inl x1), (2, .inl x2), (3, .inl x3), (4, .inl x4), (5, .inl x5), (6, .inl x6), (7, .inl x7)], [], zW T' (zwG G' 28) S138 n, 3, 18)
          refine z_go2 M.1.1 141 [(.goto 16, 3), (.iinc 7 1, 3), (.goto (-58), 3)] (102, [(7, .inl (x7 + 1)), (0, z_r 0), (1, .inl x1), (2, .inl x2), (3, .inl x3), (4, .inl x4), (5, .inl x5), (6, .inl x6)], [], zW T' (zwG G' 28) S138 n, 3, 18) (by decide +kernel) rfl ⟨trivial, trivial, trivial, trivial⟩ ?_
          exact z_lvs (lv' := [(0, z_r 0), (1, .inl x1), (2, .inl x2), (3, .inl x3), (4, .inl x4), (5, .inl x5), (6, .inl x6), (7, .inl (x7 + 1))]) [1, 2, 3, 4, 5, 6, 7, 0] rfl (hC S138 x5 (x7 + 1) K hs)
def F_T_bulk_j49 (S : (Nat → Nat → Int32)) (x1 : Int32) (x2 : Int32) (x3 : Int32) : ((String ⊕ Int32) × (Nat → Nat → Int32)) := (z_let (F_View_readUpTo S (S 0 14)) (fun S60 => (z_let (F_Sight_look 28 S60 x1) (fun S75 => (match F_Finder_hits 28 S75 with | (r82, S82) => (match F_T_bulk_L102 x1 x2 x3 r82 (S82 1 7) 1300 S82 0 0 with | (y5_102, S102) => (match F_T_isSettled S102 (S82 1 7) x1 with | (r179, S179) => (if r179 = 0 then (.inl "java/lang/IllegalStateException", S179) else (z_let (F_Bulks_push S179 x1 x2 (S82 1 7) ((S102 1 7) - (S82 1 7))) (fun S195 => (.inr (((100 : Int32) * ((S102 1 7) - (S82 1 7))) + y5_102), S195)))))))))))
def Sf_T_bulk_j49 (S : (Nat → Nat → Int32)) (x1 : Int32) (x2 : Int32) (x3 : Int32) : Prop := (Sf_View_readUpTo S (S 0 14) ∧ (z_let (F_View_readUpTo S (S 0 14)) (fun S60 => (Sf_Sight_look 28 S60 x1 ∧ (z_let (F_Sight_look 28 S60 x1) (fun S75 => (Sf_Finder_hits 28 S75 ∧ (match F_Finder_hits 28 S75 with | (r82, S82) => (Sf_T_bulk_L102 x1 x2 x3 r82 (S82 1 7) 1300 S82 0 0 ∧ (match F_T_bulk_L102 x1 x2 x3 r82 (S82 1 7) 1300 S82 0 0 with | (y5_102, S102) => (Sf_T_isSettled S102 (S82 1 7) x1 ∧ True)))))))))))
theorem t_T_bulk_j49 {X : z_X} {Post : Option z_V → z_W → Prop} {PX : String → z_W → Prop} (M : z_MX X zm_T_bulk rm_T_bulk Post PX) {T' : Nat → Nat × Nat} {G' : Nat → Nat → Option Nat} {n : Nat} {q0 : Nat} {Q : ((String ⊕ Int32) × (Nat → Nat → Int32)) → Prop} (S : (Nat → Nat → Int32)) (x1 : Int32) (x2 : Int32) (x3 : Int32) (hQ : ∀ v S' (q : Nat), Q (.inr v, S') → Post (some (.inl v)) (zW T' (zwG G' q) S' n)) (hX : ∀ E S' (n2 : Nat) (q : Nat), n ≤ n2 → Q (.inl E, S') → PX E (zW T' (zwG G' q) S' n2)) (K : Q (F_T_bulk_j49 S x1 x2 x3)) (hs : Sf_T_bulk_j49 S x1 x2 x3) : z_G X zm_T_bulk (49, [(0, z_r 0), (1, .inl x1), (2, .inl x2), (3, .inl x3)], [z_r 0], zW T' (zwG G' q0) S n, 3, 18) := by
  unfold F_T_bulk_j49 at K
  unfold Sf_T_bulk_j49 at hs
  refine z_go2 M.1.1 49 [(.getfield 42, 3), (.aload_n 0, 1), (.getfield 12, 3), (.aload_n 0, 1), (.getfield 90, 3)] (60, [(0, z_r 0), (1, .inl x1), (2, .inl x2), (3, .inl x3)], [.inl (S 0 14), z_r 1, z_r 27], zW T' (zwG G' q0) S n, 3, 18) (by decide +kernel) rfl ⟨rfl, trivial, rfl, trivial, rfl, trivial⟩ ?_
  refine z_callV M.1.1 (av := [z_r 1, .inl (S 0 14)]) (st := []) (a := 27) (ci := 9) (by decide +kernel) (c_View_readUpTo T' (zwG G' q0) S n (S 0 14) hs.1) M.1.2.1 zl_T_341 zv_View_readUpTo rfl rfl rfl ⟨by decide, by decide, by decide, by decide⟩ rfl (Nat.le_of_ble_eq_true rfl) (fun v w' hv => ?_)
  replace hs := hs.2
  obtain ⟨S60, hF60⟩ : ∃ y, F_View_readUpTo S (S 0 14) = y := ⟨_, rfl⟩
  rw [hF60] at K hv
  try rw [hF60] at hs
  try dsimp only [z_let] at K hs
  obtain ⟨rfl, rfl⟩ := hv
  show z_G X zm_T_bulk (63, [(0, z_r 0), (1, .inl x1), (2, .inl x2), (3, .inl x3)], [], zW T' (zwG G' q0) S60 n, 3, 18)
  refine z_go2 M.1.1 63 [(.aload_n 0, 1), (.getfield 47, 3), (.aload_n 0, 1), (.getfield 42, 3), (.getfield 346, 3), (.iload_n 1, 1)] (75, [(0, z_r 0), (1, .inl x1), (2, .inl x2), (3, .inl x3)], [.inl x1, z_r 28, z_r 36], zW T' (zwG G' q0) S60 n, 3, 18) (by decide +kernel) rfl ⟨trivial, rfl, trivial, rfl, rfl, trivial, trivial⟩ ?_
  refine z_callV M.1.1 (av := [z_r 28, .inl x1]) (st := []) (a := 36) (ci := 8) (by decide +kernel) (c_Sight_look_28 T' G' q0 S60 n x1 hs.1) M.1.2.1 zl_T_331 zv_Sight_look rfl rfl rfl ⟨by decide, by decide, by decide, by decide⟩ rfl (Nat.le_of_ble_eq_true rfl) (fun v w' hv => ?_)
  replace hs := hs.2
  obtain ⟨S75, hF75⟩ : ∃ y, F_Sight_look 28 S60 x1 = y := ⟨_, rfl⟩
  rw [hF75] at K hv
  try rw [hF75] at hs
  try dsimp only [z_let] at K hs
  obtain ⟨rfl, rfl⟩ := hv
  show z_G X zm_T_bulk (78, [(0, z_r 0), (1, .inl x1), (2, .inl x2), (3, .inl x3)], [], zW T' (zwG G' 28) S75 n, 3, 18)
  refine z_go2 M.1.1 78 [(.aload_n 0, 1), (.getfield 29, 3)] (82, [(0, z_r 0), (1, .inl x1), (2, .inl x2), (3, .inl x3)], [z_r 17], zW T' (zwG G' 28) S75 n, 3, 18) (by decide +kernel) rfl ⟨trivial, rfl, trivial⟩ ?_
  refine z_callV M.1.1 (av := []) (st := []) (a := 17) (ci := 1) (by decide +kernel) (c_Finder_hits_28 T' G' S75 n hs.1) M.1.2.1 zl_T_299 zv_Finder_hits rfl rfl rfl ⟨by decide, by decide, by decide, by decide⟩ rfl (Nat.le_of_ble_eq_true rfl) (fun v w' hv => ?_)
  replace hs := hs.2
  rcases hF82 : F_Finder_hits 28 S75 with ⟨r82, S82⟩
  rw [hF82] at K hv
  try rw [hF82] at hs
  try dsimp only at K hs
  obtain ⟨rfl, rfl⟩ := hv
  show z_G X zm_T_bulk (85, [(0, z_r 0), (1, .inl x1), (2, .inl x2), (3, .inl x3)], [.inl r82], zW T' (zwG G' 28) S82 n, 3, 18)
  refine z_go2 M.1.1 85 [(.istore 4, 2), (.iconst 0, 1), (.istore 5, 2), (.aload_n 0, 1), (.getfield 12, 3), (.getfield 118, 3), (.istore 6, 2), (.iconst 0, 1), (.istore 7, 2)] (102, [(7, .inl 0), (6, .inl (S82 1 7)), (5, .inl 0), (4, .inl r82), (0, z_r 0), (1, .inl x1), (2, .inl x2), (3, .inl x3)], [], zW T' (zwG G' 28) S82 n, 3, 18) (by decide +kernel) rfl ⟨trivial, trivial, trivial, trivial, rfl, rfl, trivial, trivial, trivial, trivial⟩ ?_
  refine z_lvs (lv' := [(0, z_r 0), (1, .inl x1), (2, .inl x2), (3, .inl x3), (4, .inl r82), (5, .inl 0), (6, .inl (S82 1 7)), (7, .inl 0)]) [4, 5, 6, 7, 3, 2, 1, 0] rfl ?_
  refine t_T_bulk_L102 M (q0 := q0) (Q := fun o => F_T_bulk_L102 x1 x2 x3 r82 (S82 1 7) 1300 S82 0 0 = o) x1 x2 x3 r82 (S82 1 7) (fun y5_102 S102 hL102 => ?_) 1300 S82 0 0 rfl hs.1
  replace hs := hs.2
  rw [hL102] at K
  try rw [hL102] at hs
  try dsimp only at K hs
  refine z_go2 M.1.1 163 [(.aload_n 0, 1), (.getfield 12, 3), (.getfield 118, 3), (.iload 6, 2), (.isub, 1), (.istore 7, 2), (.aload_n 0, 1), (.iload 6, 2), (.iload_n 1, 1)] (179, [(7, .inl ((S102 1 7) - (S82 1 7))), (0, z_r 0), (1, .inl x1), (2, .inl x2), (5, .inl y5_102), (6, .inl (S82 1 7))], [.inl x1, .inl (S82 1 7), z_r 0], zW T' (zwG G' 28) S102 n, 3, 18) (by decide +kernel) rfl ⟨trivial, rfl, rfl, trivial, trivial, trivial, trivial, trivial, trivial, trivial⟩ ?_
  refine z_callV M.1.1 (av := [.inl (S82 1 7), .inl x1]) (st := []) (a := 0) (ci := 11) (by decide +kernel) (c_T_isSettled T' (zwG G' 28) S102 n (S82 1 7) x1 hs.1) M.1.2.1 zl_T_219 zv_T_isSettled rfl rfl rfl ⟨by decide, by decide, by decide, by decide⟩ rfl (Nat.le_of_ble_eq_true rfl) (fun v w' hv => ?_)
  replace hs := hs.2
  rcases hF179 : F_T_isSettled S102 (S82 1 7) x1 with ⟨r179, S179⟩
  rw [hF179] at K hv
  try dsimp only at K
  obtain ⟨rfl, rfl⟩ := hv
  show z_G X zm_T_bulk (182, [(7, .inl ((S102 1 7) - (S82 1 7))), (0, z_r 0), (1, .inl x1), (2, .inl x2), (5, .inl y5_102), (6, .inl (S82 1 7))], [.inl r179], zW T' (zwG G' 28) S179 n, 3, 18)
  refine z_callSX M.1.1 (av := [.inl r179]) (st := []) (by decide +kernel) (c_mustBeAllowed T' (zwG G' 28) S179 n r179) M.1.2.1 zl_T_128 (z_wi 847 (by decide +kernel) rfl) zs_T_mustBeAllowed ⟨by decide, by decide, by decide, by decide⟩ rfl (Nat.le_of_ble_eq_true rfl) (fun E w' hx => ?_) (fun v w' hv => ?_)
  · obtain ⟨h0, rfl, n2, hn2, rfl⟩ := hx
    rw [if_pos h0] at K
    exact M.2 _ _ (hX _ _ n2 _ hn2 K) (Nat.le_of_ble_eq_true rfl) (Nat.le_of_ble_eq_true rfl)
  · obtain ⟨h0, rfl, rfl⟩ := hv
    rw [if_neg h0] at K
    show z_G X zm_T_bulk (185, [(7, .inl ((S102 1 7) - (S82 1 7))), (0, z_r 0), (1, .inl x1), (2, .inl x2), (5, .inl y5_102), (6, .inl (S82 1 7))], [], zW T' (zwG G' 28) S179 n, 4, 24)
    refine z_go2 M.1.1 185 [(.aload_n 0, 1), (.getfield 79, 3), (.iload_n 1, 1), (.iload_n 2, 1), (.iload 6, 2), (.iload 7, 2)] (195, [(7, .inl ((S102 1 7) - (S82 1 7))), (0, z_r 0), (1, .inl x1), (2, .inl x2), (5, .inl y5_102), (6, .inl (S82 1 7))], [.inl ((S102 1 7) - (S82 1 7)), .inl (S82 1 7), .inl x2, .inl x1, z_r 71], zW T' (zwG G' 28) S179 n, 4, 24) (by decide +kernel) rfl ⟨trivial, rfl, trivial, trivial, trivial, trivial, trivial⟩ ?_
    refine z_callV M.1.1 (av := [.inl x1, .inl x2, .inl (S82 1 7), .inl ((S102 1 7) - (S82 1 7))]) (st := []) (a := 71) (ci := 0) (by decide +kernel) (c_Bulks_push T' (zwG G' 28) S179 n x1 x2 (S82 1 7) ((S102 1 7) - (S82 1 7))) M.1.2.1 zl_T_384 zv_Bulks_push rfl rfl rfl ⟨by decide, by decide, by decide, by decide⟩ rfl (Nat.le_of_ble_eq_true rfl) (fun v w' hv => ?_)
    obtain ⟨S195, hF195⟩ : ∃ y, F_Bulks_push S179 x1 x2 (S82 1 7) ((S102 1 7) - (S82 1 7)) = y := ⟨_, rfl⟩
    rw [hF195] at K hv
    try dsimp only [z_let] at K
    obtain ⟨rfl, rfl⟩ := hv
    show z_G X zm_T_bulk (198, [(7, .inl ((S102 1 7) - (S82 1 7))), (0, z_r 0), (1, .inl x1), (2, .inl x2), (5, .inl y5_102), (6, .inl (S82 1 7))], [], zW T' (zwG G' 28) S195 n, 4, 24)
    refine z_go2 M.1.1 198 [(.bipush 100, 2), (.iload 7, 2), (.imul, 1), (.iload 5, 2), (.iadd, 1)] (206, [(7, .inl ((S102 1 7) - (S82 1 7))), (0, z_r 0), (1, .inl x1), (2, .inl x2), (5, .inl y5_102), (6, .inl (S82 1 7))], [.inl (((100 : Int32) * ((S102 1 7) - (S82 1 7))) + y5_102)], zW T' (zwG G' 28) S195 n, 4, 24) (by decide +kernel) rfl ⟨trivial, trivial, trivial, trivial, trivial, trivial⟩ ?_
    exact z_iret M.1 (by decide +kernel) .int rfl rfl (by decide) (by decide) (hQ _ _ _ K)
def F_T_bulk (S : (Nat → Nat → Int32)) (p1 : Int32) (p2 : Int32) (p3 : Int32) : ((String ⊕ Int32) × (Nat → Nat → Int32)) := (if (F_T_isPerson S p1) = 0 then (.inl "java/lang/IndexOutOfBoundsException", S) else (if (F_T_isField S p2) = 0 then (.inl "java/lang/IllegalArgumentException", S) else (if (F_T_isValue S p3) = 0 then (.inl "java/lang/IllegalArgumentException", S) else (match F_Query_compile S with | (r33, S33) => (if r33 = (-1) then (F_T_bulk_j49 S33 p1 p2 p3) else (.inl "java/lang/IllegalStateException", S33))))))
def Sf_T_bulk (S : (Nat → Nat → Int32)) (p1 : Int32) (p2 : Int32) (p3 : Int32) : Prop := (if (F_T_isPerson S p1) = 0 then True else (if (F_T_isField S p2) = 0 then True else (if (F_T_isValue S p3) = 0 then True else (Sf_Query_compile S ∧ (match F_Query_compile S with | (r33, S33) => (if r33 = (-1) then (Sf_T_bulk_j49 S33 p1 p2 p3) else True))))))
theorem c_T_bulk (T' : Nat → Nat × Nat) (G' : Nat → Nat → Option Nat) (q0 : Nat) (S : (Nat → Nat → Int32)) (n : Nat) (p1 : Int32) (p2 : Int32) (p3 : Int32) (hs : Sf_T_bulk S p1 p2 p3) : z_RunX rm_T_bulk zm_T_bulk [z_r 0, .inl p1, .inl p2, .inl p3] (zW T' (zwG G' q0) S n) (fun v w' => ∃ x S' q, F_T_bulk S p1 p2 p3 = (.inr x, S') ∧ v = some (.inl x) ∧ w' = zW T' (zwG G' q) S' n) (fun E w' => ∃ S' n2 q, n ≤ n2 ∧ F_T_bulk S p1 p2 p3 = (.inl E, S') ∧ w' = zW T' (zwG G' q) S' n2) := by
  refine z_bodyX (by decide) zf_T_ok (Nat.le_of_ble_eq_true rfl) (fun X M => ?_)
  obtain ⟨Q, hQ, hX, K⟩ : ∃ Q : ((String ⊕ Int32) × (Nat → Nat → Int32)) → Prop, (∀ v S' q, Q (.inr v, S') → ∃ x S'' q2, F_T_bulk S p1 p2 p3 = (.inr x, S'') ∧ some (.inl v : z_V) = some (.inl x) ∧ zW T' (zwG G' q) S' n = zW T' (zwG G' q2) S'' n) ∧ (∀ E S' (n2 : Nat) q, n ≤ n2 → Q (.inl E, S') → ∃ S'' n3 q2, n ≤ n3 ∧ F_T_bulk S p1 p2 p3 = (.inl E, S'') ∧ zW T' (zwG G' q) S' n2 = zW T' (zwG G' q2) S'' n3) ∧ Q (F_T_bulk S p1 p2 p3) := ⟨fun o => F_T_bulk S p1 p2 p3 = o, fun v S' q h => ⟨v, S', q, h, rfl, rfl⟩, fun E S' n2 q hn h => ⟨S', n2, q, hn, h, rfl⟩, rfl⟩
  show z_G X zm_T_bulk (0, [(0, z_r 0), (1, .inl p1), (2, .inl p2), (3, .inl p3)], [], zW T' (zwG G' q0) S n, 0, 0)
  unfold F_T_bulk at K
  unfold Sf_T_bulk at hs
  refine z_go2 M.1.1 0 [(.iload_n 1, 1)] (1, [(0, z_r 0), (1, .inl p1), (2, .inl p2), (3, .inl p3)], [.inl p1], zW T' (zwG G' q0) S n, 0, 0) (by decide +kernel) rfl ⟨trivial, trivial⟩ ?_
  refine z_callS M.1.1 (av := [.inl p1]) (st := []) (by decide +kernel) (c_T_isPerson T' (zwG G' q0) S n p1) M.1.2.1 zl_T_97 zs_T_isPerson ⟨by decide, by decide, by decide, by decide⟩ rfl (Nat.le_of_ble_eq_true rfl) (fun v w' hv => ?_)
  obtain ⟨rfl, rfl⟩ := hv
  show z_G X zm_T_bulk (4, [(0, z_r 0), (1, .inl p1), (2, .inl p2), (3, .inl p3)], [.inl (F_T_isPerson S p1)], zW T' (zwG G' q0) S n, 0, 0)
  refine z_callSX M.1.1 (av := [.inl (F_T_isPerson S p1)]) (st := []) (by decide +kernel) (c_mustExist T' (zwG G' q0) S n (F_T_isPerson S p1)) M.1.2.1 zl_T_104 (z_wi 698 (by decide +kernel) rfl) zs_T_mustExist ⟨by decide, by decide, by decide, by decide⟩ rfl (Nat.le_of_ble_eq_true rfl) (fun E w' hx => ?_) (fun v w' hv => ?_)
  · obtain ⟨h0, rfl, n2, hn2, rfl⟩ := hx
    rw [if_pos h0] at K
    exact M.2 _ _ (hX _ _ n2 _ hn2 K) (Nat.le_of_ble_eq_true rfl) (Nat.le_of_ble_eq_true rfl)
  · obtain ⟨h0, rfl, rfl⟩ := hv
    rw [if_neg h0] at K hs
    show z_G X zm_T_bulk (7, [(0, z_r 0), (1, .inl p1), (2, .inl p2), (3, .inl p3)], [], zW T' (zwG G' q0) S n, 1, 6)
    refine z_go2 M.1.1 7 [(.iload_n 2, 1)] (8, [(0, z_r 0), (1, .inl p1), (2, .inl p2), (3, .inl p3)], [.inl p2], zW T' (zwG G' q0) S n, 1, 6) (by decide +kernel) rfl ⟨trivial, trivial⟩ ?_
    refine z_callS M.1.1 (av := [.inl p2]) (st := []) (by decide +kernel) (c_T_isField T' (zwG G' q0) S n p2) M.1.2.1 zl_T_157 zs_T_isField ⟨by decide, by decide, by decide, by decide⟩ rfl (Nat.le_of_ble_eq_true rfl) (fun v w' hv => ?_)
    obtain ⟨rfl, rfl⟩ := hv
    show z_G X zm_T_bulk (11, [(0, z_r 0), (1, .inl p1), (2, .inl p2), (3, .inl p3)], [.inl (F_T_isField S p2)], zW T' (zwG G' q0) S n, 1, 6)
    refine z_if_eq 25 M.1.1 (off := 14) (by decide +kernel) (by decide) (fun c11 => ?_) (fun c11 => ?_)
    · rw [if_pos c11] at K hs
      refine z_go2 M.1.1 25 [(.iconst 0, 1)] (26, [(0, z_r 0), (1, .inl p1), (2, .inl p2), (3, .inl p3)], [.inl 0], zW T' (zwG G' q0) S n, 1, 6) (by decide +kernel) rfl ⟨trivial, trivial⟩ ?_
      refine z_callSX M.1.1 (av := [.inl 0]) (st := []) (by decide +kernel) (c_mustFit T' (zwG G' q0) S n 0) M.1.2.1 zl_T_111 (z_wi 772 (by decide +kernel) rfl) zs_T_mustFit ⟨by decide, by decide, by decide, by decide⟩ rfl (Nat.le_of_ble_eq_true rfl) (fun E w' hx => ?_) (fun v w' hv => ?_)
      · obtain ⟨h0, rfl, n2, hn2, rfl⟩ := hx
        exact M.2 _ _ (hX _ _ n2 _ hn2 K) (Nat.le_of_ble_eq_true rfl) (Nat.le_of_ble_eq_true rfl)
      · obtain ⟨h0, rfl, rfl⟩ := hv
        exact absurd rfl h0
    · rw [if_neg c11] at K hs
      refine z_go2 M.1.1 14 [(.iload_n 3, 1)] (15, [(0, z_r 0), (1, .inl p1), (2, .inl p2), (3, .inl p3)], [.inl p3], zW T' (zwG G' q0) S n, 1, 6) (by decide +kernel) rfl ⟨trivial, trivial⟩ ?_
      refine z_callS M.1.1 (av := [.inl p3]) (st := []) (by decide +kernel) (c_T_isValue T' (zwG G' q0) S n p3) M.1.2.1 zl_T_241 zs_T_isValue ⟨by decide, by decide, by decide, by decide⟩ rfl (Nat.le_of_ble_eq_true rfl) (fun v w' hv => ?_)
      obtain ⟨rfl, rfl⟩ := hv
      show z_G X zm_T_bulk (18, [(0, z_r 0), (1, .inl p1), (2, .inl p2), (3, .inl p3)], [.inl (F_T_isValue S p3)], zW T' (zwG G' q0) S n, 1, 6)
      refine z_if_eq 25 M.1.1 (off := 7) (by decide +kernel) (by decide) (fun c18 => ?_) (fun c18 => ?_)
      · rw [if_pos c18] at K hs
        refine z_go2 M.1.1 25 [(.iconst 0, 1)] (26, [(0, z_r 0), (1, .inl p1), (2, .inl p2), (3, .inl p3)], [.inl 0], zW T' (zwG G' q0) S n, 1, 6) (by decide +kernel) rfl ⟨trivial, trivial⟩ ?_
        refine z_callSX M.1.1 (av := [.inl 0]) (st := []) (by decide +kernel) (c_mustFit T' (zwG G' q0) S n 0) M.1.2.1 zl_T_111 (z_wi 772 (by decide +kernel) rfl) zs_T_mustFit ⟨by decide, by decide, by decide, by decide⟩ rfl (Nat.le_of_ble_eq_true rfl) (fun E w' hx => ?_) (fun v w' hv => ?_)
        · obtain ⟨h0, rfl, n2, hn2, rfl⟩ := hx
          exact M.2 _ _ (hX _ _ n2 _ hn2 K) (Nat.le_of_ble_eq_true rfl) (Nat.le_of_ble_eq_true rfl)
        · obtain ⟨h0, rfl, rfl⟩ := hv
          exact absurd rfl h0
      · rw [if_neg c18] at K hs
        refine z_go2 M.1.1 21 [(.iconst 1, 1), (.goto 4, 3)] (26, [(0, z_r 0), (1, .inl p1), (2, .inl p2), (3, .inl p3)], [.inl 1], zW T' (zwG G' q0) S n, 1, 6) (by decide +kernel) rfl ⟨trivial, trivial, trivial⟩ ?_
        refine z_callSX M.1.1 (av := [.inl 1]) (st := []) (by decide +kernel) (c_mustFit T' (zwG G' q0) S n 1) M.1.2.1 zl_T_111 (z_wi 772 (by decide +kernel) rfl) zs_T_mustFit ⟨by decide, by decide, by decide, by decide⟩ rfl (Nat.le_of_ble_eq_true rfl) (fun E w' hx => ?_) (fun v w' hv => ?_)
        · obtain ⟨h0, rfl, n2, hn2, rfl⟩ := hx
          exact absurd h0 (by decide)
        · obtain ⟨h0, rfl, rfl⟩ := hv
          show z_G X zm_T_bulk (29, [(0, z_r 0), (1, .inl p1), (2, .inl p2), (3, .inl p3)], [], zW T' (zwG G' q0) S n, 2, 12)
          refine z_go2 M.1.1 29 [(.aload_n 0, 1), (.getfield 37, 3)] (33, [(0, z_r 0), (1, .inl p1), (2, .inl p2), (3, .inl p3)], [z_r 19], zW T' (zwG G' q0) S n, 2, 12) (by decide +kernel) rfl ⟨trivial, rfl, trivial⟩ ?_
          refine z_callV M.1.1 (av := []) (st := []) (a := 19) (ci := 5) (by decide +kernel) (c_Query_compile T' (zwG G' q0) S n hs.1) M.1.2.1 zl_T_290 zv_Query_compile rfl rfl rfl ⟨by decide, by decide, by decide, by decide⟩ rfl (Nat.le_of_ble_eq_true rfl) (fun v w' hv => ?_)
          replace hs := hs.2
          rcases hF33 : F_Query_compile S with ⟨r33, S33⟩
          rw [hF33] at K hv
          try rw [hF33] at hs
          try dsimp only at K hs
          obtain ⟨rfl, rfl⟩ := hv
          show z_G X zm_T_bulk (36, [(0, z_r 0), (1, .inl p1), (2, .inl p2), (3, .inl p3)], [.inl r33], zW T' (zwG G' q0) S33 n, 2, 12)
          refine z_go2 M.1.1 36 [(.iconst (-1), 1)] (37, [(0, z_r 0), (1, .inl p1), (2, .inl p2), (3, .inl p3)], [.inl (-1), .inl r33], zW T' (zwG G' q0) S33 n, 2, 12) (by decide +kernel) rfl ⟨trivial, trivial⟩ ?_
          refine z_icmp_ne 44 M.1.1 (off := 7) (by decide +kernel) (by decide) (fun c37 => ?_) (fun c37 => ?_)
          · rw [if_neg c37] at K hs
            refine z_go2 M.1.1 44 [(.iconst 0, 1)] (45, [(0, z_r 0), (1, .inl p1), (2, .inl p2), (3, .inl p3)], [.inl 0], zW T' (zwG G' q0) S33 n, 2, 12) (by decide +kernel) rfl ⟨trivial, trivial⟩ ?_
            refine z_callSX M.1.1 (av := [.inl 0]) (st := []) (by decide +kernel) (c_mustBeAllowed T' (zwG G' q0) S33 n 0) M.1.2.1 zl_T_128 (z_wi 847 (by decide +kernel) rfl) zs_T_mustBeAllowed ⟨by decide, by decide, by decide, by decide⟩ rfl (Nat.le_of_ble_eq_true rfl) (fun E w' hx => ?_) (fun v w' hv => ?_)
            · obtain ⟨h0, rfl, n2, hn2, rfl⟩ := hx
              exact M.2 _ _ (hX _ _ n2 _ hn2 K) (Nat.le_of_ble_eq_true rfl) (Nat.le_of_ble_eq_true rfl)
            · obtain ⟨h0, rfl, rfl⟩ := hv
              exact absurd rfl h0
          · rw [if_pos c37] at K hs
            refine z_go2 M.1.1 40 [(.iconst 1, 1), (.goto 4, 3)] (45, [(0, z_r 0), (1, .inl p1), (2, .inl p2), (3, .inl p3)], [.inl 1], zW T' (zwG G' q0) S33 n, 2, 12) (by decide +kernel) rfl ⟨trivial, trivial, trivial⟩ ?_
            refine z_callSX M.1.1 (av := [.inl 1]) (st := []) (by decide +kernel) (c_mustBeAllowed T' (zwG G' q0) S33 n 1) M.1.2.1 zl_T_128 (z_wi 847 (by decide +kernel) rfl) zs_T_mustBeAllowed ⟨by decide, by decide, by decide, by decide⟩ rfl (Nat.le_of_ble_eq_true rfl) (fun E w' hx => ?_) (fun v w' hv => ?_)
            · obtain ⟨h0, rfl, n2, hn2, rfl⟩ := hx
              exact absurd h0 (by decide)
            · obtain ⟨h0, rfl, rfl⟩ := hv
              show z_G X zm_T_bulk (48, [(0, z_r 0), (1, .inl p1), (2, .inl p2), (3, .inl p3)], [], zW T' (zwG G' q0) S33 n, 3, 18)
              refine z_go2 M.1.1 48 [(.aload_n 0, 1)] (49, [(0, z_r 0), (1, .inl p1), (2, .inl p2), (3, .inl p3)], [z_r 0], zW T' (zwG G' q0) S33 n, 3, 18) (by decide +kernel) rfl ⟨trivial, trivial⟩ ?_
              exact z_lvs (lv' := [(0, z_r 0), (1, .inl p1), (2, .inl p2), (3, .inl p3)]) [0, 1, 2, 3] rfl (t_T_bulk_j49 M (q0 := q0) S33 p1 p2 p3 hQ hX K hs)

