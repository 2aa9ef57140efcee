-- TrackHouse.set
abbrev rm_T_set : Room := zx 7 4
def F_T_set (S : (Nat → Nat → Int32)) (p1 : Int32) (p2 : Int32) (p3 : Int32) (p4 : Int32) : ((String ⊕ Int32) × (Nat → Nat → Int32)) := (if (F_T_isPerson S p1) = 0 then (.inl "java/lang/IndexOutOfBoundsException", S) else (match F_T_isSeen S p1 p2 with | (r10, S10) => (if r10 = 0 then (.inl "java/lang/IndexOutOfBoundsException", S10) else (if (F_T_isField S10 p3) = 0 then (.inl "java/lang/IllegalArgumentException", S10) else (if (F_T_isValue S10 p4) = 0 then (.inl "java/lang/IllegalArgumentException", S10) else (if (F_T_canWrite S10 p2 p3) = 0 then (.inl "java/lang/IllegalStateException", S10) else (z_let (F_T_change S10 p1 p2 ((1 : Int32) + p3) 0 p4) (fun S87 => (match F_T_isSettled S87 (S10 1 7) p1 with | (r94, S94) => (if r94 = 0 then (.inl "java/lang/IllegalStateException", S94) else (.inr (F_World_cell 9 S10 p2 ((1 : Int32) + p3)), S94)))))))))))
def Sf_T_set (S : (Nat → Nat → Int32)) (p1 : Int32) (p2 : Int32) (p3 : Int32) (p4 : Int32) : Prop := (if (F_T_isPerson S p1) = 0 then True else (Sf_T_isSeen S p1 p2 ∧ (match F_T_isSeen S p1 p2 with | (r10, S10) => (if r10 = 0 then True else (if (F_T_isField S10 p3) = 0 then True else (if (F_T_isValue S10 p4) = 0 then True else (Sf_T_canWrite S10 p2 p3 ∧ (if (F_T_canWrite S10 p2 p3) = 0 then True else (Sf_World_cell 9 S10 p2 ((1 : Int32) + p3) ∧ (Sf_T_change S10 p1 p2 ((1 : Int32) + p3) 0 p4 ∧ (z_let (F_T_change S10 p1 p2 ((1 : Int32) + p3) 0 p4) (fun S87 => (Sf_T_isSettled S87 (S10 1 7) p1 ∧ True)))))))))))))
theorem c_T_set (T' : Nat → Nat × Nat) (G' : Nat → Nat → Option Nat) (q0 : Nat) (S : (Nat → Nat → Int32)) (n : Nat) (p1 : Int32) (p2 : Int32) (p3 : Int32) (p4 : Int32) (hs : Sf_T_set S p1 p2 p3 p4) : z_RunX rm_T_set zm_T_set [z_r 0, .inl p1, .inl p2, .inl p3, .inl p4] (zW T' (zwG G' q0) S n) (fun v w' => ∃ x S' q, F_T_set S p1 p2 p3 p4 = (.inr x, S') ∧ v = some (.inl x) ∧ w' = zW T' (zwG G' q) S' n) (fun E w' => ∃ S' n2 q, n ≤ n2 ∧ F_T_set S p1 p2 p3 p4 = (.inl E, S') ∧ w' = zW T' (zwG G' q) S' n2) := by
  refine z_bodyX (by decide) zf_T_ok (Nat.le_of_ble_eq_true rfl) (fun X M => ?_)
  obtain ⟨Q, hQ, hX, K⟩ : ∃ Q : ((String ⊕ Int32) × (Nat → Nat → Int32)) → Prop, (∀ v S' q, Q (.inr v, S') → ∃ x S'' q2, F_T_set S p1 p2 p3 p4 = (.inr x, S'') ∧ some (.inl v : z_V) = some (.inl x) ∧ zW T' (zwG G' q) S' n = zW T' (zwG G' q2) S'' n) ∧ (∀ E S' (n2 : Nat) q, n ≤ n2 → Q (.inl E, S') → ∃ S'' n3 q2, n ≤ n3 ∧ F_T_set S p1 p2 p3 p4 = (.inl E, S'') ∧ zW T' (zwG G' q) S' n2 = zW T' (zwG G' q2) S'' n3) ∧ Q (F_T_set S p1 p2 p3 p4) := ⟨fun o => F_T_set S p1 p2 p3 p4 = o, fun v S' q h => ⟨v, S', q, h, rfl, rfl⟩, fun E S' n2 q hn h => ⟨S', n2, q, hn, h, rfl⟩, rfl⟩
  show z_G X zm_T_set (0, [(0, z_r 0), (1, .inl p1), (2, .inl p2), (3, .inl p3), (4, .inl p4)], [], zW T' (zwG G' q0) S n, 0, 0)
  unfold F_T_set at K
  unfold Sf_T_set at hs
  refine z_go2 M.1.1 0 [(.iload_n 1, 1)] (1, [(0, z_r 0), (1, .inl p1), (2, .inl p2), (3, .inl p3), (4, .inl p4)], [.inl p1], zW T' (zwG G' q0) S n, 0, 0) (by decide +kernel) rfl ⟨trivial, trivial⟩ ?_
  refine z_callS M.1.1 (av := [.inl p1]) (st := []) (by decide +kernel) (c_T_isPerson T' (zwG G' q0) S n p1) M.1.2.1 zl_T_97 zs_T_isPerson ⟨by decide, by decide, by decide, by decide⟩ rfl (Nat.le_of_ble_eq_true rfl) (fun v w' hv => ?_)
  obtain ⟨rfl, rfl⟩ := hv
  show z_G X zm_T_set (4, [(0, z_r 0), (1, .inl p1), (2, .inl p2), (3, .inl p3), (4, .inl p4)], [.inl (F_T_isPerson S p1)], zW T' (zwG G' q0) S n, 0, 0)
  refine z_if_eq 20 M.1.1 (off := 16) (by decide +kernel) (by decide) (fun c4 => ?_) (fun c4 => ?_)
  · rw [if_pos c4] at K hs
    refine z_go2 M.1.1 20 [(.iconst 0, 1)] (21, [(0, z_r 0), (1, .inl p1), (2, .inl p2), (3, .inl p3), (4, .inl p4)], [.inl 0], zW T' (zwG G' q0) S n, 0, 0) (by decide +kernel) rfl ⟨trivial, trivial⟩ ?_
    refine z_callSX M.1.1 (av := [.inl 0]) (st := []) (by decide +kernel) (c_mustExist T' (zwG G' q0) S n 0) M.1.2.1 zl_T_104 (z_wi 698 (by decide +kernel) rfl) zs_T_mustExist ⟨by decide, by decide, by decide, by decide⟩ rfl (Nat.le_of_ble_eq_true rfl) (fun E w' hx => ?_) (fun v w' hv => ?_)
    · obtain ⟨h0, rfl, n2, hn2, rfl⟩ := hx
      exact M.2 _ _ (hX _ _ n2 _ hn2 K) (Nat.le_of_ble_eq_true rfl) (Nat.le_of_ble_eq_true rfl)
    · obtain ⟨h0, rfl, rfl⟩ := hv
      exact absurd rfl h0
  · rw [if_neg c4] at K hs
    refine z_go2 M.1.1 7 [(.aload_n 0, 1), (.iload_n 1, 1), (.iload_n 2, 1)] (10, [(0, z_r 0), (1, .inl p1), (2, .inl p2), (3, .inl p3), (4, .inl p4)], [.inl p2, .inl p1, z_r 0], zW T' (zwG G' q0) S n, 0, 0) (by decide +kernel) rfl ⟨trivial, trivial, trivial, trivial⟩ ?_
    refine z_callV M.1.1 (av := [.inl p1, .inl p2]) (st := []) (a := 0) (ci := 11) (by decide +kernel) (c_T_isSeen T' G' q0 S n p1 p2 hs.1) M.1.2.1 zl_T_238 zv_T_isSeen rfl rfl rfl ⟨by decide, by decide, by decide, by decide⟩ rfl (Nat.le_of_ble_eq_true rfl) (fun v w' hv => ?_)
    replace hs := hs.2
    rcases hF10 : F_T_isSeen S p1 p2 with ⟨r10, S10⟩
    rw [hF10] at K hv
    try rw [hF10] at hs
    try dsimp only at K hs
    obtain ⟨rfl, rfl⟩ := hv
    show z_G X zm_T_set (13, [(0, z_r 0), (1, .inl p1), (2, .inl p2), (3, .inl p3), (4, .inl p4)], [.inl r10], zW T' (zwG G' 9) S10 n, 0, 0)
    refine z_if_eq 20 M.1.1 (off := 7) (by decide +kernel) (by decide) (fun c13 => ?_) (fun c13 => ?_)
    · rw [if_pos c13] at K hs
      refine z_go2 M.1.1 20 [(.iconst 0, 1)] (21, [(0, z_r 0), (1, .inl p1), (2, .inl p2), (3, .inl p3), (4, .inl p4)], [.inl 0], zW T' (zwG G' 9) S10 n, 0, 0) (by decide +kernel) rfl ⟨trivial, trivial⟩ ?_
      refine z_callSX M.1.1 (av := [.inl 0]) (st := []) (by decide +kernel) (c_mustExist T' (zwG G' 9) S10 n 0) M.1.2.1 zl_T_104 (z_wi 698 (by decide +kernel) rfl) zs_T_mustExist ⟨by decide, by decide, by decide, by decide⟩ rfl (Nat.le_of_ble_eq_true rfl) (fun E w' hx => ?_) (fun v w' hv => ?_)
      · obtain ⟨h0, rfl, n2, hn2, rfl⟩ := hx
        exact M.2 _ _ (hX _ _ n2 _ hn2 K) (Nat.le_of_ble_eq_true rfl) (Nat.le_of_ble_eq_true rfl)
      · obtain ⟨h0, rfl, rfl⟩ := hv
        exact absurd rfl h0
    · rw [if_neg c13] at K hs
      refine z_go2 M.1.1 16 [(.iconst 1, 1), (.goto 4, 3)] (21, [(0, z_r 0), (1, .inl p1), (2, .inl p2), (3, .inl p3), (4, .inl p4)], [.inl 1], zW T' (zwG G' 9) S10 n, 0, 0) (by decide +kernel) rfl ⟨trivial, trivial, trivial⟩ ?_
      refine z_callSX M.1.1 (av := [.inl 1]) (st := []) (by decide +kernel) (c_mustExist T' (zwG G' 9) S10 n 1) M.1.2.1 zl_T_104 (z_wi 698 (by decide +kernel) rfl) zs_T_mustExist ⟨by decide, by decide, by decide, by decide⟩ rfl (Nat.le_of_ble_eq_true rfl) (fun E w' hx => ?_) (fun v w' hv => ?_)
      · obtain ⟨h0, rfl, n2, hn2, rfl⟩ := hx
        exact absurd h0 (by decide)
      · obtain ⟨h0, rfl, rfl⟩ := hv
        show z_G X zm_T_set (24, [(0, z_r 0), (1, .inl p1), (2, .inl p2), (3, .inl p3), (4, .inl p4)], [], zW T' (zwG G' 9) S10 n, 1, 6)
        refine z_go2 M.1.1 24 [(.iload_n 3, 1)] (25, [(0, z_r 0), (1, .inl p1), (2, .inl p2), (3, .inl p3), (4, .inl p4)], [.inl p3], zW T' (zwG G' 9) S10 n, 1, 6) (by decide +kernel) rfl ⟨trivial, trivial⟩ ?_
        refine z_callS M.1.1 (av := [.inl p3]) (st := []) (by decide +kernel) (c_T_isField T' (zwG G' 9) S10 n p3) M.1.2.1 zl_T_157 zs_T_isField ⟨by decide, by decide, by decide, by decide⟩ rfl (Nat.le_of_ble_eq_true rfl) (fun v w' hv => ?_)
        obtain ⟨rfl, rfl⟩ := hv
        show z_G X zm_T_set (28, [(0, z_r 0), (1, .inl p1), (2, .inl p2), (3, .inl p3), (4, .inl p4)], [.inl (F_T_isField S10 p3)], zW T' (zwG G' 9) S10 n, 1, 6)
        refine z_if_eq 43 M.1.1 (off := 15) (by decide +kernel) (by decide) (fun c28 => ?_) (fun c28 => ?_)
        · rw [if_pos c28] at K hs
          refine z_go2 M.1.1 43 [(.iconst 0, 1)] (44, [(0, z_r 0), (1, .inl p1), (2, .inl p2), (3, .inl p3), (4, .inl p4)], [.inl 0], zW T' (zwG G' 9) S10 n, 1, 6) (by decide +kernel) rfl ⟨trivial, trivial⟩ ?_
          refine z_callSX M.1.1 (av := [.inl 0]) (st := []) (by decide +kernel) (c_mustFit T' (zwG G' 9) S10 n 0) M.1.2.1 zl_T_111 (z_wi 772 (by decide +kernel) rfl) zs_T_mustFit ⟨by decide, by decide, by decide, by decide⟩ rfl (Nat.le_of_ble_eq_true rfl) (fun E w' hx => ?_) (fun v w' hv => ?_)
          · obtain ⟨h0, rfl, n2, hn2, rfl⟩ := hx
            exact M.2 _ _ (hX _ _ n2 _ hn2 K) (Nat.le_of_ble_eq_true rfl) (Nat.le_of_ble_eq_true rfl)
          · obtain ⟨h0, rfl, rfl⟩ := hv
            exact absurd rfl h0
        · rw [if_neg c28] at K hs
          refine z_go2 M.1.1 31 [(.iload 4, 2)] (33, [(0, z_r 0), (1, .inl p1), (2, .inl p2), (3, .inl p3), (4, .inl p4)], [.inl p4], zW T' (zwG G' 9) S10 n, 1, 6) (by decide +kernel) rfl ⟨trivial, trivial⟩ ?_
          refine z_callS M.1.1 (av := [.inl p4]) (st := []) (by decide +kernel) (c_T_isValue T' (zwG G' 9) S10 n p4) M.1.2.1 zl_T_241 zs_T_isValue ⟨by decide, by decide, by decide, by decide⟩ rfl (Nat.le_of_ble_eq_true rfl) (fun v w' hv => ?_)
          obtain ⟨rfl, rfl⟩ := hv
          show z_G X zm_T_set (36, [(0, z_r 0), (1, .inl p1), (2, .inl p2), (3, .inl p3), (4, .inl p4)], [.inl (F_T_isValue S10 p4)], zW T' (zwG G' 9) S10 n, 1, 6)
          refine z_if_eq 43 M.1.1 (off := 7) (by decide +kernel) (by decide) (fun c36 => ?_) (fun c36 => ?_)
          · rw [if_pos c36] at K hs
            refine z_go2 M.1.1 43 [(.iconst 0, 1)] (44, [(0, z_r 0), (1, .inl p1), (2, .inl p2), (3, .inl p3), (4, .inl p4)], [.inl 0], zW T' (zwG G' 9) S10 n, 1, 6) (by decide +kernel) rfl ⟨trivial, trivial⟩ ?_
            refine z_callSX M.1.1 (av := [.inl 0]) (st := []) (by decide +kernel) (c_mustFit T' (zwG G' 9) S10 n 0) M.1.2.1 zl_T_111 (z_wi 772 (by decide +kernel) rfl) zs_T_mustFit ⟨by decide, by decide, by decide, by decide⟩ rfl (Nat.le_of_ble_eq_true rfl) (fun E w' hx => ?_) (fun v w' hv => ?_)
            · obtain ⟨h0, rfl, n2, hn2, rfl⟩ := hx
              exact M.2 _ _ (hX _ _ n2 _ hn2 K) (Nat.le_of_ble_eq_true rfl) (Nat.le_of_ble_eq_true rfl)
            · obtain ⟨h0, rfl, rfl⟩ := hv
              exact absurd rfl h0
          · rw [if_neg c36] at K hs
            refine z_go2 M.1.1 39 [(.iconst 1, 1), (.goto 4, 3)] (44, [(0, z_r 0), (1, .inl p1), (2, .inl p2), (3, .inl p3), (4, .inl p4)], [.inl 1], zW T' (zwG G' 9) S10 n, 1, 6) (by decide +kernel) rfl ⟨trivial, trivial, trivial⟩ ?_
            refine z_callSX M.1.1 (av := [.inl 1]) (st := []) (by decide +kernel) (c_mustFit T' (zwG G' 9) S10 n 1) M.1.2.1 zl_T_111 (z_wi 772 (by decide +kernel) rfl) zs_T_mustFit ⟨by decide, by decide, by decide, by decide⟩ rfl (Nat.le_of_ble_eq_true rfl) (fun E w' hx => ?_) (fun v w' hv => ?_)
            · obtain ⟨h0, rfl, n2, hn2, rfl⟩ := hx
              exact absurd h0 (by decide)
            · obtain ⟨h0, rfl, rfl⟩ := hv
              show z_G X zm_T_set (47, [(0, z_r 0), (1, .inl p1), (2, .inl p2), (3, .inl p3), (4, .inl p4)], [], zW T' (zwG G' 9) S10 n, 2, 12)
              refine z_go2 M.1.1 47 [(.aload_n 0, 1), (.iload_n 2, 1), (.iload_n 3, 1)] (50, [(0, z_r 0), (1, .inl p1), (2, .inl p2), (3, .inl p3), (4, .inl p4)], [.inl p3, .inl p2, z_r 0], zW T' (zwG G' 9) S10 n, 2, 12) (by decide +kernel) rfl ⟨trivial, trivial, trivial, trivial⟩ ?_
              refine z_callV M.1.1 (av := [.inl p2, .inl p3]) (st := []) (a := 0) (ci := 11) (by decide +kernel) (c_T_canWrite T' (zwG G' 9) S10 n p2 p3 hs.1) M.1.2.1 zl_T_244 zv_T_canWrite rfl rfl rfl ⟨by decide, by decide, by decide, by decide⟩ rfl (Nat.le_of_ble_eq_true rfl) (fun v w' hv => ?_)
              obtain ⟨rfl, rfl⟩ := hv
              replace hs := hs.2
              show z_G X zm_T_set (53, [(0, z_r 0), (1, .inl p1), (2, .inl p2), (3, .inl p3), (4, .inl p4)], [.inl (F_T_canWrite S10 p2 p3)], zW T' (zwG G' 9) S10 n, 2, 12)
              refine z_callSX M.1.1 (av := [.inl (F_T_canWrite S10 p2 p3)]) (st := []) (by decide +kernel) (c_mustBeAllowed T' (zwG G' 9) S10 n (F_T_canWrite S10 p2 p3)) M.1.2.1 zl_T_128 (z_wi 847 (by decide +kernel) rfl) zs_T_mustBeAllowed ⟨by decide, by decide, by decide, by decide⟩ rfl (Nat.le_of_ble_eq_true rfl) (fun E w' hx => ?_) (fun v w' hv => ?_)
              · obtain ⟨h0, rfl, n2, hn2, rfl⟩ := hx
                rw [if_pos h0] at K
                exact M.2 _ _ (hX _ _ n2 _ hn2 K) (Nat.le_of_ble_eq_true rfl) (Nat.le_of_ble_eq_true rfl)
              · obtain ⟨h0, rfl, rfl⟩ := hv
                rw [if_neg h0] at K hs
                show z_G X zm_T_set (56, [(0, z_r 0), (1, .inl p1), (2, .inl p2), (3, .inl p3), (4, .inl p4)], [], zW T' (zwG G' 9) S10 n, 3, 18)
                refine z_go2 M.1.1 56 [(.aload_n 0, 1), (.getfield 19, 3), (.iload_n 2, 1), (.iconst 1, 1), (.iload_n 3, 1), (.iadd, 1)] (64, [(0, z_r 0), (1, .inl p1), (2, .inl p2), (3, .inl p3), (4, .inl p4)], [.inl ((1 : Int32) + p3), .inl p2, z_r 9], zW T' (zwG G' 9) S10 n, 3, 18) (by decide +kernel) rfl ⟨trivial, rfl, trivial, trivial, trivial, trivial, trivial⟩ ?_
                refine z_callV M.1.1 (av := [.inl p2, .inl ((1 : Int32) + p3)]) (st := []) (a := 9) (ci := 10) (by decide +kernel) (c_World_cell_9 T' (zwG G' 9) S10 n p2 ((1 : Int32) + p3) hs.1) M.1.2.1 zl_T_207 zv_World_cell rfl rfl rfl ⟨by decide, by decide, by decide, by decide⟩ rfl (Nat.le_of_ble_eq_true rfl) (fun v w' hv => ?_)
                obtain ⟨rfl, rfl⟩ := hv
                replace hs := hs.2
                show z_G X zm_T_set (67, [(0, z_r 0), (1, .inl p1), (2, .inl p2), (3, .inl p3), (4, .inl p4)], [.inl (F_World_cell 9 S10 p2 ((1 : Int32) + p3))], zW T' (zwG G' 9) S10 n, 3, 18)
                refine z_go2 M.1.1 67 [(.istore 5, 2), (.aload_n 0, 1), (.getfield 12, 3), (.getfield 118, 3), (.istore 6, 2), (.aload_n 0, 1), (.iload_n 1, 1), (.iload_n 2, 1), (.iconst 1, 1), (.iload_n 3, 1), (.iadd, 1), (.iconst 0, 1), (.iload 4, 2)] (87, [(6, .inl (S10 1 7)), (5, .inl (F_World_cell 9 S10 p2 ((1 : Int32) + p3))), (0, z_r 0), (1, .inl p1), (2, .inl p2), (3, .inl p3), (4, .inl p4)], [.inl p4, .inl 0, .inl ((1 : Int32) + p3), .inl p2, .inl p1, z_r 0], zW T' (zwG G' 9) S10 n, 3, 18) (by decide +kernel) rfl ⟨trivial, trivial, rfl, rfl, trivial, trivial, trivial, trivial, trivial, trivial, trivial, trivial, trivial, trivial⟩ ?_
                refine z_callV M.1.1 (av := [.inl p1, .inl p2, .inl ((1 : Int32) + p3), .inl 0, .inl p4]) (st := []) (a := 0) (ci := 11) (by decide +kernel) (c_T_change T' (zwG G' 9) S10 n p1 p2 ((1 : Int32) + p3) 0 p4 hs.1) M.1.2.1 zl_T_121 zv_T_change rfl rfl rfl ⟨by decide, by decide, by decide, by decide⟩ rfl (Nat.le_of_ble_eq_true rfl) (fun v w' hv => ?_)
                replace hs := hs.2
                obtain ⟨S87, hF87⟩ : ∃ y, F_T_change S10 p1 p2 ((1 : Int32) + p3) 0 p4 = y := ⟨_, rfl⟩
                rw [hF87] at K hv
                try rw [hF87] at hs
                try dsimp only [z_let] at K hs
                obtain ⟨rfl, rfl⟩ := hv
                show z_G X zm_T_set (90, [(6, .inl (S10 1 7)), (5, .inl (F_World_cell 9 S10 p2 ((1 : Int32) + p3))), (0, z_r 0), (1, .inl p1), (2, .inl p2), (3, .inl p3), (4, .inl p4)], [], zW T' (zwG G' 9) S87 n, 3, 18)
                refine z_go2 M.1.1 90 [(.aload_n 0, 1), (.iload 6, 2), (.iload_n 1, 1)] (94, [(6, .inl (S10 1 7)), (5, .inl (F_World_cell 9 S10 p2 ((1 : Int32) + p3))), (0, z_r 0), (1, .inl p1), (2, .inl p2), (3, .inl p3), (4, .inl p4)], [.inl p1, .inl (S10 1 7), z_r 0], zW T' (zwG G' 9) S87 n, 3, 18) (by decide +kernel) rfl ⟨trivial, trivial, trivial, trivial⟩ ?_
                refine z_callV M.1.1 (av := [.inl (S10 1 7), .inl p1]) (st := []) (a := 0) (ci := 11) (by decide +kernel) (c_T_isSettled T' (zwG G' 9) S87 n (S10 1 7) p1 hs.1) M.1.2.1 zl_T_219 zv_T_isSettled rfl rfl rfl ⟨by decide, by decide, by decide, by decide⟩ rfl (Nat.le_of_ble_eq_true rfl) (fun v w' hv => ?_)
                replace hs := hs.2
                rcases hF94 : F_T_isSettled S87 (S10 1 7) p1 with ⟨r94, S94⟩
                rw [hF94] at K hv
                try dsimp only at K
                obtain ⟨rfl, rfl⟩ := hv
                show z_G X zm_T_set (97, [(6, .inl (S10 1 7)), (5, .inl (F_World_cell 9 S10 p2 ((1 : Int32) + p3))), (0, z_r 0), (1, .inl p1), (2, .inl p2), (3, .inl p3), (4, .inl p4)], [.inl r94], zW T' (zwG G' 9) S94 n, 3, 18)
                refine z_callSX M.1.1 (av := [.inl r94]) (st := []) (by decide +kernel) (c_mustBeAllowed T' (zwG G' 9) S94 n r94) M.1.2.1 zl_T_128 (z_wi 847 (by decide +kernel) rfl) zs_T_mustBeAllowed ⟨by decide, by decide, by decide, by decide⟩ rfl (Nat.le_of_ble_eq_true rfl) (fun E w' hx => ?_) (fun v w' hv => ?_)
                · obtain ⟨h0, rfl, n2, hn2, rfl⟩ := hx
                  rw [if_pos h0] at K
                  exact M.2 _ _ (hX _ _ n2 _ hn2 K) (Nat.le_of_ble_eq_true rfl) (Nat.le_of_ble_eq_true rfl)
                · obtain ⟨h0, rfl, rfl⟩ := hv
                  rw [if_neg h0] at K
                  show z_G X zm_T_set (100, [(6, .inl (S10 1 7)), (5, .inl (F_World_cell 9 S10 p2 ((1 : Int32) + p3))), (0, z_r 0), (1, .inl p1), (2, .inl p2), (3, .inl p3), (4, .inl p4)], [], zW T' (zwG G' 9) S94 n, 4, 24)
                  refine z_go2 M.1.1 100 [(.iload 5, 2)] (102, [(6, .inl (S10 1 7)), (5, .inl (F_World_cell 9 S10 p2 ((1 : Int32) + p3))), (0, z_r 0), (1, .inl p1), (2, .inl p2), (3, .inl p3), (4, .inl p4)], [.inl (F_World_cell 9 S10 p2 ((1 : Int32) + p3))], zW T' (zwG G' 9) S94 n, 4, 24) (by decide +kernel) rfl ⟨trivial, trivial⟩ ?_
                  exact z_iret M.1 (by decide +kernel) .int rfl rfl (by decide) (by decide) (hQ _ _ _ K)

-- TrackHouse.assign
abbrev rm_T_assign : Room := zx 8 3
def F_T_assign_j28 (S : (Nat → Nat → Int32)) (x1 : Int32) (x2 : Int32) (x3 : Int32) : ((String ⊕ Int32) × (Nat → Nat → Int32)) := (match F_T_setCell S x1 x2 4 x3 with | (.inl e, S41) => (.inl e, S41) | (.inr r41, S41) => (.inr r41, S41))
def Sf_T_assign_j28 (S : (Nat → Nat → Int32)) (x1 : Int32) (x2 : Int32) (x3 : Int32) : Prop := (Sf_T_setCell S x1 x2 4 x3 ∧ True)
theorem t_T_assign_j28 {X : z_X} {Post : Option z_V → z_W → Prop} {PX : String → z_W → Prop} (M : z_MX X zm_T_assign rm_T_assign Post PX) {T' : Nat → Nat × Nat} {G' : Nat → Nat → Option Nat} {n : Nat} {q0 : Nat} {Q : ((String ⊕ Int32) × (Nat → Nat → Int32)) → Prop} (S : (Nat → Nat → Int32)) (x1 : Int32) (x2 : Int32) (x3 : Int32) (hQ : ∀ v S' (q : Nat), Q (.inr v, S') → Post (some (.inl v)) (zW T' (zwG G' q) S' n)) (hX : ∀ E S' (n2 : Nat) (q : Nat), n ≤ n2 → Q (.inl E, S') → PX E (zW T' (zwG G' q) S' n2)) (K : Q (F_T_assign_j28 S x1 x2 x3)) (hs : Sf_T_assign_j28 S x1 x2 x3) : z_G X zm_T_assign (28, [(0, z_r 0), (1, .inl x1), (2, .inl x2), (3, .inl x3)], [], zW T' (zwG G' 9) S n, 0, 0) := by
  unfold F_T_assign_j28 at K
  unfold Sf_T_assign_j28 at hs
  refine z_go2 M.1.1 28 [(.iconst 1, 1), (.goto 4, 3)] (33, [(0, z_r 0), (1, .inl x1), (2, .inl x2), (3, .inl x3)], [.inl 1], zW T' (zwG G' 9) S n, 0, 0) (by decide +kernel) rfl ⟨trivial, trivial, trivial⟩ ?_
  refine z_callSX M.1.1 (av := [.inl 1]) (st := []) (by decide +kernel) (c_mustExist T' (zwG G' 9) S n 1) M.1.2.1 zl_T_104 (z_wi 698 (by decide +kernel) rfl) zs_T_mustExist ⟨by decide, by decide, by decide, by decide⟩ rfl (Nat.le_of_ble_eq_true rfl) (fun E w' hx => ?_) (fun v w' hv => ?_)
  · obtain ⟨h0, rfl, n2, hn2, rfl⟩ := hx
    exact absurd h0 (by decide)
  · obtain ⟨h0, rfl, rfl⟩ := hv
    show z_G X zm_T_assign (36, [(0, z_r 0), (1, .inl x1), (2, .inl x2), (3, .inl x3)], [], zW T' (zwG G' 9) S n, 1, 6)
    refine z_go2 M.1.1 36 [(.aload_n 0, 1), (.iload_n 1, 1), (.iload_n 2, 1), (.iconst 4, 1), (.iload_n 3, 1)] (41, [(0, z_r 0), (1, .inl x1), (2, .inl x2), (3, .inl x3)], [.inl x3, .inl 4, .inl x2, .inl x1, z_r 0], zW T' (zwG G' 9) S n, 1, 6) (by decide +kernel) rfl ⟨trivial, trivial, trivial, trivial, trivial, trivial⟩ ?_
    refine z_callVX M.1.1 (av := [.inl x1, .inl x2, .inl 4, .inl x3]) (st := []) (a := 0) (ci := 11) (by decide +kernel) (c_T_setCell T' (zwG G' 9) S n x1 x2 4 x3 hs.1) M.1.2.1 zl_T_247 (z_wi 1160 (by decide +kernel) rfl) zv_T_setCell rfl rfl rfl ⟨by decide, by decide, by decide, by decide⟩ rfl (Nat.le_of_ble_eq_true rfl) (fun E w' hx => ?_) (fun v w' hv => ?_)
    · obtain ⟨S41, n2, hn2, h0, rfl⟩ := hx
      rw [h0] at K
      exact M.2 _ _ (hX _ _ n2 _ hn2 K) (Nat.le_of_ble_eq_true rfl) (Nat.le_of_ble_eq_true rfl)
    · obtain ⟨r41, S41, h0, rfl, rfl⟩ := hv
      replace hs := hs.2
      rw [h0] at K
      try dsimp only at K
      show z_G X zm_T_assign (44, [(0, z_r 0), (1, .inl x1), (2, .inl x2), (3, .inl x3)], [.inl r41], zW T' (zwG G' 9) S41 n, 3, 18)
      exact z_iret M.1 (by decide +kernel) .int rfl rfl (by decide) (by decide) (hQ _ _ _ K)
def F_T_assign (S : (Nat → Nat → Int32)) (p1 : Int32) (p2 : Int32) (p3 : Int32) : ((String ⊕ Int32) × (Nat → Nat → Int32)) := (if (F_T_isPerson S p1) = 0 then (.inl "java/lang/IndexOutOfBoundsException", S) else (match F_T_isSeen S p1 p2 with | (r10, S10) => (if r10 = 0 then (.inl "java/lang/IndexOutOfBoundsException", S10) else (if p3 = (-1) then (F_T_assign_j28 S10 p1 p2 p3) else (if (F_T_isPerson S10 p3) = 0 then (.inl "java/lang/IndexOutOfBoundsException", S10) else (F_T_assign_j28 S10 p1 p2 p3))))))
def Sf_T_assign (S : (Nat → Nat → Int32)) (p1 : Int32) (p2 : Int32) (p3 : Int32) : Prop := (if (F_T_isPerson S p1) = 0 then True else (Sf_T_isSeen S p1 p2 ∧ (match F_T_isSeen S p1 p2 with | (r10, S10) => (if r10 = 0 then True else (if p3 = (-1) then (Sf_T_assign_j28 S10 p1 p2 p3) else (if (F_T_isPerson S10 p3) = 0 then True else (Sf_T_assign_j28 S10 p1 p2 p3)))))))
theorem c_T_assign (T' : Nat → Nat × Nat) (G' : Nat → Nat → Option Nat) (q0 : Nat) (S : (Nat → Nat → Int32)) (n : Nat) (p1 : Int32) (p2 : Int32) (p3 : Int32) (hs : Sf_T_assign S p1 p2 p3) : z_RunX rm_T_assign zm_T_assign [z_r 0, .inl p1, .inl p2, .inl p3] (zW T' (zwG G' q0) S n) (fun v w' => ∃ x S' q, F_T_assign S p1 p2 p3 = (.inr x, S') ∧ v = some (.inl x) ∧ w' = zW T' (zwG G' q) S' n) (fun E w' => ∃ S' n2 q, n ≤ n2 ∧ F_T_assign S p1 p2 p3 = (.inl E, S') ∧ w' = zW T' (zwG G' q) S' n2) := by
  refine z_bodyX (by decide) zf_T_ok (Nat.le_of_ble_eq_true rfl) (fun X M => ?_)
  obtain ⟨Q, hQ, hX, K⟩ : ∃ Q : ((String ⊕ Int32) × (Nat → Nat → Int32)) → Prop, (∀ v S' q, Q (.inr v, S') → ∃ x S'' q2, F_T_assign S p1 p2 p3 = (.inr x, S'') ∧ some (.inl v : z_V) = some (.inl x) ∧ zW T' (zwG G' q) S' n = zW T' (zwG G' q2) S'' n) ∧ (∀ E S' (n2 : Nat) q, n ≤ n2 → Q (.inl E, S') → ∃ S'' n3 q2, n ≤ n3 ∧ F_T_assign S p1 p2 p3 = (.inl E, S'') ∧ zW T' (zwG G' q) S' n2 = zW T' (zwG G' q2) S'' n3) ∧ Q (F_T_assign S p1 p2 p3) := ⟨fun o => F_T_assign S p1 p2 p3 = o, fun v S' q h => ⟨v, S', q, h, rfl, rfl⟩, fun E S' n2 q hn h => ⟨S', n2, q, hn, h, rfl⟩, rfl⟩
  show z_G X zm_T_assign (0, [(0, z_r 0), (1, .inl p1), (2, .inl p2), (3, .inl p3)], [], zW T' (zwG G' q0) S n, 0, 0)
  unfold F_T_assign at K
  unfold Sf_T_assign at hs
  refine z_go2 M.1.1 0 [(.iload_n 1, 1)] (1, [(0, z_r 0), (1, .inl p1), (2, .inl p2), (3, .inl p3)], [.inl p1], zW T' (zwG G' q0) S n, 0, 0) (by decide +kernel) rfl ⟨trivial, trivial⟩ ?_
  refine z_callS M.1.1 (av := [.inl p1]) (st := []) (by decide +kernel) (c_T_isPerson T' (zwG G' q0) S n p1) M.1.2.1 zl_T_97 zs_T_isPerson ⟨by decide, by decide, by decide, by decide⟩ rfl (Nat.le_of_ble_eq_true rfl) (fun v w' hv => ?_)
  obtain ⟨rfl, rfl⟩ := hv
  show z_G X zm_T_assign (4, [(0, z_r 0), (1, .inl p1), (2, .inl p2), (3, .inl p3)], [.inl (F_T_isPerson S p1)], zW T' (zwG G' q0) S n, 0, 0)
  refine z_if_eq 32 M.1.1 (off := 28) (by decide +kernel) (by decide) (fun c4 => ?_) (fun c4 => ?_)
  · rw [if_pos c4] at K hs
    refine z_go2 M.1.1 32 [(.iconst 0, 1)] (33, [(0, z_r 0), (1, .inl p1), (2, .inl p2), (3, .inl p3)], [.inl 0], zW T' (zwG G' q0) S n, 0, 0) (by decide +kernel) rfl ⟨trivial, trivial⟩ ?_
    refine z_callSX M.1.1 (av := [.inl 0]) (st := []) (by decide +kernel) (c_mustExist T' (zwG G' q0) S n 0) M.1.2.1 zl_T_104 (z_wi 698 (by decide +kernel) rfl) zs_T_mustExist ⟨by decide, by decide, by decide, by decide⟩ rfl (Nat.le_of_ble_eq_true rfl) (fun E w' hx => ?_) (fun v w' hv => ?_)
    · obtain ⟨h0, rfl, n2, hn2, rfl⟩ := hx
      exact M.2 _ _ (hX _ _ n2 _ hn2 K) (Nat.le_of_ble_eq_true rfl) (Nat.le_of_ble_eq_true rfl)
    · obtain ⟨h0, rfl, rfl⟩ := hv
      exact absurd rfl h0
  · rw [if_neg c4] at K hs
    refine z_go2 M.1.1 7 [(.aload_n 0, 1), (.iload_n 1, 1), (.iload_n 2, 1)] (10, [(0, z_r 0), (1, .inl p1), (2, .inl p2), (3, .inl p3)], [.inl p2, .inl p1, z_r 0], zW T' (zwG G' q0) S n, 0, 0) (by decide +kernel) rfl ⟨trivial, trivial, trivial, trivial⟩ ?_
    refine z_callV M.1.1 (av := [.inl p1, .inl p2]) (st := []) (a := 0) (ci := 11) (by decide +kernel) (c_T_isSeen T' G' q0 S n p1 p2 hs.1) M.1.2.1 zl_T_238 zv_T_isSeen rfl rfl rfl ⟨by decide, by decide, by decide, by decide⟩ rfl (Nat.le_of_ble_eq_true rfl) (fun v w' hv => ?_)
    replace hs := hs.2
    rcases hF10 : F_T_isSeen S p1 p2 with ⟨r10, S10⟩
    rw [hF10] at K hv
    try rw [hF10] at hs
    try dsimp only at K hs
    obtain ⟨rfl, rfl⟩ := hv
    show z_G X zm_T_assign (13, [(0, z_r 0), (1, .inl p1), (2, .inl p2), (3, .inl p3)], [.inl r10], zW T' (zwG G' 9) S10 n, 0, 0)
    refine z_if_eq 32 M.1.1 (off := 19) (by decide +kernel) (by decide) (fun c13 => ?_) (fun c13 => ?_)
    · rw [if_pos c13] at K hs
      refine z_go2 M.1.1 32 [(.iconst 0, 1)] (33, [(0, z_r 0), (1, .inl p1), (2, .inl p2), (3, .inl p3)], [.inl 0], zW T' (zwG G' 9) S10 n, 0, 0) (by decide +kernel) rfl ⟨trivial, trivial⟩ ?_
      refine z_callSX M.1.1 (av := [.inl 0]) (st := []) (by decide +kernel) (c_mustExist T' (zwG G' 9) S10 n 0) M.1.2.1 zl_T_104 (z_wi 698 (by decide +kernel) rfl) zs_T_mustExist ⟨by decide, by decide, by decide, by decide⟩ rfl (Nat.le_of_ble_eq_true rfl) (fun E w' hx => ?_) (fun v w' hv => ?_)
      · obtain ⟨h0, rfl, n2, hn2, rfl⟩ := hx
        exact M.2 _ _ (hX _ _ n2 _ hn2 K) (Nat.le_of_ble_eq_true rfl) (Nat.le_of_ble_eq_true rfl)
      · obtain ⟨h0, rfl, rfl⟩ := hv
        exact absurd rfl h0
    · rw [if_neg c13] at K hs
      refine z_go2 M.1.1 16 [(.iload_n 3, 1), (.iconst (-1), 1)] (18, [(0, z_r 0), (1, .inl p1), (2, .inl p2), (3, .inl p3)], [.inl (-1), .inl p3], zW T' (zwG G' 9) S10 n, 0, 0) (by decide +kernel) rfl ⟨trivial, trivial, trivial⟩ ?_
      refine z_icmp_eq 28 M.1.1 (off := 10) (by decide +kernel) (by decide) (fun c18 => ?_) (fun c18 => ?_)
      · rw [if_pos c18] at K hs
        exact z_lvs (lv' := [(0, z_r 0), (1, .inl p1), (2, .inl p2), (3, .inl p3)]) [0, 1, 2, 3] rfl (t_T_assign_j28 M (q0 := q0) S10 p1 p2 p3 hQ hX K hs)
      · rw [if_neg c18] at K hs
        refine z_go2 M.1.1 21 [(.iload_n 3, 1)] (22, [(0, z_r 0), (1, .inl p1), (2, .inl p2), (3, .inl p3)], [.inl p3], zW T' (zwG G' 9) S10 n, 0, 0) (by decide +kernel) rfl ⟨trivial, trivial⟩ ?_
        refine z_callS M.1.1 (av := [.inl p3]) (st := []) (by decide +kernel) (c_T_isPerson T' (zwG G' 9) S10 n p3) M.1.2.1 zl_T_97 zs_T_isPerson ⟨by decide, by decide, by decide, by decide⟩ rfl (Nat.le_of_ble_eq_true rfl) (fun v w' hv => ?_)
        obtain ⟨rfl, rfl⟩ := hv
        show z_G X zm_T_assign (25, [(0, z_r 0), (1, .inl p1), (2, .inl p2), (3, .inl p3)], [.inl (F_T_isPerson S10 p3)], zW T' (zwG G' 9) S10 n, 0, 0)
        refine z_if_eq 32 M.1.1 (off := 7) (by decide +kernel) (by decide) (fun c25 => ?_) (fun c25 => ?_)
        · rw [if_pos c25] at K hs
          refine z_go2 M.1.1 32 [(.iconst 0, 1)] (33, [(0, z_r 0), (1, .inl p1), (2, .inl p2), (3, .inl p3)], [.inl 0], zW T' (zwG G' 9) S10 n, 0, 0) (by decide +kernel) rfl ⟨trivial, trivial⟩ ?_
          refine z_callSX M.1.1 (av := [.inl 0]) (st := []) (by decide +kernel) (c_mustExist T' (zwG G' 9) S10 n 0) M.1.2.1 zl_T_104 (z_wi 698 (by decide +kernel) rfl) zs_T_mustExist ⟨by decide, by decide, by decide, by decide⟩ rfl (Nat.le_of_ble_eq_true rfl) (fun E w' hx => ?_) (fun v w' hv => ?_)
          · obtain ⟨h0, rfl, n2, hn2, rfl⟩ := hx
            exact M.2 _ _ (hX _ _ n2 _ hn2 K) (Nat.le_of_ble_eq_true rfl) (Nat.le_of_ble_eq_true rfl)
          · obtain ⟨h0, rfl, rfl⟩ := hv
            exact absurd rfl h0
        · rw [if_neg c25] at K hs
          exact z_lvs (lv' := [(0, z_r 0), (1, .inl p1), (2, .inl p2), (3, .inl p3)]) [0, 1, 2, 3] rfl (t_T_assign_j28 M (q0 := q0) S10 p1 p2 p3 hQ hX K hs)

-- TrackHouse.move
abbrev rm_T_move : Room := zx 7 4
def F_T_move_j159 (S : (Nat → Nat → Int32)) (x1 : Int32) (x4 : Int32) (x6 : Int32) : ((String ⊕ Int32) × (Nat → Nat → Int32)) := (match F_T_isSettled S x6 x1 with | (r163, S163) => (if r163 = 0 then (.inl "java/lang/IllegalStateException", S163) else (.inr x4, S163)))
def Sf_T_move_j159 (S : (Nat → Nat → Int32)) (x1 : Int32) (x4 : Int32) (x6 : Int32) : Prop := (Sf_T_isSettled S x6 x1 ∧ True)
theorem t_T_move_j159 {X : z_X} {Post : Option z_V → z_W → Prop} {PX : String → z_W → Prop} (M : z_MX X zm_T_move rm_T_move Post PX) {T' : Nat → Nat × Nat} {G' : Nat → Nat → Option Nat} {n : Nat} {q0 : Nat} {Q : ((String ⊕ Int32) × (Nat → Nat → Int32)) → Prop} (S : (Nat → Nat → Int32)) (x1 : Int32) (x4 : Int32) (x6 : Int32) (hQ : ∀ v S' (q : Nat), Q (.inr v, S') → Post (some (.inl v)) (zW T' (zwG G' q) S' n)) (hX : ∀ E S' (n2 : Nat) (q : Nat), n ≤ n2 → Q (.inl E, S') → PX E (zW T' (zwG G' q) S' n2)) (K : Q (F_T_move_j159 S x1 x4 x6)) (hs : Sf_T_move_j159 S x1 x4 x6) : z_G X zm_T_move (159, [(0, z_r 0), (1, .inl x1), (4, .inl x4), (6, .inl x6)], [], zW T' (zwG G' 9) S n, 3, 18) := by
  unfold F_T_move_j159 at K
  unfold Sf_T_move_j159 at hs
  refine z_go2 M.1.1 159 [(.aload_n 0, 1), (.iload 6, 2), (.iload_n 1, 1)] (163, [(0, z_r 0), (1, .inl x1), (4, .inl x4), (6, .inl x6)], [.inl x1, .inl x6, z_r 0], zW T' (zwG G' 9) S n, 3, 18) (by decide +kernel) rfl ⟨trivial, trivial, trivial, trivial⟩ ?_
  refine z_callV M.1.1 (av := [.inl x6, .inl x1]) (st := []) (a := 0) (ci := 11) (by decide +kernel) (c_T_isSettled T' (zwG G' 9) S n x6 x1 hs.1) M.1.2.1 zl_T_219 zv_T_isSettled rfl rfl rfl ⟨by decide, by decide, by decide, by decide⟩ rfl (Nat.le_of_ble_eq_true rfl) (fun v w' hv => ?_)
  replace hs := hs.2
  rcases hF163 : F_T_isSettled S x6 x1 with ⟨r163, S163⟩
  rw [hF163] at K hv
  try dsimp only at K
  obtain ⟨rfl, rfl⟩ := hv
  show z_G X zm_T_move (166, [(0, z_r 0), (1, .inl x1), (4, .inl x4), (6, .inl x6)], [.inl r163], zW T' (zwG G' 9) S163 n, 3, 18)
  refine z_callSX M.1.1 (av := [.inl r163]) (st := []) (by decide +kernel) (c_mustBeAllowed T' (zwG G' 9) S163 n r163) M.1.2.1 zl_T_128 (z_wi 847 (by decide +kernel) rfl) zs_T_mustBeAllowed ⟨by decide, by decide, by decide, by decide⟩ rfl (Nat.le_of_ble_eq_true rfl) (fun E w' hx => ?_) (fun v w' hv => ?_)
  · obtain ⟨h0, rfl, n2, hn2, rfl⟩ := hx
    rw [if_pos h0] at K
    exact M.2 _ _ (hX _ _ n2 _ hn2 K) (Nat.le_of_ble_eq_true rfl) (Nat.le_of_ble_eq_true rfl)
  · obtain ⟨h0, rfl, rfl⟩ := hv
    rw [if_neg h0] at K
    show z_G X zm_T_move (169, [(0, z_r 0), (1, .inl x1), (4, .inl x4), (6, .inl x6)], [], zW T' (zwG G' 9) S163 n, 4, 24)
    refine z_go2 M.1.1 169 [(.iload 4, 2)] (171, [(0, z_r 0), (1, .inl x1), (4, .inl x4), (6, .inl x6)], [.inl x4], zW T' (zwG G' 9) S163 n, 4, 24) (by decide +kernel) rfl ⟨trivial, trivial⟩ ?_
    exact z_iret M.1 (by decide +kernel) .int rfl rfl (by decide) (by decide) (hQ _ _ _ K)
def F_T_move_j53 (S : (Nat → Nat → Int32)) (x1 : Int32) (x2 : Int32) (x3 : Int32) (s0 : Int32) : ((String ⊕ Int32) × (Nat → Nat → Int32)) := (if s0 = (-1) then (.inl "java/lang/IllegalStateException", S) else (z_let (F_T_change S x1 x2 0 0 x3) (fun S96 => (if (F_Flows_part S96 (F_World_cell 9 S x2 9) s0 5) = 1 then (z_let (F_T_change S96 x1 x2 4 0 x1) (fun S125 => (F_T_move_j159 S125 x1 s0 (S 1 7)))) else (if (F_Flows_part S96 (F_World_cell 9 S x2 9) s0 5) = 2 then (z_let (F_T_change S96 x1 x2 ((1 : Int32) + (F_Flows_part S96 (F_World_cell 9 S x2 9) s0 3)) 0 (-1)) (fun S156 => (match F_T_isSettled S156 (S 1 7) x1 with | (r163, S163) => (if r163 = 0 then (.inl "java/lang/IllegalStateException", S163) else (.inr s0, S163))))) else (F_T_move_j159 S96 x1 s0 (S 1 7)))))))
def Sf_T_move_j53 (S : (Nat → Nat → Int32)) (x1 : Int32) (x2 : Int32) (x3 : Int32) (s0 : Int32) : Prop := (if s0 = (-1) then True else (Sf_World_cell 9 S x2 9 ∧ (Sf_T_change S x1 x2 0 0 x3 ∧ (z_let (F_T_change S x1 x2 0 0 x3) (fun S96 => (if (F_Flows_part S96 (F_World_cell 9 S x2 9) s0 5) = 1 then (Sf_T_change S96 x1 x2 4 0 x1 ∧ (z_let (F_T_change S96 x1 x2 4 0 x1) (fun S125 => (Sf_T_move_j159 S125 x1 s0 (S 1 7))))) else (if (F_Flows_part S96 (F_World_cell 9 S x2 9) s0 5) = 2 then (Sf_T_change S96 x1 x2 ((1 : Int32) + (F_Flows_part S96 (F_World_cell 9 S x2 9) s0 3)) 0 (-1) ∧ (z_let (F_T_change S96 x1 x2 ((1 : Int32) + (F_Flows_part S96 (F_World_cell 9 S x2 9) s0 3)) 0 (-1)) (fun S156 => (Sf_T_isSettled S156 (S 1 7) x1 ∧ True)))) else (Sf_T_move_j159 S96 x1 s0 (S 1 7)))))))))
theorem t_T_move_j53 {X : z_X} {Post : Option z_V → z_W → Prop} {PX : String → z_W → Prop} (M : z_MX X zm_T_move rm_T_move Post PX) {T' : Nat → Nat × Nat} {G' : Nat → Nat → Option Nat} {n : Nat} {q0 : Nat} {Q : ((String ⊕ Int32) × (Nat → Nat → Int32)) → Prop} (S : (Nat → Nat → Int32)) (x1 : Int32) (x2 : Int32) (x3 : Int32) (s0 : Int32) (hQ : ∀ v S' (q : Nat), Q (.inr v, S') → Post (some (.inl v)) (zW T' (zwG G' q) S' n)) (hX : ∀ E S' (n2 : Nat) (q : Nat), n ≤ n2 → Q (.inl E, S') → PX E (zW T' (zwG G' q) S' n2)) (K : Q (F_T_move_j53 S x1 x2 x3 s0)) (hs : Sf_T_move_j53 S x1 x2 x3 s0) : z_G X zm_T_move (53, [(0, z_r 0), (1, .inl x1), (2, .inl x2), (3, .inl x3)], [.inl s0], zW T' (zwG G' 9) S n, 2, 12) := by
  unfold F_T_move_j53 at K
  unfold Sf_T_move_j53 at hs
  refine z_go2 M.1.1 53 [(.istore 4, 2), (.iload 4, 2), (.iconst (-1), 1)] (58, [(4, .inl s0), (0, z_r 0), (1, .inl x1), (2, .inl x2), (3, .inl x3)], [.inl (-1), .inl s0], zW T' (zwG G' 9) S n, 2, 12) (by decide +kernel) rfl ⟨trivial, trivial, trivial, trivial⟩ ?_
  refine z_icmp_eq 65 M.1.1 (off := 7) (by decide +kernel) (by decide) (fun c58 => ?_) (fun c58 => ?_)
  · rw [if_pos c58] at K hs
    refine z_go2 M.1.1 65 [(.iconst 0, 1)] (66, [(4, .inl s0), (0, z_r 0), (1, .inl x1), (2, .inl x2), (3, .inl x3)], [.inl 0], zW T' (zwG G' 9) S n, 2, 12) (by decide +kernel) rfl ⟨trivial, trivial⟩ ?_
    refine z_callSX M.1.1 (av := [.inl 0]) (st := []) (by decide +kernel) (c_mustBeAllowed T' (zwG G' 9) S n 0) M.1.2.1 zl_T_128 (z_wi 847 (by decide +kernel) rfl) zs_T_mustBeAllowed ⟨by decide, by decide, by decide, by decide⟩ rfl (Nat.le_of_ble_eq_true rfl) (fun E w' hx => ?_) (fun v w' hv => ?_)
    · obtain ⟨h0, rfl, n2, hn2, rfl⟩ := hx
      exact M.2 _ _ (hX _ _ n2 _ hn2 K) (Nat.le_of_ble_eq_true rfl) (Nat.le_of_ble_eq_true rfl)
    · obtain ⟨h0, rfl, rfl⟩ := hv
      exact absurd rfl h0
  · rw [if_neg c58] at K hs
    refine z_go2 M.1.1 61 [(.iconst 1, 1), (.goto 4, 3)] (66, [(4, .inl s0), (0, z_r 0), (1, .inl x1), (2, .inl x2), (3, .inl x3)], [.inl 1], zW T' (zwG G' 9) S n, 2, 12) (by decide +kernel) rfl ⟨trivial, trivial, trivial⟩ ?_
    refine z_callSX M.1.1 (av := [.inl 1]) (st := []) (by decide +kernel) (c_mustBeAllowed T' (zwG G' 9) S n 1) M.1.2.1 zl_T_128 (z_wi 847 (by decide +kernel) rfl) zs_T_mustBeAllowed ⟨by decide, by decide, by decide, by decide⟩ rfl (Nat.le_of_ble_eq_true rfl) (fun E w' hx => ?_) (fun v w' hv => ?_)
    · obtain ⟨h0, rfl, n2, hn2, rfl⟩ := hx
      exact absurd h0 (by decide)
    · obtain ⟨h0, rfl, rfl⟩ := hv
      show z_G X zm_T_move (69, [(4, .inl s0), (0, z_r 0), (1, .inl x1), (2, .inl x2), (3, .inl x3)], [], zW T' (zwG G' 9) S n, 3, 18)
      refine z_go2 M.1.1 69 [(.aload_n 0, 1), (.getfield 19, 3), (.iload_n 2, 1), (.bipush 9, 2)] (76, [(4, .inl s0), (0, z_r 0), (1, .inl x1), (2, .inl x2), (3, .inl x3)], [.inl 9, .inl x2, z_r 9], zW T' (zwG G' 9) S n, 3, 18) (by decide +kernel) rfl ⟨trivial, rfl, trivial, trivial, trivial⟩ ?_
      refine z_callV M.1.1 (av := [.inl x2, .inl 9]) (st := []) (a := 9) (ci := 10) (by decide +kernel) (c_World_cell_9 T' (zwG G' 9) S n x2 9 hs.1) M.1.2.1 zl_T_207 zv_World_cell rfl rfl rfl ⟨by decide, by decide, by decide, by decide⟩ rfl (Nat.le_of_ble_eq_true rfl) (fun v w' hv => ?_)
      obtain ⟨rfl, rfl⟩ := hv
      replace hs := hs.2
      show z_G X zm_T_move (79, [(4, .inl s0), (0, z_r 0), (1, .inl x1), (2, .inl x2), (3, .inl x3)], [.inl (F_World_cell 9 S x2 9)], zW T' (zwG G' 9) S n, 3, 18)
      refine z_go2 M.1.1 79 [(.istore 5, 2), (.aload_n 0, 1), (.getfield 12, 3), (.getfield 118, 3), (.istore 6, 2), (.aload_n 0, 1), (.iload_n 1, 1), (.iload_n 2, 1), (.iconst 0, 1), (.iconst 0, 1), (.iload_n 3, 1)] (96, [(6, .inl (S 1 7)), (5, .inl (F_World_cell 9 S x2 9)), (4, .inl s0), (0, z_r 0), (1, .inl x1), (2, .inl x2), (3, .inl x3)], [.inl x3, .inl 0, .inl 0, .inl x2, .inl x1, z_r 0], zW T' (zwG G' 9) S n, 3, 18) (by decide +kernel) rfl ⟨trivial, trivial, rfl, rfl, trivial, trivial, trivial, trivial, trivial, trivial, trivial, trivial⟩ ?_
      refine z_callV M.1.1 (av := [.inl x1, .inl x2, .inl 0, .inl 0, .inl x3]) (st := []) (a := 0) (ci := 11) (by decide +kernel) (c_T_change T' (zwG G' 9) S n x1 x2 0 0 x3 hs.1) M.1.2.1 zl_T_121 zv_T_change rfl rfl rfl ⟨by decide, by decide, by decide, by decide⟩ rfl (Nat.le_of_ble_eq_true rfl) (fun v w' hv => ?_)
      replace hs := hs.2
      obtain ⟨S96, hF96⟩ : ∃ y, F_T_change S x1 x2 0 0 x3 = y := ⟨_, rfl⟩
      rw [hF96] at K hv
      try rw [hF96] at hs
      try dsimp only [z_let] at K hs
      obtain ⟨rfl, rfl⟩ := hv
      show z_G X zm_T_move (99, [(6, .inl (S 1 7)), (5, .inl (F_World_cell 9 S x2 9)), (4, .inl s0), (0, z_r 0), (1, .inl x1), (2, .inl x2), (3, .inl x3)], [], zW T' (zwG G' 9) S96 n, 3, 18)
      refine z_go2 M.1.1 99 [(.aload_n 0, 1), (.getfield 58, 3), (.iload 5, 2), (.iload 4, 2), (.iconst 5, 1)] (108, [(6, .inl (S 1 7)), (5, .inl (F_World_cell 9 S x2 9)), (4, .inl s0), (0, z_r 0), (1, .inl x1), (2, .inl x2), (3, .inl x3)], [.inl 5, .inl s0, .inl (F_World_cell 9 S x2 9), z_r 54], zW T' (zwG G' 9) S96 n, 3, 18) (by decide +kernel) rfl ⟨trivial, rfl, trivial, trivial, trivial, trivial⟩ ?_
      refine z_callV M.1.1 (av := [.inl (F_World_cell 9 S x2 9), .inl s0, .inl 5]) (st := []) (a := 54) (ci := 2) (by decide +kernel) (c_Flows_part T' (zwG G' 9) S96 n (F_World_cell 9 S x2 9) s0 5) M.1.2.1 zl_T_258 zv_Flows_part rfl rfl rfl ⟨by decide, by decide, by decide, by decide⟩ rfl (Nat.le_of_ble_eq_true rfl) (fun v w' hv => ?_)
      obtain ⟨rfl, rfl⟩ := hv
      show z_G X zm_T_move (111, [(6, .inl (S 1 7)), (5, .inl (F_World_cell 9 S x2 9)), (4, .inl s0), (0, z_r 0), (1, .inl x1), (2, .inl x2), (3, .inl x3)], [.inl (F_Flows_part S96 (F_World_cell 9 S x2 9) s0 5)], zW T' (zwG G' 9) S96 n, 3, 18)
      refine z_go2 M.1.1 111 [(.istore 7, 2), (.iload 7, 2), (.iconst 1, 1)] (116, [(7, .inl (F_Flows_part S96 (F_World_cell 9 S x2 9) s0 5)), (6, .inl (S 1 7)), (5, .inl (F_World_cell 9 S x2 9)), (4, .inl s0), (0, z_r 0), (1, .inl x1), (2, .inl x2), (3, .inl x3)], [.inl 1, .inl (F_Flows_part S96 (F_World_cell 9 S x2 9) s0 5)], zW T' (zwG G' 9) S96 n, 3, 18) (by decide +kernel) rfl ⟨trivial, trivial, trivial, trivial⟩ ?_
      refine z_icmp_ne 131 M.1.1 (off := 15) (by decide +kernel) (by decide) (fun c116 => ?_) (fun c116 => ?_)
      · rw [if_neg c116] at K hs
        refine z_go2 M.1.1 131 [(.iload 7, 2), (.iconst 2, 1)] (134, [(7, .inl (F_Flows_part S96 (F_World_cell 9 S x2 9) s0 5)), (6, .inl (S 1 7)), (5, .inl (F_World_cell 9 S x2 9)), (4, .inl s0), (0, z_r 0), (1, .inl x1), (2, .inl x2), (3, .inl x3)], [.inl 2, .inl (F_Flows_part S96 (F_World_cell 9 S x2 9) s0 5)], zW T' (zwG G' 9) S96 n, 3, 18) (by decide +kernel) rfl ⟨trivial, trivial, trivial⟩ ?_
        refine z_icmp_ne 159 M.1.1 (off := 25) (by decide +kernel) (by decide) (fun c134 => ?_) (fun c134 => ?_)
        · rw [if_neg c134] at K hs
          exact z_lvs (lv' := [(0, z_r 0), (1, .inl x1), (4, .inl s0), (6, .inl (S 1 7))]) [4, 5, 3, 1] rfl (t_T_move_j159 M (q0 := q0) S96 x1 s0 (S 1 7) hQ hX K hs)
        · rw [if_pos c134] at K hs
          refine z_go2 M.1.1 137 [(.aload_n 0, 1), (.iload_n 1, 1), (.iload_n 2, 1), (.iconst 1, 1), (.aload_n 0, 1), (.getfield 58, 3), (.iload 5, 2), (.iload 4, 2), (.iconst 3, 1)] (150, [(7, .inl (F_Flows_part S96 (F_World_cell 9 S x2 9) s0 5)), (6, .inl (S 1 7)), (5, .inl (F_World_cell 9 S x2 9)), (4, .inl s0), (0, z_r 0), (1, .inl x1), (2, .inl x2), (3, .inl x3)], [.inl 3, .inl s0, .inl (F_World_cell 9 S x2 9), z_r 54, .inl 1, .inl x2, .inl x1, z_r 0], zW T' (zwG G' 9) S96 n, 3, 18) (by decide +kernel) rfl ⟨trivial, trivial, trivial, trivial, trivial, rfl, trivial, trivial, trivial, trivial⟩ ?_
          refine z_callV M.1.1 (av := [.inl (F_World_cell 9 S x2 9), .inl s0, .inl 3]) (st := [.inl 1, .inl x2, .inl x1, z_r 0]) (a := 54) (ci := 2) (by decide +kernel) (c_Flows_part T' (zwG G' 9) S96 n (F_World_cell 9 S x2 9) s0 3) M.1.2.1 zl_T_258 zv_Flows_part rfl rfl rfl ⟨by decide, by decide, by decide, by decide⟩ rfl (Nat.le_of_ble_eq_true rfl) (fun v w' hv => ?_)
          obtain ⟨rfl, rfl⟩ := hv
          show z_G X zm_T_move (153, [(7, .inl (F_Flows_part S96 (F_World_cell 9 S x2 9) s0 5)), (6, .inl (S 1 7)), (5, .inl (F_World_cell 9 S x2 9)), (4, .inl s0), (0, z_r 0), (1, .inl x1), (2, .inl x2), (3, .inl x3)], [.inl (F_Flows_part S96 (F_World_cell 9 S x2 9) s0 3), .inl 1, .inl x2, .inl x1, z_r 0], zW T' (zwG G' 9) S96 n, 3, 18)
          refine z_go2 M.1.1 153 [(.iadd, 1), (.iconst 0, 1), (.iconst (-1), 1)] (156, [(7, .inl (F_Flows_part S96 (F_World_cell 9 S x2 9) s0 5)), (6, .inl (S 1 7)), (5, .inl (F_World_cell 9 S x2 9)), (4, .inl s0), (0, z_r 0), (1, .inl x1), (2, .inl x2), (3, .inl x3)], [.inl (-1), .inl 0, .inl ((1 : Int32) + (F_Flows_part S96 (F_World_cell 9 S x2 9) s0 3)), .inl x2, .inl x1, z_r 0], zW T' (zwG G' 9) S96 n, 3, 18) (by decide +kernel) rfl ⟨trivial, trivial, trivial, trivial⟩ ?_
          refine z_callV M.1.1 (av := [.inl x1, .inl x2, .inl ((1 : Int32) + (F_Flows_part S96 (F_World_cell 9 S x2 9) s0 3)), .inl 0, .inl (-1)]) (st := []) (a := 0) (ci := 11) (by decide +kernel) (c_T_change T' (zwG G' 9) S96 n x1 x2 ((1 : Int32) + (F_Flows_part S96 (F_World_cell 9 S x2 9) s0 3)) 0 (-1) hs.1) M.1.2.1 zl_T_121 zv_T_change rfl rfl rfl ⟨by decide, by decide, by decide, by decide⟩ rfl (Nat.le_of_ble_eq_true rfl) (fun v w' hv => ?_)
          replace hs := hs.2
          obtain ⟨S156, hF156⟩ : ∃ y, F_T_change S96 x1 x2 ((1 : Int32) + (F_Flows_part S96 (F_World_cell 9 S x2 9) s0 3)) 0 (-1) = y := ⟨_, rfl⟩
          rw [hF156] at K hv
          try rw [hF156] at hs
          try dsimp only [z_let] at K hs
          obtain ⟨rfl, rfl⟩ := hv
          show z_G X zm_T_move (159, [(7, .inl (F_Flows_part S96 (F_World_cell 9 S x2 9) s0 5)), (6, .inl (S 1 7)), (5, .inl (F_World_cell 9 S x2 9)), (4, .inl s0), (0, z_r 0), (1, .inl x1), (2, .inl x2), (3, .inl x3)], [], zW T' (zwG G' 9) S156 n, 3, 18)
          refine z_go2 M.1.1 159 [(.aload_n 0, 1), (.iload 6, 2), (.iload_n 1, 1)] (163, [(7, .inl (F_Flows_part S96 (F_World_cell 9 S x2 9) s0 5)), (6, .inl (S 1 7)), (5, .inl (F_World_cell 9 S x2 9)), (4, .inl s0), (0, z_r 0), (1, .inl x1), (2, .inl x2), (3, .inl x3)], [.inl x1, .inl (S 1 7), z_r 0], zW T' (zwG G' 9) S156 n, 3, 18) (by decide +kernel) rfl ⟨trivial, trivial, trivial, trivial⟩ ?_
          refine z_callV M.1.1 (av := [.inl (S 1 7), .inl x1]) (st := []) (a := 0) (ci := 11) (by decide +kernel) (c_T_isSettled T' (zwG G' 9) S156 n (S 1 7) x1 hs.1) M.1.2.1 zl_T_219 zv_T_isSettled rfl rfl rfl ⟨by decide, by decide, by decide, by decide⟩ rfl (Nat.le_of_ble_eq_true rfl) (fun v w' hv => ?_)
          replace hs := hs.2
          rcases hF163 : F_T_isSettled S156 (S 1 7) x1 with ⟨r163, S163⟩
          rw [hF163] at K hv
          try dsimp only at K
          obtain ⟨rfl, rfl⟩ := hv
          show z_G X zm_T_move (166, [(7, .inl (F_Flows_part S96 (F_World_cell 9 S x2 9) s0 5)), (6, .inl (S 1 7)), (5, .inl (F_World_cell 9 S x2 9)), (4, .inl s0), (0, z_r 0), (1, .inl x1), (2, .inl x2), (3, .inl x3)], [.inl r163], zW T' (zwG G' 9) S163 n, 3, 18)
          refine z_callSX M.1.1 (av := [.inl r163]) (st := []) (by decide +kernel) (c_mustBeAllowed T' (zwG G' 9) S163 n r163) M.1.2.1 zl_T_128 (z_wi 847 (by decide +kernel) rfl) zs_T_mustBeAllowed ⟨by decide, by decide, by decide, by decide⟩ rfl (Nat.le_of_ble_eq_true rfl) (fun E w' hx => ?_) (fun v w' hv => ?_)
          · obtain ⟨h0, rfl, n2, hn2, rfl⟩ := hx
            rw [if_pos h0] at K
            exact M.2 _ _ (hX _ _ n2 _ hn2 K) (Nat.le_of_ble_eq_true rfl) (Nat.le_of_ble_eq_true rfl)
          · obtain ⟨h0, rfl, rfl⟩ := hv
            rw [if_neg h0] at K
            show z_G X zm_T_move (169, [(7, .inl (F_Flows_part S96 (F_World_cell 9 S x2 9) s0 5)), (6, .inl (S 1 7)), (5, .inl (F_World_cell 9 S x2 9)), (4, .inl s0), (0, z_r 0), (1, .inl x1), (2, .inl x2), (3, .inl x3)], [], zW T' (zwG G' 9) S163 n, 4, 24)
            refine z_go2 M.1.1 169 [(.iload 4, 2)] (171, [(7, .inl (F_Flows_part S96 (F_World_cell 9 S x2 9) s0 5)), (6, .inl (S 1 7)), (5, .inl (F_World_cell 9 S x2 9)), (4, .inl s0), (0, z_r 0), (1, .inl x1), (2, .inl x2), (3, .inl x3)], [.inl s0], zW T' (zwG G' 9) S163 n, 4, 24) (by decide +kernel) rfl ⟨trivial, trivial⟩ ?_
            exact z_iret M.1 (by decide +kernel) .int rfl rfl (by decide) (by decide) (hQ _ _ _ K)
      · rw [if_pos c116] at K hs
        refine z_go2 M.1.1 119 [(.aload_n 0, 1), (.iload_n 1, 1), (.iload_n 2, 1), (.iconst 4, 1), (.iconst 0, 1), (.iload_n 1, 1)] (125, [(7, .inl (F_Flows_part S96 (F_World_cell 9 S x2 9) s0 5)), (6, .inl (S 1 7)), (5, .inl (F_World_cell 9 S x2 9)), (4, .inl s0), (0, z_r 0), (1, .inl x1), (2, .inl x2), (3, .inl x3)], [.inl x1, .inl 0, .inl 4, .inl x2, .inl x1, z_r 0], zW T' (zwG G' 9) S96 n, 3, 18) (by decide +kernel) rfl ⟨trivial, trivial, trivial, trivial, trivial, trivial, trivial⟩ ?_
        refine z_callV M.1.1 (av := [.inl x1, .inl x2, .inl 4, .inl 0, .inl x1]) (st := []) (a := 0) (ci := 11) (by decide +kernel) (c_T_change T' (zwG G' 9) S96 n x1 x2 4 0 x1 hs.1) M.1.2.1 zl_T_121 zv_T_change rfl rfl rfl ⟨by decide, by decide, by decide, by decide⟩ rfl (Nat.le_of_ble_eq_true rfl) (fun v w' hv => ?_)
        replace hs := hs.2
        obtain ⟨S125, hF125⟩ : ∃ y, F_T_change S96 x1 x2 4 0 x1 = y := ⟨_, rfl⟩
        rw [hF125] at K hv
        try rw [hF125] at hs
        try dsimp only [z_let] at K hs
        obtain ⟨rfl, rfl⟩ := hv
        show z_G X zm_T_move (128, [(7, .inl (F_Flows_part S96 (F_World_cell 9 S x2 9) s0 5)), (6, .inl (S 1 7)), (5, .inl (F_World_cell 9 S x2 9)), (4, .inl s0), (0, z_r 0), (1, .inl x1), (2, .inl x2), (3, .inl x3)], [], zW T' (zwG G' 9) S125 n, 3, 18)
        refine z_go2 M.1.1 128 [(.goto 31, 3)] (159, [(7, .inl (F_Flows_part S96 (F_World_cell 9 S x2 9) s0 5)), (6, .inl (S 1 7)), (5, .inl (F_World_cell 9 S x2 9)), (4, .inl s0), (0, z_r 0), (1, .inl x1), (2, .inl x2), (3, .inl x3)], [], zW T' (zwG G' 9) S125 n, 3, 18) (by decide +kernel) rfl ⟨trivial, trivial⟩ ?_
        exact z_lvs (lv' := [(0, z_r 0), (1, .inl x1), (4, .inl s0), (6, .inl (S 1 7))]) [4, 5, 3, 1] rfl (t_T_move_j159 M (q0 := q0) S125 x1 s0 (S 1 7) hQ hX K hs)
def F_T_move (S : (Nat → Nat → Int32)) (p1 : Int32) (p2 : Int32) (p3 : Int32) : ((String ⊕ Int32) × (Nat → Nat → Int32)) := (if (F_T_isPerson S p1) = 0 then (.inl "java/lang/IndexOutOfBoundsException", S) else (match F_T_isSeen S p1 p2 with | (r10, S10) => (if r10 = 0 then (.inl "java/lang/IndexOutOfBoundsException", S10) else (if (F_T_isState S10 p3) = 0 then (.inl "java/lang/IllegalArgumentException", S10) else (if (F_Sight_canEdit S10 p2) = 0 then (F_T_move_j53 S10 p1 p2 p3 (-1)) else (F_T_move_j53 S10 p1 p2 p3 (F_T_stepTo S10 p1 p2 p3)))))))
def Sf_T_move (S : (Nat → Nat → Int32)) (p1 : Int32) (p2 : Int32) (p3 : Int32) : Prop := (if (F_T_isPerson S p1) = 0 then True else (Sf_T_isSeen S p1 p2 ∧ (match F_T_isSeen S p1 p2 with | (r10, S10) => (if r10 = 0 then True else (if (F_T_isState S10 p3) = 0 then True else (Sf_Sight_canEdit S10 p2 ∧ (if (F_Sight_canEdit S10 p2) = 0 then (Sf_T_move_j53 S10 p1 p2 p3 (-1)) else (Sf_T_stepTo S10 p1 p2 p3 ∧ (Sf_T_move_j53 S10 p1 p2 p3 (F_T_stepTo S10 p1 p2 p3))))))))))
theorem c_T_move (T' : Nat → Nat × Nat) (G' : Nat → Nat → Option Nat) (q0 : Nat) (S : (Nat → Nat → Int32)) (n : Nat) (p1 : Int32) (p2 : Int32) (p3 : Int32) (hs : Sf_T_move S p1 p2 p3) : z_RunX rm_T_move zm_T_move [z_r 0, .inl p1, .inl p2, .inl p3] (zW T' (zwG G' q0) S n) (fun v w' => ∃ x S' q, F_T_move S p1 p2 p3 = (.inr x, S') ∧ v = some (.inl x) ∧ w' = zW T' (zwG G' q) S' n) (fun E w' => ∃ S' n2 q, n ≤ n2 ∧ F_T_move S p1 p2 p3 = (.inl E, S') ∧ w' = zW T' (zwG G' q) S' n2) := by
  refine z_bodyX (by decide) zf_T_ok (Nat.le_of_ble_eq_true rfl) (fun X M => ?_)
  obtain ⟨Q, hQ, hX, K⟩ : ∃ Q : ((String ⊕ Int32) × (Nat → Nat → Int32)) → Prop, (∀ v S' q, Q (.inr v, S') → ∃ x S'' q2, F_T_move S p1 p2 p3 = (.inr x, S'') ∧ some (.inl v : z_V) = some (.inl x) ∧ zW T' (zwG G' q) S' n = zW T' (zwG G' q2) S'' n) ∧ (∀ E S' (n2 : Nat) q, n ≤ n2 → Q (.inl E, S') → ∃ S'' n3 q2, n ≤ n3 ∧ F_T_move S p1 p2 p3 = (.inl E, S'') ∧ zW T' (zwG G' q) S' n2 = zW T' (zwG G' q2) S'' n3) ∧ Q (F_T_move S p1 p2 p3) := ⟨fun o => F_T_move S p1 p2 p3 = o, fun v S' q h => ⟨v, S', q, h, rfl, rfl⟩, fun E S' n2 q hn h => ⟨S', n2, q, hn, h, rfl⟩, rfl⟩
  show z_G X zm_T_move (0, [(0, z_r 0), (1, .inl p1), (2, .inl p2), (3, .inl p3)], [], zW T' (zwG G' q0) S n, 0, 0)
  unfold F_T_move at K
  unfold Sf_T_move at hs
  refine z_go2 M.1.1 0 [(.iload_n 1, 1)] (1, [(0, z_r 0), (1, .inl p1), (2, .inl p2), (3, .inl p3)], [.inl p1], zW T' (zwG G' q0) S n, 0, 0) (by decide +kernel) rfl ⟨trivial, trivial⟩ ?_
  refine z_callS M.1.1 (av := [.inl p1]) (st := []) (by decide +kernel) (c_T_isPerson T' (zwG G' q0) S n p1) M.1.2.1 zl_T_97 zs_T_isPerson ⟨by decide, by decide, by decide, by decide⟩ rfl (Nat.le_of_ble_eq_true rfl) (fun v w' hv => ?_)
  obtain ⟨rfl, rfl⟩ := hv
  show z_G X zm_T_move (4, [(0, z_r 0), (1, .inl p1), (2, .inl p2), (3, .inl p3)], [.inl (F_T_isPerson S p1)], zW T' (zwG G' q0) S n, 0, 0)
  refine z_if_eq 20 M.1.1 (off := 16) (by decide +kernel) (by decide) (fun c4 => ?_) (fun c4 => ?_)
  · rw [if_pos c4] at K hs
    refine z_go2 M.1.1 20 [(.iconst 0, 1)] (21, [(0, z_r 0), (1, .inl p1), (2, .inl p2), (3, .inl p3)], [.inl 0], zW T' (zwG G' q0) S n, 0, 0) (by decide +kernel) rfl ⟨trivial, trivial⟩ ?_
    refine z_callSX M.1.1 (av := [.inl 0]) (st := []) (by decide +kernel) (c_mustExist T' (zwG G' q0) S n 0) M.1.2.1 zl_T_104 (z_wi 698 (by decide +kernel) rfl) zs_T_mustExist ⟨by decide, by decide, by decide, by decide⟩ rfl (Nat.le_of_ble_eq_true rfl) (fun E w' hx => ?_) (fun v w' hv => ?_)
    · obtain ⟨h0, rfl, n2, hn2, rfl⟩ := hx
      exact M.2 _ _ (hX _ _ n2 _ hn2 K) (Nat.le_of_ble_eq_true rfl) (Nat.le_of_ble_eq_true rfl)
    · obtain ⟨h0, rfl, rfl⟩ := hv
      exact absurd rfl h0
  · rw [if_neg c4] at K hs
    refine z_go2 M.1.1 7 [(.aload_n 0, 1), (.iload_n 1, 1), (.iload_n 2, 1)] (10, [(0, z_r 0), (1, .inl p1), (2, .inl p2), (3, .inl p3)], [.inl p2, .inl p1, z_r 0], zW T' (zwG G' q0) S n, 0, 0) (by decide +kernel) rfl ⟨trivial, trivial, trivial, trivial⟩ ?_
    refine z_callV M.1.1 (av := [.inl p1, .inl p2]) (st := []) (a := 0) (ci := 11) (by decide +kernel) (c_T_isSeen T' G' q0 S n p1 p2 hs.1) M.1.2.1 zl_T_238 zv_T_isSeen rfl rfl rfl ⟨by decide, by decide, by decide, by decide⟩ rfl (Nat.le_of_ble_eq_true rfl) (fun v w' hv => ?_)
    replace hs := hs.2
    rcases hF10 : F_T_isSeen S p1 p2 with ⟨r10, S10⟩
    rw [hF10] at K hv
    try rw [hF10] at hs
    try dsimp only at K hs
    obtain ⟨rfl, rfl⟩ := hv
    show z_G X zm_T_move (13, [(0, z_r 0), (1, .inl p1), (2, .inl p2), (3, .inl p3)], [.inl r10], zW T' (zwG G' 9) S10 n, 0, 0)
    refine z_if_eq 20 M.1.1 (off := 7) (by decide +kernel) (by decide) (fun c13 => ?_) (fun c13 => ?_)
    · rw [if_pos c13] at K hs
      refine z_go2 M.1.1 20 [(.iconst 0, 1)] (21, [(0, z_r 0), (1, .inl p1), (2, .inl p2), (3, .inl p3)], [.inl 0], zW T' (zwG G' 9) S10 n, 0, 0) (by decide +kernel) rfl ⟨trivial, trivial⟩ ?_
      refine z_callSX M.1.1 (av := [.inl 0]) (st := []) (by decide +kernel) (c_mustExist T' (zwG G' 9) S10 n 0) M.1.2.1 zl_T_104 (z_wi 698 (by decide +kernel) rfl) zs_T_mustExist ⟨by decide, by decide, by decide, by decide⟩ rfl (Nat.le_of_ble_eq_true rfl) (fun E w' hx => ?_) (fun v w' hv => ?_)
      · obtain ⟨h0, rfl, n2, hn2, rfl⟩ := hx
        exact M.2 _ _ (hX _ _ n2 _ hn2 K) (Nat.le_of_ble_eq_true rfl) (Nat.le_of_ble_eq_true rfl)
      · obtain ⟨h0, rfl, rfl⟩ := hv
        exact absurd rfl h0
    · rw [if_neg c13] at K hs
      refine z_go2 M.1.1 16 [(.iconst 1, 1), (.goto 4, 3)] (21, [(0, z_r 0), (1, .inl p1), (2, .inl p2), (3, .inl p3)], [.inl 1], zW T' (zwG G' 9) S10 n, 0, 0) (by decide +kernel) rfl ⟨trivial, trivial, trivial⟩ ?_
      refine z_callSX M.1.1 (av := [.inl 1]) (st := []) (by decide +kernel) (c_mustExist T' (zwG G' 9) S10 n 1) M.1.2.1 zl_T_104 (z_wi 698 (by decide +kernel) rfl) zs_T_mustExist ⟨by decide, by decide, by decide, by decide⟩ rfl (Nat.le_of_ble_eq_true rfl) (fun E w' hx => ?_) (fun v w' hv => ?_)
      · obtain ⟨h0, rfl, n2, hn2, rfl⟩ := hx
        exact absurd h0 (by decide)
      · obtain ⟨h0, rfl, rfl⟩ := hv
        show z_G X zm_T_move (24, [(0, z_r 0), (1, .inl p1), (2, .inl p2), (3, .inl p3)], [], zW T' (zwG G' 9) S10 n, 1, 6)
        refine z_go2 M.1.1 24 [(.iload_n 3, 1)] (25, [(0, z_r 0), (1, .inl p1), (2, .inl p2), (3, .inl p3)], [.inl p3], zW T' (zwG G' 9) S10 n, 1, 6) (by decide +kernel) rfl ⟨trivial, trivial⟩ ?_
        refine z_callS M.1.1 (av := [.inl p3]) (st := []) (by decide +kernel) (c_T_isState T' (zwG G' 9) S10 n p3) M.1.2.1 zl_T_188 zs_T_isState ⟨by decide, by decide, by decide, by decide⟩ rfl (Nat.le_of_ble_eq_true rfl) (fun v w' hv => ?_)
        obtain ⟨rfl, rfl⟩ := hv
        show z_G X zm_T_move (28, [(0, z_r 0), (1, .inl p1), (2, .inl p2), (3, .inl p3)], [.inl (F_T_isState S10 p3)], zW T' (zwG G' 9) S10 n, 1, 6)
        refine z_callSX M.1.1 (av := [.inl (F_T_isState S10 p3)]) (st := []) (by decide +kernel) (c_mustFit T' (zwG G' 9) S10 n (F_T_isState S10 p3)) M.1.2.1 zl_T_111 (z_wi 772 (by decide +kernel) rfl) zs_T_mustFit ⟨by decide, by decide, by decide, by decide⟩ rfl (Nat.le_of_ble_eq_true rfl) (fun E w' hx => ?_) (fun v w' hv => ?_)
        · obtain ⟨h0, rfl, n2, hn2, rfl⟩ := hx
          rw [if_pos h0] at K
          exact M.2 _ _ (hX _ _ n2 _ hn2 K) (Nat.le_of_ble_eq_true rfl) (Nat.le_of_ble_eq_true rfl)
        · obtain ⟨h0, rfl, rfl⟩ := hv
          rw [if_neg h0] at K hs
          show z_G X zm_T_move (31, [(0, z_r 0), (1, .inl p1), (2, .inl p2), (3, .inl p3)], [], zW T' (zwG G' 9) S10 n, 2, 12)
          refine z_go2 M.1.1 31 [(.aload_n 0, 1), (.getfield 47, 3), (.iload_n 2, 1)] (36, [(0, z_r 0), (1, .inl p1), (2, .inl p2), (3, .inl p3)], [.inl p2, z_r 36], zW T' (zwG G' 9) S10 n, 2, 12) (by decide +kernel) rfl ⟨trivial, rfl, trivial, trivial⟩ ?_
          refine z_callV M.1.1 (av := [.inl p2]) (st := []) (a := 36) (ci := 8) (by decide +kernel) (c_Sight_canEdit T' (zwG G' 9) S10 n p2 hs.1) M.1.2.1 zl_T_251 zv_Sight_canEdit rfl rfl rfl ⟨by decide, by decide, by decide, by decide⟩ rfl (Nat.le_of_ble_eq_true rfl) (fun v w' hv => ?_)
          obtain ⟨rfl, rfl⟩ := hv
          replace hs := hs.2
          show z_G X zm_T_move (39, [(0, z_r 0), (1, .inl p1), (2, .inl p2), (3, .inl p3)], [.inl (F_Sight_canEdit S10 p2)], zW T' (zwG G' 9) S10 n, 2, 12)
          refine z_if_eq 52 M.1.1 (off := 13) (by decide +kernel) (by decide) (fun c39 => ?_) (fun c39 => ?_)
          · rw [if_pos c39] at K hs
            refine z_go2 M.1.1 52 [(.iconst (-1), 1)] (53, [(0, z_r 0), (1, .inl p1), (2, .inl p2), (3, .inl p3)], [.inl (-1)], zW T' (zwG G' 9) S10 n, 2, 12) (by decide +kernel) rfl ⟨trivial, trivial⟩ ?_
            exact z_lvs (lv' := [(0, z_r 0), (1, .inl p1), (2, .inl p2), (3, .inl p3)]) [0, 1, 2, 3] rfl (t_T_move_j53 M (q0 := q0) S10 p1 p2 p3 (-1) hQ hX K hs)
          · rw [if_neg c39] at K hs
            refine z_go2 M.1.1 42 [(.aload_n 0, 1), (.iload_n 1, 1), (.iload_n 2, 1), (.iload_n 3, 1)] (46, [(0, z_r 0), (1, .inl p1), (2, .inl p2), (3, .inl p3)], [.inl p3, .inl p2, .inl p1, z_r 0], zW T' (zwG G' 9) S10 n, 2, 12) (by decide +kernel) rfl ⟨trivial, trivial, trivial, trivial, trivial⟩ ?_
            refine z_callV M.1.1 (av := [.inl p1, .inl p2, .inl p3]) (st := []) (a := 0) (ci := 11) (by decide +kernel) (c_T_stepTo T' (zwG G' 9) S10 n p1 p2 p3 hs.1) M.1.2.1 zl_T_254 zv_T_stepTo rfl rfl rfl ⟨by decide, by decide, by decide, by decide⟩ rfl (Nat.le_of_ble_eq_true rfl) (fun v w' hv => ?_)
            obtain ⟨rfl, rfl⟩ := hv
            replace hs := hs.2
            show z_G X zm_T_move (49, [(0, z_r 0), (1, .inl p1), (2, .inl p2), (3, .inl p3)], [.inl (F_T_stepTo S10 p1 p2 p3)], zW T' (zwG G' 9) S10 n, 2, 12)
            refine z_go2 M.1.1 49 [(.goto 4, 3)] (53, [(0, z_r 0), (1, .inl p1), (2, .inl p2), (3, .inl p3)], [.inl (F_T_stepTo S10 p1 p2 p3)], zW T' (zwG G' 9) S10 n, 2, 12) (by decide +kernel) rfl ⟨trivial, trivial⟩ ?_
            exact z_lvs (lv' := [(0, z_r 0), (1, .inl p1), (2, .inl p2), (3, .inl p3)]) [0, 1, 2, 3] rfl (t_T_move_j53 M (q0 := q0) S10 p1 p2 p3 (F_T_stepTo S10 p1 p2 p3) hQ hX K hs)

-- TrackHouse.nest
abbrev rm_T_nest : Room := zx 8 4
def F_T_nest_j32 (S : (Nat → Nat → Int32)) (x1 : Int32) (x2 : Int32) (x3 : Int32) : ((String ⊕ Int32) × (Nat → Nat → Int32)) := (if (F_Sight_canEdit S x2) = 0 then (.inl "java/lang/IllegalStateException", S) else (if (F_T_isAtOrAbove S x2 x3) = 0 then (match F_T_setCell S x1 x2 5 x3 with | (.inl e, S73) => (.inl e, S73) | (.inr r73, S73) => (if (F_Sight_sees S73 r73) = 0 then (.inr (-1), S73) else (.inr r73, S73))) else (.inl "java/lang/IllegalStateException", S)))
def Sf_T_nest_j32 (S : (Nat → Nat → Int32)) (x1 : Int32) (x2 : Int32) (x3 : Int32) : Prop := (Sf_Sight_canEdit S x2 ∧ (if (F_Sight_canEdit S x2) = 0 then True else (Sf_T_isAtOrAbove S x2 x3 ∧ (if (F_T_isAtOrAbove S x2 x3) = 0 then (Sf_T_setCell S x1 x2 5 x3 ∧ (match F_T_setCell S x1 x2 5 x3 with | (.inl _, S73) => True | (.inr r73, S73) => (Sf_Sight_sees S73 r73 ∧ True))) else True))))
theorem t_T_nest_j32 {X : z_X} {Post : Option z_V → z_W → Prop} {PX : String → z_W → Prop} (M : z_MX X zm_T_nest rm_T_nest Post PX) {T' : Nat → Nat × Nat} {G' : Nat → Nat → Option Nat} {n : Nat} {q0 : Nat} {Q : ((String ⊕ Int32) × (Nat → Nat → Int32)) → Prop} (S : (Nat → Nat → Int32)) (x1 : Int32) (x2 : Int32) (x3 : Int32) (hQ : ∀ v S' (q : Nat), Q (.inr v, S') → Post (some (.inl v)) (zW T' (zwG G' q) S' n)) (hX : ∀ E S' (n2 : Nat) (q : Nat), n ≤ n2 → Q (.inl E, S') → PX E (zW T' (zwG G' q) S' n2)) (K : Q (F_T_nest_j32 S x1 x2 x3)) (hs : Sf_T_nest_j32 S x1 x2 x3) : z_G X zm_T_nest (32, [(0, z_r 0), (1, .inl x1), (2, .inl x2), (3, .inl x3)], [], zW T' (zwG G' 9) S n, 0, 0) := by
  unfold F_T_nest_j32 at K
  unfold Sf_T_nest_j32 at hs
  refine z_go2 M.1.1 32 [(.iconst 1, 1), (.goto 4, 3)] (37, [(0, z_r 0), (1, .inl x1), (2, .inl x2), (3, .inl x3)], [.inl 1], zW T' (zwG G' 9) S n, 0, 0) (by decide +kernel) rfl ⟨trivial, trivial, trivial⟩ ?_
  refine z_callSX M.1.1 (av := [.inl 1]) (st := []) (by decide +kernel) (c_mustExist T' (zwG G' 9) S n 1) M.1.2.1 zl_T_104 (z_wi 698 (by decide +kernel) rfl) zs_T_mustExist ⟨by decide, by decide, by decide, by decide⟩ rfl (Nat.le_of_ble_eq_true rfl) (fun E w' hx => ?_) (fun v w' hv => ?_)
  · obtain ⟨h0, rfl, n2, hn2, rfl⟩ := hx
    exact absurd h0 (by decide)
  · obtain ⟨h0, rfl, rfl⟩ := hv
    show z_G X zm_T_nest (40, [(0, z_r 0), (1, .inl x1), (2, .inl x2), (3, .inl x3)], [], zW T' (zwG G' 9) S n, 1, 6)
    refine z_go2 M.1.1 40 [(.aload_n 0, 1), (.getfield 47, 3), (.iload_n 2, 1)] (45, [(0, z_r 0), (1, .inl x1), (2, .inl x2), (3, .inl x3)], [.inl x2, z_r 36], zW T' (zwG G' 9) S n, 1, 6) (by decide +kernel) rfl ⟨trivial, rfl, trivial, trivial⟩ ?_
    refine z_callV M.1.1 (av := [.inl x2]) (st := []) (a := 36) (ci := 8) (by decide +kernel) (c_Sight_canEdit T' (zwG G' 9) S n x2 hs.1) M.1.2.1 zl_T_251 zv_Sight_canEdit rfl rfl rfl ⟨by decide, by decide, by decide, by decide⟩ rfl (Nat.le_of_ble_eq_true rfl) (fun v w' hv => ?_)
    obtain ⟨rfl, rfl⟩ := hv
    replace hs := hs.2
    show z_G X zm_T_nest (48, [(0, z_r 0), (1, .inl x1), (2, .inl x2), (3, .inl x3)], [.inl (F_Sight_canEdit S x2)], zW T' (zwG G' 9) S n, 1, 6)
    refine z_if_eq 64 M.1.1 (off := 16) (by decide +kernel) (by decide) (fun c48 => ?_) (fun c48 => ?_)
    · rw [if_pos c48] at K hs
      refine z_go2 M.1.1 64 [(.iconst 0, 1)] (65, [(0, z_r 0), (1, .inl x1), (2, .inl x2), (3, .inl x3)], [.inl 0], zW T' (zwG G' 9) S n, 1, 6) (by decide +kernel) rfl ⟨trivial, trivial⟩ ?_
      refine z_callSX M.1.1 (av := [.inl 0]) (st := []) (by decide +kernel) (c_mustBeAllowed T' (zwG G' 9) S n 0) M.1.2.1 zl_T_128 (z_wi 847 (by decide +kernel) rfl) zs_T_mustBeAllowed ⟨by decide, by decide, by decide, by decide⟩ rfl (Nat.le_of_ble_eq_true rfl) (fun E w' hx => ?_) (fun v w' hv => ?_)
      · obtain ⟨h0, rfl, n2, hn2, rfl⟩ := hx
        exact M.2 _ _ (hX _ _ n2 _ hn2 K) (Nat.le_of_ble_eq_true rfl) (Nat.le_of_ble_eq_true rfl)
      · obtain ⟨h0, rfl, rfl⟩ := hv
        exact absurd rfl h0
    · rw [if_neg c48] at K hs
      refine z_go2 M.1.1 51 [(.aload_n 0, 1), (.iload_n 2, 1), (.iload_n 3, 1)] (54, [(0, z_r 0), (1, .inl x1), (2, .inl x2), (3, .inl x3)], [.inl x3, .inl x2, z_r 0], zW T' (zwG G' 9) S n, 1, 6) (by decide +kernel) rfl ⟨trivial, trivial, trivial, trivial⟩ ?_
      refine z_callV M.1.1 (av := [.inl x2, .inl x3]) (st := []) (a := 0) (ci := 11) (by decide +kernel) (c_T_isAtOrAbove T' (zwG G' 9) S n x2 x3 hs.1) M.1.2.1 zl_T_264 zv_T_isAtOrAbove rfl rfl rfl ⟨by decide, by decide, by decide, by decide⟩ rfl (Nat.le_of_ble_eq_true rfl) (fun v w' hv => ?_)
      obtain ⟨rfl, rfl⟩ := hv
      replace hs := hs.2
      show z_G X zm_T_nest (57, [(0, z_r 0), (1, .inl x1), (2, .inl x2), (3, .inl x3)], [.inl (F_T_isAtOrAbove S x2 x3)], zW T' (zwG G' 9) S n, 1, 6)
      refine z_if_ne 64 M.1.1 (off := 7) (by decide +kernel) (by decide) (fun c57 => ?_) (fun c57 => ?_)
      · rw [if_neg c57] at K hs
        refine z_go2 M.1.1 64 [(.iconst 0, 1)] (65, [(0, z_r 0), (1, .inl x1), (2, .inl x2), (3, .inl x3)], [.inl 0], zW T' (zwG G' 9) S n, 1, 6) (by decide +kernel) rfl ⟨trivial, trivial⟩ ?_
        refine z_callSX M.1.1 (av := [.inl 0]) (st := []) (by decide +kernel) (c_mustBeAllowed T' (zwG G' 9) S n 0) M.1.2.1 zl_T_128 (z_wi 847 (by decide +kernel) rfl) zs_T_mustBeAllowed ⟨by decide, by decide, by decide, by decide⟩ rfl (Nat.le_of_ble_eq_true rfl) (fun E w' hx => ?_) (fun v w' hv => ?_)
        · obtain ⟨h0, rfl, n2, hn2, rfl⟩ := hx
          exact M.2 _ _ (hX _ _ n2 _ hn2 K) (Nat.le_of_ble_eq_true rfl) (Nat.le_of_ble_eq_true rfl)
        · obtain ⟨h0, rfl, rfl⟩ := hv
          exact absurd rfl h0
      · rw [if_pos c57] at K hs
        refine z_go2 M.1.1 60 [(.iconst 1, 1), (.goto 4, 3)] (65, [(0, z_r 0), (1, .inl x1), (2, .inl x2), (3, .inl x3)], [.inl 1], zW T' (zwG G' 9) S n, 1, 6) (by decide +kernel) rfl ⟨trivial, trivial, trivial⟩ ?_
        refine z_callSX M.1.1 (av := [.inl 1]) (st := []) (by decide +kernel) (c_mustBeAllowed T' (zwG G' 9) S n 1) M.1.2.1 zl_T_128 (z_wi 847 (by decide +kernel) rfl) zs_T_mustBeAllowed ⟨by decide, by decide, by decide, by decide⟩ rfl (Nat.le_of_ble_eq_true rfl) (fun E w' hx => ?_) (fun v w' hv => ?_)
        · obtain ⟨h0, rfl, n2, hn2, rfl⟩ := hx
          exact absurd h0 (by decide)
        · obtain ⟨h0, rfl, rfl⟩ := hv
          show z_G X zm_T_nest (68, [(0, z_r 0), (1, .inl x1), (2, .inl x2), (3, .inl x3)], [], zW T' (zwG G' 9) S n, 2, 12)
          refine z_go2 M.1.1 68 [(.aload_n 0, 1), (.iload_n 1, 1), (.iload_n 2, 1), (.iconst 5, 1), (.iload_n 3, 1)] (73, [(0, z_r 0), (1, .inl x1), (2, .inl x2), (3, .inl x3)], [.inl x3, .inl 5, .inl x2, .inl x1, z_r 0], zW T' (zwG G' 9) S n, 2, 12) (by decide +kernel) rfl ⟨trivial, trivial, trivial, trivial, trivial, trivial⟩ ?_
          refine z_callVX M.1.1 (av := [.inl x1, .inl x2, .inl 5, .inl x3]) (st := []) (a := 0) (ci := 11) (by decide +kernel) (c_T_setCell T' (zwG G' 9) S n x1 x2 5 x3 hs.1) M.1.2.1 zl_T_247 (z_wi 1160 (by decide +kernel) rfl) zv_T_setCell rfl rfl rfl ⟨by decide, by decide, by decide, by decide⟩ rfl (Nat.le_of_ble_eq_true rfl) (fun E w' hx => ?_) (fun v w' hv => ?_)
          · obtain ⟨S73, n2, hn2, h0, rfl⟩ := hx
            rw [h0] at K
            exact M.2 _ _ (hX _ _ n2 _ hn2 K) (Nat.le_of_ble_eq_true rfl) (Nat.le_of_ble_eq_true rfl)
          · obtain ⟨r73, S73, h0, rfl, rfl⟩ := hv
            replace hs := hs.2
            rw [h0] at K hs
            try dsimp only at K hs
            show z_G X zm_T_nest (76, [(0, z_r 0), (1, .inl x1), (2, .inl x2), (3, .inl x3)], [.inl r73], zW T' (zwG G' 9) S73 n, 4, 24)
            refine z_go2 M.1.1 76 [(.istore 4, 2), (.aload_n 0, 1), (.getfield 47, 3), (.iload 4, 2)] (84, [(4, .inl r73), (0, z_r 0), (1, .inl x1), (2, .inl x2), (3, .inl x3)], [.inl r73, z_r 36], zW T' (zwG G' 9) S73 n, 4, 24) (by decide +kernel) rfl ⟨trivial, trivial, rfl, trivial, trivial⟩ ?_
            refine z_callV M.1.1 (av := [.inl r73]) (st := []) (a := 36) (ci := 8) (by decide +kernel) (c_Sight_sees T' (zwG G' 9) S73 n r73 hs.1) M.1.2.1 zl_T_261 zv_Sight_sees rfl rfl rfl ⟨by decide, by decide, by decide, by decide⟩ rfl (Nat.le_of_ble_eq_true rfl) (fun v w' hv => ?_)
            obtain ⟨rfl, rfl⟩ := hv
            replace hs := hs.2
            show z_G X zm_T_nest (87, [(4, .inl r73), (0, z_r 0), (1, .inl x1), (2, .inl x2), (3, .inl x3)], [.inl (F_Sight_sees S73 r73)], zW T' (zwG G' 9) S73 n, 4, 24)
            refine z_if_eq 95 M.1.1 (off := 8) (by decide +kernel) (by decide) (fun c87 => ?_) (fun c87 => ?_)
            · rw [if_pos c87] at K
              refine z_go2 M.1.1 95 [(.iconst (-1), 1)] (96, [(4, .inl r73), (0, z_r 0), (1, .inl x1), (2, .inl x2), (3, .inl x3)], [.inl (-1)], zW T' (zwG G' 9) S73 n, 4, 24) (by decide +kernel) rfl ⟨trivial, trivial⟩ ?_
              exact z_iret M.1 (by decide +kernel) .int rfl rfl (by decide) (by decide) (hQ _ _ _ K)
            · rw [if_neg c87] at K
              refine z_go2 M.1.1 90 [(.iload 4, 2), (.goto 4, 3)] (96, [(4, .inl r73), (0, z_r 0), (1, .inl x1), (2, .inl x2), (3, .inl x3)], [.inl r73], zW T' (zwG G' 9) S73 n, 4, 24) (by decide +kernel) rfl ⟨trivial, trivial, trivial⟩ ?_
              exact z_iret M.1 (by decide +kernel) .int rfl rfl (by decide) (by decide) (hQ _ _ _ K)
def F_T_nest (S : (Nat → Nat → Int32)) (p1 : Int32) (p2 : Int32) (p3 : Int32) : ((String ⊕ Int32) × (Nat → Nat → Int32)) := (if (F_T_isPerson S p1) = 0 then (.inl "java/lang/IndexOutOfBoundsException", S) else (match F_T_isSeen S p1 p2 with | (r10, S10) => (if r10 = 0 then (.inl "java/lang/IndexOutOfBoundsException", S10) else (if p3 = (-1) then (F_T_nest_j32 S10 p1 p2 p3) else (if (F_Sight_sees S10 p3) = 0 then (.inl "java/lang/IndexOutOfBoundsException", S10) else (F_T_nest_j32 S10 p1 p2 p3))))))
def Sf_T_nest (S : (Nat → Nat → Int32)) (p1 : Int32) (p2 : Int32) (p3 : Int32) : Prop := (if (F_T_isPerson S p1) = 0 then True else (Sf_T_isSeen S p1 p2 ∧ (match F_T_isSeen S p1 p2 with | (r10, S10) => (if r10 = 0 then True else (if p3 = (-1) then (Sf_T_nest_j32 S10 p1 p2 p3) else (Sf_Sight_sees S10 p3 ∧ (if (F_Sight_sees S10 p3) = 0 then True else (Sf_T_nest_j32 S10 p1 p2 p3))))))))
theorem c_T_nest (T' : Nat → Nat × Nat) (G' : Nat → Nat → Option Nat) (q0 : Nat) (S : (Nat → Nat → Int32)) (n : Nat) (p1 : Int32) (p2 : Int32) (p3 : Int32) (hs : Sf_T_nest S p1 p2 p3) : z_RunX rm_T_nest zm_T_nest [z_r 0, .inl p1, .inl p2, .inl p3] (zW T' (zwG G' q0) S n) (fun v w' => ∃ x S' q, F_T_nest S p1 p2 p3 = (.inr x, S') ∧ v = some (.inl x) ∧ w' = zW T' (zwG G' q) S' n) (fun E w' => ∃ S' n2 q, n ≤ n2 ∧ F_T_nest S p1 p2 p3 = (.inl E, S') ∧ w' = zW T' (zwG G' q) S' n2) := by
  refine z_bodyX (by decide) zf_T_ok (Nat.le_of_ble_eq_true rfl) (fun X M => ?_)
  obtain ⟨Q, hQ, hX, K⟩ : ∃ Q : ((String ⊕ Int32) × (Nat → Nat → Int32)) → Prop, (∀ v S' q, Q (.inr v, S') → ∃ x S'' q2, F_T_nest S p1 p2 p3 = (.inr x, S'') ∧ some (.inl v : z_V) = some (.inl x) ∧ zW T' (zwG G' q) S' n = zW T' (zwG G' q2) S'' n) ∧ (∀ E S' (n2 : Nat) q, n ≤ n2 → Q (.inl E, S') → ∃ S'' n3 q2, n ≤ n3 ∧ F_T_nest S p1 p2 p3 = (.inl E, S'') ∧ zW T' (zwG G' q) S' n2 = zW T' (zwG G' q2) S'' n3) ∧ Q (F_T_nest S p1 p2 p3) := ⟨fun o => F_T_nest S p1 p2 p3 = o, fun v S' q h => ⟨v, S', q, h, rfl, rfl⟩, fun E S' n2 q hn h => ⟨S', n2, q, hn, h, rfl⟩, rfl⟩
  show z_G X zm_T_nest (0, [(0, z_r 0), (1, .inl p1), (2, .inl p2), (3, .inl p3)], [], zW T' (zwG G' q0) S n, 0, 0)
  unfold F_T_nest at K
  unfold Sf_T_nest at hs
  refine z_go2 M.1.1 0 [(.iload_n 1, 1)] (1, [(0, z_r 0), (1, .inl p1), (2, .inl p2), (3, .inl p3)], [.inl p1], zW T' (zwG G' q0) S n, 0, 0) (by decide +kernel) rfl ⟨trivial, trivial⟩ ?_
  refine z_callS M.1.1 (av := [.inl p1]) (st := []) (by decide +kernel) (c_T_isPerson T' (zwG G' q0) S n p1) M.1.2.1 zl_T_97 zs_T_isPerson ⟨by decide, by decide, by decide, by decide⟩ rfl (Nat.le_of_ble_eq_true rfl) (fun v w' hv => ?_)
  obtain ⟨rfl, rfl⟩ := hv
  show z_G X zm_T_nest (4, [(0, z_r 0), (1, .inl p1), (2, .inl p2), (3, .inl p3)], [.inl (F_T_isPerson S p1)], zW T' (zwG G' q0) S n, 0, 0)
  refine z_if_eq 36 M.1.1 (off := 32) (by decide +kernel) (by decide) (fun c4 => ?_) (fun c4 => ?_)
  · rw [if_pos c4] at K hs
    refine z_go2 M.1.1 36 [(.iconst 0, 1)] (37, [(0, z_r 0), (1, .inl p1), (2, .inl p2), (3, .inl p3)], [.inl 0], zW T' (zwG G' q0) S n, 0, 0) (by decide +kernel) rfl ⟨trivial, trivial⟩ ?_
    refine z_callSX M.1.1 (av := [.inl 0]) (st := []) (by decide +kernel) (c_mustExist T' (zwG G' q0) S n 0) M.1.2.1 zl_T_104 (z_wi 698 (by decide +kernel) rfl) zs_T_mustExist ⟨by decide, by decide, by decide, by decide⟩ rfl (Nat.le_of_ble_eq_true rfl) (fun E w' hx => ?_) (fun v w' hv => ?_)
    · obtain ⟨h0, rfl, n2, hn2, rfl⟩ := hx
      exact M.2 _ _ (hX _ _ n2 _ hn2 K) (Nat.le_of_ble_eq_true rfl) (Nat.le_of_ble_eq_true rfl)
    · obtain ⟨h0, rfl, rfl⟩ := hv
      exact absurd rfl h0
  · rw [if_neg c4] at K hs
    refine z_go2 M.1.1 7 [(.aload_n 0, 1), (.iload_n 1, 1), (.iload_n 2, 1)] (10, [(0, z_r 0), (1, .inl p1), (2, .inl p2), (3, .inl p3)], [.inl p2, .inl p1, z_r 0], zW T' (zwG G' q0) S n, 0, 0) (by decide +kernel) rfl ⟨trivial, trivial, trivial, trivial⟩ ?_
    refine z_callV M.1.1 (av := [.inl p1, .inl p2]) (st := []) (a := 0) (ci := 11) (by decide +kernel) (c_T_isSeen T' G' q0 S n p1 p2 hs.1) M.1.2.1 zl_T_238 zv_T_isSeen rfl rfl rfl ⟨by decide, by decide, by decide, by decide⟩ rfl (Nat.le_of_ble_eq_true rfl) (fun v w' hv => ?_)
    replace hs := hs.2
    rcases hF10 : F_T_isSeen S p1 p2 with ⟨r10, S10⟩
    rw [hF10] at K hv
    try rw [hF10] at hs
    try dsimp only at K hs
    obtain ⟨rfl, rfl⟩ := hv
    show z_G X zm_T_nest (13, [(0, z_r 0), (1, .inl p1), (2, .inl p2), (3, .inl p3)], [.inl r10], zW T' (zwG G' 9) S10 n, 0, 0)
    refine z_if_eq 36 M.1.1 (off := 23) (by decide +kernel) (by decide) (fun c13 => ?_) (fun c13 => ?_)
    · rw [if_pos c13] at K hs
      refine z_go2 M.1.1 36 [(.iconst 0, 1)] (37, [(0, z_r 0), (1, .inl p1), (2, .inl p2), (3, .inl p3)], [.inl 0], zW T' (zwG G' 9) S10 n, 0, 0) (by decide +kernel) rfl ⟨trivial, trivial⟩ ?_
      refine z_callSX M.1.1 (av := [.inl 0]) (st := []) (by decide +kernel) (c_mustExist T' (zwG G' 9) S10 n 0) M.1.2.1 zl_T_104 (z_wi 698 (by decide +kernel) rfl) zs_T_mustExist ⟨by decide, by decide, by decide, by decide⟩ rfl (Nat.le_of_ble_eq_true rfl) (fun E w' hx => ?_) (fun v w' hv => ?_)
      · obtain ⟨h0, rfl, n2, hn2, rfl⟩ := hx
        exact M.2 _ _ (hX _ _ n2 _ hn2 K) (Nat.le_of_ble_eq_true rfl) (Nat.le_of_ble_eq_true rfl)
      · obtain ⟨h0, rfl, rfl⟩ := hv
        exact absurd rfl h0
    · rw [if_neg c13] at K hs
      refine z_go2 M.1.1 16 [(.iload_n 3, 1), (.iconst (-1), 1)] (18, [(0, z_r 0), (1, .inl p1), (2, .inl p2), (3, .inl p3)], [.inl (-1), .inl p3], zW T' (zwG G' 9) S10 n, 0, 0) (by decide +kernel) rfl ⟨trivial, trivial, trivial⟩ ?_
      refine z_icmp_eq 32 M.1.1 (off := 14) (by decide +kernel) (by decide) (fun c18 => ?_) (fun c18 => ?_)
      · rw [if_pos c18] at K hs
        exact z_lvs (lv' := [(0, z_r 0), (1, .inl p1), (2, .inl p2), (3, .inl p3)]) [0, 1, 2, 3] rfl (t_T_nest_j32 M (q0 := q0) S10 p1 p2 p3 hQ hX K hs)
      · rw [if_neg c18] at K hs
        refine z_go2 M.1.1 21 [(.aload_n 0, 1), (.getfield 47, 3), (.iload_n 3, 1)] (26, [(0, z_r 0), (1, .inl p1), (2, .inl p2), (3, .inl p3)], [.inl p3, z_r 36], zW T' (zwG G' 9) S10 n, 0, 0) (by decide +kernel) rfl ⟨trivial, rfl, trivial, trivial⟩ ?_
        refine z_callV M.1.1 (av := [.inl p3]) (st := []) (a := 36) (ci := 8) (by decide +kernel) (c_Sight_sees T' (zwG G' 9) S10 n p3 hs.1) M.1.2.1 zl_T_261 zv_Sight_sees rfl rfl rfl ⟨by decide, by decide, by decide, by decide⟩ rfl (Nat.le_of_ble_eq_true rfl) (fun v w' hv => ?_)
        obtain ⟨rfl, rfl⟩ := hv
        replace hs := hs.2
        show z_G X zm_T_nest (29, [(0, z_r 0), (1, .inl p1), (2, .inl p2), (3, .inl p3)], [.inl (F_Sight_sees S10 p3)], zW T' (zwG G' 9) S10 n, 0, 0)
        refine z_if_eq 36 M.1.1 (off := 7) (by decide +kernel) (by decide) (fun c29 => ?_) (fun c29 => ?_)
        · rw [if_pos c29] at K hs
          refine z_go2 M.1.1 36 [(.iconst 0, 1)] (37, [(0, z_r 0), (1, .inl p1), (2, .inl p2), (3, .inl p3)], [.inl 0], zW T' (zwG G' 9) S10 n, 0, 0) (by decide +kernel) rfl ⟨trivial, trivial⟩ ?_
          refine z_callSX M.1.1 (av := [.inl 0]) (st := []) (by decide +kernel) (c_mustExist T' (zwG G' 9) S10 n 0) M.1.2.1 zl_T_104 (z_wi 698 (by decide +kernel) rfl) zs_T_mustExist ⟨by decide, by decide, by decide, by decide⟩ rfl (Nat.le_of_ble_eq_true rfl) (fun E w' hx => ?_) (fun v w' hv => ?_)
          · obtain ⟨h0, rfl, n2, hn2, rfl⟩ := hx
            exact M.2 _ _ (hX _ _ n2 _ hn2 K) (Nat.le_of_ble_eq_true rfl) (Nat.le_of_ble_eq_true rfl)
          · obtain ⟨h0, rfl, rfl⟩ := hv
            exact absurd rfl h0
        · rw [if_neg c29] at K hs
          exact z_lvs (lv' := [(0, z_r 0), (1, .inl p1), (2, .inl p2), (3, .inl p3)]) [0, 1, 2, 3] rfl (t_T_nest_j32 M (q0 := q0) S10 p1 p2 p3 hQ hX K hs)

-- TrackHouse.link
abbrev rm_T_link : Room := zx 7 4
def F_T_link_j150 (S : (Nat → Nat → Int32)) (x6 : Int32) (x7 : Int32) (s0 : Int32) (s1 : Int32) (s2 : Int32) (s3 : Int32) (s4 : Int32) : ((String ⊕ Int32) × (Nat → Nat → Int32)) := (z_let (F_T_change S s4 s3 s2 s1 s0) (fun S150 => (match F_T_isWithinLimit S150 x7 with | (r156, S156) => (if r156 = 0 then (.inl "java/lang/IllegalStateException", S156) else (.inr x6, S156)))))
def Sf_T_link_j150 (S : (Nat → Nat → Int32)) (x6 : Int32) (x7 : Int32) (s0 : Int32) (s1 : Int32) (s2 : Int32) (s3 : Int32) (s4 : Int32) : Prop := (Sf_T_change S s4 s3 s2 s1 s0 ∧ (z_let (F_T_change S s4 s3 s2 s1 s0) (fun S150 => (Sf_T_isWithinLimit S150 x7 ∧ (match F_T_isWithinLimit S150 x7 with | (r156, S156) => (if r156 = 0 then True else (narrow .boolean (.int x6) = .int x6 ∧ True)))))))
theorem t_T_link_j150 {X : z_X} {Post : Option z_V → z_W → Prop} {PX : String → z_W → Prop} (M : z_MX X zm_T_link rm_T_link Post PX) {T' : Nat → Nat × Nat} {G' : Nat → Nat → Option Nat} {n : Nat} {q0 : Nat} {Q : ((String ⊕ Int32) × (Nat → Nat → Int32)) → Prop} (S : (Nat → Nat → Int32)) (x6 : Int32) (x7 : Int32) (s0 : Int32) (s1 : Int32) (s2 : Int32) (s3 : Int32) (s4 : Int32) (hQ : ∀ v S' (q : Nat), Q (.inr v, S') → Post (some (.inl v)) (zW T' (zwG G' q) S' n)) (hX : ∀ E S' (n2 : Nat) (q : Nat), n ≤ n2 → Q (.inl E, S') → PX E (zW T' (zwG G' q) S' n2)) (K : Q (F_T_link_j150 S x6 x7 s0 s1 s2 s3 s4)) (hs : Sf_T_link_j150 S x6 x7 s0 s1 s2 s3 s4) : z_G X zm_T_link (150, [(0, z_r 0), (6, .inl x6), (7, .inl x7)], [.inl s0, .inl s1, .inl s2, .inl s3, .inl s4, z_r 0], zW T' (zwG G' 9) S n, 3, 18) := by
  unfold F_T_link_j150 at K
  unfold Sf_T_link_j150 at hs
  refine z_callV M.1.1 (av := [.inl s4, .inl s3, .inl s2, .inl s1, .inl s0]) (st := []) (a := 0) (ci := 11) (by decide +kernel) (c_T_change T' (zwG G' 9) S n s4 s3 s2 s1 s0 hs.1) M.1.2.1 zl_T_121 zv_T_change rfl rfl rfl ⟨by decide, by decide, by decide, by decide⟩ rfl (Nat.le_of_ble_eq_true rfl) (fun v w' hv => ?_)
  replace hs := hs.2
  obtain ⟨S150, hF150⟩ : ∃ y, F_T_change S s4 s3 s2 s1 s0 = y := ⟨_, rfl⟩
  rw [hF150] at K hv
  try rw [hF150] at hs
  try dsimp only [z_let] at K hs
  obtain ⟨rfl, rfl⟩ := hv
  show z_G X zm_T_link (153, [(0, z_r 0), (6, .inl x6), (7, .inl x7)], [], zW T' (zwG G' 9) S150 n, 3, 18)
  refine z_go2 M.1.1 153 [(.aload_n 0, 1), (.iload 7, 2)] (156, [(0, z_r 0), (6, .inl x6), (7, .inl x7)], [.inl x7, z_r 0], zW T' (zwG G' 9) S150 n, 3, 18) (by decide +kernel) rfl ⟨trivial, trivial, trivial⟩ ?_
  refine z_callV M.1.1 (av := [.inl x7]) (st := []) (a := 0) (ci := 11) (by decide +kernel) (c_T_isWithinLimit T' (zwG G' 9) S150 n x7 hs.1) M.1.2.1 zl_T_125 zv_T_isWithinLimit rfl rfl rfl ⟨by decide, by decide, by decide, by decide⟩ rfl (Nat.le_of_ble_eq_true rfl) (fun v w' hv => ?_)
  replace hs := hs.2
  rcases hF156 : F_T_isWithinLimit S150 x7 with ⟨r156, S156⟩
  rw [hF156] at K hv
  try rw [hF156] at hs
  try dsimp only at K hs
  obtain ⟨rfl, rfl⟩ := hv
  show z_G X zm_T_link (159, [(0, z_r 0), (6, .inl x6), (7, .inl x7)], [.inl r156], zW T' (zwG G' 9) S156 n, 3, 18)
  refine z_callSX M.1.1 (av := [.inl r156]) (st := []) (by decide +kernel) (c_mustBeAllowed T' (zwG G' 9) S156 n r156) M.1.2.1 zl_T_128 (z_wi 847 (by decide +kernel) rfl) zs_T_mustBeAllowed ⟨by decide, by decide, by decide, by decide⟩ rfl (Nat.le_of_ble_eq_true rfl) (fun E w' hx => ?_) (fun v w' hv => ?_)
  · obtain ⟨h0, rfl, n2, hn2, rfl⟩ := hx
    rw [if_pos h0] at K
    exact M.2 _ _ (hX _ _ n2 _ hn2 K) (Nat.le_of_ble_eq_true rfl) (Nat.le_of_ble_eq_true rfl)
  · obtain ⟨h0, rfl, rfl⟩ := hv
    rw [if_neg h0] at K hs
    show z_G X zm_T_link (162, [(0, z_r 0), (6, .inl x6), (7, .inl x7)], [], zW T' (zwG G' 9) S156 n, 4, 24)
    refine z_go2 M.1.1 162 [(.iload 6, 2)] (164, [(0, z_r 0), (6, .inl x6), (7, .inl x7)], [.inl x6], zW T' (zwG G' 9) S156 n, 4, 24) (by decide +kernel) rfl ⟨trivial, trivial⟩ ?_
    exact z_iret M.1 (by decide +kernel) .boolean rfl hs.1 (by decide) (by decide) (hQ _ _ _ K)
def F_T_link_j120 (S : (Nat → Nat → Int32)) (x1 : Int32) (x2 : Int32) (x3 : Int32) (x4 : Int32) (x5 : Int32) (s0 : Int32) : ((String ⊕ Int32) × (Nat → Nat → Int32)) := (if x5 = 0 then (F_T_link_j150 S s0 (S 1 7) 0 x4 ((10 : Int32) + x2) x3 x1) else (F_T_link_j150 S s0 (S 1 7) 1 x4 ((10 : Int32) + x2) x3 x1))
def Sf_T_link_j120 (S : (Nat → Nat → Int32)) (x1 : Int32) (x2 : Int32) (x3 : Int32) (x4 : Int32) (x5 : Int32) (s0 : Int32) : Prop := (if x5 = 0 then (Sf_T_link_j150 S s0 (S 1 7) 0 x4 ((10 : Int32) + x2) x3 x1) else (Sf_T_link_j150 S s0 (S 1 7) 1 x4 ((10 : Int32) + x2) x3 x1))
theorem t_T_link_j120 {X : z_X} {Post : Option z_V → z_W → Prop} {PX : String → z_W → Prop} (M : z_MX X zm_T_link rm_T_link Post PX) {T' : Nat → Nat × Nat} {G' : Nat → Nat → Option Nat} {n : Nat} {q0 : Nat} {Q : ((String ⊕ Int32) × (Nat → Nat → Int32)) → Prop} (S : (Nat → Nat → Int32)) (x1 : Int32) (x2 : Int32) (x3 : Int32) (x4 : Int32) (x5 : Int32) (s0 : Int32) (hQ : ∀ v S' (q : Nat), Q (.inr v, S') → Post (some (.inl v)) (zW T' (zwG G' q) S' n)) (hX : ∀ E S' (n2 : Nat) (q : Nat), n ≤ n2 → Q (.inl E, S') → PX E (zW T' (zwG G' q) S' n2)) (K : Q (F_T_link_j120 S x1 x2 x3 x4 x5 s0)) (hs : Sf_T_link_j120 S x1 x2 x3 x4 x5 s0) : z_G X zm_T_link (120, [(0, z_r 0), (1, .inl x1), (2, .inl x2), (3, .inl x3), (4, .inl x4), (5, .inl x5)], [.inl s0], zW T' (zwG G' 9) S n, 3, 18) := by
  unfold F_T_link_j120 at K
  unfold Sf_T_link_j120 at hs
  refine z_go2 M.1.1 120 [(.istore 6, 2), (.aload_n 0, 1), (.getfield 12, 3), (.getfield 118, 3), (.istore 7, 2), (.aload_n 0, 1), (.iload_n 1, 1), (.iload_n 3, 1), (.bipush 10, 2), (.iload_n 2, 1), (.iadd, 1), (.iload 4, 2), (.iload 5, 2)] (142, [(7, .inl (S 1 7)), (6, .inl s0), (0, z_r 0), (1, .inl x1), (2, .inl x2), (3, .inl x3), (4, .inl x4), (5, .inl x5)], [.inl x5, .inl x4, .inl ((10 : Int32) + x2), .inl x3, .inl x1, z_r 0], zW T' (zwG G' 9) S n, 3, 18) (by decide +kernel) rfl ⟨trivial, trivial, rfl, rfl, trivial, trivial, trivial, trivial, trivial, trivial, trivial, trivial, trivial, trivial⟩ ?_
  refine z_if_eq 149 M.1.1 (off := 7) (by decide +kernel) (by decide) (fun c142 => ?_) (fun c142 => ?_)
  · rw [if_pos c142] at K hs
    refine z_go2 M.1.1 149 [(.iconst 0, 1)] (150, [(7, .inl (S 1 7)), (6, .inl s0), (0, z_r 0), (1, .inl x1), (2, .inl x2), (3, .inl x3), (4, .inl x4), (5, .inl x5)], [.inl 0, .inl x4, .inl ((10 : Int32) + x2), .inl x3, .inl x1, z_r 0], zW T' (zwG G' 9) S n, 3, 18) (by decide +kernel) rfl ⟨trivial, trivial⟩ ?_
    exact z_lvs (lv' := [(0, z_r 0), (6, .inl s0), (7, .inl (S 1 7))]) [2, 1, 0] rfl (t_T_link_j150 M (q0 := q0) S s0 (S 1 7) 0 x4 ((10 : Int32) + x2) x3 x1 hQ hX K hs)
  · rw [if_neg c142] at K hs
    refine z_go2 M.1.1 145 [(.iconst 1, 1), (.goto 4, 3)] (150, [(7, .inl (S 1 7)), (6, .inl s0), (0, z_r 0), (1, .inl x1), (2, .inl x2), (3, .inl x3), (4, .inl x4), (5, .inl x5)], [.inl 1, .inl x4, .inl ((10 : Int32) + x2), .inl x3, .inl x1, z_r 0], zW T' (zwG G' 9) S n, 3, 18) (by decide +kernel) rfl ⟨trivial, trivial, trivial⟩ ?_
    exact z_lvs (lv' := [(0, z_r 0), (6, .inl s0), (7, .inl (S 1 7))]) [2, 1, 0] rfl (t_T_link_j150 M (q0 := q0) S s0 (S 1 7) 1 x4 ((10 : Int32) + x2) x3 x1 hQ hX K hs)
def F_T_link_j89 (S : (Nat → Nat → Int32)) (x1 : Int32) (x2 : Int32) (x3 : Int32) (x4 : Int32) (x5 : Int32) : ((String ⊕ Int32) × (Nat → Nat → Int32)) := (if (F_World_current 9 S x3 ((10 : Int32) + x2) x4) = 1 then (F_T_link_j120 S x1 x2 x3 x4 x5 1) else (F_T_link_j120 S x1 x2 x3 x4 x5 0))
def Sf_T_link_j89 (S : (Nat → Nat → Int32)) (x1 : Int32) (x2 : Int32) (x3 : Int32) (x4 : Int32) (x5 : Int32) : Prop := (Sf_World_current 9 S x3 ((10 : Int32) + x2) x4 ∧ (if (F_World_current 9 S x3 ((10 : Int32) + x2) x4) = 1 then (Sf_T_link_j120 S x1 x2 x3 x4 x5 1) else (Sf_T_link_j120 S x1 x2 x3 x4 x5 0)))
theorem t_T_link_j89 {X : z_X} {Post : Option z_V → z_W → Prop} {PX : String → z_W → Prop} (M : z_MX X zm_T_link rm_T_link Post PX) {T' : Nat → Nat × Nat} {G' : Nat → Nat → Option Nat} {n : Nat} {q0 : Nat} {Q : ((String ⊕ Int32) × (Nat → Nat → Int32)) → Prop} (S : (Nat → Nat → Int32)) (x1 : Int32) (x2 : Int32) (x3 : Int32) (x4 : Int32) (x5 : Int32) (hQ : ∀ v S' (q : Nat), Q (.inr v, S') → Post (some (.inl v)) (zW T' (zwG G' q) S' n)) (hX : ∀ E S' (n2 : Nat) (q : Nat), n ≤ n2 → Q (.inl E, S') → PX E (zW T' (zwG G' q) S' n2)) (K : Q (F_T_link_j89 S x1 x2 x3 x4 x5)) (hs : Sf_T_link_j89 S x1 x2 x3 x4 x5) : z_G X zm_T_link (89, [(0, z_r 0), (1, .inl x1), (2, .inl x2), (3, .inl x3), (4, .inl x4), (5, .inl x5)], [], zW T' (zwG G' 9) S n, 2, 12) := by
  unfold F_T_link_j89 at K
  unfold Sf_T_link_j89 at hs
  refine z_go2 M.1.1 89 [(.iconst 1, 1), (.goto 4, 3)] (94, [(0, z_r 0), (1, .inl x1), (2, .inl x2), (3, .inl x3), (4, .inl x4), (5, .inl x5)], [.inl 1], zW T' (zwG G' 9) S n, 2, 12) (by decide +kernel) rfl ⟨trivial, trivial, trivial⟩ ?_
  refine z_callSX M.1.1 (av := [.inl 1]) (st := []) (by decide +kernel) (c_mustBeAllowed T' (zwG G' 9) S n 1) M.1.2.1 zl_T_128 (z_wi 847 (by decide +kernel) rfl) zs_T_mustBeAllowed ⟨by decide, by decide, by decide, by decide⟩ rfl (Nat.le_of_ble_eq_true rfl) (fun E w' hx => ?_) (fun v w' hv => ?_)
  · obtain ⟨h0, rfl, n2, hn2, rfl⟩ := hx
    exact absurd h0 (by decide)
  · obtain ⟨h0, rfl, rfl⟩ := hv
    show z_G X zm_T_link (97, [(0, z_r 0), (1, .inl x1), (2, .inl x2), (3, .inl x3), (4, .inl x4), (5, .inl x5)], [], zW T' (zwG G' 9) S n, 3, 18)
    refine z_go2 M.1.1 97 [(.aload_n 0, 1), (.getfield 19, 3), (.iload_n 3, 1), (.bipush 10, 2), (.iload_n 2, 1), (.iadd, 1), (.iload 4, 2)] (108, [(0, z_r 0), (1, .inl x1), (2, .inl x2), (3, .inl x3), (4, .inl x4), (5, .inl x5)], [.inl x4, .inl ((10 : Int32) + x2), .inl x3, z_r 9], zW T' (zwG G' 9) S n, 3, 18) (by decide +kernel) rfl ⟨trivial, rfl, trivial, trivial, trivial, trivial, trivial, trivial⟩ ?_
    refine z_callV M.1.1 (av := [.inl x3, .inl ((10 : Int32) + x2), .inl x4]) (st := []) (a := 9) (ci := 10) (by decide +kernel) (c_World_current_9 T' (zwG G' 9) S n x3 ((10 : Int32) + x2) x4 hs.1) M.1.2.1 zl_T_270 zv_World_current rfl rfl rfl ⟨by decide, by decide, by decide, by decide⟩ rfl (Nat.le_of_ble_eq_true rfl) (fun v w' hv => ?_)
    obtain ⟨rfl, rfl⟩ := hv
    replace hs := hs.2
    show z_G X zm_T_link (111, [(0, z_r 0), (1, .inl x1), (2, .inl x2), (3, .inl x3), (4, .inl x4), (5, .inl x5)], [.inl (F_World_current 9 S x3 ((10 : Int32) + x2) x4)], zW T' (zwG G' 9) S n, 3, 18)
    refine z_go2 M.1.1 111 [(.iconst 1, 1)] (112, [(0, z_r 0), (1, .inl x1), (2, .inl x2), (3, .inl x3), (4, .inl x4), (5, .inl x5)], [.inl 1, .inl (F_World_current 9 S x3 ((10 : Int32) + x2) x4)], zW T' (zwG G' 9) S n, 3, 18) (by decide +kernel) rfl ⟨trivial, trivial⟩ ?_
    refine z_icmp_ne 119 M.1.1 (off := 7) (by decide +kernel) (by decide) (fun c112 => ?_) (fun c112 => ?_)
    · rw [if_neg c112] at K hs
      refine z_go2 M.1.1 119 [(.iconst 0, 1)] (120, [(0, z_r 0), (1, .inl x1), (2, .inl x2), (3, .inl x3), (4, .inl x4), (5, .inl x5)], [.inl 0], zW T' (zwG G' 9) S n, 3, 18) (by decide +kernel) rfl ⟨trivial, trivial⟩ ?_
      exact z_lvs (lv' := [(0, z_r 0), (1, .inl x1), (2, .inl x2), (3, .inl x3), (4, .inl x4), (5, .inl x5)]) [0, 1, 2, 3, 4, 5] rfl (t_T_link_j120 M (q0 := q0) S x1 x2 x3 x4 x5 0 hQ hX K hs)
    · rw [if_pos c112] at K hs
      refine z_go2 M.1.1 115 [(.iconst 1, 1), (.goto 4, 3)] (120, [(0, z_r 0), (1, .inl x1), (2, .inl x2), (3, .inl x3), (4, .inl x4), (5, .inl x5)], [.inl 1], zW T' (zwG G' 9) S n, 3, 18) (by decide +kernel) rfl ⟨trivial, trivial, trivial⟩ ?_
      exact z_lvs (lv' := [(0, z_r 0), (1, .inl x1), (2, .inl x2), (3, .inl x3), (4, .inl x4), (5, .inl x5)]) [0, 1, 2, 3, 4, 5] rfl (t_T_link_j120 M (q0 := q0) S x1 x2 x3 x4 x5 1 hQ hX K hs)
def F_T_link (S : (Nat → Nat → Int32)) (p1 : Int32) (p2 : Int32) (p3 : Int32) (p4 : Int32) (p5 : Int32) : ((String ⊕ Int32) × (Nat → Nat → Int32)) := (if (F_T_isPerson S p1) = 0 then (.inl "java/lang/IndexOutOfBoundsException", S) else (match F_T_isSeen S p1 p3 with | (r10, S10) => (if r10 = 0 then (.inl "java/lang/IndexOutOfBoundsException", S10) else (if (F_Sight_sees S10 p4) = 0 then (.inl "java/lang/IndexOutOfBoundsException", S10) else (if p2 < 0 then (.inl "java/lang/IllegalArgumentException", S10) else (if (3 : Int32) ≤ p2 then (.inl "java/lang/IllegalArgumentException", S10) else (if p3 = p4 then (.inl "java/lang/IllegalArgumentException", S10) else (if (F_Sight_canEdit S10 p3) = 0 then (.inl "java/lang/IllegalStateException", S10) else (if p5 = 0 then (F_T_link_j89 S10 p1 p2 p3 p4 p5) else (if p2 = 0 then (if (F_T_isReached S10 p4 p3) = 0 then (F_T_link_j89 S10 p1 p2 p3 p4 p5) else (.inl "java/lang/IllegalStateException", S10)) else (F_T_link_j89 S10 p1 p2 p3 p4 p5)))))))))))
def Sf_T_link (S : (Nat → Nat → Int32)) (p1 : Int32) (p2 : Int32) (p3 : Int32) (p4 : Int32) (p5 : Int32) : Prop := (if (F_T_isPerson S p1) = 0 then True else (Sf_T_isSeen S p1 p3 ∧ (match F_T_isSeen S p1 p3 with | (r10, S10) => (if r10 = 0 then True else (Sf_Sight_sees S10 p4 ∧ (if (F_Sight_sees S10 p4) = 0 then True else (if p2 < 0 then True else (if (3 : Int32) ≤ p2 then True else (if p3 = p4 then True else (Sf_Sight_canEdit S10 p3 ∧ (if (F_Sight_canEdit S10 p3) = 0 then True else (if p5 = 0 then (Sf_T_link_j89 S10 p1 p2 p3 p4 p5) else (if p2 = 0 then (Sf_T_isReached S10 p4 p3 ∧ (if (F_T_isReached S10 p4 p3) = 0 then (Sf_T_link_j89 S10 p1 p2 p3 p4 p5) else True)) else (Sf_T_link_j89 S10 p1 p2 p3 p4 p5))))))))))))))
theorem c_T_link (T' : Nat → Nat × Nat) (G' : Nat → Nat → Option Nat) (q0 : Nat) (S : (Nat → Nat → Int32)) (n : Nat) (p1 : Int32) (p2 : Int32) (p3 : Int32) (p4 : Int32) (p5 : Int32) (hs : Sf_T_link S p1 p2 p3 p4 p5) : z_RunX rm_T_link zm_T_link [z_r 0, .inl p1, .inl p2, .inl p3, .inl p4, .inl p5] (zW T' (zwG G' q0) S n) (fun v w' => ∃ x S' q, F_T_link S p1 p2 p3 p4 p5 = (.inr x, S') ∧ v = some (.inl x) ∧ w' = zW T' (zwG G' q) S' n) (fun E w' => ∃ S' n2 q, n ≤ n2 ∧ F_T_link S p1 p2 p3 p4 p5 = (.inl E, S') ∧ w' = zW T' (zwG G' q) S' n2) := by
  refine z_bodyX (by decide) zf_T_ok (Nat.le_of_ble_eq_true rfl) (fun X M => ?_)
  obtain ⟨Q, hQ, hX, K⟩ : ∃ Q : ((String ⊕ Int32) × (Nat → Nat → Int32)) → Prop, (∀ v S' q, Q (.inr v, S') → ∃ x S'' q2, F_T_link S p1 p2 p3 p4 p5 = (.inr x, S'') ∧ some (.inl v : z_V) = some (.inl x) ∧ zW T' (zwG G' q) S' n = zW T' (zwG G' q2) S'' n) ∧ (∀ E S' (n2 : Nat) q, n ≤ n2 → Q (.inl E, S') → ∃ S'' n3 q2, n ≤ n3 ∧ F_T_link S p1 p2 p3 p4 p5 = (.inl E, S'') ∧ zW T' (zwG G' q) S' n2 = zW T' (zwG G' q2) S'' n3) ∧ Q (F_T_link S p1 p2 p3 p4 p5) := ⟨fun o => F_T_link S p1 p2 p3 p4 p5 = o, fun v S' q h => ⟨v, S', q, h, rfl, rfl⟩, fun E S' n2 q hn h => ⟨S', n2, q, hn, h, rfl⟩, rfl⟩
  show z_G X zm_T_link (0, [(0, z_r 0), (1, .inl p1), (2, .inl p2), (3, .inl p3), (4, .inl p4), (5, .inl p5)], [], zW T' (zwG G' q0) S n, 0, 0)
  unfold F_T_link at K
  unfold Sf_T_link at hs
  refine z_go2 M.1.1 0 [(.iload_n 1, 1)] (1, [(0, z_r 0), (1, .inl p1), (2, .inl p2), (3, .inl p3), (4, .inl p4), (5, .inl p5)], [.inl p1], zW T' (zwG G' q0) S n, 0, 0) (by decide +kernel) rfl ⟨trivial, trivial⟩ ?_
  refine z_callS M.1.1 (av := [.inl p1]) (st := []) (by decide +kernel) (c_T_isPerson T' (zwG G' q0) S n p1) M.1.2.1 zl_T_97 zs_T_isPerson ⟨by decide, by decide, by decide, by decide⟩ rfl (Nat.le_of_ble_eq_true rfl) (fun v w' hv => ?_)
  obtain ⟨rfl, rfl⟩ := hv
  show z_G X zm_T_link (4, [(0, z_r 0), (1, .inl p1), (2, .inl p2), (3, .inl p3), (4, .inl p4), (5, .inl p5)], [.inl (F_T_isPerson S p1)], zW T' (zwG G' q0) S n, 0, 0)
  refine z_if_eq 32 M.1.1 (off := 28) (by decide +kernel) (by decide) (fun c4 => ?_) (fun c4 => ?_)
  · rw [if_pos c4] at K hs
    refine z_go2 M.1.1 32 [(.iconst 0, 1)] (33, [(0, z_r 0), (1, .inl p1), (2, .inl p2), (3, .inl p3), (4, .inl p4), (5, .inl p5)], [.inl 0], zW T' (zwG G' q0) S n, 0, 0) (by decide +kernel) rfl ⟨trivial, trivial⟩ ?_
    refine z_callSX M.1.1 (av := [.inl 0]) (st := []) (by decide +kernel) (c_mustExist T' (zwG G' q0) S n 0) M.1.2.1 zl_T_104 (z_wi 698 (by decide +kernel) rfl) zs_T_mustExist ⟨by decide, by decide, by decide, by decide⟩ rfl (Nat.le_of_ble_eq_true rfl) (fun E w' hx => ?_) (fun v w' hv => ?_)
    · obtain ⟨h0, rfl, n2, hn2, rfl⟩ := hx
      exact M.2 _ _ (hX _ _ n2 _ hn2 K) (Nat.le_of_ble_eq_true rfl) (Nat.le_of_ble_eq_true rfl)
    · obtain ⟨h0, rfl, rfl⟩ := hv
      exact absurd rfl h0
  · rw [if_neg c4] at K hs
    refine z_go2 M.1.1 7 [(.aload_n 0, 1), (.iload_n 1, 1), (.iload_n 3, 1)] (10, [(0, z_r 0), (1, .inl p1), (2, .inl p2), (3, .inl p3), (4, .inl p4), (5, .inl p5)], [.inl p3, .inl p1, z_r 0], zW T' (zwG G' q0) S n, 0, 0) (by decide +kernel) rfl ⟨trivial, trivial, trivial, trivial⟩ ?_
    refine z_callV M.1.1 (av := [.inl p1, .inl p3]) (st := []) (a := 0) (ci := 11) (by decide +kernel) (c_T_isSeen T' G' q0 S n p1 p3 hs.1) M.1.2.1 zl_T_238 zv_T_isSeen rfl rfl rfl ⟨by decide, by decide, by decide, by decide⟩ rfl (Nat.le_of_ble_eq_true rfl) (fun v w' hv => ?_)
    replace hs := hs.2
    rcases hF10 : F_T_isSeen S p1 p3 with ⟨r10, S10⟩
    rw [hF10] at K hv
    try rw [hF10] at hs
    try dsimp only at K hs
    obtain ⟨rfl, rfl⟩ := hv
    show z_G X zm_T_link (13, [(0, z_r 0), (1, .inl p1), (2, .inl p2), (3, .inl p3), (4, .inl p4), (5, .inl p5)], [.inl r10], zW T' (zwG G' 9) S10 n, 0, 0)
    refine z_if_eq 32 M.1.1 (off := 19) (by decide +kernel) (by decide) (fun c13 => ?_) (fun c13 => ?_)
    · rw [if_pos c13] at K hs
      refine z_go2 M.1.1 32 [(.iconst 0, 1)] (33, [(0, z_r 0), (1, .inl p1), (2, .inl p2), (3, .inl p3), (4, .inl p4), (5, .inl p5)], [.inl 0], zW T' (zwG G' 9) S10 n, 0, 0) (by decide +kernel) rfl ⟨trivial, trivial⟩ ?_
      refine z_callSX M.1.1 (av := [.inl 0]) (st := []) (by decide +kernel) (c_mustExist T' (zwG G' 9) S10 n 0) M.1.2.1 zl_T_104 (z_wi 698 (by decide +kernel) rfl) zs_T_mustExist ⟨by decide, by decide, by decide, by decide⟩ rfl (Nat.le_of_ble_eq_true rfl) (fun E w' hx => ?_) (fun v w' hv => ?_)
      · obtain ⟨h0, rfl, n2, hn2, rfl⟩ := hx
        exact M.2 _ _ (hX _ _ n2 _ hn2 K) (Nat.le_of_ble_eq_true rfl) (Nat.le_of_ble_eq_true rfl)
      · obtain ⟨h0, rfl, rfl⟩ := hv
        exact absurd rfl h0
    · rw [if_neg c13] at K hs
      refine z_go2 M.1.1 16 [(.aload_n 0, 1), (.getfield 47, 3), (.iload 4, 2)] (22, [(0, z_r 0), (1, .inl p1), (2, .inl p2), (3, .inl p3), (4, .inl p4), (5, .inl p5)], [.inl p4, z_r 36], zW T' (zwG G' 9) S10 n, 0, 0) (by decide +kernel) rfl ⟨trivial, rfl, trivial, trivial⟩ ?_
      refine z_callV M.1.1 (av := [.inl p4]) (st := []) (a := 36) (ci := 8) (by decide +kernel) (c_Sight_sees T' (zwG G' 9) S10 n p4 hs.1) M.1.2.1 zl_T_261 zv_Sight_sees rfl rfl rfl ⟨by decide, by decide, by decide, by decide⟩ rfl (Nat.le_of_ble_eq_true rfl) (fun v w' hv => ?_)
      obtain ⟨rfl, rfl⟩ := hv
      replace hs := hs.2
      show z_G X zm_T_link (25, [(0, z_r 0), (1, .inl p1), (2, .inl p2), (3, .inl p3), (4, .inl p4), (5, .inl p5)], [.inl (F_Sight_sees S10 p4)], zW T' (zwG G' 9) S10 n, 0, 0)
      refine z_if_eq 32 M.1.1 (off := 7) (by decide +kernel) (by decide) (fun c25 => ?_) (fun c25 => ?_)
      · rw [if_pos c25] at K hs
        refine z_go2 M.1.1 32 [(.iconst 0, 1)] (33, [(0, z_r 0), (1, .inl p1), (2, .inl p2), (3, .inl p3), (4, .inl p4), (5, .inl p5)], [.inl 0], zW T' (zwG G' 9) S10 n, 0, 0) (by decide +kernel) rfl ⟨trivial, trivial⟩ ?_
        refine z_callSX M.1.1 (av := [.inl 0]) (st := []) (by decide +kernel) (c_mustExist T' (zwG G' 9) S10 n 0) M.1.2.1 zl_T_104 (z_wi 698 (by decide +kernel) rfl) zs_T_mustExist ⟨by decide, by decide, by decide, by decide⟩ rfl (Nat.le_of_ble_eq_true rfl) (fun E w' hx => ?_) (fun v w' hv => ?_)
        · obtain ⟨h0, rfl, n2, hn2, rfl⟩ := hx
          exact M.2 _ _ (hX _ _ n2 _ hn2 K) (Nat.le_of_ble_eq_true rfl) (Nat.le_of_ble_eq_true rfl)
        · obtain ⟨h0, rfl, rfl⟩ := hv
          exact absurd rfl h0
      · rw [if_neg c25] at K hs
        refine z_go2 M.1.1 28 [(.iconst 1, 1), (.goto 4, 3)] (33, [(0, z_r 0), (1, .inl p1), (2, .inl p2), (3, .inl p3), (4, .inl p4), (5, .inl p5)], [.inl 1], zW T' (zwG G' 9) S10 n, 0, 0) (by decide +kernel) rfl ⟨trivial, trivial, trivial⟩ ?_
        refine z_callSX M.1.1 (av := [.inl 1]) (st := []) (by decide +kernel) (c_mustExist T' (zwG G' 9) S10 n 1) M.1.2.1 zl_T_104 (z_wi 698 (by decide +kernel) rfl) zs_T_mustExist ⟨by decide, by decide, by decide, by decide⟩ rfl (Nat.le_of_ble_eq_true rfl) (fun E w' hx => ?_) (fun v w' hv => ?_)
        · obtain ⟨h0, rfl, n2, hn2, rfl⟩ := hx
          exact absurd h0 (by decide)
        · obtain ⟨h0, rfl, rfl⟩ := hv
          show z_G X zm_T_link (36, [(0, z_r 0), (1, .inl p1), (2, .inl p2), (3, .inl p3), (4, .inl p4), (5, .inl p5)], [], zW T' (zwG G' 9) S10 n, 1, 6)
          refine z_go2 M.1.1 36 [(.iload_n 2, 1)] (37, [(0, z_r 0), (1, .inl p1), (2, .inl p2), (3, .inl p3), (4, .inl p4), (5, .inl p5)], [.inl p2], zW T' (zwG G' 9) S10 n, 1, 6) (by decide +kernel) rfl ⟨trivial, trivial⟩ ?_
          refine z_if_lt 55 M.1.1 (off := 18) (by decide +kernel) (by decide) (fun c37 => ?_) (fun c37 => ?_)
          · rw [if_pos c37] at K hs
            refine z_go2 M.1.1 55 [(.iconst 0, 1)] (56, [(0, z_r 0), (1, .inl p1), (2, .inl p2), (3, .inl p3), (4, .inl p4), (5, .inl p5)], [.inl 0], zW T' (zwG G' 9) S10 n, 1, 6) (by decide +kernel) rfl ⟨trivial, trivial⟩ ?_
            refine z_callSX M.1.1 (av := [.inl 0]) (st := []) (by decide +kernel) (c_mustFit T' (zwG G' 9) S10 n 0) M.1.2.1 zl_T_111 (z_wi 772 (by decide +kernel) rfl) zs_T_mustFit ⟨by decide, by decide, by decide, by decide⟩ rfl (Nat.le_of_ble_eq_true rfl) (fun E w' hx => ?_) (fun v w' hv => ?_)
            · obtain ⟨h0, rfl, n2, hn2, rfl⟩ := hx
              exact M.2 _ _ (hX _ _ n2 _ hn2 K) (Nat.le_of_ble_eq_true rfl) (Nat.le_of_ble_eq_true rfl)
            · obtain ⟨h0, rfl, rfl⟩ := hv
              exact absurd rfl h0
          · rw [if_neg c37] at K hs
            refine z_go2 M.1.1 40 [(.iload_n 2, 1), (.iconst 3, 1)] (42, [(0, z_r 0), (1, .inl p1), (2, .inl p2), (3, .inl p3), (4, .inl p4), (5, .inl p5)], [.inl 3, .inl p2], zW T' (zwG G' 9) S10 n, 1, 6) (by decide +kernel) rfl ⟨trivial, trivial, trivial⟩ ?_
            refine z_icmp_ge 55 M.1.1 (off := 13) (by decide +kernel) (by decide) (fun c42 => ?_) (fun c42 => ?_)
            · rw [if_pos c42] at K hs
              refine z_go2 M.1.1 55 [(.iconst 0, 1)] (56, [(0, z_r 0), (1, .inl p1), (2, .inl p2), (3, .inl p3), (4, .inl p4), (5, .inl p5)], [.inl 0], zW T' (zwG G' 9) S10 n, 1, 6) (by decide +kernel) rfl ⟨trivial, trivial⟩ ?_
              refine z_callSX M.1.1 (av := [.inl 0]) (st := []) (by decide +kernel) (c_mustFit T' (zwG G' 9) S10 n 0) M.1.2.1 zl_T_111 (z_wi 772 (by decide +kernel) rfl) zs_T_mustFit ⟨by decide, by decide, by decide, by decide⟩ rfl (Nat.le_of_ble_eq_true rfl) (fun E w' hx => ?_) (fun v w' hv => ?_)
              · obtain ⟨h0, rfl, n2, hn2, rfl⟩ := hx
                exact M.2 _ _ (hX _ _ n2 _ hn2 K) (Nat.le_of_ble_eq_true rfl) (Nat.le_of_ble_eq_true rfl)
              · obtain ⟨h0, rfl, rfl⟩ := hv
                exact absurd rfl h0
            · rw [if_neg c42] at K hs
              refine z_go2 M.1.1 45 [(.iload_n 3, 1), (.iload 4, 2)] (48, [(0, z_r 0), (1, .inl p1), (2, .inl p2), (3, .inl p3), (4, .inl p4), (5, .inl p5)], [.inl p4, .inl p3], zW T' (zwG G' 9) S10 n, 1, 6) (by decide +kernel) rfl ⟨trivial, trivial, trivial⟩ ?_
              refine z_icmp_eq 55 M.1.1 (off := 7) (by decide +kernel) (by decide) (fun c48 => ?_) (fun c48 => ?_)
              · rw [if_pos c48] at K hs
                refine z_go2 M.1.1 55 [(.iconst 0, 1)] (56, [(0, z_r 0), (1, .inl p1), (2, .inl p2), (3, .inl p3), (4, .inl p4), (5, .inl p5)], [.inl 0], zW T' (zwG G' 9) S10 n, 1, 6) (by decide +kernel) rfl ⟨trivial, trivial⟩ ?_
                refine z_callSX M.1.1 (av := [.inl 0]) (st := []) (by decide +kernel) (c_mustFit T' (zwG G' 9) S10 n 0) M.1.2.1 zl_T_111 (z_wi 772 (by decide +kernel) rfl) zs_T_mustFit ⟨by decide, by decide, by decide, by decide⟩ rfl (Nat.le_of_ble_eq_true rfl) (fun E w' hx => ?_) (fun v w' hv => ?_)
                · obtain ⟨h0, rfl, n2, hn2, rfl⟩ := hx
                  exact M.2 _ _ (hX _ _ n2 _ hn2 K) (Nat.le_of_ble_eq_true rfl) (Nat.le_of_ble_eq_true rfl)
                · obtain ⟨h0, rfl, rfl⟩ := hv
                  exact absurd rfl h0
              · rw [if_neg c48] at K hs
                refine z_go2 M.1.1 51 [(.iconst 1, 1), (.goto 4, 3)] (56, [(0, z_r 0), (1, .inl p1), (2, .inl p2), (3, .inl p3), (4, .inl p4), (5, .inl p5)], [.inl 1], zW T' (zwG G' 9) S10 n, 1, 6) (by decide +kernel) rfl ⟨trivial, trivial, trivial⟩ ?_
                refine z_callSX M.1.1 (av := [.inl 1]) (st := []) (by decide +kernel) (c_mustFit T' (zwG G' 9) S10 n 1) M.1.2.1 zl_T_111 (z_wi 772 (by decide +kernel) rfl) zs_T_mustFit ⟨by decide, by decide, by decide, by decide⟩ rfl (Nat.le_of_ble_eq_true rfl) (fun E w' hx => ?_) (fun v w' hv => ?_)
                · obtain ⟨h0, rfl, n2, hn2, rfl⟩ := hx
                  exact absurd h0 (by decide)
                · obtain ⟨h0, rfl, rfl⟩ := hv
                  show z_G X zm_T_link (59, [(0, z_r 0), (1, .inl p1), (2, .inl p2), (3, .inl p3), (4, .inl p4), (5, .inl p5)], [], zW T' (zwG G' 9) S10 n, 2, 12)
                  refine z_go2 M.1.1 59 [(.aload_n 0, 1), (.getfield 47, 3), (.iload_n 3, 1)] (64, [(0, z_r 0), (1, .inl p1), (2, .inl p2), (3, .inl p3), (4, .inl p4), (5, .inl p5)], [.inl p3, z_r 36], zW T' (zwG G' 9) S10 n, 2, 12) (by decide +kernel) rfl ⟨trivial, rfl, trivial, trivial⟩ ?_
                  refine z_callV M.1.1 (av := [.inl p3]) (st := []) (a := 36) (ci := 8) (by decide +kernel) (c_Sight_canEdit T' (zwG G' 9) S10 n p3 hs.1) M.1.2.1 zl_T_251 zv_Sight_canEdit rfl rfl rfl ⟨by decide, by decide, by decide, by decide⟩ rfl (Nat.le_of_ble_eq_true rfl) (fun v w' hv => ?_)
                  obtain ⟨rfl, rfl⟩ := hv
                  replace hs := hs.2
                  show z_G X zm_T_link (67, [(0, z_r 0), (1, .inl p1), (2, .inl p2), (3, .inl p3), (4, .inl p4), (5, .inl p5)], [.inl (F_Sight_canEdit S10 p3)], zW T' (zwG G' 9) S10 n, 2, 12)
                  refine z_if_eq 93 M.1.1 (off := 26) (by decide +kernel) (by decide) (fun c67 => ?_) (fun c67 => ?_)
                  · rw [if_pos c67] at K hs
                    refine z_go2 M.1.1 93 [(.iconst 0, 1)] (94, [(0, z_r 0), (1, .inl p1), (2, .inl p2), (3, .inl p3), (4, .inl p4), (5, .inl p5)], [.inl 0], zW T' (zwG G' 9) S10 n, 2, 12) (by decide +kernel) rfl ⟨trivial, trivial⟩ ?_
                    refine z_callSX M.1.1 (av := [.inl 0]) (st := []) (by decide +kernel) (c_mustBeAllowed T' (zwG G' 9) S10 n 0) M.1.2.1 zl_T_128 (z_wi 847 (by decide +kernel) rfl) zs_T_mustBeAllowed ⟨by decide, by decide, by decide, by decide⟩ rfl (Nat.le_of_ble_eq_true rfl) (fun E w' hx => ?_) (fun v w' hv => ?_)
                    · obtain ⟨h0, rfl, n2, hn2, rfl⟩ := hx
                      exact M.2 _ _ (hX _ _ n2 _ hn2 K) (Nat.le_of_ble_eq_true rfl) (Nat.le_of_ble_eq_true rfl)
                    · obtain ⟨h0, rfl, rfl⟩ := hv
                      exact absurd rfl h0
                  · rw [if_neg c67] at K hs
                    refine z_go2 M.1.1 70 [(.iload 5, 2)] (72, [(0, z_r 0), (1, .inl p1), (2, .inl p2), (3, .inl p3), (4, .inl p4), (5, .inl p5)], [.inl p5], zW T' (zwG G' 9) S10 n, 2, 12) (by decide +kernel) rfl ⟨trivial, trivial⟩ ?_
                    refine z_if_eq 89 M.1.1 (off := 17) (by decide +kernel) (by decide) (fun c72 => ?_) (fun c72 => ?_)
                    · rw [if_pos c72] at K hs
                      exact z_lvs (lv' := [(0, z_r 0), (1, .inl p1), (2, .inl p2), (3, .inl p3), (4, .inl p4), (5, .inl p5)]) [0, 1, 2, 3, 4, 5] rfl (t_T_link_j89 M (q0 := q0) S10 p1 p2 p3 p4 p5 hQ hX K hs)
                    · rw [if_neg c72] at K hs
                      refine z_go2 M.1.1 75 [(.iload_n 2, 1)] (76, [(0, z_r 0), (1, .inl p1), (2, .inl p2), (3, .inl p3), (4, .inl p4), (5, .inl p5)], [.inl p2], zW T' (zwG G' 9) S10 n, 2, 12) (by decide +kernel) rfl ⟨trivial, trivial⟩ ?_
                      refine z_if_ne 89 M.1.1 (off := 13) (by decide +kernel) (by decide) (fun c76 => ?_) (fun c76 => ?_)
                      · rw [if_neg c76] at K hs
                        exact z_lvs (lv' := [(0, z_r 0), (1, .inl p1), (2, .inl p2), (3, .inl p3), (4, .inl p4), (5, .inl p5)]) [0, 1, 2, 3, 4, 5] rfl (t_T_link_j89 M (q0 := q0) S10 p1 p2 p3 p4 p5 hQ hX K hs)
                      · rw [if_pos c76] at K hs
                        refine z_go2 M.1.1 79 [(.aload_n 0, 1), (.iload 4, 2), (.iload_n 3, 1)] (83, [(0, z_r 0), (1, .inl p1), (2, .inl p2), (3, .inl p3), (4, .inl p4), (5, .inl p5)], [.inl p3, .inl p4, z_r 0], zW T' (zwG G' 9) S10 n, 2, 12) (by decide +kernel) rfl ⟨trivial, trivial, trivial, trivial⟩ ?_
                        refine z_callV M.1.1 (av := [.inl p4, .inl p3]) (st := []) (a := 0) (ci := 11) (by decide +kernel) (c_T_isReached T' (zwG G' 9) S10 n p4 p3 hs.1) M.1.2.1 zl_T_267 zv_T_isReached rfl rfl rfl ⟨by decide, by decide, by decide, by decide⟩ rfl (Nat.le_of_ble_eq_true rfl) (fun v w' hv => ?_)
                        obtain ⟨rfl, rfl⟩ := hv
                        replace hs := hs.2
                        show z_G X zm_T_link (86, [(0, z_r 0), (1, .inl p1), (2, .inl p2), (3, .inl p3), (4, .inl p4), (5, .inl p5)], [.inl (F_T_isReached S10 p4 p3)], zW T' (zwG G' 9) S10 n, 2, 12)
                        refine z_if_ne 93 M.1.1 (off := 7) (by decide +kernel) (by decide) (fun c86 => ?_) (fun c86 => ?_)
                        · rw [if_neg c86] at K hs
                          refine z_go2 M.1.1 93 [(.iconst 0, 1)] (94, [(0, z_r 0), (1, .inl p1), (2, .inl p2), (3, .inl p3), (4, .inl p4), (5, .inl p5)], [.inl 0], zW T' (zwG G' 9) S10 n, 2, 12) (by decide +kernel) rfl ⟨trivial, trivial⟩ ?_
                          refine z_callSX M.1.1 (av := [.inl 0]) (st := []) (by decide +kernel) (c_mustBeAllowed T' (zwG G' 9) S10 n 0) M.1.2.1 zl_T_128 (z_wi 847 (by decide +kernel) rfl) zs_T_mustBeAllowed ⟨by decide, by decide, by decide, by decide⟩ rfl (Nat.le_of_ble_eq_true rfl) (fun E w' hx => ?_) (fun v w' hv => ?_)
                          · obtain ⟨h0, rfl, n2, hn2, rfl⟩ := hx
                            exact M.2 _ _ (hX _ _ n2 _ hn2 K) (Nat.le_of_ble_eq_true rfl) (Nat.le_of_ble_eq_true rfl)
                          · obtain ⟨h0, rfl, rfl⟩ := hv
                            exact absurd rfl h0
                        · rw [if_pos c86] at K hs
                          exact z_lvs (lv' := [(0, z_r 0), (1, .inl p1), (2, .inl p2), (3, .inl p3), (4, .inl p4), (5, .inl p5)]) [0, 1, 2, 3, 4, 5] rfl (t_T_link_j89 M (q0 := q0) S10 p1 p2 p3 p4 p5 hQ hX K hs)

-- TrackHouse.level
abbrev rm_T_level : Room := zx 8 4
def F_T_level (S : (Nat → Nat → Int32)) (p1 : Int32) (p2 : Int32) (p3 : Int32) : ((String ⊕ Int32) × (Nat → Nat → Int32)) := (if (F_T_isPerson S p1) = 0 then (.inl "java/lang/IndexOutOfBoundsException", S) else (match F_T_isSeen S p1 p2 with | (r10, S10) => (if r10 = 0 then (.inl "java/lang/IndexOutOfBoundsException", S10) else (if p3 < 0 then (.inl "java/lang/IllegalArgumentException", S10) else (if (3 : Int32) ≤ p3 then (.inl "java/lang/IllegalArgumentException", S10) else (match F_T_setCell S10 p1 p2 6 p3 with | (.inl e, S47) => (.inl e, S47) | (.inr r47, S47) => (match F_T_isSeen S47 p1 p2 with | (r54, S54) => (.inr r54, S54))))))))
def Sf_T_level (S : (Nat → Nat → Int32)) (p1 : Int32) (p2 : Int32) (p3 : Int32) : Prop := (if (F_T_isPerson S p1) = 0 then True else (Sf_T_isSeen S p1 p2 ∧ (match F_T_isSeen S p1 p2 with | (r10, S10) => (if r10 = 0 then True else (if p3 < 0 then True else (if (3 : Int32) ≤ p3 then True else (Sf_T_setCell S10 p1 p2 6 p3 ∧ (match F_T_setCell S10 p1 p2 6 p3 with | (.inl _, S47) => True | (.inr r47, S47) => (Sf_T_isSeen S47 p1 p2 ∧ (match F_T_isSeen S47 p1 p2 with | (r54, S54) => (narrow .boolean (.int r54) = .int r54 ∧ True)))))))))))
theorem c_T_level (T' : Nat → Nat × Nat) (G' : Nat → Nat → Option Nat) (q0 : Nat) (S : (Nat → Nat → Int32)) (n : Nat) (p1 : Int32) (p2 : Int32) (p3 : Int32) (hs : Sf_T_level S p1 p2 p3) : z_RunX rm_T_level zm_T_level [z_r 0, .inl p1, .inl p2, .inl p3] (zW T' (zwG G' q0) S n) (fun v w' => ∃ x S' q, F_T_level S p1 p2 p3 = (.inr x, S') ∧ v = some (.inl x) ∧ w' = zW T' (zwG G' q) S' n) (fun E w' => ∃ S' n2 q, n ≤ n2 ∧ F_T_level S p1 p2 p3 = (.inl E, S') ∧ w' = zW T' (zwG G' q) S' n2) := by
  refine z_bodyX (by decide) zf_T_ok (Nat.le_of_ble_eq_true rfl) (fun X M => ?_)
  obtain ⟨Q, hQ, hX, K⟩ : ∃ Q : ((String ⊕ Int32) × (Nat → Nat → Int32)) → Prop, (∀ v S' q, Q (.inr v, S') → ∃ x S'' q2, F_T_level S p1 p2 p3 = (.inr x, S'') ∧ some (.inl v : z_V) = some (.inl x) ∧ zW T' (zwG G' q) S' n = zW T' (zwG G' q2) S'' n) ∧ (∀ E S' (n2 : Nat) q, n ≤ n2 → Q (.inl E, S') → ∃ S'' n3 q2, n ≤ n3 ∧ F_T_level S p1 p2 p3 = (.inl E, S'') ∧ zW T' (zwG G' q) S' n2 = zW T' (zwG G' q2) S'' n3) ∧ Q (F_T_level S p1 p2 p3) := ⟨fun o => F_T_level S p1 p2 p3 = o, fun v S' q h => ⟨v, S', q, h, rfl, rfl⟩, fun E S' n2 q hn h => ⟨S', n2, q, hn, h, rfl⟩, rfl⟩
  show z_G X zm_T_level (0, [(0, z_r 0), (1, .inl p1), (2, .inl p2), (3, .inl p3)], [], zW T' (zwG G' q0) S n, 0, 0)
  unfold F_T_level at K
  unfold Sf_T_level at hs
  refine z_go2 M.1.1 0 [(.iload_n 1, 1)] (1, [(0, z_r 0), (1, .inl p1), (2, .inl p2), (3, .inl p3)], [.inl p1], zW T' (zwG G' q0) S n, 0, 0) (by decide +kernel) rfl ⟨trivial, trivial⟩ ?_
  refine z_callS M.1.1 (av := [.inl p1]) (st := []) (by decide +kernel) (c_T_isPerson T' (zwG G' q0) S n p1) M.1.2.1 zl_T_97 zs_T_isPerson ⟨by decide, by decide, by decide, by decide⟩ rfl (Nat.le_of_ble_eq_true rfl) (fun v w' hv => ?_)
  obtain ⟨rfl, rfl⟩ := hv
  show z_G X zm_T_level (4, [(0, z_r 0), (1, .inl p1), (2, .inl p2), (3, .inl p3)], [.inl (F_T_isPerson S p1)], zW T' (zwG G' q0) S n, 0, 0)
  refine z_if_eq 20 M.1.1 (off := 16) (by decide +kernel) (by decide) (fun c4 => ?_) (fun c4 => ?_)
  · rw [if_pos c4] at K hs
    refine z_go2 M.1.1 20 [(.iconst 0, 1)] (21, [(0, z_r 0), (1, .inl p1), (2, .inl p2), (3, .inl p3)], [.inl 0], zW T' (zwG G' q0) S n, 0, 0) (by decide +kernel) rfl ⟨trivial, trivial⟩ ?_
    refine z_callSX M.1.1 (av := [.inl 0]) (st := []) (by decide +kernel) (c_mustExist T' (zwG G' q0) S n 0) M.1.2.1 zl_T_104 (z_wi 698 (by decide +kernel) rfl) zs_T_mustExist ⟨by decide, by decide, by decide, by decide⟩ rfl (Nat.le_of_ble_eq_true rfl) (fun E w' hx => ?_) (fun v w' hv => ?_)
    · obtain ⟨h0, rfl, n2, hn2, rfl⟩ := hx
      exact M.2 _ _ (hX _ _ n2 _ hn2 K) (Nat.le_of_ble_eq_true rfl) (Nat.le_of_ble_eq_true rfl)
    · obtain ⟨h0, rfl, rfl⟩ := hv
      exact absurd rfl h0
  · rw [if_neg c4] at K hs
    refine z_go2 M.1.1 7 [(.aload_n 0, 1), (.iload_n 1, 1), (.iload_n 2, 1)] (10, [(0, z_r 0), (1, .inl p1), (2, .inl p2), (3, .inl p3)], [.inl p2, .inl p1, z_r 0], zW T' (zwG G' q0) S n, 0, 0) (by decide +kernel) rfl ⟨trivial, trivial, trivial, trivial⟩ ?_
    refine z_callV M.1.1 (av := [.inl p1, .inl p2]) (st := []) (a := 0) (ci := 11) (by decide +kernel) (c_T_isSeen T' G' q0 S n p1 p2 hs.1) M.1.2.1 zl_T_238 zv_T_isSeen rfl rfl rfl ⟨by decide, by decide, by decide, by decide⟩ rfl (Nat.le_of_ble_eq_true rfl) (fun v w' hv => ?_)
    replace hs := hs.2
    rcases hF10 : F_T_isSeen S p1 p2 with ⟨r10, S10⟩
    rw [hF10] at K hv
    try rw [hF10] at hs
    try dsimp only at K hs
    obtain ⟨rfl, rfl⟩ := hv
    show z_G X zm_T_level (13, [(0, z_r 0), (1, .inl p1), (2, .inl p2), (3, .inl p3)], [.inl r10], zW T' (zwG G' 9) S10 n, 0, 0)
    refine z_if_eq 20 M.1.1 (off := 7) (by decide +kernel) (by decide) (fun c13 => ?_) (fun c13 => ?_)
    · rw [if_pos c13] at K hs
      refine z_go2 M.1.1 20 [(.iconst 0, 1)] (21, [(0, z_r 0), (1, .inl p1), (2, .inl p2), (3, .inl p3)], [.inl 0], zW T' (zwG G' 9) S10 n, 0, 0) (by decide +kernel) rfl ⟨trivial, trivial⟩ ?_
      refine z_callSX M.1.1 (av := [.inl 0]) (st := []) (by decide +kernel) (c_mustExist T' (zwG G' 9) S10 n 0) M.1.2.1 zl_T_104 (z_wi 698 (by decide +kernel) rfl) zs_T_mustExist ⟨by decide, by decide, by decide, by decide⟩ rfl (Nat.le_of_ble_eq_true rfl) (fun E w' hx => ?_) (fun v w' hv => ?_)
      · obtain ⟨h0, rfl, n2, hn2, rfl⟩ := hx
        exact M.2 _ _ (hX _ _ n2 _ hn2 K) (Nat.le_of_ble_eq_true rfl) (Nat.le_of_ble_eq_true rfl)
      · obtain ⟨h0, rfl, rfl⟩ := hv
        exact absurd rfl h0
    · rw [if_neg c13] at K hs
      refine z_go2 M.1.1 16 [(.iconst 1, 1), (.goto 4, 3)] (21, [(0, z_r 0), (1, .inl p1), (2, .inl p2), (3, .inl p3)], [.inl 1], zW T' (zwG G' 9) S10 n, 0, 0) (by decide +kernel) rfl ⟨trivial, trivial, trivial⟩ ?_
      refine z_callSX M.1.1 (av := [.inl 1]) (st := []) (by decide +kernel) (c_mustExist T' (zwG G' 9) S10 n 1) M.1.2.1 zl_T_104 (z_wi 698 (by decide +kernel) rfl) zs_T_mustExist ⟨by decide, by decide, by decide, by decide⟩ rfl (Nat.le_of_ble_eq_true rfl) (fun E w' hx => ?_) (fun v w' hv => ?_)
      · obtain ⟨h0, rfl, n2, hn2, rfl⟩ := hx
        exact absurd h0 (by decide)
      · obtain ⟨h0, rfl, rfl⟩ := hv
        show z_G X zm_T_level (24, [(0, z_r 0), (1, .inl p1), (2, .inl p2), (3, .inl p3)], [], zW T' (zwG G' 9) S10 n, 1, 6)
        refine z_go2 M.1.1 24 [(.iload_n 3, 1)] (25, [(0, z_r 0), (1, .inl p1), (2, .inl p2), (3, .inl p3)], [.inl p3], zW T' (zwG G' 9) S10 n, 1, 6) (by decide +kernel) rfl ⟨trivial, trivial⟩ ?_
        refine z_if_lt 37 M.1.1 (off := 12) (by decide +kernel) (by decide) (fun c25 => ?_) (fun c25 => ?_)
        · rw [if_pos c25] at K hs
          refine z_go2 M.1.1 37 [(.iconst 0, 1)] (38, [(0, z_r 0), (1, .inl p1), (2, .inl p2), (3, .inl p3)], [.inl 0], zW T' (zwG G' 9) S10 n, 1, 6) (by decide +kernel) rfl ⟨trivial, trivial⟩ ?_
          refine z_callSX M.1.1 (av := [.inl 0]) (st := []) (by decide +kernel) (c_mustFit T' (zwG G' 9) S10 n 0) M.1.2.1 zl_T_111 (z_wi 772 (by decide +kernel) rfl) zs_T_mustFit ⟨by decide, by decide, by decide, by decide⟩ rfl (Nat.le_of_ble_eq_true rfl) (fun E w' hx => ?_) (fun v w' hv => ?_)
          · obtain ⟨h0, rfl, n2, hn2, rfl⟩ := hx
            exact M.2 _ _ (hX _ _ n2 _ hn2 K) (Nat.le_of_ble_eq_true rfl) (Nat.le_of_ble_eq_true rfl)
          · obtain ⟨h0, rfl, rfl⟩ := hv
            exact absurd rfl h0
        · rw [if_neg c25] at K hs
          refine z_go2 M.1.1 28 [(.iload_n 3, 1), (.iconst 3, 1)] (30, [(0, z_r 0), (1, .inl p1), (2, .inl p2), (3, .inl p3)], [.inl 3, .inl p3], zW T' (zwG G' 9) S10 n, 1, 6) (by decide +kernel) rfl ⟨trivial, trivial, trivial⟩ ?_
          refine z_icmp_ge 37 M.1.1 (off := 7) (by decide +kernel) (by decide) (fun c30 => ?_) (fun c30 => ?_)
          · rw [if_pos c30] at K hs
            refine z_go2 M.1.1 37 [(.iconst 0, 1)] (38, [(0, z_r 0), (1, .inl p1), (2, .inl p2), (3, .inl p3)], [.inl 0], zW T' (zwG G' 9) S10 n, 1, 6) (by decide +kernel) rfl ⟨trivial, trivial⟩ ?_
            refine z_callSX M.1.1 (av := [.inl 0]) (st := []) (by decide +kernel) (c_mustFit T' (zwG G' 9) S10 n 0) M.1.2.1 zl_T_111 (z_wi 772 (by decide +kernel) rfl) zs_T_mustFit ⟨by decide, by decide, by decide, by decide⟩ rfl (Nat.le_of_ble_eq_true rfl) (fun E w' hx => ?_) (fun v w' hv => ?_)
            · obtain ⟨h0, rfl, n2, hn2, rfl⟩ := hx
              exact M.2 _ _ (hX _ _ n2 _ hn2 K) (Nat.le_of_ble_eq_true rfl) (Nat.le_of_ble_eq_true rfl)
            · obtain ⟨h0, rfl, rfl⟩ := hv
              exact absurd rfl h0
          · rw [if_neg c30] at K hs
            refine z_go2 M.1.1 33 [(.iconst 1, 1), (.goto 4, 3)] (38, [(0, z_r 0), (1, .inl p1), (2, .inl p2), (3, .inl p3)], [.inl 1], zW T' (zwG G' 9) S10 n, 1, 6) (by decide +kernel) rfl ⟨trivial, trivial, trivial⟩ ?_
            refine z_callSX M.1.1 (av := [.inl 1]) (st := []) (by decide +kernel) (c_mustFit T' (zwG G' 9) S10 n 1) M.1.2.1 zl_T_111 (z_wi 772 (by decide +kernel) rfl) zs_T_mustFit ⟨by decide, by decide, by decide, by decide⟩ rfl (Nat.le_of_ble_eq_true rfl) (fun E w' hx => ?_) (fun v w' hv => ?_)
            · obtain ⟨h0, rfl, n2, hn2, rfl⟩ := hx
              exact absurd h0 (by decide)
            · obtain ⟨h0, rfl, rfl⟩ := hv
              show z_G X zm_T_level (41, [(0, z_r 0), (1, .inl p1), (2, .inl p2), (3, .inl p3)], [], zW T' (zwG G' 9) S10 n, 2, 12)
              refine z_go2 M.1.1 41 [(.aload_n 0, 1), (.iload_n 1, 1), (.iload_n 2, 1), (.bipush 6, 2), (.iload_n 3, 1)] (47, [(0, z_r 0), (1, .inl p1), (2, .inl p2), (3, .inl p3)], [.inl p3, .inl 6, .inl p2, .inl p1, z_r 0], zW T' (zwG G' 9) S10 n, 2, 12) (by decide +kernel) rfl ⟨trivial, trivial, trivial, trivial, trivial, trivial⟩ ?_
              refine z_callVX M.1.1 (av := [.inl p1, .inl p2, .inl 6, .inl p3]) (st := []) (a := 0) (ci := 11) (by decide +kernel) (c_T_setCell T' (zwG G' 9) S10 n p1 p2 6 p3 hs.1) M.1.2.1 zl_T_247 (z_wi 1160 (by decide +kernel) rfl) zv_T_setCell rfl rfl rfl ⟨by decide, by decide, by decide, by decide⟩ rfl (Nat.le_of_ble_eq_true rfl) (fun E w' hx => ?_) (fun v w' hv => ?_)
              · obtain ⟨S47, n2, hn2, h0, rfl⟩ := hx
                rw [h0] at K
                exact M.2 _ _ (hX _ _ n2 _ hn2 K) (Nat.le_of_ble_eq_true rfl) (Nat.le_of_ble_eq_true rfl)
              · obtain ⟨r47, S47, h0, rfl, rfl⟩ := hv
                replace hs := hs.2
                rw [h0] at K hs
                try dsimp only at K hs
                show z_G X zm_T_level (50, [(0, z_r 0), (1, .inl p1), (2, .inl p2), (3, .inl p3)], [.inl r47], zW T' (zwG G' 9) S47 n, 4, 24)
                refine z_go2 M.1.1 50 [(.pop, 1), (.aload_n 0, 1), (.iload_n 1, 1), (.iload_n 2, 1)] (54, [(0, z_r 0), (1, .inl p1), (2, .inl p2), (3, .inl p3)], [.inl p2, .inl p1, z_r 0], zW T' (zwG G' 9) S47 n, 4, 24) (by decide +kernel) rfl ⟨rfl, trivial, trivial, trivial, trivial⟩ ?_
                refine z_callV M.1.1 (av := [.inl p1, .inl p2]) (st := []) (a := 0) (ci := 11) (by decide +kernel) (c_T_isSeen T' G' 9 S47 n p1 p2 hs.1) M.1.2.1 zl_T_238 zv_T_isSeen rfl rfl rfl ⟨by decide, by decide, by decide, by decide⟩ rfl (Nat.le_of_ble_eq_true rfl) (fun v w' hv => ?_)
                replace hs := hs.2
                rcases hF54 : F_T_isSeen S47 p1 p2 with ⟨r54, S54⟩
                rw [hF54] at K hv
                try rw [hF54] at hs
                try dsimp only at K hs
                obtain ⟨rfl, rfl⟩ := hv
                show z_G X zm_T_level (57, [(0, z_r 0), (1, .inl p1), (2, .inl p2), (3, .inl p3)], [.inl r54], zW T' (zwG G' 9) S54 n, 4, 24)
                exact z_iret M.1 (by decide +kernel) .boolean rfl hs.1 (by decide) (by decide) (hQ _ _ _ K)

-- TrackHouse.transfer
abbrev rm_T_transfer : Room := zx 7 4
def F_T_transfer_j163 (S : (Nat → Nat → Int32)) (x1 : Int32) (x2 : Int32) (x3 : Int32) (x5 : Int32) : ((String ⊕ Int32) × (Nat → Nat → Int32)) := (z_let (F_T_change S x1 x2 8 0 x3) (fun S170 => (match F_T_isWithinLimit S170 x5 with | (r188, S188) => (if r188 = 0 then (.inl "java/lang/IllegalStateException", S188) else (.inr ((S170 1 7) - x5), S188)))))
def Sf_T_transfer_j163 (S : (Nat → Nat → Int32)) (x1 : Int32) (x2 : Int32) (x3 : Int32) (x5 : Int32) : Prop := (Sf_T_change S x1 x2 8 0 x3 ∧ (z_let (F_T_change S x1 x2 8 0 x3) (fun S170 => (Sf_T_isWithinLimit S170 x5 ∧ True))))
theorem t_T_transfer_j163 {X : z_X} {Post : Option z_V → z_W → Prop} {PX : String → z_W → Prop} (M : z_MX X zm_T_transfer rm_T_transfer Post PX) {T' : Nat → Nat × Nat} {G' : Nat → Nat → Option Nat} {n : Nat} {q0 : Nat} {Q : ((String ⊕ Int32) × (Nat → Nat → Int32)) → Prop} (S : (Nat → Nat → Int32)) (x1 : Int32) (x2 : Int32) (x3 : Int32) (x5 : Int32) (hQ : ∀ v S' (q : Nat), Q (.inr v, S') → Post (some (.inl v)) (zW T' (zwG G' q) S' n)) (hX : ∀ E S' (n2 : Nat) (q : Nat), n ≤ n2 → Q (.inl E, S') → PX E (zW T' (zwG G' q) S' n2)) (K : Q (F_T_transfer_j163 S x1 x2 x3 x5)) (hs : Sf_T_transfer_j163 S x1 x2 x3 x5) : z_G X zm_T_transfer (163, [(0, z_r 0), (1, .inl x1), (2, .inl x2), (3, .inl x3), (5, .inl x5)], [], zW T' (zwG G' 9) S n, 3, 18) := by
  unfold F_T_transfer_j163 at K
  unfold Sf_T_transfer_j163 at hs
  refine z_go2 M.1.1 163 [(.aload_n 0, 1), (.iload_n 1, 1), (.iload_n 2, 1), (.bipush 8, 2), (.iconst 0, 1), (.iload_n 3, 1)] (170, [(0, z_r 0), (1, .inl x1), (2, .inl x2), (3, .inl x3), (5, .inl x5)], [.inl x3, .inl 0, .inl 8, .inl x2, .inl x1, z_r 0], zW T' (zwG G' 9) S n, 3, 18) (by decide +kernel) rfl ⟨trivial, trivial, trivial, trivial, trivial, trivial, trivial⟩ ?_
  refine z_callV M.1.1 (av := [.inl x1, .inl x2, .inl 8, .inl 0, .inl x3]) (st := []) (a := 0) (ci := 11) (by decide +kernel) (c_T_change T' (zwG G' 9) S n x1 x2 8 0 x3 hs.1) M.1.2.1 zl_T_121 zv_T_change rfl rfl rfl ⟨by decide, by decide, by decide, by decide⟩ rfl (Nat.le_of_ble_eq_true rfl) (fun v w' hv => ?_)
  replace hs := hs.2
  obtain ⟨S170, hF170⟩ : ∃ y, F_T_change S x1 x2 8 0 x3 = y := ⟨_, rfl⟩
  rw [hF170] at K hv
  try rw [hF170] at hs
  try dsimp only [z_let] at K hs
  obtain ⟨rfl, rfl⟩ := hv
  show z_G X zm_T_transfer (173, [(0, z_r 0), (1, .inl x1), (2, .inl x2), (3, .inl x3), (5, .inl x5)], [], zW T' (zwG G' 9) S170 n, 3, 18)
  refine z_go2 M.1.1 173 [(.aload_n 0, 1), (.getfield 12, 3), (.getfield 118, 3), (.iload 5, 2), (.isub, 1), (.istore 6, 2), (.aload_n 0, 1), (.iload 5, 2)] (188, [(6, .inl ((S170 1 7) - x5)), (0, z_r 0), (1, .inl x1), (2, .inl x2), (3, .inl x3), (5, .inl x5)], [.inl x5, z_r 0], zW T' (zwG G' 9) S170 n, 3, 18) (by decide +kernel) rfl ⟨trivial, rfl, rfl, trivial, trivial, trivial, trivial, trivial, trivial⟩ ?_
  refine z_callV M.1.1 (av := [.inl x5]) (st := []) (a := 0) (ci := 11) (by decide +kernel) (c_T_isWithinLimit T' (zwG G' 9) S170 n x5 hs.1) M.1.2.1 zl_T_125 zv_T_isWithinLimit rfl rfl rfl ⟨by decide, by decide, by decide, by decide⟩ rfl (Nat.le_of_ble_eq_true rfl) (fun v w' hv => ?_)
  replace hs := hs.2
  rcases hF188 : F_T_isWithinLimit S170 x5 with ⟨r188, S188⟩
  rw [hF188] at K hv
  try dsimp only at K
  obtain ⟨rfl, rfl⟩ := hv
  show z_G X zm_T_transfer (191, [(6, .inl ((S170 1 7) - x5)), (0, z_r 0), (1, .inl x1), (2, .inl x2), (3, .inl x3), (5, .inl x5)], [.inl r188], zW T' (zwG G' 9) S188 n, 3, 18)
  refine z_callSX M.1.1 (av := [.inl r188]) (st := []) (by decide +kernel) (c_mustBeAllowed T' (zwG G' 9) S188 n r188) M.1.2.1 zl_T_128 (z_wi 847 (by decide +kernel) rfl) zs_T_mustBeAllowed ⟨by decide, by decide, by decide, by decide⟩ rfl (Nat.le_of_ble_eq_true rfl) (fun E w' hx => ?_) (fun v w' hv => ?_)
  · obtain ⟨h0, rfl, n2, hn2, rfl⟩ := hx
    rw [if_pos h0] at K
    exact M.2 _ _ (hX _ _ n2 _ hn2 K) (Nat.le_of_ble_eq_true rfl) (Nat.le_of_ble_eq_true rfl)
  · obtain ⟨h0, rfl, rfl⟩ := hv
    rw [if_neg h0] at K
    show z_G X zm_T_transfer (194, [(6, .inl ((S170 1 7) - x5)), (0, z_r 0), (1, .inl x1), (2, .inl x2), (3, .inl x3), (5, .inl x5)], [], zW T' (zwG G' 9) S188 n, 4, 24)
    refine z_go2 M.1.1 194 [(.iload 6, 2)] (196, [(6, .inl ((S170 1 7) - x5)), (0, z_r 0), (1, .inl x1), (2, .inl x2), (3, .inl x3), (5, .inl x5)], [.inl ((S170 1 7) - x5)], zW T' (zwG G' 9) S188 n, 4, 24) (by decide +kernel) rfl ⟨trivial, trivial⟩ ?_
    exact z_iret M.1 (by decide +kernel) .int rfl rfl (by decide) (by decide) (hQ _ _ _ K)
def F_T_transfer (S : (Nat → Nat → Int32)) (p1 : Int32) (p2 : Int32) (p3 : Int32) : ((String ⊕ Int32) × (Nat → Nat → Int32)) := (if (F_T_isPerson S p1) = 0 then (.inl "java/lang/IndexOutOfBoundsException", S) else (match F_T_isSeen S p1 p2 with | (r10, S10) => (if r10 = 0 then (.inl "java/lang/IndexOutOfBoundsException", S10) else (if (F_T_isProject S10 p3) = 0 then (.inl "java/lang/IndexOutOfBoundsException", S10) else (if (F_World_cell 9 S10 p2 8) = p3 then (.inl "java/lang/IllegalArgumentException", S10) else (if (F_Sight_canEdit S10 p2) = 0 then (.inl "java/lang/IllegalStateException", S10) else (if (F_T_canEditIn S10 p1 p3) = 0 then (.inl "java/lang/IllegalStateException", S10) else (z_let (F_T_change S10 p1 p2 6 0 0) (fun S108 => (z_let (F_T_change S108 p1 p2 7 0 (-1)) (fun S118 => (if (F_T_isPerson S118 (F_World_cell 9 S10 p2 4)) = 0 then (F_T_transfer_j163 S118 p1 p2 p3 (S10 1 7)) else (if ((F_World_rolesOf 9 S118 (F_World_cell 9 S10 p2 4) p3) &&& (zAt (S118 37) 3 p3)) = 0 then (z_let (F_T_change S118 p1 p2 4 0 (-1)) (fun S160 => (z_let (F_T_change S160 p1 p2 8 0 p3) (fun S170 => (match F_T_isWithinLimit S170 (S10 1 7) with | (r188, S188) => (if r188 = 0 then (.inl "java/lang/IllegalStateException", S188) else (.inr ((S170 1 7) - (S10 1 7)), S188))))))) else (F_T_transfer_j163 S118 p1 p2 p3 (S10 1 7)))))))))))))))
def Sf_T_transfer (S : (Nat → Nat → Int32)) (p1 : Int32) (p2 : Int32) (p3 : Int32) : Prop := (if (F_T_isPerson S p1) = 0 then True else (Sf_T_isSeen S p1 p2 ∧ (match F_T_isSeen S p1 p2 with | (r10, S10) => (if r10 = 0 then True else (if (F_T_isProject S10 p3) = 0 then True else (Sf_World_cell 9 S10 p2 8 ∧ (if (F_World_cell 9 S10 p2 8) = p3 then True else (Sf_Sight_canEdit S10 p2 ∧ (if (F_Sight_canEdit S10 p2) = 0 then True else (if (F_T_canEditIn S10 p1 p3) = 0 then True else (Sf_World_cell 9 S10 p2 4 ∧ (Sf_T_change S10 p1 p2 6 0 0 ∧ (z_let (F_T_change S10 p1 p2 6 0 0) (fun S108 => (Sf_T_change S108 p1 p2 7 0 (-1) ∧ (z_let (F_T_change S108 p1 p2 7 0 (-1)) (fun S118 => (if (F_T_isPerson S118 (F_World_cell 9 S10 p2 4)) = 0 then (Sf_T_transfer_j163 S118 p1 p2 p3 (S10 1 7)) else (if ((F_World_rolesOf 9 S118 (F_World_cell 9 S10 p2 4) p3) &&& (zAt (S118 37) 3 p3)) = 0 then (Sf_T_change S118 p1 p2 4 0 (-1) ∧ (z_let (F_T_change S118 p1 p2 4 0 (-1)) (fun S160 => (Sf_T_change S160 p1 p2 8 0 p3 ∧ (z_let (F_T_change S160 p1 p2 8 0 p3) (fun S170 => (Sf_T_isWithinLimit S170 (S10 1 7) ∧ True))))))) else (Sf_T_transfer_j163 S118 p1 p2 p3 (S10 1 7)))))))))))))))))))))
theorem c_T_transfer (T' : Nat → Nat × Nat) (G' : Nat → Nat → Option Nat) (q0 : Nat) (S : (Nat → Nat → Int32)) (n : Nat) (p1 : Int32) (p2 : Int32) (p3 : Int32) (hs : Sf_T_transfer S p1 p2 p3) : z_RunX rm_T_transfer zm_T_transfer [z_r 0, .inl p1, .inl p2, .inl p3] (zW T' (zwG G' q0) S n) (fun v w' => ∃ x S' q, F_T_transfer S p1 p2 p3 = (.inr x, S') ∧ v = some (.inl x) ∧ w' = zW T' (zwG G' q) S' n) (fun E w' => ∃ S' n2 q, n ≤ n2 ∧ F_T_transfer S p1 p2 p3 = (.inl E, S') ∧ w' = zW T' (zwG G' q) S' n2) := by
  refine z_bodyX (by decide) zf_T_ok (Nat.le_of_ble_eq_true rfl) (fun X M => ?_)
  obtain ⟨Q, hQ, hX, K⟩ : ∃ Q : ((String ⊕ Int32) × (Nat → Nat → Int32)) → Prop, (∀ v S' q, Q (.inr v, S') → ∃ x S'' q2, F_T_transfer S p1 p2 p3 = (.inr x, S'') ∧ some (.inl v : z_V) = some (.inl x) ∧ zW T' (zwG G' q) S' n = zW T' (zwG G' q2) S'' n) ∧ (∀ E S' (n2 : Nat) q, n ≤ n2 → Q (.inl E, S') → ∃ S'' n3 q2, n ≤ n3 ∧ F_T_transfer S p1 p2 p3 = (.inl E, S'') ∧ zW T' (zwG G' q) S' n2 = zW T' (zwG G' q2) S'' n3) ∧ Q (F_T_transfer S p1 p2 p3) := ⟨fun o => F_T_transfer S p1 p2 p3 = o, fun v S' q h => ⟨v, S', q, h, rfl, rfl⟩, fun E S' n2 q hn h => ⟨S', n2, q, hn, h, rfl⟩, rfl⟩
  show z_G X zm_T_transfer (0, [(0, z_r 0), (1, .inl p1), (2, .inl p2), (3, .inl p3)], [], zW T' (zwG G' q0) S n, 0, 0)
  unfold F_T_transfer at K
  unfold Sf_T_transfer at hs
  refine z_go2 M.1.1 0 [(.iload_n 1, 1)] (1, [(0, z_r 0), (1, .inl p1), (2, .inl p2), (3, .inl p3)], [.inl p1], zW T' (zwG G' q0) S n, 0, 0) (by decide +kernel) rfl ⟨trivial, trivial⟩ ?_
  refine z_callS M.1.1 (av := [.inl p1]) (st := []) (by decide +kernel) (c_T_isPerson T' (zwG G' q0) S n p1) M.1.2.1 zl_T_97 zs_T_isPerson ⟨by decide, by decide, by decide, by decide⟩ rfl (Nat.le_of_ble_eq_true rfl) (fun v w' hv => ?_)
  obtain ⟨rfl, rfl⟩ := hv
  show z_G X zm_T_transfer (4, [(0, z_r 0), (1, .inl p1), (2, .inl p2), (3, .inl p3)], [.inl (F_T_isPerson S p1)], zW T' (zwG G' q0) S n, 0, 0)
  refine z_if_eq 27 M.1.1 (off := 23) (by decide +kernel) (by decide) (fun c4 => ?_) (fun c4 => ?_)
  · rw [if_pos c4] at K hs
    refine z_go2 M.1.1 27 [(.iconst 0, 1)] (28, [(0, z_r 0), (1, .inl p1), (2, .inl p2), (3, .inl p3)], [.inl 0], zW T' (zwG G' q0) S n, 0, 0) (by decide +kernel) rfl ⟨trivial, trivial⟩ ?_
    refine z_callSX M.1.1 (av := [.inl 0]) (st := []) (by decide +kernel) (c_mustExist T' (zwG G' q0) S n 0) M.1.2.1 zl_T_104 (z_wi 698 (by decide +kernel) rfl) zs_T_mustExist ⟨by decide, by decide, by decide, by decide⟩ rfl (Nat.le_of_ble_eq_true rfl) (fun E w' hx => ?_) (fun v w' hv => ?_)
    · obtain ⟨h0, rfl, n2, hn2, rfl⟩ := hx
      exact M.2 _ _ (hX _ _ n2 _ hn2 K) (Nat.le_of_ble_eq_true rfl) (Nat.le_of_ble_eq_true rfl)
    · obtain ⟨h0, rfl, rfl⟩ := hv
      exact absurd rfl h0
  · rw [if_neg c4] at K hs
    refine z_go2 M.1.1 7 [(.aload_n 0, 1), (.iload_n 1, 1), (.iload_n 2, 1)] (10, [(0, z_r 0), (1, .inl p1), (2, .inl p2), (3, .inl p3)], [.inl p2, .inl p1, z_r 0], zW T' (zwG G' q0) S n, 0, 0) (by decide +kernel) rfl ⟨trivial, trivial, trivial, trivial⟩ ?_
    refine z_callV M.1.1 (av := [.inl p1, .inl p2]) (st := []) (a := 0) (ci := 11) (by decide +kernel) (c_T_isSeen T' G' q0 S n p1 p2 hs.1) M.1.2.1 zl_T_238 zv_T_isSeen rfl rfl rfl ⟨by decide, by decide, by decide, by decide⟩ rfl (Nat.le_of_ble_eq_true rfl) (fun v w' hv => ?_)
    replace hs := hs.2
    rcases hF10 : F_T_isSeen S p1 p2 with ⟨r10, S10⟩
    rw [hF10] at K hv
    try rw [hF10] at hs
    try dsimp only at K hs
    obtain ⟨rfl, rfl⟩ := hv
    show z_G X zm_T_transfer (13, [(0, z_r 0), (1, .inl p1), (2, .inl p2), (3, .inl p3)], [.inl r10], zW T' (zwG G' 9) S10 n, 0, 0)
    refine z_if_eq 27 M.1.1 (off := 14) (by decide +kernel) (by decide) (fun c13 => ?_) (fun c13 => ?_)
    · rw [if_pos c13] at K hs
      refine z_go2 M.1.1 27 [(.iconst 0, 1)] (28, [(0, z_r 0), (1, .inl p1), (2, .inl p2), (3, .inl p3)], [.inl 0], zW T' (zwG G' 9) S10 n, 0, 0) (by decide +kernel) rfl ⟨trivial, trivial⟩ ?_
      refine z_callSX M.1.1 (av := [.inl 0]) (st := []) (by decide +kernel) (c_mustExist T' (zwG G' 9) S10 n 0) M.1.2.1 zl_T_104 (z_wi 698 (by decide +kernel) rfl) zs_T_mustExist ⟨by decide, by decide, by decide, by decide⟩ rfl (Nat.le_of_ble_eq_true rfl) (fun E w' hx => ?_) (fun v w' hv => ?_)
      · obtain ⟨h0, rfl, n2, hn2, rfl⟩ := hx
        exact M.2 _ _ (hX _ _ n2 _ hn2 K) (Nat.le_of_ble_eq_true rfl) (Nat.le_of_ble_eq_true rfl)
      · obtain ⟨h0, rfl, rfl⟩ := hv
        exact absurd rfl h0
    · rw [if_neg c13] at K hs
      refine z_go2 M.1.1 16 [(.iload_n 3, 1)] (17, [(0, z_r 0), (1, .inl p1), (2, .inl p2), (3, .inl p3)], [.inl p3], zW T' (zwG G' 9) S10 n, 0, 0) (by decide +kernel) rfl ⟨trivial, trivial⟩ ?_
      refine z_callS M.1.1 (av := [.inl p3]) (st := []) (by decide +kernel) (c_T_isProject T' (zwG G' 9) S10 n p3) M.1.2.1 zl_T_101 zs_T_isProject ⟨by decide, by decide, by decide, by decide⟩ rfl (Nat.le_of_ble_eq_true rfl) (fun v w' hv => ?_)
      obtain ⟨rfl, rfl⟩ := hv
      show z_G X zm_T_transfer (20, [(0, z_r 0), (1, .inl p1), (2, .inl p2), (3, .inl p3)], [.inl (F_T_isProject S10 p3)], zW T' (zwG G' 9) S10 n, 0, 0)
      refine z_if_eq 27 M.1.1 (off := 7) (by decide +kernel) (by decide) (fun c20 => ?_) (fun c20 => ?_)
      · rw [if_pos c20] at K hs
        refine z_go2 M.1.1 27 [(.iconst 0, 1)] (28, [(0, z_r 0), (1, .inl p1), (2, .inl p2), (3, .inl p3)], [.inl 0], zW T' (zwG G' 9) S10 n, 0, 0) (by decide +kernel) rfl ⟨trivial, trivial⟩ ?_
        refine z_callSX M.1.1 (av := [.inl 0]) (st := []) (by decide +kernel) (c_mustExist T' (zwG G' 9) S10 n 0) M.1.2.1 zl_T_104 (z_wi 698 (by decide +kernel) rfl) zs_T_mustExist ⟨by decide, by decide, by decide, by decide⟩ rfl (Nat.le_of_ble_eq_true rfl) (fun E w' hx => ?_) (fun v w' hv => ?_)
        · obtain ⟨h0, rfl, n2, hn2, rfl⟩ := hx
          exact M.2 _ _ (hX _ _ n2 _ hn2 K) (Nat.le_of_ble_eq_true rfl) (Nat.le_of_ble_eq_true rfl)
        · obtain ⟨h0, rfl, rfl⟩ := hv
          exact absurd rfl h0
      · rw [if_neg c20] at K hs
        refine z_go2 M.1.1 23 [(.iconst 1, 1), (.goto 4, 3)] (28, [(0, z_r 0), (1, .inl p1), (2, .inl p2), (3, .inl p3)], [.inl 1], zW T' (zwG G' 9) S10 n, 0, 0) (by decide +kernel) rfl ⟨trivial, trivial, trivial⟩ ?_
        refine z_callSX M.1.1 (av := [.inl 1]) (st := []) (by decide +kernel) (c_mustExist T' (zwG G' 9) S10 n 1) M.1.2.1 zl_T_104 (z_wi 698 (by decide +kernel) rfl) zs_T_mustExist ⟨by decide, by decide, by decide, by decide⟩ rfl (Nat.le_of_ble_eq_true rfl) (fun E w' hx => ?_) (fun v w' hv => ?_)
        · obtain ⟨h0, rfl, n2, hn2, rfl⟩ := hx
          exact absurd h0 (by decide)
        · obtain ⟨h0, rfl, rfl⟩ := hv
          show z_G X zm_T_transfer (31, [(0, z_r 0), (1, .inl p1), (2, .inl p2), (3, .inl p3)], [], zW T' (zwG G' 9) S10 n, 1, 6)
          refine z_go2 M.1.1 31 [(.aload_n 0, 1), (.getfield 19, 3), (.iload_n 2, 1), (.bipush 8, 2)] (38, [(0, z_r 0), (1, .inl p1), (2, .inl p2), (3, .inl p3)], [.inl 8, .inl p2, z_r 9], zW T' (zwG G' 9) S10 n, 1, 6) (by decide +kernel) rfl ⟨trivial, rfl, trivial, trivial, trivial⟩ ?_
          refine z_callV M.1.1 (av := [.inl p2, .inl 8]) (st := []) (a := 9) (ci := 10) (by decide +kernel) (c_World_cell_9 T' (zwG G' 9) S10 n p2 8 hs.1) M.1.2.1 zl_T_207 zv_World_cell rfl rfl rfl ⟨by decide, by decide, by decide, by decide⟩ rfl (Nat.le_of_ble_eq_true rfl) (fun v w' hv => ?_)
          obtain ⟨rfl, rfl⟩ := hv
          replace hs := hs.2
          show z_G X zm_T_transfer (41, [(0, z_r 0), (1, .inl p1), (2, .inl p2), (3, .inl p3)], [.inl (F_World_cell 9 S10 p2 8)], zW T' (zwG G' 9) S10 n, 1, 6)
          refine z_go2 M.1.1 41 [(.iload_n 3, 1)] (42, [(0, z_r 0), (1, .inl p1), (2, .inl p2), (3, .inl p3)], [.inl p3, .inl (F_World_cell 9 S10 p2 8)], zW T' (zwG G' 9) S10 n, 1, 6) (by decide +kernel) rfl ⟨trivial, trivial⟩ ?_
          refine z_icmp_eq 49 M.1.1 (off := 7) (by decide +kernel) (by decide) (fun c42 => ?_) (fun c42 => ?_)
          · rw [if_pos c42] at K hs
            refine z_go2 M.1.1 49 [(.iconst 0, 1)] (50, [(0, z_r 0), (1, .inl p1), (2, .inl p2), (3, .inl p3)], [.inl 0], zW T' (zwG G' 9) S10 n, 1, 6) (by decide +kernel) rfl ⟨trivial, trivial⟩ ?_
            refine z_callSX M.1.1 (av := [.inl 0]) (st := []) (by decide +kernel) (c_mustFit T' (zwG G' 9) S10 n 0) M.1.2.1 zl_T_111 (z_wi 772 (by decide +kernel) rfl) zs_T_mustFit ⟨by decide, by decide, by decide, by decide⟩ rfl (Nat.le_of_ble_eq_true rfl) (fun E w' hx => ?_) (fun v w' hv => ?_)
            · obtain ⟨h0, rfl, n2, hn2, rfl⟩ := hx
              exact M.2 _ _ (hX _ _ n2 _ hn2 K) (Nat.le_of_ble_eq_true rfl) (Nat.le_of_ble_eq_true rfl)
            · obtain ⟨h0, rfl, rfl⟩ := hv
              exact absurd rfl h0
          · rw [if_neg c42] at K hs
            refine z_go2 M.1.1 45 [(.iconst 1, 1), (.goto 4, 3)] (50, [(0, z_r 0), (1, .inl p1), (2, .inl p2), (3, .inl p3)], [.inl 1], zW T' (zwG G' 9) S10 n, 1, 6) (by decide +kernel) rfl ⟨trivial, trivial, trivial⟩ ?_
            refine z_callSX M.1.1 (av := [.inl 1]) (st := []) (by decide +kernel) (c_mustFit T' (zwG G' 9) S10 n 1) M.1.2.1 zl_T_111 (z_wi 772 (by decide +kernel) rfl) zs_T_mustFit ⟨by decide, by decide, by decide, by decide⟩ rfl (Nat.le_of_ble_eq_true rfl) (fun E w' hx => ?_) (fun v w' hv => ?_)
            · obtain ⟨h0, rfl, n2, hn2, rfl⟩ := hx
              exact absurd h0 (by decide)
            · obtain ⟨h0, rfl, rfl⟩ := hv
              show z_G X zm_T_transfer (53, [(0, z_r 0), (1, .inl p1), (2, .inl p2), (3, .inl p3)], [], zW T' (zwG G' 9) S10 n, 2, 12)
              refine z_go2 M.1.1 53 [(.aload_n 0, 1), (.getfield 47, 3), (.iload_n 2, 1)] (58, [(0, z_r 0), (1, .inl p1), (2, .inl p2), (3, .inl p3)], [.inl p2, z_r 36], zW T' (zwG G' 9) S10 n, 2, 12) (by decide +kernel) rfl ⟨trivial, rfl, trivial, trivial⟩ ?_
              refine z_callV M.1.1 (av := [.inl p2]) (st := []) (a := 36) (ci := 8) (by decide +kernel) (c_Sight_canEdit T' (zwG G' 9) S10 n p2 hs.1) M.1.2.1 zl_T_251 zv_Sight_canEdit rfl rfl rfl ⟨by decide, by decide, by decide, by decide⟩ rfl (Nat.le_of_ble_eq_true rfl) (fun v w' hv => ?_)
              obtain ⟨rfl, rfl⟩ := hv
              replace hs := hs.2
              show z_G X zm_T_transfer (61, [(0, z_r 0), (1, .inl p1), (2, .inl p2), (3, .inl p3)], [.inl (F_Sight_canEdit S10 p2)], zW T' (zwG G' 9) S10 n, 2, 12)
              refine z_if_eq 77 M.1.1 (off := 16) (by decide +kernel) (by decide) (fun c61 => ?_) (fun c61 => ?_)
              · rw [if_pos c61] at K hs
                refine z_go2 M.1.1 77 [(.iconst 0, 1)] (78, [(0, z_r 0), (1, .inl p1), (2, .inl p2), (3, .inl p3)], [.inl 0], zW T' (zwG G' 9) S10 n, 2, 12) (by decide +kernel) rfl ⟨trivial, trivial⟩ ?_
                refine z_callSX M.1.1 (av := [.inl 0]) (st := []) (by decide +kernel) (c_mustBeAllowed T' (zwG G' 9) S10 n 0) M.1.2.1 zl_T_128 (z_wi 847 (by decide +kernel) rfl) zs_T_mustBeAllowed ⟨by decide, by decide, by decide, by decide⟩ rfl (Nat.le_of_ble_eq_true rfl) (fun E w' hx => ?_) (fun v w' hv => ?_)
                · obtain ⟨h0, rfl, n2, hn2, rfl⟩ := hx
                  exact M.2 _ _ (hX _ _ n2 _ hn2 K) (Nat.le_of_ble_eq_true rfl) (Nat.le_of_ble_eq_true rfl)
                · obtain ⟨h0, rfl, rfl⟩ := hv
                  exact absurd rfl h0
              · rw [if_neg c61] at K hs
                refine z_go2 M.1.1 64 [(.aload_n 0, 1), (.iload_n 1, 1), (.iload_n 3, 1)] (67, [(0, z_r 0), (1, .inl p1), (2, .inl p2), (3, .inl p3)], [.inl p3, .inl p1, z_r 0], zW T' (zwG G' 9) S10 n, 2, 12) (by decide +kernel) rfl ⟨trivial, trivial, trivial, trivial⟩ ?_
                refine z_callV M.1.1 (av := [.inl p1, .inl p3]) (st := []) (a := 0) (ci := 11) (by decide +kernel) (c_T_canEditIn T' (zwG G' 9) S10 n p1 p3) M.1.2.1 zl_T_225 zv_T_canEditIn rfl rfl rfl ⟨by decide, by decide, by decide, by decide⟩ rfl (Nat.le_of_ble_eq_true rfl) (fun v w' hv => ?_)
                obtain ⟨rfl, rfl⟩ := hv
                show z_G X zm_T_transfer (70, [(0, z_r 0), (1, .inl p1), (2, .inl p2), (3, .inl p3)], [.inl (F_T_canEditIn S10 p1 p3)], zW T' (zwG G' 9) S10 n, 2, 12)
                refine z_if_eq 77 M.1.1 (off := 7) (by decide +kernel) (by decide) (fun c70 => ?_) (fun c70 => ?_)
                · rw [if_pos c70] at K hs
                  refine z_go2 M.1.1 77 [(.iconst 0, 1)] (78, [(0, z_r 0), (1, .inl p1), (2, .inl p2), (3, .inl p3)], [.inl 0], zW T' (zwG G' 9) S10 n, 2, 12) (by decide +kernel) rfl ⟨trivial, trivial⟩ ?_
                  refine z_callSX M.1.1 (av := [.inl 0]) (st := []) (by decide +kernel) (c_mustBeAllowed T' (zwG G' 9) S10 n 0) M.1.2.1 zl_T_128 (z_wi 847 (by decide +kernel) rfl) zs_T_mustBeAllowed ⟨by decide, by decide, by decide, by decide⟩ rfl (Nat.le_of_ble_eq_true rfl) (fun E w' hx => ?_) (fun v w' hv => ?_)
                  · obtain ⟨h0, rfl, n2, hn2, rfl⟩ := hx
                    exact M.2 _ _ (hX _ _ n2 _ hn2 K) (Nat.le_of_ble_eq_true rfl) (Nat.le_of_ble_eq_true rfl)
                  · obtain ⟨h0, rfl, rfl⟩ := hv
                    exact absurd rfl h0
                · rw [if_neg c70] at K hs
                  refine z_go2 M.1.1 73 [(.iconst 1, 1), (.goto 4, 3)] (78, [(0, z_r 0), (1, .inl p1), (2, .inl p2), (3, .inl p3)], [.inl 1], zW T' (zwG G' 9) S10 n, 2, 12) (by decide +kernel) rfl ⟨trivial, trivial, trivial⟩ ?_
                  refine z_callSX M.1.1 (av := [.inl 1]) (st := []) (by decide +kernel) (c_mustBeAllowed T' (zwG G' 9) S10 n 1) M.1.2.1 zl_T_128 (z_wi 847 (by decide +kernel) rfl) zs_T_mustBeAllowed ⟨by decide, by decide, by decide, by decide⟩ rfl (Nat.le_of_ble_eq_true rfl) (fun E w' hx => ?_) (fun v w' hv => ?_)
                  · obtain ⟨h0, rfl, n2, hn2, rfl⟩ := hx
                    exact absurd h0 (by decide)
                  · obtain ⟨h0, rfl, rfl⟩ := hv
                    show z_G X zm_T_transfer (81, [(0, z_r 0), (1, .inl p1), (2, .inl p2), (3, .inl p3)], [], zW T' (zwG G' 9) S10 n, 3, 18)
                    refine z_go2 M.1.1 81 [(.aload_n 0, 1), (.getfield 19, 3), (.iload_n 2, 1), (.iconst 4, 1)] (87, [(0, z_r 0), (1, .inl p1), (2, .inl p2), (3, .inl p3)], [.inl 4, .inl p2, z_r 9], zW T' (zwG G' 9) S10 n, 3, 18) (by decide +kernel) rfl ⟨trivial, rfl, trivial, trivial, trivial⟩ ?_
                    refine z_callV M.1.1 (av := [.inl p2, .inl 4]) (st := []) (a := 9) (ci := 10) (by decide +kernel) (c_World_cell_9 T' (zwG G' 9) S10 n p2 4 hs.1) M.1.2.1 zl_T_207 zv_World_cell rfl rfl rfl ⟨by decide, by decide, by decide, by decide⟩ rfl (Nat.le_of_ble_eq_true rfl) (fun v w' hv => ?_)
                    obtain ⟨rfl, rfl⟩ := hv
                    replace hs := hs.2
                    show z_G X zm_T_transfer (90, [(0, z_r 0), (1, .inl p1), (2, .inl p2), (3, .inl p3)], [.inl (F_World_cell 9 S10 p2 4)], zW T' (zwG G' 9) S10 n, 3, 18)
                    refine z_go2 M.1.1 90 [(.istore 4, 2), (.aload_n 0, 1), (.getfield 12, 3), (.getfield 118, 3), (.istore 5, 2), (.aload_n 0, 1), (.iload_n 1, 1), (.iload_n 2, 1), (.bipush 6, 2), (.iconst 0, 1), (.iconst 0, 1)] (108, [(5, .inl (S10 1 7)), (4, .inl (F_World_cell 9 S10 p2 4)), (0, z_r 0), (1, .inl p1), (2, .inl p2), (3, .inl p3)], [.inl 0, .inl 0, .inl 6, .inl p2, .inl p1, z_r 0], zW T' (zwG G' 9) S10 n, 3, 18) (by decide +kernel) rfl ⟨trivial, trivial, rfl, rfl, trivial, trivial, trivial, trivial, trivial, trivial, trivial, trivial⟩ ?_
                    refine z_callV M.1.1 (av := [.inl p1, .inl p2, .inl 6, .inl 0, .inl 0]) (st := []) (a := 0) (ci := 11) (by decide +kernel) (c_T_change T' (zwG G' 9) S10 n p1 p2 6 0 0 hs.1) M.1.2.1 zl_T_121 zv_T_change rfl rfl rfl ⟨by decide, by decide, by decide, by decide⟩ rfl (Nat.le_of_ble_eq_true rfl) (fun v w' hv => ?_)
                    replace hs := hs.2
                    obtain ⟨S108, hF108⟩ : ∃ y, F_T_change S10 p1 p2 6 0 0 = y := ⟨_, rfl⟩
                    rw [hF108] at K hv
                    try rw [hF108] at hs
                    try dsimp only [z_let] at K hs
                    obtain ⟨rfl, rfl⟩ := hv
                    show z_G X zm_T_transfer (111, [(5, .inl (S10 1 7)), (4, .inl (F_World_cell 9 S10 p2 4)), (0, z_r 0), (1, .inl p1), (2, .inl p2), (3, .inl p3)], [], zW T' (zwG G' 9) S108 n, 3, 18)
                    refine z_go2 M.1.1 111 [(.aload_n 0, 1), (.iload_n 1, 1), (.iload_n 2, 1), (.bipush 7, 2), (.iconst 0, 1), (.iconst (-1), 1)] (118, [(5, .inl (S10 1 7)), (4, .inl (F_World_cell 9 S10 p2 4)), (0, z_r 0), (1, .inl p1), (2, .inl p2), (3, .inl p3)], [.inl (-1), .inl 0, .inl 7, .inl p2, .inl p1, z_r 0], zW T' (zwG G' 9) S108 n, 3, 18) (by decide +kernel) rfl ⟨trivial, trivial, trivial, trivial, trivial, trivial, trivial⟩ ?_
                    refine z_callV M.1.1 (av := [.inl p1, .inl p2, .inl 7, .inl 0, .inl (-1)]) (st := []) (a := 0) (ci := 11) (by decide +kernel) (c_T_change T' (zwG G' 9) S108 n p1 p2 7 0 (-1) hs.1) M.1.2.1 zl_T_121 zv_T_change rfl rfl rfl ⟨by decide, by decide, by decide, by decide⟩ rfl (Nat.le_of_ble_eq_true rfl) (fun v w' hv => ?_)
                    replace hs := hs.2
                    obtain ⟨S118, hF118⟩ : ∃ y, F_T_change S108 p1 p2 7 0 (-1) = y := ⟨_, rfl⟩
                    rw [hF118] at K hv
                    try rw [hF118] at hs
                    try dsimp only [z_let] at K hs
                    obtain ⟨rfl, rfl⟩ := hv
                    show z_G X zm_T_transfer (121, [(5, .inl (S10 1 7)), (4, .inl (F_World_cell 9 S10 p2 4)), (0, z_r 0), (1, .inl p1), (2, .inl p2), (3, .inl p3)], [], zW T' (zwG G' 9) S118 n, 3, 18)
                    refine z_go2 M.1.1 121 [(.iload 4, 2)] (123, [(5, .inl (S10 1 7)), (4, .inl (F_World_cell 9 S10 p2 4)), (0, z_r 0), (1, .inl p1), (2, .inl p2), (3, .inl p3)], [.inl (F_World_cell 9 S10 p2 4)], zW T' (zwG G' 9) S118 n, 3, 18) (by decide +kernel) rfl ⟨trivial, trivial⟩ ?_
                    refine z_callS M.1.1 (av := [.inl (F_World_cell 9 S10 p2 4)]) (st := []) (by decide +kernel) (c_T_isPerson T' (zwG G' 9) S118 n (F_World_cell 9 S10 p2 4)) M.1.2.1 zl_T_97 zs_T_isPerson ⟨by decide, by decide, by decide, by decide⟩ rfl (Nat.le_of_ble_eq_true rfl) (fun v w' hv => ?_)
                    obtain ⟨rfl, rfl⟩ := hv
                    show z_G X zm_T_transfer (126, [(5, .inl (S10 1 7)), (4, .inl (F_World_cell 9 S10 p2 4)), (0, z_r 0), (1, .inl p1), (2, .inl p2), (3, .inl p3)], [.inl (F_T_isPerson S118 (F_World_cell 9 S10 p2 4))], zW T' (zwG G' 9) S118 n, 3, 18)
                    refine z_if_eq 163 M.1.1 (off := 37) (by decide +kernel) (by decide) (fun c126 => ?_) (fun c126 => ?_)
                    · rw [if_pos c126] at K hs
                      exact z_lvs (lv' := [(0, z_r 0), (1, .inl p1), (2, .inl p2), (3, .inl p3), (5, .inl (S10 1 7))]) [2, 3, 4, 5, 0] rfl (t_T_transfer_j163 M (q0 := q0) S118 p1 p2 p3 (S10 1 7) hQ hX K hs)
                    · rw [if_neg c126] at K hs
                      refine z_go2 M.1.1 129 [(.aload_n 0, 1), (.getfield 19, 3), (.iload 4, 2), (.iload_n 3, 1)] (136, [(5, .inl (S10 1 7)), (4, .inl (F_World_cell 9 S10 p2 4)), (0, z_r 0), (1, .inl p1), (2, .inl p2), (3, .inl p3)], [.inl p3, .inl (F_World_cell 9 S10 p2 4), z_r 9], zW T' (zwG G' 9) S118 n, 3, 18) (by decide +kernel) rfl ⟨trivial, rfl, trivial, trivial, trivial⟩ ?_
                      refine z_callV M.1.1 (av := [.inl (F_World_cell 9 S10 p2 4), .inl p3]) (st := []) (a := 9) (ci := 10) (by decide +kernel) (c_World_rolesOf_9 T' (zwG G' 9) S118 n (F_World_cell 9 S10 p2 4) p3) M.1.2.1 zl_T_114 zv_World_rolesOf rfl rfl rfl ⟨by decide, by decide, by decide, by decide⟩ rfl (Nat.le_of_ble_eq_true rfl) (fun v w' hv => ?_)
                      obtain ⟨rfl, rfl⟩ := hv
                      show z_G X zm_T_transfer (139, [(5, .inl (S10 1 7)), (4, .inl (F_World_cell 9 S10 p2 4)), (0, z_r 0), (1, .inl p1), (2, .inl p2), (3, .inl p3)], [.inl (F_World_rolesOf 9 S118 (F_World_cell 9 S10 p2 4) p3)], zW T' (zwG G' 9) S118 n, 3, 18)
                      refine z_go2 M.1.1 139 [(.aload_n 0, 1), (.getfield 47, 3), (.getfield 131, 3), (.iload_n 3, 1)] (147, [(5, .inl (S10 1 7)), (4, .inl (F_World_cell 9 S10 p2 4)), (0, z_r 0), (1, .inl p1), (2, .inl p2), (3, .inl p3)], [.inl p3, z_r 37, .inl (F_World_rolesOf 9 S118 (F_World_cell 9 S10 p2 4) p3)], zW T' (zwG G' 9) S118 n, 3, 18) (by decide +kernel) rfl ⟨trivial, rfl, rfl, trivial, trivial⟩ ?_
                      refine z_callS M.1.1 (av := [z_r 37, .inl p3]) (st := [.inl (F_World_rolesOf 9 S118 (F_World_cell 9 S10 p2 4) p3)]) (by decide +kernel) (c_at (zW T' (zwG G' 9) S118 n) 37 3 rfl (by decide) p3) M.1.2.1 zl_T_134 zs_T_at ⟨by decide, by decide, by decide, by decide⟩ rfl (Nat.le_of_ble_eq_true rfl) (fun v w' hv => ?_)
                      obtain ⟨rfl, rfl⟩ := hv
                      show z_G X zm_T_transfer (150, [(5, .inl (S10 1 7)), (4, .inl (F_World_cell 9 S10 p2 4)), (0, z_r 0), (1, .inl p1), (2, .inl p2), (3, .inl p3)], [.inl (zAt (S118 37) 3 p3), .inl (F_World_rolesOf 9 S118 (F_World_cell 9 S10 p2 4) p3)], zW T' (zwG G' 9) S118 n, 3, 18)
                      refine z_go2 M.1.1 150 [(.iand, 1)] (151, [(5, .inl (S10 1 7)), (4, .inl (F_World_cell 9 S10 p2 4)), (0, z_r 0), (1, .inl p1), (2, .inl p2), (3, .inl p3)], [.inl ((F_World_rolesOf 9 S118 (F_World_cell 9 S10 p2 4) p3) &&& (zAt (S118 37) 3 p3))], zW T' (zwG G' 9) S118 n, 3, 18) (by decide +kernel) rfl ⟨trivial, trivial⟩ ?_
                      refine z_if_ne 163 M.1.1 (off := 12) (by decide +kernel) (by decide) (fun c151 => ?_) (fun c151 => ?_)
                      · rw [if_neg c151] at K hs
                        exact z_lvs (lv' := [(0, z_r 0), (1, .inl p1), (2, .inl p2), (3, .inl p3), (5, .inl (S10 1 7))]) [2, 3, 4, 5, 0] rfl (t_T_transfer_j163 M (q0 := q0) S118 p1 p2 p3 (S10 1 7) hQ hX K hs)
                      · rw [if_pos c151] at K hs
                        refine z_go2 M.1.1 154 [(.aload_n 0, 1), (.iload_n 1, 1), (.iload_n 2, 1), (.iconst 4, 1), (.iconst 0, 1), (.iconst (-1), 1)] (160, [(5, .inl (S10 1 7)), (4, .inl (F_World_cell 9 S10 p2 4)), (0, z_r 0), (1, .inl p1), (2, .inl p2), (3, .inl p3)], [.inl (-1), .inl 0, .inl 4, .inl p2, .inl p1, z_r 0], zW T' (zwG G' 9) S118 n, 3, 18) (by decide +kernel) rfl ⟨trivial, trivial, trivial, trivial, trivial, trivial, trivial⟩ ?_
                        refine z_callV M.1.1 (av := [.inl p1, .inl p2, .inl 4, .inl 0, .inl (-1)]) (st := []) (a := 0) (ci := 11) (by decide +kernel) (c_T_change T' (zwG G' 9) S118 n p1 p2 4 0 (-1) hs.1) M.1.2.1 zl_T_121 zv_T_change rfl rfl rfl ⟨by decide, by decide, by decide, by decide⟩ rfl (Nat.le_of_ble_eq_true rfl) (fun v w' hv => ?_)
                        replace hs := hs.2
                        obtain ⟨S160, hF160⟩ : ∃ y, F_T_change S118 p1 p2 4 0 (-1) = y := ⟨_, rfl⟩
                        rw [hF160] at K hv
                        try rw [hF160] at hs
                        try dsimp only [z_let] at K hs
                        obtain ⟨rfl, rfl⟩ := hv
                        show z_G X zm_T_transfer (163, [(5, .inl (S10 1 7)), (4, .inl (F_World_cell 9 S10 p2 4)), (0, z_r 0), (1, .inl p1), (2, .inl p2), (3, .inl p3)], [], zW T' (zwG G' 9) S160 n, 3, 18)
                        refine z_go2 M.1.1 163 [(.aload_n 0, 1), (.iload_n 1, 1), (.iload_n 2, 1), (.bipush 8, 2), (.iconst 0, 1), (.iload_n 3, 1)] (170, [(5, .inl (S10 1 7)), (4, .inl (F_World_cell 9 S10 p2 4)), (0, z_r 0), (1, .inl p1), (2, .inl p2), (3, .inl p3)], [.inl p3, .inl 0, .inl 8, .inl p2, .inl p1, z_r 0], zW T' (zwG G' 9) S160 n, 3, 18) (by decide +kernel) rfl ⟨trivial, trivial, trivial, trivial, trivial, trivial, trivial⟩ ?_
                        refine z_callV M.1.1 (av := [.inl p1, .inl p2, .inl 8, .inl 0, .inl p3]) (st := []) (a := 0) (ci := 11) (by decide +kernel) (c_T_change T' (zwG G' 9) S160 n p1 p2 8 0 p3 hs.1) M.1.2.1 zl_T_121 zv_T_change rfl rfl rfl ⟨by decide, by decide, by decide, by decide⟩ rfl (Nat.le_of_ble_eq_true rfl) (fun v w' hv => ?_)
                        replace hs := hs.2
                        obtain ⟨S170, hF170⟩ : ∃ y, F_T_change S160 p1 p2 8 0 p3 = y := ⟨_, rfl⟩
                        rw [hF170] at K hv
                        try rw [hF170] at hs
                        try dsimp only [z_let] at K hs
                        obtain ⟨rfl, rfl⟩ := hv
                        show z_G X zm_T_transfer (173, [(5, .inl (S10 1 7)), (4, .inl (F_World_cell 9 S10 p2 4)), (0, z_r 0), (1, .inl p1), (2, .inl p2), (3, .inl p3)], [], zW T' (zwG G' 9) S170 n, 3, 18)
                        refine z_go2 M.1.1 173 [(.aload_n 0, 1), (.getfield 12, 3), (.getfield 118, 3), (.iload 5, 2), (.isub, 1), (.istore 6, 2), (.aload_n 0, 1), (.iload 5, 2)] (188, [(6, .inl ((S170 1 7) - (S10 1 7))), (5, .inl (S10 1 7)), (4, .inl (F_World_cell 9 S10 p2 4)), (0, z_r 0), (1, .inl p1), (2, .inl p2), (3, .inl p3)], [.inl (S10 1 7), z_r 0], zW T' (zwG G' 9) S170 n, 3, 18) (by decide +kernel) rfl ⟨trivial, rfl, rfl, trivial, trivial, trivial, trivial, trivial, trivial⟩ ?_
                        refine z_callV M.1.1 (av := [.inl (S10 1 7)]) (st := []) (a := 0) (ci := 11) (by decide +kernel) (c_T_isWithinLimit T' (zwG G' 9) S170 n (S10 1 7) hs.1) M.1.2.1 zl_T_125 zv_T_isWithinLimit rfl rfl rfl ⟨by decide, by decide, by decide, by decide⟩ rfl (Nat.le_of_ble_eq_true rfl) (fun v w' hv => ?_)
                        replace hs := hs.2
                        rcases hF188 : F_T_isWithinLimit S170 (S10 1 7) with ⟨r188, S188⟩
                        rw [hF188] at K hv
                        try dsimp only at K
                        obtain ⟨rfl, rfl⟩ := hv
                        show z_G X zm_T_transfer (191, [(6, .inl ((S170 1 7) - (S10 1 7))), (5, .inl (S10 1 7)), (4, .inl (F_World_cell 9 S10 p2 4)), (0, z_r 0), (1, .inl p1), (2, .inl p2), (3, .inl p3)], [.inl r188], zW T' (zwG G' 9) S188 n, 3, 18)
                        refine z_callSX M.1.1 (av := [.inl r188]) (st := []) (by decide +kernel) (c_mustBeAllowed T' (zwG G' 9) S188 n r188) M.1.2.1 zl_T_128 (z_wi 847 (by decide +kernel) rfl) zs_T_mustBeAllowed ⟨by decide, by decide, by decide, by decide⟩ rfl (Nat.le_of_ble_eq_true rfl) (fun E w' hx => ?_) (fun v w' hv => ?_)
                        · obtain ⟨h0, rfl, n2, hn2, rfl⟩ := hx
                          rw [if_pos h0] at K
                          exact M.2 _ _ (hX _ _ n2 _ hn2 K) (Nat.le_of_ble_eq_true rfl) (Nat.le_of_ble_eq_true rfl)
                        · obtain ⟨h0, rfl, rfl⟩ := hv
                          rw [if_neg h0] at K
                          show z_G X zm_T_transfer (194, [(6, .inl ((S170 1 7) - (S10 1 7))), (5, .inl (S10 1 7)), (4, .inl (F_World_cell 9 S10 p2 4)), (0, z_r 0), (1, .inl p1), (2, .inl p2), (3, .inl p3)], [], zW T' (zwG G' 9) S188 n, 4, 24)
                          refine z_go2 M.1.1 194 [(.iload 6, 2)] (196, [(6, .inl ((S170 1 7) - (S10 1 7))), (5, .inl (S10 1 7)), (4, .inl (F_World_cell 9 S10 p2 4)), (0, z_r 0), (1, .inl p1), (2, .inl p2), (3, .inl p3)], [.inl ((S170 1 7) - (S10 1 7))], zW T' (zwG G' 9) S188 n, 4, 24) (by decide +kernel) rfl ⟨trivial, trivial⟩ ?_
                          exact z_iret M.1 (by decide +kernel) .int rfl rfl (by decide) (by decide) (hQ _ _ _ K)

-- TrackHouse.sprint
abbrev rm_T_sprint : Room := zx 8 4
def F_T_sprint_j36 (S : (Nat → Nat → Int32)) (x1 : Int32) (x2 : Int32) (x3 : Int32) : ((String ⊕ Int32) × (Nat → Nat → Int32)) := (match F_T_setCell S x1 x2 7 x3 with | (.inl e, S50) => (.inl e, S50) | (.inr r50, S50) => (.inr r50, S50))
def Sf_T_sprint_j36 (S : (Nat → Nat → Int32)) (x1 : Int32) (x2 : Int32) (x3 : Int32) : Prop := (Sf_T_setCell S x1 x2 7 x3 ∧ True)
theorem t_T_sprint_j36 {X : z_X} {Post : Option z_V → z_W → Prop} {PX : String → z_W → Prop} (M : z_MX X zm_T_sprint rm_T_sprint Post PX) {T' : Nat → Nat × Nat} {G' : Nat → Nat → Option Nat} {n : Nat} {q0 : Nat} {Q : ((String ⊕ Int32) × (Nat → Nat → Int32)) → Prop} (S : (Nat → Nat → Int32)) (x1 : Int32) (x2 : Int32) (x3 : Int32) (hQ : ∀ v S' (q : Nat), Q (.inr v, S') → Post (some (.inl v)) (zW T' (zwG G' q) S' n)) (hX : ∀ E S' (n2 : Nat) (q : Nat), n ≤ n2 → Q (.inl E, S') → PX E (zW T' (zwG G' q) S' n2)) (K : Q (F_T_sprint_j36 S x1 x2 x3)) (hs : Sf_T_sprint_j36 S x1 x2 x3) : z_G X zm_T_sprint (36, [(0, z_r 0), (1, .inl x1), (2, .inl x2), (3, .inl x3)], [], zW T' (zwG G' 9) S n, 1, 6) := by
  unfold F_T_sprint_j36 at K
  unfold Sf_T_sprint_j36 at hs
  refine z_go2 M.1.1 36 [(.iconst 1, 1), (.goto 4, 3)] (41, [(0, z_r 0), (1, .inl x1), (2, .inl x2), (3, .inl x3)], [.inl 1], zW T' (zwG G' 9) S n, 1, 6) (by decide +kernel) rfl ⟨trivial, trivial, trivial⟩ ?_
  refine z_callSX M.1.1 (av := [.inl 1]) (st := []) (by decide +kernel) (c_mustFit T' (zwG G' 9) S n 1) M.1.2.1 zl_T_111 (z_wi 772 (by decide +kernel) rfl) zs_T_mustFit ⟨by decide, by decide, by decide, by decide⟩ rfl (Nat.le_of_ble_eq_true rfl) (fun E w' hx => ?_) (fun v w' hv => ?_)
  · obtain ⟨h0, rfl, n2, hn2, rfl⟩ := hx
    exact absurd h0 (by decide)
  · obtain ⟨h0, rfl, rfl⟩ := hv
    show z_G X zm_T_sprint (44, [(0, z_r 0), (1, .inl x1), (2, .inl x2), (3, .inl x3)], [], zW T' (zwG G' 9) S n, 2, 12)
    refine z_go2 M.1.1 44 [(.aload_n 0, 1), (.iload_n 1, 1), (.iload_n 2, 1), (.bipush 7, 2), (.iload_n 3, 1)] (50, [(0, z_r 0), (1, .inl x1), (2, .inl x2), (3, .inl x3)], [.inl x3, .inl 7, .inl x2, .inl x1, z_r 0], zW T' (zwG G' 9) S n, 2, 12) (by decide +kernel) rfl ⟨trivial, trivial, trivial, trivial, trivial, trivial⟩ ?_
    refine z_callVX M.1.1 (av := [.inl x1, .inl x2, .inl 7, .inl x3]) (st := []) (a := 0) (ci := 11) (by decide +kernel) (c_T_setCell T' (zwG G' 9) S n x1 x2 7 x3 hs.1) M.1.2.1 zl_T_247 (z_wi 1160 (by decide +kernel) rfl) zv_T_setCell rfl rfl rfl ⟨by decide, by decide, by decide, by decide⟩ rfl (Nat.le_of_ble_eq_true rfl) (fun E w' hx => ?_) (fun v w' hv => ?_)
    · obtain ⟨S50, n2, hn2, h0, rfl⟩ := hx
      rw [h0] at K
      exact M.2 _ _ (hX _ _ n2 _ hn2 K) (Nat.le_of_ble_eq_true rfl) (Nat.le_of_ble_eq_true rfl)
    · obtain ⟨r50, S50, h0, rfl, rfl⟩ := hv
      replace hs := hs.2
      rw [h0] at K
      try dsimp only at K
      show z_G X zm_T_sprint (53, [(0, z_r 0), (1, .inl x1), (2, .inl x2), (3, .inl x3)], [.inl r50], zW T' (zwG G' 9) S50 n, 4, 24)
      exact z_iret M.1 (by decide +kernel) .int rfl rfl (by decide) (by decide) (hQ _ _ _ K)
def F_T_sprint (S : (Nat → Nat → Int32)) (p1 : Int32) (p2 : Int32) (p3 : Int32) : ((String ⊕ Int32) × (Nat → Nat → Int32)) := (if (F_T_isPerson S p1) = 0 then (.inl "java/lang/IndexOutOfBoundsException", S) else (match F_T_isSeen S p1 p2 with | (r10, S10) => (if r10 = 0 then (.inl "java/lang/IndexOutOfBoundsException", S10) else (if p3 = (-1) then (F_T_sprint_j36 S10 p1 p2 p3) else (if (F_T_isSprint S10 p3) = 0 then (.inl "java/lang/IllegalArgumentException", S10) else (F_T_sprint_j36 S10 p1 p2 p3))))))
def Sf_T_sprint (S : (Nat → Nat → Int32)) (p1 : Int32) (p2 : Int32) (p3 : Int32) : Prop := (if (F_T_isPerson S p1) = 0 then True else (Sf_T_isSeen S p1 p2 ∧ (match F_T_isSeen S p1 p2 with | (r10, S10) => (if r10 = 0 then True else (if p3 = (-1) then (Sf_T_sprint_j36 S10 p1 p2 p3) else (if (F_T_isSprint S10 p3) = 0 then True else (Sf_T_sprint_j36 S10 p1 p2 p3)))))))
theorem c_T_sprint (T' : Nat → Nat × Nat) (G' : Nat → Nat → Option Nat) (q0 : Nat) (S : (Nat → Nat → Int32)) (n : Nat) (p1 : Int32) (p2 : Int32) (p3 : Int32) (hs : Sf_T_sprint S p1 p2 p3) : z_RunX rm_T_sprint zm_T_sprint [z_r 0, .inl p1, .inl p2, .inl p3] (zW T' (zwG G' q0) S n) (fun v w' => ∃ x S' q, F_T_sprint S p1 p2 p3 = (.inr x, S') ∧ v = some (.inl x) ∧ w' = zW T' (zwG G' q) S' n) (fun E w' => ∃ S' n2 q, n ≤ n2 ∧ F_T_sprint S p1 p2 p3 = (.inl E, S') ∧ w' = zW T' (zwG G' q) S' n2) := by
  refine z_bodyX (by decide) zf_T_ok (Nat.le_of_ble_eq_true rfl) (fun X M => ?_)
  obtain ⟨Q, hQ, hX, K⟩ : ∃ Q : ((String ⊕ Int32) × (Nat → Nat → Int32)) → Prop, (∀ v S' q, Q (.inr v, S') → ∃ x S'' q2, F_T_sprint S p1 p2 p3 = (.inr x, S'') ∧ some (.inl v : z_V) = some (.inl x) ∧ zW T' (zwG G' q) S' n = zW T' (zwG G' q2) S'' n) ∧ (∀ E S' (n2 : Nat) q, n ≤ n2 → Q (.inl E, S') → ∃ S'' n3 q2, n ≤ n3 ∧ F_T_sprint S p1 p2 p3 = (.inl E, S'') ∧ zW T' (zwG G' q) S' n2 = zW T' (zwG G' q2) S'' n3) ∧ Q (F_T_sprint S p1 p2 p3) := ⟨fun o => F_T_sprint S p1 p2 p3 = o, fun v S' q h => ⟨v, S', q, h, rfl, rfl⟩, fun E S' n2 q hn h => ⟨S', n2, q, hn, h, rfl⟩, rfl⟩
  show z_G X zm_T_sprint (0, [(0, z_r 0), (1, .inl p1), (2, .inl p2), (3, .inl p3)], [], zW T' (zwG G' q0) S n, 0, 0)
  unfold F_T_sprint at K
  unfold Sf_T_sprint at hs
  refine z_go2 M.1.1 0 [(.iload_n 1, 1)] (1, [(0, z_r 0), (1, .inl p1), (2, .inl p2), (3, .inl p3)], [.inl p1], zW T' (zwG G' q0) S n, 0, 0) (by decide +kernel) rfl ⟨trivial, trivial⟩ ?_
  refine z_callS M.1.1 (av := [.inl p1]) (st := []) (by decide +kernel) (c_T_isPerson T' (zwG G' q0) S n p1) M.1.2.1 zl_T_97 zs_T_isPerson ⟨by decide, by decide, by decide, by decide⟩ rfl (Nat.le_of_ble_eq_true rfl) (fun v w' hv => ?_)
  obtain ⟨rfl, rfl⟩ := hv
  show z_G X zm_T_sprint (4, [(0, z_r 0), (1, .inl p1), (2, .inl p2), (3, .inl p3)], [.inl (F_T_isPerson S p1)], zW T' (zwG G' q0) S n, 0, 0)
  refine z_if_eq 20 M.1.1 (off := 16) (by decide +kernel) (by decide) (fun c4 => ?_) (fun c4 => ?_)
  · rw [if_pos c4] at K hs
    refine z_go2 M.1.1 20 [(.iconst 0, 1)] (21, [(0, z_r 0), (1, .inl p1), (2, .inl p2), (3, .inl p3)], [.inl 0], zW T' (zwG G' q0) S n, 0, 0) (by decide +kernel) rfl ⟨trivial, trivial⟩ ?_
    refine z_callSX M.1.1 (av := [.inl 0]) (st := []) (by decide +kernel) (c_mustExist T' (zwG G' q0) S n 0) M.1.2.1 zl_T_104 (z_wi 698 (by decide +kernel) rfl) zs_T_mustExist ⟨by decide, by decide, by decide, by decide⟩ rfl (Nat.le_of_ble_eq_true rfl) (fun E w' hx => ?_) (fun v w' hv => ?_)
    · obtain ⟨h0, rfl, n2, hn2, rfl⟩ := hx
      exact M.2 _ _ (hX _ _ n2 _ hn2 K) (Nat.le_of_ble_eq_true rfl) (Nat.le_of_ble_eq_true rfl)
    · obtain ⟨h0, rfl, rfl⟩ := hv
      exact absurd rfl h0
  · rw [if_neg c4] at K hs
    refine z_go2 M.1.1 7 [(.aload_n 0, 1), (.iload_n 1, 1), (.iload_n 2, 1)] (10, [(0, z_r 0), (1, .inl p1), (2, .inl p2), (3, .inl p3)], [.inl p2, .inl p1, z_r 0], zW T' (zwG G' q0) S n, 0, 0) (by decide +kernel) rfl ⟨trivial, trivial, trivial, trivial⟩ ?_
    refine z_callV M.1.1 (av := [.inl p1, .inl p2]) (st := []) (a := 0) (ci := 11) (by decide +kernel) (c_T_isSeen T' G' q0 S n p1 p2 hs.1) M.1.2.1 zl_T_238 zv_T_isSeen rfl rfl rfl ⟨by decide, by decide, by decide, by decide⟩ rfl (Nat.le_of_ble_eq_true rfl) (fun v w' hv => ?_)
    replace hs := hs.2
    rcases hF10 : F_T_isSeen S p1 p2 with ⟨r10, S10⟩
    rw [hF10] at K hv
    try rw [hF10] at hs
    try dsimp only at K hs
    obtain ⟨rfl, rfl⟩ := hv
    show z_G X zm_T_sprint (13, [(0, z_r 0), (1, .inl p1), (2, .inl p2), (3, .inl p3)], [.inl r10], zW T' (zwG G' 9) S10 n, 0, 0)
    refine z_if_eq 20 M.1.1 (off := 7) (by decide +kernel) (by decide) (fun c13 => ?_) (fun c13 => ?_)
    · rw [if_pos c13] at K hs
      refine z_go2 M.1.1 20 [(.iconst 0, 1)] (21, [(0, z_r 0), (1, .inl p1), (2, .inl p2), (3, .inl p3)], [.inl 0], zW T' (zwG G' 9) S10 n, 0, 0) (by decide +kernel) rfl ⟨trivial, trivial⟩ ?_
      refine z_callSX M.1.1 (av := [.inl 0]) (st := []) (by decide +kernel) (c_mustExist T' (zwG G' 9) S10 n 0) M.1.2.1 zl_T_104 (z_wi 698 (by decide +kernel) rfl) zs_T_mustExist ⟨by decide, by decide, by decide, by decide⟩ rfl (Nat.le_of_ble_eq_true rfl) (fun E w' hx => ?_) (fun v w' hv => ?_)
      · obtain ⟨h0, rfl, n2, hn2, rfl⟩ := hx
        exact M.2 _ _ (hX _ _ n2 _ hn2 K) (Nat.le_of_ble_eq_true rfl) (Nat.le_of_ble_eq_true rfl)
      · obtain ⟨h0, rfl, rfl⟩ := hv
        exact absurd rfl h0
    · rw [if_neg c13] at K hs
      refine z_go2 M.1.1 16 [(.iconst 1, 1), (.goto 4, 3)] (21, [(0, z_r 0), (1, .inl p1), (2, .inl p2), (3, .inl p3)], [.inl 1], zW T' (zwG G' 9) S10 n, 0, 0) (by decide +kernel) rfl ⟨trivial, trivial, trivial⟩ ?_
      refine z_callSX M.1.1 (av := [.inl 1]) (st := []) (by decide +kernel) (c_mustExist T' (zwG G' 9) S10 n 1) M.1.2.1 zl_T_104 (z_wi 698 (by decide +kernel) rfl) zs_T_mustExist ⟨by decide, by decide, by decide, by decide⟩ rfl (Nat.le_of_ble_eq_true rfl) (fun E w' hx => ?_) (fun v w' hv => ?_)
      · obtain ⟨h0, rfl, n2, hn2, rfl⟩ := hx
        exact absurd h0 (by decide)
      · obtain ⟨h0, rfl, rfl⟩ := hv
        show z_G X zm_T_sprint (24, [(0, z_r 0), (1, .inl p1), (2, .inl p2), (3, .inl p3)], [], zW T' (zwG G' 9) S10 n, 1, 6)
        refine z_go2 M.1.1 24 [(.iload_n 3, 1), (.iconst (-1), 1)] (26, [(0, z_r 0), (1, .inl p1), (2, .inl p2), (3, .inl p3)], [.inl (-1), .inl p3], zW T' (zwG G' 9) S10 n, 1, 6) (by decide +kernel) rfl ⟨trivial, trivial, trivial⟩ ?_
        refine z_icmp_eq 36 M.1.1 (off := 10) (by decide +kernel) (by decide) (fun c26 => ?_) (fun c26 => ?_)
        · rw [if_pos c26] at K hs
          exact z_lvs (lv' := [(0, z_r 0), (1, .inl p1), (2, .inl p2), (3, .inl p3)]) [0, 1, 2, 3] rfl (t_T_sprint_j36 M (q0 := q0) S10 p1 p2 p3 hQ hX K hs)
        · rw [if_neg c26] at K hs
          refine z_go2 M.1.1 29 [(.iload_n 3, 1)] (30, [(0, z_r 0), (1, .inl p1), (2, .inl p2), (3, .inl p3)], [.inl p3], zW T' (zwG G' 9) S10 n, 1, 6) (by decide +kernel) rfl ⟨trivial, trivial⟩ ?_
          refine z_callS M.1.1 (av := [.inl p3]) (st := []) (by decide +kernel) (c_T_isSprint T' (zwG G' 9) S10 n p3) M.1.2.1 zl_T_273 zs_T_isSprint ⟨by decide, by decide, by decide, by decide⟩ rfl (Nat.le_of_ble_eq_true rfl) (fun v w' hv => ?_)
          obtain ⟨rfl, rfl⟩ := hv
          show z_G X zm_T_sprint (33, [(0, z_r 0), (1, .inl p1), (2, .inl p2), (3, .inl p3)], [.inl (F_T_isSprint S10 p3)], zW T' (zwG G' 9) S10 n, 1, 6)
          refine z_if_eq 40 M.1.1 (off := 7) (by decide +kernel) (by decide) (fun c33 => ?_) (fun c33 => ?_)
          · rw [if_pos c33] at K hs
            refine z_go2 M.1.1 40 [(.iconst 0, 1)] (41, [(0, z_r 0), (1, .inl p1), (2, .inl p2), (3, .inl p3)], [.inl 0], zW T' (zwG G' 9) S10 n, 1, 6) (by decide +kernel) rfl ⟨trivial, trivial⟩ ?_
            refine z_callSX M.1.1 (av := [.inl 0]) (st := []) (by decide +kernel) (c_mustFit T' (zwG G' 9) S10 n 0) M.1.2.1 zl_T_111 (z_wi 772 (by decide +kernel) rfl) zs_T_mustFit ⟨by decide, by decide, by decide, by decide⟩ rfl (Nat.le_of_ble_eq_true rfl) (fun E w' hx => ?_) (fun v w' hv => ?_)
            · obtain ⟨h0, rfl, n2, hn2, rfl⟩ := hx
              exact M.2 _ _ (hX _ _ n2 _ hn2 K) (Nat.le_of_ble_eq_true rfl) (Nat.le_of_ble_eq_true rfl)
            · obtain ⟨h0, rfl, rfl⟩ := hv
              exact absurd rfl h0
          · rw [if_neg c33] at K hs
            exact z_lvs (lv' := [(0, z_r 0), (1, .inl p1), (2, .inl p2), (3, .inl p3)]) [0, 1, 2, 3] rfl (t_T_sprint_j36 M (q0 := q0) S10 p1 p2 p3 hQ hX K hs)

-- TrackHouse.drag
abbrev rm_T_drag : Room := zx 7 3
def F_T_drag (S : (Nat → Nat → Int32)) (p1 : Int32) (p2 : Int32) (p3 : Int32) : ((String ⊕ Int32) × (Nat → Nat → Int32)) := (if (F_T_isPerson S p1) = 0 then (.inl "java/lang/IndexOutOfBoundsException", S) else (match F_T_isSeen S p1 p2 with | (r10, S10) => (if r10 = 0 then (.inl "java/lang/IndexOutOfBoundsException", S10) else (if (F_Sight_sees S10 p3) = 0 then (.inl "java/lang/IndexOutOfBoundsException", S10) else (if p2 = p3 then (.inl "java/lang/IllegalArgumentException", S10) else (if (F_Sight_canEdit S10 p2) = 0 then (.inl "java/lang/IllegalStateException", S10) else (z_let (F_Ranks_bringAhead S10 p2 p3) (fun S65 => (.inr (zAt (S65 69) 30 p2), S65)))))))))
def Sf_T_drag (S : (Nat → Nat → Int32)) (p1 : Int32) (p2 : Int32) (p3 : Int32) : Prop := (if (F_T_isPerson S p1) = 0 then True else (Sf_T_isSeen S p1 p2 ∧ (match F_T_isSeen S p1 p2 with | (r10, S10) => (if r10 = 0 then True else (Sf_Sight_sees S10 p3 ∧ (if (F_Sight_sees S10 p3) = 0 then True else (if p2 = p3 then True else (Sf_Sight_canEdit S10 p2 ∧ (if (F_Sight_canEdit S10 p2) = 0 then True else (Sf_Ranks_bringAhead S10 p2 p3 ∧ True))))))))))
theorem c_T_drag (T' : Nat → Nat × Nat) (G' : Nat → Nat → Option Nat) (q0 : Nat) (S : (Nat → Nat → Int32)) (n : Nat) (p1 : Int32) (p2 : Int32) (p3 : Int32) (hs : Sf_T_drag S p1 p2 p3) : z_RunX rm_T_drag zm_T_drag [z_r 0, .inl p1, .inl p2, .inl p3] (zW T' (zwG G' q0) S n) (fun v w' => ∃ x S' q, F_T_drag S p1 p2 p3 = (.inr x, S') ∧ v = some (.inl x) ∧ w' = zW T' (zwG G' q) S' n) (fun E w' => ∃ S' n2 q, n ≤ n2 ∧ F_T_drag S p1 p2 p3 = (.inl E, S') ∧ w' = zW T' (zwG G' q) S' n2) := by
  refine z_bodyX (by decide) zf_T_ok (Nat.le_of_ble_eq_true rfl) (fun X M => ?_)
  obtain ⟨Q, hQ, hX, K⟩ : ∃ Q : ((String ⊕ Int32) × (Nat → Nat → Int32)) → Prop, (∀ v S' q, Q (.inr v, S') → ∃ x S'' q2, F_T_drag S p1 p2 p3 = (.inr x, S'') ∧ some (.inl v : z_V) = some (.inl x) ∧ zW T' (zwG G' q) S' n = zW T' (zwG G' q2) S'' n) ∧ (∀ E S' (n2 : Nat) q, n ≤ n2 → Q (.inl E, S') → ∃ S'' n3 q2, n ≤ n3 ∧ F_T_drag S p1 p2 p3 = (.inl E, S'') ∧ zW T' (zwG G' q) S' n2 = zW T' (zwG G' q2) S'' n3) ∧ Q (F_T_drag S p1 p2 p3) := ⟨fun o => F_T_drag S p1 p2 p3 = o, fun v S' q h => ⟨v, S', q, h, rfl, rfl⟩, fun E S' n2 q hn h => ⟨S', n2, q, hn, h, rfl⟩, rfl⟩
  show z_G X zm_T_drag (0, [(0, z_r 0), (1, .inl p1), (2, .inl p2), (3, .inl p3)], [], zW T' (zwG G' q0) S n, 0, 0)
  unfold F_T_drag at K
  unfold Sf_T_drag at hs
  refine z_go2 M.1.1 0 [(.iload_n 1, 1)] (1, [(0, z_r 0), (1, .inl p1), (2, .inl p2), (3, .inl p3)], [.inl p1], zW T' (zwG G' q0) S n, 0, 0) (by decide +kernel) rfl ⟨trivial, trivial⟩ ?_
  refine z_callS M.1.1 (av := [.inl p1]) (st := []) (by decide +kernel) (c_T_isPerson T' (zwG G' q0) S n p1) M.1.2.1 zl_T_97 zs_T_isPerson ⟨by decide, by decide, by decide, by decide⟩ rfl (Nat.le_of_ble_eq_true rfl) (fun v w' hv => ?_)
  obtain ⟨rfl, rfl⟩ := hv
  show z_G X zm_T_drag (4, [(0, z_r 0), (1, .inl p1), (2, .inl p2), (3, .inl p3)], [.inl (F_T_isPerson S p1)], zW T' (zwG G' q0) S n, 0, 0)
  refine z_if_eq 31 M.1.1 (off := 27) (by decide +kernel) (by decide) (fun c4 => ?_) (fun c4 => ?_)
  · rw [if_pos c4] at K hs
    refine z_go2 M.1.1 31 [(.iconst 0, 1)] (32, [(0, z_r 0), (1, .inl p1), (2, .inl p2), (3, .inl p3)], [.inl 0], zW T' (zwG G' q0) S n, 0, 0) (by decide +kernel) rfl ⟨trivial, trivial⟩ ?_
    refine z_callSX M.1.1 (av := [.inl 0]) (st := []) (by decide +kernel) (c_mustExist T' (zwG G' q0) S n 0) M.1.2.1 zl_T_104 (z_wi 698 (by decide +kernel) rfl) zs_T_mustExist ⟨by decide, by decide, by decide, by decide⟩ rfl (Nat.le_of_ble_eq_true rfl) (fun E w' hx => ?_) (fun v w' hv => ?_)
    · obtain ⟨h0, rfl, n2, hn2, rfl⟩ := hx
      exact M.2 _ _ (hX _ _ n2 _ hn2 K) (Nat.le_of_ble_eq_true rfl) (Nat.le_of_ble_eq_true rfl)
    · obtain ⟨h0, rfl, rfl⟩ := hv
      exact absurd rfl h0
  · rw [if_neg c4] at K hs
    refine z_go2 M.1.1 7 [(.aload_n 0, 1), (.iload_n 1, 1), (.iload_n 2, 1)] (10, [(0, z_r 0), (1, .inl p1), (2, .inl p2), (3, .inl p3)], [.inl p2, .inl p1, z_r 0], zW T' (zwG G' q0) S n, 0, 0) (by decide +kernel) rfl ⟨trivial, trivial, trivial, trivial⟩ ?_
    refine z_callV M.1.1 (av := [.inl p1, .inl p2]) (st := []) (a := 0) (ci := 11) (by decide +kernel) (c_T_isSeen T' G' q0 S n p1 p2 hs.1) M.1.2.1 zl_T_238 zv_T_isSeen rfl rfl rfl ⟨by decide, by decide, by decide, by decide⟩ rfl (Nat.le_of_ble_eq_true rfl) (fun v w' hv => ?_)
    replace hs := hs.2
    rcases hF10 : F_T_isSeen S p1 p2 with ⟨r10, S10⟩
    rw [hF10] at K hv
    try rw [hF10] at hs
    try dsimp only at K hs
    obtain ⟨rfl, rfl⟩ := hv
    show z_G X zm_T_drag (13, [(0, z_r 0), (1, .inl p1), (2, .inl p2), (3, .inl p3)], [.inl r10], zW T' (zwG G' 9) S10 n, 0, 0)
    refine z_if_eq 31 M.1.1 (off := 18) (by decide +kernel) (by decide) (fun c13 => ?_) (fun c13 => ?_)
    · rw [if_pos c13] at K hs
      refine z_go2 M.1.1 31 [(.iconst 0, 1)] (32, [(0, z_r 0), (1, .inl p1), (2, .inl p2), (3, .inl p3)], [.inl 0], zW T' (zwG G' 9) S10 n, 0, 0) (by decide +kernel) rfl ⟨trivial, trivial⟩ ?_
      refine z_callSX M.1.1 (av := [.inl 0]) (st := []) (by decide +kernel) (c_mustExist T' (zwG G' 9) S10 n 0) M.1.2.1 zl_T_104 (z_wi 698 (by decide +kernel) rfl) zs_T_mustExist ⟨by decide, by decide, by decide, by decide⟩ rfl (Nat.le_of_ble_eq_true rfl) (fun E w' hx => ?_) (fun v w' hv => ?_)
      · obtain ⟨h0, rfl, n2, hn2, rfl⟩ := hx
        exact M.2 _ _ (hX _ _ n2 _ hn2 K) (Nat.le_of_ble_eq_true rfl) (Nat.le_of_ble_eq_true rfl)
      · obtain ⟨h0, rfl, rfl⟩ := hv
        exact absurd rfl h0
    · rw [if_neg c13] at K hs
      refine z_go2 M.1.1 16 [(.aload_n 0, 1), (.getfield 47, 3), (.iload_n 3, 1)] (21, [(0, z_r 0), (1, .inl p1), (2, .inl p2), (3, .inl p3)], [.inl p3, z_r 36], zW T' (zwG G' 9) S10 n, 0, 0) (by decide +kernel) rfl ⟨trivial, rfl, trivial, trivial⟩ ?_
      refine z_callV M.1.1 (av := [.inl p3]) (st := []) (a := 36) (ci := 8) (by decide +kernel) (c_Sight_sees T' (zwG G' 9) S10 n p3 hs.1) M.1.2.1 zl_T_261 zv_Sight_sees rfl rfl rfl ⟨by decide, by decide, by decide, by decide⟩ rfl (Nat.le_of_ble_eq_true rfl) (fun v w' hv => ?_)
      obtain ⟨rfl, rfl⟩ := hv
      replace hs := hs.2
      show z_G X zm_T_drag (24, [(0, z_r 0), (1, .inl p1), (2, .inl p2), (3, .inl p3)], [.inl (F_Sight_sees S10 p3)], zW T' (zwG G' 9) S10 n, 0, 0)
      refine z_if_eq 31 M.1.1 (off := 7) (by decide +kernel) (by decide) (fun c24 => ?_) (fun c24 => ?_)
      · rw [if_pos c24] at K hs
        refine z_go2 M.1.1 31 [(.iconst 0, 1)] (32, [(0, z_r 0), (1, .inl p1), (2, .inl p2), (3, .inl p3)], [.inl 0], zW T' (zwG G' 9) S10 n, 0, 0) (by decide +kernel) rfl ⟨trivial, trivial⟩ ?_
        refine z_callSX M.1.1 (av := [.inl 0]) (st := []) (by decide +kernel) (c_mustExist T' (zwG G' 9) S10 n 0) M.1.2.1 zl_T_104 (z_wi 698 (by decide +kernel) rfl) zs_T_mustExist ⟨by decide, by decide, by decide, by decide⟩ rfl (Nat.le_of_ble_eq_true rfl) (fun E w' hx => ?_) (fun v w' hv => ?_)
        · obtain ⟨h0, rfl, n2, hn2, rfl⟩ := hx
          exact M.2 _ _ (hX _ _ n2 _ hn2 K) (Nat.le_of_ble_eq_true rfl) (Nat.le_of_ble_eq_true rfl)
        · obtain ⟨h0, rfl, rfl⟩ := hv
          exact absurd rfl h0
      · rw [if_neg c24] at K hs
        refine z_go2 M.1.1 27 [(.iconst 1, 1), (.goto 4, 3)] (32, [(0, z_r 0), (1, .inl p1), (2, .inl p2), (3, .inl p3)], [.inl 1], zW T' (zwG G' 9) S10 n, 0, 0) (by decide +kernel) rfl ⟨trivial, trivial, trivial⟩ ?_
        refine z_callSX M.1.1 (av := [.inl 1]) (st := []) (by decide +kernel) (c_mustExist T' (zwG G' 9) S10 n 1) M.1.2.1 zl_T_104 (z_wi 698 (by decide +kernel) rfl) zs_T_mustExist ⟨by decide, by decide, by decide, by decide⟩ rfl (Nat.le_of_ble_eq_true rfl) (fun E w' hx => ?_) (fun v w' hv => ?_)
        · obtain ⟨h0, rfl, n2, hn2, rfl⟩ := hx
          exact absurd h0 (by decide)
        · obtain ⟨h0, rfl, rfl⟩ := hv
          show z_G X zm_T_drag (35, [(0, z_r 0), (1, .inl p1), (2, .inl p2), (3, .inl p3)], [], zW T' (zwG G' 9) S10 n, 1, 6)
          refine z_go2 M.1.1 35 [(.iload_n 2, 1), (.iload_n 3, 1)] (37, [(0, z_r 0), (1, .inl p1), (2, .inl p2), (3, .inl p3)], [.inl p3, .inl p2], zW T' (zwG G' 9) S10 n, 1, 6) (by decide +kernel) rfl ⟨trivial, trivial, trivial⟩ ?_
          refine z_icmp_eq 44 M.1.1 (off := 7) (by decide +kernel) (by decide) (fun c37 => ?_) (fun c37 => ?_)
          · rw [if_pos c37] at K hs
            refine z_go2 M.1.1 44 [(.iconst 0, 1)] (45, [(0, z_r 0), (1, .inl p1), (2, .inl p2), (3, .inl p3)], [.inl 0], zW T' (zwG G' 9) S10 n, 1, 6) (by decide +kernel) rfl ⟨trivial, trivial⟩ ?_
            refine z_callSX M.1.1 (av := [.inl 0]) (st := []) (by decide +kernel) (c_mustFit T' (zwG G' 9) S10 n 0) M.1.2.1 zl_T_111 (z_wi 772 (by decide +kernel) rfl) zs_T_mustFit ⟨by decide, by decide, by decide, by decide⟩ rfl (Nat.le_of_ble_eq_true rfl) (fun E w' hx => ?_) (fun v w' hv => ?_)
            · obtain ⟨h0, rfl, n2, hn2, rfl⟩ := hx
              exact M.2 _ _ (hX _ _ n2 _ hn2 K) (Nat.le_of_ble_eq_true rfl) (Nat.le_of_ble_eq_true rfl)
            · obtain ⟨h0, rfl, rfl⟩ := hv
              exact absurd rfl h0
          · rw [if_neg c37] at K hs
            refine z_go2 M.1.1 40 [(.iconst 1, 1), (.goto 4, 3)] (45, [(0, z_r 0), (1, .inl p1), (2, .inl p2), (3, .inl p3)], [.inl 1], zW T' (zwG G' 9) S10 n, 1, 6) (by decide +kernel) rfl ⟨trivial, trivial, trivial⟩ ?_
            refine z_callSX M.1.1 (av := [.inl 1]) (st := []) (by decide +kernel) (c_mustFit T' (zwG G' 9) S10 n 1) M.1.2.1 zl_T_111 (z_wi 772 (by decide +kernel) rfl) zs_T_mustFit ⟨by decide, by decide, by decide, by decide⟩ rfl (Nat.le_of_ble_eq_true rfl) (fun E w' hx => ?_) (fun v w' hv => ?_)
            · obtain ⟨h0, rfl, n2, hn2, rfl⟩ := hx
              exact absurd h0 (by decide)
            · obtain ⟨h0, rfl, rfl⟩ := hv
              show z_G X zm_T_drag (48, [(0, z_r 0), (1, .inl p1), (2, .inl p2), (3, .inl p3)], [], zW T' (zwG G' 9) S10 n, 2, 12)
              refine z_go2 M.1.1 48 [(.aload_n 0, 1), (.getfield 47, 3), (.iload_n 2, 1)] (53, [(0, z_r 0), (1, .inl p1), (2, .inl p2), (3, .inl p3)], [.inl p2, z_r 36], zW T' (zwG G' 9) S10 n, 2, 12) (by decide +kernel) rfl ⟨trivial, rfl, trivial, trivial⟩ ?_
              refine z_callV M.1.1 (av := [.inl p2]) (st := []) (a := 36) (ci := 8) (by decide +kernel) (c_Sight_canEdit T' (zwG G' 9) S10 n p2 hs.1) M.1.2.1 zl_T_251 zv_Sight_canEdit rfl rfl rfl ⟨by decide, by decide, by decide, by decide⟩ rfl (Nat.le_of_ble_eq_true rfl) (fun v w' hv => ?_)
              obtain ⟨rfl, rfl⟩ := hv
              replace hs := hs.2
              show z_G X zm_T_drag (56, [(0, z_r 0), (1, .inl p1), (2, .inl p2), (3, .inl p3)], [.inl (F_Sight_canEdit S10 p2)], zW T' (zwG G' 9) S10 n, 2, 12)
              refine z_callSX M.1.1 (av := [.inl (F_Sight_canEdit S10 p2)]) (st := []) (by decide +kernel) (c_mustBeAllowed T' (zwG G' 9) S10 n (F_Sight_canEdit S10 p2)) M.1.2.1 zl_T_128 (z_wi 847 (by decide +kernel) rfl) zs_T_mustBeAllowed ⟨by decide, by decide, by decide, by decide⟩ rfl (Nat.le_of_ble_eq_true rfl) (fun E w' hx => ?_) (fun v w' hv => ?_)
              · obtain ⟨h0, rfl, n2, hn2, rfl⟩ := hx
                rw [if_pos h0] at K
                exact M.2 _ _ (hX _ _ n2 _ hn2 K) (Nat.le_of_ble_eq_true rfl) (Nat.le_of_ble_eq_true rfl)
              · obtain ⟨h0, rfl, rfl⟩ := hv
                rw [if_neg h0] at K hs
                show z_G X zm_T_drag (59, [(0, z_r 0), (1, .inl p1), (2, .inl p2), (3, .inl p3)], [], zW T' (zwG G' 9) S10 n, 3, 18)
                refine z_go2 M.1.1 59 [(.aload_n 0, 1), (.getfield 72, 3), (.iload_n 2, 1), (.iload_n 3, 1)] (65, [(0, z_r 0), (1, .inl p1), (2, .inl p2), (3, .inl p3)], [.inl p3, .inl p2, z_r 68], zW T' (zwG G' 9) S10 n, 3, 18) (by decide +kernel) rfl ⟨trivial, rfl, trivial, trivial, trivial⟩ ?_
                refine z_callV M.1.1 (av := [.inl p2, .inl p3]) (st := []) (a := 68) (ci := 6) (by decide +kernel) (c_Ranks_bringAhead T' (zwG G' 9) S10 n p2 p3 hs.1) M.1.2.1 zl_T_276 zv_Ranks_bringAhead rfl rfl rfl ⟨by decide, by decide, by decide, by decide⟩ rfl (Nat.le_of_ble_eq_true rfl) (fun v w' hv => ?_)
                replace hs := hs.2
                obtain ⟨S65, hF65⟩ : ∃ y, F_Ranks_bringAhead S10 p2 p3 = y := ⟨_, rfl⟩
                rw [hF65] at K hv
                try dsimp only [z_let] at K
                obtain ⟨rfl, rfl⟩ := hv
                show z_G X zm_T_drag (68, [(0, z_r 0), (1, .inl p1), (2, .inl p2), (3, .inl p3)], [], zW T' (zwG G' 9) S65 n, 3, 18)
                refine z_go2 M.1.1 68 [(.aload_n 0, 1), (.getfield 72, 3), (.getfield 280, 3), (.iload_n 2, 1)] (76, [(0, z_r 0), (1, .inl p1), (2, .inl p2), (3, .inl p3)], [.inl p2, z_r 69], zW T' (zwG G' 9) S65 n, 3, 18) (by decide +kernel) rfl ⟨trivial, rfl, rfl, trivial, trivial⟩ ?_
                refine z_callS M.1.1 (av := [z_r 69, .inl p2]) (st := []) (by decide +kernel) (c_at (zW T' (zwG G' 9) S65 n) 69 30 rfl (by decide) p2) M.1.2.1 zl_T_134 zs_T_at ⟨by decide, by decide, by decide, by decide⟩ rfl (Nat.le_of_ble_eq_true rfl) (fun v w' hv => ?_)
                obtain ⟨rfl, rfl⟩ := hv
                show z_G X zm_T_drag (79, [(0, z_r 0), (1, .inl p1), (2, .inl p2), (3, .inl p3)], [.inl (zAt (S65 69) 30 p2)], zW T' (zwG G' 9) S65 n, 3, 18)
                exact z_iret M.1 (by decide +kernel) .int rfl rfl (by decide) (by decide) (hQ _ _ _ K)

-- TrackHouse.type
abbrev rm_T_type : Room := zx 7 2
def F_T_type (S : (Nat → Nat → Int32)) (p1 : Int32) : ((String ⊕ Int32) × (Nat → Nat → Int32)) := (if p1 < 32 then (.inl "java/lang/IllegalArgumentException", S) else (if (126 : Int32) < p1 then (.inl "java/lang/IllegalArgumentException", S) else (if (30 : Int32) ≤ (S 19 7) then (.inl "java/lang/IllegalStateException", S) else (match F_Query_append S p1 with | (r45, S45) => (.inr r45, S45)))))
def Sf_T_type (S : (Nat → Nat → Int32)) (p1 : Int32) : Prop := (if p1 < 32 then True else (if (126 : Int32) < p1 then True else (if (30 : Int32) ≤ (S 19 7) then True else (Sf_Query_append S p1 ∧ True))))
theorem c_T_type (T' : Nat → Nat × Nat) (G' : Nat → Nat → Option Nat) (S : (Nat → Nat → Int32)) (n : Nat) (p1 : Int32) (hs : Sf_T_type S p1) : z_RunX rm_T_type zm_T_type [z_r 0, .inl p1] (zW T' G' S n) (fun v w' => ∃ x S', F_T_type S p1 = (.inr x, S') ∧ v = some (.inl x) ∧ w' = zW T' G' S' n) (fun E w' => ∃ S' n2, n ≤ n2 ∧ F_T_type S p1 = (.inl E, S') ∧ w' = zW T' G' S' n2) := by
  refine z_bodyX (by decide) zf_T_ok (Nat.le_of_ble_eq_true rfl) (fun X M => ?_)
  obtain ⟨Q, hQ, hX, K⟩ : ∃ Q : ((String ⊕ Int32) × (Nat → Nat → Int32)) → Prop, (∀ v S', Q (.inr v, S') → ∃ x S'', F_T_type S p1 = (.inr x, S'') ∧ some (.inl v : z_V) = some (.inl x) ∧ zW T' G' S' n = zW T' G' S'' n) ∧ (∀ E S' (n2 : Nat), n ≤ n2 → Q (.inl E, S') → ∃ S'' n3, n ≤ n3 ∧ F_T_type S p1 = (.inl E, S'') ∧ zW T' G' S' n2 = zW T' G' S'' n3) ∧ Q (F_T_type S p1) := ⟨fun o => F_T_type S p1 = o, fun v S' h => ⟨v, S', h, rfl, rfl⟩, fun E S' n2 hn h => ⟨S', n2, hn, h, rfl⟩, rfl⟩
  show z_G X zm_T_type (0, [(0, z_r 0), (1, .inl p1)], [], zW T' G' S n, 0, 0)
  unfold F_T_type at K
  unfold Sf_T_type at hs
  refine z_go2 M.1.1 0 [(.iload_n 1, 1), (.bipush 32, 2)] (3, [(0, z_r 0), (1, .inl p1)], [.inl 32, .inl p1], zW T' G' S n, 0, 0) (by decide +kernel) rfl ⟨trivial, trivial, trivial⟩ ?_
  refine z_icmp_lt 16 M.1.1 (off := 13) (by decide +kernel) (by decide) (fun c3 => ?_) (fun c3 => ?_)
  · rw [if_pos c3] at K hs
    refine z_go2 M.1.1 16 [(.iconst 0, 1)] (17, [(0, z_r 0), (1, .inl p1)], [.inl 0], zW T' G' S n, 0, 0) (by decide +kernel) rfl ⟨trivial, trivial⟩ ?_
    refine z_callSX M.1.1 (av := [.inl 0]) (st := []) (by decide +kernel) (c_mustFit T' G' S n 0) M.1.2.1 zl_T_111 (z_wi 772 (by decide +kernel) rfl) zs_T_mustFit ⟨by decide, by decide, by decide, by decide⟩ rfl (Nat.le_of_ble_eq_true rfl) (fun E w' hx => ?_) (fun v w' hv => ?_)
    · obtain ⟨h0, rfl, n2, hn2, rfl⟩ := hx
      exact M.2 _ _ (hX _ _ n2 hn2 K) (Nat.le_of_ble_eq_true rfl) (Nat.le_of_ble_eq_true rfl)
    · obtain ⟨h0, rfl, rfl⟩ := hv
      exact absurd rfl h0
  · rw [if_neg c3] at K hs
    refine z_go2 M.1.1 6 [(.iload_n 1, 1), (.bipush 126, 2)] (9, [(0, z_r 0), (1, .inl p1)], [.inl 126, .inl p1], zW T' G' S n, 0, 0) (by decide +kernel) rfl ⟨trivial, trivial, trivial⟩ ?_
    refine z_icmp_gt 16 M.1.1 (off := 7) (by decide +kernel) (by decide) (fun c9 => ?_) (fun c9 => ?_)
    · rw [if_pos c9] at K hs
      refine z_go2 M.1.1 16 [(.iconst 0, 1)] (17, [(0, z_r 0), (1, .inl p1)], [.inl 0], zW T' G' S n, 0, 0) (by decide +kernel) rfl ⟨trivial, trivial⟩ ?_
      refine z_callSX M.1.1 (av := [.inl 0]) (st := []) (by decide +kernel) (c_mustFit T' G' S n 0) M.1.2.1 zl_T_111 (z_wi 772 (by decide +kernel) rfl) zs_T_mustFit ⟨by decide, by decide, by decide, by decide⟩ rfl (Nat.le_of_ble_eq_true rfl) (fun E w' hx => ?_) (fun v w' hv => ?_)
      · obtain ⟨h0, rfl, n2, hn2, rfl⟩ := hx
        exact M.2 _ _ (hX _ _ n2 hn2 K) (Nat.le_of_ble_eq_true rfl) (Nat.le_of_ble_eq_true rfl)
      · obtain ⟨h0, rfl, rfl⟩ := hv
        exact absurd rfl h0
    · rw [if_neg c9] at K hs
      refine z_go2 M.1.1 12 [(.iconst 1, 1), (.goto 4, 3)] (17, [(0, z_r 0), (1, .inl p1)], [.inl 1], zW T' G' S n, 0, 0) (by decide +kernel) rfl ⟨trivial, trivial, trivial⟩ ?_
      refine z_callSX M.1.1 (av := [.inl 1]) (st := []) (by decide +kernel) (c_mustFit T' G' S n 1) M.1.2.1 zl_T_111 (z_wi 772 (by decide +kernel) rfl) zs_T_mustFit ⟨by decide, by decide, by decide, by decide⟩ rfl (Nat.le_of_ble_eq_true rfl) (fun E w' hx => ?_) (fun v w' hv => ?_)
      · obtain ⟨h0, rfl, n2, hn2, rfl⟩ := hx
        exact absurd h0 (by decide)
      · obtain ⟨h0, rfl, rfl⟩ := hv
        show z_G X zm_T_type (20, [(0, z_r 0), (1, .inl p1)], [], zW T' G' S n, 1, 6)
        refine z_go2 M.1.1 20 [(.aload_n 0, 1), (.getfield 37, 3), (.getfield 282, 3), (.bipush 30, 2)] (29, [(0, z_r 0), (1, .inl p1)], [.inl 30, .inl (S 19 7)], zW T' G' S n, 1, 6) (by decide +kernel) rfl ⟨trivial, rfl, rfl, trivial, trivial⟩ ?_
        refine z_icmp_ge 36 M.1.1 (off := 7) (by decide +kernel) (by decide) (fun c29 => ?_) (fun c29 => ?_)
        · rw [if_pos c29] at K hs
          refine z_go2 M.1.1 36 [(.iconst 0, 1)] (37, [(0, z_r 0), (1, .inl p1)], [.inl 0], zW T' G' S n, 1, 6) (by decide +kernel) rfl ⟨trivial, trivial⟩ ?_
          refine z_callSX M.1.1 (av := [.inl 0]) (st := []) (by decide +kernel) (c_mustBeAllowed T' G' S n 0) M.1.2.1 zl_T_128 (z_wi 847 (by decide +kernel) rfl) zs_T_mustBeAllowed ⟨by decide, by decide, by decide, by decide⟩ rfl (Nat.le_of_ble_eq_true rfl) (fun E w' hx => ?_) (fun v w' hv => ?_)
          · obtain ⟨h0, rfl, n2, hn2, rfl⟩ := hx
            exact M.2 _ _ (hX _ _ n2 hn2 K) (Nat.le_of_ble_eq_true rfl) (Nat.le_of_ble_eq_true rfl)
          · obtain ⟨h0, rfl, rfl⟩ := hv
            exact absurd rfl h0
        · rw [if_neg c29] at K hs
          refine z_go2 M.1.1 32 [(.iconst 1, 1), (.goto 4, 3)] (37, [(0, z_r 0), (1, .inl p1)], [.inl 1], zW T' G' S n, 1, 6) (by decide +kernel) rfl ⟨trivial, trivial, trivial⟩ ?_
          refine z_callSX M.1.1 (av := [.inl 1]) (st := []) (by decide +kernel) (c_mustBeAllowed T' G' S n 1) M.1.2.1 zl_T_128 (z_wi 847 (by decide +kernel) rfl) zs_T_mustBeAllowed ⟨by decide, by decide, by decide, by decide⟩ rfl (Nat.le_of_ble_eq_true rfl) (fun E w' hx => ?_) (fun v w' hv => ?_)
          · obtain ⟨h0, rfl, n2, hn2, rfl⟩ := hx
            exact absurd h0 (by decide)
          · obtain ⟨h0, rfl, rfl⟩ := hv
            show z_G X zm_T_type (40, [(0, z_r 0), (1, .inl p1)], [], zW T' G' S n, 2, 12)
            refine z_go2 M.1.1 40 [(.aload_n 0, 1), (.getfield 37, 3), (.iload_n 1, 1)] (45, [(0, z_r 0), (1, .inl p1)], [.inl p1, z_r 19], zW T' G' S n, 2, 12) (by decide +kernel) rfl ⟨trivial, rfl, trivial, trivial⟩ ?_
            refine z_callV M.1.1 (av := [.inl p1]) (st := []) (a := 19) (ci := 5) (by decide +kernel) (c_Query_append T' G' S n p1 hs.1) M.1.2.1 zl_T_287 zv_Query_append rfl rfl rfl ⟨by decide, by decide, by decide, by decide⟩ rfl (Nat.le_of_ble_eq_true rfl) (fun v w' hv => ?_)
            replace hs := hs.2
            rcases hF45 : F_Query_append S p1 with ⟨r45, S45⟩
            rw [hF45] at K hv
            try dsimp only at K
            obtain ⟨rfl, rfl⟩ := hv
            show z_G X zm_T_type (48, [(0, z_r 0), (1, .inl p1)], [.inl r45], zW T' G' S45 n, 2, 12)
            exact z_iret M.1 (by decide +kernel) .int rfl rfl (by decide) (by decide) (hQ _ _ K)

-- TrackHouse.wipe
abbrev rm_T_wipe : Room := zr 0
def F_T_wipe (S : (Nat → Nat → Int32)) : (Int32 × (Nat → Nat → Int32)) := ((S 19 7), (z_uS S 19 7 0))
theorem c_T_wipe (T' : Nat → Nat × Nat) (G' : Nat → Nat → Option Nat) (S : (Nat → Nat → Int32)) (n : Nat) : z_Run rm_T_wipe zm_T_wipe [z_r 0] (zW T' G' S n) (zq (some (.inl (F_T_wipe S).1)) (zW T' G' (F_T_wipe S).2 n)) := by
  refine z_body (by decide) zf_T_ok (Nat.le_of_ble_eq_true rfl) (fun X M => ?_)
  obtain ⟨Q, hQ, K⟩ : ∃ Q : (Int32 × (Nat → Nat → Int32)) → Prop, (∀ v S', Q (v, S') → zq (some (.inl (F_T_wipe S).1)) (zW T' G' (F_T_wipe S).2 n) (some (.inl v)) (zW T' G' S' n)) ∧ Q (F_T_wipe S) := ⟨fun o => F_T_wipe S = o, fun v S' h => ⟨by rw [h], by rw [h]⟩, rfl⟩
  show z_G X zm_T_wipe (0, [(0, z_r 0)], [], zW T' G' S n, 0, 0)
  unfold F_T_wipe at K
  refine z_go2 M.1 0 [(.aload_n 0, 1), (.getfield 37, 3), (.getfield 282, 3), (.istore_n 1, 1), (.aload_n 0, 1), (.getfield 37, 3), (.iconst 0, 1), (.putfield 282, 3), (.iload_n 1, 1)] (17, [(1, .inl (S 19 7)), (0, z_r 0)], [.inl (S 19 7)], zW T' G' (z_uS S 19 7 0) n, 0, 0) (by decide +kernel) rfl ⟨trivial, rfl, rfl, trivial, trivial, rfl, trivial, ⟨rfl, trivial⟩, trivial, trivial⟩ ?_
  exact z_iret M (by decide +kernel) .int rfl rfl (by decide) (by decide) (hQ _ _ K)

-- TrackHouse.fault
abbrev rm_T_fault : Room := zr 6
def F_T_fault (S : (Nat → Nat → Int32)) : (Int32 × (Nat → Nat → Int32)) := (match F_Query_compile S with | (r4, S4) => (r4, S4))
def Sf_T_fault (S : (Nat → Nat → Int32)) : Prop := (Sf_Query_compile S ∧ True)
theorem c_T_fault (T' : Nat → Nat × Nat) (G' : Nat → Nat → Option Nat) (S : (Nat → Nat → Int32)) (n : Nat) (hs : Sf_T_fault S) : z_Run rm_T_fault zm_T_fault [z_r 0] (zW T' G' S n) (zq (some (.inl (F_T_fault S).1)) (zW T' G' (F_T_fault S).2 n)) := by
  refine z_body (by decide) zf_T_ok (Nat.le_of_ble_eq_true rfl) (fun X M => ?_)
  obtain ⟨Q, hQ, K⟩ : ∃ Q : (Int32 × (Nat → Nat → Int32)) → Prop, (∀ v S', Q (v, S') → zq (some (.inl (F_T_fault S).1)) (zW T' G' (F_T_fault S).2 n) (some (.inl v)) (zW T' G' S' n)) ∧ Q (F_T_fault S) := ⟨fun o => F_T_fault S = o, fun v S' h => ⟨by rw [h], by rw [h]⟩, rfl⟩
  show z_G X zm_T_fault (0, [(0, z_r 0)], [], zW T' G' S n, 0, 0)
  unfold F_T_fault at K
  unfold Sf_T_fault at hs
  refine z_go2 M.1 0 [(.aload_n 0, 1), (.getfield 37, 3)] (4, [(0, z_r 0)], [z_r 19], zW T' G' S n, 0, 0) (by decide +kernel) rfl ⟨trivial, rfl, trivial⟩ ?_
  refine z_callV M.1 (av := []) (st := []) (a := 19) (ci := 5) (by decide +kernel) (c_Query_compile T' G' S n hs.1) M.2.1 zl_T_290 zv_Query_compile rfl rfl rfl ⟨by decide, by decide, by decide, by decide⟩ rfl (Nat.le_of_ble_eq_true rfl) (fun v w' hv => ?_)
  replace hs := hs.2
  rcases hF4 : F_Query_compile S with ⟨r4, S4⟩
  rw [hF4] at K hv
  try dsimp only at K
  obtain ⟨rfl, rfl⟩ := hv
  show z_G X zm_T_fault (7, [(0, z_r 0)], [.inl r4], zW T' G' S4 n, 0, 0)
  exact z_iret M (by decide +kernel) .int rfl rfl (by decide) (by decide) (hQ _ _ K)

-- TrackHouse.count
abbrev rm_T_count : Room := zx 7 2
def F_T_count (S : (Nat → Nat → Int32)) (p1 : Int32) (p2 : Int32) : ((String ⊕ Int32) × (Nat → Nat → Int32)) := (if (F_T_isPerson S p1) = 0 then (.inl "java/lang/IndexOutOfBoundsException", S) else (if (F_T_isDay S p2) = 0 then (.inl "java/lang/IndexOutOfBoundsException", S) else (match F_Query_compile S with | (r27, S27) => (if r27 = (-1) then (z_let (F_T_lookOn S27 p1 p2) (fun S45 => (match F_Finder_hits 28 S45 with | (r52, S52) => (.inr (F_bitCount r52), S52)))) else (.inl "java/lang/IllegalStateException", S27)))))
def Sf_T_count (S : (Nat → Nat → Int32)) (p1 : Int32) (p2 : Int32) : Prop := (if (F_T_isPerson S p1) = 0 then True else (if (F_T_isDay S p2) = 0 then True else (Sf_Query_compile S ∧ (match F_Query_compile S with | (r27, S27) => (if r27 = (-1) then (Sf_T_lookOn S27 p1 p2 ∧ (z_let (F_T_lookOn S27 p1 p2) (fun S45 => (Sf_Finder_hits 28 S45 ∧ True)))) else True)))))
theorem c_T_count (T' : Nat → Nat × Nat) (G' : Nat → Nat → Option Nat) (q0 : Nat) (S : (Nat → Nat → Int32)) (n : Nat) (p1 : Int32) (p2 : Int32) (hs : Sf_T_count S p1 p2) : z_RunX rm_T_count zm_T_count [z_r 0, .inl p1, .inl p2] (zW T' (zwG G' q0) S n) (fun v w' => ∃ x S' q, F_T_count S p1 p2 = (.inr x, S') ∧ v = some (.inl x) ∧ w' = zW T' (zwG G' q) S' n) (fun E w' => ∃ S' n2 q, n ≤ n2 ∧ F_T_count S p1 p2 = (.inl E, S') ∧ w' = zW T' (zwG G' q) S' n2) := by
  refine z_bodyX (by decide) zf_T_ok (Nat.le_of_ble_eq_true rfl) (fun X M => ?_)
  obtain ⟨Q, hQ, hX, K⟩ : ∃ Q : ((String ⊕ Int32) × (Nat → Nat → Int32)) → Prop, (∀ v S' q, Q (.inr v, S') → ∃ x S'' q2, F_T_count S p1 p2 = (.inr x, S'') ∧ some (.inl v : z_V) = some (.inl x) ∧ zW T' (zwG G' q) S' n = zW T' (zwG G' q2) S'' n) ∧ (∀ E S' (n2 : Nat) q, n ≤ n2 → Q (.inl E, S') → ∃ S'' n3 q2, n ≤ n3 ∧ F_T_count S p1 p2 = (.inl E, S'') ∧ zW T' (zwG G' q) S' n2 = zW T' (zwG G' q2) S'' n3) ∧ Q (F_T_count S p1 p2) := ⟨fun o => F_T_count S p1 p2 = o, fun v S' q h => ⟨v, S', q, h, rfl, rfl⟩, fun E S' n2 q hn h => ⟨S', n2, q, hn, h, rfl⟩, rfl⟩
  show z_G X zm_T_count (0, [(0, z_r 0), (1, .inl p1), (2, .inl p2)], [], zW T' (zwG G' q0) S n, 0, 0)
  unfold F_T_count at K
  unfold Sf_T_count at hs
  refine z_go2 M.1.1 0 [(.iload_n 1, 1)] (1, [(0, z_r 0), (1, .inl p1), (2, .inl p2)], [.inl p1], zW T' (zwG G' q0) S n, 0, 0) (by decide +kernel) rfl ⟨trivial, trivial⟩ ?_
  refine z_callS M.1.1 (av := [.inl p1]) (st := []) (by decide +kernel) (c_T_isPerson T' (zwG G' q0) S n p1) M.1.2.1 zl_T_97 zs_T_isPerson ⟨by decide, by decide, by decide, by decide⟩ rfl (Nat.le_of_ble_eq_true rfl) (fun v w' hv => ?_)
  obtain ⟨rfl, rfl⟩ := hv
  show z_G X zm_T_count (4, [(0, z_r 0), (1, .inl p1), (2, .inl p2)], [.inl (F_T_isPerson S p1)], zW T' (zwG G' q0) S n, 0, 0)
  refine z_if_eq 19 M.1.1 (off := 15) (by decide +kernel) (by decide) (fun c4 => ?_) (fun c4 => ?_)
  · rw [if_pos c4] at K hs
    refine z_go2 M.1.1 19 [(.iconst 0, 1)] (20, [(0, z_r 0), (1, .inl p1), (2, .inl p2)], [.inl 0], zW T' (zwG G' q0) S n, 0, 0) (by decide +kernel) rfl ⟨trivial, trivial⟩ ?_
    refine z_callSX M.1.1 (av := [.inl 0]) (st := []) (by decide +kernel) (c_mustExist T' (zwG G' q0) S n 0) M.1.2.1 zl_T_104 (z_wi 698 (by decide +kernel) rfl) zs_T_mustExist ⟨by decide, by decide, by decide, by decide⟩ rfl (Nat.le_of_ble_eq_true rfl) (fun E w' hx => ?_) (fun v w' hv => ?_)
    · obtain ⟨h0, rfl, n2, hn2, rfl⟩ := hx
      exact M.2 _ _ (hX _ _ n2 _ hn2 K) (Nat.le_of_ble_eq_true rfl) (Nat.le_of_ble_eq_true rfl)
    · obtain ⟨h0, rfl, rfl⟩ := hv
      exact absurd rfl h0
  · rw [if_neg c4] at K hs
    refine z_go2 M.1.1 7 [(.aload_n 0, 1), (.iload_n 2, 1)] (9, [(0, z_r 0), (1, .inl p1), (2, .inl p2)], [.inl p2, z_r 0], zW T' (zwG G' q0) S n, 0, 0) (by decide +kernel) rfl ⟨trivial, trivial, trivial⟩ ?_
    refine z_callV M.1.1 (av := [.inl p2]) (st := []) (a := 0) (ci := 11) (by decide +kernel) (c_T_isDay T' (zwG G' q0) S n p2) M.1.2.1 zl_T_293 zv_T_isDay rfl rfl rfl ⟨by decide, by decide, by decide, by decide⟩ rfl (Nat.le_of_ble_eq_true rfl) (fun v w' hv => ?_)
    obtain ⟨rfl, rfl⟩ := hv
    show z_G X zm_T_count (12, [(0, z_r 0), (1, .inl p1), (2, .inl p2)], [.inl (F_T_isDay S p2)], zW T' (zwG G' q0) S n, 0, 0)
    refine z_if_eq 19 M.1.1 (off := 7) (by decide +kernel) (by decide) (fun c12 => ?_) (fun c12 => ?_)
    · rw [if_pos c12] at K hs
      refine z_go2 M.1.1 19 [(.iconst 0, 1)] (20, [(0, z_r 0), (1, .inl p1), (2, .inl p2)], [.inl 0], zW T' (zwG G' q0) S n, 0, 0) (by decide +kernel) rfl ⟨trivial, trivial⟩ ?_
      refine z_callSX M.1.1 (av := [.inl 0]) (st := []) (by decide +kernel) (c_mustExist T' (zwG G' q0) S n 0) M.1.2.1 zl_T_104 (z_wi 698 (by decide +kernel) rfl) zs_T_mustExist ⟨by decide, by decide, by decide, by decide⟩ rfl (Nat.le_of_ble_eq_true rfl) (fun E w' hx => ?_) (fun v w' hv => ?_)
      · obtain ⟨h0, rfl, n2, hn2, rfl⟩ := hx
        exact M.2 _ _ (hX _ _ n2 _ hn2 K) (Nat.le_of_ble_eq_true rfl) (Nat.le_of_ble_eq_true rfl)
      · obtain ⟨h0, rfl, rfl⟩ := hv
        exact absurd rfl h0
    · rw [if_neg c12] at K hs
      refine z_go2 M.1.1 15 [(.iconst 1, 1), (.goto 4, 3)] (20, [(0, z_r 0), (1, .inl p1), (2, .inl p2)], [.inl 1], zW T' (zwG G' q0) S n, 0, 0) (by decide +kernel) rfl ⟨trivial, trivial, trivial⟩ ?_
      refine z_callSX M.1.1 (av := [.inl 1]) (st := []) (by decide +kernel) (c_mustExist T' (zwG G' q0) S n 1) M.1.2.1 zl_T_104 (z_wi 698 (by decide +kernel) rfl) zs_T_mustExist ⟨by decide, by decide, by decide, by decide⟩ rfl (Nat.le_of_ble_eq_true rfl) (fun E w' hx => ?_) (fun v w' hv => ?_)
      · obtain ⟨h0, rfl, n2, hn2, rfl⟩ := hx
        exact absurd h0 (by decide)
      · obtain ⟨h0, rfl, rfl⟩ := hv
        show z_G X zm_T_count (23, [(0, z_r 0), (1, .inl p1), (2, .inl p2)], [], zW T' (zwG G' q0) S n, 1, 6)
        refine z_go2 M.1.1 23 [(.aload_n 0, 1), (.getfield 37, 3)] (27, [(0, z_r 0), (1, .inl p1), (2, .inl p2)], [z_r 19], zW T' (zwG G' q0) S n, 1, 6) (by decide +kernel) rfl ⟨trivial, rfl, trivial⟩ ?_
        refine z_callV M.1.1 (av := []) (st := []) (a := 19) (ci := 5) (by decide +kernel) (c_Query_compile T' (zwG G' q0) S n hs.1) M.1.2.1 zl_T_290 zv_Query_compile rfl rfl rfl ⟨by decide, by decide, by decide, by decide⟩ rfl (Nat.le_of_ble_eq_true rfl) (fun v w' hv => ?_)
        replace hs := hs.2
        rcases hF27 : F_Query_compile S with ⟨r27, S27⟩
        rw [hF27] at K hv
        try rw [hF27] at hs
        try dsimp only at K hs
        obtain ⟨rfl, rfl⟩ := hv
        show z_G X zm_T_count (30, [(0, z_r 0), (1, .inl p1), (2, .inl p2)], [.inl r27], zW T' (zwG G' q0) S27 n, 1, 6)
        refine z_go2 M.1.1 30 [(.iconst (-1), 1)] (31, [(0, z_r 0), (1, .inl p1), (2, .inl p2)], [.inl (-1), .inl r27], zW T' (zwG G' q0) S27 n, 1, 6) (by decide +kernel) rfl ⟨trivial, trivial⟩ ?_
        refine z_icmp_ne 38 M.1.1 (off := 7) (by decide +kernel) (by decide) (fun c31 => ?_) (fun c31 => ?_)
        · rw [if_neg c31] at K hs
          refine z_go2 M.1.1 38 [(.iconst 0, 1)] (39, [(0, z_r 0), (1, .inl p1), (2, .inl p2)], [.inl 0], zW T' (zwG G' q0) S27 n, 1, 6) (by decide +kernel) rfl ⟨trivial, trivial⟩ ?_
          refine z_callSX M.1.1 (av := [.inl 0]) (st := []) (by decide +kernel) (c_mustBeAllowed T' (zwG G' q0) S27 n 0) M.1.2.1 zl_T_128 (z_wi 847 (by decide +kernel) rfl) zs_T_mustBeAllowed ⟨by decide, by decide, by decide, by decide⟩ rfl (Nat.le_of_ble_eq_true rfl) (fun E w' hx => ?_) (fun v w' hv => ?_)
          · obtain ⟨h0, rfl, n2, hn2, rfl⟩ := hx
            exact M.2 _ _ (hX _ _ n2 _ hn2 K) (Nat.le_of_ble_eq_true rfl) (Nat.le_of_ble_eq_true rfl)
          · obtain ⟨h0, rfl, rfl⟩ := hv
            exact absurd rfl h0
        · rw [if_pos c31] at K hs
          refine z_go2 M.1.1 34 [(.iconst 1, 1), (.goto 4, 3)] (39, [(0, z_r 0), (1, .inl p1), (2, .inl p2)], [.inl 1], zW T' (zwG G' q0) S27 n, 1, 6) (by decide +kernel) rfl ⟨trivial, trivial, trivial⟩ ?_
          refine z_callSX M.1.1 (av := [.inl 1]) (st := []) (by decide +kernel) (c_mustBeAllowed T' (zwG G' q0) S27 n 1) M.1.2.1 zl_T_128 (z_wi 847 (by decide +kernel) rfl) zs_T_mustBeAllowed ⟨by decide, by decide, by decide, by decide⟩ rfl (Nat.le_of_ble_eq_true rfl) (fun E w' hx => ?_) (fun v w' hv => ?_)
          · obtain ⟨h0, rfl, n2, hn2, rfl⟩ := hx
            exact absurd h0 (by decide)
          · obtain ⟨h0, rfl, rfl⟩ := hv
            show z_G X zm_T_count (42, [(0, z_r 0), (1, .inl p1), (2, .inl p2)], [], zW T' (zwG G' q0) S27 n, 2, 12)
            refine z_go2 M.1.1 42 [(.aload_n 0, 1), (.iload_n 1, 1), (.iload_n 2, 1)] (45, [(0, z_r 0), (1, .inl p1), (2, .inl p2)], [.inl p2, .inl p1, z_r 0], zW T' (zwG G' q0) S27 n, 2, 12) (by decide +kernel) rfl ⟨trivial, trivial, trivial, trivial⟩ ?_
            refine z_callV M.1.1 (av := [.inl p1, .inl p2]) (st := []) (a := 0) (ci := 11) (by decide +kernel) (c_T_lookOn T' G' q0 S27 n p1 p2 hs.1) M.1.2.1 zl_T_296 zv_T_lookOn rfl rfl rfl ⟨by decide, by decide, by decide, by decide⟩ rfl (Nat.le_of_ble_eq_true rfl) (fun v w' hv => ?_)
            replace hs := hs.2
            obtain ⟨S45, hF45⟩ : ∃ y, F_T_lookOn S27 p1 p2 = y := ⟨_, rfl⟩
            rw [hF45] at K hv
            try rw [hF45] at hs
            try dsimp only [z_let] at K hs
            obtain ⟨rfl, rfl⟩ := hv
            show z_G X zm_T_count (48, [(0, z_r 0), (1, .inl p1), (2, .inl p2)], [], zW T' (zwG G' 28) S45 n, 2, 12)
            refine z_go2 M.1.1 48 [(.aload_n 0, 1), (.getfield 29, 3)] (52, [(0, z_r 0), (1, .inl p1), (2, .inl p2)], [z_r 17], zW T' (zwG G' 28) S45 n, 2, 12) (by decide +kernel) rfl ⟨trivial, rfl, trivial⟩ ?_
            refine z_callV M.1.1 (av := []) (st := []) (a := 17) (ci := 1) (by decide +kernel) (c_Finder_hits_28 T' G' S45 n hs.1) M.1.2.1 zl_T_299 zv_Finder_hits rfl rfl rfl ⟨by decide, by decide, by decide, by decide⟩ rfl (Nat.le_of_ble_eq_true rfl) (fun v w' hv => ?_)
            replace hs := hs.2
            rcases hF52 : F_Finder_hits 28 S45 with ⟨r52, S52⟩
            rw [hF52] at K hv
            try dsimp only at K
            obtain ⟨rfl, rfl⟩ := hv
            show z_G X zm_T_count (55, [(0, z_r 0), (1, .inl p1), (2, .inl p2)], [.inl r52], zW T' (zwG G' 28) S52 n, 2, 12)
            refine z_callS M.1.1 (av := [.inl r52]) (st := []) (by decide +kernel) (c_bitCount (zW T' (zwG G' 28) S52 n) r52) M.1.2.1 zl_T_302 zs_Integer_bitCount ⟨by decide, by decide, by decide, by decide⟩ rfl (Nat.le_of_ble_eq_true rfl) (fun v w' hv => ?_)
            obtain ⟨rfl, rfl⟩ := hv
            show z_G X zm_T_count (58, [(0, z_r 0), (1, .inl p1), (2, .inl p2)], [.inl (F_bitCount r52)], zW T' (zwG G' 28) S52 n, 2, 12)
            exact z_iret M.1 (by decide +kernel) .int rfl rfl (by decide) (by decide) (hQ _ _ _ K)

-- TrackHouse.found
abbrev rm_T_found : Room := zx 7 3
def F_T_found_L84 (x3 : Int32) (x4 : Int32) : Nat → (Nat → Nat → Int32) → Int32 → Int32 → (((Nat → Nat → Int32)) ⊕ ((String ⊕ Int32) × (Nat → Nat → Int32)))
  | 0, S, x5, x6 => (.inl S)
  | f + 1, S, x5, x6 => (if (30 : Int32) ≤ x6 then (.inl S) else (if (F_T_isIn S x4 x6) = 0 then ((F_T_found_L84 x3 x4 f) S x5 (x6 + 1)) else (if x5 = x3 then (.inr (.inr x6, S)) else ((F_T_found_L84 x3 x4 f) S (x5 + 1) (x6 + 1)))))
def Sf_T_found_L84 (x3 : Int32) (x4 : Int32) : Nat → (Nat → Nat → Int32) → Int32 → Int32 → Prop
  | 0, _, _, _ => False
  | f + 1, S, x5, x6 => (if (30 : Int32) ≤ x6 then True else (if (F_T_isIn S x4 x6) = 0 then ((Sf_T_found_L84 x3 x4 f) S x5 (x6 + 1)) else (if x5 = x3 then True else ((Sf_T_found_L84 x3 x4 f) S (x5 + 1) (x6 + 1)))))
theorem t_T_found_L84 {X : z_X} {Post : Option z_V → z_W → Prop} {PX : String → z_W → Prop} (M : z_MX X zm_T_found rm_T_found Post PX) {T' : Nat → Nat × Nat} {G' : Nat → Nat → Option Nat} {n : Nat} {q0 : Nat} {Q : (((Nat → Nat → Int32)) ⊕ ((String ⊕ Int32) × (Nat → Nat → Int32))) → Prop}  (x3 : Int32) (x4 : Int32) (hQ : ∀ v S' (q : Nat), Q (.inr (.inr v, S')) → Post (some (.inl v)) (zW T' (zwG G' q) S' n)) (hX : ∀ E S' (n2 : Nat) (q : Nat), n ≤ n2 → Q (.inr (.inl E, S')) → PX E (zW T' (zwG G' q) S' n2)) (hE : ∀ (S' : (Nat → Nat → Int32)), Q (.inl S') → z_G X zm_T_found (119, [], [], zW T' (zwG G' 28) S' n, 3, 18)) (f : Nat) : ∀ (S : (Nat → Nat → Int32)) (x5 : Int32) (x6 : Int32), Q (F_T_found_L84 x3 x4 f S x5 x6) → Sf_T_found_L84 x3 x4 f S x5 x6 → z_G X zm_T_found (84, [(3, .inl x3), (4, .inl x4), (5, .inl x5), (6, .inl x6)], [], zW T' (zwG G' 28) S n, 3, 18) := by
  induction f with
  | zero => intro S x5 x6 K hs; exact False.elim hs
  | succ f hC =>
    intro S x5 x6 K hs
    rw [F_T_found_L84] at K
    rw [Sf_T_found_L84] at hs
    refine z_go2 M.1.1 84 [(.iload 6, 2), (.bipush 30, 2)] (88, [(3, .inl x3), (4, .inl x4), (5, .inl x5), (6, .inl x6)], [.inl 30, .inl x6], zW T' (zwG G' 28) S n, 3, 18) (by decide +kernel) rfl ⟨trivial, trivial, trivial⟩ ?_
    refine z_icmp_ge 119 M.1.1 (off := 31) (by decide +kernel) (by decide) (fun c88 => ?_) (fun c88 => ?_)
    · rw [if_pos c88] at K hs
      exact z_lvs (lv' := []) [] rfl (hE S K)
    · rw [if_neg c88] at K hs
      refine z_go2 M.1.1 91 [(.iload 4, 2), (.iload 6, 2)] (95, [(3, .inl x3), (4, .inl x4), (5, .inl x5), (6, .inl x6)], [.inl x6, .inl x4], zW T' (zwG G' 28) S n, 3, 18) (by decide +kernel) rfl ⟨trivial, trivial, trivial⟩ ?_
      refine z_callS M.1.1 (av := [.inl x4, .inl x6]) (st := []) (by decide +kernel) (c_T_isIn T' (zwG G' 28) S n x4 x6) M.1.2.1 zl_T_307 zs_T_isIn ⟨by decide, by decide, by decide, by decide⟩ rfl (Nat.le_of_ble_eq_true rfl) (fun v w' hv => ?_)
      obtain ⟨rfl, rfl⟩ := hv
      show z_G X zm_T_found (98, [(3, .inl x3), (4, .inl x4), (5, .inl x5), (6, .inl x6)], [.inl (F_T_isIn S x4 x6)], zW T' (zwG G' 28) S n, 3, 18)
      refine z_if_eq 113 M.1.1 (off := 15) (by decide +kernel) (by decide) (fun c98 => ?_) (fun c98 => ?_)
      · rw [if_pos c98] at K hs
        refine z_go2 M.1.1 113 [(.iinc 6 1, 3), (.goto (-32), 3)] (84, [(6, .inl (x6 + 1)), (3, .inl x3), (4, .inl x4), (5, .inl x5)], [], zW T' (zwG G' 28) S n, 3, 18) (by decide +kernel) rfl ⟨trivial, trivial, trivial⟩ ?_
        exact z_lvs (lv' := [(3, .inl x3), (4, .inl x4), (5, .inl x5), (6, .inl (x6 + 1))]) [1, 2, 3, 0] rfl (hC S x5 (x6 + 1) K hs)
      · rw [if_neg c98] at K hs
        refine z_go2 M.1.1 101 [(.iload 5, 2), (.iload_n 3, 1)] (104, [(3, .inl x3), (4, .inl x4), (5, .inl x5), (6, .inl x6)], [.inl x3, .inl x5], zW T' (zwG G' 28) S n, 3, 18) (by decide +kernel) rfl ⟨trivial, trivial, trivial⟩ ?_
        refine z_icmp_ne 110 M.1.1 (off := 6) (by decide +kernel) (by decide) (fun c104 => ?_) (fun c104 => ?_)
        · rw [if_neg c104] at K hs
          refine z_go2 M.1.1 110 [(.iinc 5 1, 3), (.iinc 6 1, 3), (.goto (-32), 3)] (84, [(6, .inl (x6 + 1)), (5, .inl (x5 + 1)), (3, .inl x3), (4, .inl x4)], [], zW T' (zwG G' 28) S n, 3, 18) (by decide +kernel) rfl ⟨trivial, trivial, trivial, trivial⟩ ?_
          exact z_lvs (lv' := [(3, .inl x3), (4, .inl x4), (5, .inl (x5 + 1)), (6, .inl (x6 + 1))]) [2, 3, 1, 0] rfl (hC S (x5 + 1) (x6 + 1) K hs)
        · rw [if_pos c104] at K hs
          refine z_go2 M.1.1 107 [(.iload 6, 2)] (109, [(3, .inl x3), (4, .inl x4), (5, .inl x5), (6, .inl x6)], [.inl x6], zW T' (zwG G' 28) S n, 3, 18) (by decide +kernel) rfl ⟨trivial, trivial⟩ ?_
          exact z_iret M.1 (by decide +kernel) .int rfl rfl (by decide) (by decide) (hQ _ _ _ K)
def F_T_found (S : (Nat → Nat → Int32)) (p1 : Int32) (p2 : Int32) (p3 : Int32) : ((String ⊕ Int32) × (Nat → Nat → Int32)) := (if (F_T_isPerson S p1) = 0 then (.inl "java/lang/IndexOutOfBoundsException", S) else (if (F_T_isDay S p2) = 0 then (.inl "java/lang/IndexOutOfBoundsException", S) else (match F_Query_compile S with | (r27, S27) => (if r27 = (-1) then (z_let (F_T_lookOn S27 p1 p2) (fun S45 => (match F_Finder_hits 28 S45 with | (r52, S52) => (if p3 < 0 then (.inl "java/lang/IndexOutOfBoundsException", S52) else (if (F_bitCount r52) ≤ p3 then (.inl "java/lang/IndexOutOfBoundsException", S52) else (match F_T_found_L84 p3 r52 1300 S52 0 0 with | .inl S84 => (.inr (-1), S84) | .inr r => r)))))) else (.inl "java/lang/IllegalStateException", S27)))))
def Sf_T_found (S : (Nat → Nat → Int32)) (p1 : Int32) (p2 : Int32) (p3 : Int32) : Prop := (if (F_T_isPerson S p1) = 0 then True else (if (F_T_isDay S p2) = 0 then True else (Sf_Query_compile S ∧ (match F_Query_compile S with | (r27, S27) => (if r27 = (-1) then (Sf_T_lookOn S27 p1 p2 ∧ (z_let (F_T_lookOn S27 p1 p2) (fun S45 => (Sf_Finder_hits 28 S45 ∧ (match F_Finder_hits 28 S45 with | (r52, S52) => (if p3 < 0 then True else (if (F_bitCount r52) ≤ p3 then True else (Sf_T_found_L84 p3 r52 1300 S52 0 0 ∧ True)))))))) else True)))))
theorem c_T_found (T' : Nat → Nat × Nat) (G' : Nat → Nat → Option Nat) (q0 : Nat) (S : (Nat → Nat → Int32)) (n : Nat) (p1 : Int32) (p2 : Int32) (p3 : Int32) (hs : Sf_T_found S p1 p2 p3) : z_RunX rm_T_found zm_T_found [z_r 0, .inl p1, .inl p2, .inl p3] (zW T' (zwG G' q0) S n) (fun v w' => ∃ x S' q, F_T_found S p1 p2 p3 = (.inr x, S') ∧ v = some (.inl x) ∧ w' = zW T' (zwG G' q) S' n) (fun E w' => ∃ S' n2 q, n ≤ n2 ∧ F_T_found S p1 p2 p3 = (.inl E, S') ∧ w' = zW T' (zwG G' q) S' n2) := by
  refine z_bodyX (by decide) zf_T_ok (Nat.le_of_ble_eq_true rfl) (fun X M => ?_)
  obtain ⟨Q, hQ, hX, K⟩ : ∃ Q : ((String ⊕ Int32) × (Nat → Nat → Int32)) → Prop, (∀ v S' q, Q (.inr v, S') → ∃ x S'' q2, F_T_found S p1 p2 p3 = (.inr x, S'') ∧ some (.inl v : z_V) = some (.inl x) ∧ zW T' (zwG G' q) S' n = zW T' (zwG G' q2) S'' n) ∧ (∀ E S' (n2 : Nat) q, n ≤ n2 → Q (.inl E, S') → ∃ S'' n3 q2, n ≤ n3 ∧ F_T_found S p1 p2 p3 = (.inl E, S'') ∧ zW T' (zwG G' q) S' n2 = zW T' (zwG G' q2) S'' n3) ∧ Q (F_T_found S p1 p2 p3) := ⟨fun o => F_T_found S p1 p2 p3 = o, fun v S' q h => ⟨v, S', q, h, rfl, rfl⟩, fun E S' n2 q hn h => ⟨S', n2, q, hn, h, rfl⟩, rfl⟩
  show z_G X zm_T_found (0, [(0, z_r 0), (1, .inl p1), (2, .inl p2), (3, .inl p3)], [], zW T' (zwG G' q0) S n, 0, 0)
  unfold F_T_found at K
  unfold Sf_T_found at hs
  refine z_go2 M.1.1 0 [(.iload_n 1, 1)] (1, [(0, z_r 0), (1, .inl p1), (2, .inl p2), (3, .inl p3)], [.inl p1], zW T' (zwG G' q0) S n, 0, 0) (by decide +kernel) rfl ⟨trivial, trivial⟩ ?_
  refine z_callS M.1.1 (av := [.inl p1]) (st := []) (by decide +kernel) (c_T_isPerson T' (zwG G' q0) S n p1) M.1.2.1 zl_T_97 zs_T_isPerson ⟨by decide, by decide, by decide, by decide⟩ rfl (Nat.le_of_ble_eq_true rfl) (fun v w' hv => ?_)
  obtain ⟨rfl, rfl⟩ := hv
  show z_G X zm_T_found (4, [(0, z_r 0), (1, .inl p1), (2, .inl p2), (3, .inl p3)], [.inl (F_T_isPerson S p1)], zW T' (zwG G' q0) S n, 0, 0)
  refine z_if_eq 19 M.1.1 (off := 15) (by decide +kernel) (by decide) (fun c4 => ?_) (fun c4 => ?_)
  · rw [if_pos c4] at K hs
    refine z_go2 M.1.1 19 [(.iconst 0, 1)] (20, [(0, z_r 0), (1, .inl p1), (2, .inl p2), (3, .inl p3)], [.inl 0], zW T' (zwG G' q0) S n, 0, 0) (by decide +kernel) rfl ⟨trivial, trivial⟩ ?_
    refine z_callSX M.1.1 (av := [.inl 0]) (st := []) (by decide +kernel) (c_mustExist T' (zwG G' q0) S n 0) M.1.2.1 zl_T_104 (z_wi 698 (by decide +kernel) rfl) zs_T_mustExist ⟨by decide, by decide, by decide, by decide⟩ rfl (Nat.le_of_ble_eq_true rfl) (fun E w' hx => ?_) (fun v w' hv => ?_)
    · obtain ⟨h0, rfl, n2, hn2, rfl⟩ := hx
      exact M.2 _ _ (hX _ _ n2 _ hn2 K) (Nat.le_of_ble_eq_true rfl) (Nat.le_of_ble_eq_true rfl)
    · obtain ⟨h0, rfl, rfl⟩ := hv
      exact absurd rfl h0
  · rw [if_neg c4] at K hs
    refine z_go2 M.1.1 7 [(.aload_n 0, 1), (.iload_n 2, 1)] (9, [(0, z_r 0), (1, .inl p1), (2, .inl p2), (3, .inl p3)], [.inl p2, z_r 0], zW T' (zwG G' q0) S n, 0, 0) (by decide +kernel) rfl ⟨trivial, trivial, trivial⟩ ?_
    refine z_callV M.1.1 (av := [.inl p2]) (st := []) (a := 0) (ci := 11) (by decide +kernel) (c_T_isDay T' (zwG G' q0) S n p2) M.1.2.1 zl_T_293 zv_T_isDay rfl rfl rfl ⟨by decide, by decide, by decide, by decide⟩ rfl (Nat.le_of_ble_eq_true rfl) (fun v w' hv => ?_)
    obtain ⟨rfl, rfl⟩ := hv
    show z_G X zm_T_found (12, [(0, z_r 0), (1, .inl p1), (2, .inl p2), (3, .inl p3)], [.inl (F_T_isDay S p2)], zW T' (zwG G' q0) S n, 0, 0)
    refine z_if_eq 19 M.1.1 (off := 7) (by decide +kernel) (by decide) (fun c12 => ?_) (fun c12 => ?_)
    · rw [if_pos c12] at K hs
      refine z_go2 M.1.1 19 [(.iconst 0, 1)] (20, [(0, z_r 0), (1, .inl p1), (2, .inl p2), (3, .inl p3)], [.inl 0], zW T' (zwG G' q0) S n, 0, 0) (by decide +kernel) rfl ⟨trivial, trivial⟩ ?_
      refine z_callSX M.1.1 (av := [.inl 0]) (st := []) (by decide +kernel) (c_mustExist T' (zwG G' q0) S n 0) M.1.2.1 zl_T_104 (z_wi 698 (by decide +kernel) rfl) zs_T_mustExist ⟨by decide, by decide, by decide, by decide⟩ rfl (Nat.le_of_ble_eq_true rfl) (fun E w' hx => ?_) (fun v w' hv => ?_)
      · obtain ⟨h0, rfl, n2, hn2, rfl⟩ := hx
        exact M.2 _ _ (hX _ _ n2 _ hn2 K) (Nat.le_of_ble_eq_true rfl) (Nat.le_of_ble_eq_true rfl)
      · obtain ⟨h0, rfl, rfl⟩ := hv
        exact absurd rfl h0
    · rw [if_neg c12] at K hs
      refine z_go2 M.1.1 15 [(.iconst 1, 1), (.goto 4, 3)] (20, [(0, z_r 0), (1, .inl p1), (2, .inl p2), (3, .inl p3)], [.inl 1], zW T' (zwG G' q0) S n, 0, 0) (by decide +kernel) rfl ⟨trivial, trivial, trivial⟩ ?_
      refine z_callSX M.1.1 (av := [.inl 1]) (st := []) (by decide +kernel) (c_mustExist T' (zwG G' q0) S n 1) M.1.2.1 zl_T_104 (z_wi 698 (by decide +kernel) rfl) zs_T_mustExist ⟨by decide, by decide, by decide, by decide⟩ rfl (Nat.le_of_ble_eq_true rfl) (fun E w' hx => ?_) (fun v w' hv => ?_)
      · obtain ⟨h0, rfl, n2, hn2, rfl⟩ := hx
        exact absurd h0 (by decide)
      · obtain ⟨h0, rfl, rfl⟩ := hv
        show z_G X zm_T_found (23, [(0, z_r 0), (1, .inl p1), (2, .inl p2), (3, .inl p3)], [], zW T' (zwG G' q0) S n, 1, 6)
        refine z_go2 M.1.1 23 [(.aload_n 0, 1), (.getfield 37, 3)] (27, [(0, z_r 0), (1, .inl p1), (2, .inl p2), (3, .inl p3)], [z_r 19], zW T' (zwG G' q0) S n, 1, 6) (by decide +kernel) rfl ⟨trivial, rfl, trivial⟩ ?_
        refine z_callV M.1.1 (av := []) (st := []) (a := 19) (ci := 5) (by decide +kernel) (c_Query_compile T' (zwG G' q0) S n hs.1) M.1.2.1 zl_T_290 zv_Query_compile rfl rfl rfl ⟨by decide, by decide, by decide, by decide⟩ rfl (Nat.le_of_ble_eq_true rfl) (fun v w' hv => ?_)
        replace hs := hs.2
        rcases hF27 : F_Query_compile S with ⟨r27, S27⟩
        rw [hF27] at K hv
        try rw [hF27] at hs
        try dsimp only at K hs
        obtain ⟨rfl, rfl⟩ := hv
        show z_G X zm_T_found (30, [(0, z_r 0), (1, .inl p1), (2, .inl p2), (3, .inl p3)], [.inl r27], zW T' (zwG G' q0) S27 n, 1, 6)
        refine z_go2 M.1.1 30 [(.iconst (-1), 1)] (31, [(0, z_r 0), (1, .inl p1), (2, .inl p2), (3, .inl p3)], [.inl (-1), .inl r27], zW T' (zwG G' q0) S27 n, 1, 6) (by decide +kernel) rfl ⟨trivial, trivial⟩ ?_
        refine z_icmp_ne 38 M.1.1 (off := 7) (by decide +kernel) (by decide) (fun c31 => ?_) (fun c31 => ?_)
        · rw [if_neg c31] at K hs
          refine z_go2 M.1.1 38 [(.iconst 0, 1)] (39, [(0, z_r 0), (1, .inl p1), (2, .inl p2), (3, .inl p3)], [.inl 0], zW T' (zwG G' q0) S27 n, 1, 6) (by decide +kernel) rfl ⟨trivial, trivial⟩ ?_
          refine z_callSX M.1.1 (av := [.inl 0]) (st := []) (by decide +kernel) (c_mustBeAllowed T' (zwG G' q0) S27 n 0) M.1.2.1 zl_T_128 (z_wi 847 (by decide +kernel) rfl) zs_T_mustBeAllowed ⟨by decide, by decide, by decide, by decide⟩ rfl (Nat.le_of_ble_eq_true rfl) (fun E w' hx => ?_) (fun v w' hv => ?_)
          · obtain ⟨h0, rfl, n2, hn2, rfl⟩ := hx
            exact M.2 _ _ (hX _ _ n2 _ hn2 K) (Nat.le_of_ble_eq_true rfl) (Nat.le_of_ble_eq_true rfl)
          · obtain ⟨h0, rfl, rfl⟩ := hv
            exact absurd rfl h0
        · rw [if_pos c31] at K hs
          refine z_go2 M.1.1 34 [(.iconst 1, 1), (.goto 4, 3)] (39, [(0, z_r 0), (1, .inl p1), (2, .inl p2), (3, .inl p3)], [.inl 1], zW T' (zwG G' q0) S27 n, 1, 6) (by decide +kernel) rfl ⟨trivial, trivial, trivial⟩ ?_
          refine z_callSX M.1.1 (av := [.inl 1]) (st := []) (by decide +kernel) (c_mustBeAllowed T' (zwG G' q0) S27 n 1) M.1.2.1 zl_T_128 (z_wi 847 (by decide +kernel) rfl) zs_T_mustBeAllowed ⟨by decide, by decide, by decide, by decide⟩ rfl (Nat.le_of_ble_eq_true rfl) (fun E w' hx => ?_) (fun v w' hv => ?_)
          · obtain ⟨h0, rfl, n2, hn2, rfl⟩ := hx
            exact absurd h0 (by decide)
          · obtain ⟨h0, rfl, rfl⟩ := hv
            show z_G X zm_T_found (42, [(0, z_r 0), (1, .inl p1), (2, .inl p2), (3, .inl p3)], [], zW T' (zwG G' q0) S27 n, 2, 12)
            refine z_go2 M.1.1 42 [(.aload_n 0, 1), (.iload_n 1, 1), (.iload_n 2, 1)] (45, [(0, z_r 0), (1, .inl p1), (2, .inl p2), (3, .inl p3)], [.inl p2, .inl p1, z_r 0], zW T' (zwG G' q0) S27 n, 2, 12) (by decide +kernel) rfl ⟨trivial, trivial, trivial, trivial⟩ ?_
            refine z_callV M.1.1 (av := [.inl p1, .inl p2]) (st := []) (a := 0) (ci := 11) (by decide +kernel) (c_T_lookOn T' G' q0 S27 n p1 p2 hs.1) M.1.2.1 zl_T_296 zv_T_lookOn rfl rfl rfl ⟨by decide, by decide, by decide, by decide⟩ rfl (Nat.le_of_ble_eq_true rfl) (fun v w' hv => ?_)
            replace hs := hs.2
            obtain ⟨S45, hF45⟩ : ∃ y, F_T_lookOn S27 p1 p2 = y := ⟨_, rfl⟩
            rw [hF45] at K hv
            try rw [hF45] at hs
            try dsimp only [z_let] at K hs
            obtain ⟨rfl, rfl⟩ := hv
            show z_G X zm_T_found (48, [(0, z_r 0), (1, .inl p1), (2, .inl p2), (3, .inl p3)], [], zW T' (zwG G' 28) S45 n, 2, 12)
            refine z_go2 M.1.1 48 [(.aload_n 0, 1), (.getfield 29, 3)] (52, [(0, z_r 0), (1, .inl p1), (2, .inl p2), (3, .inl p3)], [z_r 17], zW T' (zwG G' 28) S45 n, 2, 12) (by decide +kernel) rfl ⟨trivial, rfl, trivial⟩ ?_
            refine z_callV M.1.1 (av := []) (st := []) (a := 17) (ci := 1) (by decide +kernel) (c_Finder_hits_28 T' G' S45 n hs.1) M.1.2.1 zl_T_299 zv_Finder_hits rfl rfl rfl ⟨by decide, by decide, by decide, by decide⟩ rfl (Nat.le_of_ble_eq_true rfl) (fun v w' hv => ?_)
            replace hs := hs.2
            rcases hF52 : F_Finder_hits 28 S45 with ⟨r52, S52⟩
            rw [hF52] at K hv
            try rw [hF52] at hs
            try dsimp only at K hs
            obtain ⟨rfl, rfl⟩ := hv
            show z_G X zm_T_found (55, [(0, z_r 0), (1, .inl p1), (2, .inl p2), (3, .inl p3)], [.inl r52], zW T' (zwG G' 28) S52 n, 2, 12)
            refine z_go2 M.1.1 55 [(.istore 4, 2), (.iload_n 3, 1)] (58, [(4, .inl r52), (0, z_r 0), (1, .inl p1), (2, .inl p2), (3, .inl p3)], [.inl p3], zW T' (zwG G' 28) S52 n, 2, 12) (by decide +kernel) rfl ⟨trivial, trivial, trivial⟩ ?_
            refine z_if_lt 74 M.1.1 (off := 16) (by decide +kernel) (by decide) (fun c58 => ?_) (fun c58 => ?_)
            · rw [if_pos c58] at K hs
              refine z_go2 M.1.1 74 [(.iconst 0, 1)] (75, [(4, .inl r52), (0, z_r 0), (1, .inl p1), (2, .inl p2), (3, .inl p3)], [.inl 0], zW T' (zwG G' 28) S52 n, 2, 12) (by decide +kernel) rfl ⟨trivial, trivial⟩ ?_
              refine z_callSX M.1.1 (av := [.inl 0]) (st := []) (by decide +kernel) (c_mustExist T' (zwG G' 28) S52 n 0) M.1.2.1 zl_T_104 (z_wi 698 (by decide +kernel) rfl) zs_T_mustExist ⟨by decide, by decide, by decide, by decide⟩ rfl (Nat.le_of_ble_eq_true rfl) (fun E w' hx => ?_) (fun v w' hv => ?_)
              · obtain ⟨h0, rfl, n2, hn2, rfl⟩ := hx
                exact M.2 _ _ (hX _ _ n2 _ hn2 K) (Nat.le_of_ble_eq_true rfl) (Nat.le_of_ble_eq_true rfl)
              · obtain ⟨h0, rfl, rfl⟩ := hv
                exact absurd rfl h0
            · rw [if_neg c58] at K hs
              refine z_go2 M.1.1 61 [(.iload_n 3, 1), (.iload 4, 2)] (64, [(4, .inl r52), (0, z_r 0), (1, .inl p1), (2, .inl p2), (3, .inl p3)], [.inl r52, .inl p3], zW T' (zwG G' 28) S52 n, 2, 12) (by decide +kernel) rfl ⟨trivial, trivial, trivial⟩ ?_
              refine z_callS M.1.1 (av := [.inl r52]) (st := [.inl p3]) (by decide +kernel) (c_bitCount (zW T' (zwG G' 28) S52 n) r52) M.1.2.1 zl_T_302 zs_Integer_bitCount ⟨by decide, by decide, by decide, by decide⟩ rfl (Nat.le_of_ble_eq_true rfl) (fun v w' hv => ?_)
              obtain ⟨rfl, rfl⟩ := hv
              show z_G X zm_T_found (67, [(4, .inl r52), (0, z_r 0), (1, .inl p1), (2, .inl p2), (3, .inl p3)], [.inl (F_bitCount r52), .inl p3], zW T' (zwG G' 28) S52 n, 2, 12)
              refine z_icmp_ge 74 M.1.1 (off := 7) (by decide +kernel) (by decide) (fun c67 => ?_) (fun c67 => ?_)
              · rw [if_pos c67] at K hs
                refine z_go2 M.1.1 74 [(.iconst 0, 1)] (75, [(4, .inl r52), (0, z_r 0), (1, .inl p1), (2, .inl p2), (3, .inl p3)], [.inl 0], zW T' (zwG G' 28) S52 n, 2, 12) (by decide +kernel) rfl ⟨trivial, trivial⟩ ?_
                refine z_callSX M.1.1 (av := [.inl 0]) (st := []) (by decide +kernel) (c_mustExist T' (zwG G' 28) S52 n 0) M.1.2.1 zl_T_104 (z_wi 698 (by decide +kernel) rfl) zs_T_mustExist ⟨by decide, by decide, by decide, by decide⟩ rfl (Nat.le_of_ble_eq_true rfl) (fun E w' hx => ?_) (fun v w' hv => ?_)
                · obtain ⟨h0, rfl, n2, hn2, rfl⟩ := hx
                  exact M.2 _ _ (hX _ _ n2 _ hn2 K) (Nat.le_of_ble_eq_true rfl) (Nat.le_of_ble_eq_true rfl)
                · obtain ⟨h0, rfl, rfl⟩ := hv
                  exact absurd rfl h0
              · rw [if_neg c67] at K hs
                refine z_go2 M.1.1 70 [(.iconst 1, 1), (.goto 4, 3)] (75, [(4, .inl r52), (0, z_r 0), (1, .inl p1), (2, .inl p2), (3, .inl p3)], [.inl 1], zW T' (zwG G' 28) S52 n, 2, 12) (by decide +kernel) rfl ⟨trivial, trivial, trivial⟩ ?_
                refine z_callSX M.1.1 (av := [.inl 1]) (st := []) (by decide +kernel) (c_mustExist T' (zwG G' 28) S52 n 1) M.1.2.1 zl_T_104 (z_wi 698 (by decide +kernel) rfl) zs_T_mustExist ⟨by decide, by decide, by decide, by decide⟩ rfl (Nat.le_of_ble_eq_true rfl) (fun E w' hx => ?_) (fun v w' hv => ?_)
                · obtain ⟨h0, rfl, n2, hn2, rfl⟩ := hx
                  exact absurd h0 (by decide)
                · obtain ⟨h0, rfl, rfl⟩ := hv
                  show z_G X zm_T_found (78, [(4, .inl r52), (0, z_r 0), (1, .inl p1), (2, .inl p2), (3, .inl p3)], [], zW T' (zwG G' 28) S52 n, 3, 18)
                  refine z_go2 M.1.1 78 [(.iconst 0, 1), (.istore 5, 2), (.iconst 0, 1), (.istore 6, 2)] (84, [(6, .inl 0), (5, .inl 0), (4, .inl r52), (0, z_r 0), (1, .inl p1), (2, .inl p2), (3, .inl p3)], [], zW T' (zwG G' 28) S52 n, 3, 18) (by decide +kernel) rfl ⟨trivial, trivial, trivial, trivial, trivial⟩ ?_
                  refine z_lvs (lv' := [(3, .inl p3), (4, .inl r52), (5, .inl 0), (6, .inl 0)]) [6, 2, 1, 0] rfl ?_
                  refine t_T_found_L84 M (q0 := q0) (Q := fun o => F_T_found_L84 p3 r52 1300 S52 0 0 = o) p3 r52 (fun v S' q h => by rw [h] at K; exact hQ _ _ _ K) (fun E S' n2 q hn h => by rw [h] at K; exact hX _ _ _ _ hn K) (fun S84 hL84 => ?_) 1300 S52 0 0 rfl hs.1
                  replace hs := hs.2
                  rw [hL84] at K
                  try dsimp only at K
                  refine z_go2 M.1.1 119 [(.iconst (-1), 1)] (120, [], [.inl (-1)], zW T' (zwG G' 28) S84 n, 3, 18) (by decide +kernel) rfl ⟨trivial, trivial⟩ ?_
                  exact z_iret M.1 (by decide +kernel) .int rfl rfl (by decide) (by decide) (hQ _ _ _ K)

-- TrackHouse.sum
abbrev rm_T_sum : Room := zx 7 3
def F_T_sum (S : (Nat → Nat → Int32)) (p1 : Int32) (p2 : Int32) (p3 : Int32) : ((String ⊕ Int32) × (Nat → Nat → Int32)) := (if (F_T_isPerson S p1) = 0 then (.inl "java/lang/IndexOutOfBoundsException", S) else (if (F_T_isDay S p2) = 0 then (.inl "java/lang/IndexOutOfBoundsException", S) else (if (F_T_isAnyField S p3) = 0 then (.inl "java/lang/IllegalArgumentException", S) else (match F_Query_compile S with | (r34, S34) => (if r34 = (-1) then (z_let (F_T_lookOn S34 p1 p2) (fun S52 => (match F_Finder_hits 28 S52 with | (r63, S63) => (.inr (F_Sight_total 28 S63 r63 p3), S63)))) else (.inl "java/lang/IllegalStateException", S34))))))
def Sf_T_sum (S : (Nat → Nat → Int32)) (p1 : Int32) (p2 : Int32) (p3 : Int32) : Prop := (if (F_T_isPerson S p1) = 0 then True else (if (F_T_isDay S p2) = 0 then True else (if (F_T_isAnyField S p3) = 0 then True else (Sf_Query_compile S ∧ (match F_Query_compile S with | (r34, S34) => (if r34 = (-1) then (Sf_T_lookOn S34 p1 p2 ∧ (z_let (F_T_lookOn S34 p1 p2) (fun S52 => (Sf_Finder_hits 28 S52 ∧ (match F_Finder_hits 28 S52 with | (r63, S63) => (Sf_Sight_total 28 S63 r63 p3 ∧ True)))))) else True))))))
theorem c_T_sum (T' : Nat → Nat × Nat) (G' : Nat → Nat → Option Nat) (q0 : Nat) (S : (Nat → Nat → Int32)) (n : Nat) (p1 : Int32) (p2 : Int32) (p3 : Int32) (hs : Sf_T_sum S p1 p2 p3) : z_RunX rm_T_sum zm_T_sum [z_r 0, .inl p1, .inl p2, .inl p3] (zW T' (zwG G' q0) S n) (fun v w' => ∃ x S' q, F_T_sum S p1 p2 p3 = (.inr x, S') ∧ v = some (.inl x) ∧ w' = zW T' (zwG G' q) S' n) (fun E w' => ∃ S' n2 q, n ≤ n2 ∧ F_T_sum S p1 p2 p3 = (.inl E, S') ∧ w' = zW T' (zwG G' q) S' n2) := by
  refine z_bodyX (by decide) zf_T_ok (Nat.le_of_ble_eq_true rfl) (fun X M => ?_)
  obtain ⟨Q, hQ, hX, K⟩ : ∃ Q : ((String ⊕ Int32) × (Nat → Nat → Int32)) → Prop, (∀ v S' q, Q (.inr v, S') → ∃ x S'' q2, F_T_sum S p1 p2 p3 = (.inr x, S'') ∧ some (.inl v : z_V) = some (.inl x) ∧ zW T' (zwG G' q) S' n = zW T' (zwG G' q2) S'' n) ∧ (∀ E S' (n2 : Nat) q, n ≤ n2 → Q (.inl E, S') → ∃ S'' n3 q2, n ≤ n3 ∧ F_T_sum S p1 p2 p3 = (.inl E, S'') ∧ zW T' (zwG G' q) S' n2 = zW T' (zwG G' q2) S'' n3) ∧ Q (F_T_sum S p1 p2 p3) := ⟨fun o => F_T_sum S p1 p2 p3 = o, fun v S' q h => ⟨v, S', q, h, rfl, rfl⟩, fun E S' n2 q hn h => ⟨S', n2, q, hn, h, rfl⟩, rfl⟩
  show z_G X zm_T_sum (0, [(0, z_r 0), (1, .inl p1), (2, .inl p2), (3, .inl p3)], [], zW T' (zwG G' q0) S n, 0, 0)
  unfold F_T_sum at K
  unfold Sf_T_sum at hs
  refine z_go2 M.1.1 0 [(.iload_n 1, 1)] (1, [(0, z_r 0), (1, .inl p1), (2, .inl p2), (3, .inl p3)], [.inl p1], zW T' (zwG G' q0) S n, 0, 0) (by decide +kernel) rfl ⟨trivial, trivial⟩ ?_
  refine z_callS M.1.1 (av := [.inl p1]) (st := []) (by decide +kernel) (c_T_isPerson T' (zwG G' q0) S n p1) M.1.2.1 zl_T_97 zs_T_isPerson ⟨by decide, by decide, by decide, by decide⟩ rfl (Nat.le_of_ble_eq_true rfl) (fun v w' hv => ?_)
  obtain ⟨rfl, rfl⟩ := hv
  show z_G X zm_T_sum (4, [(0, z_r 0), (1, .inl p1), (2, .inl p2), (3, .inl p3)], [.inl (F_T_isPerson S p1)], zW T' (zwG G' q0) S n, 0, 0)
  refine z_if_eq 19 M.1.1 (off := 15) (by decide +kernel) (by decide) (fun c4 => ?_) (fun c4 => ?_)
  · rw [if_pos c4] at K hs
    refine z_go2 M.1.1 19 [(.iconst 0, 1)] (20, [(0, z_r 0), (1, .inl p1), (2, .inl p2), (3, .inl p3)], [.inl 0], zW T' (zwG G' q0) S n, 0, 0) (by decide +kernel) rfl ⟨trivial, trivial⟩ ?_
    refine z_callSX M.1.1 (av := [.inl 0]) (st := []) (by decide +kernel) (c_mustExist T' (zwG G' q0) S n 0) M.1.2.1 zl_T_104 (z_wi 698 (by decide +kernel) rfl) zs_T_mustExist ⟨by decide, by decide, by decide, by decide⟩ rfl (Nat.le_of_ble_eq_true rfl) (fun E w' hx => ?_) (fun v w' hv => ?_)
    · obtain ⟨h0, rfl, n2, hn2, rfl⟩ := hx
      exact M.2 _ _ (hX _ _ n2 _ hn2 K) (Nat.le_of_ble_eq_true rfl) (Nat.le_of_ble_eq_true rfl)
    · obtain ⟨h0, rfl, rfl⟩ := hv
      exact absurd rfl h0
  · rw [if_neg c4] at K hs
    refine z_go2 M.1.1 7 [(.aload_n 0, 1), (.iload_n 2, 1)] (9, [(0, z_r 0), (1, .inl p1), (2, .inl p2), (3, .inl p3)], [.inl p2, z_r 0], zW T' (zwG G' q0) S n, 0, 0) (by decide +kernel) rfl ⟨trivial, trivial, trivial⟩ ?_
    refine z_callV M.1.1 (av := [.inl p2]) (st := []) (a := 0) (ci := 11) (by decide +kernel) (c_T_isDay T' (zwG G' q0) S n p2) M.1.2.1 zl_T_293 zv_T_isDay rfl rfl rfl ⟨by decide, by decide, by decide, by decide⟩ rfl (Nat.le_of_ble_eq_true rfl) (fun v w' hv => ?_)
    obtain ⟨rfl, rfl⟩ := hv
    show z_G X zm_T_sum (12, [(0, z_r 0), (1, .inl p1), (2, .inl p2), (3, .inl p3)], [.inl (F_T_isDay S p2)], zW T' (zwG G' q0) S n, 0, 0)
    refine z_if_eq 19 M.1.1 (off := 7) (by decide +kernel) (by decide) (fun c12 => ?_) (fun c12 => ?_)
    · rw [if_pos c12] at K hs
      refine z_go2 M.1.1 19 [(.iconst 0, 1)] (20, [(0, z_r 0), (1, .inl p1), (2, .inl p2), (3, .inl p3)], [.inl 0], zW T' (zwG G' q0) S n, 0, 0) (by decide +kernel) rfl ⟨trivial, trivial⟩ ?_
      refine z_callSX M.1.1 (av := [.inl 0]) (st := []) (by decide +kernel) (c_mustExist T' (zwG G' q0) S n 0) M.1.2.1 zl_T_104 (z_wi 698 (by decide +kernel) rfl) zs_T_mustExist ⟨by decide, by decide, by decide, by decide⟩ rfl (Nat.le_of_ble_eq_true rfl) (fun E w' hx => ?_) (fun v w' hv => ?_)
      · obtain ⟨h0, rfl, n2, hn2, rfl⟩ := hx
        exact M.2 _ _ (hX _ _ n2 _ hn2 K) (Nat.le_of_ble_eq_true rfl) (Nat.le_of_ble_eq_true rfl)
      · obtain ⟨h0, rfl, rfl⟩ := hv
        exact absurd rfl h0
    · rw [if_neg c12] at K hs
      refine z_go2 M.1.1 15 [(.iconst 1, 1), (.goto 4, 3)] (20, [(0, z_r 0), (1, .inl p1), (2, .inl p2), (3, .inl p3)], [.inl 1], zW T' (zwG G' q0) S n, 0, 0) (by decide +kernel) rfl ⟨trivial, trivial, trivial⟩ ?_
      refine z_callSX M.1.1 (av := [.inl 1]) (st := []) (by decide +kernel) (c_mustExist T' (zwG G' q0) S n 1) M.1.2.1 zl_T_104 (z_wi 698 (by decide +kernel) rfl) zs_T_mustExist ⟨by decide, by decide, by decide, by decide⟩ rfl (Nat.le_of_ble_eq_true rfl) (fun E w' hx => ?_) (fun v w' hv => ?_)
      · obtain ⟨h0, rfl, n2, hn2, rfl⟩ := hx
        exact absurd h0 (by decide)
      · obtain ⟨h0, rfl, rfl⟩ := hv
        show z_G X zm_T_sum (23, [(0, z_r 0), (1, .inl p1), (2, .inl p2), (3, .inl p3)], [], zW T' (zwG G' q0) S n, 1, 6)
        refine z_go2 M.1.1 23 [(.iload_n 3, 1)] (24, [(0, z_r 0), (1, .inl p1), (2, .inl p2), (3, .inl p3)], [.inl p3], zW T' (zwG G' q0) S n, 1, 6) (by decide +kernel) rfl ⟨trivial, trivial⟩ ?_
        refine z_callS M.1.1 (av := [.inl p3]) (st := []) (by decide +kernel) (c_T_isAnyField T' (zwG G' q0) S n p3) M.1.2.1 zl_T_148 zs_T_isAnyField ⟨by decide, by decide, by decide, by decide⟩ rfl (Nat.le_of_ble_eq_true rfl) (fun v w' hv => ?_)
        obtain ⟨rfl, rfl⟩ := hv
        show z_G X zm_T_sum (27, [(0, z_r 0), (1, .inl p1), (2, .inl p2), (3, .inl p3)], [.inl (F_T_isAnyField S p3)], zW T' (zwG G' q0) S n, 1, 6)
        refine z_callSX M.1.1 (av := [.inl (F_T_isAnyField S p3)]) (st := []) (by decide +kernel) (c_mustFit T' (zwG G' q0) S n (F_T_isAnyField S p3)) M.1.2.1 zl_T_111 (z_wi 772 (by decide +kernel) rfl) zs_T_mustFit ⟨by decide, by decide, by decide, by decide⟩ rfl (Nat.le_of_ble_eq_true rfl) (fun E w' hx => ?_) (fun v w' hv => ?_)
        · obtain ⟨h0, rfl, n2, hn2, rfl⟩ := hx
          rw [if_pos h0] at K
          exact M.2 _ _ (hX _ _ n2 _ hn2 K) (Nat.le_of_ble_eq_true rfl) (Nat.le_of_ble_eq_true rfl)
        · obtain ⟨h0, rfl, rfl⟩ := hv
          rw [if_neg h0] at K hs
          show z_G X zm_T_sum (30, [(0, z_r 0), (1, .inl p1), (2, .inl p2), (3, .inl p3)], [], zW T' (zwG G' q0) S n, 2, 12)
          refine z_go2 M.1.1 30 [(.aload_n 0, 1), (.getfield 37, 3)] (34, [(0, z_r 0), (1, .inl p1), (2, .inl p2), (3, .inl p3)], [z_r 19], zW T' (zwG G' q0) S n, 2, 12) (by decide +kernel) rfl ⟨trivial, rfl, trivial⟩ ?_
          refine z_callV M.1.1 (av := []) (st := []) (a := 19) (ci := 5) (by decide +kernel) (c_Query_compile T' (zwG G' q0) S n hs.1) M.1.2.1 zl_T_290 zv_Query_compile rfl rfl rfl ⟨by decide, by decide, by decide, by decide⟩ rfl (Nat.le_of_ble_eq_true rfl) (fun v w' hv => ?_)
          replace hs := hs.2
          rcases hF34 : F_Query_compile S with ⟨r34, S34⟩
          rw [hF34] at K hv
          try rw [hF34] at hs
          try dsimp only at K hs
          obtain ⟨rfl, rfl⟩ := hv
          show z_G X zm_T_sum (37, [(0, z_r 0), (1, .inl p1), (2, .inl p2), (3, .inl p3)], [.inl r34], zW T' (zwG G' q0) S34 n, 2, 12)
          refine z_go2 M.1.1 37 [(.iconst (-1), 1)] (38, [(0, z_r 0), (1, .inl p1), (2, .inl p2), (3, .inl p3)], [.inl (-1), .inl r34], zW T' (zwG G' q0) S34 n, 2, 12) (by decide +kernel) rfl ⟨trivial, trivial⟩ ?_
          refine z_icmp_ne 45 M.1.1 (off := 7) (by decide +kernel) (by decide) (fun c38 => ?_) (fun c38 => ?_)
          · rw [if_neg c38] at K hs
            refine z_go2 M.1.1 45 [(.iconst 0, 1)] (46, [(0, z_r 0), (1, .inl p1), (2, .inl p2), (3, .inl p3)], [.inl 0], zW T' (zwG G' q0) S34 n, 2, 12) (by decide +kernel) rfl ⟨trivial, trivial⟩ ?_
            refine z_callSX M.1.1 (av := [.inl 0]) (st := []) (by decide +kernel) (c_mustBeAllowed T' (zwG G' q0) S34 n 0) M.1.2.1 zl_T_128 (z_wi 847 (by decide +kernel) rfl) zs_T_mustBeAllowed ⟨by decide, by decide, by decide, by decide⟩ rfl (Nat.le_of_ble_eq_true rfl) (fun E w' hx => ?_) (fun v w' hv => ?_)
            · obtain ⟨h0, rfl, n2, hn2, rfl⟩ := hx
              exact M.2 _ _ (hX _ _ n2 _ hn2 K) (Nat.le_of_ble_eq_true rfl) (Nat.le_of_ble_eq_true rfl)
            · obtain ⟨h0, rfl, rfl⟩ := hv
              exact absurd rfl h0
          · rw [if_pos c38] at K hs
            refine z_go2 M.1.1 41 [(.iconst 1, 1), (.goto 4, 3)] (46, [(0, z_r 0), (1, .inl p1), (2, .inl p2), (3, .inl p3)], [.inl 1], zW T' (zwG G' q0) S34 n, 2, 12) (by decide +kernel) rfl ⟨trivial, trivial, trivial⟩ ?_
            refine z_callSX M.1.1 (av := [.inl 1]) (st := []) (by decide +kernel) (c_mustBeAllowed T' (zwG G' q0) S34 n 1) M.1.2.1 zl_T_128 (z_wi 847 (by decide +kernel) rfl) zs_T_mustBeAllowed ⟨by decide, by decide, by decide, by decide⟩ rfl (Nat.le_of_ble_eq_true rfl) (fun E w' hx => ?_) (fun v w' hv => ?_)
            · obtain ⟨h0, rfl, n2, hn2, rfl⟩ := hx
              exact absurd h0 (by decide)
            · obtain ⟨h0, rfl, rfl⟩ := hv
              show z_G X zm_T_sum (49, [(0, z_r 0), (1, .inl p1), (2, .inl p2), (3, .inl p3)], [], zW T' (zwG G' q0) S34 n, 3, 18)
              refine z_go2 M.1.1 49 [(.aload_n 0, 1), (.iload_n 1, 1), (.iload_n 2, 1)] (52, [(0, z_r 0), (1, .inl p1), (2, .inl p2), (3, .inl p3)], [.inl p2, .inl p1, z_r 0], zW T' (zwG G' q0) S34 n, 3, 18) (by decide +kernel) rfl ⟨trivial, trivial, trivial, trivial⟩ ?_
              refine z_callV M.1.1 (av := [.inl p1, .inl p2]) (st := []) (a := 0) (ci := 11) (by decide +kernel) (c_T_lookOn T' G' q0 S34 n p1 p2 hs.1) M.1.2.1 zl_T_296 zv_T_lookOn rfl rfl rfl ⟨by decide, by decide, by decide, by decide⟩ rfl (Nat.le_of_ble_eq_true rfl) (fun v w' hv => ?_)
              replace hs := hs.2
              obtain ⟨S52, hF52⟩ : ∃ y, F_T_lookOn S34 p1 p2 = y := ⟨_, rfl⟩
              rw [hF52] at K hv
              try rw [hF52] at hs
              try dsimp only [z_let] at K hs
              obtain ⟨rfl, rfl⟩ := hv
              show z_G X zm_T_sum (55, [(0, z_r 0), (1, .inl p1), (2, .inl p2), (3, .inl p3)], [], zW T' (zwG G' 28) S52 n, 3, 18)
              refine z_go2 M.1.1 55 [(.aload_n 0, 1), (.getfield 47, 3), (.aload_n 0, 1), (.getfield 29, 3)] (63, [(0, z_r 0), (1, .inl p1), (2, .inl p2), (3, .inl p3)], [z_r 17, z_r 36], zW T' (zwG G' 28) S52 n, 3, 18) (by decide +kernel) rfl ⟨trivial, rfl, trivial, rfl, trivial⟩ ?_
              refine z_callV M.1.1 (av := []) (st := [z_r 36]) (a := 17) (ci := 1) (by decide +kernel) (c_Finder_hits_28 T' G' S52 n hs.1) M.1.2.1 zl_T_299 zv_Finder_hits rfl rfl rfl ⟨by decide, by decide, by decide, by decide⟩ rfl (Nat.le_of_ble_eq_true rfl) (fun v w' hv => ?_)
              replace hs := hs.2
              rcases hF63 : F_Finder_hits 28 S52 with ⟨r63, S63⟩
              rw [hF63] at K hv
              try rw [hF63] at hs
              try dsimp only at K hs
              obtain ⟨rfl, rfl⟩ := hv
              show z_G X zm_T_sum (66, [(0, z_r 0), (1, .inl p1), (2, .inl p2), (3, .inl p3)], [.inl r63, z_r 36], zW T' (zwG G' 28) S63 n, 3, 18)
              refine z_go2 M.1.1 66 [(.iload_n 3, 1)] (67, [(0, z_r 0), (1, .inl p1), (2, .inl p2), (3, .inl p3)], [.inl p3, .inl r63, z_r 36], zW T' (zwG G' 28) S63 n, 3, 18) (by decide +kernel) rfl ⟨trivial, trivial⟩ ?_
              refine z_callV M.1.1 (av := [.inl r63, .inl p3]) (st := []) (a := 36) (ci := 8) (by decide +kernel) (c_Sight_total_28 T' G' S63 n r63 p3 hs.1) M.1.2.1 zl_T_310 zv_Sight_total rfl rfl rfl ⟨by decide, by decide, by decide, by decide⟩ rfl (Nat.le_of_ble_eq_true rfl) (fun v w' hv => ?_)
              obtain ⟨rfl, rfl⟩ := hv
              replace hs := hs.2
              show z_G X zm_T_sum (70, [(0, z_r 0), (1, .inl p1), (2, .inl p2), (3, .inl p3)], [.inl (F_Sight_total 28 S63 r63 p3)], zW T' (zwG G' 28) S63 n, 3, 18)
              exact z_iret M.1 (by decide +kernel) .int rfl rfl (by decide) (by decide) (hQ _ _ _ K)

