-- TrackHouse.grant
abbrev rm_T_grant : Room := zx 7 3
def F_T_grant (S : (Nat → Nat → Int32)) (p1 : Int32) (p2 : Int32) (p3 : Int32) : ((String ⊕ Int32) × (Nat → Nat → Int32)) := (if (F_T_isPerson S p1) = 0 then (.inl "java/lang/IndexOutOfBoundsException", S) else (if (F_T_isProject S p2) = 0 then (.inl "java/lang/IndexOutOfBoundsException", S) else (if (F_T_isRoles S p3) = 0 then (.inl "java/lang/IllegalArgumentException", S) else (z_let (F_T_change S p1 (-1) 14 ((p1 * 3) + p2) p3) (fun S60 => (match F_T_isWithinLimit S60 (S 1 7) with | (r66, S66) => (if r66 = 0 then (.inl "java/lang/IllegalStateException", S66) else (.inr (F_World_rolesOf 9 S p1 p2), S66))))))))
def Sf_T_grant (S : (Nat → Nat → Int32)) (p1 : Int32) (p2 : Int32) (p3 : Int32) : Prop := (if (F_T_isPerson S p1) = 0 then True else (if (F_T_isProject S p2) = 0 then True else (if (F_T_isRoles S p3) = 0 then True else (Sf_T_change S p1 (-1) 14 ((p1 * 3) + p2) p3 ∧ (z_let (F_T_change S p1 (-1) 14 ((p1 * 3) + p2) p3) (fun S60 => (Sf_T_isWithinLimit S60 (S 1 7) ∧ True)))))))
theorem c_T_grant (T' : Nat → Nat × Nat) (G' : Nat → Nat → Option Nat) (S : (Nat → Nat → Int32)) (n : Nat) (p1 : Int32) (p2 : Int32) (p3 : Int32) (hs : Sf_T_grant S p1 p2 p3) : z_RunX rm_T_grant zm_T_grant [z_r 0, .inl p1, .inl p2, .inl p3] (zW T' G' S n) (fun v w' => ∃ x S', F_T_grant S p1 p2 p3 = (.inr x, S') ∧ v = some (.inl x) ∧ w' = zW T' G' S' n) (fun E w' => ∃ S' n2, n < n2 ∧ F_T_grant S p1 p2 p3 = (.inl E, S') ∧ w' = zW T' G' S' n2) := by
  refine z_bodyX (by decide) zf_T_ok (Nat.le_of_ble_eq_true rfl) (fun X M => ?_)
  obtain ⟨Q, hQ, hX, K⟩ : ∃ Q : ((String ⊕ Int32) × (Nat → Nat → Int32)) → Prop, (∀ v S', Q (.inr v, S') → ∃ x S'', F_T_grant S p1 p2 p3 = (.inr x, S'') ∧ some (.inl v : z_V) = some (.inl x) ∧ zW T' G' S' n = zW T' G' S'' n) ∧ (∀ E S' (n2 : Nat), n < n2 → Q (.inl E, S') → ∃ S'' n3, n < n3 ∧ F_T_grant S p1 p2 p3 = (.inl E, S'') ∧ zW T' G' S' n2 = zW T' G' S'' n3) ∧ Q (F_T_grant S p1 p2 p3) := ⟨fun o => F_T_grant S p1 p2 p3 = o, fun v S' h => ⟨v, S', h, rfl, rfl⟩, fun E S' n2 hn h => ⟨S', n2, hn, h, rfl⟩, rfl⟩
  show z_G X zm_T_grant (0, [(0, z_r 0), (1, .inl p1), (2, .inl p2), (3, .inl p3)], [], zW T' G' S n, 0, 0)
  unfold F_T_grant at K
  unfold Sf_T_grant at hs
  refine z_go2 M.1.1 0 [(.iload_n 1, 1)] (1, [(0, z_r 0), (1, .inl p1), (2, .inl p2), (3, .inl p3)], [.inl p1], zW T' G' S n, 0, 0) (by decide +kernel) rfl ⟨trivial, trivial⟩ ?_
  refine z_callS M.1.1 (av := [.inl p1]) (st := []) (by decide +kernel) (c_T_isPerson T' G' S n p1) M.1.2.1 zl_T_97 zs_T_isPerson ⟨by decide, by decide, by decide, by decide⟩ rfl (Nat.le_of_ble_eq_true rfl) (fun v w' hv => ?_)
  obtain ⟨rfl, rfl⟩ := hv
  show z_G X zm_T_grant (4, [(0, z_r 0), (1, .inl p1), (2, .inl p2), (3, .inl p3)], [.inl (F_T_isPerson S p1)], zW T' G' S n, 0, 0)
  refine z_if_eq 18 M.1.1 (off := 14) (by decide +kernel) (by decide) (fun c4 => ?_) (fun c4 => ?_)
  · rw [if_pos c4] at K hs
    refine z_go2 M.1.1 18 [(.iconst 0, 1)] (19, [(0, z_r 0), (1, .inl p1), (2, .inl p2), (3, .inl p3)], [.inl 0], zW T' G' S n, 0, 0) (by decide +kernel) rfl ⟨trivial, trivial⟩ ?_
    refine z_callSX M.1.1 (av := [.inl 0]) (st := []) (by decide +kernel) (c_mustExist T' G' S n 0) M.1.2.1 zl_T_104 (z_wi 527 (by decide +kernel) rfl) zs_T_mustExist ⟨by decide, by decide, by decide, by decide⟩ rfl (Nat.le_of_ble_eq_true rfl) (fun E w' hx => ?_) (fun v w' hv => ?_)
    · obtain ⟨h0, rfl, n2, hn2, rfl⟩ := hx
      exact M.2 _ _ (hX _ _ n2 hn2 K) (Nat.le_of_ble_eq_true rfl) (Nat.le_of_ble_eq_true rfl)
    · obtain ⟨h0, rfl, rfl⟩ := hv
      exact absurd rfl h0
  · rw [if_neg c4] at K hs
    refine z_go2 M.1.1 7 [(.iload_n 2, 1)] (8, [(0, z_r 0), (1, .inl p1), (2, .inl p2), (3, .inl p3)], [.inl p2], zW T' G' S n, 0, 0) (by decide +kernel) rfl ⟨trivial, trivial⟩ ?_
    refine z_callS M.1.1 (av := [.inl p2]) (st := []) (by decide +kernel) (c_T_isProject T' G' S n p2) M.1.2.1 zl_T_101 zs_T_isProject ⟨by decide, by decide, by decide, by decide⟩ rfl (Nat.le_of_ble_eq_true rfl) (fun v w' hv => ?_)
    obtain ⟨rfl, rfl⟩ := hv
    show z_G X zm_T_grant (11, [(0, z_r 0), (1, .inl p1), (2, .inl p2), (3, .inl p3)], [.inl (F_T_isProject S p2)], zW T' G' S n, 0, 0)
    refine z_if_eq 18 M.1.1 (off := 7) (by decide +kernel) (by decide) (fun c11 => ?_) (fun c11 => ?_)
    · rw [if_pos c11] at K hs
      refine z_go2 M.1.1 18 [(.iconst 0, 1)] (19, [(0, z_r 0), (1, .inl p1), (2, .inl p2), (3, .inl p3)], [.inl 0], zW T' G' S n, 0, 0) (by decide +kernel) rfl ⟨trivial, trivial⟩ ?_
      refine z_callSX M.1.1 (av := [.inl 0]) (st := []) (by decide +kernel) (c_mustExist T' G' S n 0) M.1.2.1 zl_T_104 (z_wi 527 (by decide +kernel) rfl) zs_T_mustExist ⟨by decide, by decide, by decide, by decide⟩ rfl (Nat.le_of_ble_eq_true rfl) (fun E w' hx => ?_) (fun v w' hv => ?_)
      · obtain ⟨h0, rfl, n2, hn2, rfl⟩ := hx
        exact M.2 _ _ (hX _ _ n2 hn2 K) (Nat.le_of_ble_eq_true rfl) (Nat.le_of_ble_eq_true rfl)
      · obtain ⟨h0, rfl, rfl⟩ := hv
        exact absurd rfl h0
    · rw [if_neg c11] at K hs
      refine z_go2 M.1.1 14 [(.iconst 1, 1), (.goto 4, 3)] (19, [(0, z_r 0), (1, .inl p1), (2, .inl p2), (3, .inl p3)], [.inl 1], zW T' G' S n, 0, 0) (by decide +kernel) rfl ⟨trivial, trivial, trivial⟩ ?_
      refine z_callSX M.1.1 (av := [.inl 1]) (st := []) (by decide +kernel) (c_mustExist T' G' S n 1) M.1.2.1 zl_T_104 (z_wi 527 (by decide +kernel) rfl) zs_T_mustExist ⟨by decide, by decide, by decide, by decide⟩ rfl (Nat.le_of_ble_eq_true rfl) (fun E w' hx => ?_) (fun v w' hv => ?_)
      · obtain ⟨h0, rfl, n2, hn2, rfl⟩ := hx
        exact absurd h0 (by decide)
      · obtain ⟨h0, rfl, rfl⟩ := hv
        show z_G X zm_T_grant (22, [(0, z_r 0), (1, .inl p1), (2, .inl p2), (3, .inl p3)], [], zW T' G' S n, 1, 6)
        refine z_go2 M.1.1 22 [(.iload_n 3, 1)] (23, [(0, z_r 0), (1, .inl p1), (2, .inl p2), (3, .inl p3)], [.inl p3], zW T' G' S n, 1, 6) (by decide +kernel) rfl ⟨trivial, trivial⟩ ?_
        refine z_callS M.1.1 (av := [.inl p3]) (st := []) (by decide +kernel) (c_T_isRoles T' G' S n p3) M.1.2.1 zl_T_108 zs_T_isRoles ⟨by decide, by decide, by decide, by decide⟩ rfl (Nat.le_of_ble_eq_true rfl) (fun v w' hv => ?_)
        obtain ⟨rfl, rfl⟩ := hv
        show z_G X zm_T_grant (26, [(0, z_r 0), (1, .inl p1), (2, .inl p2), (3, .inl p3)], [.inl (F_T_isRoles S p3)], zW T' G' S n, 1, 6)
        refine z_callSX M.1.1 (av := [.inl (F_T_isRoles S p3)]) (st := []) (by decide +kernel) (c_mustFit T' G' S n (F_T_isRoles S p3)) M.1.2.1 zl_T_111 (z_wi 601 (by decide +kernel) rfl) zs_T_mustFit ⟨by decide, by decide, by decide, by decide⟩ rfl (Nat.le_of_ble_eq_true rfl) (fun E w' hx => ?_) (fun v w' hv => ?_)
        · obtain ⟨h0, rfl, n2, hn2, rfl⟩ := hx
          rw [if_pos h0] at K
          exact M.2 _ _ (hX _ _ n2 hn2 K) (Nat.le_of_ble_eq_true rfl) (Nat.le_of_ble_eq_true rfl)
        · obtain ⟨h0, rfl, rfl⟩ := hv
          rw [if_neg h0] at K hs
          show z_G X zm_T_grant (29, [(0, z_r 0), (1, .inl p1), (2, .inl p2), (3, .inl p3)], [], zW T' G' S n, 2, 12)
          refine z_go2 M.1.1 29 [(.aload_n 0, 1), (.getfield 19, 3), (.iload_n 1, 1), (.iload_n 2, 1)] (35, [(0, z_r 0), (1, .inl p1), (2, .inl p2), (3, .inl p3)], [.inl p2, .inl p1, z_r 9], zW T' G' S n, 2, 12) (by decide +kernel) rfl ⟨trivial, rfl, trivial, trivial, trivial⟩ ?_
          refine z_callV M.1.1 (av := [.inl p1, .inl p2]) (st := []) (a := 9) (ci := 10) (by decide +kernel) (c_World_rolesOf_9 T' G' S n p1 p2) M.1.2.1 zl_T_114 zv_World_rolesOf rfl rfl rfl ⟨by decide, by decide, by decide, by decide⟩ rfl (Nat.le_of_ble_eq_true rfl) (fun v w' hv => ?_)
          obtain ⟨rfl, rfl⟩ := hv
          show z_G X zm_T_grant (38, [(0, z_r 0), (1, .inl p1), (2, .inl p2), (3, .inl p3)], [.inl (F_World_rolesOf 9 S p1 p2)], zW T' G' S n, 2, 12)
          refine z_go2 M.1.1 38 [(.istore 4, 2), (.aload_n 0, 1), (.getfield 12, 3), (.getfield 118, 3), (.istore 5, 2), (.aload_n 0, 1), (.iload_n 1, 1), (.iconst (-1), 1), (.bipush 14, 2), (.iload_n 1, 1), (.iconst 3, 1), (.imul, 1), (.iload_n 2, 1), (.iadd, 1), (.iload_n 3, 1)] (60, [(5, .inl (S 1 7)), (4, .inl (F_World_rolesOf 9 S p1 p2)), (0, z_r 0), (1, .inl p1), (2, .inl p2), (3, .inl p3)], [.inl p3, .inl ((p1 * 3) + p2), .inl 14, .inl (-1), .inl p1, z_r 0], zW T' G' S n, 2, 12) (by decide +kernel) rfl ⟨trivial, trivial, rfl, rfl, trivial, trivial, trivial, trivial, trivial, trivial, trivial, trivial, trivial, trivial, trivial, trivial⟩ ?_
          refine z_callV M.1.1 (av := [.inl p1, .inl (-1), .inl 14, .inl ((p1 * 3) + p2), .inl p3]) (st := []) (a := 0) (ci := 11) (by decide +kernel) (c_T_change T' G' S n p1 (-1) 14 ((p1 * 3) + p2) p3 hs.1) M.1.2.1 zl_T_121 zv_T_change rfl rfl rfl ⟨by decide, by decide, by decide, by decide⟩ rfl (Nat.le_of_ble_eq_true rfl) (fun v w' hv => ?_)
          replace hs := hs.2
          obtain ⟨S60, hF60⟩ : ∃ y, F_T_change S p1 (-1) 14 ((p1 * 3) + p2) p3 = y := ⟨_, rfl⟩
          rw [hF60] at K hv
          try rw [hF60] at hs
          try dsimp only [z_let] at K hs
          obtain ⟨rfl, rfl⟩ := hv
          show z_G X zm_T_grant (63, [(5, .inl (S 1 7)), (4, .inl (F_World_rolesOf 9 S p1 p2)), (0, z_r 0), (1, .inl p1), (2, .inl p2), (3, .inl p3)], [], zW T' G' S60 n, 2, 12)
          refine z_go2 M.1.1 63 [(.aload_n 0, 1), (.iload 5, 2)] (66, [(5, .inl (S 1 7)), (4, .inl (F_World_rolesOf 9 S p1 p2)), (0, z_r 0), (1, .inl p1), (2, .inl p2), (3, .inl p3)], [.inl (S 1 7), z_r 0], zW T' G' S60 n, 2, 12) (by decide +kernel) rfl ⟨trivial, trivial, trivial⟩ ?_
          refine z_callV M.1.1 (av := [.inl (S 1 7)]) (st := []) (a := 0) (ci := 11) (by decide +kernel) (c_T_isWithinLimit T' G' S60 n (S 1 7) hs.1) M.1.2.1 zl_T_125 zv_T_isWithinLimit rfl rfl rfl ⟨by decide, by decide, by decide, by decide⟩ rfl (Nat.le_of_ble_eq_true rfl) (fun v w' hv => ?_)
          replace hs := hs.2
          rcases hF66 : F_T_isWithinLimit S60 (S 1 7) with ⟨r66, S66⟩
          rw [hF66] at K hv
          try dsimp only at K
          obtain ⟨rfl, rfl⟩ := hv
          show z_G X zm_T_grant (69, [(5, .inl (S 1 7)), (4, .inl (F_World_rolesOf 9 S p1 p2)), (0, z_r 0), (1, .inl p1), (2, .inl p2), (3, .inl p3)], [.inl r66], zW T' G' S66 n, 2, 12)
          refine z_callSX M.1.1 (av := [.inl r66]) (st := []) (by decide +kernel) (c_mustBeAllowed T' G' S66 n r66) M.1.2.1 zl_T_128 (z_wi 680 (by decide +kernel) rfl) zs_T_mustBeAllowed ⟨by decide, by decide, by decide, by decide⟩ rfl (Nat.le_of_ble_eq_true rfl) (fun E w' hx => ?_) (fun v w' hv => ?_)
          · obtain ⟨h0, rfl, n2, hn2, rfl⟩ := hx
            rw [if_pos h0] at K
            exact M.2 _ _ (hX _ _ n2 hn2 K) (Nat.le_of_ble_eq_true rfl) (Nat.le_of_ble_eq_true rfl)
          · obtain ⟨h0, rfl, rfl⟩ := hv
            rw [if_neg h0] at K
            show z_G X zm_T_grant (72, [(5, .inl (S 1 7)), (4, .inl (F_World_rolesOf 9 S p1 p2)), (0, z_r 0), (1, .inl p1), (2, .inl p2), (3, .inl p3)], [], zW T' G' S66 n, 3, 18)
            refine z_go2 M.1.1 72 [(.iload 4, 2)] (74, [(5, .inl (S 1 7)), (4, .inl (F_World_rolesOf 9 S p1 p2)), (0, z_r 0), (1, .inl p1), (2, .inl p2), (3, .inl p3)], [.inl (F_World_rolesOf 9 S p1 p2)], zW T' G' S66 n, 3, 18) (by decide +kernel) rfl ⟨trivial, trivial⟩ ?_
            exact z_iret M.1 (by decide +kernel) .int rfl rfl (by decide) (by decide) (hQ _ _ K)

-- TrackHouse.scheme
abbrev rm_T_scheme : Room := zx 7 2
def F_T_scheme (S : (Nat → Nat → Int32)) (p1 : Int32) (p2 : Int32) (p3 : Int32) : ((String ⊕ Int32) × (Nat → Nat → Int32)) := (if (F_T_isProject S p1) = 0 then (.inl "java/lang/IndexOutOfBoundsException", S) else (if (F_T_isRoles S p2) = 0 then (.inl "java/lang/IllegalArgumentException", S) else (if (F_T_isRoles S p3) = 0 then (.inl "java/lang/IllegalArgumentException", S) else (z_let (zPut S 37 3 p1 p2) (fun S66 => (z_let (zPut S66 38 3 p1 p3) (fun S78 => (.inr (((zAt (S 37) 3 p1) * 16) + (zAt (S 38) 3 p1)), S78))))))))
theorem c_T_scheme (T' : Nat → Nat × Nat) (G' : Nat → Nat → Option Nat) (S : (Nat → Nat → Int32)) (n : Nat) (p1 : Int32) (p2 : Int32) (p3 : Int32) : z_RunX rm_T_scheme zm_T_scheme [z_r 0, .inl p1, .inl p2, .inl p3] (zW T' G' S n) (fun v w' => ∃ x S', F_T_scheme S p1 p2 p3 = (.inr x, S') ∧ v = some (.inl x) ∧ w' = zW T' G' S' n) (fun E w' => ∃ S' n2, n < n2 ∧ F_T_scheme S p1 p2 p3 = (.inl E, S') ∧ w' = zW T' G' S' n2) := by
  refine z_bodyX (by decide) zf_T_ok (Nat.le_of_ble_eq_true rfl) (fun X M => ?_)
  obtain ⟨Q, hQ, hX, K⟩ : ∃ Q : ((String ⊕ Int32) × (Nat → Nat → Int32)) → Prop, (∀ v S', Q (.inr v, S') → ∃ x S'', F_T_scheme S p1 p2 p3 = (.inr x, S'') ∧ some (.inl v : z_V) = some (.inl x) ∧ zW T' G' S' n = zW T' G' S'' n) ∧ (∀ E S' (n2 : Nat), n < n2 → Q (.inl E, S') → ∃ S'' n3, n < n3 ∧ F_T_scheme S p1 p2 p3 = (.inl E, S'') ∧ zW T' G' S' n2 = zW T' G' S'' n3) ∧ Q (F_T_scheme S p1 p2 p3) := ⟨fun o => F_T_scheme S p1 p2 p3 = o, fun v S' h => ⟨v, S', h, rfl, rfl⟩, fun E S' n2 hn h => ⟨S', n2, hn, h, rfl⟩, rfl⟩
  show z_G X zm_T_scheme (0, [(0, z_r 0), (1, .inl p1), (2, .inl p2), (3, .inl p3)], [], zW T' G' S n, 0, 0)
  unfold F_T_scheme at K
  refine z_go2 M.1.1 0 [(.iload_n 1, 1)] (1, [(0, z_r 0), (1, .inl p1), (2, .inl p2), (3, .inl p3)], [.inl p1], zW T' G' S n, 0, 0) (by decide +kernel) rfl ⟨trivial, trivial⟩ ?_
  refine z_callS M.1.1 (av := [.inl p1]) (st := []) (by decide +kernel) (c_T_isProject T' G' S n p1) M.1.2.1 zl_T_101 zs_T_isProject ⟨by decide, by decide, by decide, by decide⟩ rfl (Nat.le_of_ble_eq_true rfl) (fun v w' hv => ?_)
  obtain ⟨rfl, rfl⟩ := hv
  show z_G X zm_T_scheme (4, [(0, z_r 0), (1, .inl p1), (2, .inl p2), (3, .inl p3)], [.inl (F_T_isProject S p1)], zW T' G' S n, 0, 0)
  refine z_callSX M.1.1 (av := [.inl (F_T_isProject S p1)]) (st := []) (by decide +kernel) (c_mustExist T' G' S n (F_T_isProject S p1)) M.1.2.1 zl_T_104 (z_wi 527 (by decide +kernel) rfl) zs_T_mustExist ⟨by decide, by decide, by decide, by decide⟩ rfl (Nat.le_of_ble_eq_true rfl) (fun E w' hx => ?_) (fun v w' hv => ?_)
  · obtain ⟨h0, rfl, n2, hn2, rfl⟩ := hx
    rw [if_pos h0] at K
    exact M.2 _ _ (hX _ _ n2 hn2 K) (Nat.le_of_ble_eq_true rfl) (Nat.le_of_ble_eq_true rfl)
  · obtain ⟨h0, rfl, rfl⟩ := hv
    rw [if_neg h0] at K
    show z_G X zm_T_scheme (7, [(0, z_r 0), (1, .inl p1), (2, .inl p2), (3, .inl p3)], [], zW T' G' S n, 1, 6)
    refine z_go2 M.1.1 7 [(.iload_n 2, 1)] (8, [(0, z_r 0), (1, .inl p1), (2, .inl p2), (3, .inl p3)], [.inl p2], zW T' G' S n, 1, 6) (by decide +kernel) rfl ⟨trivial, trivial⟩ ?_
    refine z_callS M.1.1 (av := [.inl p2]) (st := []) (by decide +kernel) (c_T_isRoles T' G' S n p2) M.1.2.1 zl_T_108 zs_T_isRoles ⟨by decide, by decide, by decide, by decide⟩ rfl (Nat.le_of_ble_eq_true rfl) (fun v w' hv => ?_)
    obtain ⟨rfl, rfl⟩ := hv
    show z_G X zm_T_scheme (11, [(0, z_r 0), (1, .inl p1), (2, .inl p2), (3, .inl p3)], [.inl (F_T_isRoles S p2)], zW T' G' S n, 1, 6)
    refine z_if_eq 25 M.1.1 (off := 14) (by decide +kernel) (by decide) (fun c11 => ?_) (fun c11 => ?_)
    · rw [if_pos c11] at K
      refine z_go2 M.1.1 25 [(.iconst 0, 1)] (26, [(0, z_r 0), (1, .inl p1), (2, .inl p2), (3, .inl p3)], [.inl 0], zW T' G' S n, 1, 6) (by decide +kernel) rfl ⟨trivial, trivial⟩ ?_
      refine z_callSX M.1.1 (av := [.inl 0]) (st := []) (by decide +kernel) (c_mustFit T' G' S n 0) M.1.2.1 zl_T_111 (z_wi 601 (by decide +kernel) rfl) zs_T_mustFit ⟨by decide, by decide, by decide, by decide⟩ rfl (Nat.le_of_ble_eq_true rfl) (fun E w' hx => ?_) (fun v w' hv => ?_)
      · obtain ⟨h0, rfl, n2, hn2, rfl⟩ := hx
        exact M.2 _ _ (hX _ _ n2 hn2 K) (Nat.le_of_ble_eq_true rfl) (Nat.le_of_ble_eq_true rfl)
      · obtain ⟨h0, rfl, rfl⟩ := hv
        exact absurd rfl h0
    · rw [if_neg c11] at K
      refine z_go2 M.1.1 14 [(.iload_n 3, 1)] (15, [(0, z_r 0), (1, .inl p1), (2, .inl p2), (3, .inl p3)], [.inl p3], zW T' G' S n, 1, 6) (by decide +kernel) rfl ⟨trivial, trivial⟩ ?_
      refine z_callS M.1.1 (av := [.inl p3]) (st := []) (by decide +kernel) (c_T_isRoles T' G' S n p3) M.1.2.1 zl_T_108 zs_T_isRoles ⟨by decide, by decide, by decide, by decide⟩ rfl (Nat.le_of_ble_eq_true rfl) (fun v w' hv => ?_)
      obtain ⟨rfl, rfl⟩ := hv
      show z_G X zm_T_scheme (18, [(0, z_r 0), (1, .inl p1), (2, .inl p2), (3, .inl p3)], [.inl (F_T_isRoles S p3)], zW T' G' S n, 1, 6)
      refine z_if_eq 25 M.1.1 (off := 7) (by decide +kernel) (by decide) (fun c18 => ?_) (fun c18 => ?_)
      · rw [if_pos c18] at K
        refine z_go2 M.1.1 25 [(.iconst 0, 1)] (26, [(0, z_r 0), (1, .inl p1), (2, .inl p2), (3, .inl p3)], [.inl 0], zW T' G' S n, 1, 6) (by decide +kernel) rfl ⟨trivial, trivial⟩ ?_
        refine z_callSX M.1.1 (av := [.inl 0]) (st := []) (by decide +kernel) (c_mustFit T' G' S n 0) M.1.2.1 zl_T_111 (z_wi 601 (by decide +kernel) rfl) zs_T_mustFit ⟨by decide, by decide, by decide, by decide⟩ rfl (Nat.le_of_ble_eq_true rfl) (fun E w' hx => ?_) (fun v w' hv => ?_)
        · obtain ⟨h0, rfl, n2, hn2, rfl⟩ := hx
          exact M.2 _ _ (hX _ _ n2 hn2 K) (Nat.le_of_ble_eq_true rfl) (Nat.le_of_ble_eq_true rfl)
        · obtain ⟨h0, rfl, rfl⟩ := hv
          exact absurd rfl h0
      · rw [if_neg c18] at K
        refine z_go2 M.1.1 21 [(.iconst 1, 1), (.goto 4, 3)] (26, [(0, z_r 0), (1, .inl p1), (2, .inl p2), (3, .inl p3)], [.inl 1], zW T' G' S n, 1, 6) (by decide +kernel) rfl ⟨trivial, trivial, trivial⟩ ?_
        refine z_callSX M.1.1 (av := [.inl 1]) (st := []) (by decide +kernel) (c_mustFit T' G' S n 1) M.1.2.1 zl_T_111 (z_wi 601 (by decide +kernel) rfl) zs_T_mustFit ⟨by decide, by decide, by decide, by decide⟩ rfl (Nat.le_of_ble_eq_true rfl) (fun E w' hx => ?_) (fun v w' hv => ?_)
        · obtain ⟨h0, rfl, n2, hn2, rfl⟩ := hx
          exact absurd h0 (by decide)
        · obtain ⟨h0, rfl, rfl⟩ := hv
          show z_G X zm_T_scheme (29, [(0, z_r 0), (1, .inl p1), (2, .inl p2), (3, .inl p3)], [], zW T' G' S n, 2, 12)
          refine z_go2 M.1.1 29 [(.aload_n 0, 1), (.getfield 47, 3), (.getfield 131, 3), (.iload_n 1, 1)] (37, [(0, z_r 0), (1, .inl p1), (2, .inl p2), (3, .inl p3)], [.inl p1, z_r 37], zW T' G' S n, 2, 12) (by decide +kernel) rfl ⟨trivial, rfl, rfl, trivial, trivial⟩ ?_
          refine z_callS M.1.1 (av := [z_r 37, .inl p1]) (st := []) (by decide +kernel) (c_at (zW T' G' S n) 37 3 rfl (by decide) p1) M.1.2.1 zl_T_134 zs_T_at ⟨by decide, by decide, by decide, by decide⟩ rfl (Nat.le_of_ble_eq_true rfl) (fun v w' hv => ?_)
          obtain ⟨rfl, rfl⟩ := hv
          show z_G X zm_T_scheme (40, [(0, z_r 0), (1, .inl p1), (2, .inl p2), (3, .inl p3)], [.inl (zAt (S 37) 3 p1)], zW T' G' S n, 2, 12)
          refine z_go2 M.1.1 40 [(.bipush 16, 2), (.imul, 1), (.aload_n 0, 1), (.getfield 47, 3), (.getfield 138, 3), (.iload_n 1, 1)] (51, [(0, z_r 0), (1, .inl p1), (2, .inl p2), (3, .inl p3)], [.inl p1, z_r 38, .inl ((zAt (S 37) 3 p1) * 16)], zW T' G' S n, 2, 12) (by decide +kernel) rfl ⟨trivial, trivial, trivial, rfl, rfl, trivial, trivial⟩ ?_
          refine z_callS M.1.1 (av := [z_r 38, .inl p1]) (st := [.inl ((zAt (S 37) 3 p1) * 16)]) (by decide +kernel) (c_at (zW T' G' S n) 38 3 rfl (by decide) p1) M.1.2.1 zl_T_134 zs_T_at ⟨by decide, by decide, by decide, by decide⟩ rfl (Nat.le_of_ble_eq_true rfl) (fun v w' hv => ?_)
          obtain ⟨rfl, rfl⟩ := hv
          show z_G X zm_T_scheme (54, [(0, z_r 0), (1, .inl p1), (2, .inl p2), (3, .inl p3)], [.inl (zAt (S 38) 3 p1), .inl ((zAt (S 37) 3 p1) * 16)], zW T' G' S n, 2, 12)
          refine z_go2 M.1.1 54 [(.iadd, 1), (.istore 4, 2), (.aload_n 0, 1), (.getfield 47, 3), (.getfield 131, 3), (.iload_n 1, 1), (.iload_n 2, 1)] (66, [(4, .inl (((zAt (S 37) 3 p1) * 16) + (zAt (S 38) 3 p1))), (0, z_r 0), (1, .inl p1), (2, .inl p2), (3, .inl p3)], [.inl p2, .inl p1, z_r 37], zW T' G' S n, 2, 12) (by decide +kernel) rfl ⟨trivial, trivial, trivial, rfl, rfl, trivial, trivial, trivial⟩ ?_
          refine z_callS M.1.1 (av := [z_r 37, .inl p1, .inl p2]) (st := []) (by decide +kernel) (c_put (zW T' G' S n) 37 3 rfl (by decide) p1 p2) M.1.2.1 zl_T_141 zs_T_put ⟨by decide, by decide, by decide, by decide⟩ rfl (Nat.le_of_ble_eq_true rfl) (fun v w' hv => ?_)
          obtain ⟨S66, hF66⟩ : ∃ y, zPut S 37 3 p1 p2 = y := ⟨_, rfl⟩
          replace hv : v = none ∧ w' = zW T' G' (zPut S 37 3 p1 p2) n := hv
          rw [hF66] at K hv
          try dsimp only [z_let] at K
          obtain ⟨rfl, rfl⟩ := hv
          show z_G X zm_T_scheme (69, [(4, .inl (((zAt (S 37) 3 p1) * 16) + (zAt (S 38) 3 p1))), (0, z_r 0), (1, .inl p1), (2, .inl p2), (3, .inl p3)], [], zW T' G' S66 n, 2, 12)
          refine z_go2 M.1.1 69 [(.aload_n 0, 1), (.getfield 47, 3), (.getfield 138, 3), (.iload_n 1, 1), (.iload_n 3, 1)] (78, [(4, .inl (((zAt (S 37) 3 p1) * 16) + (zAt (S 38) 3 p1))), (0, z_r 0), (1, .inl p1), (2, .inl p2), (3, .inl p3)], [.inl p3, .inl p1, z_r 38], zW T' G' S66 n, 2, 12) (by decide +kernel) rfl ⟨trivial, rfl, rfl, trivial, trivial, trivial⟩ ?_
          refine z_callS M.1.1 (av := [z_r 38, .inl p1, .inl p3]) (st := []) (by decide +kernel) (c_put (zW T' G' S66 n) 38 3 rfl (by decide) p1 p3) M.1.2.1 zl_T_141 zs_T_put ⟨by decide, by decide, by decide, by decide⟩ rfl (Nat.le_of_ble_eq_true rfl) (fun v w' hv => ?_)
          obtain ⟨S78, hF78⟩ : ∃ y, zPut S66 38 3 p1 p3 = y := ⟨_, rfl⟩
          replace hv : v = none ∧ w' = zW T' G' (zPut S66 38 3 p1 p3) n := hv
          rw [hF78] at K hv
          try dsimp only [z_let] at K
          obtain ⟨rfl, rfl⟩ := hv
          show z_G X zm_T_scheme (81, [(4, .inl (((zAt (S 37) 3 p1) * 16) + (zAt (S 38) 3 p1))), (0, z_r 0), (1, .inl p1), (2, .inl p2), (3, .inl p3)], [], zW T' G' S78 n, 2, 12)
          refine z_go2 M.1.1 81 [(.iload 4, 2)] (83, [(4, .inl (((zAt (S 37) 3 p1) * 16) + (zAt (S 38) 3 p1))), (0, z_r 0), (1, .inl p1), (2, .inl p2), (3, .inl p3)], [.inl (((zAt (S 37) 3 p1) * 16) + (zAt (S 38) 3 p1))], zW T' G' S78 n, 2, 12) (by decide +kernel) rfl ⟨trivial, trivial⟩ ?_
          exact z_iret M.1 (by decide +kernel) .int rfl rfl (by decide) (by decide) (hQ _ _ K)


-- TrackHouse.reads
abbrev rm_T_reads : Room := zx 7 1
def F_T_reads (S : (Nat → Nat → Int32)) (p1 : Int32) (p2 : Int32) : ((String ⊕ Int32) × (Nat → Nat → Int32)) := (if (F_T_isAnyField S p1) = 0 then (.inl "java/lang/IllegalArgumentException", S) else (if (F_T_isRoles S p2) = 0 then (.inl "java/lang/IllegalArgumentException", S) else (z_let (zPut S 40 4 p1 p2) (fun S43 => (.inr (zAt (S 40) 4 p1), S43)))))
theorem c_T_reads (T' : Nat → Nat × Nat) (G' : Nat → Nat → Option Nat) (S : (Nat → Nat → Int32)) (n : Nat) (p1 : Int32) (p2 : Int32) : z_RunX rm_T_reads zm_T_reads [z_r 0, .inl p1, .inl p2] (zW T' G' S n) (fun v w' => ∃ x S', F_T_reads S p1 p2 = (.inr x, S') ∧ v = some (.inl x) ∧ w' = zW T' G' S' n) (fun E w' => ∃ S' n2, n < n2 ∧ F_T_reads S p1 p2 = (.inl E, S') ∧ w' = zW T' G' S' n2) := by
  refine z_bodyX (by decide) zf_T_ok (Nat.le_of_ble_eq_true rfl) (fun X M => ?_)
  obtain ⟨Q, hQ, hX, K⟩ : ∃ Q : ((String ⊕ Int32) × (Nat → Nat → Int32)) → Prop, (∀ v S', Q (.inr v, S') → ∃ x S'', F_T_reads S p1 p2 = (.inr x, S'') ∧ some (.inl v : z_V) = some (.inl x) ∧ zW T' G' S' n = zW T' G' S'' n) ∧ (∀ E S' (n2 : Nat), n < n2 → Q (.inl E, S') → ∃ S'' n3, n < n3 ∧ F_T_reads S p1 p2 = (.inl E, S'') ∧ zW T' G' S' n2 = zW T' G' S'' n3) ∧ Q (F_T_reads S p1 p2) := ⟨fun o => F_T_reads S p1 p2 = o, fun v S' h => ⟨v, S', h, rfl, rfl⟩, fun E S' n2 hn h => ⟨S', n2, hn, h, rfl⟩, rfl⟩
  show z_G X zm_T_reads (0, [(0, z_r 0), (1, .inl p1), (2, .inl p2)], [], zW T' G' S n, 0, 0)
  unfold F_T_reads at K
  refine z_go2 M.1.1 0 [(.iload_n 1, 1)] (1, [(0, z_r 0), (1, .inl p1), (2, .inl p2)], [.inl p1], zW T' G' S n, 0, 0) (by decide +kernel) rfl ⟨trivial, trivial⟩ ?_
  refine z_callS M.1.1 (av := [.inl p1]) (st := []) (by decide +kernel) (c_T_isAnyField T' G' S n p1) M.1.2.1 zl_T_148 zs_T_isAnyField ⟨by decide, by decide, by decide, by decide⟩ rfl (Nat.le_of_ble_eq_true rfl) (fun v w' hv => ?_)
  obtain ⟨rfl, rfl⟩ := hv
  show z_G X zm_T_reads (4, [(0, z_r 0), (1, .inl p1), (2, .inl p2)], [.inl (F_T_isAnyField S p1)], zW T' G' S n, 0, 0)
  refine z_if_eq 18 M.1.1 (off := 14) (by decide +kernel) (by decide) (fun c4 => ?_) (fun c4 => ?_)
  · rw [if_pos c4] at K
    refine z_go2 M.1.1 18 [(.iconst 0, 1)] (19, [(0, z_r 0), (1, .inl p1), (2, .inl p2)], [.inl 0], zW T' G' S n, 0, 0) (by decide +kernel) rfl ⟨trivial, trivial⟩ ?_
    refine z_callSX M.1.1 (av := [.inl 0]) (st := []) (by decide +kernel) (c_mustFit T' G' S n 0) M.1.2.1 zl_T_111 (z_wi 601 (by decide +kernel) rfl) zs_T_mustFit ⟨by decide, by decide, by decide, by decide⟩ rfl (Nat.le_of_ble_eq_true rfl) (fun E w' hx => ?_) (fun v w' hv => ?_)
    · obtain ⟨h0, rfl, n2, hn2, rfl⟩ := hx
      exact M.2 _ _ (hX _ _ n2 hn2 K) (Nat.le_of_ble_eq_true rfl) (Nat.le_of_ble_eq_true rfl)
    · obtain ⟨h0, rfl, rfl⟩ := hv
      exact absurd rfl h0
  · rw [if_neg c4] at K
    refine z_go2 M.1.1 7 [(.iload_n 2, 1)] (8, [(0, z_r 0), (1, .inl p1), (2, .inl p2)], [.inl p2], zW T' G' S n, 0, 0) (by decide +kernel) rfl ⟨trivial, trivial⟩ ?_
    refine z_callS M.1.1 (av := [.inl p2]) (st := []) (by decide +kernel) (c_T_isRoles T' G' S n p2) M.1.2.1 zl_T_108 zs_T_isRoles ⟨by decide, by decide, by decide, by decide⟩ rfl (Nat.le_of_ble_eq_true rfl) (fun v w' hv => ?_)
    obtain ⟨rfl, rfl⟩ := hv
    show z_G X zm_T_reads (11, [(0, z_r 0), (1, .inl p1), (2, .inl p2)], [.inl (F_T_isRoles S p2)], zW T' G' S n, 0, 0)
    refine z_if_eq 18 M.1.1 (off := 7) (by decide +kernel) (by decide) (fun c11 => ?_) (fun c11 => ?_)
    · rw [if_pos c11] at K
      refine z_go2 M.1.1 18 [(.iconst 0, 1)] (19, [(0, z_r 0), (1, .inl p1), (2, .inl p2)], [.inl 0], zW T' G' S n, 0, 0) (by decide +kernel) rfl ⟨trivial, trivial⟩ ?_
      refine z_callSX M.1.1 (av := [.inl 0]) (st := []) (by decide +kernel) (c_mustFit T' G' S n 0) M.1.2.1 zl_T_111 (z_wi 601 (by decide +kernel) rfl) zs_T_mustFit ⟨by decide, by decide, by decide, by decide⟩ rfl (Nat.le_of_ble_eq_true rfl) (fun E w' hx => ?_) (fun v w' hv => ?_)
      · obtain ⟨h0, rfl, n2, hn2, rfl⟩ := hx
        exact M.2 _ _ (hX _ _ n2 hn2 K) (Nat.le_of_ble_eq_true rfl) (Nat.le_of_ble_eq_true rfl)
      · obtain ⟨h0, rfl, rfl⟩ := hv
        exact absurd rfl h0
    · rw [if_neg c11] at K
      refine z_go2 M.1.1 14 [(.iconst 1, 1), (.goto 4, 3)] (19, [(0, z_r 0), (1, .inl p1), (2, .inl p2)], [.inl 1], zW T' G' S n, 0, 0) (by decide +kernel) rfl ⟨trivial, trivial, trivial⟩ ?_
      refine z_callSX M.1.1 (av := [.inl 1]) (st := []) (by decide +kernel) (c_mustFit T' G' S n 1) M.1.2.1 zl_T_111 (z_wi 601 (by decide +kernel) rfl) zs_T_mustFit ⟨by decide, by decide, by decide, by decide⟩ rfl (Nat.le_of_ble_eq_true rfl) (fun E w' hx => ?_) (fun v w' hv => ?_)
      · obtain ⟨h0, rfl, n2, hn2, rfl⟩ := hx
        exact absurd h0 (by decide)
      · obtain ⟨h0, rfl, rfl⟩ := hv
        show z_G X zm_T_reads (22, [(0, z_r 0), (1, .inl p1), (2, .inl p2)], [], zW T' G' S n, 1, 6)
        refine z_go2 M.1.1 22 [(.aload_n 0, 1), (.getfield 47, 3), (.getfield 151, 3), (.iload_n 1, 1)] (30, [(0, z_r 0), (1, .inl p1), (2, .inl p2)], [.inl p1, z_r 40], zW T' G' S n, 1, 6) (by decide +kernel) rfl ⟨trivial, rfl, rfl, trivial, trivial⟩ ?_
        refine z_callS M.1.1 (av := [z_r 40, .inl p1]) (st := []) (by decide +kernel) (c_at (zW T' G' S n) 40 4 rfl (by decide) p1) M.1.2.1 zl_T_134 zs_T_at ⟨by decide, by decide, by decide, by decide⟩ rfl (Nat.le_of_ble_eq_true rfl) (fun v w' hv => ?_)
        obtain ⟨rfl, rfl⟩ := hv
        show z_G X zm_T_reads (33, [(0, z_r 0), (1, .inl p1), (2, .inl p2)], [.inl (zAt (S 40) 4 p1)], zW T' G' S n, 1, 6)
        refine z_go2 M.1.1 33 [(.istore_n 3, 1), (.aload_n 0, 1), (.getfield 47, 3), (.getfield 151, 3), (.iload_n 1, 1), (.iload_n 2, 1)] (43, [(3, .inl (zAt (S 40) 4 p1)), (0, z_r 0), (1, .inl p1), (2, .inl p2)], [.inl p2, .inl p1, z_r 40], zW T' G' S n, 1, 6) (by decide +kernel) rfl ⟨trivial, trivial, rfl, rfl, trivial, trivial, trivial⟩ ?_
        refine z_callS M.1.1 (av := [z_r 40, .inl p1, .inl p2]) (st := []) (by decide +kernel) (c_put (zW T' G' S n) 40 4 rfl (by decide) p1 p2) M.1.2.1 zl_T_141 zs_T_put ⟨by decide, by decide, by decide, by decide⟩ rfl (Nat.le_of_ble_eq_true rfl) (fun v w' hv => ?_)
        obtain ⟨S43, hF43⟩ : ∃ y, zPut S 40 4 p1 p2 = y := ⟨_, rfl⟩
        replace hv : v = none ∧ w' = zW T' G' (zPut S 40 4 p1 p2) n := hv
        rw [hF43] at K hv
        try dsimp only [z_let] at K
        obtain ⟨rfl, rfl⟩ := hv
        show z_G X zm_T_reads (46, [(3, .inl (zAt (S 40) 4 p1)), (0, z_r 0), (1, .inl p1), (2, .inl p2)], [], zW T' G' S43 n, 1, 6)
        refine z_go2 M.1.1 46 [(.iload_n 3, 1)] (47, [(3, .inl (zAt (S 40) 4 p1)), (0, z_r 0), (1, .inl p1), (2, .inl p2)], [.inl (zAt (S 40) 4 p1)], zW T' G' S43 n, 1, 6) (by decide +kernel) rfl ⟨trivial, trivial⟩ ?_
        exact z_iret M.1 (by decide +kernel) .int rfl rfl (by decide) (by decide) (hQ _ _ K)



-- TrackHouse.entries
abbrev rm_T_entries : Room := zr 0
def F_T_entries (S : (Nat → Nat → Int32)) : Int32 := (S 1 7)
theorem c_T_entries (T' : Nat → Nat × Nat) (G' : Nat → Nat → Option Nat) (S : (Nat → Nat → Int32)) (n : Nat) : z_Run rm_T_entries zm_T_entries [z_r 0] (zW T' G' S n) (zq (some (.inl (F_T_entries S))) (zW T' G' S n)) := by
  refine z_body (by decide) zf_T_ok (Nat.le_of_ble_eq_true rfl) (fun X M => ?_)
  obtain ⟨Q, hQ, K⟩ : ∃ Q : Int32 → Prop, (∀ v, Q v → zq (some (.inl (F_T_entries S))) (zW T' G' S n) (some (.inl v)) (zW T' G' S n)) ∧ Q (F_T_entries S) := ⟨fun o => F_T_entries S = o, fun v h => ⟨by rw [h], rfl⟩, rfl⟩
  show z_G X zm_T_entries (0, [(0, z_r 0)], [], zW T' G' S n, 0, 0)
  unfold F_T_entries at K
  refine z_go2 M.1 0 [(.aload_n 0, 1), (.getfield 12, 3), (.getfield 118, 3)] (7, [(0, z_r 0)], [.inl (S 1 7)], zW T' G' S n, 0, 0) (by decide +kernel) rfl ⟨trivial, rfl, rfl, trivial⟩ ?_
  exact z_iret M (by decide +kernel) .int rfl rfl (by decide) (by decide) (hQ _ K)

-- TrackHouse.kind
abbrev rm_T_kind : Room := zx 7 2
def F_T_kind (S : (Nat → Nat → Int32)) (p1 : Int32) (p2 : Int32) (p3 : Int32) (p4 : Int32) : ((String ⊕ Unit) × (Nat → Nat → Int32)) := (if (F_T_isKind S p1) = 0 then (.inl "java/lang/IndexOutOfBoundsException", S) else (if p2 < 0 then (.inl "java/lang/IllegalArgumentException", S) else (if (7 : Int32) < p2 then (.inl "java/lang/IllegalArgumentException", S) else (if p3 < (-1) then (.inl "java/lang/IllegalArgumentException", S) else (if (3 : Int32) < p3 then (.inl "java/lang/IllegalArgumentException", S) else (if (F_T_isField S p4) = 0 then (.inl "java/lang/IllegalArgumentException", S) else (z_let (zPut S 44 3 p1 p2) (fun S52 => (z_let (zPut S52 45 3 p1 p3) (fun S64 => (z_let (zPut S64 46 3 p1 p4) (fun S77 => (.inr (), S77)))))))))))))
theorem c_T_kind (T' : Nat → Nat × Nat) (G' : Nat → Nat → Option Nat) (S : (Nat → Nat → Int32)) (n : Nat) (p1 : Int32) (p2 : Int32) (p3 : Int32) (p4 : Int32) : z_RunX rm_T_kind zm_T_kind [z_r 0, .inl p1, .inl p2, .inl p3, .inl p4] (zW T' G' S n) (fun v w' => ∃ S', F_T_kind S p1 p2 p3 p4 = (.inr (), S') ∧ v = none ∧ w' = zW T' G' S' n) (fun E w' => ∃ S' n2, n < n2 ∧ F_T_kind S p1 p2 p3 p4 = (.inl E, S') ∧ w' = zW T' G' S' n2) := by
  refine z_bodyX (by decide) zf_T_ok (Nat.le_of_ble_eq_true rfl) (fun X M => ?_)
  obtain ⟨Q, hQ, hX, K⟩ : ∃ Q : ((String ⊕ Unit) × (Nat → Nat → Int32)) → Prop, (∀ S', Q (.inr (), S') → ∃ S'', F_T_kind S p1 p2 p3 p4 = (.inr (), S'') ∧ (none : Option z_V) = none ∧ zW T' G' S' n = zW T' G' S'' n) ∧ (∀ E S' (n2 : Nat), n < n2 → Q (.inl E, S') → ∃ S'' n3, n < n3 ∧ F_T_kind S p1 p2 p3 p4 = (.inl E, S'') ∧ zW T' G' S' n2 = zW T' G' S'' n3) ∧ Q (F_T_kind S p1 p2 p3 p4) := ⟨fun o => F_T_kind S p1 p2 p3 p4 = o, fun S' h => ⟨S', h, rfl, rfl⟩, fun E S' n2 hn h => ⟨S', n2, hn, h, rfl⟩, rfl⟩
  show z_G X zm_T_kind (0, [(0, z_r 0), (1, .inl p1), (2, .inl p2), (3, .inl p3), (4, .inl p4)], [], zW T' G' S n, 0, 0)
  unfold F_T_kind at K
  refine z_go2 M.1.1 0 [(.iload_n 1, 1)] (1, [(0, z_r 0), (1, .inl p1), (2, .inl p2), (3, .inl p3), (4, .inl p4)], [.inl p1], zW T' G' S n, 0, 0) (by decide +kernel) rfl ⟨trivial, trivial⟩ ?_
  refine z_callS M.1.1 (av := [.inl p1]) (st := []) (by decide +kernel) (c_T_isKind T' G' S n p1) M.1.2.1 zl_T_154 zs_T_isKind ⟨by decide, by decide, by decide, by decide⟩ rfl (Nat.le_of_ble_eq_true rfl) (fun v w' hv => ?_)
  obtain ⟨rfl, rfl⟩ := hv
  show z_G X zm_T_kind (4, [(0, z_r 0), (1, .inl p1), (2, .inl p2), (3, .inl p3), (4, .inl p4)], [.inl (F_T_isKind S p1)], zW T' G' S n, 0, 0)
  refine z_callSX M.1.1 (av := [.inl (F_T_isKind S p1)]) (st := []) (by decide +kernel) (c_mustExist T' G' S n (F_T_isKind S p1)) M.1.2.1 zl_T_104 (z_wi 527 (by decide +kernel) rfl) zs_T_mustExist ⟨by decide, by decide, by decide, by decide⟩ rfl (Nat.le_of_ble_eq_true rfl) (fun E w' hx => ?_) (fun v w' hv => ?_)
  · obtain ⟨h0, rfl, n2, hn2, rfl⟩ := hx
    rw [if_pos h0] at K
    exact M.2 _ _ (hX _ _ n2 hn2 K) (Nat.le_of_ble_eq_true rfl) (Nat.le_of_ble_eq_true rfl)
  · obtain ⟨h0, rfl, rfl⟩ := hv
    rw [if_neg h0] at K
    show z_G X zm_T_kind (7, [(0, z_r 0), (1, .inl p1), (2, .inl p2), (3, .inl p3), (4, .inl p4)], [], zW T' G' S n, 1, 6)
    refine z_go2 M.1.1 7 [(.iload_n 2, 1)] (8, [(0, z_r 0), (1, .inl p1), (2, .inl p2), (3, .inl p3), (4, .inl p4)], [.inl p2], zW T' G' S n, 1, 6) (by decide +kernel) rfl ⟨trivial, trivial⟩ ?_
    refine z_if_lt 39 M.1.1 (off := 31) (by decide +kernel) (by decide) (fun c8 => ?_) (fun c8 => ?_)
    · rw [if_pos c8] at K
      refine z_go2 M.1.1 39 [(.iconst 0, 1)] (40, [(0, z_r 0), (1, .inl p1), (2, .inl p2), (3, .inl p3), (4, .inl p4)], [.inl 0], zW T' G' S n, 1, 6) (by decide +kernel) rfl ⟨trivial, trivial⟩ ?_
      refine z_callSX M.1.1 (av := [.inl 0]) (st := []) (by decide +kernel) (c_mustFit T' G' S n 0) M.1.2.1 zl_T_111 (z_wi 601 (by decide +kernel) rfl) zs_T_mustFit ⟨by decide, by decide, by decide, by decide⟩ rfl (Nat.le_of_ble_eq_true rfl) (fun E w' hx => ?_) (fun v w' hv => ?_)
      · obtain ⟨h0, rfl, n2, hn2, rfl⟩ := hx
        exact M.2 _ _ (hX _ _ n2 hn2 K) (Nat.le_of_ble_eq_true rfl) (Nat.le_of_ble_eq_true rfl)
      · obtain ⟨h0, rfl, rfl⟩ := hv
        exact absurd rfl h0
    · rw [if_neg c8] at K
      refine z_go2 M.1.1 11 [(.iload_n 2, 1), (.bipush 7, 2)] (14, [(0, z_r 0), (1, .inl p1), (2, .inl p2), (3, .inl p3), (4, .inl p4)], [.inl 7, .inl p2], zW T' G' S n, 1, 6) (by decide +kernel) rfl ⟨trivial, trivial, trivial⟩ ?_
      refine z_icmp_gt 39 M.1.1 (off := 25) (by decide +kernel) (by decide) (fun c14 => ?_) (fun c14 => ?_)
      · rw [if_pos c14] at K
        refine z_go2 M.1.1 39 [(.iconst 0, 1)] (40, [(0, z_r 0), (1, .inl p1), (2, .inl p2), (3, .inl p3), (4, .inl p4)], [.inl 0], zW T' G' S n, 1, 6) (by decide +kernel) rfl ⟨trivial, trivial⟩ ?_
        refine z_callSX M.1.1 (av := [.inl 0]) (st := []) (by decide +kernel) (c_mustFit T' G' S n 0) M.1.2.1 zl_T_111 (z_wi 601 (by decide +kernel) rfl) zs_T_mustFit ⟨by decide, by decide, by decide, by decide⟩ rfl (Nat.le_of_ble_eq_true rfl) (fun E w' hx => ?_) (fun v w' hv => ?_)
        · obtain ⟨h0, rfl, n2, hn2, rfl⟩ := hx
          exact M.2 _ _ (hX _ _ n2 hn2 K) (Nat.le_of_ble_eq_true rfl) (Nat.le_of_ble_eq_true rfl)
        · obtain ⟨h0, rfl, rfl⟩ := hv
          exact absurd rfl h0
      · rw [if_neg c14] at K
        refine z_go2 M.1.1 17 [(.iload_n 3, 1), (.iconst (-1), 1)] (19, [(0, z_r 0), (1, .inl p1), (2, .inl p2), (3, .inl p3), (4, .inl p4)], [.inl (-1), .inl p3], zW T' G' S n, 1, 6) (by decide +kernel) rfl ⟨trivial, trivial, trivial⟩ ?_
        refine z_icmp_lt 39 M.1.1 (off := 20) (by decide +kernel) (by decide) (fun c19 => ?_) (fun c19 => ?_)
        · rw [if_pos c19] at K
          refine z_go2 M.1.1 39 [(.iconst 0, 1)] (40, [(0, z_r 0), (1, .inl p1), (2, .inl p2), (3, .inl p3), (4, .inl p4)], [.inl 0], zW T' G' S n, 1, 6) (by decide +kernel) rfl ⟨trivial, trivial⟩ ?_
          refine z_callSX M.1.1 (av := [.inl 0]) (st := []) (by decide +kernel) (c_mustFit T' G' S n 0) M.1.2.1 zl_T_111 (z_wi 601 (by decide +kernel) rfl) zs_T_mustFit ⟨by decide, by decide, by decide, by decide⟩ rfl (Nat.le_of_ble_eq_true rfl) (fun E w' hx => ?_) (fun v w' hv => ?_)
          · obtain ⟨h0, rfl, n2, hn2, rfl⟩ := hx
            exact M.2 _ _ (hX _ _ n2 hn2 K) (Nat.le_of_ble_eq_true rfl) (Nat.le_of_ble_eq_true rfl)
          · obtain ⟨h0, rfl, rfl⟩ := hv
            exact absurd rfl h0
        · rw [if_neg c19] at K
          refine z_go2 M.1.1 22 [(.iload_n 3, 1), (.iconst 3, 1)] (24, [(0, z_r 0), (1, .inl p1), (2, .inl p2), (3, .inl p3), (4, .inl p4)], [.inl 3, .inl p3], zW T' G' S n, 1, 6) (by decide +kernel) rfl ⟨trivial, trivial, trivial⟩ ?_
          refine z_icmp_gt 39 M.1.1 (off := 15) (by decide +kernel) (by decide) (fun c24 => ?_) (fun c24 => ?_)
          · rw [if_pos c24] at K
            refine z_go2 M.1.1 39 [(.iconst 0, 1)] (40, [(0, z_r 0), (1, .inl p1), (2, .inl p2), (3, .inl p3), (4, .inl p4)], [.inl 0], zW T' G' S n, 1, 6) (by decide +kernel) rfl ⟨trivial, trivial⟩ ?_
            refine z_callSX M.1.1 (av := [.inl 0]) (st := []) (by decide +kernel) (c_mustFit T' G' S n 0) M.1.2.1 zl_T_111 (z_wi 601 (by decide +kernel) rfl) zs_T_mustFit ⟨by decide, by decide, by decide, by decide⟩ rfl (Nat.le_of_ble_eq_true rfl) (fun E w' hx => ?_) (fun v w' hv => ?_)
            · obtain ⟨h0, rfl, n2, hn2, rfl⟩ := hx
              exact M.2 _ _ (hX _ _ n2 hn2 K) (Nat.le_of_ble_eq_true rfl) (Nat.le_of_ble_eq_true rfl)
            · obtain ⟨h0, rfl, rfl⟩ := hv
              exact absurd rfl h0
          · rw [if_neg c24] at K
            refine z_go2 M.1.1 27 [(.iload 4, 2)] (29, [(0, z_r 0), (1, .inl p1), (2, .inl p2), (3, .inl p3), (4, .inl p4)], [.inl p4], zW T' G' S n, 1, 6) (by decide +kernel) rfl ⟨trivial, trivial⟩ ?_
            refine z_callS M.1.1 (av := [.inl p4]) (st := []) (by decide +kernel) (c_T_isField T' G' S n p4) M.1.2.1 zl_T_157 zs_T_isField ⟨by decide, by decide, by decide, by decide⟩ rfl (Nat.le_of_ble_eq_true rfl) (fun v w' hv => ?_)
            obtain ⟨rfl, rfl⟩ := hv
            show z_G X zm_T_kind (32, [(0, z_r 0), (1, .inl p1), (2, .inl p2), (3, .inl p3), (4, .inl p4)], [.inl (F_T_isField S p4)], zW T' G' S n, 1, 6)
            refine z_if_eq 39 M.1.1 (off := 7) (by decide +kernel) (by decide) (fun c32 => ?_) (fun c32 => ?_)
            · rw [if_pos c32] at K
              refine z_go2 M.1.1 39 [(.iconst 0, 1)] (40, [(0, z_r 0), (1, .inl p1), (2, .inl p2), (3, .inl p3), (4, .inl p4)], [.inl 0], zW T' G' S n, 1, 6) (by decide +kernel) rfl ⟨trivial, trivial⟩ ?_
              refine z_callSX M.1.1 (av := [.inl 0]) (st := []) (by decide +kernel) (c_mustFit T' G' S n 0) M.1.2.1 zl_T_111 (z_wi 601 (by decide +kernel) rfl) zs_T_mustFit ⟨by decide, by decide, by decide, by decide⟩ rfl (Nat.le_of_ble_eq_true rfl) (fun E w' hx => ?_) (fun v w' hv => ?_)
              · obtain ⟨h0, rfl, n2, hn2, rfl⟩ := hx
                exact M.2 _ _ (hX _ _ n2 hn2 K) (Nat.le_of_ble_eq_true rfl) (Nat.le_of_ble_eq_true rfl)
              · obtain ⟨h0, rfl, rfl⟩ := hv
                exact absurd rfl h0
            · rw [if_neg c32] at K
              refine z_go2 M.1.1 35 [(.iconst 1, 1), (.goto 4, 3)] (40, [(0, z_r 0), (1, .inl p1), (2, .inl p2), (3, .inl p3), (4, .inl p4)], [.inl 1], zW T' G' S n, 1, 6) (by decide +kernel) rfl ⟨trivial, trivial, trivial⟩ ?_
              refine z_callSX M.1.1 (av := [.inl 1]) (st := []) (by decide +kernel) (c_mustFit T' G' S n 1) M.1.2.1 zl_T_111 (z_wi 601 (by decide +kernel) rfl) zs_T_mustFit ⟨by decide, by decide, by decide, by decide⟩ rfl (Nat.le_of_ble_eq_true rfl) (fun E w' hx => ?_) (fun v w' hv => ?_)
              · obtain ⟨h0, rfl, n2, hn2, rfl⟩ := hx
                exact absurd h0 (by decide)
              · obtain ⟨h0, rfl, rfl⟩ := hv
                show z_G X zm_T_kind (43, [(0, z_r 0), (1, .inl p1), (2, .inl p2), (3, .inl p3), (4, .inl p4)], [], zW T' G' S n, 2, 12)
                refine z_go2 M.1.1 43 [(.aload_n 0, 1), (.getfield 54, 3), (.getfield 160, 3), (.iload_n 1, 1), (.iload_n 2, 1)] (52, [(0, z_r 0), (1, .inl p1), (2, .inl p2), (3, .inl p3), (4, .inl p4)], [.inl p2, .inl p1, z_r 44], zW T' G' S n, 2, 12) (by decide +kernel) rfl ⟨trivial, rfl, rfl, trivial, trivial, trivial⟩ ?_
                refine z_callS M.1.1 (av := [z_r 44, .inl p1, .inl p2]) (st := []) (by decide +kernel) (c_put (zW T' G' S n) 44 3 rfl (by decide) p1 p2) M.1.2.1 zl_T_141 zs_T_put ⟨by decide, by decide, by decide, by decide⟩ rfl (Nat.le_of_ble_eq_true rfl) (fun v w' hv => ?_)
                obtain ⟨S52, hF52⟩ : ∃ y, zPut S 44 3 p1 p2 = y := ⟨_, rfl⟩
                replace hv : v = none ∧ w' = zW T' G' (zPut S 44 3 p1 p2) n := hv
                rw [hF52] at K hv
                try dsimp only [z_let] at K
                obtain ⟨rfl, rfl⟩ := hv
                show z_G X zm_T_kind (55, [(0, z_r 0), (1, .inl p1), (2, .inl p2), (3, .inl p3), (4, .inl p4)], [], zW T' G' S52 n, 2, 12)
                refine z_go2 M.1.1 55 [(.aload_n 0, 1), (.getfield 54, 3), (.getfield 165, 3), (.iload_n 1, 1), (.iload_n 3, 1)] (64, [(0, z_r 0), (1, .inl p1), (2, .inl p2), (3, .inl p3), (4, .inl p4)], [.inl p3, .inl p1, z_r 45], zW T' G' S52 n, 2, 12) (by decide +kernel) rfl ⟨trivial, rfl, rfl, trivial, trivial, trivial⟩ ?_
                refine z_callS M.1.1 (av := [z_r 45, .inl p1, .inl p3]) (st := []) (by decide +kernel) (c_put (zW T' G' S52 n) 45 3 rfl (by decide) p1 p3) M.1.2.1 zl_T_141 zs_T_put ⟨by decide, by decide, by decide, by decide⟩ rfl (Nat.le_of_ble_eq_true rfl) (fun v w' hv => ?_)
                obtain ⟨S64, hF64⟩ : ∃ y, zPut S52 45 3 p1 p3 = y := ⟨_, rfl⟩
                replace hv : v = none ∧ w' = zW T' G' (zPut S52 45 3 p1 p3) n := hv
                rw [hF64] at K hv
                try dsimp only [z_let] at K
                obtain ⟨rfl, rfl⟩ := hv
                show z_G X zm_T_kind (67, [(0, z_r 0), (1, .inl p1), (2, .inl p2), (3, .inl p3), (4, .inl p4)], [], zW T' G' S64 n, 2, 12)
                refine z_go2 M.1.1 67 [(.aload_n 0, 1), (.getfield 54, 3), (.getfield 168, 3), (.iload_n 1, 1), (.iload 4, 2)] (77, [(0, z_r 0), (1, .inl p1), (2, .inl p2), (3, .inl p3), (4, .inl p4)], [.inl p4, .inl p1, z_r 46], zW T' G' S64 n, 2, 12) (by decide +kernel) rfl ⟨trivial, rfl, rfl, trivial, trivial, trivial⟩ ?_
                refine z_callS M.1.1 (av := [z_r 46, .inl p1, .inl p4]) (st := []) (by decide +kernel) (c_put (zW T' G' S64 n) 46 3 rfl (by decide) p1 p4) M.1.2.1 zl_T_141 zs_T_put ⟨by decide, by decide, by decide, by decide⟩ rfl (Nat.le_of_ble_eq_true rfl) (fun v w' hv => ?_)
                obtain ⟨S77, hF77⟩ : ∃ y, zPut S64 46 3 p1 p4 = y := ⟨_, rfl⟩
                replace hv : v = none ∧ w' = zW T' G' (zPut S64 46 3 p1 p4) n := hv
                rw [hF77] at K hv
                try dsimp only [z_let] at K
                obtain ⟨rfl, rfl⟩ := hv
                show z_G X zm_T_kind (80, [(0, z_r 0), (1, .inl p1), (2, .inl p2), (3, .inl p3), (4, .inl p4)], [], zW T' G' S77 n, 2, 12)
                exact z_vret M.1 (by decide +kernel) rfl (by decide) (by decide) (hQ _ K)

-- TrackHouse.draft
abbrev rm_T_draft : Room := zx 7 2
def F_T_draft (S : (Nat → Nat → Int32)) (p1 : Int32) : ((String ⊕ Int32) × (Nat → Nat → Int32)) := (if (F_T_isKind S p1) = 0 then (.inl "java/lang/IndexOutOfBoundsException", S) else (if (S 54 4) = (-1) then (z_let (F_Flows_begin S p1) (fun S31 => (.inr (zAt (S31 55) 4 3), S31))) else (.inl "java/lang/IllegalStateException", S)))
def Sf_T_draft (S : (Nat → Nat → Int32)) (p1 : Int32) : Prop := (if (F_T_isKind S p1) = 0 then True else (if (S 54 4) = (-1) then (Sf_Flows_begin S p1 ∧ True) else True))
theorem c_T_draft (T' : Nat → Nat × Nat) (G' : Nat → Nat → Option Nat) (S : (Nat → Nat → Int32)) (n : Nat) (p1 : Int32) (hs : Sf_T_draft S p1) : z_RunX rm_T_draft zm_T_draft [z_r 0, .inl p1] (zW T' G' S n) (fun v w' => ∃ x S', F_T_draft S p1 = (.inr x, S') ∧ v = some (.inl x) ∧ w' = zW T' G' S' n) (fun E w' => ∃ S' n2, n < n2 ∧ F_T_draft S p1 = (.inl E, S') ∧ w' = zW T' G' S' n2) := by
  refine z_bodyX (by decide) zf_T_ok (Nat.le_of_ble_eq_true rfl) (fun X M => ?_)
  obtain ⟨Q, hQ, hX, K⟩ : ∃ Q : ((String ⊕ Int32) × (Nat → Nat → Int32)) → Prop, (∀ v S', Q (.inr v, S') → ∃ x S'', F_T_draft S p1 = (.inr x, S'') ∧ some (.inl v : z_V) = some (.inl x) ∧ zW T' G' S' n = zW T' G' S'' n) ∧ (∀ E S' (n2 : Nat), n < n2 → Q (.inl E, S') → ∃ S'' n3, n < n3 ∧ F_T_draft S p1 = (.inl E, S'') ∧ zW T' G' S' n2 = zW T' G' S'' n3) ∧ Q (F_T_draft S p1) := ⟨fun o => F_T_draft S p1 = o, fun v S' h => ⟨v, S', h, rfl, rfl⟩, fun E S' n2 hn h => ⟨S', n2, hn, h, rfl⟩, rfl⟩
  show z_G X zm_T_draft (0, [(0, z_r 0), (1, .inl p1)], [], zW T' G' S n, 0, 0)
  unfold F_T_draft at K
  unfold Sf_T_draft at hs
  refine z_go2 M.1.1 0 [(.iload_n 1, 1)] (1, [(0, z_r 0), (1, .inl p1)], [.inl p1], zW T' G' S n, 0, 0) (by decide +kernel) rfl ⟨trivial, trivial⟩ ?_
  refine z_callS M.1.1 (av := [.inl p1]) (st := []) (by decide +kernel) (c_T_isKind T' G' S n p1) M.1.2.1 zl_T_154 zs_T_isKind ⟨by decide, by decide, by decide, by decide⟩ rfl (Nat.le_of_ble_eq_true rfl) (fun v w' hv => ?_)
  obtain ⟨rfl, rfl⟩ := hv
  show z_G X zm_T_draft (4, [(0, z_r 0), (1, .inl p1)], [.inl (F_T_isKind S p1)], zW T' G' S n, 0, 0)
  refine z_callSX M.1.1 (av := [.inl (F_T_isKind S p1)]) (st := []) (by decide +kernel) (c_mustExist T' G' S n (F_T_isKind S p1)) M.1.2.1 zl_T_104 (z_wi 527 (by decide +kernel) rfl) zs_T_mustExist ⟨by decide, by decide, by decide, by decide⟩ rfl (Nat.le_of_ble_eq_true rfl) (fun E w' hx => ?_) (fun v w' hv => ?_)
  · obtain ⟨h0, rfl, n2, hn2, rfl⟩ := hx
    rw [if_pos h0] at K
    exact M.2 _ _ (hX _ _ n2 hn2 K) (Nat.le_of_ble_eq_true rfl) (Nat.le_of_ble_eq_true rfl)
  · obtain ⟨h0, rfl, rfl⟩ := hv
    rw [if_neg h0] at K hs
    show z_G X zm_T_draft (7, [(0, z_r 0), (1, .inl p1)], [], zW T' G' S n, 1, 6)
    refine z_go2 M.1.1 7 [(.aload_n 0, 1), (.getfield 58, 3), (.getfield 171, 3), (.iconst (-1), 1)] (15, [(0, z_r 0), (1, .inl p1)], [.inl (-1), .inl (S 54 4)], zW T' G' S n, 1, 6) (by decide +kernel) rfl ⟨trivial, rfl, rfl, trivial, trivial⟩ ?_
    refine z_icmp_ne 22 M.1.1 (off := 7) (by decide +kernel) (by decide) (fun c15 => ?_) (fun c15 => ?_)
    · rw [if_neg c15] at K hs
      refine z_go2 M.1.1 22 [(.iconst 0, 1)] (23, [(0, z_r 0), (1, .inl p1)], [.inl 0], zW T' G' S n, 1, 6) (by decide +kernel) rfl ⟨trivial, trivial⟩ ?_
      refine z_callSX M.1.1 (av := [.inl 0]) (st := []) (by decide +kernel) (c_mustBeAllowed T' G' S n 0) M.1.2.1 zl_T_128 (z_wi 680 (by decide +kernel) rfl) zs_T_mustBeAllowed ⟨by decide, by decide, by decide, by decide⟩ rfl (Nat.le_of_ble_eq_true rfl) (fun E w' hx => ?_) (fun v w' hv => ?_)
      · obtain ⟨h0, rfl, n2, hn2, rfl⟩ := hx
        exact M.2 _ _ (hX _ _ n2 hn2 K) (Nat.le_of_ble_eq_true rfl) (Nat.le_of_ble_eq_true rfl)
      · obtain ⟨h0, rfl, rfl⟩ := hv
        exact absurd rfl h0
    · rw [if_pos c15] at K hs
      refine z_go2 M.1.1 18 [(.iconst 1, 1), (.goto 4, 3)] (23, [(0, z_r 0), (1, .inl p1)], [.inl 1], zW T' G' S n, 1, 6) (by decide +kernel) rfl ⟨trivial, trivial, trivial⟩ ?_
      refine z_callSX M.1.1 (av := [.inl 1]) (st := []) (by decide +kernel) (c_mustBeAllowed T' G' S n 1) M.1.2.1 zl_T_128 (z_wi 680 (by decide +kernel) rfl) zs_T_mustBeAllowed ⟨by decide, by decide, by decide, by decide⟩ rfl (Nat.le_of_ble_eq_true rfl) (fun E w' hx => ?_) (fun v w' hv => ?_)
      · obtain ⟨h0, rfl, n2, hn2, rfl⟩ := hx
        exact absurd h0 (by decide)
      · obtain ⟨h0, rfl, rfl⟩ := hv
        show z_G X zm_T_draft (26, [(0, z_r 0), (1, .inl p1)], [], zW T' G' S n, 2, 12)
        refine z_go2 M.1.1 26 [(.aload_n 0, 1), (.getfield 58, 3), (.iload_n 1, 1)] (31, [(0, z_r 0), (1, .inl p1)], [.inl p1, z_r 54], zW T' G' S n, 2, 12) (by decide +kernel) rfl ⟨trivial, rfl, trivial, trivial⟩ ?_
        refine z_callV M.1.1 (av := [.inl p1]) (st := []) (a := 54) (ci := 2) (by decide +kernel) (c_Flows_begin T' G' S n p1 hs.1) M.1.2.1 zl_T_174 zv_Flows_begin rfl rfl rfl ⟨by decide, by decide, by decide, by decide⟩ rfl (Nat.le_of_ble_eq_true rfl) (fun v w' hv => ?_)
        replace hs := hs.2
        obtain ⟨S31, hF31⟩ : ∃ y, F_Flows_begin S p1 = y := ⟨_, rfl⟩
        rw [hF31] at K hv
        try dsimp only [z_let] at K
        obtain ⟨rfl, rfl⟩ := hv
        show z_G X zm_T_draft (34, [(0, z_r 0), (1, .inl p1)], [], zW T' G' S31 n, 2, 12)
        refine z_go2 M.1.1 34 [(.aload_n 0, 1), (.getfield 58, 3), (.getfield 178, 3), (.iconst 3, 1)] (42, [(0, z_r 0), (1, .inl p1)], [.inl 3, z_r 55], zW T' G' S31 n, 2, 12) (by decide +kernel) rfl ⟨trivial, rfl, rfl, trivial, trivial⟩ ?_
        refine z_callS M.1.1 (av := [z_r 55, .inl 3]) (st := []) (by decide +kernel) (c_at (zW T' G' S31 n) 55 4 rfl (by decide) 3) M.1.2.1 zl_T_134 zs_T_at ⟨by decide, by decide, by decide, by decide⟩ rfl (Nat.le_of_ble_eq_true rfl) (fun v w' hv => ?_)
        obtain ⟨rfl, rfl⟩ := hv
        show z_G X zm_T_draft (45, [(0, z_r 0), (1, .inl p1)], [.inl (zAt (S31 55) 4 3)], zW T' G' S31 n, 2, 12)
        exact z_iret M.1 (by decide +kernel) .int rfl rfl (by decide) (by decide) (hQ _ _ K)

-- TrackHouse.state
abbrev rm_T_state : Room := zx 7 2
def F_T_state (S : (Nat → Nat → Int32)) (p1 : Int32) : ((String ⊕ Int32) × (Nat → Nat → Int32)) := (if p1 < 1 then (.inl "java/lang/IllegalArgumentException", S) else (if (6 : Int32) ≤ p1 then (.inl "java/lang/IllegalArgumentException", S) else (if (S 54 4) = (-1) then (.inl "java/lang/IllegalStateException", S) else (if (F_Flows_has S 3 p1) = 0 then (z_let (F_Flows_add S p1) (fun S55 => (.inr (zAt (S55 55) 4 3), S55))) else (.inl "java/lang/IllegalStateException", S)))))
def Sf_T_state (S : (Nat → Nat → Int32)) (p1 : Int32) : Prop := (if p1 < 1 then True else (if (6 : Int32) ≤ p1 then True else (if (S 54 4) = (-1) then True else (Sf_Flows_has S 3 p1 ∧ True))))
theorem c_T_state (T' : Nat → Nat × Nat) (G' : Nat → Nat → Option Nat) (S : (Nat → Nat → Int32)) (n : Nat) (p1 : Int32) (hs : Sf_T_state S p1) : z_RunX rm_T_state zm_T_state [z_r 0, .inl p1] (zW T' G' S n) (fun v w' => ∃ x S', F_T_state S p1 = (.inr x, S') ∧ v = some (.inl x) ∧ w' = zW T' G' S' n) (fun E w' => ∃ S' n2, n < n2 ∧ F_T_state S p1 = (.inl E, S') ∧ w' = zW T' G' S' n2) := by
  refine z_bodyX (by decide) zf_T_ok (Nat.le_of_ble_eq_true rfl) (fun X M => ?_)
  obtain ⟨Q, hQ, hX, K⟩ : ∃ Q : ((String ⊕ Int32) × (Nat → Nat → Int32)) → Prop, (∀ v S', Q (.inr v, S') → ∃ x S'', F_T_state S p1 = (.inr x, S'') ∧ some (.inl v : z_V) = some (.inl x) ∧ zW T' G' S' n = zW T' G' S'' n) ∧ (∀ E S' (n2 : Nat), n < n2 → Q (.inl E, S') → ∃ S'' n3, n < n3 ∧ F_T_state S p1 = (.inl E, S'') ∧ zW T' G' S' n2 = zW T' G' S'' n3) ∧ Q (F_T_state S p1) := ⟨fun o => F_T_state S p1 = o, fun v S' h => ⟨v, S', h, rfl, rfl⟩, fun E S' n2 hn h => ⟨S', n2, hn, h, rfl⟩, rfl⟩
  show z_G X zm_T_state (0, [(0, z_r 0), (1, .inl p1)], [], zW T' G' S n, 0, 0)
  unfold F_T_state at K
  unfold Sf_T_state at hs
  refine z_go2 M.1.1 0 [(.iload_n 1, 1), (.iconst 1, 1)] (2, [(0, z_r 0), (1, .inl p1)], [.inl 1, .inl p1], zW T' G' S n, 0, 0) (by decide +kernel) rfl ⟨trivial, trivial, trivial⟩ ?_
  refine z_icmp_lt 15 M.1.1 (off := 13) (by decide +kernel) (by decide) (fun c2 => ?_) (fun c2 => ?_)
  · rw [if_pos c2] at K hs
    refine z_go2 M.1.1 15 [(.iconst 0, 1)] (16, [(0, z_r 0), (1, .inl p1)], [.inl 0], zW T' G' S n, 0, 0) (by decide +kernel) rfl ⟨trivial, trivial⟩ ?_
    refine z_callSX M.1.1 (av := [.inl 0]) (st := []) (by decide +kernel) (c_mustFit T' G' S n 0) M.1.2.1 zl_T_111 (z_wi 601 (by decide +kernel) rfl) zs_T_mustFit ⟨by decide, by decide, by decide, by decide⟩ rfl (Nat.le_of_ble_eq_true rfl) (fun E w' hx => ?_) (fun v w' hv => ?_)
    · obtain ⟨h0, rfl, n2, hn2, rfl⟩ := hx
      exact M.2 _ _ (hX _ _ n2 hn2 K) (Nat.le_of_ble_eq_true rfl) (Nat.le_of_ble_eq_true rfl)
    · obtain ⟨h0, rfl, rfl⟩ := hv
      exact absurd rfl h0
  · rw [if_neg c2] at K hs
    refine z_go2 M.1.1 5 [(.iload_n 1, 1), (.bipush 6, 2)] (8, [(0, z_r 0), (1, .inl p1)], [.inl 6, .inl p1], zW T' G' S n, 0, 0) (by decide +kernel) rfl ⟨trivial, trivial, trivial⟩ ?_
    refine z_icmp_ge 15 M.1.1 (off := 7) (by decide +kernel) (by decide) (fun c8 => ?_) (fun c8 => ?_)
    · rw [if_pos c8] at K hs
      refine z_go2 M.1.1 15 [(.iconst 0, 1)] (16, [(0, z_r 0), (1, .inl p1)], [.inl 0], zW T' G' S n, 0, 0) (by decide +kernel) rfl ⟨trivial, trivial⟩ ?_
      refine z_callSX M.1.1 (av := [.inl 0]) (st := []) (by decide +kernel) (c_mustFit T' G' S n 0) M.1.2.1 zl_T_111 (z_wi 601 (by decide +kernel) rfl) zs_T_mustFit ⟨by decide, by decide, by decide, by decide⟩ rfl (Nat.le_of_ble_eq_true rfl) (fun E w' hx => ?_) (fun v w' hv => ?_)
      · obtain ⟨h0, rfl, n2, hn2, rfl⟩ := hx
        exact M.2 _ _ (hX _ _ n2 hn2 K) (Nat.le_of_ble_eq_true rfl) (Nat.le_of_ble_eq_true rfl)
      · obtain ⟨h0, rfl, rfl⟩ := hv
        exact absurd rfl h0
    · rw [if_neg c8] at K hs
      refine z_go2 M.1.1 11 [(.iconst 1, 1), (.goto 4, 3)] (16, [(0, z_r 0), (1, .inl p1)], [.inl 1], zW T' G' S n, 0, 0) (by decide +kernel) rfl ⟨trivial, trivial, trivial⟩ ?_
      refine z_callSX M.1.1 (av := [.inl 1]) (st := []) (by decide +kernel) (c_mustFit T' G' S n 1) M.1.2.1 zl_T_111 (z_wi 601 (by decide +kernel) rfl) zs_T_mustFit ⟨by decide, by decide, by decide, by decide⟩ rfl (Nat.le_of_ble_eq_true rfl) (fun E w' hx => ?_) (fun v w' hv => ?_)
      · obtain ⟨h0, rfl, n2, hn2, rfl⟩ := hx
        exact absurd h0 (by decide)
      · obtain ⟨h0, rfl, rfl⟩ := hv
        show z_G X zm_T_state (19, [(0, z_r 0), (1, .inl p1)], [], zW T' G' S n, 1, 6)
        refine z_go2 M.1.1 19 [(.aload_n 0, 1), (.getfield 58, 3), (.getfield 171, 3), (.iconst (-1), 1)] (27, [(0, z_r 0), (1, .inl p1)], [.inl (-1), .inl (S 54 4)], zW T' G' S n, 1, 6) (by decide +kernel) rfl ⟨trivial, rfl, rfl, trivial, trivial⟩ ?_
        refine z_icmp_eq 46 M.1.1 (off := 19) (by decide +kernel) (by decide) (fun c27 => ?_) (fun c27 => ?_)
        · rw [if_pos c27] at K hs
          refine z_go2 M.1.1 46 [(.iconst 0, 1)] (47, [(0, z_r 0), (1, .inl p1)], [.inl 0], zW T' G' S n, 1, 6) (by decide +kernel) rfl ⟨trivial, trivial⟩ ?_
          refine z_callSX M.1.1 (av := [.inl 0]) (st := []) (by decide +kernel) (c_mustBeAllowed T' G' S n 0) M.1.2.1 zl_T_128 (z_wi 680 (by decide +kernel) rfl) zs_T_mustBeAllowed ⟨by decide, by decide, by decide, by decide⟩ rfl (Nat.le_of_ble_eq_true rfl) (fun E w' hx => ?_) (fun v w' hv => ?_)
          · obtain ⟨h0, rfl, n2, hn2, rfl⟩ := hx
            exact M.2 _ _ (hX _ _ n2 hn2 K) (Nat.le_of_ble_eq_true rfl) (Nat.le_of_ble_eq_true rfl)
          · obtain ⟨h0, rfl, rfl⟩ := hv
            exact absurd rfl h0
        · rw [if_neg c27] at K hs
          refine z_go2 M.1.1 30 [(.aload_n 0, 1), (.getfield 58, 3), (.iconst 3, 1), (.iload_n 1, 1)] (36, [(0, z_r 0), (1, .inl p1)], [.inl p1, .inl 3, z_r 54], zW T' G' S n, 1, 6) (by decide +kernel) rfl ⟨trivial, rfl, trivial, trivial, trivial⟩ ?_
          refine z_callV M.1.1 (av := [.inl 3, .inl p1]) (st := []) (a := 54) (ci := 2) (by decide +kernel) (c_Flows_has T' G' S n 3 p1 hs.1) M.1.2.1 zl_T_181 zv_Flows_has rfl rfl rfl ⟨by decide, by decide, by decide, by decide⟩ rfl (Nat.le_of_ble_eq_true rfl) (fun v w' hv => ?_)
          obtain ⟨rfl, rfl⟩ := hv
          replace hs := hs.2
          show z_G X zm_T_state (39, [(0, z_r 0), (1, .inl p1)], [.inl (F_Flows_has S 3 p1)], zW T' G' S n, 1, 6)
          refine z_if_ne 46 M.1.1 (off := 7) (by decide +kernel) (by decide) (fun c39 => ?_) (fun c39 => ?_)
          · rw [if_neg c39] at K
            refine z_go2 M.1.1 46 [(.iconst 0, 1)] (47, [(0, z_r 0), (1, .inl p1)], [.inl 0], zW T' G' S n, 1, 6) (by decide +kernel) rfl ⟨trivial, trivial⟩ ?_
            refine z_callSX M.1.1 (av := [.inl 0]) (st := []) (by decide +kernel) (c_mustBeAllowed T' G' S n 0) M.1.2.1 zl_T_128 (z_wi 680 (by decide +kernel) rfl) zs_T_mustBeAllowed ⟨by decide, by decide, by decide, by decide⟩ rfl (Nat.le_of_ble_eq_true rfl) (fun E w' hx => ?_) (fun v w' hv => ?_)
            · obtain ⟨h0, rfl, n2, hn2, rfl⟩ := hx
              exact M.2 _ _ (hX _ _ n2 hn2 K) (Nat.le_of_ble_eq_true rfl) (Nat.le_of_ble_eq_true rfl)
            · obtain ⟨h0, rfl, rfl⟩ := hv
              exact absurd rfl h0
          · rw [if_pos c39] at K
            refine z_go2 M.1.1 42 [(.iconst 1, 1), (.goto 4, 3)] (47, [(0, z_r 0), (1, .inl p1)], [.inl 1], zW T' G' S n, 1, 6) (by decide +kernel) rfl ⟨trivial, trivial, trivial⟩ ?_
            refine z_callSX M.1.1 (av := [.inl 1]) (st := []) (by decide +kernel) (c_mustBeAllowed T' G' S n 1) M.1.2.1 zl_T_128 (z_wi 680 (by decide +kernel) rfl) zs_T_mustBeAllowed ⟨by decide, by decide, by decide, by decide⟩ rfl (Nat.le_of_ble_eq_true rfl) (fun E w' hx => ?_) (fun v w' hv => ?_)
            · obtain ⟨h0, rfl, n2, hn2, rfl⟩ := hx
              exact absurd h0 (by decide)
            · obtain ⟨h0, rfl, rfl⟩ := hv
              show z_G X zm_T_state (50, [(0, z_r 0), (1, .inl p1)], [], zW T' G' S n, 2, 12)
              refine z_go2 M.1.1 50 [(.aload_n 0, 1), (.getfield 58, 3), (.iload_n 1, 1)] (55, [(0, z_r 0), (1, .inl p1)], [.inl p1, z_r 54], zW T' G' S n, 2, 12) (by decide +kernel) rfl ⟨trivial, rfl, trivial, trivial⟩ ?_
              refine z_callV M.1.1 (av := [.inl p1]) (st := []) (a := 54) (ci := 2) (by decide +kernel) (c_Flows_add T' G' S n p1) M.1.2.1 zl_T_185 zv_Flows_add rfl rfl rfl ⟨by decide, by decide, by decide, by decide⟩ rfl (Nat.le_of_ble_eq_true rfl) (fun v w' hv => ?_)
              obtain ⟨S55, hF55⟩ : ∃ y, F_Flows_add S p1 = y := ⟨_, rfl⟩
              rw [hF55] at K hv
              try dsimp only [z_let] at K
              obtain ⟨rfl, rfl⟩ := hv
              show z_G X zm_T_state (58, [(0, z_r 0), (1, .inl p1)], [], zW T' G' S55 n, 2, 12)
              refine z_go2 M.1.1 58 [(.aload_n 0, 1), (.getfield 58, 3), (.getfield 178, 3), (.iconst 3, 1)] (66, [(0, z_r 0), (1, .inl p1)], [.inl 3, z_r 55], zW T' G' S55 n, 2, 12) (by decide +kernel) rfl ⟨trivial, rfl, rfl, trivial, trivial⟩ ?_
              refine z_callS M.1.1 (av := [z_r 55, .inl 3]) (st := []) (by decide +kernel) (c_at (zW T' G' S55 n) 55 4 rfl (by decide) 3) M.1.2.1 zl_T_134 zs_T_at ⟨by decide, by decide, by decide, by decide⟩ rfl (Nat.le_of_ble_eq_true rfl) (fun v w' hv => ?_)
              obtain ⟨rfl, rfl⟩ := hv
              show z_G X zm_T_state (69, [(0, z_r 0), (1, .inl p1)], [.inl (zAt (S55 55) 4 3)], zW T' G' S55 n, 2, 12)
              exact z_iret M.1 (by decide +kernel) .int rfl rfl (by decide) (by decide) (hQ _ _ K)

-- TrackHouse.transition
abbrev rm_T_transition : Room := zx 7 5
def F_T_transition_j92 (S : (Nat → Nat → Int32)) (x1 : Int32) (x2 : Int32) (x3 : Int32) (x4 : Int32) (x5 : Int32) (x6 : Int32) : ((String ⊕ Int32) × (Nat → Nat → Int32)) := (if (S 54 4) = (-1) then (.inl "java/lang/IllegalStateException", S) else (if (F_Flows_has S 3 x1) = 0 then (.inl "java/lang/IllegalStateException", S) else (if (F_Flows_has S 3 x2) = 0 then (.inl "java/lang/IllegalStateException", S) else (if (8 : Int32) ≤ (zAt (S 56) 4 3) then (.inl "java/lang/IllegalStateException", S) else (z_let (zPut S 56 4 3 ((zAt (S 56) 4 3) + 1)) (fun S183 => (z_let (F_Flows_setEnds S183 (zAt (S 56) 4 3) x1 x2) (fun S194 => (z_let (F_Flows_setTerms S194 (zAt (S 56) 4 3) x3 x4 x5 x6) (fun S210 => (.inr (zAt (S 56) 4 3), S210)))))))))))
def Sf_T_transition_j92 (S : (Nat → Nat → Int32)) (x1 : Int32) (x2 : Int32) (x3 : Int32) (x4 : Int32) (x5 : Int32) (x6 : Int32) : Prop := (if (S 54 4) = (-1) then True else (Sf_Flows_has S 3 x1 ∧ (if (F_Flows_has S 3 x1) = 0 then True else (Sf_Flows_has S 3 x2 ∧ True))))
theorem t_T_transition_j92 {X : z_X} {Post : Option z_V → z_W → Prop} {PX : String → z_W → Prop} (M : z_MX X zm_T_transition rm_T_transition Post PX) {T' : Nat → Nat × Nat} {G' : Nat → Nat → Option Nat} {n : Nat} {Q : ((String ⊕ Int32) × (Nat → Nat → Int32)) → Prop} (S : (Nat → Nat → Int32)) (x1 : Int32) (x2 : Int32) (x3 : Int32) (x4 : Int32) (x5 : Int32) (x6 : Int32) (hQ : ∀ v S', Q (.inr v, S') → Post (some (.inl v)) (zW T' G' S' n)) (hX : ∀ E S' (n2 : Nat), n < n2 → Q (.inl E, S') → PX E (zW T' G' S' n2)) (K : Q (F_T_transition_j92 S x1 x2 x3 x4 x5 x6)) (hs : Sf_T_transition_j92 S x1 x2 x3 x4 x5 x6) : z_G X zm_T_transition (92, [(0, z_r 0), (1, .inl x1), (2, .inl x2), (3, .inl x3), (4, .inl x4), (5, .inl x5), (6, .inl x6)], [], zW T' G' S n, 2, 12) := by
  unfold F_T_transition_j92 at K
  unfold Sf_T_transition_j92 at hs
  refine z_go2 M.1.1 92 [(.iconst 1, 1), (.goto 4, 3)] (97, [(0, z_r 0), (1, .inl x1), (2, .inl x2), (3, .inl x3), (4, .inl x4), (5, .inl x5), (6, .inl x6)], [.inl 1], zW T' G' S n, 2, 12) (by decide +kernel) rfl ⟨trivial, trivial, trivial⟩ ?_
  refine z_callSX M.1.1 (av := [.inl 1]) (st := []) (by decide +kernel) (c_mustFit T' G' S n 1) M.1.2.1 zl_T_111 (z_wi 601 (by decide +kernel) rfl) zs_T_mustFit ⟨by decide, by decide, by decide, by decide⟩ rfl (Nat.le_of_ble_eq_true rfl) (fun E w' hx => ?_) (fun v w' hv => ?_)
  · obtain ⟨h0, rfl, n2, hn2, rfl⟩ := hx
    exact absurd h0 (by decide)
  · obtain ⟨h0, rfl, rfl⟩ := hv
    show z_G X zm_T_transition (100, [(0, z_r 0), (1, .inl x1), (2, .inl x2), (3, .inl x3), (4, .inl x4), (5, .inl x5), (6, .inl x6)], [], zW T' G' S n, 3, 18)
    refine z_go2 M.1.1 100 [(.aload_n 0, 1), (.getfield 58, 3), (.getfield 171, 3), (.iconst (-1), 1)] (108, [(0, z_r 0), (1, .inl x1), (2, .inl x2), (3, .inl x3), (4, .inl x4), (5, .inl x5), (6, .inl x6)], [.inl (-1), .inl (S 54 4)], zW T' G' S n, 3, 18) (by decide +kernel) rfl ⟨trivial, rfl, rfl, trivial, trivial⟩ ?_
    refine z_icmp_eq 139 M.1.1 (off := 31) (by decide +kernel) (by decide) (fun c108 => ?_) (fun c108 => ?_)
    · rw [if_pos c108] at K hs
      refine z_go2 M.1.1 139 [(.iconst 0, 1)] (140, [(0, z_r 0), (1, .inl x1), (2, .inl x2), (3, .inl x3), (4, .inl x4), (5, .inl x5), (6, .inl x6)], [.inl 0], zW T' G' S n, 3, 18) (by decide +kernel) rfl ⟨trivial, trivial⟩ ?_
      refine z_callSX M.1.1 (av := [.inl 0]) (st := []) (by decide +kernel) (c_mustBeAllowed T' G' S n 0) M.1.2.1 zl_T_128 (z_wi 680 (by decide +kernel) rfl) zs_T_mustBeAllowed ⟨by decide, by decide, by decide, by decide⟩ rfl (Nat.le_of_ble_eq_true rfl) (fun E w' hx => ?_) (fun v w' hv => ?_)
      · obtain ⟨h0, rfl, n2, hn2, rfl⟩ := hx
        exact M.2 _ _ (hX _ _ n2 hn2 K) (Nat.le_of_ble_eq_true rfl) (Nat.le_of_ble_eq_true rfl)
      · obtain ⟨h0, rfl, rfl⟩ := hv
        exact absurd rfl h0
    · rw [if_neg c108] at K hs
      refine z_go2 M.1.1 111 [(.aload_n 0, 1), (.getfield 58, 3), (.iconst 3, 1), (.iload_n 1, 1)] (117, [(0, z_r 0), (1, .inl x1), (2, .inl x2), (3, .inl x3), (4, .inl x4), (5, .inl x5), (6, .inl x6)], [.inl x1, .inl 3, z_r 54], zW T' G' S n, 3, 18) (by decide +kernel) rfl ⟨trivial, rfl, trivial, trivial, trivial⟩ ?_
      refine z_callV M.1.1 (av := [.inl 3, .inl x1]) (st := []) (a := 54) (ci := 2) (by decide +kernel) (c_Flows_has T' G' S n 3 x1 hs.1) M.1.2.1 zl_T_181 zv_Flows_has rfl rfl rfl ⟨by decide, by decide, by decide, by decide⟩ rfl (Nat.le_of_ble_eq_true rfl) (fun v w' hv => ?_)
      obtain ⟨rfl, rfl⟩ := hv
      replace hs := hs.2
      show z_G X zm_T_transition (120, [(0, z_r 0), (1, .inl x1), (2, .inl x2), (3, .inl x3), (4, .inl x4), (5, .inl x5), (6, .inl x6)], [.inl (F_Flows_has S 3 x1)], zW T' G' S n, 3, 18)
      refine z_if_eq 139 M.1.1 (off := 19) (by decide +kernel) (by decide) (fun c120 => ?_) (fun c120 => ?_)
      · rw [if_pos c120] at K hs
        refine z_go2 M.1.1 139 [(.iconst 0, 1)] (140, [(0, z_r 0), (1, .inl x1), (2, .inl x2), (3, .inl x3), (4, .inl x4), (5, .inl x5), (6, .inl x6)], [.inl 0], zW T' G' S n, 3, 18) (by decide +kernel) rfl ⟨trivial, trivial⟩ ?_
        refine z_callSX M.1.1 (av := [.inl 0]) (st := []) (by decide +kernel) (c_mustBeAllowed T' G' S n 0) M.1.2.1 zl_T_128 (z_wi 680 (by decide +kernel) rfl) zs_T_mustBeAllowed ⟨by decide, by decide, by decide, by decide⟩ rfl (Nat.le_of_ble_eq_true rfl) (fun E w' hx => ?_) (fun v w' hv => ?_)
        · obtain ⟨h0, rfl, n2, hn2, rfl⟩ := hx
          exact M.2 _ _ (hX _ _ n2 hn2 K) (Nat.le_of_ble_eq_true rfl) (Nat.le_of_ble_eq_true rfl)
        · obtain ⟨h0, rfl, rfl⟩ := hv
          exact absurd rfl h0
      · rw [if_neg c120] at K hs
        refine z_go2 M.1.1 123 [(.aload_n 0, 1), (.getfield 58, 3), (.iconst 3, 1), (.iload_n 2, 1)] (129, [(0, z_r 0), (1, .inl x1), (2, .inl x2), (3, .inl x3), (4, .inl x4), (5, .inl x5), (6, .inl x6)], [.inl x2, .inl 3, z_r 54], zW T' G' S n, 3, 18) (by decide +kernel) rfl ⟨trivial, rfl, trivial, trivial, trivial⟩ ?_
        refine z_callV M.1.1 (av := [.inl 3, .inl x2]) (st := []) (a := 54) (ci := 2) (by decide +kernel) (c_Flows_has T' G' S n 3 x2 hs.1) M.1.2.1 zl_T_181 zv_Flows_has rfl rfl rfl ⟨by decide, by decide, by decide, by decide⟩ rfl (Nat.le_of_ble_eq_true rfl) (fun v w' hv => ?_)
        obtain ⟨rfl, rfl⟩ := hv
        replace hs := hs.2
        show z_G X zm_T_transition (132, [(0, z_r 0), (1, .inl x1), (2, .inl x2), (3, .inl x3), (4, .inl x4), (5, .inl x5), (6, .inl x6)], [.inl (F_Flows_has S 3 x2)], zW T' G' S n, 3, 18)
        refine z_if_eq 139 M.1.1 (off := 7) (by decide +kernel) (by decide) (fun c132 => ?_) (fun c132 => ?_)
        · rw [if_pos c132] at K
          refine z_go2 M.1.1 139 [(.iconst 0, 1)] (140, [(0, z_r 0), (1, .inl x1), (2, .inl x2), (3, .inl x3), (4, .inl x4), (5, .inl x5), (6, .inl x6)], [.inl 0], zW T' G' S n, 3, 18) (by decide +kernel) rfl ⟨trivial, trivial⟩ ?_
          refine z_callSX M.1.1 (av := [.inl 0]) (st := []) (by decide +kernel) (c_mustBeAllowed T' G' S n 0) M.1.2.1 zl_T_128 (z_wi 680 (by decide +kernel) rfl) zs_T_mustBeAllowed ⟨by decide, by decide, by decide, by decide⟩ rfl (Nat.le_of_ble_eq_true rfl) (fun E w' hx => ?_) (fun v w' hv => ?_)
          · obtain ⟨h0, rfl, n2, hn2, rfl⟩ := hx
            exact M.2 _ _ (hX _ _ n2 hn2 K) (Nat.le_of_ble_eq_true rfl) (Nat.le_of_ble_eq_true rfl)
          · obtain ⟨h0, rfl, rfl⟩ := hv
            exact absurd rfl h0
        · rw [if_neg c132] at K
          refine z_go2 M.1.1 135 [(.iconst 1, 1), (.goto 4, 3)] (140, [(0, z_r 0), (1, .inl x1), (2, .inl x2), (3, .inl x3), (4, .inl x4), (5, .inl x5), (6, .inl x6)], [.inl 1], zW T' G' S n, 3, 18) (by decide +kernel) rfl ⟨trivial, trivial, trivial⟩ ?_
          refine z_callSX M.1.1 (av := [.inl 1]) (st := []) (by decide +kernel) (c_mustBeAllowed T' G' S n 1) M.1.2.1 zl_T_128 (z_wi 680 (by decide +kernel) rfl) zs_T_mustBeAllowed ⟨by decide, by decide, by decide, by decide⟩ rfl (Nat.le_of_ble_eq_true rfl) (fun E w' hx => ?_) (fun v w' hv => ?_)
          · obtain ⟨h0, rfl, n2, hn2, rfl⟩ := hx
            exact absurd h0 (by decide)
          · obtain ⟨h0, rfl, rfl⟩ := hv
            show z_G X zm_T_transition (143, [(0, z_r 0), (1, .inl x1), (2, .inl x2), (3, .inl x3), (4, .inl x4), (5, .inl x5), (6, .inl x6)], [], zW T' G' S n, 4, 24)
            refine z_go2 M.1.1 143 [(.aload_n 0, 1), (.getfield 58, 3), (.getfield 197, 3), (.iconst 3, 1)] (151, [(0, z_r 0), (1, .inl x1), (2, .inl x2), (3, .inl x3), (4, .inl x4), (5, .inl x5), (6, .inl x6)], [.inl 3, z_r 56], zW T' G' S n, 4, 24) (by decide +kernel) rfl ⟨trivial, rfl, rfl, trivial, trivial⟩ ?_
            refine z_callS M.1.1 (av := [z_r 56, .inl 3]) (st := []) (by decide +kernel) (c_at (zW T' G' S n) 56 4 rfl (by decide) 3) M.1.2.1 zl_T_134 zs_T_at ⟨by decide, by decide, by decide, by decide⟩ rfl (Nat.le_of_ble_eq_true rfl) (fun v w' hv => ?_)
            obtain ⟨rfl, rfl⟩ := hv
            show z_G X zm_T_transition (154, [(0, z_r 0), (1, .inl x1), (2, .inl x2), (3, .inl x3), (4, .inl x4), (5, .inl x5), (6, .inl x6)], [.inl (zAt (S 56) 4 3)], zW T' G' S n, 4, 24)
            refine z_go2 M.1.1 154 [(.istore 7, 2), (.iload 7, 2), (.bipush 8, 2)] (160, [(7, .inl (zAt (S 56) 4 3)), (0, z_r 0), (1, .inl x1), (2, .inl x2), (3, .inl x3), (4, .inl x4), (5, .inl x5), (6, .inl x6)], [.inl 8, .inl (zAt (S 56) 4 3)], zW T' G' S n, 4, 24) (by decide +kernel) rfl ⟨trivial, trivial, trivial, trivial⟩ ?_
            refine z_icmp_ge 167 M.1.1 (off := 7) (by decide +kernel) (by decide) (fun c160 => ?_) (fun c160 => ?_)
            · rw [if_pos c160] at K
              refine z_go2 M.1.1 167 [(.iconst 0, 1)] (168, [(7, .inl (zAt (S 56) 4 3)), (0, z_r 0), (1, .inl x1), (2, .inl x2), (3, .inl x3), (4, .inl x4), (5, .inl x5), (6, .inl x6)], [.inl 0], zW T' G' S n, 4, 24) (by decide +kernel) rfl ⟨trivial, trivial⟩ ?_
              refine z_callSX M.1.1 (av := [.inl 0]) (st := []) (by decide +kernel) (c_mustBeAllowed T' G' S n 0) M.1.2.1 zl_T_128 (z_wi 680 (by decide +kernel) rfl) zs_T_mustBeAllowed ⟨by decide, by decide, by decide, by decide⟩ rfl (Nat.le_of_ble_eq_true rfl) (fun E w' hx => ?_) (fun v w' hv => ?_)
              · obtain ⟨h0, rfl, n2, hn2, rfl⟩ := hx
                exact M.2 _ _ (hX _ _ n2 hn2 K) (Nat.le_of_ble_eq_true rfl) (Nat.le_of_ble_eq_true rfl)
              · obtain ⟨h0, rfl, rfl⟩ := hv
                exact absurd rfl h0
            · rw [if_neg c160] at K
              refine z_go2 M.1.1 163 [(.iconst 1, 1), (.goto 4, 3)] (168, [(7, .inl (zAt (S 56) 4 3)), (0, z_r 0), (1, .inl x1), (2, .inl x2), (3, .inl x3), (4, .inl x4), (5, .inl x5), (6, .inl x6)], [.inl 1], zW T' G' S n, 4, 24) (by decide +kernel) rfl ⟨trivial, trivial, trivial⟩ ?_
              refine z_callSX M.1.1 (av := [.inl 1]) (st := []) (by decide +kernel) (c_mustBeAllowed T' G' S n 1) M.1.2.1 zl_T_128 (z_wi 680 (by decide +kernel) rfl) zs_T_mustBeAllowed ⟨by decide, by decide, by decide, by decide⟩ rfl (Nat.le_of_ble_eq_true rfl) (fun E w' hx => ?_) (fun v w' hv => ?_)
              · obtain ⟨h0, rfl, n2, hn2, rfl⟩ := hx
                exact absurd h0 (by decide)
              · obtain ⟨h0, rfl, rfl⟩ := hv
                show z_G X zm_T_transition (171, [(7, .inl (zAt (S 56) 4 3)), (0, z_r 0), (1, .inl x1), (2, .inl x2), (3, .inl x3), (4, .inl x4), (5, .inl x5), (6, .inl x6)], [], zW T' G' S n, 5, 30)
                refine z_go2 M.1.1 171 [(.aload_n 0, 1), (.getfield 58, 3), (.getfield 197, 3), (.iconst 3, 1), (.iload 7, 2), (.iconst 1, 1), (.iadd, 1)] (183, [(7, .inl (zAt (S 56) 4 3)), (0, z_r 0), (1, .inl x1), (2, .inl x2), (3, .inl x3), (4, .inl x4), (5, .inl x5), (6, .inl x6)], [.inl ((zAt (S 56) 4 3) + 1), .inl 3, z_r 56], zW T' G' S n, 5, 30) (by decide +kernel) rfl ⟨trivial, rfl, rfl, trivial, trivial, trivial, trivial, trivial⟩ ?_
                refine z_callS M.1.1 (av := [z_r 56, .inl 3, .inl ((zAt (S 56) 4 3) + 1)]) (st := []) (by decide +kernel) (c_put (zW T' G' S n) 56 4 rfl (by decide) 3 ((zAt (S 56) 4 3) + 1)) M.1.2.1 zl_T_141 zs_T_put ⟨by decide, by decide, by decide, by decide⟩ rfl (Nat.le_of_ble_eq_true rfl) (fun v w' hv => ?_)
                obtain ⟨S183, hF183⟩ : ∃ y, zPut S 56 4 3 ((zAt (S 56) 4 3) + 1) = y := ⟨_, rfl⟩
                replace hv : v = none ∧ w' = zW T' G' (zPut S 56 4 3 ((zAt (S 56) 4 3) + 1)) n := hv
                rw [hF183] at K hv
                try dsimp only [z_let] at K
                obtain ⟨rfl, rfl⟩ := hv
                show z_G X zm_T_transition (186, [(7, .inl (zAt (S 56) 4 3)), (0, z_r 0), (1, .inl x1), (2, .inl x2), (3, .inl x3), (4, .inl x4), (5, .inl x5), (6, .inl x6)], [], zW T' G' S183 n, 5, 30)
                refine z_go2 M.1.1 186 [(.aload_n 0, 1), (.getfield 58, 3), (.iload 7, 2), (.iload_n 1, 1), (.iload_n 2, 1)] (194, [(7, .inl (zAt (S 56) 4 3)), (0, z_r 0), (1, .inl x1), (2, .inl x2), (3, .inl x3), (4, .inl x4), (5, .inl x5), (6, .inl x6)], [.inl x2, .inl x1, .inl (zAt (S 56) 4 3), z_r 54], zW T' G' S183 n, 5, 30) (by decide +kernel) rfl ⟨trivial, rfl, trivial, trivial, trivial, trivial⟩ ?_
                refine z_callV M.1.1 (av := [.inl (zAt (S 56) 4 3), .inl x1, .inl x2]) (st := []) (a := 54) (ci := 2) (by decide +kernel) (c_Flows_setEnds T' G' S183 n (zAt (S 56) 4 3) x1 x2) M.1.2.1 zl_T_200 zv_Flows_setEnds rfl rfl rfl ⟨by decide, by decide, by decide, by decide⟩ rfl (Nat.le_of_ble_eq_true rfl) (fun v w' hv => ?_)
                obtain ⟨S194, hF194⟩ : ∃ y, F_Flows_setEnds S183 (zAt (S 56) 4 3) x1 x2 = y := ⟨_, rfl⟩
                rw [hF194] at K hv
                try dsimp only [z_let] at K
                obtain ⟨rfl, rfl⟩ := hv
                show z_G X zm_T_transition (197, [(7, .inl (zAt (S 56) 4 3)), (0, z_r 0), (1, .inl x1), (2, .inl x2), (3, .inl x3), (4, .inl x4), (5, .inl x5), (6, .inl x6)], [], zW T' G' S194 n, 5, 30)
                refine z_go2 M.1.1 197 [(.aload_n 0, 1), (.getfield 58, 3), (.iload 7, 2), (.iload_n 3, 1), (.iload 4, 2), (.iload 5, 2), (.iload 6, 2)] (210, [(7, .inl (zAt (S 56) 4 3)), (0, z_r 0), (1, .inl x1), (2, .inl x2), (3, .inl x3), (4, .inl x4), (5, .inl x5), (6, .inl x6)], [.inl x6, .inl x5, .inl x4, .inl x3, .inl (zAt (S 56) 4 3), z_r 54], zW T' G' S194 n, 5, 30) (by decide +kernel) rfl ⟨trivial, rfl, trivial, trivial, trivial, trivial, trivial, trivial⟩ ?_
                refine z_callV M.1.1 (av := [.inl (zAt (S 56) 4 3), .inl x3, .inl x4, .inl x5, .inl x6]) (st := []) (a := 54) (ci := 2) (by decide +kernel) (c_Flows_setTerms T' G' S194 n (zAt (S 56) 4 3) x3 x4 x5 x6) M.1.2.1 zl_T_204 zv_Flows_setTerms rfl rfl rfl ⟨by decide, by decide, by decide, by decide⟩ rfl (Nat.le_of_ble_eq_true rfl) (fun v w' hv => ?_)
                obtain ⟨S210, hF210⟩ : ∃ y, F_Flows_setTerms S194 (zAt (S 56) 4 3) x3 x4 x5 x6 = y := ⟨_, rfl⟩
                rw [hF210] at K hv
                try dsimp only [z_let] at K
                obtain ⟨rfl, rfl⟩ := hv
                show z_G X zm_T_transition (213, [(7, .inl (zAt (S 56) 4 3)), (0, z_r 0), (1, .inl x1), (2, .inl x2), (3, .inl x3), (4, .inl x4), (5, .inl x5), (6, .inl x6)], [], zW T' G' S210 n, 5, 30)
                refine z_go2 M.1.1 213 [(.iload 7, 2)] (215, [(7, .inl (zAt (S 56) 4 3)), (0, z_r 0), (1, .inl x1), (2, .inl x2), (3, .inl x3), (4, .inl x4), (5, .inl x5), (6, .inl x6)], [.inl (zAt (S 56) 4 3)], zW T' G' S210 n, 5, 30) (by decide +kernel) rfl ⟨trivial, trivial⟩ ?_
                exact z_iret M.1 (by decide +kernel) .int rfl rfl (by decide) (by decide) (hQ _ _ K)
def F_T_transition_j48 (S : (Nat → Nat → Int32)) (x1 : Int32) (x2 : Int32) (x3 : Int32) (x4 : Int32) (x5 : Int32) (x6 : Int32) : ((String ⊕ Int32) × (Nat → Nat → Int32)) := (if (F_T_isNumber S x5) = 0 then (.inl "java/lang/IllegalArgumentException", S) else (if x6 < 0 then (.inl "java/lang/IllegalArgumentException", S) else (if (2 : Int32) < x6 then (.inl "java/lang/IllegalArgumentException", S) else (if x1 = x2 then (.inl "java/lang/IllegalArgumentException", S) else (if x6 = 2 then (if x4 = (-1) then (.inl "java/lang/IllegalArgumentException", S) else (F_T_transition_j92 S x1 x2 x3 x4 x5 x6)) else (F_T_transition_j92 S x1 x2 x3 x4 x5 x6))))))
def Sf_T_transition_j48 (S : (Nat → Nat → Int32)) (x1 : Int32) (x2 : Int32) (x3 : Int32) (x4 : Int32) (x5 : Int32) (x6 : Int32) : Prop := (if (F_T_isNumber S x5) = 0 then True else (if x6 < 0 then True else (if (2 : Int32) < x6 then True else (if x1 = x2 then True else (if x6 = 2 then (if x4 = (-1) then True else (Sf_T_transition_j92 S x1 x2 x3 x4 x5 x6)) else (Sf_T_transition_j92 S x1 x2 x3 x4 x5 x6))))))
theorem t_T_transition_j48 {X : z_X} {Post : Option z_V → z_W → Prop} {PX : String → z_W → Prop} (M : z_MX X zm_T_transition rm_T_transition Post PX) {T' : Nat → Nat × Nat} {G' : Nat → Nat → Option Nat} {n : Nat} {Q : ((String ⊕ Int32) × (Nat → Nat → Int32)) → Prop} (S : (Nat → Nat → Int32)) (x1 : Int32) (x2 : Int32) (x3 : Int32) (x4 : Int32) (x5 : Int32) (x6 : Int32) (hQ : ∀ v S', Q (.inr v, S') → Post (some (.inl v)) (zW T' G' S' n)) (hX : ∀ E S' (n2 : Nat), n < n2 → Q (.inl E, S') → PX E (zW T' G' S' n2)) (K : Q (F_T_transition_j48 S x1 x2 x3 x4 x5 x6)) (hs : Sf_T_transition_j48 S x1 x2 x3 x4 x5 x6) : z_G X zm_T_transition (48, [(0, z_r 0), (1, .inl x1), (2, .inl x2), (3, .inl x3), (4, .inl x4), (5, .inl x5), (6, .inl x6)], [], zW T' G' S n, 1, 6) := by
  unfold F_T_transition_j48 at K
  unfold Sf_T_transition_j48 at hs
  refine z_go2 M.1.1 48 [(.iload 5, 2)] (50, [(0, z_r 0), (1, .inl x1), (2, .inl x2), (3, .inl x3), (4, .inl x4), (5, .inl x5), (6, .inl x6)], [.inl x5], zW T' G' S n, 1, 6) (by decide +kernel) rfl ⟨trivial, trivial⟩ ?_
  refine z_callS M.1.1 (av := [.inl x5]) (st := []) (by decide +kernel) (c_T_isNumber T' G' S n x5) M.1.2.1 zl_T_194 zs_T_isNumber ⟨by decide, by decide, by decide, by decide⟩ rfl (Nat.le_of_ble_eq_true rfl) (fun v w' hv => ?_)
  obtain ⟨rfl, rfl⟩ := hv
  show z_G X zm_T_transition (53, [(0, z_r 0), (1, .inl x1), (2, .inl x2), (3, .inl x3), (4, .inl x4), (5, .inl x5), (6, .inl x6)], [.inl (F_T_isNumber S x5)], zW T' G' S n, 1, 6)
  refine z_if_eq 71 M.1.1 (off := 18) (by decide +kernel) (by decide) (fun c53 => ?_) (fun c53 => ?_)
  · rw [if_pos c53] at K hs
    refine z_go2 M.1.1 71 [(.iconst 0, 1)] (72, [(0, z_r 0), (1, .inl x1), (2, .inl x2), (3, .inl x3), (4, .inl x4), (5, .inl x5), (6, .inl x6)], [.inl 0], zW T' G' S n, 1, 6) (by decide +kernel) rfl ⟨trivial, trivial⟩ ?_
    refine z_callSX M.1.1 (av := [.inl 0]) (st := []) (by decide +kernel) (c_mustFit T' G' S n 0) M.1.2.1 zl_T_111 (z_wi 601 (by decide +kernel) rfl) zs_T_mustFit ⟨by decide, by decide, by decide, by decide⟩ rfl (Nat.le_of_ble_eq_true rfl) (fun E w' hx => ?_) (fun v w' hv => ?_)
    · obtain ⟨h0, rfl, n2, hn2, rfl⟩ := hx
      exact M.2 _ _ (hX _ _ n2 hn2 K) (Nat.le_of_ble_eq_true rfl) (Nat.le_of_ble_eq_true rfl)
    · obtain ⟨h0, rfl, rfl⟩ := hv
      exact absurd rfl h0
  · rw [if_neg c53] at K hs
    refine z_go2 M.1.1 56 [(.iload 6, 2)] (58, [(0, z_r 0), (1, .inl x1), (2, .inl x2), (3, .inl x3), (4, .inl x4), (5, .inl x5), (6, .inl x6)], [.inl x6], zW T' G' S n, 1, 6) (by decide +kernel) rfl ⟨trivial, trivial⟩ ?_
    refine z_if_lt 71 M.1.1 (off := 13) (by decide +kernel) (by decide) (fun c58 => ?_) (fun c58 => ?_)
    · rw [if_pos c58] at K hs
      refine z_go2 M.1.1 71 [(.iconst 0, 1)] (72, [(0, z_r 0), (1, .inl x1), (2, .inl x2), (3, .inl x3), (4, .inl x4), (5, .inl x5), (6, .inl x6)], [.inl 0], zW T' G' S n, 1, 6) (by decide +kernel) rfl ⟨trivial, trivial⟩ ?_
      refine z_callSX M.1.1 (av := [.inl 0]) (st := []) (by decide +kernel) (c_mustFit T' G' S n 0) M.1.2.1 zl_T_111 (z_wi 601 (by decide +kernel) rfl) zs_T_mustFit ⟨by decide, by decide, by decide, by decide⟩ rfl (Nat.le_of_ble_eq_true rfl) (fun E w' hx => ?_) (fun v w' hv => ?_)
      · obtain ⟨h0, rfl, n2, hn2, rfl⟩ := hx
        exact M.2 _ _ (hX _ _ n2 hn2 K) (Nat.le_of_ble_eq_true rfl) (Nat.le_of_ble_eq_true rfl)
      · obtain ⟨h0, rfl, rfl⟩ := hv
        exact absurd rfl h0
    · rw [if_neg c58] at K hs
      refine z_go2 M.1.1 61 [(.iload 6, 2), (.iconst 2, 1)] (64, [(0, z_r 0), (1, .inl x1), (2, .inl x2), (3, .inl x3), (4, .inl x4), (5, .inl x5), (6, .inl x6)], [.inl 2, .inl x6], zW T' G' S n, 1, 6) (by decide +kernel) rfl ⟨trivial, trivial, trivial⟩ ?_
      refine z_icmp_gt 71 M.1.1 (off := 7) (by decide +kernel) (by decide) (fun c64 => ?_) (fun c64 => ?_)
      · rw [if_pos c64] at K hs
        refine z_go2 M.1.1 71 [(.iconst 0, 1)] (72, [(0, z_r 0), (1, .inl x1), (2, .inl x2), (3, .inl x3), (4, .inl x4), (5, .inl x5), (6, .inl x6)], [.inl 0], zW T' G' S n, 1, 6) (by decide +kernel) rfl ⟨trivial, trivial⟩ ?_
        refine z_callSX M.1.1 (av := [.inl 0]) (st := []) (by decide +kernel) (c_mustFit T' G' S n 0) M.1.2.1 zl_T_111 (z_wi 601 (by decide +kernel) rfl) zs_T_mustFit ⟨by decide, by decide, by decide, by decide⟩ rfl (Nat.le_of_ble_eq_true rfl) (fun E w' hx => ?_) (fun v w' hv => ?_)
        · obtain ⟨h0, rfl, n2, hn2, rfl⟩ := hx
          exact M.2 _ _ (hX _ _ n2 hn2 K) (Nat.le_of_ble_eq_true rfl) (Nat.le_of_ble_eq_true rfl)
        · obtain ⟨h0, rfl, rfl⟩ := hv
          exact absurd rfl h0
      · rw [if_neg c64] at K hs
        refine z_go2 M.1.1 67 [(.iconst 1, 1), (.goto 4, 3)] (72, [(0, z_r 0), (1, .inl x1), (2, .inl x2), (3, .inl x3), (4, .inl x4), (5, .inl x5), (6, .inl x6)], [.inl 1], zW T' G' S n, 1, 6) (by decide +kernel) rfl ⟨trivial, trivial, trivial⟩ ?_
        refine z_callSX M.1.1 (av := [.inl 1]) (st := []) (by decide +kernel) (c_mustFit T' G' S n 1) M.1.2.1 zl_T_111 (z_wi 601 (by decide +kernel) rfl) zs_T_mustFit ⟨by decide, by decide, by decide, by decide⟩ rfl (Nat.le_of_ble_eq_true rfl) (fun E w' hx => ?_) (fun v w' hv => ?_)
        · obtain ⟨h0, rfl, n2, hn2, rfl⟩ := hx
          exact absurd h0 (by decide)
        · obtain ⟨h0, rfl, rfl⟩ := hv
          show z_G X zm_T_transition (75, [(0, z_r 0), (1, .inl x1), (2, .inl x2), (3, .inl x3), (4, .inl x4), (5, .inl x5), (6, .inl x6)], [], zW T' G' S n, 2, 12)
          refine z_go2 M.1.1 75 [(.iload_n 1, 1), (.iload_n 2, 1)] (77, [(0, z_r 0), (1, .inl x1), (2, .inl x2), (3, .inl x3), (4, .inl x4), (5, .inl x5), (6, .inl x6)], [.inl x2, .inl x1], zW T' G' S n, 2, 12) (by decide +kernel) rfl ⟨trivial, trivial, trivial⟩ ?_
          refine z_icmp_eq 96 M.1.1 (off := 19) (by decide +kernel) (by decide) (fun c77 => ?_) (fun c77 => ?_)
          · rw [if_pos c77] at K hs
            refine z_go2 M.1.1 96 [(.iconst 0, 1)] (97, [(0, z_r 0), (1, .inl x1), (2, .inl x2), (3, .inl x3), (4, .inl x4), (5, .inl x5), (6, .inl x6)], [.inl 0], zW T' G' S n, 2, 12) (by decide +kernel) rfl ⟨trivial, trivial⟩ ?_
            refine z_callSX M.1.1 (av := [.inl 0]) (st := []) (by decide +kernel) (c_mustFit T' G' S n 0) M.1.2.1 zl_T_111 (z_wi 601 (by decide +kernel) rfl) zs_T_mustFit ⟨by decide, by decide, by decide, by decide⟩ rfl (Nat.le_of_ble_eq_true rfl) (fun E w' hx => ?_) (fun v w' hv => ?_)
            · obtain ⟨h0, rfl, n2, hn2, rfl⟩ := hx
              exact M.2 _ _ (hX _ _ n2 hn2 K) (Nat.le_of_ble_eq_true rfl) (Nat.le_of_ble_eq_true rfl)
            · obtain ⟨h0, rfl, rfl⟩ := hv
              exact absurd rfl h0
          · rw [if_neg c77] at K hs
            refine z_go2 M.1.1 80 [(.iload 6, 2), (.iconst 2, 1)] (83, [(0, z_r 0), (1, .inl x1), (2, .inl x2), (3, .inl x3), (4, .inl x4), (5, .inl x5), (6, .inl x6)], [.inl 2, .inl x6], zW T' G' S n, 2, 12) (by decide +kernel) rfl ⟨trivial, trivial, trivial⟩ ?_
            refine z_icmp_ne 92 M.1.1 (off := 9) (by decide +kernel) (by decide) (fun c83 => ?_) (fun c83 => ?_)
            · rw [if_neg c83] at K hs
              exact z_lvs (lv' := [(0, z_r 0), (1, .inl x1), (2, .inl x2), (3, .inl x3), (4, .inl x4), (5, .inl x5), (6, .inl x6)]) [0, 1, 2, 3, 4, 5, 6] rfl (t_T_transition_j92 M S x1 x2 x3 x4 x5 x6 hQ hX K hs)
            · rw [if_pos c83] at K hs
              refine z_go2 M.1.1 86 [(.iload 4, 2), (.iconst (-1), 1)] (89, [(0, z_r 0), (1, .inl x1), (2, .inl x2), (3, .inl x3), (4, .inl x4), (5, .inl x5), (6, .inl x6)], [.inl (-1), .inl x4], zW T' G' S n, 2, 12) (by decide +kernel) rfl ⟨trivial, trivial, trivial⟩ ?_
              refine z_icmp_eq 96 M.1.1 (off := 7) (by decide +kernel) (by decide) (fun c89 => ?_) (fun c89 => ?_)
              · rw [if_pos c89] at K hs
                refine z_go2 M.1.1 96 [(.iconst 0, 1)] (97, [(0, z_r 0), (1, .inl x1), (2, .inl x2), (3, .inl x3), (4, .inl x4), (5, .inl x5), (6, .inl x6)], [.inl 0], zW T' G' S n, 2, 12) (by decide +kernel) rfl ⟨trivial, trivial⟩ ?_
                refine z_callSX M.1.1 (av := [.inl 0]) (st := []) (by decide +kernel) (c_mustFit T' G' S n 0) M.1.2.1 zl_T_111 (z_wi 601 (by decide +kernel) rfl) zs_T_mustFit ⟨by decide, by decide, by decide, by decide⟩ rfl (Nat.le_of_ble_eq_true rfl) (fun E w' hx => ?_) (fun v w' hv => ?_)
                · obtain ⟨h0, rfl, n2, hn2, rfl⟩ := hx
                  exact M.2 _ _ (hX _ _ n2 hn2 K) (Nat.le_of_ble_eq_true rfl) (Nat.le_of_ble_eq_true rfl)
                · obtain ⟨h0, rfl, rfl⟩ := hv
                  exact absurd rfl h0
              · rw [if_neg c89] at K hs
                exact z_lvs (lv' := [(0, z_r 0), (1, .inl x1), (2, .inl x2), (3, .inl x3), (4, .inl x4), (5, .inl x5), (6, .inl x6)]) [0, 1, 2, 3, 4, 5, 6] rfl (t_T_transition_j92 M S x1 x2 x3 x4 x5 x6 hQ hX K hs)
def F_T_transition (S : (Nat → Nat → Int32)) (p1 : Int32) (p2 : Int32) (p3 : Int32) (p4 : Int32) (p5 : Int32) (p6 : Int32) : ((String ⊕ Int32) × (Nat → Nat → Int32)) := (if (F_T_isState S p1) = 0 then (.inl "java/lang/IllegalArgumentException", S) else (if (F_T_isState S p2) = 0 then (.inl "java/lang/IllegalArgumentException", S) else (if p3 < 1 then (.inl "java/lang/IllegalArgumentException", S) else (if (F_T_isRoles S p3) = 0 then (.inl "java/lang/IllegalArgumentException", S) else (if p4 = (-1) then (F_T_transition_j48 S p1 p2 p3 p4 p5 p6) else (if (F_T_isField S p4) = 0 then (.inl "java/lang/IllegalArgumentException", S) else (F_T_transition_j48 S p1 p2 p3 p4 p5 p6)))))))
def Sf_T_transition (S : (Nat → Nat → Int32)) (p1 : Int32) (p2 : Int32) (p3 : Int32) (p4 : Int32) (p5 : Int32) (p6 : Int32) : Prop := (if (F_T_isState S p1) = 0 then True else (if (F_T_isState S p2) = 0 then True else (if p3 < 1 then True else (if (F_T_isRoles S p3) = 0 then True else (if p4 = (-1) then (Sf_T_transition_j48 S p1 p2 p3 p4 p5 p6) else (if (F_T_isField S p4) = 0 then True else (Sf_T_transition_j48 S p1 p2 p3 p4 p5 p6)))))))
theorem c_T_transition (T' : Nat → Nat × Nat) (G' : Nat → Nat → Option Nat) (S : (Nat → Nat → Int32)) (n : Nat) (p1 : Int32) (p2 : Int32) (p3 : Int32) (p4 : Int32) (p5 : Int32) (p6 : Int32) (hs : Sf_T_transition S p1 p2 p3 p4 p5 p6) : z_RunX rm_T_transition zm_T_transition [z_r 0, .inl p1, .inl p2, .inl p3, .inl p4, .inl p5, .inl p6] (zW T' G' S n) (fun v w' => ∃ x S', F_T_transition S p1 p2 p3 p4 p5 p6 = (.inr x, S') ∧ v = some (.inl x) ∧ w' = zW T' G' S' n) (fun E w' => ∃ S' n2, n < n2 ∧ F_T_transition S p1 p2 p3 p4 p5 p6 = (.inl E, S') ∧ w' = zW T' G' S' n2) := by
  refine z_bodyX (by decide) zf_T_ok (Nat.le_of_ble_eq_true rfl) (fun X M => ?_)
  obtain ⟨Q, hQ, hX, K⟩ : ∃ Q : ((String ⊕ Int32) × (Nat → Nat → Int32)) → Prop, (∀ v S', Q (.inr v, S') → ∃ x S'', F_T_transition S p1 p2 p3 p4 p5 p6 = (.inr x, S'') ∧ some (.inl v : z_V) = some (.inl x) ∧ zW T' G' S' n = zW T' G' S'' n) ∧ (∀ E S' (n2 : Nat), n < n2 → Q (.inl E, S') → ∃ S'' n3, n < n3 ∧ F_T_transition S p1 p2 p3 p4 p5 p6 = (.inl E, S'') ∧ zW T' G' S' n2 = zW T' G' S'' n3) ∧ Q (F_T_transition S p1 p2 p3 p4 p5 p6) := ⟨fun o => F_T_transition S p1 p2 p3 p4 p5 p6 = o, fun v S' h => ⟨v, S', h, rfl, rfl⟩, fun E S' n2 hn h => ⟨S', n2, hn, h, rfl⟩, rfl⟩
  show z_G X zm_T_transition (0, [(0, z_r 0), (1, .inl p1), (2, .inl p2), (3, .inl p3), (4, .inl p4), (5, .inl p5), (6, .inl p6)], [], zW T' G' S n, 0, 0)
  unfold F_T_transition at K
  unfold Sf_T_transition at hs
  refine z_go2 M.1.1 0 [(.iload_n 1, 1)] (1, [(0, z_r 0), (1, .inl p1), (2, .inl p2), (3, .inl p3), (4, .inl p4), (5, .inl p5), (6, .inl p6)], [.inl p1], zW T' G' S n, 0, 0) (by decide +kernel) rfl ⟨trivial, trivial⟩ ?_
  refine z_callS M.1.1 (av := [.inl p1]) (st := []) (by decide +kernel) (c_T_isState T' G' S n p1) M.1.2.1 zl_T_188 zs_T_isState ⟨by decide, by decide, by decide, by decide⟩ rfl (Nat.le_of_ble_eq_true rfl) (fun v w' hv => ?_)
  obtain ⟨rfl, rfl⟩ := hv
  show z_G X zm_T_transition (4, [(0, z_r 0), (1, .inl p1), (2, .inl p2), (3, .inl p3), (4, .inl p4), (5, .inl p5), (6, .inl p6)], [.inl (F_T_isState S p1)], zW T' G' S n, 0, 0)
  refine z_if_eq 30 M.1.1 (off := 26) (by decide +kernel) (by decide) (fun c4 => ?_) (fun c4 => ?_)
  · rw [if_pos c4] at K hs
    refine z_go2 M.1.1 30 [(.iconst 0, 1)] (31, [(0, z_r 0), (1, .inl p1), (2, .inl p2), (3, .inl p3), (4, .inl p4), (5, .inl p5), (6, .inl p6)], [.inl 0], zW T' G' S n, 0, 0) (by decide +kernel) rfl ⟨trivial, trivial⟩ ?_
    refine z_callSX M.1.1 (av := [.inl 0]) (st := []) (by decide +kernel) (c_mustFit T' G' S n 0) M.1.2.1 zl_T_111 (z_wi 601 (by decide +kernel) rfl) zs_T_mustFit ⟨by decide, by decide, by decide, by decide⟩ rfl (Nat.le_of_ble_eq_true rfl) (fun E w' hx => ?_) (fun v w' hv => ?_)
    · obtain ⟨h0, rfl, n2, hn2, rfl⟩ := hx
      exact M.2 _ _ (hX _ _ n2 hn2 K) (Nat.le_of_ble_eq_true rfl) (Nat.le_of_ble_eq_true rfl)
    · obtain ⟨h0, rfl, rfl⟩ := hv
      exact absurd rfl h0
  · rw [if_neg c4] at K hs
    refine z_go2 M.1.1 7 [(.iload_n 2, 1)] (8, [(0, z_r 0), (1, .inl p1), (2, .inl p2), (3, .inl p3), (4, .inl p4), (5, .inl p5), (6, .inl p6)], [.inl p2], zW T' G' S n, 0, 0) (by decide +kernel) rfl ⟨trivial, trivial⟩ ?_
    refine z_callS M.1.1 (av := [.inl p2]) (st := []) (by decide +kernel) (c_T_isState T' G' S n p2) M.1.2.1 zl_T_188 zs_T_isState ⟨by decide, by decide, by decide, by decide⟩ rfl (Nat.le_of_ble_eq_true rfl) (fun v w' hv => ?_)
    obtain ⟨rfl, rfl⟩ := hv
    show z_G X zm_T_transition (11, [(0, z_r 0), (1, .inl p1), (2, .inl p2), (3, .inl p3), (4, .inl p4), (5, .inl p5), (6, .inl p6)], [.inl (F_T_isState S p2)], zW T' G' S n, 0, 0)
    refine z_if_eq 30 M.1.1 (off := 19) (by decide +kernel) (by decide) (fun c11 => ?_) (fun c11 => ?_)
    · rw [if_pos c11] at K hs
      refine z_go2 M.1.1 30 [(.iconst 0, 1)] (31, [(0, z_r 0), (1, .inl p1), (2, .inl p2), (3, .inl p3), (4, .inl p4), (5, .inl p5), (6, .inl p6)], [.inl 0], zW T' G' S n, 0, 0) (by decide +kernel) rfl ⟨trivial, trivial⟩ ?_
      refine z_callSX M.1.1 (av := [.inl 0]) (st := []) (by decide +kernel) (c_mustFit T' G' S n 0) M.1.2.1 zl_T_111 (z_wi 601 (by decide +kernel) rfl) zs_T_mustFit ⟨by decide, by decide, by decide, by decide⟩ rfl (Nat.le_of_ble_eq_true rfl) (fun E w' hx => ?_) (fun v w' hv => ?_)
      · obtain ⟨h0, rfl, n2, hn2, rfl⟩ := hx
        exact M.2 _ _ (hX _ _ n2 hn2 K) (Nat.le_of_ble_eq_true rfl) (Nat.le_of_ble_eq_true rfl)
      · obtain ⟨h0, rfl, rfl⟩ := hv
        exact absurd rfl h0
    · rw [if_neg c11] at K hs
      refine z_go2 M.1.1 14 [(.iload_n 3, 1), (.iconst 1, 1)] (16, [(0, z_r 0), (1, .inl p1), (2, .inl p2), (3, .inl p3), (4, .inl p4), (5, .inl p5), (6, .inl p6)], [.inl 1, .inl p3], zW T' G' S n, 0, 0) (by decide +kernel) rfl ⟨trivial, trivial, trivial⟩ ?_
      refine z_icmp_lt 30 M.1.1 (off := 14) (by decide +kernel) (by decide) (fun c16 => ?_) (fun c16 => ?_)
      · rw [if_pos c16] at K hs
        refine z_go2 M.1.1 30 [(.iconst 0, 1)] (31, [(0, z_r 0), (1, .inl p1), (2, .inl p2), (3, .inl p3), (4, .inl p4), (5, .inl p5), (6, .inl p6)], [.inl 0], zW T' G' S n, 0, 0) (by decide +kernel) rfl ⟨trivial, trivial⟩ ?_
        refine z_callSX M.1.1 (av := [.inl 0]) (st := []) (by decide +kernel) (c_mustFit T' G' S n 0) M.1.2.1 zl_T_111 (z_wi 601 (by decide +kernel) rfl) zs_T_mustFit ⟨by decide, by decide, by decide, by decide⟩ rfl (Nat.le_of_ble_eq_true rfl) (fun E w' hx => ?_) (fun v w' hv => ?_)
        · obtain ⟨h0, rfl, n2, hn2, rfl⟩ := hx
          exact M.2 _ _ (hX _ _ n2 hn2 K) (Nat.le_of_ble_eq_true rfl) (Nat.le_of_ble_eq_true rfl)
        · obtain ⟨h0, rfl, rfl⟩ := hv
          exact absurd rfl h0
      · rw [if_neg c16] at K hs
        refine z_go2 M.1.1 19 [(.iload_n 3, 1)] (20, [(0, z_r 0), (1, .inl p1), (2, .inl p2), (3, .inl p3), (4, .inl p4), (5, .inl p5), (6, .inl p6)], [.inl p3], zW T' G' S n, 0, 0) (by decide +kernel) rfl ⟨trivial, trivial⟩ ?_
        refine z_callS M.1.1 (av := [.inl p3]) (st := []) (by decide +kernel) (c_T_isRoles T' G' S n p3) M.1.2.1 zl_T_108 zs_T_isRoles ⟨by decide, by decide, by decide, by decide⟩ rfl (Nat.le_of_ble_eq_true rfl) (fun v w' hv => ?_)
        obtain ⟨rfl, rfl⟩ := hv
        show z_G X zm_T_transition (23, [(0, z_r 0), (1, .inl p1), (2, .inl p2), (3, .inl p3), (4, .inl p4), (5, .inl p5), (6, .inl p6)], [.inl (F_T_isRoles S p3)], zW T' G' S n, 0, 0)
        refine z_if_eq 30 M.1.1 (off := 7) (by decide +kernel) (by decide) (fun c23 => ?_) (fun c23 => ?_)
        · rw [if_pos c23] at K hs
          refine z_go2 M.1.1 30 [(.iconst 0, 1)] (31, [(0, z_r 0), (1, .inl p1), (2, .inl p2), (3, .inl p3), (4, .inl p4), (5, .inl p5), (6, .inl p6)], [.inl 0], zW T' G' S n, 0, 0) (by decide +kernel) rfl ⟨trivial, trivial⟩ ?_
          refine z_callSX M.1.1 (av := [.inl 0]) (st := []) (by decide +kernel) (c_mustFit T' G' S n 0) M.1.2.1 zl_T_111 (z_wi 601 (by decide +kernel) rfl) zs_T_mustFit ⟨by decide, by decide, by decide, by decide⟩ rfl (Nat.le_of_ble_eq_true rfl) (fun E w' hx => ?_) (fun v w' hv => ?_)
          · obtain ⟨h0, rfl, n2, hn2, rfl⟩ := hx
            exact M.2 _ _ (hX _ _ n2 hn2 K) (Nat.le_of_ble_eq_true rfl) (Nat.le_of_ble_eq_true rfl)
          · obtain ⟨h0, rfl, rfl⟩ := hv
            exact absurd rfl h0
        · rw [if_neg c23] at K hs
          refine z_go2 M.1.1 26 [(.iconst 1, 1), (.goto 4, 3)] (31, [(0, z_r 0), (1, .inl p1), (2, .inl p2), (3, .inl p3), (4, .inl p4), (5, .inl p5), (6, .inl p6)], [.inl 1], zW T' G' S n, 0, 0) (by decide +kernel) rfl ⟨trivial, trivial, trivial⟩ ?_
          refine z_callSX M.1.1 (av := [.inl 1]) (st := []) (by decide +kernel) (c_mustFit T' G' S n 1) M.1.2.1 zl_T_111 (z_wi 601 (by decide +kernel) rfl) zs_T_mustFit ⟨by decide, by decide, by decide, by decide⟩ rfl (Nat.le_of_ble_eq_true rfl) (fun E w' hx => ?_) (fun v w' hv => ?_)
          · obtain ⟨h0, rfl, n2, hn2, rfl⟩ := hx
            exact absurd h0 (by decide)
          · obtain ⟨h0, rfl, rfl⟩ := hv
            show z_G X zm_T_transition (34, [(0, z_r 0), (1, .inl p1), (2, .inl p2), (3, .inl p3), (4, .inl p4), (5, .inl p5), (6, .inl p6)], [], zW T' G' S n, 1, 6)
            refine z_go2 M.1.1 34 [(.iload 4, 2), (.iconst (-1), 1)] (37, [(0, z_r 0), (1, .inl p1), (2, .inl p2), (3, .inl p3), (4, .inl p4), (5, .inl p5), (6, .inl p6)], [.inl (-1), .inl p4], zW T' G' S n, 1, 6) (by decide +kernel) rfl ⟨trivial, trivial, trivial⟩ ?_
            refine z_icmp_eq 48 M.1.1 (off := 11) (by decide +kernel) (by decide) (fun c37 => ?_) (fun c37 => ?_)
            · rw [if_pos c37] at K hs
              exact z_lvs (lv' := [(0, z_r 0), (1, .inl p1), (2, .inl p2), (3, .inl p3), (4, .inl p4), (5, .inl p5), (6, .inl p6)]) [0, 1, 2, 3, 4, 5, 6] rfl (t_T_transition_j48 M S p1 p2 p3 p4 p5 p6 hQ hX K hs)
            · rw [if_neg c37] at K hs
              refine z_go2 M.1.1 40 [(.iload 4, 2)] (42, [(0, z_r 0), (1, .inl p1), (2, .inl p2), (3, .inl p3), (4, .inl p4), (5, .inl p5), (6, .inl p6)], [.inl p4], zW T' G' S n, 1, 6) (by decide +kernel) rfl ⟨trivial, trivial⟩ ?_
              refine z_callS M.1.1 (av := [.inl p4]) (st := []) (by decide +kernel) (c_T_isField T' G' S n p4) M.1.2.1 zl_T_157 zs_T_isField ⟨by decide, by decide, by decide, by decide⟩ rfl (Nat.le_of_ble_eq_true rfl) (fun v w' hv => ?_)
              obtain ⟨rfl, rfl⟩ := hv
              show z_G X zm_T_transition (45, [(0, z_r 0), (1, .inl p1), (2, .inl p2), (3, .inl p3), (4, .inl p4), (5, .inl p5), (6, .inl p6)], [.inl (F_T_isField S p4)], zW T' G' S n, 1, 6)
              refine z_if_eq 71 M.1.1 (off := 26) (by decide +kernel) (by decide) (fun c45 => ?_) (fun c45 => ?_)
              · rw [if_pos c45] at K hs
                refine z_go2 M.1.1 71 [(.iconst 0, 1)] (72, [(0, z_r 0), (1, .inl p1), (2, .inl p2), (3, .inl p3), (4, .inl p4), (5, .inl p5), (6, .inl p6)], [.inl 0], zW T' G' S n, 1, 6) (by decide +kernel) rfl ⟨trivial, trivial⟩ ?_
                refine z_callSX M.1.1 (av := [.inl 0]) (st := []) (by decide +kernel) (c_mustFit T' G' S n 0) M.1.2.1 zl_T_111 (z_wi 601 (by decide +kernel) rfl) zs_T_mustFit ⟨by decide, by decide, by decide, by decide⟩ rfl (Nat.le_of_ble_eq_true rfl) (fun E w' hx => ?_) (fun v w' hv => ?_)
                · obtain ⟨h0, rfl, n2, hn2, rfl⟩ := hx
                  exact M.2 _ _ (hX _ _ n2 hn2 K) (Nat.le_of_ble_eq_true rfl) (Nat.le_of_ble_eq_true rfl)
                · obtain ⟨h0, rfl, rfl⟩ := hv
                  exact absurd rfl h0
              · rw [if_neg c45] at K hs
                exact z_lvs (lv' := [(0, z_r 0), (1, .inl p1), (2, .inl p2), (3, .inl p3), (4, .inl p4), (5, .inl p5), (6, .inl p6)]) [0, 1, 2, 3, 4, 5, 6] rfl (t_T_transition_j48 M S p1 p2 p3 p4 p5 p6 hQ hX K hs)

-- TrackHouse.publish
abbrev rm_T_publish : Room := zx 7 3
def F_T_publish_L36 (x1 : Int32) (x2 : Int32) : Nat → (Nat → Nat → Int32) → Int32 → ((Nat → Nat → Int32))
  | 0, S, x3 => S
  | f + 1, S, x3 => (if (30 : Int32) ≤ x3 then S else (if (F_World_has 9 S x3) = 0 then ((F_T_publish_L36 x1 x2 f) S (x3 + 1)) else (if (F_World_cell 9 S x3 9) = (S 54 4) then (if (F_Flows_has S 3 (F_World_cell 9 S x3 0)) = 0 then (z_let (F_T_change S x1 x3 0 0 (F_Flows_mappedFrom S (F_World_cell 9 S x3 0))) (fun S111 => ((F_T_publish_L36 x1 x2 f) S111 (x3 + 1)))) else ((F_T_publish_L36 x1 x2 f) S (x3 + 1))) else ((F_T_publish_L36 x1 x2 f) S (x3 + 1)))))
def Sf_T_publish_L36 (x1 : Int32) (x2 : Int32) : Nat → (Nat → Nat → Int32) → Int32 → Prop
  | 0, _, _ => False
  | f + 1, S, x3 => (if (30 : Int32) ≤ x3 then True else (Sf_World_cell 9 S x3 0 ∧ (if (F_World_has 9 S x3) = 0 then ((Sf_T_publish_L36 x1 x2 f) S (x3 + 1)) else (Sf_World_cell 9 S x3 9 ∧ (if (F_World_cell 9 S x3 9) = (S 54 4) then (Sf_Flows_has S 3 (F_World_cell 9 S x3 0) ∧ (if (F_Flows_has S 3 (F_World_cell 9 S x3 0)) = 0 then (Sf_Flows_mappedFrom S (F_World_cell 9 S x3 0) ∧ (Sf_T_change S x1 x3 0 0 (F_Flows_mappedFrom S (F_World_cell 9 S x3 0)) ∧ (z_let (F_T_change S x1 x3 0 0 (F_Flows_mappedFrom S (F_World_cell 9 S x3 0))) (fun S111 => ((Sf_T_publish_L36 x1 x2 f) S111 (x3 + 1)))))) else ((Sf_T_publish_L36 x1 x2 f) S (x3 + 1)))) else ((Sf_T_publish_L36 x1 x2 f) S (x3 + 1)))))))
theorem t_T_publish_L36 {X : z_X} {Post : Option z_V → z_W → Prop} {PX : String → z_W → Prop} (M : z_MX X zm_T_publish rm_T_publish Post PX) {T' : Nat → Nat × Nat} {G' : Nat → Nat → Option Nat} {n : Nat} {Q : ((Nat → Nat → Int32)) → Prop}  (x1 : Int32) (x2 : Int32) (hE : ∀ (S' : (Nat → Nat → Int32)), Q S' → z_G X zm_T_publish (120, [(0, z_r 0), (1, .inl x1), (2, .inl x2)], [], zW T' G' S' n, 2, 12)) (f : Nat) : ∀ (S : (Nat → Nat → Int32)) (x3 : Int32), Q (F_T_publish_L36 x1 x2 f S x3) → Sf_T_publish_L36 x1 x2 f S x3 → z_G X zm_T_publish (36, [(0, z_r 0), (1, .inl x1), (2, .inl x2), (3, .inl x3)], [], zW T' G' S n, 2, 12) := by
  induction f with
  | zero => intro S x3 K hs; exact False.elim hs
  | succ f hC =>
    intro S x3 K hs
    rw [F_T_publish_L36] at K
    rw [Sf_T_publish_L36] at hs
    refine z_go2 M.1.1 36 [(.iload_n 3, 1), (.bipush 30, 2)] (39, [(0, z_r 0), (1, .inl x1), (2, .inl x2), (3, .inl x3)], [.inl 30, .inl x3], zW T' G' S n, 2, 12) (by decide +kernel) rfl ⟨trivial, trivial, trivial⟩ ?_
    refine z_icmp_ge 120 M.1.1 (off := 81) (by decide +kernel) (by decide) (fun c39 => ?_) (fun c39 => ?_)
    · rw [if_pos c39] at K hs
      exact z_lvs (lv' := [(0, z_r 0), (1, .inl x1), (2, .inl x2)]) [0, 1, 2] rfl (hE S K)
    · rw [if_neg c39] at K hs
      refine z_go2 M.1.1 42 [(.aload_n 0, 1), (.getfield 19, 3), (.iload_n 3, 1), (.iconst 0, 1)] (48, [(0, z_r 0), (1, .inl x1), (2, .inl x2), (3, .inl x3)], [.inl 0, .inl x3, z_r 9], zW T' G' S n, 2, 12) (by decide +kernel) rfl ⟨trivial, rfl, trivial, trivial, trivial⟩ ?_
      refine z_callV M.1.1 (av := [.inl x3, .inl 0]) (st := []) (a := 9) (ci := 10) (by decide +kernel) (c_World_cell_9 T' G' S n x3 0 hs.1) M.1.2.1 zl_T_207 zv_World_cell rfl rfl rfl ⟨by decide, by decide, by decide, by decide⟩ rfl (Nat.le_of_ble_eq_true rfl) (fun v w' hv => ?_)
      obtain ⟨rfl, rfl⟩ := hv
      replace hs := hs.2
      show z_G X zm_T_publish (51, [(0, z_r 0), (1, .inl x1), (2, .inl x2), (3, .inl x3)], [.inl (F_World_cell 9 S x3 0)], zW T' G' S n, 2, 12)
      refine z_go2 M.1.1 51 [(.istore 4, 2), (.aload_n 0, 1), (.getfield 19, 3), (.iload_n 3, 1)] (58, [(4, .inl (F_World_cell 9 S x3 0)), (0, z_r 0), (1, .inl x1), (2, .inl x2), (3, .inl x3)], [.inl x3, z_r 9], zW T' G' S n, 2, 12) (by decide +kernel) rfl ⟨trivial, trivial, rfl, trivial, trivial⟩ ?_
      refine z_callV M.1.1 (av := [.inl x3]) (st := []) (a := 9) (ci := 10) (by decide +kernel) (c_World_has_9 T' G' S n x3) M.1.2.1 zl_T_210 zv_World_has rfl rfl rfl ⟨by decide, by decide, by decide, by decide⟩ rfl (Nat.le_of_ble_eq_true rfl) (fun v w' hv => ?_)
      obtain ⟨rfl, rfl⟩ := hv
      show z_G X zm_T_publish (61, [(4, .inl (F_World_cell 9 S x3 0)), (0, z_r 0), (1, .inl x1), (2, .inl x2), (3, .inl x3)], [.inl (F_World_has 9 S x3)], zW T' G' S n, 2, 12)
      refine z_if_eq 114 M.1.1 (off := 53) (by decide +kernel) (by decide) (fun c61 => ?_) (fun c61 => ?_)
      · rw [if_pos c61] at K hs
        refine z_go2 M.1.1 114 [(.iinc 3 1, 3), (.goto (-81), 3)] (36, [(3, .inl (x3 + 1)), (4, .inl (F_World_cell 9 S x3 0)), (0, z_r 0), (1, .inl x1), (2, .inl x2)], [], zW T' G' S n, 2, 12) (by decide +kernel) rfl ⟨trivial, trivial, trivial⟩ ?_
        exact z_lvs (lv' := [(0, z_r 0), (1, .inl x1), (2, .inl x2), (3, .inl (x3 + 1))]) [2, 3, 4, 0] rfl (hC S (x3 + 1) K hs)
      · rw [if_neg c61] at K hs
        refine z_go2 M.1.1 64 [(.aload_n 0, 1), (.getfield 19, 3), (.iload_n 3, 1), (.bipush 9, 2)] (71, [(4, .inl (F_World_cell 9 S x3 0)), (0, z_r 0), (1, .inl x1), (2, .inl x2), (3, .inl x3)], [.inl 9, .inl x3, z_r 9], zW T' G' S n, 2, 12) (by decide +kernel) rfl ⟨trivial, rfl, trivial, trivial, trivial⟩ ?_
        refine z_callV M.1.1 (av := [.inl x3, .inl 9]) (st := []) (a := 9) (ci := 10) (by decide +kernel) (c_World_cell_9 T' G' S n x3 9 hs.1) M.1.2.1 zl_T_207 zv_World_cell rfl rfl rfl ⟨by decide, by decide, by decide, by decide⟩ rfl (Nat.le_of_ble_eq_true rfl) (fun v w' hv => ?_)
        obtain ⟨rfl, rfl⟩ := hv
        replace hs := hs.2
        show z_G X zm_T_publish (74, [(4, .inl (F_World_cell 9 S x3 0)), (0, z_r 0), (1, .inl x1), (2, .inl x2), (3, .inl x3)], [.inl (F_World_cell 9 S x3 9)], zW T' G' S n, 2, 12)
        refine z_go2 M.1.1 74 [(.aload_n 0, 1), (.getfield 58, 3), (.getfield 171, 3)] (81, [(4, .inl (F_World_cell 9 S x3 0)), (0, z_r 0), (1, .inl x1), (2, .inl x2), (3, .inl x3)], [.inl (S 54 4), .inl (F_World_cell 9 S x3 9)], zW T' G' S n, 2, 12) (by decide +kernel) rfl ⟨trivial, rfl, rfl, trivial⟩ ?_
        refine z_icmp_ne 114 M.1.1 (off := 33) (by decide +kernel) (by decide) (fun c81 => ?_) (fun c81 => ?_)
        · rw [if_neg c81] at K hs
          refine z_go2 M.1.1 114 [(.iinc 3 1, 3), (.goto (-81), 3)] (36, [(3, .inl (x3 + 1)), (4, .inl (F_World_cell 9 S x3 0)), (0, z_r 0), (1, .inl x1), (2, .inl x2)], [], zW T' G' S n, 2, 12) (by decide +kernel) rfl ⟨trivial, trivial, trivial⟩ ?_
          exact z_lvs (lv' := [(0, z_r 0), (1, .inl x1), (2, .inl x2), (3, .inl (x3 + 1))]) [2, 3, 4, 0] rfl (hC S (x3 + 1) K hs)
        · rw [if_pos c81] at K hs
          refine z_go2 M.1.1 84 [(.aload_n 0, 1), (.getfield 58, 3), (.iconst 3, 1), (.iload 4, 2)] (91, [(4, .inl (F_World_cell 9 S x3 0)), (0, z_r 0), (1, .inl x1), (2, .inl x2), (3, .inl x3)], [.inl (F_World_cell 9 S x3 0), .inl 3, z_r 54], zW T' G' S n, 2, 12) (by decide +kernel) rfl ⟨trivial, rfl, trivial, trivial, trivial⟩ ?_
          refine z_callV M.1.1 (av := [.inl 3, .inl (F_World_cell 9 S x3 0)]) (st := []) (a := 54) (ci := 2) (by decide +kernel) (c_Flows_has T' G' S n 3 (F_World_cell 9 S x3 0) hs.1) M.1.2.1 zl_T_181 zv_Flows_has rfl rfl rfl ⟨by decide, by decide, by decide, by decide⟩ rfl (Nat.le_of_ble_eq_true rfl) (fun v w' hv => ?_)
          obtain ⟨rfl, rfl⟩ := hv
          replace hs := hs.2
          show z_G X zm_T_publish (94, [(4, .inl (F_World_cell 9 S x3 0)), (0, z_r 0), (1, .inl x1), (2, .inl x2), (3, .inl x3)], [.inl (F_Flows_has S 3 (F_World_cell 9 S x3 0))], zW T' G' S n, 2, 12)
          refine z_if_ne 114 M.1.1 (off := 20) (by decide +kernel) (by decide) (fun c94 => ?_) (fun c94 => ?_)
          · rw [if_neg c94] at K hs
            refine z_go2 M.1.1 114 [(.iinc 3 1, 3), (.goto (-81), 3)] (36, [(3, .inl (x3 + 1)), (4, .inl (F_World_cell 9 S x3 0)), (0, z_r 0), (1, .inl x1), (2, .inl x2)], [], zW T' G' S n, 2, 12) (by decide +kernel) rfl ⟨trivial, trivial, trivial⟩ ?_
            exact z_lvs (lv' := [(0, z_r 0), (1, .inl x1), (2, .inl x2), (3, .inl (x3 + 1))]) [2, 3, 4, 0] rfl (hC S (x3 + 1) K hs)
          · rw [if_pos c94] at K hs
            refine z_go2 M.1.1 97 [(.aload_n 0, 1), (.iload_n 1, 1), (.iload_n 3, 1), (.iconst 0, 1), (.iconst 0, 1), (.aload_n 0, 1), (.getfield 58, 3), (.iload 4, 2)] (108, [(4, .inl (F_World_cell 9 S x3 0)), (0, z_r 0), (1, .inl x1), (2, .inl x2), (3, .inl x3)], [.inl (F_World_cell 9 S x3 0), z_r 54, .inl 0, .inl 0, .inl x3, .inl x1, z_r 0], zW T' G' S n, 2, 12) (by decide +kernel) rfl ⟨trivial, trivial, trivial, trivial, trivial, trivial, rfl, trivial, trivial⟩ ?_
            refine z_callV M.1.1 (av := [.inl (F_World_cell 9 S x3 0)]) (st := [.inl 0, .inl 0, .inl x3, .inl x1, z_r 0]) (a := 54) (ci := 2) (by decide +kernel) (c_Flows_mappedFrom T' G' S n (F_World_cell 9 S x3 0) hs.1) M.1.2.1 zl_T_212 zv_Flows_mappedFrom rfl rfl rfl ⟨by decide, by decide, by decide, by decide⟩ rfl (Nat.le_of_ble_eq_true rfl) (fun v w' hv => ?_)
            obtain ⟨rfl, rfl⟩ := hv
            replace hs := hs.2
            show z_G X zm_T_publish (111, [(4, .inl (F_World_cell 9 S x3 0)), (0, z_r 0), (1, .inl x1), (2, .inl x2), (3, .inl x3)], [.inl (F_Flows_mappedFrom S (F_World_cell 9 S x3 0)), .inl 0, .inl 0, .inl x3, .inl x1, z_r 0], zW T' G' S n, 2, 12)
            refine z_callV M.1.1 (av := [.inl x1, .inl x3, .inl 0, .inl 0, .inl (F_Flows_mappedFrom S (F_World_cell 9 S x3 0))]) (st := []) (a := 0) (ci := 11) (by decide +kernel) (c_T_change T' G' S n x1 x3 0 0 (F_Flows_mappedFrom S (F_World_cell 9 S x3 0)) hs.1) M.1.2.1 zl_T_121 zv_T_change rfl rfl rfl ⟨by decide, by decide, by decide, by decide⟩ rfl (Nat.le_of_ble_eq_true rfl) (fun v w' hv => ?_)
            replace hs := hs.2
            obtain ⟨S111, hF111⟩ : ∃ y, F_T_change S x1 x3 0 0 (F_Flows_mappedFrom S (F_World_cell 9 S x3 0)) = y := ⟨_, rfl⟩
            rw [hF111] at K hv
            try rw [hF111] at hs
            try dsimp only [z_let] at K hs
            obtain ⟨rfl, rfl⟩ := hv
            show z_G X zm_T_publish (114, [(4, .inl (F_World_cell 9 S x3 0)), (0, z_r 0), (1, .inl x1), (2, .inl x2), (3, .inl x3)], [], zW T' G' S111 n, 2, 12)
            refine z_go2 M.1.1 114 [(.iinc 3 1, 3), (.goto (-81), 3)] (36, [(3, .inl (x3 + 1)), (4, .inl (F_World_cell 9 S x3 0)), (0, z_r 0), (1, .inl x1), (2, .inl x2)], [], zW T' G' S111 n, 2, 12) (by decide +kernel) rfl ⟨trivial, trivial, trivial⟩ ?_
            exact z_lvs (lv' := [(0, z_r 0), (1, .inl x1), (2, .inl x2), (3, .inl (x3 + 1))]) [2, 3, 4, 0] rfl (hC S111 (x3 + 1) K hs)
def F_T_publish_j171 (S : (Nat → Nat → Int32)) (x3 : Int32) (x4 : Int32) : ((String ⊕ Int32) × (Nat → Nat → Int32)) := (if x4 = 0 then (.inl "java/lang/IllegalStateException", S) else (.inr x3, (z_uS S 54 4 (-1))))
theorem t_T_publish_j171 {X : z_X} {Post : Option z_V → z_W → Prop} {PX : String → z_W → Prop} (M : z_MX X zm_T_publish rm_T_publish Post PX) {T' : Nat → Nat × Nat} {G' : Nat → Nat → Option Nat} {n : Nat} {Q : ((String ⊕ Int32) × (Nat → Nat → Int32)) → Prop} (S : (Nat → Nat → Int32)) (x3 : Int32) (x4 : Int32) (hQ : ∀ v S', Q (.inr v, S') → Post (some (.inl v)) (zW T' G' S' n)) (hX : ∀ E S' (n2 : Nat), n < n2 → Q (.inl E, S') → PX E (zW T' G' S' n2)) (K : Q (F_T_publish_j171 S x3 x4)) : z_G X zm_T_publish (171, [(0, z_r 0), (3, .inl x3), (4, .inl x4)], [], zW T' G' S n, 2, 12) := by
  unfold F_T_publish_j171 at K
  refine z_go2 M.1.1 171 [(.iload 4, 2)] (173, [(0, z_r 0), (3, .inl x3), (4, .inl x4)], [.inl x4], zW T' G' S n, 2, 12) (by decide +kernel) rfl ⟨trivial, trivial⟩ ?_
  refine z_callSX M.1.1 (av := [.inl x4]) (st := []) (by decide +kernel) (c_mustBeAllowed T' G' S n x4) M.1.2.1 zl_T_128 (z_wi 680 (by decide +kernel) rfl) zs_T_mustBeAllowed ⟨by decide, by decide, by decide, by decide⟩ rfl (Nat.le_of_ble_eq_true rfl) (fun E w' hx => ?_) (fun v w' hv => ?_)
  · obtain ⟨h0, rfl, n2, hn2, rfl⟩ := hx
    rw [if_pos h0] at K
    exact M.2 _ _ (hX _ _ n2 hn2 K) (Nat.le_of_ble_eq_true rfl) (Nat.le_of_ble_eq_true rfl)
  · obtain ⟨h0, rfl, rfl⟩ := hv
    rw [if_neg h0] at K
    show z_G X zm_T_publish (176, [(0, z_r 0), (3, .inl x3), (4, .inl x4)], [], zW T' G' S n, 3, 18)
    refine z_go2 M.1.1 176 [(.aload_n 0, 1), (.getfield 58, 3), (.iconst (-1), 1), (.putfield 171, 3), (.iload_n 3, 1)] (185, [(0, z_r 0), (3, .inl x3), (4, .inl x4)], [.inl x3], zW T' G' (z_uS S 54 4 (-1)) n, 3, 18) (by decide +kernel) rfl ⟨trivial, rfl, trivial, ⟨rfl, trivial⟩, trivial, trivial⟩ ?_
    exact z_iret M.1 (by decide +kernel) .int rfl rfl (by decide) (by decide) (hQ _ _ K)
def F_T_publish (S : (Nat → Nat → Int32)) (p1 : Int32) : ((String ⊕ Int32) × (Nat → Nat → Int32)) := (if (F_T_isPerson S p1) = 0 then (.inl "java/lang/IndexOutOfBoundsException", S) else (if (S 54 4) = (-1) then (.inl "java/lang/IllegalStateException", S) else (match F_T_publish_L36 p1 (S 1 7) 1300 S 0 with | S36 => (z_let (F_Flows_exchange S36 (S36 54 4)) (fun S141 => (match F_T_isSettled S141 (S 1 7) p1 with | (r147, S147) => (if r147 = 0 then (z_let (F_Flows_exchange S147 (S147 54 4)) (fun S168 => (if r147 = 0 then (.inl "java/lang/IllegalStateException", S168) else (.inr ((S36 1 7) - (S 1 7)), (z_uS S168 54 4 (-1)))))) else (F_T_publish_j171 S147 ((S36 1 7) - (S 1 7)) r147))))))))
def Sf_T_publish (S : (Nat → Nat → Int32)) (p1 : Int32) : Prop := (if (F_T_isPerson S p1) = 0 then True else (if (S 54 4) = (-1) then True else (Sf_T_publish_L36 p1 (S 1 7) 1300 S 0 ∧ (match F_T_publish_L36 p1 (S 1 7) 1300 S 0 with | S36 => (Sf_Flows_exchange S36 (S36 54 4) ∧ (z_let (F_Flows_exchange S36 (S36 54 4)) (fun S141 => (Sf_T_isSettled S141 (S 1 7) p1 ∧ (match F_T_isSettled S141 (S 1 7) p1 with | (r147, S147) => (if r147 = 0 then (Sf_Flows_exchange S147 (S147 54 4) ∧ True) else True))))))))))
theorem c_T_publish (T' : Nat → Nat × Nat) (G' : Nat → Nat → Option Nat) (S : (Nat → Nat → Int32)) (n : Nat) (p1 : Int32) (hs : Sf_T_publish S p1) : z_RunX rm_T_publish zm_T_publish [z_r 0, .inl p1] (zW T' G' S n) (fun v w' => ∃ x S', F_T_publish S p1 = (.inr x, S') ∧ v = some (.inl x) ∧ w' = zW T' G' S' n) (fun E w' => ∃ S' n2, n < n2 ∧ F_T_publish S p1 = (.inl E, S') ∧ w' = zW T' G' S' n2) := by
  refine z_bodyX (by decide) zf_T_ok (Nat.le_of_ble_eq_true rfl) (fun X M => ?_)
  obtain ⟨Q, hQ, hX, K⟩ : ∃ Q : ((String ⊕ Int32) × (Nat → Nat → Int32)) → Prop, (∀ v S', Q (.inr v, S') → ∃ x S'', F_T_publish S p1 = (.inr x, S'') ∧ some (.inl v : z_V) = some (.inl x) ∧ zW T' G' S' n = zW T' G' S'' n) ∧ (∀ E S' (n2 : Nat), n < n2 → Q (.inl E, S') → ∃ S'' n3, n < n3 ∧ F_T_publish S p1 = (.inl E, S'') ∧ zW T' G' S' n2 = zW T' G' S'' n3) ∧ Q (F_T_publish S p1) := ⟨fun o => F_T_publish S p1 = o, fun v S' h => ⟨v, S', h, rfl, rfl⟩, fun E S' n2 hn h => ⟨S', n2, hn, h, rfl⟩, rfl⟩
  show z_G X zm_T_publish (0, [(0, z_r 0), (1, .inl p1)], [], zW T' G' S n, 0, 0)
  unfold F_T_publish at K
  unfold Sf_T_publish at hs
  refine z_go2 M.1.1 0 [(.iload_n 1, 1)] (1, [(0, z_r 0), (1, .inl p1)], [.inl p1], zW T' G' S n, 0, 0) (by decide +kernel) rfl ⟨trivial, trivial⟩ ?_
  refine z_callS M.1.1 (av := [.inl p1]) (st := []) (by decide +kernel) (c_T_isPerson T' G' S n p1) M.1.2.1 zl_T_97 zs_T_isPerson ⟨by decide, by decide, by decide, by decide⟩ rfl (Nat.le_of_ble_eq_true rfl) (fun v w' hv => ?_)
  obtain ⟨rfl, rfl⟩ := hv
  show z_G X zm_T_publish (4, [(0, z_r 0), (1, .inl p1)], [.inl (F_T_isPerson S p1)], zW T' G' S n, 0, 0)
  refine z_callSX M.1.1 (av := [.inl (F_T_isPerson S p1)]) (st := []) (by decide +kernel) (c_mustExist T' G' S n (F_T_isPerson S p1)) M.1.2.1 zl_T_104 (z_wi 527 (by decide +kernel) rfl) zs_T_mustExist ⟨by decide, by decide, by decide, by decide⟩ rfl (Nat.le_of_ble_eq_true rfl) (fun E w' hx => ?_) (fun v w' hv => ?_)
  · obtain ⟨h0, rfl, n2, hn2, rfl⟩ := hx
    rw [if_pos h0] at K
    exact M.2 _ _ (hX _ _ n2 hn2 K) (Nat.le_of_ble_eq_true rfl) (Nat.le_of_ble_eq_true rfl)
  · obtain ⟨h0, rfl, rfl⟩ := hv
    rw [if_neg h0] at K hs
    show z_G X zm_T_publish (7, [(0, z_r 0), (1, .inl p1)], [], zW T' G' S n, 1, 6)
    refine z_go2 M.1.1 7 [(.aload_n 0, 1), (.getfield 58, 3), (.getfield 171, 3), (.iconst (-1), 1)] (15, [(0, z_r 0), (1, .inl p1)], [.inl (-1), .inl (S 54 4)], zW T' G' S n, 1, 6) (by decide +kernel) rfl ⟨trivial, rfl, rfl, trivial, trivial⟩ ?_
    refine z_icmp_eq 22 M.1.1 (off := 7) (by decide +kernel) (by decide) (fun c15 => ?_) (fun c15 => ?_)
    · rw [if_pos c15] at K hs
      refine z_go2 M.1.1 22 [(.iconst 0, 1)] (23, [(0, z_r 0), (1, .inl p1)], [.inl 0], zW T' G' S n, 1, 6) (by decide +kernel) rfl ⟨trivial, trivial⟩ ?_
      refine z_callSX M.1.1 (av := [.inl 0]) (st := []) (by decide +kernel) (c_mustBeAllowed T' G' S n 0) M.1.2.1 zl_T_128 (z_wi 680 (by decide +kernel) rfl) zs_T_mustBeAllowed ⟨by decide, by decide, by decide, by decide⟩ rfl (Nat.le_of_ble_eq_true rfl) (fun E w' hx => ?_) (fun v w' hv => ?_)
      · obtain ⟨h0, rfl, n2, hn2, rfl⟩ := hx
        exact M.2 _ _ (hX _ _ n2 hn2 K) (Nat.le_of_ble_eq_true rfl) (Nat.le_of_ble_eq_true rfl)
      · obtain ⟨h0, rfl, rfl⟩ := hv
        exact absurd rfl h0
    · rw [if_neg c15] at K hs
      refine z_go2 M.1.1 18 [(.iconst 1, 1), (.goto 4, 3)] (23, [(0, z_r 0), (1, .inl p1)], [.inl 1], zW T' G' S n, 1, 6) (by decide +kernel) rfl ⟨trivial, trivial, trivial⟩ ?_
      refine z_callSX M.1.1 (av := [.inl 1]) (st := []) (by decide +kernel) (c_mustBeAllowed T' G' S n 1) M.1.2.1 zl_T_128 (z_wi 680 (by decide +kernel) rfl) zs_T_mustBeAllowed ⟨by decide, by decide, by decide, by decide⟩ rfl (Nat.le_of_ble_eq_true rfl) (fun E w' hx => ?_) (fun v w' hv => ?_)
      · obtain ⟨h0, rfl, n2, hn2, rfl⟩ := hx
        exact absurd h0 (by decide)
      · obtain ⟨h0, rfl, rfl⟩ := hv
        show z_G X zm_T_publish (26, [(0, z_r 0), (1, .inl p1)], [], zW T' G' S n, 2, 12)
        refine z_go2 M.1.1 26 [(.aload_n 0, 1), (.getfield 12, 3), (.getfield 118, 3), (.istore_n 2, 1), (.iconst 0, 1), (.istore_n 3, 1)] (36, [(3, .inl 0), (2, .inl (S 1 7)), (0, z_r 0), (1, .inl p1)], [], zW T' G' S n, 2, 12) (by decide +kernel) rfl ⟨trivial, rfl, rfl, trivial, trivial, trivial, trivial⟩ ?_
        refine z_lvs (lv' := [(0, z_r 0), (1, .inl p1), (2, .inl (S 1 7)), (3, .inl 0)]) [2, 3, 1, 0] rfl ?_
        refine t_T_publish_L36 M (Q := fun o => F_T_publish_L36 p1 (S 1 7) 1300 S 0 = o) p1 (S 1 7) (fun S36 hL36 => ?_) 1300 S 0 rfl hs.1
        replace hs := hs.2
        rw [hL36] at K
        try rw [hL36] at hs
        try dsimp only at K hs
        refine z_go2 M.1.1 120 [(.aload_n 0, 1), (.getfield 12, 3), (.getfield 118, 3), (.iload_n 2, 1), (.isub, 1), (.istore_n 3, 1), (.aload_n 0, 1), (.getfield 58, 3), (.aload_n 0, 1), (.getfield 58, 3), (.getfield 171, 3)] (141, [(3, .inl ((S36 1 7) - (S 1 7))), (0, z_r 0), (1, .inl p1), (2, .inl (S 1 7))], [.inl (S36 54 4), z_r 54], zW T' G' S36 n, 2, 12) (by decide +kernel) rfl ⟨trivial, rfl, rfl, trivial, trivial, trivial, trivial, rfl, trivial, rfl, rfl, trivial⟩ ?_
        refine z_callV M.1.1 (av := [.inl (S36 54 4)]) (st := []) (a := 54) (ci := 2) (by decide +kernel) (c_Flows_exchange T' G' S36 n (S36 54 4) hs.1) M.1.2.1 zl_T_216 zv_Flows_exchange rfl rfl rfl ⟨by decide, by decide, by decide, by decide⟩ rfl (Nat.le_of_ble_eq_true rfl) (fun v w' hv => ?_)
        replace hs := hs.2
        obtain ⟨S141, hF141⟩ : ∃ y, F_Flows_exchange S36 (S36 54 4) = y := ⟨_, rfl⟩
        rw [hF141] at K hv
        try rw [hF141] at hs
        try dsimp only [z_let] at K hs
        obtain ⟨rfl, rfl⟩ := hv
        show z_G X zm_T_publish (144, [(3, .inl ((S36 1 7) - (S 1 7))), (0, z_r 0), (1, .inl p1), (2, .inl (S 1 7))], [], zW T' G' S141 n, 2, 12)
        refine z_go2 M.1.1 144 [(.aload_n 0, 1), (.iload_n 2, 1), (.iload_n 1, 1)] (147, [(3, .inl ((S36 1 7) - (S 1 7))), (0, z_r 0), (1, .inl p1), (2, .inl (S 1 7))], [.inl p1, .inl (S 1 7), z_r 0], zW T' G' S141 n, 2, 12) (by decide +kernel) rfl ⟨trivial, trivial, trivial, trivial⟩ ?_
        refine z_callV M.1.1 (av := [.inl (S 1 7), .inl p1]) (st := []) (a := 0) (ci := 11) (by decide +kernel) (c_T_isSettled T' G' S141 n (S 1 7) p1 hs.1) M.1.2.1 zl_T_219 zv_T_isSettled rfl rfl rfl ⟨by decide, by decide, by decide, by decide⟩ rfl (Nat.le_of_ble_eq_true rfl) (fun v w' hv => ?_)
        replace hs := hs.2
        rcases hF147 : F_T_isSettled S141 (S 1 7) p1 with ⟨r147, S147⟩
        rw [hF147] at K hv
        try rw [hF147] at hs
        try dsimp only at K hs
        obtain ⟨rfl, rfl⟩ := hv
        show z_G X zm_T_publish (150, [(3, .inl ((S36 1 7) - (S 1 7))), (0, z_r 0), (1, .inl p1), (2, .inl (S 1 7))], [.inl r147], zW T' G' S147 n, 2, 12)
        refine z_go2 M.1.1 150 [(.istore 4, 2), (.iload 4, 2)] (154, [(4, .inl r147), (3, .inl ((S36 1 7) - (S 1 7))), (0, z_r 0), (1, .inl p1), (2, .inl (S 1 7))], [.inl r147], zW T' G' S147 n, 2, 12) (by decide +kernel) rfl ⟨trivial, trivial, trivial⟩ ?_
        refine z_if_ne 171 M.1.1 (off := 17) (by decide +kernel) (by decide) (fun c154 => ?_) (fun c154 => ?_)
        · rw [if_neg c154] at K hs
          exact z_lvs (lv' := [(0, z_r 0), (3, .inl ((S36 1 7) - (S 1 7))), (4, .inl r147)]) [2, 1, 0] rfl (t_T_publish_j171 M S147 ((S36 1 7) - (S 1 7)) r147 hQ hX K)
        · rw [if_pos c154] at K hs
          refine z_go2 M.1.1 157 [(.aload_n 0, 1), (.getfield 58, 3), (.aload_n 0, 1), (.getfield 58, 3), (.getfield 171, 3)] (168, [(4, .inl r147), (3, .inl ((S36 1 7) - (S 1 7))), (0, z_r 0), (1, .inl p1), (2, .inl (S 1 7))], [.inl (S147 54 4), z_r 54], zW T' G' S147 n, 2, 12) (by decide +kernel) rfl ⟨trivial, rfl, trivial, rfl, rfl, trivial⟩ ?_
          refine z_callV M.1.1 (av := [.inl (S147 54 4)]) (st := []) (a := 54) (ci := 2) (by decide +kernel) (c_Flows_exchange T' G' S147 n (S147 54 4) hs.1) M.1.2.1 zl_T_216 zv_Flows_exchange rfl rfl rfl ⟨by decide, by decide, by decide, by decide⟩ rfl (Nat.le_of_ble_eq_true rfl) (fun v w' hv => ?_)
          replace hs := hs.2
          obtain ⟨S168, hF168⟩ : ∃ y, F_Flows_exchange S147 (S147 54 4) = y := ⟨_, rfl⟩
          rw [hF168] at K hv
          try dsimp only [z_let] at K
          obtain ⟨rfl, rfl⟩ := hv
          show z_G X zm_T_publish (171, [(4, .inl r147), (3, .inl ((S36 1 7) - (S 1 7))), (0, z_r 0), (1, .inl p1), (2, .inl (S 1 7))], [], zW T' G' S168 n, 2, 12)
          refine z_go2 M.1.1 171 [(.iload 4, 2)] (173, [(4, .inl r147), (3, .inl ((S36 1 7) - (S 1 7))), (0, z_r 0), (1, .inl p1), (2, .inl (S 1 7))], [.inl r147], zW T' G' S168 n, 2, 12) (by decide +kernel) rfl ⟨trivial, trivial⟩ ?_
          refine z_callSX M.1.1 (av := [.inl r147]) (st := []) (by decide +kernel) (c_mustBeAllowed T' G' S168 n r147) M.1.2.1 zl_T_128 (z_wi 680 (by decide +kernel) rfl) zs_T_mustBeAllowed ⟨by decide, by decide, by decide, by decide⟩ rfl (Nat.le_of_ble_eq_true rfl) (fun E w' hx => ?_) (fun v w' hv => ?_)
          · obtain ⟨h0, rfl, n2, hn2, rfl⟩ := hx
            rw [if_pos h0] at K
            exact M.2 _ _ (hX _ _ n2 hn2 K) (Nat.le_of_ble_eq_true rfl) (Nat.le_of_ble_eq_true rfl)
          · obtain ⟨h0, rfl, rfl⟩ := hv
            rw [if_neg h0] at K
            show z_G X zm_T_publish (176, [(4, .inl r147), (3, .inl ((S36 1 7) - (S 1 7))), (0, z_r 0), (1, .inl p1), (2, .inl (S 1 7))], [], zW T' G' S168 n, 3, 18)
            refine z_go2 M.1.1 176 [(.aload_n 0, 1), (.getfield 58, 3), (.iconst (-1), 1), (.putfield 171, 3), (.iload_n 3, 1)] (185, [(4, .inl r147), (3, .inl ((S36 1 7) - (S 1 7))), (0, z_r 0), (1, .inl p1), (2, .inl (S 1 7))], [.inl ((S36 1 7) - (S 1 7))], zW T' G' (z_uS S168 54 4 (-1)) n, 3, 18) (by decide +kernel) rfl ⟨trivial, rfl, trivial, ⟨rfl, trivial⟩, trivial, trivial⟩ ?_
            exact z_iret M.1 (by decide +kernel) .int rfl rfl (by decide) (by decide) (hQ _ _ K)

-- TrackHouse.create
abbrev rm_T_create : Room := zx 7 3
def F_T_create (S : (Nat → Nat → Int32)) (p1 : Int32) (p2 : Int32) (p3 : Int32) : ((String ⊕ Int32) × (Nat → Nat → Int32)) := (if (F_T_isPerson S p1) = 0 then (.inl "java/lang/IndexOutOfBoundsException", S) else (if (F_T_isProject S p2) = 0 then (.inl "java/lang/IndexOutOfBoundsException", S) else (if (F_T_isKind S p3) = 0 then (.inl "java/lang/IndexOutOfBoundsException", S) else (if (F_T_canEditIn S p1 p2) = 0 then (.inl "java/lang/IllegalStateException", S) else (if (30 : Int32) ≤ (F_World_size 9 S) then (.inl "java/lang/IllegalStateException", S) else (z_let (F_Log_add S (S 0 14) p1 (F_World_size 9 S) 13 p3 (-1) p2) (fun S87 => (z_let (F_World_redo 9 S87 (S 1 7)) (fun S100 => (match F_T_isSettled S100 (S 1 7) p1 with | (r107, S107) => (if r107 = 0 then (.inl "java/lang/IllegalStateException", S107) else (z_let (F_Ranks_append S107 (F_World_size 9 S)) (fun S119 => (.inr (F_World_size 9 S), S119))))))))))))))
def Sf_T_create (S : (Nat → Nat → Int32)) (p1 : Int32) (p2 : Int32) (p3 : Int32) : Prop := (if (F_T_isPerson S p1) = 0 then True else (if (F_T_isProject S p2) = 0 then True else (if (F_T_isKind S p3) = 0 then True else (if (F_T_canEditIn S p1 p2) = 0 then True else (if (30 : Int32) ≤ (F_World_size 9 S) then True else (Sf_Log_add S (S 0 14) p1 (F_World_size 9 S) 13 p3 (-1) p2 ∧ (z_let (F_Log_add S (S 0 14) p1 (F_World_size 9 S) 13 p3 (-1) p2) (fun S87 => (Sf_World_redo 9 S87 (S 1 7) ∧ (z_let (F_World_redo 9 S87 (S 1 7)) (fun S100 => (Sf_T_isSettled S100 (S 1 7) p1 ∧ (match F_T_isSettled S100 (S 1 7) p1 with | (r107, S107) => (if r107 = 0 then True else (Sf_Ranks_append S107 (F_World_size 9 S) ∧ True)))))))))))))))
theorem c_T_create (T' : Nat → Nat × Nat) (G' : Nat → Nat → Option Nat) (S : (Nat → Nat → Int32)) (n : Nat) (p1 : Int32) (p2 : Int32) (p3 : Int32) (hs : Sf_T_create S p1 p2 p3) : z_RunX rm_T_create zm_T_create [z_r 0, .inl p1, .inl p2, .inl p3] (zW T' G' S n) (fun v w' => ∃ x S', F_T_create S p1 p2 p3 = (.inr x, S') ∧ v = some (.inl x) ∧ w' = zW T' G' S' n) (fun E w' => ∃ S' n2, n < n2 ∧ F_T_create S p1 p2 p3 = (.inl E, S') ∧ w' = zW T' G' S' n2) := by
  refine z_bodyX (by decide) zf_T_ok (Nat.le_of_ble_eq_true rfl) (fun X M => ?_)
  obtain ⟨Q, hQ, hX, K⟩ : ∃ Q : ((String ⊕ Int32) × (Nat → Nat → Int32)) → Prop, (∀ v S', Q (.inr v, S') → ∃ x S'', F_T_create S p1 p2 p3 = (.inr x, S'') ∧ some (.inl v : z_V) = some (.inl x) ∧ zW T' G' S' n = zW T' G' S'' n) ∧ (∀ E S' (n2 : Nat), n < n2 → Q (.inl E, S') → ∃ S'' n3, n < n3 ∧ F_T_create S p1 p2 p3 = (.inl E, S'') ∧ zW T' G' S' n2 = zW T' G' S'' n3) ∧ Q (F_T_create S p1 p2 p3) := ⟨fun o => F_T_create S p1 p2 p3 = o, fun v S' h => ⟨v, S', h, rfl, rfl⟩, fun E S' n2 hn h => ⟨S', n2, hn, h, rfl⟩, rfl⟩
  show z_G X zm_T_create (0, [(0, z_r 0), (1, .inl p1), (2, .inl p2), (3, .inl p3)], [], zW T' G' S n, 0, 0)
  unfold F_T_create at K
  unfold Sf_T_create at hs
  refine z_go2 M.1.1 0 [(.iload_n 1, 1)] (1, [(0, z_r 0), (1, .inl p1), (2, .inl p2), (3, .inl p3)], [.inl p1], zW T' G' S n, 0, 0) (by decide +kernel) rfl ⟨trivial, trivial⟩ ?_
  refine z_callS M.1.1 (av := [.inl p1]) (st := []) (by decide +kernel) (c_T_isPerson T' G' S n p1) M.1.2.1 zl_T_97 zs_T_isPerson ⟨by decide, by decide, by decide, by decide⟩ rfl (Nat.le_of_ble_eq_true rfl) (fun v w' hv => ?_)
  obtain ⟨rfl, rfl⟩ := hv
  show z_G X zm_T_create (4, [(0, z_r 0), (1, .inl p1), (2, .inl p2), (3, .inl p3)], [.inl (F_T_isPerson S p1)], zW T' G' S n, 0, 0)
  refine z_if_eq 25 M.1.1 (off := 21) (by decide +kernel) (by decide) (fun c4 => ?_) (fun c4 => ?_)
  · rw [if_pos c4] at K hs
    refine z_go2 M.1.1 25 [(.iconst 0, 1)] (26, [(0, z_r 0), (1, .inl p1), (2, .inl p2), (3, .inl p3)], [.inl 0], zW T' G' S n, 0, 0) (by decide +kernel) rfl ⟨trivial, trivial⟩ ?_
    refine z_callSX M.1.1 (av := [.inl 0]) (st := []) (by decide +kernel) (c_mustExist T' G' S n 0) M.1.2.1 zl_T_104 (z_wi 527 (by decide +kernel) rfl) zs_T_mustExist ⟨by decide, by decide, by decide, by decide⟩ rfl (Nat.le_of_ble_eq_true rfl) (fun E w' hx => ?_) (fun v w' hv => ?_)
    · obtain ⟨h0, rfl, n2, hn2, rfl⟩ := hx
      exact M.2 _ _ (hX _ _ n2 hn2 K) (Nat.le_of_ble_eq_true rfl) (Nat.le_of_ble_eq_true rfl)
    · obtain ⟨h0, rfl, rfl⟩ := hv
      exact absurd rfl h0
  · rw [if_neg c4] at K hs
    refine z_go2 M.1.1 7 [(.iload_n 2, 1)] (8, [(0, z_r 0), (1, .inl p1), (2, .inl p2), (3, .inl p3)], [.inl p2], zW T' G' S n, 0, 0) (by decide +kernel) rfl ⟨trivial, trivial⟩ ?_
    refine z_callS M.1.1 (av := [.inl p2]) (st := []) (by decide +kernel) (c_T_isProject T' G' S n p2) M.1.2.1 zl_T_101 zs_T_isProject ⟨by decide, by decide, by decide, by decide⟩ rfl (Nat.le_of_ble_eq_true rfl) (fun v w' hv => ?_)
    obtain ⟨rfl, rfl⟩ := hv
    show z_G X zm_T_create (11, [(0, z_r 0), (1, .inl p1), (2, .inl p2), (3, .inl p3)], [.inl (F_T_isProject S p2)], zW T' G' S n, 0, 0)
    refine z_if_eq 25 M.1.1 (off := 14) (by decide +kernel) (by decide) (fun c11 => ?_) (fun c11 => ?_)
    · rw [if_pos c11] at K hs
      refine z_go2 M.1.1 25 [(.iconst 0, 1)] (26, [(0, z_r 0), (1, .inl p1), (2, .inl p2), (3, .inl p3)], [.inl 0], zW T' G' S n, 0, 0) (by decide +kernel) rfl ⟨trivial, trivial⟩ ?_
      refine z_callSX M.1.1 (av := [.inl 0]) (st := []) (by decide +kernel) (c_mustExist T' G' S n 0) M.1.2.1 zl_T_104 (z_wi 527 (by decide +kernel) rfl) zs_T_mustExist ⟨by decide, by decide, by decide, by decide⟩ rfl (Nat.le_of_ble_eq_true rfl) (fun E w' hx => ?_) (fun v w' hv => ?_)
      · obtain ⟨h0, rfl, n2, hn2, rfl⟩ := hx
        exact M.2 _ _ (hX _ _ n2 hn2 K) (Nat.le_of_ble_eq_true rfl) (Nat.le_of_ble_eq_true rfl)
      · obtain ⟨h0, rfl, rfl⟩ := hv
        exact absurd rfl h0
    · rw [if_neg c11] at K hs
      refine z_go2 M.1.1 14 [(.iload_n 3, 1)] (15, [(0, z_r 0), (1, .inl p1), (2, .inl p2), (3, .inl p3)], [.inl p3], zW T' G' S n, 0, 0) (by decide +kernel) rfl ⟨trivial, trivial⟩ ?_
      refine z_callS M.1.1 (av := [.inl p3]) (st := []) (by decide +kernel) (c_T_isKind T' G' S n p3) M.1.2.1 zl_T_154 zs_T_isKind ⟨by decide, by decide, by decide, by decide⟩ rfl (Nat.le_of_ble_eq_true rfl) (fun v w' hv => ?_)
      obtain ⟨rfl, rfl⟩ := hv
      show z_G X zm_T_create (18, [(0, z_r 0), (1, .inl p1), (2, .inl p2), (3, .inl p3)], [.inl (F_T_isKind S p3)], zW T' G' S n, 0, 0)
      refine z_if_eq 25 M.1.1 (off := 7) (by decide +kernel) (by decide) (fun c18 => ?_) (fun c18 => ?_)
      · rw [if_pos c18] at K hs
        refine z_go2 M.1.1 25 [(.iconst 0, 1)] (26, [(0, z_r 0), (1, .inl p1), (2, .inl p2), (3, .inl p3)], [.inl 0], zW T' G' S n, 0, 0) (by decide +kernel) rfl ⟨trivial, trivial⟩ ?_
        refine z_callSX M.1.1 (av := [.inl 0]) (st := []) (by decide +kernel) (c_mustExist T' G' S n 0) M.1.2.1 zl_T_104 (z_wi 527 (by decide +kernel) rfl) zs_T_mustExist ⟨by decide, by decide, by decide, by decide⟩ rfl (Nat.le_of_ble_eq_true rfl) (fun E w' hx => ?_) (fun v w' hv => ?_)
        · obtain ⟨h0, rfl, n2, hn2, rfl⟩ := hx
          exact M.2 _ _ (hX _ _ n2 hn2 K) (Nat.le_of_ble_eq_true rfl) (Nat.le_of_ble_eq_true rfl)
        · obtain ⟨h0, rfl, rfl⟩ := hv
          exact absurd rfl h0
      · rw [if_neg c18] at K hs
        refine z_go2 M.1.1 21 [(.iconst 1, 1), (.goto 4, 3)] (26, [(0, z_r 0), (1, .inl p1), (2, .inl p2), (3, .inl p3)], [.inl 1], zW T' G' S n, 0, 0) (by decide +kernel) rfl ⟨trivial, trivial, trivial⟩ ?_
        refine z_callSX M.1.1 (av := [.inl 1]) (st := []) (by decide +kernel) (c_mustExist T' G' S n 1) M.1.2.1 zl_T_104 (z_wi 527 (by decide +kernel) rfl) zs_T_mustExist ⟨by decide, by decide, by decide, by decide⟩ rfl (Nat.le_of_ble_eq_true rfl) (fun E w' hx => ?_) (fun v w' hv => ?_)
        · obtain ⟨h0, rfl, n2, hn2, rfl⟩ := hx
          exact absurd h0 (by decide)
        · obtain ⟨h0, rfl, rfl⟩ := hv
          show z_G X zm_T_create (29, [(0, z_r 0), (1, .inl p1), (2, .inl p2), (3, .inl p3)], [], zW T' G' S n, 1, 6)
          refine z_go2 M.1.1 29 [(.aload_n 0, 1), (.getfield 19, 3)] (33, [(0, z_r 0), (1, .inl p1), (2, .inl p2), (3, .inl p3)], [z_r 9], zW T' G' S n, 1, 6) (by decide +kernel) rfl ⟨trivial, rfl, trivial⟩ ?_
          refine z_callV M.1.1 (av := []) (st := []) (a := 9) (ci := 10) (by decide +kernel) (c_World_size_9 T' G' S n) M.1.2.1 zl_T_222 zv_World_size rfl rfl rfl ⟨by decide, by decide, by decide, by decide⟩ rfl (Nat.le_of_ble_eq_true rfl) (fun v w' hv => ?_)
          obtain ⟨rfl, rfl⟩ := hv
          show z_G X zm_T_create (36, [(0, z_r 0), (1, .inl p1), (2, .inl p2), (3, .inl p3)], [.inl (F_World_size 9 S)], zW T' G' S n, 1, 6)
          refine z_go2 M.1.1 36 [(.istore 4, 2), (.aload_n 0, 1), (.iload_n 1, 1), (.iload_n 2, 1)] (41, [(4, .inl (F_World_size 9 S)), (0, z_r 0), (1, .inl p1), (2, .inl p2), (3, .inl p3)], [.inl p2, .inl p1, z_r 0], zW T' G' S n, 1, 6) (by decide +kernel) rfl ⟨trivial, trivial, trivial, trivial, trivial⟩ ?_
          refine z_callV M.1.1 (av := [.inl p1, .inl p2]) (st := []) (a := 0) (ci := 11) (by decide +kernel) (c_T_canEditIn T' G' S n p1 p2) M.1.2.1 zl_T_225 zv_T_canEditIn rfl rfl rfl ⟨by decide, by decide, by decide, by decide⟩ rfl (Nat.le_of_ble_eq_true rfl) (fun v w' hv => ?_)
          obtain ⟨rfl, rfl⟩ := hv
          show z_G X zm_T_create (44, [(4, .inl (F_World_size 9 S)), (0, z_r 0), (1, .inl p1), (2, .inl p2), (3, .inl p3)], [.inl (F_T_canEditIn S p1 p2)], zW T' G' S n, 1, 6)
          refine z_if_eq 58 M.1.1 (off := 14) (by decide +kernel) (by decide) (fun c44 => ?_) (fun c44 => ?_)
          · rw [if_pos c44] at K hs
            refine z_go2 M.1.1 58 [(.iconst 0, 1)] (59, [(4, .inl (F_World_size 9 S)), (0, z_r 0), (1, .inl p1), (2, .inl p2), (3, .inl p3)], [.inl 0], zW T' G' S n, 1, 6) (by decide +kernel) rfl ⟨trivial, trivial⟩ ?_
            refine z_callSX M.1.1 (av := [.inl 0]) (st := []) (by decide +kernel) (c_mustBeAllowed T' G' S n 0) M.1.2.1 zl_T_128 (z_wi 680 (by decide +kernel) rfl) zs_T_mustBeAllowed ⟨by decide, by decide, by decide, by decide⟩ rfl (Nat.le_of_ble_eq_true rfl) (fun E w' hx => ?_) (fun v w' hv => ?_)
            · obtain ⟨h0, rfl, n2, hn2, rfl⟩ := hx
              exact M.2 _ _ (hX _ _ n2 hn2 K) (Nat.le_of_ble_eq_true rfl) (Nat.le_of_ble_eq_true rfl)
            · obtain ⟨h0, rfl, rfl⟩ := hv
              exact absurd rfl h0
          · rw [if_neg c44] at K hs
            refine z_go2 M.1.1 47 [(.iload 4, 2), (.bipush 30, 2)] (51, [(4, .inl (F_World_size 9 S)), (0, z_r 0), (1, .inl p1), (2, .inl p2), (3, .inl p3)], [.inl 30, .inl (F_World_size 9 S)], zW T' G' S n, 1, 6) (by decide +kernel) rfl ⟨trivial, trivial, trivial⟩ ?_
            refine z_icmp_ge 58 M.1.1 (off := 7) (by decide +kernel) (by decide) (fun c51 => ?_) (fun c51 => ?_)
            · rw [if_pos c51] at K hs
              refine z_go2 M.1.1 58 [(.iconst 0, 1)] (59, [(4, .inl (F_World_size 9 S)), (0, z_r 0), (1, .inl p1), (2, .inl p2), (3, .inl p3)], [.inl 0], zW T' G' S n, 1, 6) (by decide +kernel) rfl ⟨trivial, trivial⟩ ?_
              refine z_callSX M.1.1 (av := [.inl 0]) (st := []) (by decide +kernel) (c_mustBeAllowed T' G' S n 0) M.1.2.1 zl_T_128 (z_wi 680 (by decide +kernel) rfl) zs_T_mustBeAllowed ⟨by decide, by decide, by decide, by decide⟩ rfl (Nat.le_of_ble_eq_true rfl) (fun E w' hx => ?_) (fun v w' hv => ?_)
              · obtain ⟨h0, rfl, n2, hn2, rfl⟩ := hx
                exact M.2 _ _ (hX _ _ n2 hn2 K) (Nat.le_of_ble_eq_true rfl) (Nat.le_of_ble_eq_true rfl)
              · obtain ⟨h0, rfl, rfl⟩ := hv
                exact absurd rfl h0
            · rw [if_neg c51] at K hs
              refine z_go2 M.1.1 54 [(.iconst 1, 1), (.goto 4, 3)] (59, [(4, .inl (F_World_size 9 S)), (0, z_r 0), (1, .inl p1), (2, .inl p2), (3, .inl p3)], [.inl 1], zW T' G' S n, 1, 6) (by decide +kernel) rfl ⟨trivial, trivial, trivial⟩ ?_
              refine z_callSX M.1.1 (av := [.inl 1]) (st := []) (by decide +kernel) (c_mustBeAllowed T' G' S n 1) M.1.2.1 zl_T_128 (z_wi 680 (by decide +kernel) rfl) zs_T_mustBeAllowed ⟨by decide, by decide, by decide, by decide⟩ rfl (Nat.le_of_ble_eq_true rfl) (fun E w' hx => ?_) (fun v w' hv => ?_)
              · obtain ⟨h0, rfl, n2, hn2, rfl⟩ := hx
                exact absurd h0 (by decide)
              · obtain ⟨h0, rfl, rfl⟩ := hv
                show z_G X zm_T_create (62, [(4, .inl (F_World_size 9 S)), (0, z_r 0), (1, .inl p1), (2, .inl p2), (3, .inl p3)], [], zW T' G' S n, 2, 12)
                refine z_go2 M.1.1 62 [(.aload_n 0, 1), (.getfield 12, 3), (.getfield 118, 3), (.istore 5, 2), (.aload_n 0, 1), (.getfield 12, 3), (.aload_n 0, 1), (.getfield 90, 3), (.iload_n 1, 1), (.iload 4, 2), (.bipush 13, 2), (.iload_n 3, 1), (.iconst (-1), 1), (.iload_n 2, 1)] (87, [(5, .inl (S 1 7)), (4, .inl (F_World_size 9 S)), (0, z_r 0), (1, .inl p1), (2, .inl p2), (3, .inl p3)], [.inl p2, .inl (-1), .inl p3, .inl 13, .inl (F_World_size 9 S), .inl p1, .inl (S 0 14), z_r 1], zW T' G' S n, 2, 12) (by decide +kernel) rfl ⟨trivial, rfl, rfl, trivial, trivial, rfl, trivial, rfl, trivial, trivial, trivial, trivial, trivial, trivial, trivial⟩ ?_
                refine z_callV M.1.1 (av := [.inl (S 0 14), .inl p1, .inl (F_World_size 9 S), .inl 13, .inl p3, .inl (-1), .inl p2]) (st := []) (a := 1) (ci := 4) (by decide +kernel) (c_Log_add T' G' S n (S 0 14) p1 (F_World_size 9 S) 13 p3 (-1) p2 hs.1) M.1.2.1 zl_T_228 zv_Log_add rfl rfl rfl ⟨by decide, by decide, by decide, by decide⟩ rfl (Nat.le_of_ble_eq_true rfl) (fun v w' hv => ?_)
                replace hs := hs.2
                obtain ⟨S87, hF87⟩ : ∃ y, F_Log_add S (S 0 14) p1 (F_World_size 9 S) 13 p3 (-1) p2 = y := ⟨_, rfl⟩
                rw [hF87] at K hv
                try rw [hF87] at hs
                try dsimp only [z_let] at K hs
                obtain ⟨rfl, rfl⟩ := hv
                show z_G X zm_T_create (90, [(5, .inl (S 1 7)), (4, .inl (F_World_size 9 S)), (0, z_r 0), (1, .inl p1), (2, .inl p2), (3, .inl p3)], [], zW T' G' S87 n, 2, 12)
                refine z_go2 M.1.1 90 [(.aload_n 0, 1), (.getfield 19, 3), (.aload_n 0, 1), (.getfield 12, 3), (.iload 5, 2)] (100, [(5, .inl (S 1 7)), (4, .inl (F_World_size 9 S)), (0, z_r 0), (1, .inl p1), (2, .inl p2), (3, .inl p3)], [.inl (S 1 7), z_r 1, z_r 9], zW T' G' S87 n, 2, 12) (by decide +kernel) rfl ⟨trivial, rfl, trivial, rfl, trivial, trivial⟩ ?_
                refine z_callV M.1.1 (av := [z_r 1, .inl (S 1 7)]) (st := []) (a := 9) (ci := 10) (by decide +kernel) (c_World_redo_9 T' G' S87 n (S 1 7) hs.1) M.1.2.1 zl_T_231 zv_World_redo rfl rfl rfl ⟨by decide, by decide, by decide, by decide⟩ rfl (Nat.le_of_ble_eq_true rfl) (fun v w' hv => ?_)
                replace hs := hs.2
                obtain ⟨S100, hF100⟩ : ∃ y, F_World_redo 9 S87 (S 1 7) = y := ⟨_, rfl⟩
                rw [hF100] at K hv
                try rw [hF100] at hs
                try dsimp only [z_let] at K hs
                obtain ⟨rfl, rfl⟩ := hv
                show z_G X zm_T_create (103, [(5, .inl (S 1 7)), (4, .inl (F_World_size 9 S)), (0, z_r 0), (1, .inl p1), (2, .inl p2), (3, .inl p3)], [], zW T' G' S100 n, 2, 12)
                refine z_go2 M.1.1 103 [(.aload_n 0, 1), (.iload 5, 2), (.iload_n 1, 1)] (107, [(5, .inl (S 1 7)), (4, .inl (F_World_size 9 S)), (0, z_r 0), (1, .inl p1), (2, .inl p2), (3, .inl p3)], [.inl p1, .inl (S 1 7), z_r 0], zW T' G' S100 n, 2, 12) (by decide +kernel) rfl ⟨trivial, trivial, trivial, trivial⟩ ?_
                refine z_callV M.1.1 (av := [.inl (S 1 7), .inl p1]) (st := []) (a := 0) (ci := 11) (by decide +kernel) (c_T_isSettled T' G' S100 n (S 1 7) p1 hs.1) M.1.2.1 zl_T_219 zv_T_isSettled rfl rfl rfl ⟨by decide, by decide, by decide, by decide⟩ rfl (Nat.le_of_ble_eq_true rfl) (fun v w' hv => ?_)
                replace hs := hs.2
                rcases hF107 : F_T_isSettled S100 (S 1 7) p1 with ⟨r107, S107⟩
                rw [hF107] at K hv
                try rw [hF107] at hs
                try dsimp only at K hs
                obtain ⟨rfl, rfl⟩ := hv
                show z_G X zm_T_create (110, [(5, .inl (S 1 7)), (4, .inl (F_World_size 9 S)), (0, z_r 0), (1, .inl p1), (2, .inl p2), (3, .inl p3)], [.inl r107], zW T' G' S107 n, 2, 12)
                refine z_callSX M.1.1 (av := [.inl r107]) (st := []) (by decide +kernel) (c_mustBeAllowed T' G' S107 n r107) M.1.2.1 zl_T_128 (z_wi 680 (by decide +kernel) rfl) zs_T_mustBeAllowed ⟨by decide, by decide, by decide, by decide⟩ rfl (Nat.le_of_ble_eq_true rfl) (fun E w' hx => ?_) (fun v w' hv => ?_)
                · obtain ⟨h0, rfl, n2, hn2, rfl⟩ := hx
                  rw [if_pos h0] at K
                  exact M.2 _ _ (hX _ _ n2 hn2 K) (Nat.le_of_ble_eq_true rfl) (Nat.le_of_ble_eq_true rfl)
                · obtain ⟨h0, rfl, rfl⟩ := hv
                  rw [if_neg h0] at K hs
                  show z_G X zm_T_create (113, [(5, .inl (S 1 7)), (4, .inl (F_World_size 9 S)), (0, z_r 0), (1, .inl p1), (2, .inl p2), (3, .inl p3)], [], zW T' G' S107 n, 3, 18)
                  refine z_go2 M.1.1 113 [(.aload_n 0, 1), (.getfield 72, 3), (.iload 4, 2)] (119, [(5, .inl (S 1 7)), (4, .inl (F_World_size 9 S)), (0, z_r 0), (1, .inl p1), (2, .inl p2), (3, .inl p3)], [.inl (F_World_size 9 S), z_r 68], zW T' G' S107 n, 3, 18) (by decide +kernel) rfl ⟨trivial, rfl, trivial, trivial⟩ ?_
                  refine z_callV M.1.1 (av := [.inl (F_World_size 9 S)]) (st := []) (a := 68) (ci := 6) (by decide +kernel) (c_Ranks_append T' G' S107 n (F_World_size 9 S) hs.1) M.1.2.1 zl_T_235 zv_Ranks_append rfl rfl rfl ⟨by decide, by decide, by decide, by decide⟩ rfl (Nat.le_of_ble_eq_true rfl) (fun v w' hv => ?_)
                  replace hs := hs.2
                  obtain ⟨S119, hF119⟩ : ∃ y, F_Ranks_append S107 (F_World_size 9 S) = y := ⟨_, rfl⟩
                  rw [hF119] at K hv
                  try dsimp only [z_let] at K
                  obtain ⟨rfl, rfl⟩ := hv
                  show z_G X zm_T_create (122, [(5, .inl (S 1 7)), (4, .inl (F_World_size 9 S)), (0, z_r 0), (1, .inl p1), (2, .inl p2), (3, .inl p3)], [], zW T' G' S119 n, 3, 18)
                  refine z_go2 M.1.1 122 [(.iload 4, 2)] (124, [(5, .inl (S 1 7)), (4, .inl (F_World_size 9 S)), (0, z_r 0), (1, .inl p1), (2, .inl p2), (3, .inl p3)], [.inl (F_World_size 9 S)], zW T' G' S119 n, 3, 18) (by decide +kernel) rfl ⟨trivial, trivial⟩ ?_
                  exact z_iret M.1 (by decide +kernel) .int rfl rfl (by decide) (by decide) (hQ _ _ K)


