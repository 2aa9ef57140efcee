-- TrackHouse$Query.append
abbrev rm_Query_append : Room := zr 0
def F_Query_append (S : (Nat → Nat → Int32)) (p1 : Int32) : (Int32 × (Nat → Nat → Int32)) := (if (S 19 7) < 0 then ((S 19 7), S) else (if (30 : Int32) ≤ (S 19 7) then ((S 19 7), S) else (((S 19 7) + 1), (z_uS (z_uS S 20 (S 19 7).toNatClampNeg (vp_nar .char p1)) 19 7 ((S 19 7) + 1)))))
def Sf_Query_append (S : (Nat → Nat → Int32)) (p1 : Int32) : Prop := (if (S 19 7) < 0 then True else (if (30 : Int32) ≤ (S 19 7) then True else ((vp_in (S 19 7) 30) ∧ True)))
theorem c_Query_append (T' : Nat → Nat × Nat) (G' : Nat → Nat → Option Nat) (S : (Nat → Nat → Int32)) (n : Nat) (p1 : Int32) (hs : Sf_Query_append S p1) : z_Run rm_Query_append zm_Query_append [z_r 19, .inl p1] (zW T' G' S n) (zq (some (.inl (F_Query_append S p1).1)) (zW T' G' (F_Query_append S p1).2 n)) := by
  refine z_body (by decide) zf_Query_ok (Nat.le_of_ble_eq_true rfl) (fun X M => ?_)
  obtain ⟨Q, hQ, K⟩ : ∃ Q : (Int32 × (Nat → Nat → Int32)) → Prop, (∀ v S', Q (v, S') → zq (some (.inl (F_Query_append S p1).1)) (zW T' G' (F_Query_append S p1).2 n) (some (.inl v)) (zW T' G' S' n)) ∧ Q (F_Query_append S p1) := ⟨fun o => F_Query_append S p1 = o, fun v S' h => ⟨by rw [h], by rw [h]⟩, rfl⟩
  show z_G X zm_Query_append (0, [(0, z_r 19), (1, .inl p1)], [], zW T' G' S n, 0, 0)
  unfold F_Query_append at K
  unfold Sf_Query_append at hs
  refine z_go2 M.1 0 [(.aload_n 0, 1), (.getfield 34, 3)] (4, [(0, z_r 19), (1, .inl p1)], [.inl (S 19 7)], zW T' G' S n, 0, 0) (by decide +kernel) rfl ⟨trivial, rfl, trivial⟩ ?_
  refine z_if_lt 36 M.1 (off := 32) (by decide +kernel) (by decide) (fun c4 => ?_) (fun c4 => ?_)
  · rw [if_pos c4] at K hs
    refine z_go2 M.1 36 [(.aload_n 0, 1), (.getfield 34, 3)] (40, [(0, z_r 19), (1, .inl p1)], [.inl (S 19 7)], zW T' G' S n, 0, 0) (by decide +kernel) rfl ⟨trivial, rfl, trivial⟩ ?_
    exact z_iret M (by decide +kernel) .int rfl rfl (by decide) (by decide) (hQ _ _ K)
  · rw [if_neg c4] at K hs
    refine z_go2 M.1 7 [(.aload_n 0, 1), (.getfield 34, 3), (.bipush 30, 2)] (13, [(0, z_r 19), (1, .inl p1)], [.inl 30, .inl (S 19 7)], zW T' G' S n, 0, 0) (by decide +kernel) rfl ⟨trivial, rfl, trivial, trivial⟩ ?_
    refine z_icmp_ge 36 M.1 (off := 23) (by decide +kernel) (by decide) (fun c13 => ?_) (fun c13 => ?_)
    · rw [if_pos c13] at K hs
      refine z_go2 M.1 36 [(.aload_n 0, 1), (.getfield 34, 3)] (40, [(0, z_r 19), (1, .inl p1)], [.inl (S 19 7)], zW T' G' S n, 0, 0) (by decide +kernel) rfl ⟨trivial, rfl, trivial⟩ ?_
      exact z_iret M (by decide +kernel) .int rfl rfl (by decide) (by decide) (hQ _ _ K)
    · rw [if_neg c13] at K hs
      refine z_go2 M.1 16 [(.aload_n 0, 1), (.getfield 9, 3), (.aload_n 0, 1), (.getfield 34, 3), (.iload_n 1, 1), (.castore, 1), (.aload_n 0, 1), (.dup, 1), (.getfield 34, 3), (.iconst 1, 1), (.iadd, 1), (.putfield 34, 3), (.aload_n 0, 1), (.getfield 34, 3)] (40, [(0, z_r 19), (1, .inl p1)], [.inl ((S 19 7) + 1)], zW T' G' (z_uS (z_uS S 20 (S 19 7).toNatClampNeg (vp_nar .char p1)) 19 7 ((S 19 7) + 1)) n, 0, 0) (by decide +kernel) rfl ⟨trivial, rfl, trivial, rfl, trivial, ⟨rfl, hs.1⟩, trivial, rfl, rfl, trivial, trivial, ⟨rfl, trivial⟩, trivial, rfl, trivial⟩ ?_
      replace hs := hs.2
      exact z_iret M (by decide +kernel) .int rfl rfl (by decide) (by decide) (hQ _ _ K)

-- TrackHouse$Query.sign
abbrev rm_Query_sign : Room := zr 0
def F_Query_sign (S : (Nat → Nat → Int32)) : Int32 := (if (S 19 10) < 0 then 0 else (if (S 19 7) ≤ (S 19 10) then 0 else (if (30 : Int32) ≤ (S 19 10) then 0 else (S 20 (S 19 10).toNatClampNeg))))
def Sf_Query_sign (S : (Nat → Nat → Int32)) : Prop := (if (S 19 10) < 0 then (narrow .char (.int 0) = .int 0 ∧ True) else (if (S 19 7) ≤ (S 19 10) then (narrow .char (.int 0) = .int 0 ∧ True) else (if (30 : Int32) ≤ (S 19 10) then (narrow .char (.int 0) = .int 0 ∧ True) else ((vp_in (S 19 10) 30) ∧ (narrow .char (.int (S 20 (S 19 10).toNatClampNeg)) = .int (S 20 (S 19 10).toNatClampNeg) ∧ True)))))
theorem c_Query_sign (T' : Nat → Nat × Nat) (G' : Nat → Nat → Option Nat) (S : (Nat → Nat → Int32)) (n : Nat) (hs : Sf_Query_sign S) : z_Run rm_Query_sign zm_Query_sign [z_r 19] (zW T' G' S n) (zq (some (.inl (F_Query_sign S))) (zW T' G' S n)) := by
  refine z_body (by decide) zf_Query_ok (Nat.le_of_ble_eq_true rfl) (fun X M => ?_)
  obtain ⟨Q, hQ, K⟩ : ∃ Q : Int32 → Prop, (∀ v, Q v → zq (some (.inl (F_Query_sign S))) (zW T' G' S n) (some (.inl v)) (zW T' G' S n)) ∧ Q (F_Query_sign S) := ⟨fun o => F_Query_sign S = o, fun v h => ⟨by rw [h], rfl⟩, rfl⟩
  show z_G X zm_Query_sign (0, [(0, z_r 19)], [], zW T' G' S n, 0, 0)
  unfold F_Query_sign at K
  unfold Sf_Query_sign at hs
  refine z_go2 M.1 0 [(.aload_n 0, 1), (.getfield 44, 3)] (4, [(0, z_r 19)], [.inl (S 19 10)], zW T' G' S n, 0, 0) (by decide +kernel) rfl ⟨trivial, rfl, trivial⟩ ?_
  refine z_if_lt 39 M.1 (off := 35) (by decide +kernel) (by decide) (fun c4 => ?_) (fun c4 => ?_)
  · rw [if_pos c4] at K hs
    refine z_go2 M.1 39 [(.iconst 0, 1)] (40, [(0, z_r 19)], [.inl 0], zW T' G' S n, 0, 0) (by decide +kernel) rfl ⟨trivial, trivial⟩ ?_
    exact z_iret M (by decide +kernel) .char rfl hs.1 (by decide) (by decide) (hQ _ K)
  · rw [if_neg c4] at K hs
    refine z_go2 M.1 7 [(.aload_n 0, 1), (.getfield 44, 3), (.aload_n 0, 1), (.getfield 34, 3)] (15, [(0, z_r 19)], [.inl (S 19 7), .inl (S 19 10)], zW T' G' S n, 0, 0) (by decide +kernel) rfl ⟨trivial, rfl, trivial, rfl, trivial⟩ ?_
    refine z_icmp_ge 39 M.1 (off := 24) (by decide +kernel) (by decide) (fun c15 => ?_) (fun c15 => ?_)
    · rw [if_pos c15] at K hs
      refine z_go2 M.1 39 [(.iconst 0, 1)] (40, [(0, z_r 19)], [.inl 0], zW T' G' S n, 0, 0) (by decide +kernel) rfl ⟨trivial, trivial⟩ ?_
      exact z_iret M (by decide +kernel) .char rfl hs.1 (by decide) (by decide) (hQ _ K)
    · rw [if_neg c15] at K hs
      refine z_go2 M.1 18 [(.aload_n 0, 1), (.getfield 44, 3), (.bipush 30, 2)] (24, [(0, z_r 19)], [.inl 30, .inl (S 19 10)], zW T' G' S n, 0, 0) (by decide +kernel) rfl ⟨trivial, rfl, trivial, trivial⟩ ?_
      refine z_icmp_ge 39 M.1 (off := 15) (by decide +kernel) (by decide) (fun c24 => ?_) (fun c24 => ?_)
      · rw [if_pos c24] at K hs
        refine z_go2 M.1 39 [(.iconst 0, 1)] (40, [(0, z_r 19)], [.inl 0], zW T' G' S n, 0, 0) (by decide +kernel) rfl ⟨trivial, trivial⟩ ?_
        exact z_iret M (by decide +kernel) .char rfl hs.1 (by decide) (by decide) (hQ _ K)
      · rw [if_neg c24] at K hs
        refine z_go2 M.1 27 [(.aload_n 0, 1), (.getfield 9, 3), (.aload_n 0, 1), (.getfield 44, 3), (.caload, 1), (.goto 4, 3)] (40, [(0, z_r 19)], [.inl (S 20 (S 19 10).toNatClampNeg)], zW T' G' S n, 0, 0) (by decide +kernel) rfl ⟨trivial, rfl, trivial, rfl, ⟨rfl, hs.1⟩, trivial, trivial⟩ ?_
        replace hs := hs.2
        exact z_iret M (by decide +kernel) .char rfl hs.1 (by decide) (by decide) (hQ _ K)

-- TrackHouse$Query.takes
abbrev rm_Query_takes : Room := zr 1
def F_Query_takes_j13 (S : (Nat → Nat → Int32)) (s0 : Int32) : (Int32 × (Nat → Nat → Int32)) := (if s0 = 0 then (s0, (z_uS S 19 10 ((S 19 10) + 0))) else (s0, (z_uS S 19 10 ((S 19 10) + 1))))
def Sf_Query_takes_j13 (S : (Nat → Nat → Int32)) (s0 : Int32) : Prop := (if s0 = 0 then (narrow .boolean (.int s0) = .int s0 ∧ True) else (narrow .boolean (.int s0) = .int s0 ∧ True))
theorem t_Query_takes_j13 {X : z_X} {Post : Option z_V → z_W → Prop} (M : z_M X zm_Query_takes rm_Query_takes Post) {T' : Nat → Nat × Nat} {G' : Nat → Nat → Option Nat} {n : Nat} {Q : (Int32 × (Nat → Nat → Int32)) → Prop} (S : (Nat → Nat → Int32)) (s0 : Int32) (hQ : ∀ v S', Q (v, S') → Post (some (.inl v)) (zW T' G' S' n)) (K : Q (F_Query_takes_j13 S s0)) (hs : Sf_Query_takes_j13 S s0) : z_G X zm_Query_takes (13, [(0, z_r 19)], [.inl s0], zW T' G' S n, 0, 0) := by
  unfold F_Query_takes_j13 at K
  unfold Sf_Query_takes_j13 at hs
  refine z_go2 M.1 13 [(.istore_n 2, 1), (.aload_n 0, 1), (.dup, 1), (.getfield 44, 3), (.iload_n 2, 1)] (20, [(2, .inl s0), (0, z_r 19)], [.inl s0, .inl (S 19 10), z_r 19], zW T' G' S n, 0, 0) (by decide +kernel) rfl ⟨trivial, trivial, rfl, rfl, trivial, trivial⟩ ?_
  refine z_if_eq 27 M.1 (off := 7) (by decide +kernel) (by decide) (fun c20 => ?_) (fun c20 => ?_)
  · rw [if_pos c20] at K hs
    refine z_go2 M.1 27 [(.iconst 0, 1), (.iadd, 1), (.putfield 44, 3), (.iload_n 2, 1)] (33, [(2, .inl s0), (0, z_r 19)], [.inl s0], zW T' G' (z_uS S 19 10 ((S 19 10) + 0)) n, 0, 0) (by decide +kernel) rfl ⟨trivial, trivial, ⟨rfl, trivial⟩, trivial, trivial⟩ ?_
    exact z_iret M (by decide +kernel) .boolean rfl hs.1 (by decide) (by decide) (hQ _ _ K)
  · rw [if_neg c20] at K hs
    refine z_go2 M.1 23 [(.iconst 1, 1), (.goto 4, 3), (.iadd, 1), (.putfield 44, 3), (.iload_n 2, 1)] (33, [(2, .inl s0), (0, z_r 19)], [.inl s0], zW T' G' (z_uS S 19 10 ((S 19 10) + 1)) n, 0, 0) (by decide +kernel) rfl ⟨trivial, trivial, trivial, ⟨rfl, trivial⟩, trivial, trivial⟩ ?_
    exact z_iret M (by decide +kernel) .boolean rfl hs.1 (by decide) (by decide) (hQ _ _ K)
def F_Query_takes (S : (Nat → Nat → Int32)) (p1 : Int32) : (Int32 × (Nat → Nat → Int32)) := (if (F_Query_sign S) = p1 then (F_Query_takes_j13 S 1) else (F_Query_takes_j13 S 0))
def Sf_Query_takes (S : (Nat → Nat → Int32)) (p1 : Int32) : Prop := (Sf_Query_sign S ∧ (if (F_Query_sign S) = p1 then (Sf_Query_takes_j13 S 1) else (Sf_Query_takes_j13 S 0)))
theorem c_Query_takes (T' : Nat → Nat × Nat) (G' : Nat → Nat → Option Nat) (S : (Nat → Nat → Int32)) (n : Nat) (p1 : Int32) (hs : Sf_Query_takes S p1) : z_Run rm_Query_takes zm_Query_takes [z_r 19, .inl p1] (zW T' G' S n) (zq (some (.inl (F_Query_takes S p1).1)) (zW T' G' (F_Query_takes S p1).2 n)) := by
  refine z_body (by decide) zf_Query_ok (Nat.le_of_ble_eq_true rfl) (fun X M => ?_)
  obtain ⟨Q, hQ, K⟩ : ∃ Q : (Int32 × (Nat → Nat → Int32)) → Prop, (∀ v S', Q (v, S') → zq (some (.inl (F_Query_takes S p1).1)) (zW T' G' (F_Query_takes S p1).2 n) (some (.inl v)) (zW T' G' S' n)) ∧ Q (F_Query_takes S p1) := ⟨fun o => F_Query_takes S p1 = o, fun v S' h => ⟨by rw [h], by rw [h]⟩, rfl⟩
  show z_G X zm_Query_takes (0, [(0, z_r 19), (1, .inl p1)], [], zW T' G' S n, 0, 0)
  unfold F_Query_takes at K
  unfold Sf_Query_takes at hs
  refine z_go2 M.1 0 [(.aload_n 0, 1)] (1, [(0, z_r 19), (1, .inl p1)], [z_r 19], zW T' G' S n, 0, 0) (by decide +kernel) rfl ⟨trivial, trivial⟩ ?_
  refine z_callV M.1 (av := []) (st := []) (a := 19) (ci := 5) (by decide +kernel) (c_Query_sign T' G' S n hs.1) M.2.1 zl_Query_58 zv_Query_sign rfl rfl rfl ⟨by decide, by decide, by decide, by decide⟩ rfl (Nat.le_of_ble_eq_true rfl) (fun v w' hv => ?_)
  obtain ⟨rfl, rfl⟩ := hv
  replace hs := hs.2
  show z_G X zm_Query_takes (4, [(0, z_r 19), (1, .inl p1)], [.inl (F_Query_sign S)], zW T' G' S n, 0, 0)
  refine z_go2 M.1 4 [(.iload_n 1, 1)] (5, [(0, z_r 19), (1, .inl p1)], [.inl p1, .inl (F_Query_sign S)], zW T' G' S n, 0, 0) (by decide +kernel) rfl ⟨trivial, trivial⟩ ?_
  refine z_icmp_ne 12 M.1 (off := 7) (by decide +kernel) (by decide) (fun c5 => ?_) (fun c5 => ?_)
  · rw [if_neg c5] at K hs
    refine z_go2 M.1 12 [(.iconst 0, 1)] (13, [(0, z_r 19), (1, .inl p1)], [.inl 0], zW T' G' S n, 0, 0) (by decide +kernel) rfl ⟨trivial, trivial⟩ ?_
    exact z_lvs (lv' := [(0, z_r 19)]) [0] rfl (t_Query_takes_j13 M S 0 hQ K hs)
  · rw [if_pos c5] at K hs
    refine z_go2 M.1 8 [(.iconst 1, 1), (.goto 4, 3)] (13, [(0, z_r 19), (1, .inl p1)], [.inl 1], zW T' G' S n, 0, 0) (by decide +kernel) rfl ⟨trivial, trivial, trivial⟩ ?_
    exact z_lvs (lv' := [(0, z_r 19)]) [0] rfl (t_Query_takes_j13 M S 1 hQ K hs)

-- TrackHouse$Query.digit
abbrev rm_Query_digit : Room := zr 1
def F_Query_digit_j37 (S : (Nat → Nat → Int32)) (x2 : Int32) (x3 : Int32) (s0 : Int32) (s1 : Int32) : (Int32 × (Nat → Nat → Int32)) := (if x3 = 0 then ((-1), (z_uS S 19 10 (s1 + s0))) else (x2, (z_uS S 19 10 (s1 + s0))))
theorem t_Query_digit_j37 {X : z_X} {Post : Option z_V → z_W → Prop} (M : z_M X zm_Query_digit rm_Query_digit Post) {T' : Nat → Nat × Nat} {G' : Nat → Nat → Option Nat} {n : Nat} {Q : (Int32 × (Nat → Nat → Int32)) → Prop} (S : (Nat → Nat → Int32)) (x2 : Int32) (x3 : Int32) (s0 : Int32) (s1 : Int32) (hQ : ∀ v S', Q (v, S') → Post (some (.inl v)) (zW T' G' S' n)) (K : Q (F_Query_digit_j37 S x2 x3 s0 s1)) : z_G X zm_Query_digit (37, [(2, .inl x2), (3, .inl x3)], [.inl s0, .inl s1, z_r 19], zW T' G' S n, 0, 0) := by
  unfold F_Query_digit_j37 at K
  refine z_go2 M.1 37 [(.iadd, 1), (.putfield 44, 3), (.iload_n 3, 1)] (42, [(2, .inl x2), (3, .inl x3)], [.inl x3], zW T' G' (z_uS S 19 10 (s1 + s0)) n, 0, 0) (by decide +kernel) rfl ⟨trivial, ⟨rfl, trivial⟩, trivial, trivial⟩ ?_
  refine z_if_eq 49 M.1 (off := 7) (by decide +kernel) (by decide) (fun c42 => ?_) (fun c42 => ?_)
  · rw [if_pos c42] at K
    refine z_go2 M.1 49 [(.iconst (-1), 1)] (50, [(2, .inl x2), (3, .inl x3)], [.inl (-1)], zW T' G' (z_uS S 19 10 (s1 + s0)) n, 0, 0) (by decide +kernel) rfl ⟨trivial, trivial⟩ ?_
    exact z_iret M (by decide +kernel) .int rfl rfl (by decide) (by decide) (hQ _ _ K)
  · rw [if_neg c42] at K
    refine z_go2 M.1 45 [(.iload_n 2, 1), (.goto 4, 3)] (50, [(2, .inl x2), (3, .inl x3)], [.inl x2], zW T' G' (z_uS S 19 10 (s1 + s0)) n, 0, 0) (by decide +kernel) rfl ⟨trivial, trivial, trivial⟩ ?_
    exact z_iret M (by decide +kernel) .int rfl rfl (by decide) (by decide) (hQ _ _ K)
def F_Query_digit_j22 (S : (Nat → Nat → Int32)) (x2 : Int32) (s0 : Int32) : (Int32 × (Nat → Nat → Int32)) := (if s0 = 0 then (F_Query_digit_j37 S x2 s0 0 (S 19 10)) else (F_Query_digit_j37 S x2 s0 1 (S 19 10)))
theorem t_Query_digit_j22 {X : z_X} {Post : Option z_V → z_W → Prop} (M : z_M X zm_Query_digit rm_Query_digit Post) {T' : Nat → Nat × Nat} {G' : Nat → Nat → Option Nat} {n : Nat} {Q : (Int32 × (Nat → Nat → Int32)) → Prop} (S : (Nat → Nat → Int32)) (x2 : Int32) (s0 : Int32) (hQ : ∀ v S', Q (v, S') → Post (some (.inl v)) (zW T' G' S' n)) (K : Q (F_Query_digit_j22 S x2 s0)) : z_G X zm_Query_digit (22, [(0, z_r 19), (2, .inl x2)], [.inl s0], zW T' G' S n, 0, 0) := by
  unfold F_Query_digit_j22 at K
  refine z_go2 M.1 22 [(.istore_n 3, 1), (.aload_n 0, 1), (.dup, 1), (.getfield 44, 3), (.iload_n 3, 1)] (29, [(3, .inl s0), (0, z_r 19), (2, .inl x2)], [.inl s0, .inl (S 19 10), z_r 19], zW T' G' S n, 0, 0) (by decide +kernel) rfl ⟨trivial, trivial, rfl, rfl, trivial, trivial⟩ ?_
  refine z_if_eq 36 M.1 (off := 7) (by decide +kernel) (by decide) (fun c29 => ?_) (fun c29 => ?_)
  · rw [if_pos c29] at K
    refine z_go2 M.1 36 [(.iconst 0, 1)] (37, [(3, .inl s0), (0, z_r 19), (2, .inl x2)], [.inl 0, .inl (S 19 10), z_r 19], zW T' G' S n, 0, 0) (by decide +kernel) rfl ⟨trivial, trivial⟩ ?_
    exact z_lvs (lv' := [(2, .inl x2), (3, .inl s0)]) [2, 0] rfl (t_Query_digit_j37 M S x2 s0 0 (S 19 10) hQ K)
  · rw [if_neg c29] at K
    refine z_go2 M.1 32 [(.iconst 1, 1), (.goto 4, 3)] (37, [(3, .inl s0), (0, z_r 19), (2, .inl x2)], [.inl 1, .inl (S 19 10), z_r 19], zW T' G' S n, 0, 0) (by decide +kernel) rfl ⟨trivial, trivial, trivial⟩ ?_
    exact z_lvs (lv' := [(2, .inl x2), (3, .inl s0)]) [2, 0] rfl (t_Query_digit_j37 M S x2 s0 1 (S 19 10) hQ K)
def F_Query_digit_j21 (S : (Nat → Nat → Int32)) (x2 : Int32) : (Int32 × (Nat → Nat → Int32)) := (F_Query_digit_j22 S x2 0)
theorem t_Query_digit_j21 {X : z_X} {Post : Option z_V → z_W → Prop} (M : z_M X zm_Query_digit rm_Query_digit Post) {T' : Nat → Nat × Nat} {G' : Nat → Nat → Option Nat} {n : Nat} {Q : (Int32 × (Nat → Nat → Int32)) → Prop} (S : (Nat → Nat → Int32)) (x2 : Int32) (hQ : ∀ v S', Q (v, S') → Post (some (.inl v)) (zW T' G' S' n)) (K : Q (F_Query_digit_j21 S x2)) : z_G X zm_Query_digit (21, [(0, z_r 19), (2, .inl x2)], [], zW T' G' S n, 0, 0) := by
  unfold F_Query_digit_j21 at K
  refine z_go2 M.1 21 [(.iconst 0, 1)] (22, [(0, z_r 19), (2, .inl x2)], [.inl 0], zW T' G' S n, 0, 0) (by decide +kernel) rfl ⟨trivial, trivial⟩ ?_
  exact z_lvs (lv' := [(0, z_r 19), (2, .inl x2)]) [0, 1] rfl (t_Query_digit_j22 M S x2 0 hQ K)
def F_Query_digit (S : (Nat → Nat → Int32)) (p1 : Int32) : (Int32 × (Nat → Nat → Int32)) := (if ((F_Query_sign S) - 48) < 0 then (F_Query_digit_j21 S ((F_Query_sign S) - 48)) else (if p1 < ((F_Query_sign S) - 48) then (F_Query_digit_j21 S ((F_Query_sign S) - 48)) else (F_Query_digit_j22 S ((F_Query_sign S) - 48) 1)))
def Sf_Query_digit (S : (Nat → Nat → Int32)) (p1 : Int32) : Prop := (Sf_Query_sign S ∧ True)
theorem c_Query_digit (T' : Nat → Nat × Nat) (G' : Nat → Nat → Option Nat) (S : (Nat → Nat → Int32)) (n : Nat) (p1 : Int32) (hs : Sf_Query_digit S p1) : z_Run rm_Query_digit zm_Query_digit [z_r 19, .inl p1] (zW T' G' S n) (zq (some (.inl (F_Query_digit S p1).1)) (zW T' G' (F_Query_digit S p1).2 n)) := by
  refine z_body (by decide) zf_Query_ok (Nat.le_of_ble_eq_true rfl) (fun X M => ?_)
  obtain ⟨Q, hQ, K⟩ : ∃ Q : (Int32 × (Nat → Nat → Int32)) → Prop, (∀ v S', Q (v, S') → zq (some (.inl (F_Query_digit S p1).1)) (zW T' G' (F_Query_digit S p1).2 n) (some (.inl v)) (zW T' G' S' n)) ∧ Q (F_Query_digit S p1) := ⟨fun o => F_Query_digit S p1 = o, fun v S' h => ⟨by rw [h], by rw [h]⟩, rfl⟩
  show z_G X zm_Query_digit (0, [(0, z_r 19), (1, .inl p1)], [], zW T' G' S n, 0, 0)
  unfold F_Query_digit at K
  unfold Sf_Query_digit at hs
  refine z_go2 M.1 0 [(.aload_n 0, 1)] (1, [(0, z_r 19), (1, .inl p1)], [z_r 19], zW T' G' S n, 0, 0) (by decide +kernel) rfl ⟨trivial, trivial⟩ ?_
  refine z_callV M.1 (av := []) (st := []) (a := 19) (ci := 5) (by decide +kernel) (c_Query_sign T' G' S n hs.1) M.2.1 zl_Query_58 zv_Query_sign rfl rfl rfl ⟨by decide, by decide, by decide, by decide⟩ rfl (Nat.le_of_ble_eq_true rfl) (fun v w' hv => ?_)
  obtain ⟨rfl, rfl⟩ := hv
  replace hs := hs.2
  show z_G X zm_Query_digit (4, [(0, z_r 19), (1, .inl p1)], [.inl (F_Query_sign S)], zW T' G' S n, 0, 0)
  refine z_go2 M.1 4 [(.bipush 48, 2), (.isub, 1), (.istore_n 2, 1), (.iload_n 2, 1)] (9, [(2, .inl ((F_Query_sign S) - 48)), (0, z_r 19), (1, .inl p1)], [.inl ((F_Query_sign S) - 48)], zW T' G' S n, 0, 0) (by decide +kernel) rfl ⟨trivial, trivial, trivial, trivial, trivial⟩ ?_
  refine z_if_lt 21 M.1 (off := 12) (by decide +kernel) (by decide) (fun c9 => ?_) (fun c9 => ?_)
  · rw [if_pos c9] at K
    exact z_lvs (lv' := [(0, z_r 19), (2, .inl ((F_Query_sign S) - 48))]) [1, 0] rfl (t_Query_digit_j21 M S ((F_Query_sign S) - 48) hQ K)
  · rw [if_neg c9] at K
    refine z_go2 M.1 12 [(.iload_n 2, 1), (.iload_n 1, 1)] (14, [(2, .inl ((F_Query_sign S) - 48)), (0, z_r 19), (1, .inl p1)], [.inl p1, .inl ((F_Query_sign S) - 48)], zW T' G' S n, 0, 0) (by decide +kernel) rfl ⟨trivial, trivial, trivial⟩ ?_
    refine z_icmp_gt 21 M.1 (off := 7) (by decide +kernel) (by decide) (fun c14 => ?_) (fun c14 => ?_)
    · rw [if_pos c14] at K
      exact z_lvs (lv' := [(0, z_r 19), (2, .inl ((F_Query_sign S) - 48))]) [1, 0] rfl (t_Query_digit_j21 M S ((F_Query_sign S) - 48) hQ K)
    · rw [if_neg c14] at K
      refine z_go2 M.1 17 [(.iconst 1, 1), (.goto 4, 3)] (22, [(2, .inl ((F_Query_sign S) - 48)), (0, z_r 19), (1, .inl p1)], [.inl 1], zW T' G' S n, 0, 0) (by decide +kernel) rfl ⟨trivial, trivial, trivial⟩ ?_
      exact z_lvs (lv' := [(0, z_r 19), (2, .inl ((F_Query_sign S) - 48))]) [1, 0] rfl (t_Query_digit_j22 M S ((F_Query_sign S) - 48) 1 hQ K)

-- TrackHouse$Query.opens
abbrev rm_Query_opens : Room := zr 1
def F_Query_opens (S : (Nat → Nat → Int32)) (p1 : Int32) (p2 : Int32) : (Int32 × (Nat → Nat → Int32)) := (z_let (zPut S 25 30 (S 19 9) p1) (fun S9 => (z_let (zPut S9 26 30 (S9 19 9) p2) (fun S21 => (1, (z_uS (z_uS S21 19 9 ((S21 19 9) + 1)) 19 11 1))))))
theorem c_Query_opens (T' : Nat → Nat × Nat) (G' : Nat → Nat → Option Nat) (S : (Nat → Nat → Int32)) (n : Nat) (p1 : Int32) (p2 : Int32) : z_Run rm_Query_opens zm_Query_opens [z_r 19, .inl p1, .inl p2] (zW T' G' S n) (zq (some (.inl (F_Query_opens S p1 p2).1)) (zW T' G' (F_Query_opens S p1 p2).2 n)) := by
  refine z_body (by decide) zf_Query_ok (Nat.le_of_ble_eq_true rfl) (fun X M => ?_)
  obtain ⟨Q, hQ, K⟩ : ∃ Q : (Int32 × (Nat → Nat → Int32)) → Prop, (∀ v S', Q (v, S') → zq (some (.inl (F_Query_opens S p1 p2).1)) (zW T' G' (F_Query_opens S p1 p2).2 n) (some (.inl v)) (zW T' G' S' n)) ∧ Q (F_Query_opens S p1 p2) := ⟨fun o => F_Query_opens S p1 p2 = o, fun v S' h => ⟨by rw [h], by rw [h]⟩, rfl⟩
  show z_G X zm_Query_opens (0, [(0, z_r 19), (1, .inl p1), (2, .inl p2)], [], zW T' G' S n, 0, 0)
  unfold F_Query_opens at K
  refine z_go2 M.1 0 [(.aload_n 0, 1), (.getfield 28, 3), (.aload_n 0, 1), (.getfield 41, 3), (.iload_n 1, 1)] (9, [(0, z_r 19), (1, .inl p1), (2, .inl p2)], [.inl p1, .inl (S 19 9), z_r 25], zW T' G' S n, 0, 0) (by decide +kernel) rfl ⟨trivial, rfl, trivial, rfl, trivial, trivial⟩ ?_
  refine z_callS M.1 (av := [z_r 25, .inl (S 19 9), .inl p1]) (st := []) (by decide +kernel) (c_put (zW T' G' S n) 25 30 rfl (by decide) (S 19 9) p1) M.2.1 zl_Query_88 zs_T_put ⟨by decide, by decide, by decide, by decide⟩ rfl (Nat.le_of_ble_eq_true rfl) (fun v w' hv => ?_)
  obtain ⟨S9, hF9⟩ : ∃ y, zPut S 25 30 (S 19 9) p1 = y := ⟨_, rfl⟩
  replace hv : v = none ∧ w' = zW T' G' (zPut S 25 30 (S 19 9) p1) n := hv
  rw [hF9] at K hv
  try dsimp only [z_let] at K
  obtain ⟨rfl, rfl⟩ := hv
  show z_G X zm_Query_opens (12, [(0, z_r 19), (1, .inl p1), (2, .inl p2)], [], zW T' G' S9 n, 0, 0)
  refine z_go2 M.1 12 [(.aload_n 0, 1), (.getfield 31, 3), (.aload_n 0, 1), (.getfield 41, 3), (.iload_n 2, 1)] (21, [(0, z_r 19), (1, .inl p1), (2, .inl p2)], [.inl p2, .inl (S9 19 9), z_r 26], zW T' G' S9 n, 0, 0) (by decide +kernel) rfl ⟨trivial, rfl, trivial, rfl, trivial, trivial⟩ ?_
  refine z_callS M.1 (av := [z_r 26, .inl (S9 19 9), .inl p2]) (st := []) (by decide +kernel) (c_put (zW T' G' S9 n) 26 30 rfl (by decide) (S9 19 9) p2) M.2.1 zl_Query_88 zs_T_put ⟨by decide, by decide, by decide, by decide⟩ rfl (Nat.le_of_ble_eq_true rfl) (fun v w' hv => ?_)
  obtain ⟨S21, hF21⟩ : ∃ y, zPut S9 26 30 (S9 19 9) p2 = y := ⟨_, rfl⟩
  replace hv : v = none ∧ w' = zW T' G' (zPut S9 26 30 (S9 19 9) p2) n := hv
  rw [hF21] at K hv
  try dsimp only [z_let] at K
  obtain ⟨rfl, rfl⟩ := hv
  show z_G X zm_Query_opens (24, [(0, z_r 19), (1, .inl p1), (2, .inl p2)], [], zW T' G' S21 n, 0, 0)
  refine z_go2 M.1 24 [(.aload_n 0, 1), (.dup, 1), (.getfield 41, 3), (.iconst 1, 1), (.iadd, 1), (.putfield 41, 3), (.aload_n 0, 1), (.iconst 1, 1), (.putfield 47, 3), (.iconst 1, 1)] (40, [(0, z_r 19), (1, .inl p1), (2, .inl p2)], [.inl 1], zW T' G' (z_uS (z_uS S21 19 9 ((S21 19 9) + 1)) 19 11 1) n, 0, 0) (by decide +kernel) rfl ⟨trivial, rfl, rfl, trivial, trivial, ⟨rfl, trivial⟩, trivial, trivial, ⟨rfl, Or.inr rfl⟩, trivial, trivial⟩ ?_
  exact z_iret M (by decide +kernel) .boolean rfl rfl (by decide) (by decide) (hQ _ _ K)

-- TrackHouse$Query.add
abbrev rm_Query_add : Room := zr 1
def F_Query_add (S : (Nat → Nat → Int32)) (p1 : Int32) (p2 : Int32) (p3 : Int32) (p4 : Int32) : (Nat → Nat → Int32) := (z_let (zPut S 21 30 (S 19 8) p1) (fun S9 => (z_let (zPut S9 22 30 (S9 19 8) p2) (fun S21 => (z_let (zPut S21 23 30 (S21 19 8) p3) (fun S33 => (z_let (zPut S33 24 30 (S33 19 8) p4) (fun S46 => (z_uS S46 19 8 ((S46 19 8) + 1))))))))))
theorem c_Query_add (T' : Nat → Nat × Nat) (G' : Nat → Nat → Option Nat) (S : (Nat → Nat → Int32)) (n : Nat) (p1 : Int32) (p2 : Int32) (p3 : Int32) (p4 : Int32) : z_Run rm_Query_add zm_Query_add [z_r 19, .inl p1, .inl p2, .inl p3, .inl p4] (zW T' G' S n) (zq none (zW T' G' (F_Query_add S p1 p2 p3 p4) n)) := by
  refine z_body (by decide) zf_Query_ok (Nat.le_of_ble_eq_true rfl) (fun X M => ?_)
  obtain ⟨Q, hQ, K⟩ : ∃ Q : (Nat → Nat → Int32) → Prop, (∀ S', Q S' → zq none (zW T' G' (F_Query_add S p1 p2 p3 p4) n) none (zW T' G' S' n)) ∧ Q (F_Query_add S p1 p2 p3 p4) := ⟨fun o => F_Query_add S p1 p2 p3 p4 = o, fun S' h => ⟨rfl, by rw [h]⟩, rfl⟩
  show z_G X zm_Query_add (0, [(0, z_r 19), (1, .inl p1), (2, .inl p2), (3, .inl p3), (4, .inl p4)], [], zW T' G' S n, 0, 0)
  unfold F_Query_add at K
  refine z_go2 M.1 0 [(.aload_n 0, 1), (.getfield 15, 3), (.aload_n 0, 1), (.getfield 38, 3), (.iload_n 1, 1)] (9, [(0, z_r 19), (1, .inl p1), (2, .inl p2), (3, .inl p3), (4, .inl p4)], [.inl p1, .inl (S 19 8), z_r 21], zW T' G' S n, 0, 0) (by decide +kernel) rfl ⟨trivial, rfl, trivial, rfl, trivial, trivial⟩ ?_
  refine z_callS M.1 (av := [z_r 21, .inl (S 19 8), .inl p1]) (st := []) (by decide +kernel) (c_put (zW T' G' S n) 21 30 rfl (by decide) (S 19 8) p1) M.2.1 zl_Query_88 zs_T_put ⟨by decide, by decide, by decide, by decide⟩ rfl (Nat.le_of_ble_eq_true rfl) (fun v w' hv => ?_)
  obtain ⟨S9, hF9⟩ : ∃ y, zPut S 21 30 (S 19 8) p1 = y := ⟨_, rfl⟩
  replace hv : v = none ∧ w' = zW T' G' (zPut S 21 30 (S 19 8) p1) n := hv
  rw [hF9] at K hv
  try dsimp only [z_let] at K
  obtain ⟨rfl, rfl⟩ := hv
  show z_G X zm_Query_add (12, [(0, z_r 19), (1, .inl p1), (2, .inl p2), (3, .inl p3), (4, .inl p4)], [], zW T' G' S9 n, 0, 0)
  refine z_go2 M.1 12 [(.aload_n 0, 1), (.getfield 19, 3), (.aload_n 0, 1), (.getfield 38, 3), (.iload_n 2, 1)] (21, [(0, z_r 19), (1, .inl p1), (2, .inl p2), (3, .inl p3), (4, .inl p4)], [.inl p2, .inl (S9 19 8), z_r 22], zW T' G' S9 n, 0, 0) (by decide +kernel) rfl ⟨trivial, rfl, trivial, rfl, trivial, trivial⟩ ?_
  refine z_callS M.1 (av := [z_r 22, .inl (S9 19 8), .inl p2]) (st := []) (by decide +kernel) (c_put (zW T' G' S9 n) 22 30 rfl (by decide) (S9 19 8) p2) M.2.1 zl_Query_88 zs_T_put ⟨by decide, by decide, by decide, by decide⟩ rfl (Nat.le_of_ble_eq_true rfl) (fun v w' hv => ?_)
  obtain ⟨S21, hF21⟩ : ∃ y, zPut S9 22 30 (S9 19 8) p2 = y := ⟨_, rfl⟩
  replace hv : v = none ∧ w' = zW T' G' (zPut S9 22 30 (S9 19 8) p2) n := hv
  rw [hF21] at K hv
  try dsimp only [z_let] at K
  obtain ⟨rfl, rfl⟩ := hv
  show z_G X zm_Query_add (24, [(0, z_r 19), (1, .inl p1), (2, .inl p2), (3, .inl p3), (4, .inl p4)], [], zW T' G' S21 n, 0, 0)
  refine z_go2 M.1 24 [(.aload_n 0, 1), (.getfield 22, 3), (.aload_n 0, 1), (.getfield 38, 3), (.iload_n 3, 1)] (33, [(0, z_r 19), (1, .inl p1), (2, .inl p2), (3, .inl p3), (4, .inl p4)], [.inl p3, .inl (S21 19 8), z_r 23], zW T' G' S21 n, 0, 0) (by decide +kernel) rfl ⟨trivial, rfl, trivial, rfl, trivial, trivial⟩ ?_
  refine z_callS M.1 (av := [z_r 23, .inl (S21 19 8), .inl p3]) (st := []) (by decide +kernel) (c_put (zW T' G' S21 n) 23 30 rfl (by decide) (S21 19 8) p3) M.2.1 zl_Query_88 zs_T_put ⟨by decide, by decide, by decide, by decide⟩ rfl (Nat.le_of_ble_eq_true rfl) (fun v w' hv => ?_)
  obtain ⟨S33, hF33⟩ : ∃ y, zPut S21 23 30 (S21 19 8) p3 = y := ⟨_, rfl⟩
  replace hv : v = none ∧ w' = zW T' G' (zPut S21 23 30 (S21 19 8) p3) n := hv
  rw [hF33] at K hv
  try dsimp only [z_let] at K
  obtain ⟨rfl, rfl⟩ := hv
  show z_G X zm_Query_add (36, [(0, z_r 19), (1, .inl p1), (2, .inl p2), (3, .inl p3), (4, .inl p4)], [], zW T' G' S33 n, 0, 0)
  refine z_go2 M.1 36 [(.aload_n 0, 1), (.getfield 25, 3), (.aload_n 0, 1), (.getfield 38, 3), (.iload 4, 2)] (46, [(0, z_r 19), (1, .inl p1), (2, .inl p2), (3, .inl p3), (4, .inl p4)], [.inl p4, .inl (S33 19 8), z_r 24], zW T' G' S33 n, 0, 0) (by decide +kernel) rfl ⟨trivial, rfl, trivial, rfl, trivial, trivial⟩ ?_
  refine z_callS M.1 (av := [z_r 24, .inl (S33 19 8), .inl p4]) (st := []) (by decide +kernel) (c_put (zW T' G' S33 n) 24 30 rfl (by decide) (S33 19 8) p4) M.2.1 zl_Query_88 zs_T_put ⟨by decide, by decide, by decide, by decide⟩ rfl (Nat.le_of_ble_eq_true rfl) (fun v w' hv => ?_)
  obtain ⟨S46, hF46⟩ : ∃ y, zPut S33 24 30 (S33 19 8) p4 = y := ⟨_, rfl⟩
  replace hv : v = none ∧ w' = zW T' G' (zPut S33 24 30 (S33 19 8) p4) n := hv
  rw [hF46] at K hv
  try dsimp only [z_let] at K
  obtain ⟨rfl, rfl⟩ := hv
  show z_G X zm_Query_add (49, [(0, z_r 19), (1, .inl p1), (2, .inl p2), (3, .inl p3), (4, .inl p4)], [], zW T' G' S46 n, 0, 0)
  refine z_go2 M.1 49 [(.aload_n 0, 1), (.dup, 1), (.getfield 38, 3), (.iconst 1, 1), (.iadd, 1), (.putfield 38, 3)] (59, [(0, z_r 19), (1, .inl p1), (2, .inl p2), (3, .inl p3), (4, .inl p4)], [], zW T' G' (z_uS S46 19 8 ((S46 19 8) + 1)) n, 0, 0) (by decide +kernel) rfl ⟨trivial, rfl, rfl, trivial, trivial, ⟨rfl, trivial⟩, trivial⟩ ?_
  exact z_vret M (by decide +kernel) rfl (by decide) (by decide) (hQ _ K)

-- TrackHouse$Query.opensTyped
abbrev rm_Query_opensTyped : Room := zr 2
def F_Query_opensTyped_j27 (S : (Nat → Nat → Int32)) : (Int32 × (Nat → Nat → Int32)) := (0, S)
theorem t_Query_opensTyped_j27 {X : z_X} {Post : Option z_V → z_W → Prop} (M : z_M X zm_Query_opensTyped rm_Query_opensTyped Post) {T' : Nat → Nat × Nat} {G' : Nat → Nat → Option Nat} {n : Nat} {Q : (Int32 × (Nat → Nat → Int32)) → Prop} (S : (Nat → Nat → Int32)) (hQ : ∀ v S', Q (v, S') → Post (some (.inl v)) (zW T' G' S' n)) (K : Q (F_Query_opensTyped_j27 S)) : z_G X zm_Query_opensTyped (27, [], [], zW T' G' S n, 0, 0) := by
  unfold F_Query_opensTyped_j27 at K
  refine z_go2 M.1 27 [(.iconst 0, 1)] (28, [], [.inl 0], zW T' G' S n, 0, 0) (by decide +kernel) rfl ⟨trivial, trivial⟩ ?_
  exact z_iret M (by decide +kernel) .boolean rfl rfl (by decide) (by decide) (hQ _ _ K)
def F_Query_opensTyped (S : (Nat → Nat → Int32)) (p1 : Int32) (p2 : Int32) : (Int32 × (Nat → Nat → Int32)) := (if p2 = (-1) then (F_Query_opensTyped_j27 S) else (match F_Query_takes S 91 with | (r8, S8) => (if r8 = 0 then (F_Query_opensTyped_j27 S8) else (match F_Query_opens S8 p1 p2 with | (r17, S17) => (if r17 = 0 then (F_Query_opensTyped_j27 S17) else (1, S17))))))
def Sf_Query_opensTyped (S : (Nat → Nat → Int32)) (p1 : Int32) (p2 : Int32) : Prop := (if p2 = (-1) then True else (Sf_Query_takes S 91 ∧ True))
theorem c_Query_opensTyped (T' : Nat → Nat × Nat) (G' : Nat → Nat → Option Nat) (S : (Nat → Nat → Int32)) (n : Nat) (p1 : Int32) (p2 : Int32) (hs : Sf_Query_opensTyped S p1 p2) : z_Run rm_Query_opensTyped zm_Query_opensTyped [z_r 19, .inl p1, .inl p2] (zW T' G' S n) (zq (some (.inl (F_Query_opensTyped S p1 p2).1)) (zW T' G' (F_Query_opensTyped S p1 p2).2 n)) := by
  refine z_body (by decide) zf_Query_ok (Nat.le_of_ble_eq_true rfl) (fun X M => ?_)
  obtain ⟨Q, hQ, K⟩ : ∃ Q : (Int32 × (Nat → Nat → Int32)) → Prop, (∀ v S', Q (v, S') → zq (some (.inl (F_Query_opensTyped S p1 p2).1)) (zW T' G' (F_Query_opensTyped S p1 p2).2 n) (some (.inl v)) (zW T' G' S' n)) ∧ Q (F_Query_opensTyped S p1 p2) := ⟨fun o => F_Query_opensTyped S p1 p2 = o, fun v S' h => ⟨by rw [h], by rw [h]⟩, rfl⟩
  show z_G X zm_Query_opensTyped (0, [(0, z_r 19), (1, .inl p1), (2, .inl p2)], [], zW T' G' S n, 0, 0)
  unfold F_Query_opensTyped at K
  unfold Sf_Query_opensTyped at hs
  refine z_go2 M.1 0 [(.iload_n 2, 1), (.iconst (-1), 1)] (2, [(0, z_r 19), (1, .inl p1), (2, .inl p2)], [.inl (-1), .inl p2], zW T' G' S n, 0, 0) (by decide +kernel) rfl ⟨trivial, trivial, trivial⟩ ?_
  refine z_icmp_eq 27 M.1 (off := 25) (by decide +kernel) (by decide) (fun c2 => ?_) (fun c2 => ?_)
  · rw [if_pos c2] at K hs
    exact z_lvs (lv' := []) [] rfl (t_Query_opensTyped_j27 M S hQ K)
  · rw [if_neg c2] at K hs
    refine z_go2 M.1 5 [(.aload_n 0, 1), (.bipush 91, 2)] (8, [(0, z_r 19), (1, .inl p1), (2, .inl p2)], [.inl 91, z_r 19], zW T' G' S n, 0, 0) (by decide +kernel) rfl ⟨trivial, trivial, trivial⟩ ?_
    refine z_callV M.1 (av := [.inl 91]) (st := []) (a := 19) (ci := 5) (by decide +kernel) (c_Query_takes T' G' S n 91 hs.1) M.2.1 zl_Query_62 zv_Query_takes rfl rfl rfl ⟨by decide, by decide, by decide, by decide⟩ rfl (Nat.le_of_ble_eq_true rfl) (fun v w' hv => ?_)
    replace hs := hs.2
    rcases hF8 : F_Query_takes S 91 with ⟨r8, S8⟩
    rw [hF8] at K hv
    try dsimp only at K
    obtain ⟨rfl, rfl⟩ := hv
    show z_G X zm_Query_opensTyped (11, [(0, z_r 19), (1, .inl p1), (2, .inl p2)], [.inl r8], zW T' G' S8 n, 0, 0)
    refine z_if_eq 27 M.1 (off := 16) (by decide +kernel) (by decide) (fun c11 => ?_) (fun c11 => ?_)
    · rw [if_pos c11] at K
      exact z_lvs (lv' := []) [] rfl (t_Query_opensTyped_j27 M S8 hQ K)
    · rw [if_neg c11] at K
      refine z_go2 M.1 14 [(.aload_n 0, 1), (.iload_n 1, 1), (.iload_n 2, 1)] (17, [(0, z_r 19), (1, .inl p1), (2, .inl p2)], [.inl p2, .inl p1, z_r 19], zW T' G' S8 n, 0, 0) (by decide +kernel) rfl ⟨trivial, trivial, trivial, trivial⟩ ?_
      refine z_callV M.1 (av := [.inl p1, .inl p2]) (st := []) (a := 19) (ci := 5) (by decide +kernel) (c_Query_opens T' G' S8 n p1 p2) M.2.1 zl_Query_66 zv_Query_opens rfl rfl rfl ⟨by decide, by decide, by decide, by decide⟩ rfl (Nat.le_of_ble_eq_true rfl) (fun v w' hv => ?_)
      rcases hF17 : F_Query_opens S8 p1 p2 with ⟨r17, S17⟩
      rw [hF17] at K hv
      try dsimp only at K
      obtain ⟨rfl, rfl⟩ := hv
      show z_G X zm_Query_opensTyped (20, [(0, z_r 19), (1, .inl p1), (2, .inl p2)], [.inl r17], zW T' G' S17 n, 0, 0)
      refine z_if_eq 27 M.1 (off := 7) (by decide +kernel) (by decide) (fun c20 => ?_) (fun c20 => ?_)
      · rw [if_pos c20] at K
        exact z_lvs (lv' := []) [] rfl (t_Query_opensTyped_j27 M S17 hQ K)
      · rw [if_neg c20] at K
        refine z_go2 M.1 23 [(.iconst 1, 1), (.goto 4, 3)] (28, [(0, z_r 19), (1, .inl p1), (2, .inl p2)], [.inl 1], zW T' G' S17 n, 0, 0) (by decide +kernel) rfl ⟨trivial, trivial, trivial⟩ ?_
        exact z_iret M (by decide +kernel) .boolean rfl rfl (by decide) (by decide) (hQ _ _ K)

-- TrackHouse$Query.ends
abbrev rm_Query_ends : Room := zr 2
def F_Query_ends_L29 : Nat → (Nat → Nat → Int32) → Int32 → ((Nat → Nat → Int32))
  | 0, S, x5 => S
  | f + 1, S, x5 => (if (30 : Int32) ≤ x5 then S else (if (S 19 9) ≤ 0 then S else (if (zAt (S 25) 30 ((S 19 9) - 1)) = 33 then (z_let (F_Query_add S 33 0 0 0) (fun S67 => ((F_Query_ends_L29 f) (z_uS S67 19 9 ((S67 19 9) - 1)) (x5 + 1)))) else S)))
def Sf_Query_ends_L29 : Nat → (Nat → Nat → Int32) → Int32 → Prop
  | 0, _, _ => False
  | f + 1, S, x5 => (if (30 : Int32) ≤ x5 then True else (if (S 19 9) ≤ 0 then True else (if (zAt (S 25) 30 ((S 19 9) - 1)) = 33 then (z_let (F_Query_add S 33 0 0 0) (fun S67 => ((Sf_Query_ends_L29 f) (z_uS S67 19 9 ((S67 19 9) - 1)) (x5 + 1)))) else True)))
theorem t_Query_ends_L29 {X : z_X} {Post : Option z_V → z_W → Prop} (M : z_M X zm_Query_ends rm_Query_ends Post) {T' : Nat → Nat × Nat} {G' : Nat → Nat → Option Nat} {n : Nat} {Q : ((Nat → Nat → Int32)) → Prop}  (hE : ∀ (S' : (Nat → Nat → Int32)), Q S' → z_G X zm_Query_ends (86, [], [], zW T' G' S' n, 0, 0)) (f : Nat) : ∀ (S : (Nat → Nat → Int32)) (x5 : Int32), Q (F_Query_ends_L29 f S x5) → Sf_Query_ends_L29 f S x5 → z_G X zm_Query_ends (29, [(0, z_r 19), (5, .inl x5)], [], zW T' G' S n, 0, 0) := by
  induction f with
  | zero => intro S x5 K hs; exact False.elim hs
  | succ f hC =>
    intro S x5 K hs
    rw [F_Query_ends_L29] at K
    rw [Sf_Query_ends_L29] at hs
    refine z_go2 M.1 29 [(.iload 5, 2), (.bipush 30, 2)] (33, [(0, z_r 19), (5, .inl x5)], [.inl 30, .inl x5], zW T' G' S n, 0, 0) (by decide +kernel) rfl ⟨trivial, trivial, trivial⟩ ?_
    refine z_icmp_ge 86 M.1 (off := 53) (by decide +kernel) (by decide) (fun c33 => ?_) (fun c33 => ?_)
    · rw [if_pos c33] at K hs
      exact z_lvs (lv' := []) [] rfl (hE S K)
    · rw [if_neg c33] at K hs
      refine z_go2 M.1 36 [(.aload_n 0, 1), (.getfield 41, 3)] (40, [(0, z_r 19), (5, .inl x5)], [.inl (S 19 9)], zW T' G' S n, 0, 0) (by decide +kernel) rfl ⟨trivial, rfl, trivial⟩ ?_
      refine z_if_le 86 M.1 (off := 46) (by decide +kernel) (by decide) (fun c40 => ?_) (fun c40 => ?_)
      · rw [if_pos c40] at K hs
        exact z_lvs (lv' := []) [] rfl (hE S K)
      · rw [if_neg c40] at K hs
        refine z_go2 M.1 43 [(.aload_n 0, 1), (.getfield 28, 3), (.aload_n 0, 1), (.getfield 41, 3), (.iconst 1, 1), (.isub, 1)] (53, [(0, z_r 19), (5, .inl x5)], [.inl ((S 19 9) - 1), z_r 25], zW T' G' S n, 0, 0) (by decide +kernel) rfl ⟨trivial, rfl, trivial, rfl, trivial, trivial, trivial⟩ ?_
        refine z_callS M.1 (av := [z_r 25, .inl ((S 19 9) - 1)]) (st := []) (by decide +kernel) (c_at (zW T' G' S n) 25 30 rfl (by decide) ((S 19 9) - 1)) M.2.1 zl_Query_96 zs_T_at ⟨by decide, by decide, by decide, by decide⟩ rfl (Nat.le_of_ble_eq_true rfl) (fun v w' hv => ?_)
        obtain ⟨rfl, rfl⟩ := hv
        show z_G X zm_Query_ends (56, [(0, z_r 19), (5, .inl x5)], [.inl (zAt (S 25) 30 ((S 19 9) - 1))], zW T' G' S n, 0, 0)
        refine z_go2 M.1 56 [(.bipush 33, 2)] (58, [(0, z_r 19), (5, .inl x5)], [.inl 33, .inl (zAt (S 25) 30 ((S 19 9) - 1))], zW T' G' S n, 0, 0) (by decide +kernel) rfl ⟨trivial, trivial⟩ ?_
        refine z_icmp_ne 86 M.1 (off := 28) (by decide +kernel) (by decide) (fun c58 => ?_) (fun c58 => ?_)
        · rw [if_neg c58] at K hs
          exact z_lvs (lv' := []) [] rfl (hE S K)
        · rw [if_pos c58] at K hs
          refine z_go2 M.1 61 [(.aload_n 0, 1), (.bipush 33, 2), (.iconst 0, 1), (.iconst 0, 1), (.iconst 0, 1)] (67, [(0, z_r 19), (5, .inl x5)], [.inl 0, .inl 0, .inl 0, .inl 33, z_r 19], zW T' G' S n, 0, 0) (by decide +kernel) rfl ⟨trivial, trivial, trivial, trivial, trivial, trivial⟩ ?_
          refine z_callV M.1 (av := [.inl 33, .inl 0, .inl 0, .inl 0]) (st := []) (a := 19) (ci := 5) (by decide +kernel) (c_Query_add T' G' S n 33 0 0 0) M.2.1 zl_Query_92 zv_Query_add rfl rfl rfl ⟨by decide, by decide, by decide, by decide⟩ rfl (Nat.le_of_ble_eq_true rfl) (fun v w' hv => ?_)
          obtain ⟨S67, hF67⟩ : ∃ y, F_Query_add S 33 0 0 0 = y := ⟨_, rfl⟩
          rw [hF67] at K hv hs
          try dsimp only [z_let] at K hs
          obtain ⟨rfl, rfl⟩ := hv
          show z_G X zm_Query_ends (70, [(0, z_r 19), (5, .inl x5)], [], zW T' G' S67 n, 0, 0)
          refine z_go2 M.1 70 [(.aload_n 0, 1), (.dup, 1), (.getfield 41, 3), (.iconst 1, 1), (.isub, 1), (.putfield 41, 3), (.iinc 5 1, 3), (.goto (-54), 3)] (29, [(5, .inl (x5 + 1)), (0, z_r 19)], [], zW T' G' (z_uS S67 19 9 ((S67 19 9) - 1)) n, 0, 0) (by decide +kernel) rfl ⟨trivial, rfl, rfl, trivial, trivial, ⟨rfl, trivial⟩, trivial, trivial, trivial⟩ ?_
          exact z_lvs (lv' := [(0, z_r 19), (5, .inl (x5 + 1))]) [1, 0] rfl (hC (z_uS S67 19 9 ((S67 19 9) - 1)) (x5 + 1) K hs)
def F_Query_ends (S : (Nat → Nat → Int32)) (p1 : Int32) (p2 : Int32) (p3 : Int32) (p4 : Int32) : (Int32 × (Nat → Nat → Int32)) := (if p2 = (-1) then (0, S) else (if p3 = (-1) then (0, S) else (z_let (F_Query_add S p1 p2 p3 p4) (fun S18 => (match F_Query_ends_L29 1300 (z_uS S18 19 11 0) 0 with | S29 => (1, S29))))))
def Sf_Query_ends (S : (Nat → Nat → Int32)) (p1 : Int32) (p2 : Int32) (p3 : Int32) (p4 : Int32) : Prop := (if p2 = (-1) then True else (if p3 = (-1) then True else (z_let (F_Query_add S p1 p2 p3 p4) (fun S18 => (Sf_Query_ends_L29 1300 (z_uS S18 19 11 0) 0 ∧ True)))))
theorem c_Query_ends (T' : Nat → Nat × Nat) (G' : Nat → Nat → Option Nat) (S : (Nat → Nat → Int32)) (n : Nat) (p1 : Int32) (p2 : Int32) (p3 : Int32) (p4 : Int32) (hs : Sf_Query_ends S p1 p2 p3 p4) : z_Run rm_Query_ends zm_Query_ends [z_r 19, .inl p1, .inl p2, .inl p3, .inl p4] (zW T' G' S n) (zq (some (.inl (F_Query_ends S p1 p2 p3 p4).1)) (zW T' G' (F_Query_ends S p1 p2 p3 p4).2 n)) := by
  refine z_body (by decide) zf_Query_ok (Nat.le_of_ble_eq_true rfl) (fun X M => ?_)
  obtain ⟨Q, hQ, K⟩ : ∃ Q : (Int32 × (Nat → Nat → Int32)) → Prop, (∀ v S', Q (v, S') → zq (some (.inl (F_Query_ends S p1 p2 p3 p4).1)) (zW T' G' (F_Query_ends S p1 p2 p3 p4).2 n) (some (.inl v)) (zW T' G' S' n)) ∧ Q (F_Query_ends S p1 p2 p3 p4) := ⟨fun o => F_Query_ends S p1 p2 p3 p4 = o, fun v S' h => ⟨by rw [h], by rw [h]⟩, rfl⟩
  show z_G X zm_Query_ends (0, [(0, z_r 19), (1, .inl p1), (2, .inl p2), (3, .inl p3), (4, .inl p4)], [], zW T' G' S n, 0, 0)
  unfold F_Query_ends at K
  unfold Sf_Query_ends at hs
  refine z_go2 M.1 0 [(.iload_n 2, 1), (.iconst (-1), 1)] (2, [(0, z_r 19), (1, .inl p1), (2, .inl p2), (3, .inl p3), (4, .inl p4)], [.inl (-1), .inl p2], zW T' G' S n, 0, 0) (by decide +kernel) rfl ⟨trivial, trivial, trivial⟩ ?_
  refine z_icmp_eq 10 M.1 (off := 8) (by decide +kernel) (by decide) (fun c2 => ?_) (fun c2 => ?_)
  · rw [if_pos c2] at K hs
    refine z_go2 M.1 10 [(.iconst 0, 1)] (11, [(0, z_r 19), (1, .inl p1), (2, .inl p2), (3, .inl p3), (4, .inl p4)], [.inl 0], zW T' G' S n, 0, 0) (by decide +kernel) rfl ⟨trivial, trivial⟩ ?_
    exact z_iret M (by decide +kernel) .boolean rfl rfl (by decide) (by decide) (hQ _ _ K)
  · rw [if_neg c2] at K hs
    refine z_go2 M.1 5 [(.iload_n 3, 1), (.iconst (-1), 1)] (7, [(0, z_r 19), (1, .inl p1), (2, .inl p2), (3, .inl p3), (4, .inl p4)], [.inl (-1), .inl p3], zW T' G' S n, 0, 0) (by decide +kernel) rfl ⟨trivial, trivial, trivial⟩ ?_
    refine z_icmp_ne 12 M.1 (off := 5) (by decide +kernel) (by decide) (fun c7 => ?_) (fun c7 => ?_)
    · rw [if_neg c7] at K hs
      refine z_go2 M.1 12 [(.aload_n 0, 1), (.iload_n 1, 1), (.iload_n 2, 1), (.iload_n 3, 1), (.iload 4, 2)] (18, [(0, z_r 19), (1, .inl p1), (2, .inl p2), (3, .inl p3), (4, .inl p4)], [.inl p4, .inl p3, .inl p2, .inl p1, z_r 19], zW T' G' S n, 0, 0) (by decide +kernel) rfl ⟨trivial, trivial, trivial, trivial, trivial, trivial⟩ ?_
      refine z_callV M.1 (av := [.inl p1, .inl p2, .inl p3, .inl p4]) (st := []) (a := 19) (ci := 5) (by decide +kernel) (c_Query_add T' G' S n p1 p2 p3 p4) M.2.1 zl_Query_92 zv_Query_add rfl rfl rfl ⟨by decide, by decide, by decide, by decide⟩ rfl (Nat.le_of_ble_eq_true rfl) (fun v w' hv => ?_)
      obtain ⟨S18, hF18⟩ : ∃ y, F_Query_add S p1 p2 p3 p4 = y := ⟨_, rfl⟩
      rw [hF18] at K hv hs
      try dsimp only [z_let] at K hs
      obtain ⟨rfl, rfl⟩ := hv
      show z_G X zm_Query_ends (21, [(0, z_r 19), (1, .inl p1), (2, .inl p2), (3, .inl p3), (4, .inl p4)], [], zW T' G' S18 n, 0, 0)
      refine z_go2 M.1 21 [(.aload_n 0, 1), (.iconst 0, 1), (.putfield 47, 3), (.iconst 0, 1), (.istore 5, 2)] (29, [(5, .inl 0), (0, z_r 19), (1, .inl p1), (2, .inl p2), (3, .inl p3), (4, .inl p4)], [], zW T' G' (z_uS S18 19 11 0) n, 0, 0) (by decide +kernel) rfl ⟨trivial, trivial, ⟨rfl, Or.inl rfl⟩, trivial, trivial, trivial⟩ ?_
      refine z_lvs (lv' := [(0, z_r 19), (5, .inl 0)]) [1, 0] rfl ?_
      refine t_Query_ends_L29 M (Q := fun o => F_Query_ends_L29 1300 (z_uS S18 19 11 0) 0 = o) (fun S29 hL29 => ?_) 1300 (z_uS S18 19 11 0) 0 rfl hs.1
      replace hs := hs.2
      rw [hL29] at K
      try dsimp only at K
      refine z_go2 M.1 86 [(.iconst 1, 1)] (87, [], [.inl 1], zW T' G' S29 n, 0, 0) (by decide +kernel) rfl ⟨trivial, trivial⟩ ?_
      exact z_iret M (by decide +kernel) .boolean rfl rfl (by decide) (by decide) (hQ _ _ K)
    · rw [if_pos c7] at K hs
      refine z_go2 M.1 10 [(.iconst 0, 1)] (11, [(0, z_r 19), (1, .inl p1), (2, .inl p2), (3, .inl p3), (4, .inl p4)], [.inl 0], zW T' G' S n, 0, 0) (by decide +kernel) rfl ⟨trivial, trivial⟩ ?_
      exact z_iret M (by decide +kernel) .boolean rfl rfl (by decide) (by decide) (hQ _ _ K)

-- TrackHouse$Query.endsWithTwo
abbrev rm_Query_endsWithTwo : Room := zr 3
def F_Query_endsWithTwo_j25 (S : (Nat → Nat → Int32)) : (Int32 × (Nat → Nat → Int32)) := (0, S)
theorem t_Query_endsWithTwo_j25 {X : z_X} {Post : Option z_V → z_W → Prop} (M : z_M X zm_Query_endsWithTwo rm_Query_endsWithTwo Post) {T' : Nat → Nat × Nat} {G' : Nat → Nat → Option Nat} {n : Nat} {Q : (Int32 × (Nat → Nat → Int32)) → Prop} (S : (Nat → Nat → Int32)) (hQ : ∀ v S', Q (v, S') → Post (some (.inl v)) (zW T' G' S' n)) (K : Q (F_Query_endsWithTwo_j25 S)) : z_G X zm_Query_endsWithTwo (25, [], [], zW T' G' S n, 0, 0) := by
  unfold F_Query_endsWithTwo_j25 at K
  refine z_go2 M.1 25 [(.iconst 0, 1)] (26, [], [.inl 0], zW T' G' S n, 0, 0) (by decide +kernel) rfl ⟨trivial, trivial⟩ ?_
  exact z_iret M (by decide +kernel) .boolean rfl rfl (by decide) (by decide) (hQ _ _ K)
def F_Query_endsWithTwo (S : (Nat → Nat → Int32)) (p1 : Int32) (p2 : Int32) : (Int32 × (Nat → Nat → Int32)) := (if p2 = (-1) then (F_Query_endsWithTwo_j25 S) else (match F_Query_digit S 9 with | (r11, S11) => (match F_Query_ends S11 p1 p2 r11 0 with | (r15, S15) => (if r15 = 0 then (F_Query_endsWithTwo_j25 S15) else (1, S15)))))
def Sf_Query_endsWithTwo (S : (Nat → Nat → Int32)) (p1 : Int32) (p2 : Int32) : Prop := (if p2 = (-1) then True else (Sf_Query_digit S 9 ∧ (match F_Query_digit S 9 with | (r11, S11) => (Sf_Query_ends S11 p1 p2 r11 0 ∧ True))))
theorem c_Query_endsWithTwo (T' : Nat → Nat × Nat) (G' : Nat → Nat → Option Nat) (S : (Nat → Nat → Int32)) (n : Nat) (p1 : Int32) (p2 : Int32) (hs : Sf_Query_endsWithTwo S p1 p2) : z_Run rm_Query_endsWithTwo zm_Query_endsWithTwo [z_r 19, .inl p1, .inl p2] (zW T' G' S n) (zq (some (.inl (F_Query_endsWithTwo S p1 p2).1)) (zW T' G' (F_Query_endsWithTwo S p1 p2).2 n)) := by
  refine z_body (by decide) zf_Query_ok (Nat.le_of_ble_eq_true rfl) (fun X M => ?_)
  obtain ⟨Q, hQ, K⟩ : ∃ Q : (Int32 × (Nat → Nat → Int32)) → Prop, (∀ v S', Q (v, S') → zq (some (.inl (F_Query_endsWithTwo S p1 p2).1)) (zW T' G' (F_Query_endsWithTwo S p1 p2).2 n) (some (.inl v)) (zW T' G' S' n)) ∧ Q (F_Query_endsWithTwo S p1 p2) := ⟨fun o => F_Query_endsWithTwo S p1 p2 = o, fun v S' h => ⟨by rw [h], by rw [h]⟩, rfl⟩
  show z_G X zm_Query_endsWithTwo (0, [(0, z_r 19), (1, .inl p1), (2, .inl p2)], [], zW T' G' S n, 0, 0)
  unfold F_Query_endsWithTwo at K
  unfold Sf_Query_endsWithTwo at hs
  refine z_go2 M.1 0 [(.iload_n 2, 1), (.iconst (-1), 1)] (2, [(0, z_r 19), (1, .inl p1), (2, .inl p2)], [.inl (-1), .inl p2], zW T' G' S n, 0, 0) (by decide +kernel) rfl ⟨trivial, trivial, trivial⟩ ?_
  refine z_icmp_eq 25 M.1 (off := 23) (by decide +kernel) (by decide) (fun c2 => ?_) (fun c2 => ?_)
  · rw [if_pos c2] at K hs
    exact z_lvs (lv' := []) [] rfl (t_Query_endsWithTwo_j25 M S hQ K)
  · rw [if_neg c2] at K hs
    refine z_go2 M.1 5 [(.aload_n 0, 1), (.iload_n 1, 1), (.iload_n 2, 1), (.aload_n 0, 1), (.bipush 9, 2)] (11, [(0, z_r 19), (1, .inl p1), (2, .inl p2)], [.inl 9, z_r 19, .inl p2, .inl p1, z_r 19], zW T' G' S n, 0, 0) (by decide +kernel) rfl ⟨trivial, trivial, trivial, trivial, trivial, trivial⟩ ?_
    refine z_callV M.1 (av := [.inl 9]) (st := [.inl p2, .inl p1, z_r 19]) (a := 19) (ci := 5) (by decide +kernel) (c_Query_digit T' G' S n 9 hs.1) M.2.1 zl_Query_70 zv_Query_digit rfl rfl rfl ⟨by decide, by decide, by decide, by decide⟩ rfl (Nat.le_of_ble_eq_true rfl) (fun v w' hv => ?_)
    replace hs := hs.2
    rcases hF11 : F_Query_digit S 9 with ⟨r11, S11⟩
    rw [hF11] at K hv hs
    try dsimp only at K hs
    obtain ⟨rfl, rfl⟩ := hv
    show z_G X zm_Query_endsWithTwo (14, [(0, z_r 19), (1, .inl p1), (2, .inl p2)], [.inl r11, .inl p2, .inl p1, z_r 19], zW T' G' S11 n, 0, 0)
    refine z_go2 M.1 14 [(.iconst 0, 1)] (15, [(0, z_r 19), (1, .inl p1), (2, .inl p2)], [.inl 0, .inl r11, .inl p2, .inl p1, z_r 19], zW T' G' S11 n, 0, 0) (by decide +kernel) rfl ⟨trivial, trivial⟩ ?_
    refine z_callV M.1 (av := [.inl p1, .inl p2, .inl r11, .inl 0]) (st := []) (a := 19) (ci := 5) (by decide +kernel) (c_Query_ends T' G' S11 n p1 p2 r11 0 hs.1) M.2.1 zl_Query_77 zv_Query_ends rfl rfl rfl ⟨by decide, by decide, by decide, by decide⟩ rfl (Nat.le_of_ble_eq_true rfl) (fun v w' hv => ?_)
    replace hs := hs.2
    rcases hF15 : F_Query_ends S11 p1 p2 r11 0 with ⟨r15, S15⟩
    rw [hF15] at K hv
    try dsimp only at K
    obtain ⟨rfl, rfl⟩ := hv
    show z_G X zm_Query_endsWithTwo (18, [(0, z_r 19), (1, .inl p1), (2, .inl p2)], [.inl r15], zW T' G' S15 n, 0, 0)
    refine z_if_eq 25 M.1 (off := 7) (by decide +kernel) (by decide) (fun c18 => ?_) (fun c18 => ?_)
    · rw [if_pos c18] at K
      exact z_lvs (lv' := []) [] rfl (t_Query_endsWithTwo_j25 M S15 hQ K)
    · rw [if_neg c18] at K
      refine z_go2 M.1 21 [(.iconst 1, 1), (.goto 4, 3)] (26, [(0, z_r 19), (1, .inl p1), (2, .inl p2)], [.inl 1], zW T' G' S15 n, 0, 0) (by decide +kernel) rfl ⟨trivial, trivial, trivial⟩ ?_
      exact z_iret M (by decide +kernel) .boolean rfl rfl (by decide) (by decide) (hQ _ _ K)

-- TrackHouse$Query.compares
abbrev rm_Query_compares : Room := zr 3
def F_Query_compares_j117 (S : (Nat → Nat → Int32)) : (Int32 × (Nat → Nat → Int32)) := (0, S)
theorem t_Query_compares_j117 {X : z_X} {Post : Option z_V → z_W → Prop} (M : z_M X zm_Query_compares rm_Query_compares Post) {T' : Nat → Nat × Nat} {G' : Nat → Nat → Option Nat} {n : Nat} {Q : (Int32 × (Nat → Nat → Int32)) → Prop} (S : (Nat → Nat → Int32)) (hQ : ∀ v S', Q (v, S') → Post (some (.inl v)) (zW T' G' S' n)) (K : Q (F_Query_compares_j117 S)) : z_G X zm_Query_compares (117, [], [], zW T' G' S n, 0, 0) := by
  unfold F_Query_compares_j117 at K
  refine z_go2 M.1 117 [(.iconst 0, 1)] (118, [], [.inl 0], zW T' G' S n, 0, 0) (by decide +kernel) rfl ⟨trivial, trivial⟩ ?_
  exact z_iret M (by decide +kernel) .boolean rfl rfl (by decide) (by decide) (hQ _ _ K)
def F_Query_compares_j82 (S : (Nat → Nat → Int32)) (x1 : Int32) (x2 : Int32) (x3 : Int32) (s0 : Int32) : (Int32 × (Nat → Nat → Int32)) := (if x3 = (-1) then (F_Query_compares_j117 S) else (if s0 = (-1) then (F_Query_compares_j117 S) else (match F_Query_ends S 102 x1 x2 (((10 : Int32) * x3) + s0) with | (r107, S107) => (if r107 = 0 then (F_Query_compares_j117 S107) else (1, S107)))))
def Sf_Query_compares_j82 (S : (Nat → Nat → Int32)) (x1 : Int32) (x2 : Int32) (x3 : Int32) (s0 : Int32) : Prop := (if x3 = (-1) then True else (if s0 = (-1) then True else (Sf_Query_ends S 102 x1 x2 (((10 : Int32) * x3) + s0) ∧ True)))
theorem t_Query_compares_j82 {X : z_X} {Post : Option z_V → z_W → Prop} (M : z_M X zm_Query_compares rm_Query_compares Post) {T' : Nat → Nat × Nat} {G' : Nat → Nat → Option Nat} {n : Nat} {Q : (Int32 × (Nat → Nat → Int32)) → Prop} (S : (Nat → Nat → Int32)) (x1 : Int32) (x2 : Int32) (x3 : Int32) (s0 : Int32) (hQ : ∀ v S', Q (v, S') → Post (some (.inl v)) (zW T' G' S' n)) (K : Q (F_Query_compares_j82 S x1 x2 x3 s0)) (hs : Sf_Query_compares_j82 S x1 x2 x3 s0) : z_G X zm_Query_compares (82, [(0, z_r 19), (1, .inl x1), (2, .inl x2), (3, .inl x3)], [.inl s0], zW T' G' S n, 0, 0) := by
  unfold F_Query_compares_j82 at K
  unfold Sf_Query_compares_j82 at hs
  refine z_go2 M.1 82 [(.istore 4, 2), (.iload_n 3, 1), (.iconst (-1), 1)] (86, [(4, .inl s0), (0, z_r 19), (1, .inl x1), (2, .inl x2), (3, .inl x3)], [.inl (-1), .inl x3], zW T' G' S n, 0, 0) (by decide +kernel) rfl ⟨trivial, trivial, trivial, trivial⟩ ?_
  refine z_icmp_eq 117 M.1 (off := 31) (by decide +kernel) (by decide) (fun c86 => ?_) (fun c86 => ?_)
  · rw [if_pos c86] at K hs
    exact z_lvs (lv' := []) [] rfl (t_Query_compares_j117 M S hQ K)
  · rw [if_neg c86] at K hs
    refine z_go2 M.1 89 [(.iload 4, 2), (.iconst (-1), 1)] (92, [(4, .inl s0), (0, z_r 19), (1, .inl x1), (2, .inl x2), (3, .inl x3)], [.inl (-1), .inl s0], zW T' G' S n, 0, 0) (by decide +kernel) rfl ⟨trivial, trivial, trivial⟩ ?_
    refine z_icmp_eq 117 M.1 (off := 25) (by decide +kernel) (by decide) (fun c92 => ?_) (fun c92 => ?_)
    · rw [if_pos c92] at K hs
      exact z_lvs (lv' := []) [] rfl (t_Query_compares_j117 M S hQ K)
    · rw [if_neg c92] at K hs
      refine z_go2 M.1 95 [(.aload_n 0, 1), (.bipush 102, 2), (.iload_n 1, 1), (.iload_n 2, 1), (.bipush 10, 2), (.iload_n 3, 1), (.imul, 1), (.iload 4, 2), (.iadd, 1)] (107, [(4, .inl s0), (0, z_r 19), (1, .inl x1), (2, .inl x2), (3, .inl x3)], [.inl (((10 : Int32) * x3) + s0), .inl x2, .inl x1, .inl 102, z_r 19], zW T' G' S n, 0, 0) (by decide +kernel) rfl ⟨trivial, trivial, trivial, trivial, trivial, trivial, trivial, trivial, trivial, trivial⟩ ?_
      refine z_callV M.1 (av := [.inl 102, .inl x1, .inl x2, .inl (((10 : Int32) * x3) + s0)]) (st := []) (a := 19) (ci := 5) (by decide +kernel) (c_Query_ends T' G' S n 102 x1 x2 (((10 : Int32) * x3) + s0) hs.1) M.2.1 zl_Query_77 zv_Query_ends rfl rfl rfl ⟨by decide, by decide, by decide, by decide⟩ rfl (Nat.le_of_ble_eq_true rfl) (fun v w' hv => ?_)
      replace hs := hs.2
      rcases hF107 : F_Query_ends S 102 x1 x2 (((10 : Int32) * x3) + s0) with ⟨r107, S107⟩
      rw [hF107] at K hv
      try dsimp only at K
      obtain ⟨rfl, rfl⟩ := hv
      show z_G X zm_Query_compares (110, [(4, .inl s0), (0, z_r 19), (1, .inl x1), (2, .inl x2), (3, .inl x3)], [.inl r107], zW T' G' S107 n, 0, 0)
      refine z_if_eq 117 M.1 (off := 7) (by decide +kernel) (by decide) (fun c110 => ?_) (fun c110 => ?_)
      · rw [if_pos c110] at K
        exact z_lvs (lv' := []) [] rfl (t_Query_compares_j117 M S107 hQ K)
      · rw [if_neg c110] at K
        refine z_go2 M.1 113 [(.iconst 1, 1), (.goto 4, 3)] (118, [(4, .inl s0), (0, z_r 19), (1, .inl x1), (2, .inl x2), (3, .inl x3)], [.inl 1], zW T' G' S107 n, 0, 0) (by decide +kernel) rfl ⟨trivial, trivial, trivial⟩ ?_
        exact z_iret M (by decide +kernel) .boolean rfl rfl (by decide) (by decide) (hQ _ _ K)
def F_Query_compares_j72 (S : (Nat → Nat → Int32)) (x1 : Int32) (x2 : Int32) (x3 : Int32) : (Int32 × (Nat → Nat → Int32)) := (F_Query_compares_j82 S x1 x2 x3 0)
def Sf_Query_compares_j72 (S : (Nat → Nat → Int32)) (x1 : Int32) (x2 : Int32) (x3 : Int32) : Prop := (Sf_Query_compares_j82 S x1 x2 x3 0)
theorem t_Query_compares_j72 {X : z_X} {Post : Option z_V → z_W → Prop} (M : z_M X zm_Query_compares rm_Query_compares Post) {T' : Nat → Nat × Nat} {G' : Nat → Nat → Option Nat} {n : Nat} {Q : (Int32 × (Nat → Nat → Int32)) → Prop} (S : (Nat → Nat → Int32)) (x1 : Int32) (x2 : Int32) (x3 : Int32) (hQ : ∀ v S', Q (v, S') → Post (some (.inl v)) (zW T' G' S' n)) (K : Q (F_Query_compares_j72 S x1 x2 x3)) (hs : Sf_Query_compares_j72 S x1 x2 x3) : z_G X zm_Query_compares (72, [(0, z_r 19), (1, .inl x1), (2, .inl x2), (3, .inl x3)], [], zW T' G' S n, 0, 0) := by
  unfold F_Query_compares_j72 at K
  unfold Sf_Query_compares_j72 at hs
  refine z_go2 M.1 72 [(.iconst 0, 1), (.goto 9, 3)] (82, [(0, z_r 19), (1, .inl x1), (2, .inl x2), (3, .inl x3)], [.inl 0], zW T' G' S n, 0, 0) (by decide +kernel) rfl ⟨trivial, trivial, trivial⟩ ?_
  exact z_lvs (lv' := [(0, z_r 19), (1, .inl x1), (2, .inl x2), (3, .inl x3)]) [0, 1, 2, 3] rfl (t_Query_compares_j82 M S x1 x2 x3 0 hQ K hs)
def F_Query_compares_j60 (S : (Nat → Nat → Int32)) (x1 : Int32) (x2 : Int32) (s0 : Int32) : (Int32 × (Nat → Nat → Int32)) := (if x2 = 120 then (F_Query_compares_j72 S x1 x2 s0) else (if s0 = (-1) then (F_Query_compares_j72 S x1 x2 s0) else (match F_Query_digit S 9 with | (r79, S79) => (if s0 = (-1) then (F_Query_compares_j117 S79) else (if r79 = (-1) then (F_Query_compares_j117 S79) else (match F_Query_ends S79 102 x1 x2 (((10 : Int32) * s0) + r79) with | (r107, S107) => (if r107 = 0 then (F_Query_compares_j117 S107) else (1, S107))))))))
def Sf_Query_compares_j60 (S : (Nat → Nat → Int32)) (x1 : Int32) (x2 : Int32) (s0 : Int32) : Prop := (if x2 = 120 then (Sf_Query_compares_j72 S x1 x2 s0) else (if s0 = (-1) then (Sf_Query_compares_j72 S x1 x2 s0) else (Sf_Query_digit S 9 ∧ (match F_Query_digit S 9 with | (r79, S79) => (if s0 = (-1) then True else (if r79 = (-1) then True else (Sf_Query_ends S79 102 x1 x2 (((10 : Int32) * s0) + r79) ∧ True)))))))
theorem t_Query_compares_j60 {X : z_X} {Post : Option z_V → z_W → Prop} (M : z_M X zm_Query_compares rm_Query_compares Post) {T' : Nat → Nat × Nat} {G' : Nat → Nat → Option Nat} {n : Nat} {Q : (Int32 × (Nat → Nat → Int32)) → Prop} (S : (Nat → Nat → Int32)) (x1 : Int32) (x2 : Int32) (s0 : Int32) (hQ : ∀ v S', Q (v, S') → Post (some (.inl v)) (zW T' G' S' n)) (K : Q (F_Query_compares_j60 S x1 x2 s0)) (hs : Sf_Query_compares_j60 S x1 x2 s0) : z_G X zm_Query_compares (60, [(0, z_r 19), (1, .inl x1), (2, .inl x2)], [.inl s0], zW T' G' S n, 0, 0) := by
  unfold F_Query_compares_j60 at K
  unfold Sf_Query_compares_j60 at hs
  refine z_go2 M.1 60 [(.istore_n 3, 1), (.iload_n 2, 1), (.bipush 120, 2)] (64, [(3, .inl s0), (0, z_r 19), (1, .inl x1), (2, .inl x2)], [.inl 120, .inl x2], zW T' G' S n, 0, 0) (by decide +kernel) rfl ⟨trivial, trivial, trivial, trivial⟩ ?_
  refine z_icmp_eq 72 M.1 (off := 8) (by decide +kernel) (by decide) (fun c64 => ?_) (fun c64 => ?_)
  · rw [if_pos c64] at K hs
    exact z_lvs (lv' := [(0, z_r 19), (1, .inl x1), (2, .inl x2), (3, .inl s0)]) [1, 2, 3, 0] rfl (t_Query_compares_j72 M S x1 x2 s0 hQ K hs)
  · rw [if_neg c64] at K hs
    refine z_go2 M.1 67 [(.iload_n 3, 1), (.iconst (-1), 1)] (69, [(3, .inl s0), (0, z_r 19), (1, .inl x1), (2, .inl x2)], [.inl (-1), .inl s0], zW T' G' S n, 0, 0) (by decide +kernel) rfl ⟨trivial, trivial, trivial⟩ ?_
    refine z_icmp_ne 76 M.1 (off := 7) (by decide +kernel) (by decide) (fun c69 => ?_) (fun c69 => ?_)
    · rw [if_neg c69] at K hs
      refine z_go2 M.1 76 [(.aload_n 0, 1), (.bipush 9, 2)] (79, [(3, .inl s0), (0, z_r 19), (1, .inl x1), (2, .inl x2)], [.inl 9, z_r 19], zW T' G' S n, 0, 0) (by decide +kernel) rfl ⟨trivial, trivial, trivial⟩ ?_
      refine z_callV M.1 (av := [.inl 9]) (st := []) (a := 19) (ci := 5) (by decide +kernel) (c_Query_digit T' G' S n 9 hs.1) M.2.1 zl_Query_70 zv_Query_digit rfl rfl rfl ⟨by decide, by decide, by decide, by decide⟩ rfl (Nat.le_of_ble_eq_true rfl) (fun v w' hv => ?_)
      replace hs := hs.2
      rcases hF79 : F_Query_digit S 9 with ⟨r79, S79⟩
      rw [hF79] at K hv hs
      try dsimp only at K hs
      obtain ⟨rfl, rfl⟩ := hv
      show z_G X zm_Query_compares (82, [(3, .inl s0), (0, z_r 19), (1, .inl x1), (2, .inl x2)], [.inl r79], zW T' G' S79 n, 0, 0)
      refine z_go2 M.1 82 [(.istore 4, 2), (.iload_n 3, 1), (.iconst (-1), 1)] (86, [(4, .inl r79), (3, .inl s0), (0, z_r 19), (1, .inl x1), (2, .inl x2)], [.inl (-1), .inl s0], zW T' G' S79 n, 0, 0) (by decide +kernel) rfl ⟨trivial, trivial, trivial, trivial⟩ ?_
      refine z_icmp_eq 117 M.1 (off := 31) (by decide +kernel) (by decide) (fun c86 => ?_) (fun c86 => ?_)
      · rw [if_pos c86] at K hs
        exact z_lvs (lv' := []) [] rfl (t_Query_compares_j117 M S79 hQ K)
      · rw [if_neg c86] at K hs
        refine z_go2 M.1 89 [(.iload 4, 2), (.iconst (-1), 1)] (92, [(4, .inl r79), (3, .inl s0), (0, z_r 19), (1, .inl x1), (2, .inl x2)], [.inl (-1), .inl r79], zW T' G' S79 n, 0, 0) (by decide +kernel) rfl ⟨trivial, trivial, trivial⟩ ?_
        refine z_icmp_eq 117 M.1 (off := 25) (by decide +kernel) (by decide) (fun c92 => ?_) (fun c92 => ?_)
        · rw [if_pos c92] at K hs
          exact z_lvs (lv' := []) [] rfl (t_Query_compares_j117 M S79 hQ K)
        · rw [if_neg c92] at K hs
          refine z_go2 M.1 95 [(.aload_n 0, 1), (.bipush 102, 2), (.iload_n 1, 1), (.iload_n 2, 1), (.bipush 10, 2), (.iload_n 3, 1), (.imul, 1), (.iload 4, 2), (.iadd, 1)] (107, [(4, .inl r79), (3, .inl s0), (0, z_r 19), (1, .inl x1), (2, .inl x2)], [.inl (((10 : Int32) * s0) + r79), .inl x2, .inl x1, .inl 102, z_r 19], zW T' G' S79 n, 0, 0) (by decide +kernel) rfl ⟨trivial, trivial, trivial, trivial, trivial, trivial, trivial, trivial, trivial, trivial⟩ ?_
          refine z_callV M.1 (av := [.inl 102, .inl x1, .inl x2, .inl (((10 : Int32) * s0) + r79)]) (st := []) (a := 19) (ci := 5) (by decide +kernel) (c_Query_ends T' G' S79 n 102 x1 x2 (((10 : Int32) * s0) + r79) hs.1) M.2.1 zl_Query_77 zv_Query_ends rfl rfl rfl ⟨by decide, by decide, by decide, by decide⟩ rfl (Nat.le_of_ble_eq_true rfl) (fun v w' hv => ?_)
          replace hs := hs.2
          rcases hF107 : F_Query_ends S79 102 x1 x2 (((10 : Int32) * s0) + r79) with ⟨r107, S107⟩
          rw [hF107] at K hv
          try dsimp only at K
          obtain ⟨rfl, rfl⟩ := hv
          show z_G X zm_Query_compares (110, [(4, .inl r79), (3, .inl s0), (0, z_r 19), (1, .inl x1), (2, .inl x2)], [.inl r107], zW T' G' S107 n, 0, 0)
          refine z_if_eq 117 M.1 (off := 7) (by decide +kernel) (by decide) (fun c110 => ?_) (fun c110 => ?_)
          · rw [if_pos c110] at K
            exact z_lvs (lv' := []) [] rfl (t_Query_compares_j117 M S107 hQ K)
          · rw [if_neg c110] at K
            refine z_go2 M.1 113 [(.iconst 1, 1), (.goto 4, 3)] (118, [(4, .inl r79), (3, .inl s0), (0, z_r 19), (1, .inl x1), (2, .inl x2)], [.inl 1], zW T' G' S107 n, 0, 0) (by decide +kernel) rfl ⟨trivial, trivial, trivial⟩ ?_
            exact z_iret M (by decide +kernel) .boolean rfl rfl (by decide) (by decide) (hQ _ _ K)
    · rw [if_pos c69] at K hs
      exact z_lvs (lv' := [(0, z_r 19), (1, .inl x1), (2, .inl x2), (3, .inl s0)]) [1, 2, 3, 0] rfl (t_Query_compares_j72 M S x1 x2 s0 hQ K hs)
def F_Query_compares_j34 (S : (Nat → Nat → Int32)) (x1 : Int32) (x2 : Int32) : (Int32 × (Nat → Nat → Int32)) := (match F_Query_takes S x2 with | (r36, S36) => (if r36 = 0 then (0, S36) else (if x2 = 120 then (F_Query_compares_j60 S36 x1 x2 0) else (match F_Query_digit S36 9 with | (r57, S57) => (if x2 = 120 then (F_Query_compares_j72 S57 x1 x2 r57) else (if r57 = (-1) then (F_Query_compares_j72 S57 x1 x2 r57) else (match F_Query_digit S57 9 with | (r79, S79) => (if r57 = (-1) then (F_Query_compares_j117 S79) else (if r79 = (-1) then (F_Query_compares_j117 S79) else (match F_Query_ends S79 102 x1 x2 (((10 : Int32) * r57) + r79) with | (r107, S107) => (if r107 = 0 then (F_Query_compares_j117 S107) else (1, S107))))))))))))
def Sf_Query_compares_j34 (S : (Nat → Nat → Int32)) (x1 : Int32) (x2 : Int32) : Prop := (Sf_Query_takes S x2 ∧ (match F_Query_takes S x2 with | (r36, S36) => (if r36 = 0 then True else (if x2 = 120 then (Sf_Query_compares_j60 S36 x1 x2 0) else (Sf_Query_digit S36 9 ∧ (match F_Query_digit S36 9 with | (r57, S57) => (if x2 = 120 then (Sf_Query_compares_j72 S57 x1 x2 r57) else (if r57 = (-1) then (Sf_Query_compares_j72 S57 x1 x2 r57) else (Sf_Query_digit S57 9 ∧ (match F_Query_digit S57 9 with | (r79, S79) => (if r57 = (-1) then True else (if r79 = (-1) then True else (Sf_Query_ends S79 102 x1 x2 (((10 : Int32) * r57) + r79) ∧ True)))))))))))))
theorem t_Query_compares_j34 {X : z_X} {Post : Option z_V → z_W → Prop} (M : z_M X zm_Query_compares rm_Query_compares Post) {T' : Nat → Nat × Nat} {G' : Nat → Nat → Option Nat} {n : Nat} {Q : (Int32 × (Nat → Nat → Int32)) → Prop} (S : (Nat → Nat → Int32)) (x1 : Int32) (x2 : Int32) (hQ : ∀ v S', Q (v, S') → Post (some (.inl v)) (zW T' G' S' n)) (K : Q (F_Query_compares_j34 S x1 x2)) (hs : Sf_Query_compares_j34 S x1 x2) : z_G X zm_Query_compares (34, [(0, z_r 19), (1, .inl x1), (2, .inl x2)], [], zW T' G' S n, 0, 0) := by
  unfold F_Query_compares_j34 at K
  unfold Sf_Query_compares_j34 at hs
  refine z_go2 M.1 34 [(.aload_n 0, 1), (.iload_n 2, 1)] (36, [(0, z_r 19), (1, .inl x1), (2, .inl x2)], [.inl x2, z_r 19], zW T' G' S n, 0, 0) (by decide +kernel) rfl ⟨trivial, trivial, trivial⟩ ?_
  refine z_callV M.1 (av := [.inl x2]) (st := []) (a := 19) (ci := 5) (by decide +kernel) (c_Query_takes T' G' S n x2 hs.1) M.2.1 zl_Query_62 zv_Query_takes rfl rfl rfl ⟨by decide, by decide, by decide, by decide⟩ rfl (Nat.le_of_ble_eq_true rfl) (fun v w' hv => ?_)
  replace hs := hs.2
  rcases hF36 : F_Query_takes S x2 with ⟨r36, S36⟩
  rw [hF36] at K hv hs
  try dsimp only at K hs
  obtain ⟨rfl, rfl⟩ := hv
  show z_G X zm_Query_compares (39, [(0, z_r 19), (1, .inl x1), (2, .inl x2)], [.inl r36], zW T' G' S36 n, 0, 0)
  refine z_if_ne 44 M.1 (off := 5) (by decide +kernel) (by decide) (fun c39 => ?_) (fun c39 => ?_)
  · rw [if_neg c39] at K hs
    refine z_go2 M.1 44 [(.iload_n 2, 1), (.bipush 120, 2)] (47, [(0, z_r 19), (1, .inl x1), (2, .inl x2)], [.inl 120, .inl x2], zW T' G' S36 n, 0, 0) (by decide +kernel) rfl ⟨trivial, trivial, trivial⟩ ?_
    refine z_icmp_ne 54 M.1 (off := 7) (by decide +kernel) (by decide) (fun c47 => ?_) (fun c47 => ?_)
    · rw [if_neg c47] at K hs
      refine z_go2 M.1 54 [(.aload_n 0, 1), (.bipush 9, 2)] (57, [(0, z_r 19), (1, .inl x1), (2, .inl x2)], [.inl 9, z_r 19], zW T' G' S36 n, 0, 0) (by decide +kernel) rfl ⟨trivial, trivial, trivial⟩ ?_
      refine z_callV M.1 (av := [.inl 9]) (st := []) (a := 19) (ci := 5) (by decide +kernel) (c_Query_digit T' G' S36 n 9 hs.1) M.2.1 zl_Query_70 zv_Query_digit rfl rfl rfl ⟨by decide, by decide, by decide, by decide⟩ rfl (Nat.le_of_ble_eq_true rfl) (fun v w' hv => ?_)
      replace hs := hs.2
      rcases hF57 : F_Query_digit S36 9 with ⟨r57, S57⟩
      rw [hF57] at K hv hs
      try dsimp only at K hs
      obtain ⟨rfl, rfl⟩ := hv
      show z_G X zm_Query_compares (60, [(0, z_r 19), (1, .inl x1), (2, .inl x2)], [.inl r57], zW T' G' S57 n, 0, 0)
      refine z_go2 M.1 60 [(.istore_n 3, 1), (.iload_n 2, 1), (.bipush 120, 2)] (64, [(3, .inl r57), (0, z_r 19), (1, .inl x1), (2, .inl x2)], [.inl 120, .inl x2], zW T' G' S57 n, 0, 0) (by decide +kernel) rfl ⟨trivial, trivial, trivial, trivial⟩ ?_
      refine z_icmp_eq 72 M.1 (off := 8) (by decide +kernel) (by decide) (fun c64 => ?_) (fun c64 => ?_)
      · rw [if_pos c64] at K hs
        exact z_lvs (lv' := [(0, z_r 19), (1, .inl x1), (2, .inl x2), (3, .inl r57)]) [1, 2, 3, 0] rfl (t_Query_compares_j72 M S57 x1 x2 r57 hQ K hs)
      · rw [if_neg c64] at K hs
        refine z_go2 M.1 67 [(.iload_n 3, 1), (.iconst (-1), 1)] (69, [(3, .inl r57), (0, z_r 19), (1, .inl x1), (2, .inl x2)], [.inl (-1), .inl r57], zW T' G' S57 n, 0, 0) (by decide +kernel) rfl ⟨trivial, trivial, trivial⟩ ?_
        refine z_icmp_ne 76 M.1 (off := 7) (by decide +kernel) (by decide) (fun c69 => ?_) (fun c69 => ?_)
        · rw [if_neg c69] at K hs
          refine z_go2 M.1 76 [(.aload_n 0, 1), (.bipush 9, 2)] (79, [(3, .inl r57), (0, z_r 19), (1, .inl x1), (2, .inl x2)], [.inl 9, z_r 19], zW T' G' S57 n, 0, 0) (by decide +kernel) rfl ⟨trivial, trivial, trivial⟩ ?_
          refine z_callV M.1 (av := [.inl 9]) (st := []) (a := 19) (ci := 5) (by decide +kernel) (c_Query_digit T' G' S57 n 9 hs.1) M.2.1 zl_Query_70 zv_Query_digit rfl rfl rfl ⟨by decide, by decide, by decide, by decide⟩ rfl (Nat.le_of_ble_eq_true rfl) (fun v w' hv => ?_)
          replace hs := hs.2
          rcases hF79 : F_Query_digit S57 9 with ⟨r79, S79⟩
          rw [hF79] at K hv hs
          try dsimp only at K hs
          obtain ⟨rfl, rfl⟩ := hv
          show z_G X zm_Query_compares (82, [(3, .inl r57), (0, z_r 19), (1, .inl x1), (2, .inl x2)], [.inl r79], zW T' G' S79 n, 0, 0)
          refine z_go2 M.1 82 [(.istore 4, 2), (.iload_n 3, 1), (.iconst (-1), 1)] (86, [(4, .inl r79), (3, .inl r57), (0, z_r 19), (1, .inl x1), (2, .inl x2)], [.inl (-1), .inl r57], zW T' G' S79 n, 0, 0) (by decide +kernel) rfl ⟨trivial, trivial, trivial, trivial⟩ ?_
          refine z_icmp_eq 117 M.1 (off := 31) (by decide +kernel) (by decide) (fun c86 => ?_) (fun c86 => ?_)
          · rw [if_pos c86] at K hs
            exact z_lvs (lv' := []) [] rfl (t_Query_compares_j117 M S79 hQ K)
          · rw [if_neg c86] at K hs
            refine z_go2 M.1 89 [(.iload 4, 2), (.iconst (-1), 1)] (92, [(4, .inl r79), (3, .inl r57), (0, z_r 19), (1, .inl x1), (2, .inl x2)], [.inl (-1), .inl r79], zW T' G' S79 n, 0, 0) (by decide +kernel) rfl ⟨trivial, trivial, trivial⟩ ?_
            refine z_icmp_eq 117 M.1 (off := 25) (by decide +kernel) (by decide) (fun c92 => ?_) (fun c92 => ?_)
            · rw [if_pos c92] at K hs
              exact z_lvs (lv' := []) [] rfl (t_Query_compares_j117 M S79 hQ K)
            · rw [if_neg c92] at K hs
              refine z_go2 M.1 95 [(.aload_n 0, 1), (.bipush 102, 2), (.iload_n 1, 1), (.iload_n 2, 1), (.bipush 10, 2), (.iload_n 3, 1), (.imul, 1), (.iload 4, 2), (.iadd, 1)] (107, [(4, .inl r79), (3, .inl r57), (0, z_r 19), (1, .inl x1), (2, .inl x2)], [.inl (((10 : Int32) * r57) + r79), .inl x2, .inl x1, .inl 102, z_r 19], zW T' G' S79 n, 0, 0) (by decide +kernel) rfl ⟨trivial, trivial, trivial, trivial, trivial, trivial, trivial, trivial, trivial, trivial⟩ ?_
              refine z_callV M.1 (av := [.inl 102, .inl x1, .inl x2, .inl (((10 : Int32) * r57) + r79)]) (st := []) (a := 19) (ci := 5) (by decide +kernel) (c_Query_ends T' G' S79 n 102 x1 x2 (((10 : Int32) * r57) + r79) hs.1) M.2.1 zl_Query_77 zv_Query_ends rfl rfl rfl ⟨by decide, by decide, by decide, by decide⟩ rfl (Nat.le_of_ble_eq_true rfl) (fun v w' hv => ?_)
              replace hs := hs.2
              rcases hF107 : F_Query_ends S79 102 x1 x2 (((10 : Int32) * r57) + r79) with ⟨r107, S107⟩
              rw [hF107] at K hv
              try dsimp only at K
              obtain ⟨rfl, rfl⟩ := hv
              show z_G X zm_Query_compares (110, [(4, .inl r79), (3, .inl r57), (0, z_r 19), (1, .inl x1), (2, .inl x2)], [.inl r107], zW T' G' S107 n, 0, 0)
              refine z_if_eq 117 M.1 (off := 7) (by decide +kernel) (by decide) (fun c110 => ?_) (fun c110 => ?_)
              · rw [if_pos c110] at K
                exact z_lvs (lv' := []) [] rfl (t_Query_compares_j117 M S107 hQ K)
              · rw [if_neg c110] at K
                refine z_go2 M.1 113 [(.iconst 1, 1), (.goto 4, 3)] (118, [(4, .inl r79), (3, .inl r57), (0, z_r 19), (1, .inl x1), (2, .inl x2)], [.inl 1], zW T' G' S107 n, 0, 0) (by decide +kernel) rfl ⟨trivial, trivial, trivial⟩ ?_
                exact z_iret M (by decide +kernel) .boolean rfl rfl (by decide) (by decide) (hQ _ _ K)
        · rw [if_pos c69] at K hs
          exact z_lvs (lv' := [(0, z_r 19), (1, .inl x1), (2, .inl x2), (3, .inl r57)]) [1, 2, 3, 0] rfl (t_Query_compares_j72 M S57 x1 x2 r57 hQ K hs)
    · rw [if_pos c47] at K hs
      refine z_go2 M.1 50 [(.iconst 0, 1), (.goto 9, 3)] (60, [(0, z_r 19), (1, .inl x1), (2, .inl x2)], [.inl 0], zW T' G' S36 n, 0, 0) (by decide +kernel) rfl ⟨trivial, trivial, trivial⟩ ?_
      exact z_lvs (lv' := [(0, z_r 19), (1, .inl x1), (2, .inl x2)]) [0, 1, 2] rfl (t_Query_compares_j60 M S36 x1 x2 0 hQ K hs)
  · rw [if_pos c39] at K hs
    refine z_go2 M.1 42 [(.iconst 0, 1)] (43, [(0, z_r 19), (1, .inl x1), (2, .inl x2)], [.inl 0], zW T' G' S36 n, 0, 0) (by decide +kernel) rfl ⟨trivial, trivial⟩ ?_
    exact z_iret M (by decide +kernel) .boolean rfl rfl (by decide) (by decide) (hQ _ _ K)
def F_Query_compares (S : (Nat → Nat → Int32)) (p1 : Int32) : (Int32 × (Nat → Nat → Int32)) := (if p1 = (-1) then (0, S) else (if (F_Query_sign S) = 60 then (F_Query_compares_j34 S p1 (F_Query_sign S)) else (if (F_Query_sign S) = 61 then (F_Query_compares_j34 S p1 (F_Query_sign S)) else (if (F_Query_sign S) = 62 then (F_Query_compares_j34 S p1 (F_Query_sign S)) else (if (F_Query_sign S) = 120 then (F_Query_compares_j34 S p1 (F_Query_sign S)) else (0, S))))))
def Sf_Query_compares (S : (Nat → Nat → Int32)) (p1 : Int32) : Prop := (Sf_Query_sign S ∧ (if p1 = (-1) then True else (if (F_Query_sign S) = 60 then (Sf_Query_compares_j34 S p1 (F_Query_sign S)) else (if (F_Query_sign S) = 61 then (Sf_Query_compares_j34 S p1 (F_Query_sign S)) else (if (F_Query_sign S) = 62 then (Sf_Query_compares_j34 S p1 (F_Query_sign S)) else (if (F_Query_sign S) = 120 then (Sf_Query_compares_j34 S p1 (F_Query_sign S)) else True))))))
theorem c_Query_compares (T' : Nat → Nat × Nat) (G' : Nat → Nat → Option Nat) (S : (Nat → Nat → Int32)) (n : Nat) (p1 : Int32) (hs : Sf_Query_compares S p1) : z_Run rm_Query_compares zm_Query_compares [z_r 19, .inl p1] (zW T' G' S n) (zq (some (.inl (F_Query_compares S p1).1)) (zW T' G' (F_Query_compares S p1).2 n)) := by
  refine z_body (by decide) zf_Query_ok (Nat.le_of_ble_eq_true rfl) (fun X M => ?_)
  obtain ⟨Q, hQ, K⟩ : ∃ Q : (Int32 × (Nat → Nat → Int32)) → Prop, (∀ v S', Q (v, S') → zq (some (.inl (F_Query_compares S p1).1)) (zW T' G' (F_Query_compares S p1).2 n) (some (.inl v)) (zW T' G' S' n)) ∧ Q (F_Query_compares S p1) := ⟨fun o => F_Query_compares S p1 = o, fun v S' h => ⟨by rw [h], by rw [h]⟩, rfl⟩
  show z_G X zm_Query_compares (0, [(0, z_r 19), (1, .inl p1)], [], zW T' G' S n, 0, 0)
  unfold F_Query_compares at K
  unfold Sf_Query_compares at hs
  refine z_go2 M.1 0 [(.aload_n 0, 1)] (1, [(0, z_r 19), (1, .inl p1)], [z_r 19], zW T' G' S n, 0, 0) (by decide +kernel) rfl ⟨trivial, trivial⟩ ?_
  refine z_callV M.1 (av := []) (st := []) (a := 19) (ci := 5) (by decide +kernel) (c_Query_sign T' G' S n hs.1) M.2.1 zl_Query_58 zv_Query_sign rfl rfl rfl ⟨by decide, by decide, by decide, by decide⟩ rfl (Nat.le_of_ble_eq_true rfl) (fun v w' hv => ?_)
  obtain ⟨rfl, rfl⟩ := hv
  replace hs := hs.2
  show z_G X zm_Query_compares (4, [(0, z_r 19), (1, .inl p1)], [.inl (F_Query_sign S)], zW T' G' S n, 0, 0)
  refine z_go2 M.1 4 [(.istore_n 2, 1), (.iload_n 1, 1), (.iconst (-1), 1)] (7, [(2, .inl (F_Query_sign S)), (0, z_r 19), (1, .inl p1)], [.inl (-1), .inl p1], zW T' G' S n, 0, 0) (by decide +kernel) rfl ⟨trivial, trivial, trivial, trivial⟩ ?_
  refine z_icmp_eq 42 M.1 (off := 35) (by decide +kernel) (by decide) (fun c7 => ?_) (fun c7 => ?_)
  · rw [if_pos c7] at K hs
    refine z_go2 M.1 42 [(.iconst 0, 1)] (43, [(2, .inl (F_Query_sign S)), (0, z_r 19), (1, .inl p1)], [.inl 0], zW T' G' S n, 0, 0) (by decide +kernel) rfl ⟨trivial, trivial⟩ ?_
    exact z_iret M (by decide +kernel) .boolean rfl rfl (by decide) (by decide) (hQ _ _ K)
  · rw [if_neg c7] at K hs
    refine z_go2 M.1 10 [(.iload_n 2, 1), (.bipush 60, 2)] (13, [(2, .inl (F_Query_sign S)), (0, z_r 19), (1, .inl p1)], [.inl 60, .inl (F_Query_sign S)], zW T' G' S n, 0, 0) (by decide +kernel) rfl ⟨trivial, trivial, trivial⟩ ?_
    refine z_icmp_eq 34 M.1 (off := 21) (by decide +kernel) (by decide) (fun c13 => ?_) (fun c13 => ?_)
    · rw [if_pos c13] at K hs
      exact z_lvs (lv' := [(0, z_r 19), (1, .inl p1), (2, .inl (F_Query_sign S))]) [1, 2, 0] rfl (t_Query_compares_j34 M S p1 (F_Query_sign S) hQ K hs)
    · rw [if_neg c13] at K hs
      refine z_go2 M.1 16 [(.iload_n 2, 1), (.bipush 61, 2)] (19, [(2, .inl (F_Query_sign S)), (0, z_r 19), (1, .inl p1)], [.inl 61, .inl (F_Query_sign S)], zW T' G' S n, 0, 0) (by decide +kernel) rfl ⟨trivial, trivial, trivial⟩ ?_
      refine z_icmp_eq 34 M.1 (off := 15) (by decide +kernel) (by decide) (fun c19 => ?_) (fun c19 => ?_)
      · rw [if_pos c19] at K hs
        exact z_lvs (lv' := [(0, z_r 19), (1, .inl p1), (2, .inl (F_Query_sign S))]) [1, 2, 0] rfl (t_Query_compares_j34 M S p1 (F_Query_sign S) hQ K hs)
      · rw [if_neg c19] at K hs
        refine z_go2 M.1 22 [(.iload_n 2, 1), (.bipush 62, 2)] (25, [(2, .inl (F_Query_sign S)), (0, z_r 19), (1, .inl p1)], [.inl 62, .inl (F_Query_sign S)], zW T' G' S n, 0, 0) (by decide +kernel) rfl ⟨trivial, trivial, trivial⟩ ?_
        refine z_icmp_eq 34 M.1 (off := 9) (by decide +kernel) (by decide) (fun c25 => ?_) (fun c25 => ?_)
        · rw [if_pos c25] at K hs
          exact z_lvs (lv' := [(0, z_r 19), (1, .inl p1), (2, .inl (F_Query_sign S))]) [1, 2, 0] rfl (t_Query_compares_j34 M S p1 (F_Query_sign S) hQ K hs)
        · rw [if_neg c25] at K hs
          refine z_go2 M.1 28 [(.iload_n 2, 1), (.bipush 120, 2)] (31, [(2, .inl (F_Query_sign S)), (0, z_r 19), (1, .inl p1)], [.inl 120, .inl (F_Query_sign S)], zW T' G' S n, 0, 0) (by decide +kernel) rfl ⟨trivial, trivial, trivial⟩ ?_
          refine z_icmp_ne 42 M.1 (off := 11) (by decide +kernel) (by decide) (fun c31 => ?_) (fun c31 => ?_)
          · rw [if_neg c31] at K hs
            refine z_go2 M.1 42 [(.iconst 0, 1)] (43, [(2, .inl (F_Query_sign S)), (0, z_r 19), (1, .inl p1)], [.inl 0], zW T' G' S n, 0, 0) (by decide +kernel) rfl ⟨trivial, trivial⟩ ?_
            exact z_iret M (by decide +kernel) .boolean rfl rfl (by decide) (by decide) (hQ _ _ K)
          · rw [if_pos c31] at K hs
            exact z_lvs (lv' := [(0, z_r 19), (1, .inl p1), (2, .inl (F_Query_sign S))]) [1, 2, 0] rfl (t_Query_compares_j34 M S p1 (F_Query_sign S) hQ K hs)

-- TrackHouse$Query.closes
abbrev rm_Query_closes : Room := zr 3
def F_Query_closes (S : (Nat → Nat → Int32)) (p1 : Int32) : (Int32 × (Nat → Nat → Int32)) := (match F_Query_ends (z_uS S 19 9 ((S 19 9) - 1)) p1 (zAt (S 26) 30 ((S 19 9) - 1)) 0 0 with | (r25, S25) => (r25, S25))
def Sf_Query_closes (S : (Nat → Nat → Int32)) (p1 : Int32) : Prop := (Sf_Query_ends (z_uS S 19 9 ((S 19 9) - 1)) p1 (zAt (S 26) 30 ((S 19 9) - 1)) 0 0 ∧ (match F_Query_ends (z_uS S 19 9 ((S 19 9) - 1)) p1 (zAt (S 26) 30 ((S 19 9) - 1)) 0 0 with | (r25, S25) => (narrow .boolean (.int r25) = .int r25 ∧ True)))
theorem c_Query_closes (T' : Nat → Nat × Nat) (G' : Nat → Nat → Option Nat) (S : (Nat → Nat → Int32)) (n : Nat) (p1 : Int32) (hs : Sf_Query_closes S p1) : z_Run rm_Query_closes zm_Query_closes [z_r 19, .inl p1] (zW T' G' S n) (zq (some (.inl (F_Query_closes S p1).1)) (zW T' G' (F_Query_closes S p1).2 n)) := by
  refine z_body (by decide) zf_Query_ok (Nat.le_of_ble_eq_true rfl) (fun X M => ?_)
  obtain ⟨Q, hQ, K⟩ : ∃ Q : (Int32 × (Nat → Nat → Int32)) → Prop, (∀ v S', Q (v, S') → zq (some (.inl (F_Query_closes S p1).1)) (zW T' G' (F_Query_closes S p1).2 n) (some (.inl v)) (zW T' G' S' n)) ∧ Q (F_Query_closes S p1) := ⟨fun o => F_Query_closes S p1 = o, fun v S' h => ⟨by rw [h], by rw [h]⟩, rfl⟩
  show z_G X zm_Query_closes (0, [(0, z_r 19), (1, .inl p1)], [], zW T' G' S n, 0, 0)
  unfold F_Query_closes at K
  unfold Sf_Query_closes at hs
  refine z_go2 M.1 0 [(.aload_n 0, 1), (.dup, 1), (.getfield 41, 3), (.iconst 1, 1), (.isub, 1), (.putfield 41, 3), (.aload_n 0, 1), (.iload_n 1, 1), (.aload_n 0, 1), (.getfield 31, 3), (.aload_n 0, 1), (.getfield 41, 3)] (20, [(0, z_r 19), (1, .inl p1)], [.inl ((S 19 9) - 1), z_r 26, .inl p1, z_r 19], zW T' G' (z_uS S 19 9 ((S 19 9) - 1)) n, 0, 0) (by decide +kernel) rfl ⟨trivial, rfl, rfl, trivial, trivial, ⟨rfl, trivial⟩, trivial, trivial, trivial, rfl, trivial, rfl, trivial⟩ ?_
  refine z_callS M.1 (av := [z_r 26, .inl ((S 19 9) - 1)]) (st := [.inl p1, z_r 19]) (by decide +kernel) (c_at (zW T' G' (z_uS S 19 9 ((S 19 9) - 1)) n) 26 30 rfl (by decide) ((S 19 9) - 1)) M.2.1 zl_Query_96 zs_T_at ⟨by decide, by decide, by decide, by decide⟩ rfl (Nat.le_of_ble_eq_true rfl) (fun v w' hv => ?_)
  obtain ⟨rfl, rfl⟩ := hv
  show z_G X zm_Query_closes (23, [(0, z_r 19), (1, .inl p1)], [.inl (zAt (S 26) 30 ((S 19 9) - 1)), .inl p1, z_r 19], zW T' G' (z_uS S 19 9 ((S 19 9) - 1)) n, 0, 0)
  refine z_go2 M.1 23 [(.iconst 0, 1), (.iconst 0, 1)] (25, [(0, z_r 19), (1, .inl p1)], [.inl 0, .inl 0, .inl (zAt (S 26) 30 ((S 19 9) - 1)), .inl p1, z_r 19], zW T' G' (z_uS S 19 9 ((S 19 9) - 1)) n, 0, 0) (by decide +kernel) rfl ⟨trivial, trivial, trivial⟩ ?_
  refine z_callV M.1 (av := [.inl p1, .inl (zAt (S 26) 30 ((S 19 9) - 1)), .inl 0, .inl 0]) (st := []) (a := 19) (ci := 5) (by decide +kernel) (c_Query_ends T' G' (z_uS S 19 9 ((S 19 9) - 1)) n p1 (zAt (S 26) 30 ((S 19 9) - 1)) 0 0 hs.1) M.2.1 zl_Query_77 zv_Query_ends rfl rfl rfl ⟨by decide, by decide, by decide, by decide⟩ rfl (Nat.le_of_ble_eq_true rfl) (fun v w' hv => ?_)
  replace hs := hs.2
  rcases hF25 : F_Query_ends (z_uS S 19 9 ((S 19 9) - 1)) p1 (zAt (S 26) 30 ((S 19 9) - 1)) 0 0 with ⟨r25, S25⟩
  rw [hF25] at K hv hs
  try dsimp only at K hs
  obtain ⟨rfl, rfl⟩ := hv
  show z_G X zm_Query_closes (28, [(0, z_r 19), (1, .inl p1)], [.inl r25], zW T' G' S25 n, 0, 0)
  exact z_iret M (by decide +kernel) .boolean rfl hs.1 (by decide) (by decide) (hQ _ _ K)

-- TrackHouse$Query.beginsWell
abbrev rm_Query_beginsWell : Room := zr 4
def F_Query_beginsWell_j165 (S : (Nat → Nat → Int32)) : (Int32 × (Nat → Nat → Int32)) := (0, S)
theorem t_Query_beginsWell_j165 {X : z_X} {Post : Option z_V → z_W → Prop} (M : z_M X zm_Query_beginsWell rm_Query_beginsWell Post) {T' : Nat → Nat × Nat} {G' : Nat → Nat → Option Nat} {n : Nat} {Q : (Int32 × (Nat → Nat → Int32)) → Prop} (S : (Nat → Nat → Int32)) (hQ : ∀ v S', Q (v, S') → Post (some (.inl v)) (zW T' G' S' n)) (K : Q (F_Query_beginsWell_j165 S)) : z_G X zm_Query_beginsWell (165, [], [], zW T' G' S n, 0, 0) := by
  unfold F_Query_beginsWell_j165 at K
  refine z_go2 M.1 165 [(.iconst 0, 1)] (166, [], [.inl 0], zW T' G' S n, 0, 0) (by decide +kernel) rfl ⟨trivial, trivial⟩ ?_
  exact z_iret M (by decide +kernel) .boolean rfl rfl (by decide) (by decide) (hQ _ _ K)
def F_Query_beginsWell_j254 (S : (Nat → Nat → Int32)) : (Int32 × (Nat → Nat → Int32)) := (0, S)
theorem t_Query_beginsWell_j254 {X : z_X} {Post : Option z_V → z_W → Prop} (M : z_M X zm_Query_beginsWell rm_Query_beginsWell Post) {T' : Nat → Nat × Nat} {G' : Nat → Nat → Option Nat} {n : Nat} {Q : (Int32 × (Nat → Nat → Int32)) → Prop} (S : (Nat → Nat → Int32)) (hQ : ∀ v S', Q (v, S') → Post (some (.inl v)) (zW T' G' S' n)) (K : Q (F_Query_beginsWell_j254 S)) : z_G X zm_Query_beginsWell (254, [], [], zW T' G' S n, 0, 0) := by
  unfold F_Query_beginsWell_j254 at K
  refine z_go2 M.1 254 [(.iconst 0, 1)] (255, [], [.inl 0], zW T' G' S n, 0, 0) (by decide +kernel) rfl ⟨trivial, trivial⟩ ?_
  exact z_iret M (by decide +kernel) .boolean rfl rfl (by decide) (by decide) (hQ _ _ K)
def F_Query_beginsWell_j197 (S : (Nat → Nat → Int32)) : (Int32 × (Nat → Nat → Int32)) := (0, S)
theorem t_Query_beginsWell_j197 {X : z_X} {Post : Option z_V → z_W → Prop} (M : z_M X zm_Query_beginsWell rm_Query_beginsWell Post) {T' : Nat → Nat × Nat} {G' : Nat → Nat → Option Nat} {n : Nat} {Q : (Int32 × (Nat → Nat → Int32)) → Prop} (S : (Nat → Nat → Int32)) (hQ : ∀ v S', Q (v, S') → Post (some (.inl v)) (zW T' G' S' n)) (K : Q (F_Query_beginsWell_j197 S)) : z_G X zm_Query_beginsWell (197, [], [], zW T' G' S n, 0, 0) := by
  unfold F_Query_beginsWell_j197 at K
  refine z_go2 M.1 197 [(.iconst 0, 1)] (198, [], [.inl 0], zW T' G' S n, 0, 0) (by decide +kernel) rfl ⟨trivial, trivial⟩ ?_
  exact z_iret M (by decide +kernel) .boolean rfl rfl (by decide) (by decide) (hQ _ _ K)
def F_Query_beginsWell_j336 (S : (Nat → Nat → Int32)) : (Int32 × (Nat → Nat → Int32)) := (0, S)
theorem t_Query_beginsWell_j336 {X : z_X} {Post : Option z_V → z_W → Prop} (M : z_M X zm_Query_beginsWell rm_Query_beginsWell Post) {T' : Nat → Nat × Nat} {G' : Nat → Nat → Option Nat} {n : Nat} {Q : (Int32 × (Nat → Nat → Int32)) → Prop} (S : (Nat → Nat → Int32)) (hQ : ∀ v S', Q (v, S') → Post (some (.inl v)) (zW T' G' S' n)) (K : Q (F_Query_beginsWell_j336 S)) : z_G X zm_Query_beginsWell (336, [], [], zW T' G' S n, 0, 0) := by
  unfold F_Query_beginsWell_j336 at K
  refine z_go2 M.1 336 [(.iconst 0, 1)] (337, [], [.inl 0], zW T' G' S n, 0, 0) (by decide +kernel) rfl ⟨trivial, trivial⟩ ?_
  exact z_iret M (by decide +kernel) .boolean rfl rfl (by decide) (by decide) (hQ _ _ K)
def F_Query_beginsWell_j224 (S : (Nat → Nat → Int32)) : (Int32 × (Nat → Nat → Int32)) := (0, S)
theorem t_Query_beginsWell_j224 {X : z_X} {Post : Option z_V → z_W → Prop} (M : z_M X zm_Query_beginsWell rm_Query_beginsWell Post) {T' : Nat → Nat × Nat} {G' : Nat → Nat → Option Nat} {n : Nat} {Q : (Int32 × (Nat → Nat → Int32)) → Prop} (S : (Nat → Nat → Int32)) (hQ : ∀ v S', Q (v, S') → Post (some (.inl v)) (zW T' G' S' n)) (K : Q (F_Query_beginsWell_j224 S)) : z_G X zm_Query_beginsWell (224, [], [], zW T' G' S n, 0, 0) := by
  unfold F_Query_beginsWell_j224 at K
  refine z_go2 M.1 224 [(.iconst 0, 1)] (225, [], [.inl 0], zW T' G' S n, 0, 0) (by decide +kernel) rfl ⟨trivial, trivial⟩ ?_
  exact z_iret M (by decide +kernel) .boolean rfl rfl (by decide) (by decide) (hQ _ _ K)
def F_Query_beginsWell_j308 (S : (Nat → Nat → Int32)) : (Int32 × (Nat → Nat → Int32)) := (0, S)
theorem t_Query_beginsWell_j308 {X : z_X} {Post : Option z_V → z_W → Prop} (M : z_M X zm_Query_beginsWell rm_Query_beginsWell Post) {T' : Nat → Nat × Nat} {G' : Nat → Nat → Option Nat} {n : Nat} {Q : (Int32 × (Nat → Nat → Int32)) → Prop} (S : (Nat → Nat → Int32)) (hQ : ∀ v S', Q (v, S') → Post (some (.inl v)) (zW T' G' S' n)) (K : Q (F_Query_beginsWell_j308 S)) : z_G X zm_Query_beginsWell (308, [], [], zW T' G' S n, 0, 0) := by
  unfold F_Query_beginsWell_j308 at K
  refine z_go2 M.1 308 [(.iconst 0, 1)] (309, [], [.inl 0], zW T' G' S n, 0, 0) (by decide +kernel) rfl ⟨trivial, trivial⟩ ?_
  exact z_iret M (by decide +kernel) .boolean rfl rfl (by decide) (by decide) (hQ _ _ K)
def F_Query_beginsWell_j304 (S : (Nat → Nat → Int32)) : (Int32 × (Nat → Nat → Int32)) := (1, S)
theorem t_Query_beginsWell_j304 {X : z_X} {Post : Option z_V → z_W → Prop} (M : z_M X zm_Query_beginsWell rm_Query_beginsWell Post) {T' : Nat → Nat × Nat} {G' : Nat → Nat → Option Nat} {n : Nat} {Q : (Int32 × (Nat → Nat → Int32)) → Prop} (S : (Nat → Nat → Int32)) (hQ : ∀ v S', Q (v, S') → Post (some (.inl v)) (zW T' G' S' n)) (K : Q (F_Query_beginsWell_j304 S)) : z_G X zm_Query_beginsWell (304, [], [], zW T' G' S n, 0, 0) := by
  unfold F_Query_beginsWell_j304 at K
  refine z_go2 M.1 304 [(.iconst 1, 1), (.goto 4, 3)] (309, [], [.inl 1], zW T' G' S n, 0, 0) (by decide +kernel) rfl ⟨trivial, trivial, trivial⟩ ?_
  exact z_iret M (by decide +kernel) .boolean rfl rfl (by decide) (by decide) (hQ _ _ K)
def F_Query_beginsWell_j362 (S : (Nat → Nat → Int32)) : (Int32 × (Nat → Nat → Int32)) := (0, S)
theorem t_Query_beginsWell_j362 {X : z_X} {Post : Option z_V → z_W → Prop} (M : z_M X zm_Query_beginsWell rm_Query_beginsWell Post) {T' : Nat → Nat × Nat} {G' : Nat → Nat → Option Nat} {n : Nat} {Q : (Int32 × (Nat → Nat → Int32)) → Prop} (S : (Nat → Nat → Int32)) (hQ : ∀ v S', Q (v, S') → Post (some (.inl v)) (zW T' G' S' n)) (K : Q (F_Query_beginsWell_j362 S)) : z_G X zm_Query_beginsWell (362, [], [], zW T' G' S n, 0, 0) := by
  unfold F_Query_beginsWell_j362 at K
  refine z_go2 M.1 362 [(.iconst 0, 1)] (363, [], [.inl 0], zW T' G' S n, 0, 0) (by decide +kernel) rfl ⟨trivial, trivial⟩ ?_
  exact z_iret M (by decide +kernel) .boolean rfl rfl (by decide) (by decide) (hQ _ _ K)
def F_Query_beginsWell (S : (Nat → Nat → Int32)) : (Int32 × (Nat → Nat → Int32)) := (if (F_Query_sign S) = 33 then (match F_Query_takes S (F_Query_sign S) with | (r146, S146) => (if r146 = 0 then (F_Query_beginsWell_j165 S146) else (match F_Query_opens S146 (F_Query_sign S) 0 with | (r155, S155) => (if r155 = 0 then (F_Query_beginsWell_j165 S155) else (1, S155))))) else (if (F_Query_sign S) = 40 then (match F_Query_takes S (F_Query_sign S) with | (r146, S146) => (if r146 = 0 then (F_Query_beginsWell_j165 S146) else (match F_Query_opens S146 (F_Query_sign S) 0 with | (r155, S155) => (if r155 = 0 then (F_Query_beginsWell_j165 S155) else (1, S155))))) else (if (F_Query_sign S) = 66 then (match F_Query_takes S (F_Query_sign S) with | (r228, S228) => (if r228 = 0 then (F_Query_beginsWell_j254 S228) else (match F_Query_digit S228 9 with | (r239, S239) => (match F_Query_ends S239 (F_Query_sign S) r239 0 0 with | (r244, S244) => (if r244 = 0 then (F_Query_beginsWell_j254 S244) else (1, S244)))))) else (if (F_Query_sign S) = 67 then (match F_Query_takes S (F_Query_sign S) with | (r169, S169) => (if r169 = 0 then (F_Query_beginsWell_j197 S169) else (match F_Query_takes S169 91 with | (r178, S178) => (if r178 = 0 then (F_Query_beginsWell_j197 S178) else (match F_Query_opens S178 (F_Query_sign S) 0 with | (r187, S187) => (if r187 = 0 then (F_Query_beginsWell_j197 S187) else (1, S187))))))) else (if (F_Query_sign S) = 68 then (match F_Query_takes S (F_Query_sign S) with | (r312, S312) => (if r312 = 0 then (F_Query_beginsWell_j336 S312) else (match F_Query_digit S312 9 with | (r323, S323) => (match F_Query_endsWithTwo S323 (F_Query_sign S) r323 with | (r326, S326) => (if r326 = 0 then (F_Query_beginsWell_j336 S326) else (1, S326)))))) else (if (F_Query_sign S) = 73 then (match F_Query_takes S (F_Query_sign S) with | (r201, S201) => (if r201 = 0 then (F_Query_beginsWell_j224 S201) else (match F_Query_digit S201 2 with | (r211, S211) => (match F_Query_opensTyped S211 (F_Query_sign S) r211 with | (r214, S214) => (if r214 = 0 then (F_Query_beginsWell_j224 S214) else (1, S214)))))) else (if (F_Query_sign S) = 76 then (match F_Query_takes S (F_Query_sign S) with | (r201, S201) => (if r201 = 0 then (F_Query_beginsWell_j224 S201) else (match F_Query_digit S201 2 with | (r211, S211) => (match F_Query_opensTyped S211 (F_Query_sign S) r211 with | (r214, S214) => (if r214 = 0 then (F_Query_beginsWell_j224 S214) else (1, S214)))))) else (if (F_Query_sign S) = 85 then (match F_Query_takes S (F_Query_sign S) with | (r169, S169) => (if r169 = 0 then (F_Query_beginsWell_j197 S169) else (match F_Query_takes S169 91 with | (r178, S178) => (if r178 = 0 then (F_Query_beginsWell_j197 S178) else (match F_Query_opens S178 (F_Query_sign S) 0 with | (r187, S187) => (if r187 = 0 then (F_Query_beginsWell_j197 S187) else (1, S187))))))) else (if (F_Query_sign S) = 87 then (match F_Query_takes S (F_Query_sign S) with | (r228, S228) => (if r228 = 0 then (F_Query_beginsWell_j254 S228) else (match F_Query_digit S228 9 with | (r239, S239) => (match F_Query_ends S239 (F_Query_sign S) r239 0 0 with | (r244, S244) => (if r244 = 0 then (F_Query_beginsWell_j254 S244) else (1, S244)))))) else (if (F_Query_sign S) = 88 then (match F_Query_takes S (F_Query_sign S) with | (r312, S312) => (if r312 = 0 then (F_Query_beginsWell_j336 S312) else (match F_Query_digit S312 9 with | (r323, S323) => (match F_Query_endsWithTwo S323 (F_Query_sign S) r323 with | (r326, S326) => (if r326 = 0 then (F_Query_beginsWell_j336 S326) else (1, S326)))))) else (if (F_Query_sign S) = 97 then (match F_Query_takes S (F_Query_sign S) with | (r258, S258) => (if r258 = 0 then (F_Query_beginsWell_j308 S258) else (match F_Query_takes S258 120 with | (r267, S267) => (if r267 = 0 then (match F_Query_digit S267 9 with | (r293, S293) => (match F_Query_ends S293 (F_Query_sign S) r293 0 0 with | (r298, S298) => (if r298 = 0 then (F_Query_beginsWell_j308 S298) else (F_Query_beginsWell_j304 S298)))) else (match F_Query_ends S267 120 0 0 0 with | (r279, S279) => (if r279 = 0 then (F_Query_beginsWell_j308 S279) else (F_Query_beginsWell_j304 S279))))))) else (if (F_Query_sign S) = 102 then (match F_Query_takes S (F_Query_sign S) with | (r340, S340) => (if r340 = 0 then (F_Query_beginsWell_j362 S340) else (match F_Query_digit S340 3 with | (r349, S349) => (match F_Query_compares S349 r349 with | (r352, S352) => (if r352 = 0 then (F_Query_beginsWell_j362 S352) else (1, S352)))))) else (if (F_Query_sign S) = 107 then (match F_Query_takes S (F_Query_sign S) with | (r228, S228) => (if r228 = 0 then (F_Query_beginsWell_j254 S228) else (match F_Query_digit S228 9 with | (r239, S239) => (match F_Query_ends S239 (F_Query_sign S) r239 0 0 with | (r244, S244) => (if r244 = 0 then (F_Query_beginsWell_j254 S244) else (1, S244)))))) else (if (F_Query_sign S) = 112 then (match F_Query_takes S (F_Query_sign S) with | (r228, S228) => (if r228 = 0 then (F_Query_beginsWell_j254 S228) else (match F_Query_digit S228 9 with | (r239, S239) => (match F_Query_ends S239 (F_Query_sign S) r239 0 0 with | (r244, S244) => (if r244 = 0 then (F_Query_beginsWell_j254 S244) else (1, S244)))))) else (if (F_Query_sign S) = 115 then (match F_Query_takes S (F_Query_sign S) with | (r228, S228) => (if r228 = 0 then (F_Query_beginsWell_j254 S228) else (match F_Query_digit S228 9 with | (r239, S239) => (match F_Query_ends S239 (F_Query_sign S) r239 0 0 with | (r244, S244) => (if r244 = 0 then (F_Query_beginsWell_j254 S244) else (1, S244)))))) else (if (F_Query_sign S) = 118 then (match F_Query_takes S (F_Query_sign S) with | (r228, S228) => (if r228 = 0 then (F_Query_beginsWell_j254 S228) else (match F_Query_digit S228 9 with | (r239, S239) => (match F_Query_ends S239 (F_Query_sign S) r239 0 0 with | (r244, S244) => (if r244 = 0 then (F_Query_beginsWell_j254 S244) else (1, S244)))))) else (0, S)))))))))))))))))
def Sf_Query_beginsWell (S : (Nat → Nat → Int32)) : Prop := (Sf_Query_sign S ∧ (if (F_Query_sign S) = 33 then (Sf_Query_takes S (F_Query_sign S) ∧ True) else (if (F_Query_sign S) = 40 then (Sf_Query_takes S (F_Query_sign S) ∧ True) else (if (F_Query_sign S) = 66 then (Sf_Query_takes S (F_Query_sign S) ∧ (match F_Query_takes S (F_Query_sign S) with | (r228, S228) => (if r228 = 0 then True else (Sf_Query_digit S228 9 ∧ (match F_Query_digit S228 9 with | (r239, S239) => (Sf_Query_ends S239 (F_Query_sign S) r239 0 0 ∧ True)))))) else (if (F_Query_sign S) = 67 then (Sf_Query_takes S (F_Query_sign S) ∧ (match F_Query_takes S (F_Query_sign S) with | (r169, S169) => (if r169 = 0 then True else (Sf_Query_takes S169 91 ∧ True)))) else (if (F_Query_sign S) = 68 then (Sf_Query_takes S (F_Query_sign S) ∧ (match F_Query_takes S (F_Query_sign S) with | (r312, S312) => (if r312 = 0 then True else (Sf_Query_digit S312 9 ∧ (match F_Query_digit S312 9 with | (r323, S323) => (Sf_Query_endsWithTwo S323 (F_Query_sign S) r323 ∧ True)))))) else (if (F_Query_sign S) = 73 then (Sf_Query_takes S (F_Query_sign S) ∧ (match F_Query_takes S (F_Query_sign S) with | (r201, S201) => (if r201 = 0 then True else (Sf_Query_digit S201 2 ∧ (match F_Query_digit S201 2 with | (r211, S211) => (Sf_Query_opensTyped S211 (F_Query_sign S) r211 ∧ True)))))) else (if (F_Query_sign S) = 76 then (Sf_Query_takes S (F_Query_sign S) ∧ (match F_Query_takes S (F_Query_sign S) with | (r201, S201) => (if r201 = 0 then True else (Sf_Query_digit S201 2 ∧ (match F_Query_digit S201 2 with | (r211, S211) => (Sf_Query_opensTyped S211 (F_Query_sign S) r211 ∧ True)))))) else (if (F_Query_sign S) = 85 then (Sf_Query_takes S (F_Query_sign S) ∧ (match F_Query_takes S (F_Query_sign S) with | (r169, S169) => (if r169 = 0 then True else (Sf_Query_takes S169 91 ∧ True)))) else (if (F_Query_sign S) = 87 then (Sf_Query_takes S (F_Query_sign S) ∧ (match F_Query_takes S (F_Query_sign S) with | (r228, S228) => (if r228 = 0 then True else (Sf_Query_digit S228 9 ∧ (match F_Query_digit S228 9 with | (r239, S239) => (Sf_Query_ends S239 (F_Query_sign S) r239 0 0 ∧ True)))))) else (if (F_Query_sign S) = 88 then (Sf_Query_takes S (F_Query_sign S) ∧ (match F_Query_takes S (F_Query_sign S) with | (r312, S312) => (if r312 = 0 then True else (Sf_Query_digit S312 9 ∧ (match F_Query_digit S312 9 with | (r323, S323) => (Sf_Query_endsWithTwo S323 (F_Query_sign S) r323 ∧ True)))))) else (if (F_Query_sign S) = 97 then (Sf_Query_takes S (F_Query_sign S) ∧ (match F_Query_takes S (F_Query_sign S) with | (r258, S258) => (if r258 = 0 then True else (Sf_Query_takes S258 120 ∧ (match F_Query_takes S258 120 with | (r267, S267) => (if r267 = 0 then (Sf_Query_digit S267 9 ∧ (match F_Query_digit S267 9 with | (r293, S293) => (Sf_Query_ends S293 (F_Query_sign S) r293 0 0 ∧ True))) else (Sf_Query_ends S267 120 0 0 0 ∧ True))))))) else (if (F_Query_sign S) = 102 then (Sf_Query_takes S (F_Query_sign S) ∧ (match F_Query_takes S (F_Query_sign S) with | (r340, S340) => (if r340 = 0 then True else (Sf_Query_digit S340 3 ∧ (match F_Query_digit S340 3 with | (r349, S349) => (Sf_Query_compares S349 r349 ∧ True)))))) else (if (F_Query_sign S) = 107 then (Sf_Query_takes S (F_Query_sign S) ∧ (match F_Query_takes S (F_Query_sign S) with | (r228, S228) => (if r228 = 0 then True else (Sf_Query_digit S228 9 ∧ (match F_Query_digit S228 9 with | (r239, S239) => (Sf_Query_ends S239 (F_Query_sign S) r239 0 0 ∧ True)))))) else (if (F_Query_sign S) = 112 then (Sf_Query_takes S (F_Query_sign S) ∧ (match F_Query_takes S (F_Query_sign S) with | (r228, S228) => (if r228 = 0 then True else (Sf_Query_digit S228 9 ∧ (match F_Query_digit S228 9 with | (r239, S239) => (Sf_Query_ends S239 (F_Query_sign S) r239 0 0 ∧ True)))))) else (if (F_Query_sign S) = 115 then (Sf_Query_takes S (F_Query_sign S) ∧ (match F_Query_takes S (F_Query_sign S) with | (r228, S228) => (if r228 = 0 then True else (Sf_Query_digit S228 9 ∧ (match F_Query_digit S228 9 with | (r239, S239) => (Sf_Query_ends S239 (F_Query_sign S) r239 0 0 ∧ True)))))) else (if (F_Query_sign S) = 118 then (Sf_Query_takes S (F_Query_sign S) ∧ (match F_Query_takes S (F_Query_sign S) with | (r228, S228) => (if r228 = 0 then True else (Sf_Query_digit S228 9 ∧ (match F_Query_digit S228 9 with | (r239, S239) => (Sf_Query_ends S239 (F_Query_sign S) r239 0 0 ∧ True)))))) else True)))))))))))))))))
theorem c_Query_beginsWell (T' : Nat → Nat × Nat) (G' : Nat → Nat → Option Nat) (S : (Nat → Nat → Int32)) (n : Nat) (hs : Sf_Query_beginsWell S) : z_Run rm_Query_beginsWell zm_Query_beginsWell [z_r 19] (zW T' G' S n) (zq (some (.inl (F_Query_beginsWell S).1)) (zW T' G' (F_Query_beginsWell S).2 n)) := by
  refine z_body (by decide) zf_Query_ok (Nat.le_of_ble_eq_true rfl) (fun X M => ?_)
  obtain ⟨Q, hQ, K⟩ : ∃ Q : (Int32 × (Nat → Nat → Int32)) → Prop, (∀ v S', Q (v, S') → zq (some (.inl (F_Query_beginsWell S).1)) (zW T' G' (F_Query_beginsWell S).2 n) (some (.inl v)) (zW T' G' S' n)) ∧ Q (F_Query_beginsWell S) := ⟨fun o => F_Query_beginsWell S = o, fun v S' h => ⟨by rw [h], by rw [h]⟩, rfl⟩
  show z_G X zm_Query_beginsWell (0, [(0, z_r 19)], [], zW T' G' S n, 0, 0)
  unfold F_Query_beginsWell at K
  unfold Sf_Query_beginsWell at hs
  refine z_go2 M.1 0 [(.aload_n 0, 1)] (1, [(0, z_r 19)], [z_r 19], zW T' G' S n, 0, 0) (by decide +kernel) rfl ⟨trivial, trivial⟩ ?_
  refine z_callV M.1 (av := []) (st := []) (a := 19) (ci := 5) (by decide +kernel) (c_Query_sign T' G' S n hs.1) M.2.1 zl_Query_58 zv_Query_sign rfl rfl rfl ⟨by decide, by decide, by decide, by decide⟩ rfl (Nat.le_of_ble_eq_true rfl) (fun v w' hv => ?_)
  obtain ⟨rfl, rfl⟩ := hv
  replace hs := hs.2
  show z_G X zm_Query_beginsWell (4, [(0, z_r 19)], [.inl (F_Query_sign S)], zW T' G' S n, 0, 0)
  refine z_go2 M.1 4 [(.istore_n 1, 1), (.iload_n 1, 1)] (6, [(1, .inl (F_Query_sign S)), (0, z_r 19)], [.inl (F_Query_sign S)], zW T' G' S n, 0, 0) (by decide +kernel) rfl ⟨trivial, trivial, trivial⟩ ?_
  by_cases c6_0 : (F_Query_sign S) = 33
  · rw [if_pos c6_0] at K hs
    refine z_lookE 144 M.1 (dflt := 358) (ps := #[(33, 138), (40, 138), (66, 220), (67, 161), (68, 304), (73, 193), (76, 193), (85, 161), (87, 220), (88, 304), (97, 250), (102, 332), (107, 220), (112, 220), (115, 220), (118, 220)]) (len := 138) c6_0 (off := 138) (by decide +kernel) (by decide) (by decide) (by decide) ?_
    refine z_go2 M.1 144 [(.aload_n 0, 1), (.iload_n 1, 1)] (146, [(1, .inl (F_Query_sign S)), (0, z_r 19)], [.inl (F_Query_sign S), z_r 19], zW T' G' S n, 0, 0) (by decide +kernel) rfl ⟨trivial, trivial, trivial⟩ ?_
    refine z_callV M.1 (av := [.inl (F_Query_sign S)]) (st := []) (a := 19) (ci := 5) (by decide +kernel) (c_Query_takes T' G' S n (F_Query_sign S) hs.1) M.2.1 zl_Query_62 zv_Query_takes rfl rfl rfl ⟨by decide, by decide, by decide, by decide⟩ rfl (Nat.le_of_ble_eq_true rfl) (fun v w' hv => ?_)
    replace hs := hs.2
    rcases hF146 : F_Query_takes S (F_Query_sign S) with ⟨r146, S146⟩
    rw [hF146] at K hv
    try dsimp only at K
    obtain ⟨rfl, rfl⟩ := hv
    show z_G X zm_Query_beginsWell (149, [(1, .inl (F_Query_sign S)), (0, z_r 19)], [.inl r146], zW T' G' S146 n, 0, 0)
    refine z_if_eq 165 M.1 (off := 16) (by decide +kernel) (by decide) (fun c149 => ?_) (fun c149 => ?_)
    · rw [if_pos c149] at K
      exact z_lvs (lv' := []) [] rfl (t_Query_beginsWell_j165 M S146 hQ K)
    · rw [if_neg c149] at K
      refine z_go2 M.1 152 [(.aload_n 0, 1), (.iload_n 1, 1), (.iconst 0, 1)] (155, [(1, .inl (F_Query_sign S)), (0, z_r 19)], [.inl 0, .inl (F_Query_sign S), z_r 19], zW T' G' S146 n, 0, 0) (by decide +kernel) rfl ⟨trivial, trivial, trivial, trivial⟩ ?_
      refine z_callV M.1 (av := [.inl (F_Query_sign S), .inl 0]) (st := []) (a := 19) (ci := 5) (by decide +kernel) (c_Query_opens T' G' S146 n (F_Query_sign S) 0) M.2.1 zl_Query_66 zv_Query_opens rfl rfl rfl ⟨by decide, by decide, by decide, by decide⟩ rfl (Nat.le_of_ble_eq_true rfl) (fun v w' hv => ?_)
      rcases hF155 : F_Query_opens S146 (F_Query_sign S) 0 with ⟨r155, S155⟩
      rw [hF155] at K hv
      try dsimp only at K
      obtain ⟨rfl, rfl⟩ := hv
      show z_G X zm_Query_beginsWell (158, [(1, .inl (F_Query_sign S)), (0, z_r 19)], [.inl r155], zW T' G' S155 n, 0, 0)
      refine z_if_eq 165 M.1 (off := 7) (by decide +kernel) (by decide) (fun c158 => ?_) (fun c158 => ?_)
      · rw [if_pos c158] at K
        exact z_lvs (lv' := []) [] rfl (t_Query_beginsWell_j165 M S155 hQ K)
      · rw [if_neg c158] at K
        refine z_go2 M.1 161 [(.iconst 1, 1), (.goto 4, 3)] (166, [(1, .inl (F_Query_sign S)), (0, z_r 19)], [.inl 1], zW T' G' S155 n, 0, 0) (by decide +kernel) rfl ⟨trivial, trivial, trivial⟩ ?_
        exact z_iret M (by decide +kernel) .boolean rfl rfl (by decide) (by decide) (hQ _ _ K)
  · rw [if_neg c6_0] at K hs
    by_cases c6_1 : (F_Query_sign S) = 40
    · rw [if_pos c6_1] at K hs
      refine z_lookE 144 M.1 (dflt := 358) (ps := #[(33, 138), (40, 138), (66, 220), (67, 161), (68, 304), (73, 193), (76, 193), (85, 161), (87, 220), (88, 304), (97, 250), (102, 332), (107, 220), (112, 220), (115, 220), (118, 220)]) (len := 138) c6_1 (off := 138) (by decide +kernel) (by decide) (by decide) (by decide) ?_
      refine z_go2 M.1 144 [(.aload_n 0, 1), (.iload_n 1, 1)] (146, [(1, .inl (F_Query_sign S)), (0, z_r 19)], [.inl (F_Query_sign S), z_r 19], zW T' G' S n, 0, 0) (by decide +kernel) rfl ⟨trivial, trivial, trivial⟩ ?_
      refine z_callV M.1 (av := [.inl (F_Query_sign S)]) (st := []) (a := 19) (ci := 5) (by decide +kernel) (c_Query_takes T' G' S n (F_Query_sign S) hs.1) M.2.1 zl_Query_62 zv_Query_takes rfl rfl rfl ⟨by decide, by decide, by decide, by decide⟩ rfl (Nat.le_of_ble_eq_true rfl) (fun v w' hv => ?_)
      replace hs := hs.2
      rcases hF146 : F_Query_takes S (F_Query_sign S) with ⟨r146, S146⟩
      rw [hF146] at K hv
      try dsimp only at K
      obtain ⟨rfl, rfl⟩ := hv
      show z_G X zm_Query_beginsWell (149, [(1, .inl (F_Query_sign S)), (0, z_r 19)], [.inl r146], zW T' G' S146 n, 0, 0)
      refine z_if_eq 165 M.1 (off := 16) (by decide +kernel) (by decide) (fun c149 => ?_) (fun c149 => ?_)
      · rw [if_pos c149] at K
        exact z_lvs (lv' := []) [] rfl (t_Query_beginsWell_j165 M S146 hQ K)
      · rw [if_neg c149] at K
        refine z_go2 M.1 152 [(.aload_n 0, 1), (.iload_n 1, 1), (.iconst 0, 1)] (155, [(1, .inl (F_Query_sign S)), (0, z_r 19)], [.inl 0, .inl (F_Query_sign S), z_r 19], zW T' G' S146 n, 0, 0) (by decide +kernel) rfl ⟨trivial, trivial, trivial, trivial⟩ ?_
        refine z_callV M.1 (av := [.inl (F_Query_sign S), .inl 0]) (st := []) (a := 19) (ci := 5) (by decide +kernel) (c_Query_opens T' G' S146 n (F_Query_sign S) 0) M.2.1 zl_Query_66 zv_Query_opens rfl rfl rfl ⟨by decide, by decide, by decide, by decide⟩ rfl (Nat.le_of_ble_eq_true rfl) (fun v w' hv => ?_)
        rcases hF155 : F_Query_opens S146 (F_Query_sign S) 0 with ⟨r155, S155⟩
        rw [hF155] at K hv
        try dsimp only at K
        obtain ⟨rfl, rfl⟩ := hv
        show z_G X zm_Query_beginsWell (158, [(1, .inl (F_Query_sign S)), (0, z_r 19)], [.inl r155], zW T' G' S155 n, 0, 0)
        refine z_if_eq 165 M.1 (off := 7) (by decide +kernel) (by decide) (fun c158 => ?_) (fun c158 => ?_)
        · rw [if_pos c158] at K
          exact z_lvs (lv' := []) [] rfl (t_Query_beginsWell_j165 M S155 hQ K)
        · rw [if_neg c158] at K
          refine z_go2 M.1 161 [(.iconst 1, 1), (.goto 4, 3)] (166, [(1, .inl (F_Query_sign S)), (0, z_r 19)], [.inl 1], zW T' G' S155 n, 0, 0) (by decide +kernel) rfl ⟨trivial, trivial, trivial⟩ ?_
          exact z_iret M (by decide +kernel) .boolean rfl rfl (by decide) (by decide) (hQ _ _ K)
    · rw [if_neg c6_1] at K hs
      by_cases c6_2 : (F_Query_sign S) = 66
      · rw [if_pos c6_2] at K hs
        refine z_lookE 226 M.1 (dflt := 358) (ps := #[(33, 138), (40, 138), (66, 220), (67, 161), (68, 304), (73, 193), (76, 193), (85, 161), (87, 220), (88, 304), (97, 250), (102, 332), (107, 220), (112, 220), (115, 220), (118, 220)]) (len := 138) c6_2 (off := 220) (by decide +kernel) (by decide) (by decide) (by decide) ?_
        refine z_go2 M.1 226 [(.aload_n 0, 1), (.iload_n 1, 1)] (228, [(1, .inl (F_Query_sign S)), (0, z_r 19)], [.inl (F_Query_sign S), z_r 19], zW T' G' S n, 0, 0) (by decide +kernel) rfl ⟨trivial, trivial, trivial⟩ ?_
        refine z_callV M.1 (av := [.inl (F_Query_sign S)]) (st := []) (a := 19) (ci := 5) (by decide +kernel) (c_Query_takes T' G' S n (F_Query_sign S) hs.1) M.2.1 zl_Query_62 zv_Query_takes rfl rfl rfl ⟨by decide, by decide, by decide, by decide⟩ rfl (Nat.le_of_ble_eq_true rfl) (fun v w' hv => ?_)
        replace hs := hs.2
        rcases hF228 : F_Query_takes S (F_Query_sign S) with ⟨r228, S228⟩
        rw [hF228] at K hv hs
        try dsimp only at K hs
        obtain ⟨rfl, rfl⟩ := hv
        show z_G X zm_Query_beginsWell (231, [(1, .inl (F_Query_sign S)), (0, z_r 19)], [.inl r228], zW T' G' S228 n, 0, 0)
        refine z_if_eq 254 M.1 (off := 23) (by decide +kernel) (by decide) (fun c231 => ?_) (fun c231 => ?_)
        · rw [if_pos c231] at K hs
          exact z_lvs (lv' := []) [] rfl (t_Query_beginsWell_j254 M S228 hQ K)
        · rw [if_neg c231] at K hs
          refine z_go2 M.1 234 [(.aload_n 0, 1), (.iload_n 1, 1), (.aload_n 0, 1), (.bipush 9, 2)] (239, [(1, .inl (F_Query_sign S)), (0, z_r 19)], [.inl 9, z_r 19, .inl (F_Query_sign S), z_r 19], zW T' G' S228 n, 0, 0) (by decide +kernel) rfl ⟨trivial, trivial, trivial, trivial, trivial⟩ ?_
          refine z_callV M.1 (av := [.inl 9]) (st := [.inl (F_Query_sign S), z_r 19]) (a := 19) (ci := 5) (by decide +kernel) (c_Query_digit T' G' S228 n 9 hs.1) M.2.1 zl_Query_70 zv_Query_digit rfl rfl rfl ⟨by decide, by decide, by decide, by decide⟩ rfl (Nat.le_of_ble_eq_true rfl) (fun v w' hv => ?_)
          replace hs := hs.2
          rcases hF239 : F_Query_digit S228 9 with ⟨r239, S239⟩
          rw [hF239] at K hv hs
          try dsimp only at K hs
          obtain ⟨rfl, rfl⟩ := hv
          show z_G X zm_Query_beginsWell (242, [(1, .inl (F_Query_sign S)), (0, z_r 19)], [.inl r239, .inl (F_Query_sign S), z_r 19], zW T' G' S239 n, 0, 0)
          refine z_go2 M.1 242 [(.iconst 0, 1), (.iconst 0, 1)] (244, [(1, .inl (F_Query_sign S)), (0, z_r 19)], [.inl 0, .inl 0, .inl r239, .inl (F_Query_sign S), z_r 19], zW T' G' S239 n, 0, 0) (by decide +kernel) rfl ⟨trivial, trivial, trivial⟩ ?_
          refine z_callV M.1 (av := [.inl (F_Query_sign S), .inl r239, .inl 0, .inl 0]) (st := []) (a := 19) (ci := 5) (by decide +kernel) (c_Query_ends T' G' S239 n (F_Query_sign S) r239 0 0 hs.1) M.2.1 zl_Query_77 zv_Query_ends rfl rfl rfl ⟨by decide, by decide, by decide, by decide⟩ rfl (Nat.le_of_ble_eq_true rfl) (fun v w' hv => ?_)
          replace hs := hs.2
          rcases hF244 : F_Query_ends S239 (F_Query_sign S) r239 0 0 with ⟨r244, S244⟩
          rw [hF244] at K hv
          try dsimp only at K
          obtain ⟨rfl, rfl⟩ := hv
          show z_G X zm_Query_beginsWell (247, [(1, .inl (F_Query_sign S)), (0, z_r 19)], [.inl r244], zW T' G' S244 n, 0, 0)
          refine z_if_eq 254 M.1 (off := 7) (by decide +kernel) (by decide) (fun c247 => ?_) (fun c247 => ?_)
          · rw [if_pos c247] at K
            exact z_lvs (lv' := []) [] rfl (t_Query_beginsWell_j254 M S244 hQ K)
          · rw [if_neg c247] at K
            refine z_go2 M.1 250 [(.iconst 1, 1), (.goto 4, 3)] (255, [(1, .inl (F_Query_sign S)), (0, z_r 19)], [.inl 1], zW T' G' S244 n, 0, 0) (by decide +kernel) rfl ⟨trivial, trivial, trivial⟩ ?_
            exact z_iret M (by decide +kernel) .boolean rfl rfl (by decide) (by decide) (hQ _ _ K)
      · rw [if_neg c6_2] at K hs
        by_cases c6_3 : (F_Query_sign S) = 67
        · rw [if_pos c6_3] at K hs
          refine z_lookE 167 M.1 (dflt := 358) (ps := #[(33, 138), (40, 138), (66, 220), (67, 161), (68, 304), (73, 193), (76, 193), (85, 161), (87, 220), (88, 304), (97, 250), (102, 332), (107, 220), (112, 220), (115, 220), (118, 220)]) (len := 138) c6_3 (off := 161) (by decide +kernel) (by decide) (by decide) (by decide) ?_
          refine z_go2 M.1 167 [(.aload_n 0, 1), (.iload_n 1, 1)] (169, [(1, .inl (F_Query_sign S)), (0, z_r 19)], [.inl (F_Query_sign S), z_r 19], zW T' G' S n, 0, 0) (by decide +kernel) rfl ⟨trivial, trivial, trivial⟩ ?_
          refine z_callV M.1 (av := [.inl (F_Query_sign S)]) (st := []) (a := 19) (ci := 5) (by decide +kernel) (c_Query_takes T' G' S n (F_Query_sign S) hs.1) M.2.1 zl_Query_62 zv_Query_takes rfl rfl rfl ⟨by decide, by decide, by decide, by decide⟩ rfl (Nat.le_of_ble_eq_true rfl) (fun v w' hv => ?_)
          replace hs := hs.2
          rcases hF169 : F_Query_takes S (F_Query_sign S) with ⟨r169, S169⟩
          rw [hF169] at K hv hs
          try dsimp only at K hs
          obtain ⟨rfl, rfl⟩ := hv
          show z_G X zm_Query_beginsWell (172, [(1, .inl (F_Query_sign S)), (0, z_r 19)], [.inl r169], zW T' G' S169 n, 0, 0)
          refine z_if_eq 197 M.1 (off := 25) (by decide +kernel) (by decide) (fun c172 => ?_) (fun c172 => ?_)
          · rw [if_pos c172] at K hs
            exact z_lvs (lv' := []) [] rfl (t_Query_beginsWell_j197 M S169 hQ K)
          · rw [if_neg c172] at K hs
            refine z_go2 M.1 175 [(.aload_n 0, 1), (.bipush 91, 2)] (178, [(1, .inl (F_Query_sign S)), (0, z_r 19)], [.inl 91, z_r 19], zW T' G' S169 n, 0, 0) (by decide +kernel) rfl ⟨trivial, trivial, trivial⟩ ?_
            refine z_callV M.1 (av := [.inl 91]) (st := []) (a := 19) (ci := 5) (by decide +kernel) (c_Query_takes T' G' S169 n 91 hs.1) M.2.1 zl_Query_62 zv_Query_takes rfl rfl rfl ⟨by decide, by decide, by decide, by decide⟩ rfl (Nat.le_of_ble_eq_true rfl) (fun v w' hv => ?_)
            replace hs := hs.2
            rcases hF178 : F_Query_takes S169 91 with ⟨r178, S178⟩
            rw [hF178] at K hv
            try dsimp only at K
            obtain ⟨rfl, rfl⟩ := hv
            show z_G X zm_Query_beginsWell (181, [(1, .inl (F_Query_sign S)), (0, z_r 19)], [.inl r178], zW T' G' S178 n, 0, 0)
            refine z_if_eq 197 M.1 (off := 16) (by decide +kernel) (by decide) (fun c181 => ?_) (fun c181 => ?_)
            · rw [if_pos c181] at K
              exact z_lvs (lv' := []) [] rfl (t_Query_beginsWell_j197 M S178 hQ K)
            · rw [if_neg c181] at K
              refine z_go2 M.1 184 [(.aload_n 0, 1), (.iload_n 1, 1), (.iconst 0, 1)] (187, [(1, .inl (F_Query_sign S)), (0, z_r 19)], [.inl 0, .inl (F_Query_sign S), z_r 19], zW T' G' S178 n, 0, 0) (by decide +kernel) rfl ⟨trivial, trivial, trivial, trivial⟩ ?_
              refine z_callV M.1 (av := [.inl (F_Query_sign S), .inl 0]) (st := []) (a := 19) (ci := 5) (by decide +kernel) (c_Query_opens T' G' S178 n (F_Query_sign S) 0) M.2.1 zl_Query_66 zv_Query_opens rfl rfl rfl ⟨by decide, by decide, by decide, by decide⟩ rfl (Nat.le_of_ble_eq_true rfl) (fun v w' hv => ?_)
              rcases hF187 : F_Query_opens S178 (F_Query_sign S) 0 with ⟨r187, S187⟩
              rw [hF187] at K hv
              try dsimp only at K
              obtain ⟨rfl, rfl⟩ := hv
              show z_G X zm_Query_beginsWell (190, [(1, .inl (F_Query_sign S)), (0, z_r 19)], [.inl r187], zW T' G' S187 n, 0, 0)
              refine z_if_eq 197 M.1 (off := 7) (by decide +kernel) (by decide) (fun c190 => ?_) (fun c190 => ?_)
              · rw [if_pos c190] at K
                exact z_lvs (lv' := []) [] rfl (t_Query_beginsWell_j197 M S187 hQ K)
              · rw [if_neg c190] at K
                refine z_go2 M.1 193 [(.iconst 1, 1), (.goto 4, 3)] (198, [(1, .inl (F_Query_sign S)), (0, z_r 19)], [.inl 1], zW T' G' S187 n, 0, 0) (by decide +kernel) rfl ⟨trivial, trivial, trivial⟩ ?_
                exact z_iret M (by decide +kernel) .boolean rfl rfl (by decide) (by decide) (hQ _ _ K)
        · rw [if_neg c6_3] at K hs
          by_cases c6_4 : (F_Query_sign S) = 68
          · rw [if_pos c6_4] at K hs
            refine z_lookE 310 M.1 (dflt := 358) (ps := #[(33, 138), (40, 138), (66, 220), (67, 161), (68, 304), (73, 193), (76, 193), (85, 161), (87, 220), (88, 304), (97, 250), (102, 332), (107, 220), (112, 220), (115, 220), (118, 220)]) (len := 138) c6_4 (off := 304) (by decide +kernel) (by decide) (by decide) (by decide) ?_
            refine z_go2 M.1 310 [(.aload_n 0, 1), (.iload_n 1, 1)] (312, [(1, .inl (F_Query_sign S)), (0, z_r 19)], [.inl (F_Query_sign S), z_r 19], zW T' G' S n, 0, 0) (by decide +kernel) rfl ⟨trivial, trivial, trivial⟩ ?_
            refine z_callV M.1 (av := [.inl (F_Query_sign S)]) (st := []) (a := 19) (ci := 5) (by decide +kernel) (c_Query_takes T' G' S n (F_Query_sign S) hs.1) M.2.1 zl_Query_62 zv_Query_takes rfl rfl rfl ⟨by decide, by decide, by decide, by decide⟩ rfl (Nat.le_of_ble_eq_true rfl) (fun v w' hv => ?_)
            replace hs := hs.2
            rcases hF312 : F_Query_takes S (F_Query_sign S) with ⟨r312, S312⟩
            rw [hF312] at K hv hs
            try dsimp only at K hs
            obtain ⟨rfl, rfl⟩ := hv
            show z_G X zm_Query_beginsWell (315, [(1, .inl (F_Query_sign S)), (0, z_r 19)], [.inl r312], zW T' G' S312 n, 0, 0)
            refine z_if_eq 336 M.1 (off := 21) (by decide +kernel) (by decide) (fun c315 => ?_) (fun c315 => ?_)
            · rw [if_pos c315] at K hs
              exact z_lvs (lv' := []) [] rfl (t_Query_beginsWell_j336 M S312 hQ K)
            · rw [if_neg c315] at K hs
              refine z_go2 M.1 318 [(.aload_n 0, 1), (.iload_n 1, 1), (.aload_n 0, 1), (.bipush 9, 2)] (323, [(1, .inl (F_Query_sign S)), (0, z_r 19)], [.inl 9, z_r 19, .inl (F_Query_sign S), z_r 19], zW T' G' S312 n, 0, 0) (by decide +kernel) rfl ⟨trivial, trivial, trivial, trivial, trivial⟩ ?_
              refine z_callV M.1 (av := [.inl 9]) (st := [.inl (F_Query_sign S), z_r 19]) (a := 19) (ci := 5) (by decide +kernel) (c_Query_digit T' G' S312 n 9 hs.1) M.2.1 zl_Query_70 zv_Query_digit rfl rfl rfl ⟨by decide, by decide, by decide, by decide⟩ rfl (Nat.le_of_ble_eq_true rfl) (fun v w' hv => ?_)
              replace hs := hs.2
              rcases hF323 : F_Query_digit S312 9 with ⟨r323, S323⟩
              rw [hF323] at K hv hs
              try dsimp only at K hs
              obtain ⟨rfl, rfl⟩ := hv
              show z_G X zm_Query_beginsWell (326, [(1, .inl (F_Query_sign S)), (0, z_r 19)], [.inl r323, .inl (F_Query_sign S), z_r 19], zW T' G' S323 n, 0, 0)
              refine z_callV M.1 (av := [.inl (F_Query_sign S), .inl r323]) (st := []) (a := 19) (ci := 5) (by decide +kernel) (c_Query_endsWithTwo T' G' S323 n (F_Query_sign S) r323 hs.1) M.2.1 zl_Query_81 zv_Query_endsWithTwo rfl rfl rfl ⟨by decide, by decide, by decide, by decide⟩ rfl (Nat.le_of_ble_eq_true rfl) (fun v w' hv => ?_)
              replace hs := hs.2
              rcases hF326 : F_Query_endsWithTwo S323 (F_Query_sign S) r323 with ⟨r326, S326⟩
              rw [hF326] at K hv
              try dsimp only at K
              obtain ⟨rfl, rfl⟩ := hv
              show z_G X zm_Query_beginsWell (329, [(1, .inl (F_Query_sign S)), (0, z_r 19)], [.inl r326], zW T' G' S326 n, 0, 0)
              refine z_if_eq 336 M.1 (off := 7) (by decide +kernel) (by decide) (fun c329 => ?_) (fun c329 => ?_)
              · rw [if_pos c329] at K
                exact z_lvs (lv' := []) [] rfl (t_Query_beginsWell_j336 M S326 hQ K)
              · rw [if_neg c329] at K
                refine z_go2 M.1 332 [(.iconst 1, 1), (.goto 4, 3)] (337, [(1, .inl (F_Query_sign S)), (0, z_r 19)], [.inl 1], zW T' G' S326 n, 0, 0) (by decide +kernel) rfl ⟨trivial, trivial, trivial⟩ ?_
                exact z_iret M (by decide +kernel) .boolean rfl rfl (by decide) (by decide) (hQ _ _ K)
          · rw [if_neg c6_4] at K hs
            by_cases c6_5 : (F_Query_sign S) = 73
            · rw [if_pos c6_5] at K hs
              refine z_lookE 199 M.1 (dflt := 358) (ps := #[(33, 138), (40, 138), (66, 220), (67, 161), (68, 304), (73, 193), (76, 193), (85, 161), (87, 220), (88, 304), (97, 250), (102, 332), (107, 220), (112, 220), (115, 220), (118, 220)]) (len := 138) c6_5 (off := 193) (by decide +kernel) (by decide) (by decide) (by decide) ?_
              refine z_go2 M.1 199 [(.aload_n 0, 1), (.iload_n 1, 1)] (201, [(1, .inl (F_Query_sign S)), (0, z_r 19)], [.inl (F_Query_sign S), z_r 19], zW T' G' S n, 0, 0) (by decide +kernel) rfl ⟨trivial, trivial, trivial⟩ ?_
              refine z_callV M.1 (av := [.inl (F_Query_sign S)]) (st := []) (a := 19) (ci := 5) (by decide +kernel) (c_Query_takes T' G' S n (F_Query_sign S) hs.1) M.2.1 zl_Query_62 zv_Query_takes rfl rfl rfl ⟨by decide, by decide, by decide, by decide⟩ rfl (Nat.le_of_ble_eq_true rfl) (fun v w' hv => ?_)
              replace hs := hs.2
              rcases hF201 : F_Query_takes S (F_Query_sign S) with ⟨r201, S201⟩
              rw [hF201] at K hv hs
              try dsimp only at K hs
              obtain ⟨rfl, rfl⟩ := hv
              show z_G X zm_Query_beginsWell (204, [(1, .inl (F_Query_sign S)), (0, z_r 19)], [.inl r201], zW T' G' S201 n, 0, 0)
              refine z_if_eq 224 M.1 (off := 20) (by decide +kernel) (by decide) (fun c204 => ?_) (fun c204 => ?_)
              · rw [if_pos c204] at K hs
                exact z_lvs (lv' := []) [] rfl (t_Query_beginsWell_j224 M S201 hQ K)
              · rw [if_neg c204] at K hs
                refine z_go2 M.1 207 [(.aload_n 0, 1), (.iload_n 1, 1), (.aload_n 0, 1), (.iconst 2, 1)] (211, [(1, .inl (F_Query_sign S)), (0, z_r 19)], [.inl 2, z_r 19, .inl (F_Query_sign S), z_r 19], zW T' G' S201 n, 0, 0) (by decide +kernel) rfl ⟨trivial, trivial, trivial, trivial, trivial⟩ ?_
                refine z_callV M.1 (av := [.inl 2]) (st := [.inl (F_Query_sign S), z_r 19]) (a := 19) (ci := 5) (by decide +kernel) (c_Query_digit T' G' S201 n 2 hs.1) M.2.1 zl_Query_70 zv_Query_digit rfl rfl rfl ⟨by decide, by decide, by decide, by decide⟩ rfl (Nat.le_of_ble_eq_true rfl) (fun v w' hv => ?_)
                replace hs := hs.2
                rcases hF211 : F_Query_digit S201 2 with ⟨r211, S211⟩
                rw [hF211] at K hv hs
                try dsimp only at K hs
                obtain ⟨rfl, rfl⟩ := hv
                show z_G X zm_Query_beginsWell (214, [(1, .inl (F_Query_sign S)), (0, z_r 19)], [.inl r211, .inl (F_Query_sign S), z_r 19], zW T' G' S211 n, 0, 0)
                refine z_callV M.1 (av := [.inl (F_Query_sign S), .inl r211]) (st := []) (a := 19) (ci := 5) (by decide +kernel) (c_Query_opensTyped T' G' S211 n (F_Query_sign S) r211 hs.1) M.2.1 zl_Query_74 zv_Query_opensTyped rfl rfl rfl ⟨by decide, by decide, by decide, by decide⟩ rfl (Nat.le_of_ble_eq_true rfl) (fun v w' hv => ?_)
                replace hs := hs.2
                rcases hF214 : F_Query_opensTyped S211 (F_Query_sign S) r211 with ⟨r214, S214⟩
                rw [hF214] at K hv
                try dsimp only at K
                obtain ⟨rfl, rfl⟩ := hv
                show z_G X zm_Query_beginsWell (217, [(1, .inl (F_Query_sign S)), (0, z_r 19)], [.inl r214], zW T' G' S214 n, 0, 0)
                refine z_if_eq 224 M.1 (off := 7) (by decide +kernel) (by decide) (fun c217 => ?_) (fun c217 => ?_)
                · rw [if_pos c217] at K
                  exact z_lvs (lv' := []) [] rfl (t_Query_beginsWell_j224 M S214 hQ K)
                · rw [if_neg c217] at K
                  refine z_go2 M.1 220 [(.iconst 1, 1), (.goto 4, 3)] (225, [(1, .inl (F_Query_sign S)), (0, z_r 19)], [.inl 1], zW T' G' S214 n, 0, 0) (by decide +kernel) rfl ⟨trivial, trivial, trivial⟩ ?_
                  exact z_iret M (by decide +kernel) .boolean rfl rfl (by decide) (by decide) (hQ _ _ K)
            · rw [if_neg c6_5] at K hs
              by_cases c6_6 : (F_Query_sign S) = 76
              · rw [if_pos c6_6] at K hs
                refine z_lookE 199 M.1 (dflt := 358) (ps := #[(33, 138), (40, 138), (66, 220), (67, 161), (68, 304), (73, 193), (76, 193), (85, 161), (87, 220), (88, 304), (97, 250), (102, 332), (107, 220), (112, 220), (115, 220), (118, 220)]) (len := 138) c6_6 (off := 193) (by decide +kernel) (by decide) (by decide) (by decide) ?_
                refine z_go2 M.1 199 [(.aload_n 0, 1), (.iload_n 1, 1)] (201, [(1, .inl (F_Query_sign S)), (0, z_r 19)], [.inl (F_Query_sign S), z_r 19], zW T' G' S n, 0, 0) (by decide +kernel) rfl ⟨trivial, trivial, trivial⟩ ?_
                refine z_callV M.1 (av := [.inl (F_Query_sign S)]) (st := []) (a := 19) (ci := 5) (by decide +kernel) (c_Query_takes T' G' S n (F_Query_sign S) hs.1) M.2.1 zl_Query_62 zv_Query_takes rfl rfl rfl ⟨by decide, by decide, by decide, by decide⟩ rfl (Nat.le_of_ble_eq_true rfl) (fun v w' hv => ?_)
                replace hs := hs.2
                rcases hF201 : F_Query_takes S (F_Query_sign S) with ⟨r201, S201⟩
                rw [hF201] at K hv hs
                try dsimp only at K hs
                obtain ⟨rfl, rfl⟩ := hv
                show z_G X zm_Query_beginsWell (204, [(1, .inl (F_Query_sign S)), (0, z_r 19)], [.inl r201], zW T' G' S201 n, 0, 0)
                refine z_if_eq 224 M.1 (off := 20) (by decide +kernel) (by decide) (fun c204 => ?_) (fun c204 => ?_)
                · rw [if_pos c204] at K hs
                  exact z_lvs (lv' := []) [] rfl (t_Query_beginsWell_j224 M S201 hQ K)
                · rw [if_neg c204] at K hs
                  refine z_go2 M.1 207 [(.aload_n 0, 1), (.iload_n 1, 1), (.aload_n 0, 1), (.iconst 2, 1)] (211, [(1, .inl (F_Query_sign S)), (0, z_r 19)], [.inl 2, z_r 19, .inl (F_Query_sign S), z_r 19], zW T' G' S201 n, 0, 0) (by decide +kernel) rfl ⟨trivial, trivial, trivial, trivial, trivial⟩ ?_
                  refine z_callV M.1 (av := [.inl 2]) (st := [.inl (F_Query_sign S), z_r 19]) (a := 19) (ci := 5) (by decide +kernel) (c_Query_digit T' G' S201 n 2 hs.1) M.2.1 zl_Query_70 zv_Query_digit rfl rfl rfl ⟨by decide, by decide, by decide, by decide⟩ rfl (Nat.le_of_ble_eq_true rfl) (fun v w' hv => ?_)
                  replace hs := hs.2
                  rcases hF211 : F_Query_digit S201 2 with ⟨r211, S211⟩
                  rw [hF211] at K hv hs
                  try dsimp only at K hs
                  obtain ⟨rfl, rfl⟩ := hv
                  show z_G X zm_Query_beginsWell (214, [(1, .inl (F_Query_sign S)), (0, z_r 19)], [.inl r211, .inl (F_Query_sign S), z_r 19], zW T' G' S211 n, 0, 0)
                  refine z_callV M.1 (av := [.inl (F_Query_sign S), .inl r211]) (st := []) (a := 19) (ci := 5) (by decide +kernel) (c_Query_opensTyped T' G' S211 n (F_Query_sign S) r211 hs.1) M.2.1 zl_Query_74 zv_Query_opensTyped rfl rfl rfl ⟨by decide, by decide, by decide, by decide⟩ rfl (Nat.le_of_ble_eq_true rfl) (fun v w' hv => ?_)
                  replace hs := hs.2
                  rcases hF214 : F_Query_opensTyped S211 (F_Query_sign S) r211 with ⟨r214, S214⟩
                  rw [hF214] at K hv
                  try dsimp only at K
                  obtain ⟨rfl, rfl⟩ := hv
                  show z_G X zm_Query_beginsWell (217, [(1, .inl (F_Query_sign S)), (0, z_r 19)], [.inl r214], zW T' G' S214 n, 0, 0)
                  refine z_if_eq 224 M.1 (off := 7) (by decide +kernel) (by decide) (fun c217 => ?_) (fun c217 => ?_)
                  · rw [if_pos c217] at K
                    exact z_lvs (lv' := []) [] rfl (t_Query_beginsWell_j224 M S214 hQ K)
                  · rw [if_neg c217] at K
                    refine z_go2 M.1 220 [(.iconst 1, 1), (.goto 4, 3)] (225, [(1, .inl (F_Query_sign S)), (0, z_r 19)], [.inl 1], zW T' G' S214 n, 0, 0) (by decide +kernel) rfl ⟨trivial, trivial, trivial⟩ ?_
                    exact z_iret M (by decide +kernel) .boolean rfl rfl (by decide) (by decide) (hQ _ _ K)
              · rw [if_neg c6_6] at K hs
                by_cases c6_7 : (F_Query_sign S) = 85
                · rw [if_pos c6_7] at K hs
                  refine z_lookE 167 M.1 (dflt := 358) (ps := #[(33, 138), (40, 138), (66, 220), (67, 161), (68, 304), (73, 193), (76, 193), (85, 161), (87, 220), (88, 304), (97, 250), (102, 332), (107, 220), (112, 220), (115, 220), (118, 220)]) (len := 138) c6_7 (off := 161) (by decide +kernel) (by decide) (by decide) (by decide) ?_
                  refine z_go2 M.1 167 [(.aload_n 0, 1), (.iload_n 1, 1)] (169, [(1, .inl (F_Query_sign S)), (0, z_r 19)], [.inl (F_Query_sign S), z_r 19], zW T' G' S n, 0, 0) (by decide +kernel) rfl ⟨trivial, trivial, trivial⟩ ?_
                  refine z_callV M.1 (av := [.inl (F_Query_sign S)]) (st := []) (a := 19) (ci := 5) (by decide +kernel) (c_Query_takes T' G' S n (F_Query_sign S) hs.1) M.2.1 zl_Query_62 zv_Query_takes rfl rfl rfl ⟨by decide, by decide, by decide, by decide⟩ rfl (Nat.le_of_ble_eq_true rfl) (fun v w' hv => ?_)
                  replace hs := hs.2
                  rcases hF169 : F_Query_takes S (F_Query_sign S) with ⟨r169, S169⟩
                  rw [hF169] at K hv hs
                  try dsimp only at K hs
                  obtain ⟨rfl, rfl⟩ := hv
                  show z_G X zm_Query_beginsWell (172, [(1, .inl (F_Query_sign S)), (0, z_r 19)], [.inl r169], zW T' G' S169 n, 0, 0)
                  refine z_if_eq 197 M.1 (off := 25) (by decide +kernel) (by decide) (fun c172 => ?_) (fun c172 => ?_)
                  · rw [if_pos c172] at K hs
                    exact z_lvs (lv' := []) [] rfl (t_Query_beginsWell_j197 M S169 hQ K)
                  · rw [if_neg c172] at K hs
                    refine z_go2 M.1 175 [(.aload_n 0, 1), (.bipush 91, 2)] (178, [(1, .inl (F_Query_sign S)), (0, z_r 19)], [.inl 91, z_r 19], zW T' G' S169 n, 0, 0) (by decide +kernel) rfl ⟨trivial, trivial, trivial⟩ ?_
                    refine z_callV M.1 (av := [.inl 91]) (st := []) (a := 19) (ci := 5) (by decide +kernel) (c_Query_takes T' G' S169 n 91 hs.1) M.2.1 zl_Query_62 zv_Query_takes rfl rfl rfl ⟨by decide, by decide, by decide, by decide⟩ rfl (Nat.le_of_ble_eq_true rfl) (fun v w' hv => ?_)
                    replace hs := hs.2
                    rcases hF178 : F_Query_takes S169 91 with ⟨r178, S178⟩
                    rw [hF178] at K hv
                    try dsimp only at K
                    obtain ⟨rfl, rfl⟩ := hv
                    show z_G X zm_Query_beginsWell (181, [(1, .inl (F_Query_sign S)), (0, z_r 19)], [.inl r178], zW T' G' S178 n, 0, 0)
                    refine z_if_eq 197 M.1 (off := 16) (by decide +kernel) (by decide) (fun c181 => ?_) (fun c181 => ?_)
                    · rw [if_pos c181] at K
                      exact z_lvs (lv' := []) [] rfl (t_Query_beginsWell_j197 M S178 hQ K)
                    · rw [if_neg c181] at K
                      refine z_go2 M.1 184 [(.aload_n 0, 1), (.iload_n 1, 1), (.iconst 0, 1)] (187, [(1, .inl (F_Query_sign S)), (0, z_r 19)], [.inl 0, .inl (F_Query_sign S), z_r 19], zW T' G' S178 n, 0, 0) (by decide +kernel) rfl ⟨trivial, trivial, trivial, trivial⟩ ?_
                      refine z_callV M.1 (av := [.inl (F_Query_sign S), .inl 0]) (st := []) (a := 19) (ci := 5) (by decide +kernel) (c_Query_opens T' G' S178 n (F_Query_sign S) 0) M.2.1 zl_Query_66 zv_Query_opens rfl rfl rfl ⟨by decide, by decide, by decide, by decide⟩ rfl (Nat.le_of_ble_eq_true rfl) (fun v w' hv => ?_)
                      rcases hF187 : F_Query_opens S178 (F_Query_sign S) 0 with ⟨r187, S187⟩
                      rw [hF187] at K hv
                      try dsimp only at K
                      obtain ⟨rfl, rfl⟩ := hv
                      show z_G X zm_Query_beginsWell (190, [(1, .inl (F_Query_sign S)), (0, z_r 19)], [.inl r187], zW T' G' S187 n, 0, 0)
                      refine z_if_eq 197 M.1 (off := 7) (by decide +kernel) (by decide) (fun c190 => ?_) (fun c190 => ?_)
                      · rw [if_pos c190] at K
                        exact z_lvs (lv' := []) [] rfl (t_Query_beginsWell_j197 M S187 hQ K)
                      · rw [if_neg c190] at K
                        refine z_go2 M.1 193 [(.iconst 1, 1), (.goto 4, 3)] (198, [(1, .inl (F_Query_sign S)), (0, z_r 19)], [.inl 1], zW T' G' S187 n, 0, 0) (by decide +kernel) rfl ⟨trivial, trivial, trivial⟩ ?_
                        exact z_iret M (by decide +kernel) .boolean rfl rfl (by decide) (by decide) (hQ _ _ K)
                · rw [if_neg c6_7] at K hs
                  by_cases c6_8 : (F_Query_sign S) = 87
                  · rw [if_pos c6_8] at K hs
                    refine z_lookE 226 M.1 (dflt := 358) (ps := #[(33, 138), (40, 138), (66, 220), (67, 161), (68, 304), (73, 193), (76, 193), (85, 161), (87, 220), (88, 304), (97, 250), (102, 332), (107, 220), (112, 220), (115, 220), (118, 220)]) (len := 138) c6_8 (off := 220) (by decide +kernel) (by decide) (by decide) (by decide) ?_
                    refine z_go2 M.1 226 [(.aload_n 0, 1), (.iload_n 1, 1)] (228, [(1, .inl (F_Query_sign S)), (0, z_r 19)], [.inl (F_Query_sign S), z_r 19], zW T' G' S n, 0, 0) (by decide +kernel) rfl ⟨trivial, trivial, trivial⟩ ?_
                    refine z_callV M.1 (av := [.inl (F_Query_sign S)]) (st := []) (a := 19) (ci := 5) (by decide +kernel) (c_Query_takes T' G' S n (F_Query_sign S) hs.1) M.2.1 zl_Query_62 zv_Query_takes rfl rfl rfl ⟨by decide, by decide, by decide, by decide⟩ rfl (Nat.le_of_ble_eq_true rfl) (fun v w' hv => ?_)
                    replace hs := hs.2
                    rcases hF228 : F_Query_takes S (F_Query_sign S) with ⟨r228, S228⟩
                    rw [hF228] at K hv hs
                    try dsimp only at K hs
                    obtain ⟨rfl, rfl⟩ := hv
                    show z_G X zm_Query_beginsWell (231, [(1, .inl (F_Query_sign S)), (0, z_r 19)], [.inl r228], zW T' G' S228 n, 0, 0)
                    refine z_if_eq 254 M.1 (off := 23) (by decide +kernel) (by decide) (fun c231 => ?_) (fun c231 => ?_)
                    · rw [if_pos c231] at K hs
                      exact z_lvs (lv' := []) [] rfl (t_Query_beginsWell_j254 M S228 hQ K)
                    · rw [if_neg c231] at K hs
                      refine z_go2 M.1 234 [(.aload_n 0, 1), (.iload_n 1, 1), (.aload_n 0, 1), (.bipush 9, 2)] (239, [(1, .inl (F_Query_sign S)), (0, z_r 19)], [.inl 9, z_r 19, .inl (F_Query_sign S), z_r 19], zW T' G' S228 n, 0, 0) (by decide +kernel) rfl ⟨trivial, trivial, trivial, trivial, trivial⟩ ?_
                      refine z_callV M.1 (av := [.inl 9]) (st := [.inl (F_Query_sign S), z_r 19]) (a := 19) (ci := 5) (by decide +kernel) (c_Query_digit T' G' S228 n 9 hs.1) M.2.1 zl_Query_70 zv_Query_digit rfl rfl rfl ⟨by decide, by decide, by decide, by decide⟩ rfl (Nat.le_of_ble_eq_true rfl) (fun v w' hv => ?_)
                      replace hs := hs.2
                      rcases hF239 : F_Query_digit S228 9 with ⟨r239, S239⟩
                      rw [hF239] at K hv hs
                      try dsimp only at K hs
                      obtain ⟨rfl, rfl⟩ := hv
                      show z_G X zm_Query_beginsWell (242, [(1, .inl (F_Query_sign S)), (0, z_r 19)], [.inl r239, .inl (F_Query_sign S), z_r 19], zW T' G' S239 n, 0, 0)
                      refine z_go2 M.1 242 [(.iconst 0, 1), (.iconst 0, 1)] (244, [(1, .inl (F_Query_sign S)), (0, z_r 19)], [.inl 0, .inl 0, .inl r239, .inl (F_Query_sign S), z_r 19], zW T' G' S239 n, 0, 0) (by decide +kernel) rfl ⟨trivial, trivial, trivial⟩ ?_
                      refine z_callV M.1 (av := [.inl (F_Query_sign S), .inl r239, .inl 0, .inl 0]) (st := []) (a := 19) (ci := 5) (by decide +kernel) (c_Query_ends T' G' S239 n (F_Query_sign S) r239 0 0 hs.1) M.2.1 zl_Query_77 zv_Query_ends rfl rfl rfl ⟨by decide, by decide, by decide, by decide⟩ rfl (Nat.le_of_ble_eq_true rfl) (fun v w' hv => ?_)
                      replace hs := hs.2
                      rcases hF244 : F_Query_ends S239 (F_Query_sign S) r239 0 0 with ⟨r244, S244⟩
                      rw [hF244] at K hv
                      try dsimp only at K
                      obtain ⟨rfl, rfl⟩ := hv
                      show z_G X zm_Query_beginsWell (247, [(1, .inl (F_Query_sign S)), (0, z_r 19)], [.inl r244], zW T' G' S244 n, 0, 0)
                      refine z_if_eq 254 M.1 (off := 7) (by decide +kernel) (by decide) (fun c247 => ?_) (fun c247 => ?_)
                      · rw [if_pos c247] at K
                        exact z_lvs (lv' := []) [] rfl (t_Query_beginsWell_j254 M S244 hQ K)
                      · rw [if_neg c247] at K
                        refine z_go2 M.1 250 [(.iconst 1, 1), (.goto 4, 3)] (255, [(1, .inl (F_Query_sign S)), (0, z_r 19)], [.inl 1], zW T' G' S244 n, 0, 0) (by decide +kernel) rfl ⟨trivial, trivial, trivial⟩ ?_
                        exact z_iret M (by decide +kernel) .boolean rfl rfl (by decide) (by decide) (hQ _ _ K)
                  · rw [if_neg c6_8] at K hs
                    by_cases c6_9 : (F_Query_sign S) = 88
                    · rw [if_pos c6_9] at K hs
                      refine z_lookE 310 M.1 (dflt := 358) (ps := #[(33, 138), (40, 138), (66, 220), (67, 161), (68, 304), (73, 193), (76, 193), (85, 161), (87, 220), (88, 304), (97, 250), (102, 332), (107, 220), (112, 220), (115, 220), (118, 220)]) (len := 138) c6_9 (off := 304) (by decide +kernel) (by decide) (by decide) (by decide) ?_
                      refine z_go2 M.1 310 [(.aload_n 0, 1), (.iload_n 1, 1)] (312, [(1, .inl (F_Query_sign S)), (0, z_r 19)], [.inl (F_Query_sign S), z_r 19], zW T' G' S n, 0, 0) (by decide +kernel) rfl ⟨trivial, trivial, trivial⟩ ?_
                      refine z_callV M.1 (av := [.inl (F_Query_sign S)]) (st := []) (a := 19) (ci := 5) (by decide +kernel) (c_Query_takes T' G' S n (F_Query_sign S) hs.1) M.2.1 zl_Query_62 zv_Query_takes rfl rfl rfl ⟨by decide, by decide, by decide, by decide⟩ rfl (Nat.le_of_ble_eq_true rfl) (fun v w' hv => ?_)
                      replace hs := hs.2
                      rcases hF312 : F_Query_takes S (F_Query_sign S) with ⟨r312, S312⟩
                      rw [hF312] at K hv hs
                      try dsimp only at K hs
                      obtain ⟨rfl, rfl⟩ := hv
                      show z_G X zm_Query_beginsWell (315, [(1, .inl (F_Query_sign S)), (0, z_r 19)], [.inl r312], zW T' G' S312 n, 0, 0)
                      refine z_if_eq 336 M.1 (off := 21) (by decide +kernel) (by decide) (fun c315 => ?_) (fun c315 => ?_)
                      · rw [if_pos c315] at K hs
                        exact z_lvs (lv' := []) [] rfl (t_Query_beginsWell_j336 M S312 hQ K)
                      · rw [if_neg c315] at K hs
                        refine z_go2 M.1 318 [(.aload_n 0, 1), (.iload_n 1, 1), (.aload_n 0, 1), (.bipush 9, 2)] (323, [(1, .inl (F_Query_sign S)), (0, z_r 19)], [.inl 9, z_r 19, .inl (F_Query_sign S), z_r 19], zW T' G' S312 n, 0, 0) (by decide +kernel) rfl ⟨trivial, trivial, trivial, trivial, trivial⟩ ?_
                        refine z_callV M.1 (av := [.inl 9]) (st := [.inl (F_Query_sign S), z_r 19]) (a := 19) (ci := 5) (by decide +kernel) (c_Query_digit T' G' S312 n 9 hs.1) M.2.1 zl_Query_70 zv_Query_digit rfl rfl rfl ⟨by decide, by decide, by decide, by decide⟩ rfl (Nat.le_of_ble_eq_true rfl) (fun v w' hv => ?_)
                        replace hs := hs.2
                        rcases hF323 : F_Query_digit S312 9 with ⟨r323, S323⟩
                        rw [hF323] at K hv hs
                        try dsimp only at K hs
                        obtain ⟨rfl, rfl⟩ := hv
                        show z_G X zm_Query_beginsWell (326, [(1, .inl (F_Query_sign S)), (0, z_r 19)], [.inl r323, .inl (F_Query_sign S), z_r 19], zW T' G' S323 n, 0, 0)
                        refine z_callV M.1 (av := [.inl (F_Query_sign S), .inl r323]) (st := []) (a := 19) (ci := 5) (by decide +kernel) (c_Query_endsWithTwo T' G' S323 n (F_Query_sign S) r323 hs.1) M.2.1 zl_Query_81 zv_Query_endsWithTwo rfl rfl rfl ⟨by decide, by decide, by decide, by decide⟩ rfl (Nat.le_of_ble_eq_true rfl) (fun v w' hv => ?_)
                        replace hs := hs.2
                        rcases hF326 : F_Query_endsWithTwo S323 (F_Query_sign S) r323 with ⟨r326, S326⟩
                        rw [hF326] at K hv
                        try dsimp only at K
                        obtain ⟨rfl, rfl⟩ := hv
                        show z_G X zm_Query_beginsWell (329, [(1, .inl (F_Query_sign S)), (0, z_r 19)], [.inl r326], zW T' G' S326 n, 0, 0)
                        refine z_if_eq 336 M.1 (off := 7) (by decide +kernel) (by decide) (fun c329 => ?_) (fun c329 => ?_)
                        · rw [if_pos c329] at K
                          exact z_lvs (lv' := []) [] rfl (t_Query_beginsWell_j336 M S326 hQ K)
                        · rw [if_neg c329] at K
                          refine z_go2 M.1 332 [(.iconst 1, 1), (.goto 4, 3)] (337, [(1, .inl (F_Query_sign S)), (0, z_r 19)], [.inl 1], zW T' G' S326 n, 0, 0) (by decide +kernel) rfl ⟨trivial, trivial, trivial⟩ ?_
                          exact z_iret M (by decide +kernel) .boolean rfl rfl (by decide) (by decide) (hQ _ _ K)
                    · rw [if_neg c6_9] at K hs
                      by_cases c6_10 : (F_Query_sign S) = 97
                      · rw [if_pos c6_10] at K hs
                        refine z_lookE 256 M.1 (dflt := 358) (ps := #[(33, 138), (40, 138), (66, 220), (67, 161), (68, 304), (73, 193), (76, 193), (85, 161), (87, 220), (88, 304), (97, 250), (102, 332), (107, 220), (112, 220), (115, 220), (118, 220)]) (len := 138) c6_10 (off := 250) (by decide +kernel) (by decide) (by decide) (by decide) ?_
                        refine z_go2 M.1 256 [(.aload_n 0, 1), (.iload_n 1, 1)] (258, [(1, .inl (F_Query_sign S)), (0, z_r 19)], [.inl (F_Query_sign S), z_r 19], zW T' G' S n, 0, 0) (by decide +kernel) rfl ⟨trivial, trivial, trivial⟩ ?_
                        refine z_callV M.1 (av := [.inl (F_Query_sign S)]) (st := []) (a := 19) (ci := 5) (by decide +kernel) (c_Query_takes T' G' S n (F_Query_sign S) hs.1) M.2.1 zl_Query_62 zv_Query_takes rfl rfl rfl ⟨by decide, by decide, by decide, by decide⟩ rfl (Nat.le_of_ble_eq_true rfl) (fun v w' hv => ?_)
                        replace hs := hs.2
                        rcases hF258 : F_Query_takes S (F_Query_sign S) with ⟨r258, S258⟩
                        rw [hF258] at K hv hs
                        try dsimp only at K hs
                        obtain ⟨rfl, rfl⟩ := hv
                        show z_G X zm_Query_beginsWell (261, [(1, .inl (F_Query_sign S)), (0, z_r 19)], [.inl r258], zW T' G' S258 n, 0, 0)
                        refine z_if_eq 308 M.1 (off := 47) (by decide +kernel) (by decide) (fun c261 => ?_) (fun c261 => ?_)
                        · rw [if_pos c261] at K hs
                          exact z_lvs (lv' := []) [] rfl (t_Query_beginsWell_j308 M S258 hQ K)
                        · rw [if_neg c261] at K hs
                          refine z_go2 M.1 264 [(.aload_n 0, 1), (.bipush 120, 2)] (267, [(1, .inl (F_Query_sign S)), (0, z_r 19)], [.inl 120, z_r 19], zW T' G' S258 n, 0, 0) (by decide +kernel) rfl ⟨trivial, trivial, trivial⟩ ?_
                          refine z_callV M.1 (av := [.inl 120]) (st := []) (a := 19) (ci := 5) (by decide +kernel) (c_Query_takes T' G' S258 n 120 hs.1) M.2.1 zl_Query_62 zv_Query_takes rfl rfl rfl ⟨by decide, by decide, by decide, by decide⟩ rfl (Nat.le_of_ble_eq_true rfl) (fun v w' hv => ?_)
                          replace hs := hs.2
                          rcases hF267 : F_Query_takes S258 120 with ⟨r267, S267⟩
                          rw [hF267] at K hv hs
                          try dsimp only at K hs
                          obtain ⟨rfl, rfl⟩ := hv
                          show z_G X zm_Query_beginsWell (270, [(1, .inl (F_Query_sign S)), (0, z_r 19)], [.inl r267], zW T' G' S267 n, 0, 0)
                          refine z_if_eq 288 M.1 (off := 18) (by decide +kernel) (by decide) (fun c270 => ?_) (fun c270 => ?_)
                          · rw [if_pos c270] at K hs
                            refine z_go2 M.1 288 [(.aload_n 0, 1), (.iload_n 1, 1), (.aload_n 0, 1), (.bipush 9, 2)] (293, [(1, .inl (F_Query_sign S)), (0, z_r 19)], [.inl 9, z_r 19, .inl (F_Query_sign S), z_r 19], zW T' G' S267 n, 0, 0) (by decide +kernel) rfl ⟨trivial, trivial, trivial, trivial, trivial⟩ ?_
                            refine z_callV M.1 (av := [.inl 9]) (st := [.inl (F_Query_sign S), z_r 19]) (a := 19) (ci := 5) (by decide +kernel) (c_Query_digit T' G' S267 n 9 hs.1) M.2.1 zl_Query_70 zv_Query_digit rfl rfl rfl ⟨by decide, by decide, by decide, by decide⟩ rfl (Nat.le_of_ble_eq_true rfl) (fun v w' hv => ?_)
                            replace hs := hs.2
                            rcases hF293 : F_Query_digit S267 9 with ⟨r293, S293⟩
                            rw [hF293] at K hv hs
                            try dsimp only at K hs
                            obtain ⟨rfl, rfl⟩ := hv
                            show z_G X zm_Query_beginsWell (296, [(1, .inl (F_Query_sign S)), (0, z_r 19)], [.inl r293, .inl (F_Query_sign S), z_r 19], zW T' G' S293 n, 0, 0)
                            refine z_go2 M.1 296 [(.iconst 0, 1), (.iconst 0, 1)] (298, [(1, .inl (F_Query_sign S)), (0, z_r 19)], [.inl 0, .inl 0, .inl r293, .inl (F_Query_sign S), z_r 19], zW T' G' S293 n, 0, 0) (by decide +kernel) rfl ⟨trivial, trivial, trivial⟩ ?_
                            refine z_callV M.1 (av := [.inl (F_Query_sign S), .inl r293, .inl 0, .inl 0]) (st := []) (a := 19) (ci := 5) (by decide +kernel) (c_Query_ends T' G' S293 n (F_Query_sign S) r293 0 0 hs.1) M.2.1 zl_Query_77 zv_Query_ends rfl rfl rfl ⟨by decide, by decide, by decide, by decide⟩ rfl (Nat.le_of_ble_eq_true rfl) (fun v w' hv => ?_)
                            replace hs := hs.2
                            rcases hF298 : F_Query_ends S293 (F_Query_sign S) r293 0 0 with ⟨r298, S298⟩
                            rw [hF298] at K hv
                            try dsimp only at K
                            obtain ⟨rfl, rfl⟩ := hv
                            show z_G X zm_Query_beginsWell (301, [(1, .inl (F_Query_sign S)), (0, z_r 19)], [.inl r298], zW T' G' S298 n, 0, 0)
                            refine z_if_eq 308 M.1 (off := 7) (by decide +kernel) (by decide) (fun c301 => ?_) (fun c301 => ?_)
                            · rw [if_pos c301] at K
                              exact z_lvs (lv' := []) [] rfl (t_Query_beginsWell_j308 M S298 hQ K)
                            · rw [if_neg c301] at K
                              exact z_lvs (lv' := []) [] rfl (t_Query_beginsWell_j304 M S298 hQ K)
                          · rw [if_neg c270] at K hs
                            refine z_go2 M.1 273 [(.aload_n 0, 1), (.bipush 120, 2), (.iconst 0, 1), (.iconst 0, 1), (.iconst 0, 1)] (279, [(1, .inl (F_Query_sign S)), (0, z_r 19)], [.inl 0, .inl 0, .inl 0, .inl 120, z_r 19], zW T' G' S267 n, 0, 0) (by decide +kernel) rfl ⟨trivial, trivial, trivial, trivial, trivial, trivial⟩ ?_
                            refine z_callV M.1 (av := [.inl 120, .inl 0, .inl 0, .inl 0]) (st := []) (a := 19) (ci := 5) (by decide +kernel) (c_Query_ends T' G' S267 n 120 0 0 0 hs.1) M.2.1 zl_Query_77 zv_Query_ends rfl rfl rfl ⟨by decide, by decide, by decide, by decide⟩ rfl (Nat.le_of_ble_eq_true rfl) (fun v w' hv => ?_)
                            replace hs := hs.2
                            rcases hF279 : F_Query_ends S267 120 0 0 0 with ⟨r279, S279⟩
                            rw [hF279] at K hv
                            try dsimp only at K
                            obtain ⟨rfl, rfl⟩ := hv
                            show z_G X zm_Query_beginsWell (282, [(1, .inl (F_Query_sign S)), (0, z_r 19)], [.inl r279], zW T' G' S279 n, 0, 0)
                            refine z_if_eq 308 M.1 (off := 26) (by decide +kernel) (by decide) (fun c282 => ?_) (fun c282 => ?_)
                            · rw [if_pos c282] at K
                              exact z_lvs (lv' := []) [] rfl (t_Query_beginsWell_j308 M S279 hQ K)
                            · rw [if_neg c282] at K
                              refine z_go2 M.1 285 [(.goto 19, 3)] (304, [(1, .inl (F_Query_sign S)), (0, z_r 19)], [], zW T' G' S279 n, 0, 0) (by decide +kernel) rfl ⟨trivial, trivial⟩ ?_
                              exact z_lvs (lv' := []) [] rfl (t_Query_beginsWell_j304 M S279 hQ K)
                      · rw [if_neg c6_10] at K hs
                        by_cases c6_11 : (F_Query_sign S) = 102
                        · rw [if_pos c6_11] at K hs
                          refine z_lookE 338 M.1 (dflt := 358) (ps := #[(33, 138), (40, 138), (66, 220), (67, 161), (68, 304), (73, 193), (76, 193), (85, 161), (87, 220), (88, 304), (97, 250), (102, 332), (107, 220), (112, 220), (115, 220), (118, 220)]) (len := 138) c6_11 (off := 332) (by decide +kernel) (by decide) (by decide) (by decide) ?_
                          refine z_go2 M.1 338 [(.aload_n 0, 1), (.iload_n 1, 1)] (340, [(1, .inl (F_Query_sign S)), (0, z_r 19)], [.inl (F_Query_sign S), z_r 19], zW T' G' S n, 0, 0) (by decide +kernel) rfl ⟨trivial, trivial, trivial⟩ ?_
                          refine z_callV M.1 (av := [.inl (F_Query_sign S)]) (st := []) (a := 19) (ci := 5) (by decide +kernel) (c_Query_takes T' G' S n (F_Query_sign S) hs.1) M.2.1 zl_Query_62 zv_Query_takes rfl rfl rfl ⟨by decide, by decide, by decide, by decide⟩ rfl (Nat.le_of_ble_eq_true rfl) (fun v w' hv => ?_)
                          replace hs := hs.2
                          rcases hF340 : F_Query_takes S (F_Query_sign S) with ⟨r340, S340⟩
                          rw [hF340] at K hv hs
                          try dsimp only at K hs
                          obtain ⟨rfl, rfl⟩ := hv
                          show z_G X zm_Query_beginsWell (343, [(1, .inl (F_Query_sign S)), (0, z_r 19)], [.inl r340], zW T' G' S340 n, 0, 0)
                          refine z_if_eq 362 M.1 (off := 19) (by decide +kernel) (by decide) (fun c343 => ?_) (fun c343 => ?_)
                          · rw [if_pos c343] at K hs
                            exact z_lvs (lv' := []) [] rfl (t_Query_beginsWell_j362 M S340 hQ K)
                          · rw [if_neg c343] at K hs
                            refine z_go2 M.1 346 [(.aload_n 0, 1), (.aload_n 0, 1), (.iconst 3, 1)] (349, [(1, .inl (F_Query_sign S)), (0, z_r 19)], [.inl 3, z_r 19, z_r 19], zW T' G' S340 n, 0, 0) (by decide +kernel) rfl ⟨trivial, trivial, trivial, trivial⟩ ?_
                            refine z_callV M.1 (av := [.inl 3]) (st := [z_r 19]) (a := 19) (ci := 5) (by decide +kernel) (c_Query_digit T' G' S340 n 3 hs.1) M.2.1 zl_Query_70 zv_Query_digit rfl rfl rfl ⟨by decide, by decide, by decide, by decide⟩ rfl (Nat.le_of_ble_eq_true rfl) (fun v w' hv => ?_)
                            replace hs := hs.2
                            rcases hF349 : F_Query_digit S340 3 with ⟨r349, S349⟩
                            rw [hF349] at K hv hs
                            try dsimp only at K hs
                            obtain ⟨rfl, rfl⟩ := hv
                            show z_G X zm_Query_beginsWell (352, [(1, .inl (F_Query_sign S)), (0, z_r 19)], [.inl r349, z_r 19], zW T' G' S349 n, 0, 0)
                            refine z_callV M.1 (av := [.inl r349]) (st := []) (a := 19) (ci := 5) (by decide +kernel) (c_Query_compares T' G' S349 n r349 hs.1) M.2.1 zl_Query_84 zv_Query_compares rfl rfl rfl ⟨by decide, by decide, by decide, by decide⟩ rfl (Nat.le_of_ble_eq_true rfl) (fun v w' hv => ?_)
                            replace hs := hs.2
                            rcases hF352 : F_Query_compares S349 r349 with ⟨r352, S352⟩
                            rw [hF352] at K hv
                            try dsimp only at K
                            obtain ⟨rfl, rfl⟩ := hv
                            show z_G X zm_Query_beginsWell (355, [(1, .inl (F_Query_sign S)), (0, z_r 19)], [.inl r352], zW T' G' S352 n, 0, 0)
                            refine z_if_eq 362 M.1 (off := 7) (by decide +kernel) (by decide) (fun c355 => ?_) (fun c355 => ?_)
                            · rw [if_pos c355] at K
                              exact z_lvs (lv' := []) [] rfl (t_Query_beginsWell_j362 M S352 hQ K)
                            · rw [if_neg c355] at K
                              refine z_go2 M.1 358 [(.iconst 1, 1), (.goto 4, 3)] (363, [(1, .inl (F_Query_sign S)), (0, z_r 19)], [.inl 1], zW T' G' S352 n, 0, 0) (by decide +kernel) rfl ⟨trivial, trivial, trivial⟩ ?_
                              exact z_iret M (by decide +kernel) .boolean rfl rfl (by decide) (by decide) (hQ _ _ K)
                        · rw [if_neg c6_11] at K hs
                          by_cases c6_12 : (F_Query_sign S) = 107
                          · rw [if_pos c6_12] at K hs
                            refine z_lookE 226 M.1 (dflt := 358) (ps := #[(33, 138), (40, 138), (66, 220), (67, 161), (68, 304), (73, 193), (76, 193), (85, 161), (87, 220), (88, 304), (97, 250), (102, 332), (107, 220), (112, 220), (115, 220), (118, 220)]) (len := 138) c6_12 (off := 220) (by decide +kernel) (by decide) (by decide) (by decide) ?_
                            refine z_go2 M.1 226 [(.aload_n 0, 1), (.iload_n 1, 1)] (228, [(1, .inl (F_Query_sign S)), (0, z_r 19)], [.inl (F_Query_sign S), z_r 19], zW T' G' S n, 0, 0) (by decide +kernel) rfl ⟨trivial, trivial, trivial⟩ ?_
                            refine z_callV M.1 (av := [.inl (F_Query_sign S)]) (st := []) (a := 19) (ci := 5) (by decide +kernel) (c_Query_takes T' G' S n (F_Query_sign S) hs.1) M.2.1 zl_Query_62 zv_Query_takes rfl rfl rfl ⟨by decide, by decide, by decide, by decide⟩ rfl (Nat.le_of_ble_eq_true rfl) (fun v w' hv => ?_)
                            replace hs := hs.2
                            rcases hF228 : F_Query_takes S (F_Query_sign S) with ⟨r228, S228⟩
                            rw [hF228] at K hv hs
                            try dsimp only at K hs
                            obtain ⟨rfl, rfl⟩ := hv
                            show z_G X zm_Query_beginsWell (231, [(1, .inl (F_Query_sign S)), (0, z_r 19)], [.inl r228], zW T' G' S228 n, 0, 0)
                            refine z_if_eq 254 M.1 (off := 23) (by decide +kernel) (by decide) (fun c231 => ?_) (fun c231 => ?_)
                            · rw [if_pos c231] at K hs
                              exact z_lvs (lv' := []) [] rfl (t_Query_beginsWell_j254 M S228 hQ K)
                            · rw [if_neg c231] at K hs
                              refine z_go2 M.1 234 [(.aload_n 0, 1), (.iload_n 1, 1), (.aload_n 0, 1), (.bipush 9, 2)] (239, [(1, .inl (F_Query_sign S)), (0, z_r 19)], [.inl 9, z_r 19, .inl (F_Query_sign S), z_r 19], zW T' G' S228 n, 0, 0) (by decide +kernel) rfl ⟨trivial, trivial, trivial, trivial, trivial⟩ ?_
                              refine z_callV M.1 (av := [.inl 9]) (st := [.inl (F_Query_sign S), z_r 19]) (a := 19) (ci := 5) (by decide +kernel) (c_Query_digit T' G' S228 n 9 hs.1) M.2.1 zl_Query_70 zv_Query_digit rfl rfl rfl ⟨by decide, by decide, by decide, by decide⟩ rfl (Nat.le_of_ble_eq_true rfl) (fun v w' hv => ?_)
                              replace hs := hs.2
                              rcases hF239 : F_Query_digit S228 9 with ⟨r239, S239⟩
                              rw [hF239] at K hv hs
                              try dsimp only at K hs
                              obtain ⟨rfl, rfl⟩ := hv
                              show z_G X zm_Query_beginsWell (242, [(1, .inl (F_Query_sign S)), (0, z_r 19)], [.inl r239, .inl (F_Query_sign S), z_r 19], zW T' G' S239 n, 0, 0)
                              refine z_go2 M.1 242 [(.iconst 0, 1), (.iconst 0, 1)] (244, [(1, .inl (F_Query_sign S)), (0, z_r 19)], [.inl 0, .inl 0, .inl r239, .inl (F_Query_sign S), z_r 19], zW T' G' S239 n, 0, 0) (by decide +kernel) rfl ⟨trivial, trivial, trivial⟩ ?_
                              refine z_callV M.1 (av := [.inl (F_Query_sign S), .inl r239, .inl 0, .inl 0]) (st := []) (a := 19) (ci := 5) (by decide +kernel) (c_Query_ends T' G' S239 n (F_Query_sign S) r239 0 0 hs.1) M.2.1 zl_Query_77 zv_Query_ends rfl rfl rfl ⟨by decide, by decide, by decide, by decide⟩ rfl (Nat.le_of_ble_eq_true rfl) (fun v w' hv => ?_)
                              replace hs := hs.2
                              rcases hF244 : F_Query_ends S239 (F_Query_sign S) r239 0 0 with ⟨r244, S244⟩
                              rw [hF244] at K hv
                              try dsimp only at K
                              obtain ⟨rfl, rfl⟩ := hv
                              show z_G X zm_Query_beginsWell (247, [(1, .inl (F_Query_sign S)), (0, z_r 19)], [.inl r244], zW T' G' S244 n, 0, 0)
                              refine z_if_eq 254 M.1 (off := 7) (by decide +kernel) (by decide) (fun c247 => ?_) (fun c247 => ?_)
                              · rw [if_pos c247] at K
                                exact z_lvs (lv' := []) [] rfl (t_Query_beginsWell_j254 M S244 hQ K)
                              · rw [if_neg c247] at K
                                refine z_go2 M.1 250 [(.iconst 1, 1), (.goto 4, 3)] (255, [(1, .inl (F_Query_sign S)), (0, z_r 19)], [.inl 1], zW T' G' S244 n, 0, 0) (by decide +kernel) rfl ⟨trivial, trivial, trivial⟩ ?_
                                exact z_iret M (by decide +kernel) .boolean rfl rfl (by decide) (by decide) (hQ _ _ K)
                          · rw [if_neg c6_12] at K hs
                            by_cases c6_13 : (F_Query_sign S) = 112
                            · rw [if_pos c6_13] at K hs
                              refine z_lookE 226 M.1 (dflt := 358) (ps := #[(33, 138), (40, 138), (66, 220), (67, 161), (68, 304), (73, 193), (76, 193), (85, 161), (87, 220), (88, 304), (97, 250), (102, 332), (107, 220), (112, 220), (115, 220), (118, 220)]) (len := 138) c6_13 (off := 220) (by decide +kernel) (by decide) (by decide) (by decide) ?_
                              refine z_go2 M.1 226 [(.aload_n 0, 1), (.iload_n 1, 1)] (228, [(1, .inl (F_Query_sign S)), (0, z_r 19)], [.inl (F_Query_sign S), z_r 19], zW T' G' S n, 0, 0) (by decide +kernel) rfl ⟨trivial, trivial, trivial⟩ ?_
                              refine z_callV M.1 (av := [.inl (F_Query_sign S)]) (st := []) (a := 19) (ci := 5) (by decide +kernel) (c_Query_takes T' G' S n (F_Query_sign S) hs.1) M.2.1 zl_Query_62 zv_Query_takes rfl rfl rfl ⟨by decide, by decide, by decide, by decide⟩ rfl (Nat.le_of_ble_eq_true rfl) (fun v w' hv => ?_)
                              replace hs := hs.2
                              rcases hF228 : F_Query_takes S (F_Query_sign S) with ⟨r228, S228⟩
                              rw [hF228] at K hv hs
                              try dsimp only at K hs
                              obtain ⟨rfl, rfl⟩ := hv
                              show z_G X zm_Query_beginsWell (231, [(1, .inl (F_Query_sign S)), (0, z_r 19)], [.inl r228], zW T' G' S228 n, 0, 0)
                              refine z_if_eq 254 M.1 (off := 23) (by decide +kernel) (by decide) (fun c231 => ?_) (fun c231 => ?_)
                              · rw [if_pos c231] at K hs
                                exact z_lvs (lv' := []) [] rfl (t_Query_beginsWell_j254 M S228 hQ K)
                              · rw [if_neg c231] at K hs
                                refine z_go2 M.1 234 [(.aload_n 0, 1), (.iload_n 1, 1), (.aload_n 0, 1), (.bipush 9, 2)] (239, [(1, .inl (F_Query_sign S)), (0, z_r 19)], [.inl 9, z_r 19, .inl (F_Query_sign S), z_r 19], zW T' G' S228 n, 0, 0) (by decide +kernel) rfl ⟨trivial, trivial, trivial, trivial, trivial⟩ ?_
                                refine z_callV M.1 (av := [.inl 9]) (st := [.inl (F_Query_sign S), z_r 19]) (a := 19) (ci := 5) (by decide +kernel) (c_Query_digit T' G' S228 n 9 hs.1) M.2.1 zl_Query_70 zv_Query_digit rfl rfl rfl ⟨by decide, by decide, by decide, by decide⟩ rfl (Nat.le_of_ble_eq_true rfl) (fun v w' hv => ?_)
                                replace hs := hs.2
                                rcases hF239 : F_Query_digit S228 9 with ⟨r239, S239⟩
                                rw [hF239] at K hv hs
                                try dsimp only at K hs
                                obtain ⟨rfl, rfl⟩ := hv
                                show z_G X zm_Query_beginsWell (242, [(1, .inl (F_Query_sign S)), (0, z_r 19)], [.inl r239, .inl (F_Query_sign S), z_r 19], zW T' G' S239 n, 0, 0)
                                refine z_go2 M.1 242 [(.iconst 0, 1), (.iconst 0, 1)] (244, [(1, .inl (F_Query_sign S)), (0, z_r 19)], [.inl 0, .inl 0, .inl r239, .inl (F_Query_sign S), z_r 19], zW T' G' S239 n, 0, 0) (by decide +kernel) rfl ⟨trivial, trivial, trivial⟩ ?_
                                refine z_callV M.1 (av := [.inl (F_Query_sign S), .inl r239, .inl 0, .inl 0]) (st := []) (a := 19) (ci := 5) (by decide +kernel) (c_Query_ends T' G' S239 n (F_Query_sign S) r239 0 0 hs.1) M.2.1 zl_Query_77 zv_Query_ends rfl rfl rfl ⟨by decide, by decide, by decide, by decide⟩ rfl (Nat.le_of_ble_eq_true rfl) (fun v w' hv => ?_)
                                replace hs := hs.2
                                rcases hF244 : F_Query_ends S239 (F_Query_sign S) r239 0 0 with ⟨r244, S244⟩
                                rw [hF244] at K hv
                                try dsimp only at K
                                obtain ⟨rfl, rfl⟩ := hv
                                show z_G X zm_Query_beginsWell (247, [(1, .inl (F_Query_sign S)), (0, z_r 19)], [.inl r244], zW T' G' S244 n, 0, 0)
                                refine z_if_eq 254 M.1 (off := 7) (by decide +kernel) (by decide) (fun c247 => ?_) (fun c247 => ?_)
                                · rw [if_pos c247] at K
                                  exact z_lvs (lv' := []) [] rfl (t_Query_beginsWell_j254 M S244 hQ K)
                                · rw [if_neg c247] at K
                                  refine z_go2 M.1 250 [(.iconst 1, 1), (.goto 4, 3)] (255, [(1, .inl (F_Query_sign S)), (0, z_r 19)], [.inl 1], zW T' G' S244 n, 0, 0) (by decide +kernel) rfl ⟨trivial, trivial, trivial⟩ ?_
                                  exact z_iret M (by decide +kernel) .boolean rfl rfl (by decide) (by decide) (hQ _ _ K)
                            · rw [if_neg c6_13] at K hs
                              by_cases c6_14 : (F_Query_sign S) = 115
                              · rw [if_pos c6_14] at K hs
                                refine z_lookE 226 M.1 (dflt := 358) (ps := #[(33, 138), (40, 138), (66, 220), (67, 161), (68, 304), (73, 193), (76, 193), (85, 161), (87, 220), (88, 304), (97, 250), (102, 332), (107, 220), (112, 220), (115, 220), (118, 220)]) (len := 138) c6_14 (off := 220) (by decide +kernel) (by decide) (by decide) (by decide) ?_
                                refine z_go2 M.1 226 [(.aload_n 0, 1), (.iload_n 1, 1)] (228, [(1, .inl (F_Query_sign S)), (0, z_r 19)], [.inl (F_Query_sign S), z_r 19], zW T' G' S n, 0, 0) (by decide +kernel) rfl ⟨trivial, trivial, trivial⟩ ?_
                                refine z_callV M.1 (av := [.inl (F_Query_sign S)]) (st := []) (a := 19) (ci := 5) (by decide +kernel) (c_Query_takes T' G' S n (F_Query_sign S) hs.1) M.2.1 zl_Query_62 zv_Query_takes rfl rfl rfl ⟨by decide, by decide, by decide, by decide⟩ rfl (Nat.le_of_ble_eq_true rfl) (fun v w' hv => ?_)
                                replace hs := hs.2
                                rcases hF228 : F_Query_takes S (F_Query_sign S) with ⟨r228, S228⟩
                                rw [hF228] at K hv hs
                                try dsimp only at K hs
                                obtain ⟨rfl, rfl⟩ := hv
                                show z_G X zm_Query_beginsWell (231, [(1, .inl (F_Query_sign S)), (0, z_r 19)], [.inl r228], zW T' G' S228 n, 0, 0)
                                refine z_if_eq 254 M.1 (off := 23) (by decide +kernel) (by decide) (fun c231 => ?_) (fun c231 => ?_)
                                · rw [if_pos c231] at K hs
                                  exact z_lvs (lv' := []) [] rfl (t_Query_beginsWell_j254 M S228 hQ K)
                                · rw [if_neg c231] at K hs
                                  refine z_go2 M.1 234 [(.aload_n 0, 1), (.iload_n 1, 1), (.aload_n 0, 1), (.bipush 9, 2)] (239, [(1, .inl (F_Query_sign S)), (0, z_r 19)], [.inl 9, z_r 19, .inl (F_Query_sign S), z_r 19], zW T' G' S228 n, 0, 0) (by decide +kernel) rfl ⟨trivial, trivial, trivial, trivial, trivial⟩ ?_
                                  refine z_callV M.1 (av := [.inl 9]) (st := [.inl (F_Query_sign S), z_r 19]) (a := 19) (ci := 5) (by decide +kernel) (c_Query_digit T' G' S228 n 9 hs.1) M.2.1 zl_Query_70 zv_Query_digit rfl rfl rfl ⟨by decide, by decide, by decide, by decide⟩ rfl (Nat.le_of_ble_eq_true rfl) (fun v w' hv => ?_)
                                  replace hs := hs.2
                                  rcases hF239 : F_Query_digit S228 9 with ⟨r239, S239⟩
                                  rw [hF239] at K hv hs
                                  try dsimp only at K hs
                                  obtain ⟨rfl, rfl⟩ := hv
                                  show z_G X zm_Query_beginsWell (242, [(1, .inl (F_Query_sign S)), (0, z_r 19)], [.inl r239, .inl (F_Query_sign S), z_r 19], zW T' G' S239 n, 0, 0)
                                  refine z_go2 M.1 242 [(.iconst 0, 1), (.iconst 0, 1)] (244, [(1, .inl (F_Query_sign S)), (0, z_r 19)], [.inl 0, .inl 0, .inl r239, .inl (F_Query_sign S), z_r 19], zW T' G' S239 n, 0, 0) (by decide +kernel) rfl ⟨trivial, trivial, trivial⟩ ?_
                                  refine z_callV M.1 (av := [.inl (F_Query_sign S), .inl r239, .inl 0, .inl 0]) (st := []) (a := 19) (ci := 5) (by decide +kernel) (c_Query_ends T' G' S239 n (F_Query_sign S) r239 0 0 hs.1) M.2.1 zl_Query_77 zv_Query_ends rfl rfl rfl ⟨by decide, by decide, by decide, by decide⟩ rfl (Nat.le_of_ble_eq_true rfl) (fun v w' hv => ?_)
                                  replace hs := hs.2
                                  rcases hF244 : F_Query_ends S239 (F_Query_sign S) r239 0 0 with ⟨r244, S244⟩
                                  rw [hF244] at K hv
                                  try dsimp only at K
                                  obtain ⟨rfl, rfl⟩ := hv
                                  show z_G X zm_Query_beginsWell (247, [(1, .inl (F_Query_sign S)), (0, z_r 19)], [.inl r244], zW T' G' S244 n, 0, 0)
                                  refine z_if_eq 254 M.1 (off := 7) (by decide +kernel) (by decide) (fun c247 => ?_) (fun c247 => ?_)
                                  · rw [if_pos c247] at K
                                    exact z_lvs (lv' := []) [] rfl (t_Query_beginsWell_j254 M S244 hQ K)
                                  · rw [if_neg c247] at K
                                    refine z_go2 M.1 250 [(.iconst 1, 1), (.goto 4, 3)] (255, [(1, .inl (F_Query_sign S)), (0, z_r 19)], [.inl 1], zW T' G' S244 n, 0, 0) (by decide +kernel) rfl ⟨trivial, trivial, trivial⟩ ?_
                                    exact z_iret M (by decide +kernel) .boolean rfl rfl (by decide) (by decide) (hQ _ _ K)
                              · rw [if_neg c6_14] at K hs
                                by_cases c6_15 : (F_Query_sign S) = 118
                                · rw [if_pos c6_15] at K hs
                                  refine z_lookE 226 M.1 (dflt := 358) (ps := #[(33, 138), (40, 138), (66, 220), (67, 161), (68, 304), (73, 193), (76, 193), (85, 161), (87, 220), (88, 304), (97, 250), (102, 332), (107, 220), (112, 220), (115, 220), (118, 220)]) (len := 138) c6_15 (off := 220) (by decide +kernel) (by decide) (by decide) (by decide) ?_
                                  refine z_go2 M.1 226 [(.aload_n 0, 1), (.iload_n 1, 1)] (228, [(1, .inl (F_Query_sign S)), (0, z_r 19)], [.inl (F_Query_sign S), z_r 19], zW T' G' S n, 0, 0) (by decide +kernel) rfl ⟨trivial, trivial, trivial⟩ ?_
                                  refine z_callV M.1 (av := [.inl (F_Query_sign S)]) (st := []) (a := 19) (ci := 5) (by decide +kernel) (c_Query_takes T' G' S n (F_Query_sign S) hs.1) M.2.1 zl_Query_62 zv_Query_takes rfl rfl rfl ⟨by decide, by decide, by decide, by decide⟩ rfl (Nat.le_of_ble_eq_true rfl) (fun v w' hv => ?_)
                                  replace hs := hs.2
                                  rcases hF228 : F_Query_takes S (F_Query_sign S) with ⟨r228, S228⟩
                                  rw [hF228] at K hv hs
                                  try dsimp only at K hs
                                  obtain ⟨rfl, rfl⟩ := hv
                                  show z_G X zm_Query_beginsWell (231, [(1, .inl (F_Query_sign S)), (0, z_r 19)], [.inl r228], zW T' G' S228 n, 0, 0)
                                  refine z_if_eq 254 M.1 (off := 23) (by decide +kernel) (by decide) (fun c231 => ?_) (fun c231 => ?_)
                                  · rw [if_pos c231] at K hs
                                    exact z_lvs (lv' := []) [] rfl (t_Query_beginsWell_j254 M S228 hQ K)
                                  · rw [if_neg c231] at K hs
                                    refine z_go2 M.1 234 [(.aload_n 0, 1), (.iload_n 1, 1), (.aload_n 0, 1), (.bipush 9, 2)] (239, [(1, .inl (F_Query_sign S)), (0, z_r 19)], [.inl 9, z_r 19, .inl (F_Query_sign S), z_r 19], zW T' G' S228 n, 0, 0) (by decide +kernel) rfl ⟨trivial, trivial, trivial, trivial, trivial⟩ ?_
                                    refine z_callV M.1 (av := [.inl 9]) (st := [.inl (F_Query_sign S), z_r 19]) (a := 19) (ci := 5) (by decide +kernel) (c_Query_digit T' G' S228 n 9 hs.1) M.2.1 zl_Query_70 zv_Query_digit rfl rfl rfl ⟨by decide, by decide, by decide, by decide⟩ rfl (Nat.le_of_ble_eq_true rfl) (fun v w' hv => ?_)
                                    replace hs := hs.2
                                    rcases hF239 : F_Query_digit S228 9 with ⟨r239, S239⟩
                                    rw [hF239] at K hv hs
                                    try dsimp only at K hs
                                    obtain ⟨rfl, rfl⟩ := hv
                                    show z_G X zm_Query_beginsWell (242, [(1, .inl (F_Query_sign S)), (0, z_r 19)], [.inl r239, .inl (F_Query_sign S), z_r 19], zW T' G' S239 n, 0, 0)
                                    refine z_go2 M.1 242 [(.iconst 0, 1), (.iconst 0, 1)] (244, [(1, .inl (F_Query_sign S)), (0, z_r 19)], [.inl 0, .inl 0, .inl r239, .inl (F_Query_sign S), z_r 19], zW T' G' S239 n, 0, 0) (by decide +kernel) rfl ⟨trivial, trivial, trivial⟩ ?_
                                    refine z_callV M.1 (av := [.inl (F_Query_sign S), .inl r239, .inl 0, .inl 0]) (st := []) (a := 19) (ci := 5) (by decide +kernel) (c_Query_ends T' G' S239 n (F_Query_sign S) r239 0 0 hs.1) M.2.1 zl_Query_77 zv_Query_ends rfl rfl rfl ⟨by decide, by decide, by decide, by decide⟩ rfl (Nat.le_of_ble_eq_true rfl) (fun v w' hv => ?_)
                                    replace hs := hs.2
                                    rcases hF244 : F_Query_ends S239 (F_Query_sign S) r239 0 0 with ⟨r244, S244⟩
                                    rw [hF244] at K hv
                                    try dsimp only at K
                                    obtain ⟨rfl, rfl⟩ := hv
                                    show z_G X zm_Query_beginsWell (247, [(1, .inl (F_Query_sign S)), (0, z_r 19)], [.inl r244], zW T' G' S244 n, 0, 0)
                                    refine z_if_eq 254 M.1 (off := 7) (by decide +kernel) (by decide) (fun c247 => ?_) (fun c247 => ?_)
                                    · rw [if_pos c247] at K
                                      exact z_lvs (lv' := []) [] rfl (t_Query_beginsWell_j254 M S244 hQ K)
                                    · rw [if_neg c247] at K
                                      refine z_go2 M.1 250 [(.iconst 1, 1), (.goto 4, 3)] (255, [(1, .inl (F_Query_sign S)), (0, z_r 19)], [.inl 1], zW T' G' S244 n, 0, 0) (by decide +kernel) rfl ⟨trivial, trivial, trivial⟩ ?_
                                      exact z_iret M (by decide +kernel) .boolean rfl rfl (by decide) (by decide) (hQ _ _ K)
                                · rw [if_neg c6_15] at K hs
                                  refine z_lookup 364 M.1 (dflt := 358) (ps := #[(33, 138), (40, 138), (66, 220), (67, 161), (68, 304), (73, 193), (76, 193), (85, 161), (87, 220), (88, 304), (97, 250), (102, 332), (107, 220), (112, 220), (115, 220), (118, 220)]) (len := 138) (off := 358) (by decide +kernel) (by decide) (by show Op.lookupswitch.offset [(33, 138), (40, 138), (66, 220), (67, 161), (68, 304), (73, 193), (76, 193), (85, 161), (87, 220), (88, 304), (97, 250), (102, 332), (107, 220), (112, 220), (115, 220), (118, 220)] 358 _ = _; rw [lv_osw c6_0 (k := 33) (by decide), lv_osw c6_1 (k := 40) (by decide), lv_osw c6_2 (k := 66) (by decide), lv_osw c6_3 (k := 67) (by decide), lv_osw c6_4 (k := 68) (by decide), lv_osw c6_5 (k := 73) (by decide), lv_osw c6_6 (k := 76) (by decide), lv_osw c6_7 (k := 85) (by decide), lv_osw c6_8 (k := 87) (by decide), lv_osw c6_9 (k := 88) (by decide), lv_osw c6_10 (k := 97) (by decide), lv_osw c6_11 (k := 102) (by decide), lv_osw c6_12 (k := 107) (by decide), lv_osw c6_13 (k := 112) (by decide), lv_osw c6_14 (k := 115) (by decide), lv_osw c6_15 (k := 118) (by decide)]; rfl) (by decide) ?_
                                  refine z_go2 M.1 364 [(.iconst 0, 1)] (365, [(1, .inl (F_Query_sign S)), (0, z_r 19)], [.inl 0], zW T' G' S n, 0, 0) (by decide +kernel) rfl ⟨trivial, trivial⟩ ?_
                                  exact z_iret M (by decide +kernel) .boolean rfl rfl (by decide) (by decide) (hQ _ _ K)

-- TrackHouse$Query.goesOnWell
abbrev rm_Query_goesOnWell : Room := zr 4
def F_Query_goesOnWell_j141 (S : (Nat → Nat → Int32)) : (Int32 × (Nat → Nat → Int32)) := (0, S)
theorem t_Query_goesOnWell_j141 {X : z_X} {Post : Option z_V → z_W → Prop} (M : z_M X zm_Query_goesOnWell rm_Query_goesOnWell Post) {T' : Nat → Nat × Nat} {G' : Nat → Nat → Option Nat} {n : Nat} {Q : (Int32 × (Nat → Nat → Int32)) → Prop} (S : (Nat → Nat → Int32)) (hQ : ∀ v S', Q (v, S') → Post (some (.inl v)) (zW T' G' S' n)) (K : Q (F_Query_goesOnWell_j141 S)) : z_G X zm_Query_goesOnWell (141, [], [], zW T' G' S n, 0, 0) := by
  unfold F_Query_goesOnWell_j141 at K
  refine z_go2 M.1 141 [(.iconst 0, 1)] (142, [], [.inl 0], zW T' G' S n, 0, 0) (by decide +kernel) rfl ⟨trivial, trivial⟩ ?_
  exact z_iret M (by decide +kernel) .boolean rfl rfl (by decide) (by decide) (hQ _ _ K)
def F_Query_goesOnWell_j118 (S : (Nat → Nat → Int32)) : (Int32 × (Nat → Nat → Int32)) := (0, S)
theorem t_Query_goesOnWell_j118 {X : z_X} {Post : Option z_V → z_W → Prop} (M : z_M X zm_Query_goesOnWell rm_Query_goesOnWell Post) {T' : Nat → Nat × Nat} {G' : Nat → Nat → Option Nat} {n : Nat} {Q : (Int32 × (Nat → Nat → Int32)) → Prop} (S : (Nat → Nat → Int32)) (hQ : ∀ v S', Q (v, S') → Post (some (.inl v)) (zW T' G' S' n)) (K : Q (F_Query_goesOnWell_j118 S)) : z_G X zm_Query_goesOnWell (118, [], [], zW T' G' S n, 0, 0) := by
  unfold F_Query_goesOnWell_j118 at K
  refine z_go2 M.1 118 [(.iconst 0, 1)] (119, [], [.inl 0], zW T' G' S n, 0, 0) (by decide +kernel) rfl ⟨trivial, trivial⟩ ?_
  exact z_iret M (by decide +kernel) .boolean rfl rfl (by decide) (by decide) (hQ _ _ K)
def F_Query_goesOnWell_j106 (S : (Nat → Nat → Int32)) (x2 : Int32) : (Int32 × (Nat → Nat → Int32)) := (match F_Query_takes S x2 with | (r108, S108) => (if r108 = 0 then (F_Query_goesOnWell_j118 S108) else (1, S108)))
def Sf_Query_goesOnWell_j106 (S : (Nat → Nat → Int32)) (x2 : Int32) : Prop := (Sf_Query_takes S x2 ∧ True)
theorem t_Query_goesOnWell_j106 {X : z_X} {Post : Option z_V → z_W → Prop} (M : z_M X zm_Query_goesOnWell rm_Query_goesOnWell Post) {T' : Nat → Nat × Nat} {G' : Nat → Nat → Option Nat} {n : Nat} {Q : (Int32 × (Nat → Nat → Int32)) → Prop} (S : (Nat → Nat → Int32)) (x2 : Int32) (hQ : ∀ v S', Q (v, S') → Post (some (.inl v)) (zW T' G' S' n)) (K : Q (F_Query_goesOnWell_j106 S x2)) (hs : Sf_Query_goesOnWell_j106 S x2) : z_G X zm_Query_goesOnWell (106, [(0, z_r 19), (2, .inl x2)], [], zW T' G' S n, 0, 0) := by
  unfold F_Query_goesOnWell_j106 at K
  unfold Sf_Query_goesOnWell_j106 at hs
  refine z_go2 M.1 106 [(.aload_n 0, 1), (.iload_n 2, 1)] (108, [(0, z_r 19), (2, .inl x2)], [.inl x2, z_r 19], zW T' G' S n, 0, 0) (by decide +kernel) rfl ⟨trivial, trivial, trivial⟩ ?_
  refine z_callV M.1 (av := [.inl x2]) (st := []) (a := 19) (ci := 5) (by decide +kernel) (c_Query_takes T' G' S n x2 hs.1) M.2.1 zl_Query_62 zv_Query_takes rfl rfl rfl ⟨by decide, by decide, by decide, by decide⟩ rfl (Nat.le_of_ble_eq_true rfl) (fun v w' hv => ?_)
  replace hs := hs.2
  rcases hF108 : F_Query_takes S x2 with ⟨r108, S108⟩
  rw [hF108] at K hv
  try dsimp only at K
  obtain ⟨rfl, rfl⟩ := hv
  show z_G X zm_Query_goesOnWell (111, [(0, z_r 19), (2, .inl x2)], [.inl r108], zW T' G' S108 n, 0, 0)
  refine z_if_eq 118 M.1 (off := 7) (by decide +kernel) (by decide) (fun c111 => ?_) (fun c111 => ?_)
  · rw [if_pos c111] at K
    exact z_lvs (lv' := []) [] rfl (t_Query_goesOnWell_j118 M S108 hQ K)
  · rw [if_neg c111] at K
    refine z_go2 M.1 114 [(.iconst 1, 1), (.goto 4, 3)] (119, [(0, z_r 19), (2, .inl x2)], [.inl 1], zW T' G' S108 n, 0, 0) (by decide +kernel) rfl ⟨trivial, trivial, trivial⟩ ?_
    exact z_iret M (by decide +kernel) .boolean rfl rfl (by decide) (by decide) (hQ _ _ K)
def F_Query_goesOnWell_j164 (S : (Nat → Nat → Int32)) : (Int32 × (Nat → Nat → Int32)) := (0, S)
theorem t_Query_goesOnWell_j164 {X : z_X} {Post : Option z_V → z_W → Prop} (M : z_M X zm_Query_goesOnWell rm_Query_goesOnWell Post) {T' : Nat → Nat × Nat} {G' : Nat → Nat → Option Nat} {n : Nat} {Q : (Int32 × (Nat → Nat → Int32)) → Prop} (S : (Nat → Nat → Int32)) (hQ : ∀ v S', Q (v, S') → Post (some (.inl v)) (zW T' G' S' n)) (K : Q (F_Query_goesOnWell_j164 S)) : z_G X zm_Query_goesOnWell (164, [], [], zW T' G' S n, 0, 0) := by
  unfold F_Query_goesOnWell_j164 at K
  refine z_go2 M.1 164 [(.iconst 0, 1)] (165, [], [.inl 0], zW T' G' S n, 0, 0) (by decide +kernel) rfl ⟨trivial, trivial⟩ ?_
  exact z_iret M (by decide +kernel) .boolean rfl rfl (by decide) (by decide) (hQ _ _ K)
def F_Query_goesOnWell_j24 (S : (Nat → Nat → Int32)) (s0 : Int32) : (Int32 × (Nat → Nat → Int32)) := (if s0 = (-1) then (0, S) else (if s0 = 38 then (match F_Query_takes S 41 with | (r123, S123) => (if r123 = 0 then (F_Query_goesOnWell_j141 S123) else (match F_Query_closes S123 s0 with | (r131, S131) => (if r131 = 0 then (F_Query_goesOnWell_j141 S131) else (1, S131))))) else (if s0 = 40 then (z_let (zPut S 25 30 ((S 19 9) - 1) (F_Query_sign S)) (fun S86 => (if (F_Query_sign S) = 38 then (F_Query_goesOnWell_j106 (z_uS S86 19 11 1) (F_Query_sign S)) else (if (F_Query_sign S) = 124 then (F_Query_goesOnWell_j106 (z_uS S86 19 11 1) (F_Query_sign S)) else (F_Query_goesOnWell_j118 (z_uS S86 19 11 1)))))) else (if s0 = 124 then (match F_Query_takes S 41 with | (r123, S123) => (if r123 = 0 then (F_Query_goesOnWell_j141 S123) else (match F_Query_closes S123 s0 with | (r131, S131) => (if r131 = 0 then (F_Query_goesOnWell_j141 S131) else (1, S131))))) else (match F_Query_takes S 93 with | (r146, S146) => (if r146 = 0 then (F_Query_goesOnWell_j164 S146) else (match F_Query_closes S146 s0 with | (r154, S154) => (if r154 = 0 then (F_Query_goesOnWell_j164 S154) else (1, S154)))))))))
def Sf_Query_goesOnWell_j24 (S : (Nat → Nat → Int32)) (s0 : Int32) : Prop := (if s0 = (-1) then True else (if s0 = 38 then (Sf_Query_takes S 41 ∧ (match F_Query_takes S 41 with | (r123, S123) => (if r123 = 0 then True else (Sf_Query_closes S123 s0 ∧ True)))) else (if s0 = 40 then (Sf_Query_sign S ∧ (z_let (zPut S 25 30 ((S 19 9) - 1) (F_Query_sign S)) (fun S86 => (if (F_Query_sign S) = 38 then (Sf_Query_goesOnWell_j106 (z_uS S86 19 11 1) (F_Query_sign S)) else (if (F_Query_sign S) = 124 then (Sf_Query_goesOnWell_j106 (z_uS S86 19 11 1) (F_Query_sign S)) else True))))) else (if s0 = 124 then (Sf_Query_takes S 41 ∧ (match F_Query_takes S 41 with | (r123, S123) => (if r123 = 0 then True else (Sf_Query_closes S123 s0 ∧ True)))) else (Sf_Query_takes S 93 ∧ (match F_Query_takes S 93 with | (r146, S146) => (if r146 = 0 then True else (Sf_Query_closes S146 s0 ∧ True))))))))
theorem t_Query_goesOnWell_j24 {X : z_X} {Post : Option z_V → z_W → Prop} (M : z_M X zm_Query_goesOnWell rm_Query_goesOnWell Post) {T' : Nat → Nat × Nat} {G' : Nat → Nat → Option Nat} {n : Nat} {Q : (Int32 × (Nat → Nat → Int32)) → Prop} (S : (Nat → Nat → Int32)) (s0 : Int32) (hQ : ∀ v S', Q (v, S') → Post (some (.inl v)) (zW T' G' S' n)) (K : Q (F_Query_goesOnWell_j24 S s0)) (hs : Sf_Query_goesOnWell_j24 S s0) : z_G X zm_Query_goesOnWell (24, [(0, z_r 19)], [.inl s0], zW T' G' S n, 0, 0) := by
  unfold F_Query_goesOnWell_j24 at K
  unfold Sf_Query_goesOnWell_j24 at hs
  refine z_go2 M.1 24 [(.istore_n 1, 1), (.iload_n 1, 1)] (26, [(1, .inl s0), (0, z_r 19)], [.inl s0], zW T' G' S n, 0, 0) (by decide +kernel) rfl ⟨trivial, trivial, trivial⟩ ?_
  by_cases c26_0 : s0 = (-1)
  · rw [if_pos c26_0] at K hs
    refine z_lookE 68 M.1 (dflt := 117) (ps := #[(-1, 42), (38, 94), (40, 44), (124, 94)]) (len := 42) c26_0 (off := 42) (by decide +kernel) (by decide) (by decide) (by decide) ?_
    refine z_go2 M.1 68 [(.iconst 0, 1)] (69, [(1, .inl s0), (0, z_r 19)], [.inl 0], zW T' G' S n, 0, 0) (by decide +kernel) rfl ⟨trivial, trivial⟩ ?_
    exact z_iret M (by decide +kernel) .boolean rfl rfl (by decide) (by decide) (hQ _ _ K)
  · rw [if_neg c26_0] at K hs
    by_cases c26_1 : s0 = 38
    · rw [if_pos c26_1] at K hs
      refine z_lookE 120 M.1 (dflt := 117) (ps := #[(-1, 42), (38, 94), (40, 44), (124, 94)]) (len := 42) c26_1 (off := 94) (by decide +kernel) (by decide) (by decide) (by decide) ?_
      refine z_go2 M.1 120 [(.aload_n 0, 1), (.bipush 41, 2)] (123, [(1, .inl s0), (0, z_r 19)], [.inl 41, z_r 19], zW T' G' S n, 0, 0) (by decide +kernel) rfl ⟨trivial, trivial, trivial⟩ ?_
      refine z_callV M.1 (av := [.inl 41]) (st := []) (a := 19) (ci := 5) (by decide +kernel) (c_Query_takes T' G' S n 41 hs.1) M.2.1 zl_Query_62 zv_Query_takes rfl rfl rfl ⟨by decide, by decide, by decide, by decide⟩ rfl (Nat.le_of_ble_eq_true rfl) (fun v w' hv => ?_)
      replace hs := hs.2
      rcases hF123 : F_Query_takes S 41 with ⟨r123, S123⟩
      rw [hF123] at K hv hs
      try dsimp only at K hs
      obtain ⟨rfl, rfl⟩ := hv
      show z_G X zm_Query_goesOnWell (126, [(1, .inl s0), (0, z_r 19)], [.inl r123], zW T' G' S123 n, 0, 0)
      refine z_if_eq 141 M.1 (off := 15) (by decide +kernel) (by decide) (fun c126 => ?_) (fun c126 => ?_)
      · rw [if_pos c126] at K hs
        exact z_lvs (lv' := []) [] rfl (t_Query_goesOnWell_j141 M S123 hQ K)
      · rw [if_neg c126] at K hs
        refine z_go2 M.1 129 [(.aload_n 0, 1), (.iload_n 1, 1)] (131, [(1, .inl s0), (0, z_r 19)], [.inl s0, z_r 19], zW T' G' S123 n, 0, 0) (by decide +kernel) rfl ⟨trivial, trivial, trivial⟩ ?_
        refine z_callV M.1 (av := [.inl s0]) (st := []) (a := 19) (ci := 5) (by decide +kernel) (c_Query_closes T' G' S123 n s0 hs.1) M.2.1 zl_Query_100 zv_Query_closes rfl rfl rfl ⟨by decide, by decide, by decide, by decide⟩ rfl (Nat.le_of_ble_eq_true rfl) (fun v w' hv => ?_)
        replace hs := hs.2
        rcases hF131 : F_Query_closes S123 s0 with ⟨r131, S131⟩
        rw [hF131] at K hv
        try dsimp only at K
        obtain ⟨rfl, rfl⟩ := hv
        show z_G X zm_Query_goesOnWell (134, [(1, .inl s0), (0, z_r 19)], [.inl r131], zW T' G' S131 n, 0, 0)
        refine z_if_eq 141 M.1 (off := 7) (by decide +kernel) (by decide) (fun c134 => ?_) (fun c134 => ?_)
        · rw [if_pos c134] at K
          exact z_lvs (lv' := []) [] rfl (t_Query_goesOnWell_j141 M S131 hQ K)
        · rw [if_neg c134] at K
          refine z_go2 M.1 137 [(.iconst 1, 1), (.goto 4, 3)] (142, [(1, .inl s0), (0, z_r 19)], [.inl 1], zW T' G' S131 n, 0, 0) (by decide +kernel) rfl ⟨trivial, trivial, trivial⟩ ?_
          exact z_iret M (by decide +kernel) .boolean rfl rfl (by decide) (by decide) (hQ _ _ K)
    · rw [if_neg c26_1] at K hs
      by_cases c26_2 : s0 = 40
      · rw [if_pos c26_2] at K hs
        refine z_lookE 70 M.1 (dflt := 117) (ps := #[(-1, 42), (38, 94), (40, 44), (124, 94)]) (len := 42) c26_2 (off := 44) (by decide +kernel) (by decide) (by decide) (by decide) ?_
        refine z_go2 M.1 70 [(.aload_n 0, 1)] (71, [(1, .inl s0), (0, z_r 19)], [z_r 19], zW T' G' S n, 0, 0) (by decide +kernel) rfl ⟨trivial, trivial⟩ ?_
        refine z_callV M.1 (av := []) (st := []) (a := 19) (ci := 5) (by decide +kernel) (c_Query_sign T' G' S n hs.1) M.2.1 zl_Query_58 zv_Query_sign rfl rfl rfl ⟨by decide, by decide, by decide, by decide⟩ rfl (Nat.le_of_ble_eq_true rfl) (fun v w' hv => ?_)
        obtain ⟨rfl, rfl⟩ := hv
        replace hs := hs.2
        show z_G X zm_Query_goesOnWell (74, [(1, .inl s0), (0, z_r 19)], [.inl (F_Query_sign S)], zW T' G' S n, 0, 0)
        refine z_go2 M.1 74 [(.istore_n 2, 1), (.aload_n 0, 1), (.getfield 28, 3), (.aload_n 0, 1), (.getfield 41, 3), (.iconst 1, 1), (.isub, 1), (.iload_n 2, 1)] (86, [(2, .inl (F_Query_sign S)), (1, .inl s0), (0, z_r 19)], [.inl (F_Query_sign S), .inl ((S 19 9) - 1), z_r 25], zW T' G' S n, 0, 0) (by decide +kernel) rfl ⟨trivial, trivial, rfl, trivial, rfl, trivial, trivial, trivial, trivial⟩ ?_
        refine z_callS M.1 (av := [z_r 25, .inl ((S 19 9) - 1), .inl (F_Query_sign S)]) (st := []) (by decide +kernel) (c_put (zW T' G' S n) 25 30 rfl (by decide) ((S 19 9) - 1) (F_Query_sign S)) M.2.1 zl_Query_88 zs_T_put ⟨by decide, by decide, by decide, by decide⟩ rfl (Nat.le_of_ble_eq_true rfl) (fun v w' hv => ?_)
        obtain ⟨S86, hF86⟩ : ∃ y, zPut S 25 30 ((S 19 9) - 1) (F_Query_sign S) = y := ⟨_, rfl⟩
        replace hv : v = none ∧ w' = zW T' G' (zPut S 25 30 ((S 19 9) - 1) (F_Query_sign S)) n := hv
        rw [hF86] at K hv hs
        try dsimp only [z_let] at K hs
        obtain ⟨rfl, rfl⟩ := hv
        show z_G X zm_Query_goesOnWell (89, [(2, .inl (F_Query_sign S)), (1, .inl s0), (0, z_r 19)], [], zW T' G' S86 n, 0, 0)
        refine z_go2 M.1 89 [(.aload_n 0, 1), (.iconst 1, 1), (.putfield 47, 3), (.iload_n 2, 1), (.bipush 38, 2)] (97, [(2, .inl (F_Query_sign S)), (1, .inl s0), (0, z_r 19)], [.inl 38, .inl (F_Query_sign S)], zW T' G' (z_uS S86 19 11 1) n, 0, 0) (by decide +kernel) rfl ⟨trivial, trivial, ⟨rfl, Or.inr rfl⟩, trivial, trivial, trivial⟩ ?_
        refine z_icmp_eq 106 M.1 (off := 9) (by decide +kernel) (by decide) (fun c97 => ?_) (fun c97 => ?_)
        · rw [if_pos c97] at K hs
          exact z_lvs (lv' := [(0, z_r 19), (2, .inl (F_Query_sign S))]) [2, 0] rfl (t_Query_goesOnWell_j106 M (z_uS S86 19 11 1) (F_Query_sign S) hQ K hs)
        · rw [if_neg c97] at K hs
          refine z_go2 M.1 100 [(.iload_n 2, 1), (.bipush 124, 2)] (103, [(2, .inl (F_Query_sign S)), (1, .inl s0), (0, z_r 19)], [.inl 124, .inl (F_Query_sign S)], zW T' G' (z_uS S86 19 11 1) n, 0, 0) (by decide +kernel) rfl ⟨trivial, trivial, trivial⟩ ?_
          refine z_icmp_ne 118 M.1 (off := 15) (by decide +kernel) (by decide) (fun c103 => ?_) (fun c103 => ?_)
          · rw [if_neg c103] at K hs
            exact z_lvs (lv' := []) [] rfl (t_Query_goesOnWell_j118 M (z_uS S86 19 11 1) hQ K)
          · rw [if_pos c103] at K hs
            exact z_lvs (lv' := [(0, z_r 19), (2, .inl (F_Query_sign S))]) [2, 0] rfl (t_Query_goesOnWell_j106 M (z_uS S86 19 11 1) (F_Query_sign S) hQ K hs)
      · rw [if_neg c26_2] at K hs
        by_cases c26_3 : s0 = 124
        · rw [if_pos c26_3] at K hs
          refine z_lookE 120 M.1 (dflt := 117) (ps := #[(-1, 42), (38, 94), (40, 44), (124, 94)]) (len := 42) c26_3 (off := 94) (by decide +kernel) (by decide) (by decide) (by decide) ?_
          refine z_go2 M.1 120 [(.aload_n 0, 1), (.bipush 41, 2)] (123, [(1, .inl s0), (0, z_r 19)], [.inl 41, z_r 19], zW T' G' S n, 0, 0) (by decide +kernel) rfl ⟨trivial, trivial, trivial⟩ ?_
          refine z_callV M.1 (av := [.inl 41]) (st := []) (a := 19) (ci := 5) (by decide +kernel) (c_Query_takes T' G' S n 41 hs.1) M.2.1 zl_Query_62 zv_Query_takes rfl rfl rfl ⟨by decide, by decide, by decide, by decide⟩ rfl (Nat.le_of_ble_eq_true rfl) (fun v w' hv => ?_)
          replace hs := hs.2
          rcases hF123 : F_Query_takes S 41 with ⟨r123, S123⟩
          rw [hF123] at K hv hs
          try dsimp only at K hs
          obtain ⟨rfl, rfl⟩ := hv
          show z_G X zm_Query_goesOnWell (126, [(1, .inl s0), (0, z_r 19)], [.inl r123], zW T' G' S123 n, 0, 0)
          refine z_if_eq 141 M.1 (off := 15) (by decide +kernel) (by decide) (fun c126 => ?_) (fun c126 => ?_)
          · rw [if_pos c126] at K hs
            exact z_lvs (lv' := []) [] rfl (t_Query_goesOnWell_j141 M S123 hQ K)
          · rw [if_neg c126] at K hs
            refine z_go2 M.1 129 [(.aload_n 0, 1), (.iload_n 1, 1)] (131, [(1, .inl s0), (0, z_r 19)], [.inl s0, z_r 19], zW T' G' S123 n, 0, 0) (by decide +kernel) rfl ⟨trivial, trivial, trivial⟩ ?_
            refine z_callV M.1 (av := [.inl s0]) (st := []) (a := 19) (ci := 5) (by decide +kernel) (c_Query_closes T' G' S123 n s0 hs.1) M.2.1 zl_Query_100 zv_Query_closes rfl rfl rfl ⟨by decide, by decide, by decide, by decide⟩ rfl (Nat.le_of_ble_eq_true rfl) (fun v w' hv => ?_)
            replace hs := hs.2
            rcases hF131 : F_Query_closes S123 s0 with ⟨r131, S131⟩
            rw [hF131] at K hv
            try dsimp only at K
            obtain ⟨rfl, rfl⟩ := hv
            show z_G X zm_Query_goesOnWell (134, [(1, .inl s0), (0, z_r 19)], [.inl r131], zW T' G' S131 n, 0, 0)
            refine z_if_eq 141 M.1 (off := 7) (by decide +kernel) (by decide) (fun c134 => ?_) (fun c134 => ?_)
            · rw [if_pos c134] at K
              exact z_lvs (lv' := []) [] rfl (t_Query_goesOnWell_j141 M S131 hQ K)
            · rw [if_neg c134] at K
              refine z_go2 M.1 137 [(.iconst 1, 1), (.goto 4, 3)] (142, [(1, .inl s0), (0, z_r 19)], [.inl 1], zW T' G' S131 n, 0, 0) (by decide +kernel) rfl ⟨trivial, trivial, trivial⟩ ?_
              exact z_iret M (by decide +kernel) .boolean rfl rfl (by decide) (by decide) (hQ _ _ K)
        · rw [if_neg c26_3] at K hs
          refine z_lookup 143 M.1 (dflt := 117) (ps := #[(-1, 42), (38, 94), (40, 44), (124, 94)]) (len := 42) (off := 117) (by decide +kernel) (by decide) (by show Op.lookupswitch.offset [(-1, 42), (38, 94), (40, 44), (124, 94)] 117 _ = _; rw [lv_osw c26_0 (k := (-1)) (by decide), lv_osw c26_1 (k := 38) (by decide), lv_osw c26_2 (k := 40) (by decide), lv_osw c26_3 (k := 124) (by decide)]; rfl) (by decide) ?_
          refine z_go2 M.1 143 [(.aload_n 0, 1), (.bipush 93, 2)] (146, [(1, .inl s0), (0, z_r 19)], [.inl 93, z_r 19], zW T' G' S n, 0, 0) (by decide +kernel) rfl ⟨trivial, trivial, trivial⟩ ?_
          refine z_callV M.1 (av := [.inl 93]) (st := []) (a := 19) (ci := 5) (by decide +kernel) (c_Query_takes T' G' S n 93 hs.1) M.2.1 zl_Query_62 zv_Query_takes rfl rfl rfl ⟨by decide, by decide, by decide, by decide⟩ rfl (Nat.le_of_ble_eq_true rfl) (fun v w' hv => ?_)
          replace hs := hs.2
          rcases hF146 : F_Query_takes S 93 with ⟨r146, S146⟩
          rw [hF146] at K hv hs
          try dsimp only at K hs
          obtain ⟨rfl, rfl⟩ := hv
          show z_G X zm_Query_goesOnWell (149, [(1, .inl s0), (0, z_r 19)], [.inl r146], zW T' G' S146 n, 0, 0)
          refine z_if_eq 164 M.1 (off := 15) (by decide +kernel) (by decide) (fun c149 => ?_) (fun c149 => ?_)
          · rw [if_pos c149] at K hs
            exact z_lvs (lv' := []) [] rfl (t_Query_goesOnWell_j164 M S146 hQ K)
          · rw [if_neg c149] at K hs
            refine z_go2 M.1 152 [(.aload_n 0, 1), (.iload_n 1, 1)] (154, [(1, .inl s0), (0, z_r 19)], [.inl s0, z_r 19], zW T' G' S146 n, 0, 0) (by decide +kernel) rfl ⟨trivial, trivial, trivial⟩ ?_
            refine z_callV M.1 (av := [.inl s0]) (st := []) (a := 19) (ci := 5) (by decide +kernel) (c_Query_closes T' G' S146 n s0 hs.1) M.2.1 zl_Query_100 zv_Query_closes rfl rfl rfl ⟨by decide, by decide, by decide, by decide⟩ rfl (Nat.le_of_ble_eq_true rfl) (fun v w' hv => ?_)
            replace hs := hs.2
            rcases hF154 : F_Query_closes S146 s0 with ⟨r154, S154⟩
            rw [hF154] at K hv
            try dsimp only at K
            obtain ⟨rfl, rfl⟩ := hv
            show z_G X zm_Query_goesOnWell (157, [(1, .inl s0), (0, z_r 19)], [.inl r154], zW T' G' S154 n, 0, 0)
            refine z_if_eq 164 M.1 (off := 7) (by decide +kernel) (by decide) (fun c157 => ?_) (fun c157 => ?_)
            · rw [if_pos c157] at K
              exact z_lvs (lv' := []) [] rfl (t_Query_goesOnWell_j164 M S154 hQ K)
            · rw [if_neg c157] at K
              refine z_go2 M.1 160 [(.iconst 1, 1), (.goto 4, 3)] (165, [(1, .inl s0), (0, z_r 19)], [.inl 1], zW T' G' S154 n, 0, 0) (by decide +kernel) rfl ⟨trivial, trivial, trivial⟩ ?_
              exact z_iret M (by decide +kernel) .boolean rfl rfl (by decide) (by decide) (hQ _ _ K)
def F_Query_goesOnWell (S : (Nat → Nat → Int32)) : (Int32 × (Nat → Nat → Int32)) := (if (S 19 9) ≤ 0 then (F_Query_goesOnWell_j24 S (-1)) else (F_Query_goesOnWell_j24 S (zAt (S 25) 30 ((S 19 9) - 1))))
def Sf_Query_goesOnWell (S : (Nat → Nat → Int32)) : Prop := (if (S 19 9) ≤ 0 then (Sf_Query_goesOnWell_j24 S (-1)) else (Sf_Query_goesOnWell_j24 S (zAt (S 25) 30 ((S 19 9) - 1))))
theorem c_Query_goesOnWell (T' : Nat → Nat × Nat) (G' : Nat → Nat → Option Nat) (S : (Nat → Nat → Int32)) (n : Nat) (hs : Sf_Query_goesOnWell S) : z_Run rm_Query_goesOnWell zm_Query_goesOnWell [z_r 19] (zW T' G' S n) (zq (some (.inl (F_Query_goesOnWell S).1)) (zW T' G' (F_Query_goesOnWell S).2 n)) := by
  refine z_body (by decide) zf_Query_ok (Nat.le_of_ble_eq_true rfl) (fun X M => ?_)
  obtain ⟨Q, hQ, K⟩ : ∃ Q : (Int32 × (Nat → Nat → Int32)) → Prop, (∀ v S', Q (v, S') → zq (some (.inl (F_Query_goesOnWell S).1)) (zW T' G' (F_Query_goesOnWell S).2 n) (some (.inl v)) (zW T' G' S' n)) ∧ Q (F_Query_goesOnWell S) := ⟨fun o => F_Query_goesOnWell S = o, fun v S' h => ⟨by rw [h], by rw [h]⟩, rfl⟩
  show z_G X zm_Query_goesOnWell (0, [(0, z_r 19)], [], zW T' G' S n, 0, 0)
  unfold F_Query_goesOnWell at K
  unfold Sf_Query_goesOnWell at hs
  refine z_go2 M.1 0 [(.aload_n 0, 1), (.getfield 41, 3)] (4, [(0, z_r 19)], [.inl (S 19 9)], zW T' G' S n, 0, 0) (by decide +kernel) rfl ⟨trivial, rfl, trivial⟩ ?_
  refine z_if_le 23 M.1 (off := 19) (by decide +kernel) (by decide) (fun c4 => ?_) (fun c4 => ?_)
  · rw [if_pos c4] at K hs
    refine z_go2 M.1 23 [(.iconst (-1), 1)] (24, [(0, z_r 19)], [.inl (-1)], zW T' G' S n, 0, 0) (by decide +kernel) rfl ⟨trivial, trivial⟩ ?_
    exact z_lvs (lv' := [(0, z_r 19)]) [0] rfl (t_Query_goesOnWell_j24 M S (-1) hQ K hs)
  · rw [if_neg c4] at K hs
    refine z_go2 M.1 7 [(.aload_n 0, 1), (.getfield 28, 3), (.aload_n 0, 1), (.getfield 41, 3), (.iconst 1, 1), (.isub, 1)] (17, [(0, z_r 19)], [.inl ((S 19 9) - 1), z_r 25], zW T' G' S n, 0, 0) (by decide +kernel) rfl ⟨trivial, rfl, trivial, rfl, trivial, trivial, trivial⟩ ?_
    refine z_callS M.1 (av := [z_r 25, .inl ((S 19 9) - 1)]) (st := []) (by decide +kernel) (c_at (zW T' G' S n) 25 30 rfl (by decide) ((S 19 9) - 1)) M.2.1 zl_Query_96 zs_T_at ⟨by decide, by decide, by decide, by decide⟩ rfl (Nat.le_of_ble_eq_true rfl) (fun v w' hv => ?_)
    obtain ⟨rfl, rfl⟩ := hv
    show z_G X zm_Query_goesOnWell (20, [(0, z_r 19)], [.inl (zAt (S 25) 30 ((S 19 9) - 1))], zW T' G' S n, 0, 0)
    refine z_go2 M.1 20 [(.goto 4, 3)] (24, [(0, z_r 19)], [.inl (zAt (S 25) 30 ((S 19 9) - 1))], zW T' G' S n, 0, 0) (by decide +kernel) rfl ⟨trivial, trivial⟩ ?_
    exact z_lvs (lv' := [(0, z_r 19)]) [0] rfl (t_Query_goesOnWell_j24 M S (zAt (S 25) 30 ((S 19 9) - 1)) hQ K hs)

-- TrackHouse$Query.compile
abbrev rm_Query_compile : Room := zr 5
def F_Query_compile_L24 : Nat → (Nat → Nat → Int32) → Int32 → Int32 → (Int32 × (Nat → Nat → Int32))
  | 0, S, x1, x2 => (x1, S)
  | f + 1, S, x1, x2 => (if (30 : Int32) ≤ x2 then (x1, S) else (if x1 = 0 then (x1, S) else (if (S 19 7) ≤ (S 19 10) then (x1, S) else (if (S 19 11) = 0 then (match F_Query_goesOnWell S with | (r60, S60) => ((F_Query_compile_L24 f) S60 r60 (x2 + 1))) else (match F_Query_beginsWell S with | (r53, S53) => ((F_Query_compile_L24 f) S53 r53 (x2 + 1)))))))
def Sf_Query_compile_L24 : Nat → (Nat → Nat → Int32) → Int32 → Int32 → Prop
  | 0, _, _, _ => False
  | f + 1, S, x1, x2 => (if (30 : Int32) ≤ x2 then True else (if x1 = 0 then True else (if (S 19 7) ≤ (S 19 10) then True else (if (S 19 11) = 0 then (Sf_Query_goesOnWell S ∧ (match F_Query_goesOnWell S with | (r60, S60) => ((Sf_Query_compile_L24 f) S60 r60 (x2 + 1)))) else (Sf_Query_beginsWell S ∧ (match F_Query_beginsWell S with | (r53, S53) => ((Sf_Query_compile_L24 f) S53 r53 (x2 + 1))))))))
theorem t_Query_compile_L24 {X : z_X} {Post : Option z_V → z_W → Prop} (M : z_M X zm_Query_compile rm_Query_compile Post) {T' : Nat → Nat × Nat} {G' : Nat → Nat → Option Nat} {n : Nat} {Q : (Int32 × (Nat → Nat → Int32)) → Prop}  (hE : ∀ (y1 : Int32) (S' : (Nat → Nat → Int32)), Q (y1, S') → z_G X zm_Query_compile (70, [(0, z_r 19), (1, .inl y1)], [], zW T' G' S' n, 0, 0)) (f : Nat) : ∀ (S : (Nat → Nat → Int32)) (x1 : Int32) (x2 : Int32), Q (F_Query_compile_L24 f S x1 x2) → Sf_Query_compile_L24 f S x1 x2 → z_G X zm_Query_compile (24, [(0, z_r 19), (1, .inl x1), (2, .inl x2)], [], zW T' G' S n, 0, 0) := by
  induction f with
  | zero => intro S x1 x2 K hs; exact False.elim hs
  | succ f hC =>
    intro S x1 x2 K hs
    rw [F_Query_compile_L24] at K
    rw [Sf_Query_compile_L24] at hs
    refine z_go2 M.1 24 [(.iload_n 2, 1), (.bipush 30, 2)] (27, [(0, z_r 19), (1, .inl x1), (2, .inl x2)], [.inl 30, .inl x2], zW T' G' S n, 0, 0) (by decide +kernel) rfl ⟨trivial, trivial, trivial⟩ ?_
    refine z_icmp_ge 70 M.1 (off := 43) (by decide +kernel) (by decide) (fun c27 => ?_) (fun c27 => ?_)
    · rw [if_pos c27] at K hs
      exact z_lvs (lv' := [(0, z_r 19), (1, .inl x1)]) [0, 1] rfl (hE x1 S K)
    · rw [if_neg c27] at K hs
      refine z_go2 M.1 30 [(.iload_n 1, 1)] (31, [(0, z_r 19), (1, .inl x1), (2, .inl x2)], [.inl x1], zW T' G' S n, 0, 0) (by decide +kernel) rfl ⟨trivial, trivial⟩ ?_
      refine z_if_eq 70 M.1 (off := 39) (by decide +kernel) (by decide) (fun c31 => ?_) (fun c31 => ?_)
      · rw [if_pos c31] at K hs
        exact z_lvs (lv' := [(0, z_r 19), (1, .inl x1)]) [0, 1] rfl (hE x1 S K)
      · rw [if_neg c31] at K hs
        refine z_go2 M.1 34 [(.aload_n 0, 1), (.getfield 44, 3), (.aload_n 0, 1), (.getfield 34, 3)] (42, [(0, z_r 19), (1, .inl x1), (2, .inl x2)], [.inl (S 19 7), .inl (S 19 10)], zW T' G' S n, 0, 0) (by decide +kernel) rfl ⟨trivial, rfl, trivial, rfl, trivial⟩ ?_
        refine z_icmp_ge 70 M.1 (off := 28) (by decide +kernel) (by decide) (fun c42 => ?_) (fun c42 => ?_)
        · rw [if_pos c42] at K hs
          exact z_lvs (lv' := [(0, z_r 19), (1, .inl x1)]) [0, 1] rfl (hE x1 S K)
        · rw [if_neg c42] at K hs
          refine z_go2 M.1 45 [(.aload_n 0, 1), (.getfield 47, 3)] (49, [(0, z_r 19), (1, .inl x1), (2, .inl x2)], [.inl (S 19 11)], zW T' G' S n, 0, 0) (by decide +kernel) rfl ⟨trivial, rfl, trivial⟩ ?_
          refine z_if_eq 59 M.1 (off := 10) (by decide +kernel) (by decide) (fun c49 => ?_) (fun c49 => ?_)
          · rw [if_pos c49] at K hs
            refine z_go2 M.1 59 [(.aload_n 0, 1)] (60, [(0, z_r 19), (1, .inl x1), (2, .inl x2)], [z_r 19], zW T' G' S n, 0, 0) (by decide +kernel) rfl ⟨trivial, trivial⟩ ?_
            refine z_callV M.1 (av := []) (st := []) (a := 19) (ci := 5) (by decide +kernel) (c_Query_goesOnWell T' G' S n hs.1) M.2.1 zl_Query_55 zv_Query_goesOnWell rfl rfl rfl ⟨by decide, by decide, by decide, by decide⟩ rfl (Nat.le_of_ble_eq_true rfl) (fun v w' hv => ?_)
            replace hs := hs.2
            rcases hF60 : F_Query_goesOnWell S with ⟨r60, S60⟩
            rw [hF60] at K hv hs
            try dsimp only at K hs
            obtain ⟨rfl, rfl⟩ := hv
            show z_G X zm_Query_compile (63, [(0, z_r 19), (1, .inl x1), (2, .inl x2)], [.inl r60], zW T' G' S60 n, 0, 0)
            refine z_go2 M.1 63 [(.istore_n 1, 1), (.iinc 2 1, 3), (.goto (-43), 3)] (24, [(2, .inl (x2 + 1)), (1, .inl r60), (0, z_r 19)], [], zW T' G' S60 n, 0, 0) (by decide +kernel) rfl ⟨trivial, trivial, trivial, trivial⟩ ?_
            exact z_lvs (lv' := [(0, z_r 19), (1, .inl r60), (2, .inl (x2 + 1))]) [2, 1, 0] rfl (hC S60 r60 (x2 + 1) K hs)
          · rw [if_neg c49] at K hs
            refine z_go2 M.1 52 [(.aload_n 0, 1)] (53, [(0, z_r 19), (1, .inl x1), (2, .inl x2)], [z_r 19], zW T' G' S n, 0, 0) (by decide +kernel) rfl ⟨trivial, trivial⟩ ?_
            refine z_callV M.1 (av := []) (st := []) (a := 19) (ci := 5) (by decide +kernel) (c_Query_beginsWell T' G' S n hs.1) M.2.1 zl_Query_51 zv_Query_beginsWell rfl rfl rfl ⟨by decide, by decide, by decide, by decide⟩ rfl (Nat.le_of_ble_eq_true rfl) (fun v w' hv => ?_)
            replace hs := hs.2
            rcases hF53 : F_Query_beginsWell S with ⟨r53, S53⟩
            rw [hF53] at K hv hs
            try dsimp only at K hs
            obtain ⟨rfl, rfl⟩ := hv
            show z_G X zm_Query_compile (56, [(0, z_r 19), (1, .inl x1), (2, .inl x2)], [.inl r53], zW T' G' S53 n, 0, 0)
            refine z_go2 M.1 56 [(.goto 7, 3), (.istore_n 1, 1), (.iinc 2 1, 3), (.goto (-43), 3)] (24, [(2, .inl (x2 + 1)), (1, .inl r53), (0, z_r 19)], [], zW T' G' S53 n, 0, 0) (by decide +kernel) rfl ⟨trivial, trivial, trivial, trivial, trivial⟩ ?_
            exact z_lvs (lv' := [(0, z_r 19), (1, .inl r53), (2, .inl (x2 + 1))]) [2, 1, 0] rfl (hC S53 r53 (x2 + 1) K hs)
def F_Query_compile (S : (Nat → Nat → Int32)) : (Int32 × (Nat → Nat → Int32)) := (match F_Query_compile_L24 1300 (z_uS (z_uS (z_uS (z_uS S 19 8 0) 19 9 0) 19 10 0) 19 11 1) 1 0 with | (y1_24, S24) => (if y1_24 = 0 then ((S24 19 10), S24) else (if (S24 19 11) = 0 then (if (S24 19 9) = 0 then ((-1), S24) else ((S24 19 10), S24)) else ((S24 19 10), S24))))
def Sf_Query_compile (S : (Nat → Nat → Int32)) : Prop := (Sf_Query_compile_L24 1300 (z_uS (z_uS (z_uS (z_uS S 19 8 0) 19 9 0) 19 10 0) 19 11 1) 1 0 ∧ True)
theorem c_Query_compile (T' : Nat → Nat × Nat) (G' : Nat → Nat → Option Nat) (S : (Nat → Nat → Int32)) (n : Nat) (hs : Sf_Query_compile S) : z_Run rm_Query_compile zm_Query_compile [z_r 19] (zW T' G' S n) (zq (some (.inl (F_Query_compile S).1)) (zW T' G' (F_Query_compile S).2 n)) := by
  refine z_body (by decide) zf_Query_ok (Nat.le_of_ble_eq_true rfl) (fun X M => ?_)
  obtain ⟨Q, hQ, K⟩ : ∃ Q : (Int32 × (Nat → Nat → Int32)) → Prop, (∀ v S', Q (v, S') → zq (some (.inl (F_Query_compile S).1)) (zW T' G' (F_Query_compile S).2 n) (some (.inl v)) (zW T' G' S' n)) ∧ Q (F_Query_compile S) := ⟨fun o => F_Query_compile S = o, fun v S' h => ⟨by rw [h], by rw [h]⟩, rfl⟩
  show z_G X zm_Query_compile (0, [(0, z_r 19)], [], zW T' G' S n, 0, 0)
  unfold F_Query_compile at K
  unfold Sf_Query_compile at hs
  refine z_go2 M.1 0 [(.aload_n 0, 1), (.iconst 0, 1), (.putfield 38, 3), (.aload_n 0, 1), (.iconst 0, 1), (.putfield 41, 3), (.aload_n 0, 1), (.iconst 0, 1), (.putfield 44, 3), (.aload_n 0, 1), (.iconst 1, 1), (.putfield 47, 3), (.iconst 1, 1), (.istore_n 1, 1), (.iconst 0, 1), (.istore_n 2, 1)] (24, [(2, .inl 0), (1, .inl 1), (0, z_r 19)], [], zW T' G' (z_uS (z_uS (z_uS (z_uS S 19 8 0) 19 9 0) 19 10 0) 19 11 1) n, 0, 0) (by decide +kernel) rfl ⟨trivial, trivial, ⟨rfl, trivial⟩, trivial, trivial, ⟨rfl, trivial⟩, trivial, trivial, ⟨rfl, trivial⟩, trivial, trivial, ⟨rfl, Or.inr rfl⟩, trivial, trivial, trivial, trivial, trivial⟩ ?_
  refine z_lvs (lv' := [(0, z_r 19), (1, .inl 1), (2, .inl 0)]) [2, 1, 0] rfl ?_
  refine t_Query_compile_L24 M (Q := fun o => F_Query_compile_L24 1300 (z_uS (z_uS (z_uS (z_uS S 19 8 0) 19 9 0) 19 10 0) 19 11 1) 1 0 = o) (fun y1_24 S24 hL24 => ?_) 1300 (z_uS (z_uS (z_uS (z_uS S 19 8 0) 19 9 0) 19 10 0) 19 11 1) 1 0 rfl hs.1
  replace hs := hs.2
  rw [hL24] at K
  try dsimp only at K
  refine z_go2 M.1 70 [(.iload_n 1, 1)] (71, [(0, z_r 19), (1, .inl y1_24)], [.inl y1_24], zW T' G' S24 n, 0, 0) (by decide +kernel) rfl ⟨trivial, trivial⟩ ?_
  refine z_if_eq 92 M.1 (off := 21) (by decide +kernel) (by decide) (fun c71 => ?_) (fun c71 => ?_)
  · rw [if_pos c71] at K
    refine z_go2 M.1 92 [(.aload_n 0, 1), (.getfield 44, 3)] (96, [(0, z_r 19), (1, .inl y1_24)], [.inl (S24 19 10)], zW T' G' S24 n, 0, 0) (by decide +kernel) rfl ⟨trivial, rfl, trivial⟩ ?_
    exact z_iret M (by decide +kernel) .int rfl rfl (by decide) (by decide) (hQ _ _ K)
  · rw [if_neg c71] at K
    refine z_go2 M.1 74 [(.aload_n 0, 1), (.getfield 47, 3)] (78, [(0, z_r 19), (1, .inl y1_24)], [.inl (S24 19 11)], zW T' G' S24 n, 0, 0) (by decide +kernel) rfl ⟨trivial, rfl, trivial⟩ ?_
    refine z_if_ne 92 M.1 (off := 14) (by decide +kernel) (by decide) (fun c78 => ?_) (fun c78 => ?_)
    · rw [if_neg c78] at K
      refine z_go2 M.1 92 [(.aload_n 0, 1), (.getfield 44, 3)] (96, [(0, z_r 19), (1, .inl y1_24)], [.inl (S24 19 10)], zW T' G' S24 n, 0, 0) (by decide +kernel) rfl ⟨trivial, rfl, trivial⟩ ?_
      exact z_iret M (by decide +kernel) .int rfl rfl (by decide) (by decide) (hQ _ _ K)
    · rw [if_pos c78] at K
      refine z_go2 M.1 81 [(.aload_n 0, 1), (.getfield 41, 3)] (85, [(0, z_r 19), (1, .inl y1_24)], [.inl (S24 19 9)], zW T' G' S24 n, 0, 0) (by decide +kernel) rfl ⟨trivial, rfl, trivial⟩ ?_
      refine z_if_ne 92 M.1 (off := 7) (by decide +kernel) (by decide) (fun c85 => ?_) (fun c85 => ?_)
      · rw [if_neg c85] at K
        refine z_go2 M.1 92 [(.aload_n 0, 1), (.getfield 44, 3)] (96, [(0, z_r 19), (1, .inl y1_24)], [.inl (S24 19 10)], zW T' G' S24 n, 0, 0) (by decide +kernel) rfl ⟨trivial, rfl, trivial⟩ ?_
        exact z_iret M (by decide +kernel) .int rfl rfl (by decide) (by decide) (hQ _ _ K)
      · rw [if_pos c85] at K
        refine z_go2 M.1 88 [(.iconst (-1), 1), (.goto 7, 3)] (96, [(0, z_r 19), (1, .inl y1_24)], [.inl (-1)], zW T' G' S24 n, 0, 0) (by decide +kernel) rfl ⟨trivial, trivial, trivial⟩ ?_
        exact z_iret M (by decide +kernel) .int rfl rfl (by decide) (by decide) (hQ _ _ K)

