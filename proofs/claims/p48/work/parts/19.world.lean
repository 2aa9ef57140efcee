-- TrackHouse$World.size
abbrev rm_World_size : Room := zr 1
def F_World_size (r : Nat) (S : (Nat → Nat → Int32)) : Int32 := (F_bitCount (S r 3))
theorem c_World_size_9 (T' : Nat → Nat × Nat) (G' : Nat → Nat → Option Nat) (S : (Nat → Nat → Int32)) (n : Nat) : z_Run rm_World_size zm_World_size [z_r 9] (zW T' G' S n) (zq (some (.inl (F_World_size 9 S))) (zW T' G' S n)) := by
  refine z_body (by decide) zf_World_ok (Nat.le_of_ble_eq_true rfl) (fun X M => ?_)
  obtain ⟨Q, hQ, K⟩ : ∃ Q : Int32 → Prop, (∀ v, Q v → zq (some (.inl (F_World_size 9 S))) (zW T' G' S n) (some (.inl v)) (zW T' G' S n)) ∧ Q (F_World_size 9 S) := ⟨fun o => F_World_size 9 S = o, fun v h => ⟨by rw [h], rfl⟩, rfl⟩
  show z_G X zm_World_size (0, [(0, z_r 9)], [], zW T' G' S n, 0, 0)
  unfold F_World_size at K
  try simp only [Nat.reduceAdd] at K
  refine z_go2 M.1 0 [(.aload_n 0, 1), (.getfield 21, 3)] (4, [(0, z_r 9)], [.inl (S 9 3)], zW T' G' S n, 0, 0) (by decide +kernel) rfl ⟨trivial, rfl, trivial⟩ ?_
  refine z_callS M.1 (av := [.inl (S 9 3)]) (st := []) (by decide +kernel) (c_bitCount (zW T' G' S n) (S 9 3)) M.2.1 zl_World_31 zs_Integer_bitCount ⟨by decide, by decide, by decide, by decide⟩ rfl (Nat.le_of_ble_eq_true rfl) (fun v w' hv => ?_)
  obtain ⟨rfl, rfl⟩ := hv
  show z_G X zm_World_size (7, [(0, z_r 9)], [.inl (F_bitCount (S 9 3))], zW T' G' S n, 0, 0)
  exact z_iret M (by decide +kernel) .int rfl rfl (by decide) (by decide) (hQ _ K)

-- TrackHouse$World.has
abbrev rm_World_has : Room := zr 0
def F_World_has_j26 (r : Nat) (S : (Nat → Nat → Int32)) : Int32 := 0
theorem t_World_has_j26_9 {X : z_X} {Post : Option z_V → z_W → Prop} (M : z_M X zm_World_has rm_World_has Post) {T' : Nat → Nat × Nat} {G' : Nat → Nat → Option Nat} {n : Nat} {Q : Int32 → Prop} (S : (Nat → Nat → Int32)) (hQ : ∀ v, Q v → Post (some (.inl v)) (zW T' G' S n)) (K : Q (F_World_has_j26 9 S)) : z_G X zm_World_has (26, [], [], zW T' G' S n, 0, 0) := by
  unfold F_World_has_j26 at K
  try simp only [Nat.reduceAdd] at K
  refine z_go2 M.1 26 [(.iconst 0, 1)] (27, [], [.inl 0], zW T' G' S n, 0, 0) (by decide +kernel) rfl ⟨trivial, trivial⟩ ?_
  exact z_iret M (by decide +kernel) .boolean rfl rfl (by decide) (by decide) (hQ _ K)
theorem t_World_has_j26_13 {X : z_X} {Post : Option z_V → z_W → Prop} (M : z_M X zm_World_has rm_World_has Post) {T' : Nat → Nat × Nat} {G' : Nat → Nat → Option Nat} {n : Nat} {Q : Int32 → Prop} (S : (Nat → Nat → Int32)) (hQ : ∀ v, Q v → Post (some (.inl v)) (zW T' G' S n)) (K : Q (F_World_has_j26 13 S)) : z_G X zm_World_has (26, [], [], zW T' G' S n, 0, 0) := by
  unfold F_World_has_j26 at K
  try simp only [Nat.reduceAdd] at K
  refine z_go2 M.1 26 [(.iconst 0, 1)] (27, [], [.inl 0], zW T' G' S n, 0, 0) (by decide +kernel) rfl ⟨trivial, trivial⟩ ?_
  exact z_iret M (by decide +kernel) .boolean rfl rfl (by decide) (by decide) (hQ _ K)
theorem t_World_has_j26_28 {X : z_X} {Post : Option z_V → z_W → Prop} (M : z_M X zm_World_has rm_World_has Post) {T' : Nat → Nat × Nat} {G' : Nat → Nat → Option Nat} {n : Nat} {Q : Int32 → Prop} (S : (Nat → Nat → Int32)) (hQ : ∀ v, Q v → Post (some (.inl v)) (zW T' G' S n)) (K : Q (F_World_has_j26 28 S)) : z_G X zm_World_has (26, [], [], zW T' G' S n, 0, 0) := by
  unfold F_World_has_j26 at K
  try simp only [Nat.reduceAdd] at K
  refine z_go2 M.1 26 [(.iconst 0, 1)] (27, [], [.inl 0], zW T' G' S n, 0, 0) (by decide +kernel) rfl ⟨trivial, trivial⟩ ?_
  exact z_iret M (by decide +kernel) .boolean rfl rfl (by decide) (by decide) (hQ _ K)
def F_World_has (r : Nat) (S : (Nat → Nat → Int32)) (p1 : Int32) : Int32 := (if p1 < 0 then (F_World_has_j26 r S) else (if (30 : Int32) ≤ p1 then (F_World_has_j26 r S) else (if (((S r 3) >>> (p1 &&& 31)) &&& 1) = 1 then 1 else (F_World_has_j26 r S))))
theorem c_World_has_9 (T' : Nat → Nat × Nat) (G' : Nat → Nat → Option Nat) (S : (Nat → Nat → Int32)) (n : Nat) (p1 : Int32) : z_Run rm_World_has zm_World_has [z_r 9, .inl p1] (zW T' G' S n) (zq (some (.inl (F_World_has 9 S p1))) (zW T' G' S n)) := by
  refine z_body (by decide) zf_World_ok (Nat.le_of_ble_eq_true rfl) (fun X M => ?_)
  obtain ⟨Q, hQ, K⟩ : ∃ Q : Int32 → Prop, (∀ v, Q v → zq (some (.inl (F_World_has 9 S p1))) (zW T' G' S n) (some (.inl v)) (zW T' G' S n)) ∧ Q (F_World_has 9 S p1) := ⟨fun o => F_World_has 9 S p1 = o, fun v h => ⟨by rw [h], rfl⟩, rfl⟩
  show z_G X zm_World_has (0, [(0, z_r 9), (1, .inl p1)], [], zW T' G' S n, 0, 0)
  unfold F_World_has at K
  try simp only [Nat.reduceAdd] at K
  refine z_go2 M.1 0 [(.iload_n 1, 1)] (1, [(0, z_r 9), (1, .inl p1)], [.inl p1], zW T' G' S n, 0, 0) (by decide +kernel) rfl ⟨trivial, trivial⟩ ?_
  refine z_if_lt 26 M.1 (off := 25) (by decide +kernel) (by decide) (fun c1 => ?_) (fun c1 => ?_)
  · rw [if_pos c1] at K
    exact z_lvs (lv' := []) [] rfl (t_World_has_j26_9 M S hQ K)
  · rw [if_neg c1] at K
    refine z_go2 M.1 4 [(.iload_n 1, 1), (.bipush 30, 2)] (7, [(0, z_r 9), (1, .inl p1)], [.inl 30, .inl p1], zW T' G' S n, 0, 0) (by decide +kernel) rfl ⟨trivial, trivial, trivial⟩ ?_
    refine z_icmp_ge 26 M.1 (off := 19) (by decide +kernel) (by decide) (fun c7 => ?_) (fun c7 => ?_)
    · rw [if_pos c7] at K
      exact z_lvs (lv' := []) [] rfl (t_World_has_j26_9 M S hQ K)
    · rw [if_neg c7] at K
      refine z_go2 M.1 10 [(.aload_n 0, 1), (.getfield 21, 3), (.iload_n 1, 1), (.ishr, 1), (.iconst 1, 1), (.iand, 1), (.iconst 1, 1)] (19, [(0, z_r 9), (1, .inl p1)], [.inl 1, .inl (((S 9 3) >>> (p1 &&& 31)) &&& 1)], zW T' G' S n, 0, 0) (by decide +kernel) rfl ⟨trivial, rfl, trivial, trivial, trivial, trivial, trivial, trivial⟩ ?_
      refine z_icmp_ne 26 M.1 (off := 7) (by decide +kernel) (by decide) (fun c19 => ?_) (fun c19 => ?_)
      · rw [if_neg c19] at K
        exact z_lvs (lv' := []) [] rfl (t_World_has_j26_9 M S hQ K)
      · rw [if_pos c19] at K
        refine z_go2 M.1 22 [(.iconst 1, 1), (.goto 4, 3)] (27, [(0, z_r 9), (1, .inl p1)], [.inl 1], zW T' G' S n, 0, 0) (by decide +kernel) rfl ⟨trivial, trivial, trivial⟩ ?_
        exact z_iret M (by decide +kernel) .boolean rfl rfl (by decide) (by decide) (hQ _ K)
theorem c_World_has_13 (T' : Nat → Nat × Nat) (G' : Nat → Nat → Option Nat) (S : (Nat → Nat → Int32)) (n : Nat) (p1 : Int32) : z_Run rm_World_has zm_World_has [z_r 13, .inl p1] (zW T' G' S n) (zq (some (.inl (F_World_has 13 S p1))) (zW T' G' S n)) := by
  refine z_body (by decide) zf_World_ok (Nat.le_of_ble_eq_true rfl) (fun X M => ?_)
  obtain ⟨Q, hQ, K⟩ : ∃ Q : Int32 → Prop, (∀ v, Q v → zq (some (.inl (F_World_has 13 S p1))) (zW T' G' S n) (some (.inl v)) (zW T' G' S n)) ∧ Q (F_World_has 13 S p1) := ⟨fun o => F_World_has 13 S p1 = o, fun v h => ⟨by rw [h], rfl⟩, rfl⟩
  show z_G X zm_World_has (0, [(0, z_r 13), (1, .inl p1)], [], zW T' G' S n, 0, 0)
  unfold F_World_has at K
  try simp only [Nat.reduceAdd] at K
  refine z_go2 M.1 0 [(.iload_n 1, 1)] (1, [(0, z_r 13), (1, .inl p1)], [.inl p1], zW T' G' S n, 0, 0) (by decide +kernel) rfl ⟨trivial, trivial⟩ ?_
  refine z_if_lt 26 M.1 (off := 25) (by decide +kernel) (by decide) (fun c1 => ?_) (fun c1 => ?_)
  · rw [if_pos c1] at K
    exact z_lvs (lv' := []) [] rfl (t_World_has_j26_13 M S hQ K)
  · rw [if_neg c1] at K
    refine z_go2 M.1 4 [(.iload_n 1, 1), (.bipush 30, 2)] (7, [(0, z_r 13), (1, .inl p1)], [.inl 30, .inl p1], zW T' G' S n, 0, 0) (by decide +kernel) rfl ⟨trivial, trivial, trivial⟩ ?_
    refine z_icmp_ge 26 M.1 (off := 19) (by decide +kernel) (by decide) (fun c7 => ?_) (fun c7 => ?_)
    · rw [if_pos c7] at K
      exact z_lvs (lv' := []) [] rfl (t_World_has_j26_13 M S hQ K)
    · rw [if_neg c7] at K
      refine z_go2 M.1 10 [(.aload_n 0, 1), (.getfield 21, 3), (.iload_n 1, 1), (.ishr, 1), (.iconst 1, 1), (.iand, 1), (.iconst 1, 1)] (19, [(0, z_r 13), (1, .inl p1)], [.inl 1, .inl (((S 13 3) >>> (p1 &&& 31)) &&& 1)], zW T' G' S n, 0, 0) (by decide +kernel) rfl ⟨trivial, rfl, trivial, trivial, trivial, trivial, trivial, trivial⟩ ?_
      refine z_icmp_ne 26 M.1 (off := 7) (by decide +kernel) (by decide) (fun c19 => ?_) (fun c19 => ?_)
      · rw [if_neg c19] at K
        exact z_lvs (lv' := []) [] rfl (t_World_has_j26_13 M S hQ K)
      · rw [if_pos c19] at K
        refine z_go2 M.1 22 [(.iconst 1, 1), (.goto 4, 3)] (27, [(0, z_r 13), (1, .inl p1)], [.inl 1], zW T' G' S n, 0, 0) (by decide +kernel) rfl ⟨trivial, trivial, trivial⟩ ?_
        exact z_iret M (by decide +kernel) .boolean rfl rfl (by decide) (by decide) (hQ _ K)
theorem c_World_has_28 (T' : Nat → Nat × Nat) (G' : Nat → Nat → Option Nat) (S : (Nat → Nat → Int32)) (n : Nat) (p1 : Int32) : z_Run rm_World_has zm_World_has [z_r 28, .inl p1] (zW T' G' S n) (zq (some (.inl (F_World_has 28 S p1))) (zW T' G' S n)) := by
  refine z_body (by decide) zf_World_ok (Nat.le_of_ble_eq_true rfl) (fun X M => ?_)
  obtain ⟨Q, hQ, K⟩ : ∃ Q : Int32 → Prop, (∀ v, Q v → zq (some (.inl (F_World_has 28 S p1))) (zW T' G' S n) (some (.inl v)) (zW T' G' S n)) ∧ Q (F_World_has 28 S p1) := ⟨fun o => F_World_has 28 S p1 = o, fun v h => ⟨by rw [h], rfl⟩, rfl⟩
  show z_G X zm_World_has (0, [(0, z_r 28), (1, .inl p1)], [], zW T' G' S n, 0, 0)
  unfold F_World_has at K
  try simp only [Nat.reduceAdd] at K
  refine z_go2 M.1 0 [(.iload_n 1, 1)] (1, [(0, z_r 28), (1, .inl p1)], [.inl p1], zW T' G' S n, 0, 0) (by decide +kernel) rfl ⟨trivial, trivial⟩ ?_
  refine z_if_lt 26 M.1 (off := 25) (by decide +kernel) (by decide) (fun c1 => ?_) (fun c1 => ?_)
  · rw [if_pos c1] at K
    exact z_lvs (lv' := []) [] rfl (t_World_has_j26_28 M S hQ K)
  · rw [if_neg c1] at K
    refine z_go2 M.1 4 [(.iload_n 1, 1), (.bipush 30, 2)] (7, [(0, z_r 28), (1, .inl p1)], [.inl 30, .inl p1], zW T' G' S n, 0, 0) (by decide +kernel) rfl ⟨trivial, trivial, trivial⟩ ?_
    refine z_icmp_ge 26 M.1 (off := 19) (by decide +kernel) (by decide) (fun c7 => ?_) (fun c7 => ?_)
    · rw [if_pos c7] at K
      exact z_lvs (lv' := []) [] rfl (t_World_has_j26_28 M S hQ K)
    · rw [if_neg c7] at K
      refine z_go2 M.1 10 [(.aload_n 0, 1), (.getfield 21, 3), (.iload_n 1, 1), (.ishr, 1), (.iconst 1, 1), (.iand, 1), (.iconst 1, 1)] (19, [(0, z_r 28), (1, .inl p1)], [.inl 1, .inl (((S 28 3) >>> (p1 &&& 31)) &&& 1)], zW T' G' S n, 0, 0) (by decide +kernel) rfl ⟨trivial, rfl, trivial, trivial, trivial, trivial, trivial, trivial⟩ ?_
      refine z_icmp_ne 26 M.1 (off := 7) (by decide +kernel) (by decide) (fun c19 => ?_) (fun c19 => ?_)
      · rw [if_neg c19] at K
        exact z_lvs (lv' := []) [] rfl (t_World_has_j26_28 M S hQ K)
      · rw [if_pos c19] at K
        refine z_go2 M.1 22 [(.iconst 1, 1), (.goto 4, 3)] (27, [(0, z_r 28), (1, .inl p1)], [.inl 1], zW T' G' S n, 0, 0) (by decide +kernel) rfl ⟨trivial, trivial, trivial⟩ ?_
        exact z_iret M (by decide +kernel) .boolean rfl rfl (by decide) (by decide) (hQ _ K)

-- TrackHouse$World.cell
abbrev rm_World_cell : Room := zr 0
def F_World_cell_j56 (r : Nat) (S : (Nat → Nat → Int32)) : Int32 := (-1)
theorem t_World_cell_j56_9 {X : z_X} {Post : Option z_V → z_W → Prop} (M : z_M X zm_World_cell rm_World_cell Post) {T' : Nat → Nat × Nat} {G' : Nat → Nat → Option Nat} {n : Nat} {Q : Int32 → Prop} (S : (Nat → Nat → Int32)) (hQ : ∀ v, Q v → Post (some (.inl v)) (zW T' G' S n)) (K : Q (F_World_cell_j56 9 S)) : z_G X zm_World_cell (56, [], [], zW T' G' S n, 0, 0) := by
  unfold F_World_cell_j56 at K
  try simp only [Nat.reduceAdd] at K
  refine z_go2 M.1 56 [(.iconst (-1), 1)] (57, [], [.inl (-1)], zW T' G' S n, 0, 0) (by decide +kernel) rfl ⟨trivial, trivial⟩ ?_
  exact z_iret M (by decide +kernel) .int rfl rfl (by decide) (by decide) (hQ _ K)
theorem t_World_cell_j56_13 {X : z_X} {Post : Option z_V → z_W → Prop} (M : z_M X zm_World_cell rm_World_cell Post) {T' : Nat → Nat × Nat} {G' : Nat → Nat → Option Nat} {n : Nat} {Q : Int32 → Prop} (S : (Nat → Nat → Int32)) (hQ : ∀ v, Q v → Post (some (.inl v)) (zW T' G' S n)) (K : Q (F_World_cell_j56 13 S)) : z_G X zm_World_cell (56, [], [], zW T' G' S n, 0, 0) := by
  unfold F_World_cell_j56 at K
  try simp only [Nat.reduceAdd] at K
  refine z_go2 M.1 56 [(.iconst (-1), 1)] (57, [], [.inl (-1)], zW T' G' S n, 0, 0) (by decide +kernel) rfl ⟨trivial, trivial⟩ ?_
  exact z_iret M (by decide +kernel) .int rfl rfl (by decide) (by decide) (hQ _ K)
theorem t_World_cell_j56_28 {X : z_X} {Post : Option z_V → z_W → Prop} (M : z_M X zm_World_cell rm_World_cell Post) {T' : Nat → Nat × Nat} {G' : Nat → Nat → Option Nat} {n : Nat} {Q : Int32 → Prop} (S : (Nat → Nat → Int32)) (hQ : ∀ v, Q v → Post (some (.inl v)) (zW T' G' S n)) (K : Q (F_World_cell_j56 28 S)) : z_G X zm_World_cell (56, [], [], zW T' G' S n, 0, 0) := by
  unfold F_World_cell_j56 at K
  try simp only [Nat.reduceAdd] at K
  refine z_go2 M.1 56 [(.iconst (-1), 1)] (57, [], [.inl (-1)], zW T' G' S n, 0, 0) (by decide +kernel) rfl ⟨trivial, trivial⟩ ?_
  exact z_iret M (by decide +kernel) .int rfl rfl (by decide) (by decide) (hQ _ K)
def F_World_cell_j27 (r : Nat) (S : (Nat → Nat → Int32)) (x1 : Int32) (x2 : Int32) (s0 : Int32) : Int32 := (if s0 = 0 then (F_World_cell_j56 r S) else (if x2 < 0 then (F_World_cell_j56 r S) else (if (10 : Int32) ≤ x2 then (F_World_cell_j56 r S) else (S (r + 1) ((x1 * 10) + x2).toNatClampNeg))))
def Sf_World_cell_j27 (r : Nat) (S : (Nat → Nat → Int32)) (x1 : Int32) (x2 : Int32) (s0 : Int32) : Prop := (if s0 = 0 then True else (if x2 < 0 then True else (if (10 : Int32) ≤ x2 then True else ((vp_in ((x1 * 10) + x2) 300) ∧ True))))
theorem t_World_cell_j27_9 {X : z_X} {Post : Option z_V → z_W → Prop} (M : z_M X zm_World_cell rm_World_cell Post) {T' : Nat → Nat × Nat} {G' : Nat → Nat → Option Nat} {n : Nat} {Q : Int32 → Prop} (S : (Nat → Nat → Int32)) (x1 : Int32) (x2 : Int32) (s0 : Int32) (hQ : ∀ v, Q v → Post (some (.inl v)) (zW T' G' S n)) (K : Q (F_World_cell_j27 9 S x1 x2 s0)) (hs : Sf_World_cell_j27 9 S x1 x2 s0) : z_G X zm_World_cell (27, [(0, z_r 9), (1, .inl x1), (2, .inl x2)], [.inl s0], zW T' G' S n, 0, 0) := by
  unfold F_World_cell_j27 at K
  unfold Sf_World_cell_j27 at hs
  try simp only [Nat.reduceAdd] at K hs
  refine z_go2 M.1 27 [(.istore_n 3, 1), (.iload_n 3, 1)] (29, [(3, .inl s0), (0, z_r 9), (1, .inl x1), (2, .inl x2)], [.inl s0], zW T' G' S n, 0, 0) (by decide +kernel) rfl ⟨trivial, trivial, trivial⟩ ?_
  refine z_if_eq 56 M.1 (off := 27) (by decide +kernel) (by decide) (fun c29 => ?_) (fun c29 => ?_)
  · rw [if_pos c29] at K hs
    exact z_lvs (lv' := []) [] rfl (t_World_cell_j56_9 M S hQ K)
  · rw [if_neg c29] at K hs
    refine z_go2 M.1 32 [(.iload_n 2, 1)] (33, [(3, .inl s0), (0, z_r 9), (1, .inl x1), (2, .inl x2)], [.inl x2], zW T' G' S n, 0, 0) (by decide +kernel) rfl ⟨trivial, trivial⟩ ?_
    refine z_if_lt 56 M.1 (off := 23) (by decide +kernel) (by decide) (fun c33 => ?_) (fun c33 => ?_)
    · rw [if_pos c33] at K hs
      exact z_lvs (lv' := []) [] rfl (t_World_cell_j56_9 M S hQ K)
    · rw [if_neg c33] at K hs
      refine z_go2 M.1 36 [(.iload_n 2, 1), (.bipush 10, 2)] (39, [(3, .inl s0), (0, z_r 9), (1, .inl x1), (2, .inl x2)], [.inl 10, .inl x2], zW T' G' S n, 0, 0) (by decide +kernel) rfl ⟨trivial, trivial, trivial⟩ ?_
      refine z_icmp_ge 56 M.1 (off := 17) (by decide +kernel) (by decide) (fun c39 => ?_) (fun c39 => ?_)
      · rw [if_pos c39] at K hs
        exact z_lvs (lv' := []) [] rfl (t_World_cell_j56_9 M S hQ K)
      · rw [if_neg c39] at K hs
        refine z_go2 M.1 42 [(.aload_n 0, 1), (.getfield 9, 3), (.iload_n 1, 1), (.bipush 10, 2), (.imul, 1), (.iload_n 2, 1), (.iadd, 1), (.iaload, 1), (.goto 4, 3)] (57, [(3, .inl s0), (0, z_r 9), (1, .inl x1), (2, .inl x2)], [.inl (S 10 ((x1 * 10) + x2).toNatClampNeg)], zW T' G' S n, 0, 0) (by decide +kernel) rfl ⟨trivial, rfl, trivial, trivial, trivial, trivial, trivial, ⟨rfl, hs.1⟩, trivial, trivial⟩ ?_
        replace hs := hs.2
        exact z_iret M (by decide +kernel) .int rfl rfl (by decide) (by decide) (hQ _ K)
theorem t_World_cell_j27_13 {X : z_X} {Post : Option z_V → z_W → Prop} (M : z_M X zm_World_cell rm_World_cell Post) {T' : Nat → Nat × Nat} {G' : Nat → Nat → Option Nat} {n : Nat} {Q : Int32 → Prop} (S : (Nat → Nat → Int32)) (x1 : Int32) (x2 : Int32) (s0 : Int32) (hQ : ∀ v, Q v → Post (some (.inl v)) (zW T' G' S n)) (K : Q (F_World_cell_j27 13 S x1 x2 s0)) (hs : Sf_World_cell_j27 13 S x1 x2 s0) : z_G X zm_World_cell (27, [(0, z_r 13), (1, .inl x1), (2, .inl x2)], [.inl s0], zW T' G' S n, 0, 0) := by
  unfold F_World_cell_j27 at K
  unfold Sf_World_cell_j27 at hs
  try simp only [Nat.reduceAdd] at K hs
  refine z_go2 M.1 27 [(.istore_n 3, 1), (.iload_n 3, 1)] (29, [(3, .inl s0), (0, z_r 13), (1, .inl x1), (2, .inl x2)], [.inl s0], zW T' G' S n, 0, 0) (by decide +kernel) rfl ⟨trivial, trivial, trivial⟩ ?_
  refine z_if_eq 56 M.1 (off := 27) (by decide +kernel) (by decide) (fun c29 => ?_) (fun c29 => ?_)
  · rw [if_pos c29] at K hs
    exact z_lvs (lv' := []) [] rfl (t_World_cell_j56_13 M S hQ K)
  · rw [if_neg c29] at K hs
    refine z_go2 M.1 32 [(.iload_n 2, 1)] (33, [(3, .inl s0), (0, z_r 13), (1, .inl x1), (2, .inl x2)], [.inl x2], zW T' G' S n, 0, 0) (by decide +kernel) rfl ⟨trivial, trivial⟩ ?_
    refine z_if_lt 56 M.1 (off := 23) (by decide +kernel) (by decide) (fun c33 => ?_) (fun c33 => ?_)
    · rw [if_pos c33] at K hs
      exact z_lvs (lv' := []) [] rfl (t_World_cell_j56_13 M S hQ K)
    · rw [if_neg c33] at K hs
      refine z_go2 M.1 36 [(.iload_n 2, 1), (.bipush 10, 2)] (39, [(3, .inl s0), (0, z_r 13), (1, .inl x1), (2, .inl x2)], [.inl 10, .inl x2], zW T' G' S n, 0, 0) (by decide +kernel) rfl ⟨trivial, trivial, trivial⟩ ?_
      refine z_icmp_ge 56 M.1 (off := 17) (by decide +kernel) (by decide) (fun c39 => ?_) (fun c39 => ?_)
      · rw [if_pos c39] at K hs
        exact z_lvs (lv' := []) [] rfl (t_World_cell_j56_13 M S hQ K)
      · rw [if_neg c39] at K hs
        refine z_go2 M.1 42 [(.aload_n 0, 1), (.getfield 9, 3), (.iload_n 1, 1), (.bipush 10, 2), (.imul, 1), (.iload_n 2, 1), (.iadd, 1), (.iaload, 1), (.goto 4, 3)] (57, [(3, .inl s0), (0, z_r 13), (1, .inl x1), (2, .inl x2)], [.inl (S 14 ((x1 * 10) + x2).toNatClampNeg)], zW T' G' S n, 0, 0) (by decide +kernel) rfl ⟨trivial, rfl, trivial, trivial, trivial, trivial, trivial, ⟨rfl, hs.1⟩, trivial, trivial⟩ ?_
        replace hs := hs.2
        exact z_iret M (by decide +kernel) .int rfl rfl (by decide) (by decide) (hQ _ K)
theorem t_World_cell_j27_28 {X : z_X} {Post : Option z_V → z_W → Prop} (M : z_M X zm_World_cell rm_World_cell Post) {T' : Nat → Nat × Nat} {G' : Nat → Nat → Option Nat} {n : Nat} {Q : Int32 → Prop} (S : (Nat → Nat → Int32)) (x1 : Int32) (x2 : Int32) (s0 : Int32) (hQ : ∀ v, Q v → Post (some (.inl v)) (zW T' G' S n)) (K : Q (F_World_cell_j27 28 S x1 x2 s0)) (hs : Sf_World_cell_j27 28 S x1 x2 s0) : z_G X zm_World_cell (27, [(0, z_r 28), (1, .inl x1), (2, .inl x2)], [.inl s0], zW T' G' S n, 0, 0) := by
  unfold F_World_cell_j27 at K
  unfold Sf_World_cell_j27 at hs
  try simp only [Nat.reduceAdd] at K hs
  refine z_go2 M.1 27 [(.istore_n 3, 1), (.iload_n 3, 1)] (29, [(3, .inl s0), (0, z_r 28), (1, .inl x1), (2, .inl x2)], [.inl s0], zW T' G' S n, 0, 0) (by decide +kernel) rfl ⟨trivial, trivial, trivial⟩ ?_
  refine z_if_eq 56 M.1 (off := 27) (by decide +kernel) (by decide) (fun c29 => ?_) (fun c29 => ?_)
  · rw [if_pos c29] at K hs
    exact z_lvs (lv' := []) [] rfl (t_World_cell_j56_28 M S hQ K)
  · rw [if_neg c29] at K hs
    refine z_go2 M.1 32 [(.iload_n 2, 1)] (33, [(3, .inl s0), (0, z_r 28), (1, .inl x1), (2, .inl x2)], [.inl x2], zW T' G' S n, 0, 0) (by decide +kernel) rfl ⟨trivial, trivial⟩ ?_
    refine z_if_lt 56 M.1 (off := 23) (by decide +kernel) (by decide) (fun c33 => ?_) (fun c33 => ?_)
    · rw [if_pos c33] at K hs
      exact z_lvs (lv' := []) [] rfl (t_World_cell_j56_28 M S hQ K)
    · rw [if_neg c33] at K hs
      refine z_go2 M.1 36 [(.iload_n 2, 1), (.bipush 10, 2)] (39, [(3, .inl s0), (0, z_r 28), (1, .inl x1), (2, .inl x2)], [.inl 10, .inl x2], zW T' G' S n, 0, 0) (by decide +kernel) rfl ⟨trivial, trivial, trivial⟩ ?_
      refine z_icmp_ge 56 M.1 (off := 17) (by decide +kernel) (by decide) (fun c39 => ?_) (fun c39 => ?_)
      · rw [if_pos c39] at K hs
        exact z_lvs (lv' := []) [] rfl (t_World_cell_j56_28 M S hQ K)
      · rw [if_neg c39] at K hs
        refine z_go2 M.1 42 [(.aload_n 0, 1), (.getfield 9, 3), (.iload_n 1, 1), (.bipush 10, 2), (.imul, 1), (.iload_n 2, 1), (.iadd, 1), (.iaload, 1), (.goto 4, 3)] (57, [(3, .inl s0), (0, z_r 28), (1, .inl x1), (2, .inl x2)], [.inl (S 29 ((x1 * 10) + x2).toNatClampNeg)], zW T' G' S n, 0, 0) (by decide +kernel) rfl ⟨trivial, rfl, trivial, trivial, trivial, trivial, trivial, ⟨rfl, hs.1⟩, trivial, trivial⟩ ?_
        replace hs := hs.2
        exact z_iret M (by decide +kernel) .int rfl rfl (by decide) (by decide) (hQ _ K)
def F_World_cell_j26 (r : Nat) (S : (Nat → Nat → Int32)) (x1 : Int32) (x2 : Int32) : Int32 := (F_World_cell_j27 r S x1 x2 0)
def Sf_World_cell_j26 (r : Nat) (S : (Nat → Nat → Int32)) (x1 : Int32) (x2 : Int32) : Prop := (Sf_World_cell_j27 r S x1 x2 0)
theorem t_World_cell_j26_9 {X : z_X} {Post : Option z_V → z_W → Prop} (M : z_M X zm_World_cell rm_World_cell Post) {T' : Nat → Nat × Nat} {G' : Nat → Nat → Option Nat} {n : Nat} {Q : Int32 → Prop} (S : (Nat → Nat → Int32)) (x1 : Int32) (x2 : Int32) (hQ : ∀ v, Q v → Post (some (.inl v)) (zW T' G' S n)) (K : Q (F_World_cell_j26 9 S x1 x2)) (hs : Sf_World_cell_j26 9 S x1 x2) : z_G X zm_World_cell (26, [(0, z_r 9), (1, .inl x1), (2, .inl x2)], [], zW T' G' S n, 0, 0) := by
  unfold F_World_cell_j26 at K
  unfold Sf_World_cell_j26 at hs
  try simp only [Nat.reduceAdd] at K hs
  refine z_go2 M.1 26 [(.iconst 0, 1)] (27, [(0, z_r 9), (1, .inl x1), (2, .inl x2)], [.inl 0], zW T' G' S n, 0, 0) (by decide +kernel) rfl ⟨trivial, trivial⟩ ?_
  exact z_lvs (lv' := [(0, z_r 9), (1, .inl x1), (2, .inl x2)]) [0, 1, 2] rfl (t_World_cell_j27_9 M S x1 x2 0 hQ K hs)
theorem t_World_cell_j26_13 {X : z_X} {Post : Option z_V → z_W → Prop} (M : z_M X zm_World_cell rm_World_cell Post) {T' : Nat → Nat × Nat} {G' : Nat → Nat → Option Nat} {n : Nat} {Q : Int32 → Prop} (S : (Nat → Nat → Int32)) (x1 : Int32) (x2 : Int32) (hQ : ∀ v, Q v → Post (some (.inl v)) (zW T' G' S n)) (K : Q (F_World_cell_j26 13 S x1 x2)) (hs : Sf_World_cell_j26 13 S x1 x2) : z_G X zm_World_cell (26, [(0, z_r 13), (1, .inl x1), (2, .inl x2)], [], zW T' G' S n, 0, 0) := by
  unfold F_World_cell_j26 at K
  unfold Sf_World_cell_j26 at hs
  try simp only [Nat.reduceAdd] at K hs
  refine z_go2 M.1 26 [(.iconst 0, 1)] (27, [(0, z_r 13), (1, .inl x1), (2, .inl x2)], [.inl 0], zW T' G' S n, 0, 0) (by decide +kernel) rfl ⟨trivial, trivial⟩ ?_
  exact z_lvs (lv' := [(0, z_r 13), (1, .inl x1), (2, .inl x2)]) [0, 1, 2] rfl (t_World_cell_j27_13 M S x1 x2 0 hQ K hs)
theorem t_World_cell_j26_28 {X : z_X} {Post : Option z_V → z_W → Prop} (M : z_M X zm_World_cell rm_World_cell Post) {T' : Nat → Nat × Nat} {G' : Nat → Nat → Option Nat} {n : Nat} {Q : Int32 → Prop} (S : (Nat → Nat → Int32)) (x1 : Int32) (x2 : Int32) (hQ : ∀ v, Q v → Post (some (.inl v)) (zW T' G' S n)) (K : Q (F_World_cell_j26 28 S x1 x2)) (hs : Sf_World_cell_j26 28 S x1 x2) : z_G X zm_World_cell (26, [(0, z_r 28), (1, .inl x1), (2, .inl x2)], [], zW T' G' S n, 0, 0) := by
  unfold F_World_cell_j26 at K
  unfold Sf_World_cell_j26 at hs
  try simp only [Nat.reduceAdd] at K hs
  refine z_go2 M.1 26 [(.iconst 0, 1)] (27, [(0, z_r 28), (1, .inl x1), (2, .inl x2)], [.inl 0], zW T' G' S n, 0, 0) (by decide +kernel) rfl ⟨trivial, trivial⟩ ?_
  exact z_lvs (lv' := [(0, z_r 28), (1, .inl x1), (2, .inl x2)]) [0, 1, 2] rfl (t_World_cell_j27_28 M S x1 x2 0 hQ K hs)
def F_World_cell (r : Nat) (S : (Nat → Nat → Int32)) (p1 : Int32) (p2 : Int32) : Int32 := (if p1 < 0 then (F_World_cell_j26 r S p1 p2) else (if (30 : Int32) ≤ p1 then (F_World_cell_j26 r S p1 p2) else (if (((S r 3) >>> (p1 &&& 31)) &&& 1) = 1 then (F_World_cell_j27 r S p1 p2 1) else (F_World_cell_j26 r S p1 p2))))
def Sf_World_cell (r : Nat) (S : (Nat → Nat → Int32)) (p1 : Int32) (p2 : Int32) : Prop := (if p1 < 0 then (Sf_World_cell_j26 r S p1 p2) else (if (30 : Int32) ≤ p1 then (Sf_World_cell_j26 r S p1 p2) else (if (((S r 3) >>> (p1 &&& 31)) &&& 1) = 1 then (Sf_World_cell_j27 r S p1 p2 1) else (Sf_World_cell_j26 r S p1 p2))))
theorem c_World_cell_9 (T' : Nat → Nat × Nat) (G' : Nat → Nat → Option Nat) (S : (Nat → Nat → Int32)) (n : Nat) (p1 : Int32) (p2 : Int32) (hs : Sf_World_cell 9 S p1 p2) : z_Run rm_World_cell zm_World_cell [z_r 9, .inl p1, .inl p2] (zW T' G' S n) (zq (some (.inl (F_World_cell 9 S p1 p2))) (zW T' G' S n)) := by
  refine z_body (by decide) zf_World_ok (Nat.le_of_ble_eq_true rfl) (fun X M => ?_)
  obtain ⟨Q, hQ, K⟩ : ∃ Q : Int32 → Prop, (∀ v, Q v → zq (some (.inl (F_World_cell 9 S p1 p2))) (zW T' G' S n) (some (.inl v)) (zW T' G' S n)) ∧ Q (F_World_cell 9 S p1 p2) := ⟨fun o => F_World_cell 9 S p1 p2 = o, fun v h => ⟨by rw [h], rfl⟩, rfl⟩
  show z_G X zm_World_cell (0, [(0, z_r 9), (1, .inl p1), (2, .inl p2)], [], zW T' G' S n, 0, 0)
  unfold F_World_cell at K
  unfold Sf_World_cell at hs
  try simp only [Nat.reduceAdd] at K hs
  refine z_go2 M.1 0 [(.iload_n 1, 1)] (1, [(0, z_r 9), (1, .inl p1), (2, .inl p2)], [.inl p1], zW T' G' S n, 0, 0) (by decide +kernel) rfl ⟨trivial, trivial⟩ ?_
  refine z_if_lt 26 M.1 (off := 25) (by decide +kernel) (by decide) (fun c1 => ?_) (fun c1 => ?_)
  · rw [if_pos c1] at K hs
    exact z_lvs (lv' := [(0, z_r 9), (1, .inl p1), (2, .inl p2)]) [0, 1, 2] rfl (t_World_cell_j26_9 M S p1 p2 hQ K hs)
  · rw [if_neg c1] at K hs
    refine z_go2 M.1 4 [(.iload_n 1, 1), (.bipush 30, 2)] (7, [(0, z_r 9), (1, .inl p1), (2, .inl p2)], [.inl 30, .inl p1], zW T' G' S n, 0, 0) (by decide +kernel) rfl ⟨trivial, trivial, trivial⟩ ?_
    refine z_icmp_ge 26 M.1 (off := 19) (by decide +kernel) (by decide) (fun c7 => ?_) (fun c7 => ?_)
    · rw [if_pos c7] at K hs
      exact z_lvs (lv' := [(0, z_r 9), (1, .inl p1), (2, .inl p2)]) [0, 1, 2] rfl (t_World_cell_j26_9 M S p1 p2 hQ K hs)
    · rw [if_neg c7] at K hs
      refine z_go2 M.1 10 [(.aload_n 0, 1), (.getfield 21, 3), (.iload_n 1, 1), (.ishr, 1), (.iconst 1, 1), (.iand, 1), (.iconst 1, 1)] (19, [(0, z_r 9), (1, .inl p1), (2, .inl p2)], [.inl 1, .inl (((S 9 3) >>> (p1 &&& 31)) &&& 1)], zW T' G' S n, 0, 0) (by decide +kernel) rfl ⟨trivial, rfl, trivial, trivial, trivial, trivial, trivial, trivial⟩ ?_
      refine z_icmp_ne 26 M.1 (off := 7) (by decide +kernel) (by decide) (fun c19 => ?_) (fun c19 => ?_)
      · rw [if_neg c19] at K hs
        exact z_lvs (lv' := [(0, z_r 9), (1, .inl p1), (2, .inl p2)]) [0, 1, 2] rfl (t_World_cell_j26_9 M S p1 p2 hQ K hs)
      · rw [if_pos c19] at K hs
        refine z_go2 M.1 22 [(.iconst 1, 1), (.goto 4, 3)] (27, [(0, z_r 9), (1, .inl p1), (2, .inl p2)], [.inl 1], zW T' G' S n, 0, 0) (by decide +kernel) rfl ⟨trivial, trivial, trivial⟩ ?_
        exact z_lvs (lv' := [(0, z_r 9), (1, .inl p1), (2, .inl p2)]) [0, 1, 2] rfl (t_World_cell_j27_9 M S p1 p2 1 hQ K hs)
theorem c_World_cell_13 (T' : Nat → Nat × Nat) (G' : Nat → Nat → Option Nat) (S : (Nat → Nat → Int32)) (n : Nat) (p1 : Int32) (p2 : Int32) (hs : Sf_World_cell 13 S p1 p2) : z_Run rm_World_cell zm_World_cell [z_r 13, .inl p1, .inl p2] (zW T' G' S n) (zq (some (.inl (F_World_cell 13 S p1 p2))) (zW T' G' S n)) := by
  refine z_body (by decide) zf_World_ok (Nat.le_of_ble_eq_true rfl) (fun X M => ?_)
  obtain ⟨Q, hQ, K⟩ : ∃ Q : Int32 → Prop, (∀ v, Q v → zq (some (.inl (F_World_cell 13 S p1 p2))) (zW T' G' S n) (some (.inl v)) (zW T' G' S n)) ∧ Q (F_World_cell 13 S p1 p2) := ⟨fun o => F_World_cell 13 S p1 p2 = o, fun v h => ⟨by rw [h], rfl⟩, rfl⟩
  show z_G X zm_World_cell (0, [(0, z_r 13), (1, .inl p1), (2, .inl p2)], [], zW T' G' S n, 0, 0)
  unfold F_World_cell at K
  unfold Sf_World_cell at hs
  try simp only [Nat.reduceAdd] at K hs
  refine z_go2 M.1 0 [(.iload_n 1, 1)] (1, [(0, z_r 13), (1, .inl p1), (2, .inl p2)], [.inl p1], zW T' G' S n, 0, 0) (by decide +kernel) rfl ⟨trivial, trivial⟩ ?_
  refine z_if_lt 26 M.1 (off := 25) (by decide +kernel) (by decide) (fun c1 => ?_) (fun c1 => ?_)
  · rw [if_pos c1] at K hs
    exact z_lvs (lv' := [(0, z_r 13), (1, .inl p1), (2, .inl p2)]) [0, 1, 2] rfl (t_World_cell_j26_13 M S p1 p2 hQ K hs)
  · rw [if_neg c1] at K hs
    refine z_go2 M.1 4 [(.iload_n 1, 1), (.bipush 30, 2)] (7, [(0, z_r 13), (1, .inl p1), (2, .inl p2)], [.inl 30, .inl p1], zW T' G' S n, 0, 0) (by decide +kernel) rfl ⟨trivial, trivial, trivial⟩ ?_
    refine z_icmp_ge 26 M.1 (off := 19) (by decide +kernel) (by decide) (fun c7 => ?_) (fun c7 => ?_)
    · rw [if_pos c7] at K hs
      exact z_lvs (lv' := [(0, z_r 13), (1, .inl p1), (2, .inl p2)]) [0, 1, 2] rfl (t_World_cell_j26_13 M S p1 p2 hQ K hs)
    · rw [if_neg c7] at K hs
      refine z_go2 M.1 10 [(.aload_n 0, 1), (.getfield 21, 3), (.iload_n 1, 1), (.ishr, 1), (.iconst 1, 1), (.iand, 1), (.iconst 1, 1)] (19, [(0, z_r 13), (1, .inl p1), (2, .inl p2)], [.inl 1, .inl (((S 13 3) >>> (p1 &&& 31)) &&& 1)], zW T' G' S n, 0, 0) (by decide +kernel) rfl ⟨trivial, rfl, trivial, trivial, trivial, trivial, trivial, trivial⟩ ?_
      refine z_icmp_ne 26 M.1 (off := 7) (by decide +kernel) (by decide) (fun c19 => ?_) (fun c19 => ?_)
      · rw [if_neg c19] at K hs
        exact z_lvs (lv' := [(0, z_r 13), (1, .inl p1), (2, .inl p2)]) [0, 1, 2] rfl (t_World_cell_j26_13 M S p1 p2 hQ K hs)
      · rw [if_pos c19] at K hs
        refine z_go2 M.1 22 [(.iconst 1, 1), (.goto 4, 3)] (27, [(0, z_r 13), (1, .inl p1), (2, .inl p2)], [.inl 1], zW T' G' S n, 0, 0) (by decide +kernel) rfl ⟨trivial, trivial, trivial⟩ ?_
        exact z_lvs (lv' := [(0, z_r 13), (1, .inl p1), (2, .inl p2)]) [0, 1, 2] rfl (t_World_cell_j27_13 M S p1 p2 1 hQ K hs)
theorem c_World_cell_28 (T' : Nat → Nat × Nat) (G' : Nat → Nat → Option Nat) (S : (Nat → Nat → Int32)) (n : Nat) (p1 : Int32) (p2 : Int32) (hs : Sf_World_cell 28 S p1 p2) : z_Run rm_World_cell zm_World_cell [z_r 28, .inl p1, .inl p2] (zW T' G' S n) (zq (some (.inl (F_World_cell 28 S p1 p2))) (zW T' G' S n)) := by
  refine z_body (by decide) zf_World_ok (Nat.le_of_ble_eq_true rfl) (fun X M => ?_)
  obtain ⟨Q, hQ, K⟩ : ∃ Q : Int32 → Prop, (∀ v, Q v → zq (some (.inl (F_World_cell 28 S p1 p2))) (zW T' G' S n) (some (.inl v)) (zW T' G' S n)) ∧ Q (F_World_cell 28 S p1 p2) := ⟨fun o => F_World_cell 28 S p1 p2 = o, fun v h => ⟨by rw [h], rfl⟩, rfl⟩
  show z_G X zm_World_cell (0, [(0, z_r 28), (1, .inl p1), (2, .inl p2)], [], zW T' G' S n, 0, 0)
  unfold F_World_cell at K
  unfold Sf_World_cell at hs
  try simp only [Nat.reduceAdd] at K hs
  refine z_go2 M.1 0 [(.iload_n 1, 1)] (1, [(0, z_r 28), (1, .inl p1), (2, .inl p2)], [.inl p1], zW T' G' S n, 0, 0) (by decide +kernel) rfl ⟨trivial, trivial⟩ ?_
  refine z_if_lt 26 M.1 (off := 25) (by decide +kernel) (by decide) (fun c1 => ?_) (fun c1 => ?_)
  · rw [if_pos c1] at K hs
    exact z_lvs (lv' := [(0, z_r 28), (1, .inl p1), (2, .inl p2)]) [0, 1, 2] rfl (t_World_cell_j26_28 M S p1 p2 hQ K hs)
  · rw [if_neg c1] at K hs
    refine z_go2 M.1 4 [(.iload_n 1, 1), (.bipush 30, 2)] (7, [(0, z_r 28), (1, .inl p1), (2, .inl p2)], [.inl 30, .inl p1], zW T' G' S n, 0, 0) (by decide +kernel) rfl ⟨trivial, trivial, trivial⟩ ?_
    refine z_icmp_ge 26 M.1 (off := 19) (by decide +kernel) (by decide) (fun c7 => ?_) (fun c7 => ?_)
    · rw [if_pos c7] at K hs
      exact z_lvs (lv' := [(0, z_r 28), (1, .inl p1), (2, .inl p2)]) [0, 1, 2] rfl (t_World_cell_j26_28 M S p1 p2 hQ K hs)
    · rw [if_neg c7] at K hs
      refine z_go2 M.1 10 [(.aload_n 0, 1), (.getfield 21, 3), (.iload_n 1, 1), (.ishr, 1), (.iconst 1, 1), (.iand, 1), (.iconst 1, 1)] (19, [(0, z_r 28), (1, .inl p1), (2, .inl p2)], [.inl 1, .inl (((S 28 3) >>> (p1 &&& 31)) &&& 1)], zW T' G' S n, 0, 0) (by decide +kernel) rfl ⟨trivial, rfl, trivial, trivial, trivial, trivial, trivial, trivial⟩ ?_
      refine z_icmp_ne 26 M.1 (off := 7) (by decide +kernel) (by decide) (fun c19 => ?_) (fun c19 => ?_)
      · rw [if_neg c19] at K hs
        exact z_lvs (lv' := [(0, z_r 28), (1, .inl p1), (2, .inl p2)]) [0, 1, 2] rfl (t_World_cell_j26_28 M S p1 p2 hQ K hs)
      · rw [if_pos c19] at K hs
        refine z_go2 M.1 22 [(.iconst 1, 1), (.goto 4, 3)] (27, [(0, z_r 28), (1, .inl p1), (2, .inl p2)], [.inl 1], zW T' G' S n, 0, 0) (by decide +kernel) rfl ⟨trivial, trivial, trivial⟩ ?_
        exact z_lvs (lv' := [(0, z_r 28), (1, .inl p1), (2, .inl p2)]) [0, 1, 2] rfl (t_World_cell_j27_28 M S p1 p2 1 hQ K hs)

-- TrackHouse$World.linksOf
abbrev rm_World_linksOf : Room := zr 0
def F_World_linksOf_j24 (r : Nat) (S : (Nat → Nat → Int32)) (x1 : Int32) (x2 : Int32) (s0 : Int32) : Int32 := (if s0 = 0 then 0 else (S (r + 2) ((x1 * 30) + x2).toNatClampNeg))
def Sf_World_linksOf_j24 (r : Nat) (S : (Nat → Nat → Int32)) (x1 : Int32) (x2 : Int32) (s0 : Int32) : Prop := (if s0 = 0 then True else ((vp_in ((x1 * 30) + x2) 90) ∧ True))
theorem t_World_linksOf_j24_9 {X : z_X} {Post : Option z_V → z_W → Prop} (M : z_M X zm_World_linksOf rm_World_linksOf Post) {T' : Nat → Nat × Nat} {G' : Nat → Nat → Option Nat} {n : Nat} {Q : Int32 → Prop} (S : (Nat → Nat → Int32)) (x1 : Int32) (x2 : Int32) (s0 : Int32) (hQ : ∀ v, Q v → Post (some (.inl v)) (zW T' G' S n)) (K : Q (F_World_linksOf_j24 9 S x1 x2 s0)) (hs : Sf_World_linksOf_j24 9 S x1 x2 s0) : z_G X zm_World_linksOf (24, [(0, z_r 9), (1, .inl x1), (2, .inl x2)], [.inl s0], zW T' G' S n, 0, 0) := by
  unfold F_World_linksOf_j24 at K
  unfold Sf_World_linksOf_j24 at hs
  try simp only [Nat.reduceAdd] at K hs
  refine z_go2 M.1 24 [(.istore_n 3, 1), (.iload_n 3, 1)] (26, [(3, .inl s0), (0, z_r 9), (1, .inl x1), (2, .inl x2)], [.inl s0], zW T' G' S n, 0, 0) (by decide +kernel) rfl ⟨trivial, trivial, trivial⟩ ?_
  refine z_if_eq 43 M.1 (off := 17) (by decide +kernel) (by decide) (fun c26 => ?_) (fun c26 => ?_)
  · rw [if_pos c26] at K hs
    refine z_go2 M.1 43 [(.iconst 0, 1)] (44, [(3, .inl s0), (0, z_r 9), (1, .inl x1), (2, .inl x2)], [.inl 0], zW T' G' S n, 0, 0) (by decide +kernel) rfl ⟨trivial, trivial⟩ ?_
    exact z_iret M (by decide +kernel) .int rfl rfl (by decide) (by decide) (hQ _ K)
  · rw [if_neg c26] at K hs
    refine z_go2 M.1 29 [(.aload_n 0, 1), (.getfield 15, 3), (.iload_n 1, 1), (.bipush 30, 2), (.imul, 1), (.iload_n 2, 1), (.iadd, 1), (.iaload, 1), (.goto 4, 3)] (44, [(3, .inl s0), (0, z_r 9), (1, .inl x1), (2, .inl x2)], [.inl (S 11 ((x1 * 30) + x2).toNatClampNeg)], zW T' G' S n, 0, 0) (by decide +kernel) rfl ⟨trivial, rfl, trivial, trivial, trivial, trivial, trivial, ⟨rfl, hs.1⟩, trivial, trivial⟩ ?_
    replace hs := hs.2
    exact z_iret M (by decide +kernel) .int rfl rfl (by decide) (by decide) (hQ _ K)
theorem t_World_linksOf_j24_13 {X : z_X} {Post : Option z_V → z_W → Prop} (M : z_M X zm_World_linksOf rm_World_linksOf Post) {T' : Nat → Nat × Nat} {G' : Nat → Nat → Option Nat} {n : Nat} {Q : Int32 → Prop} (S : (Nat → Nat → Int32)) (x1 : Int32) (x2 : Int32) (s0 : Int32) (hQ : ∀ v, Q v → Post (some (.inl v)) (zW T' G' S n)) (K : Q (F_World_linksOf_j24 13 S x1 x2 s0)) (hs : Sf_World_linksOf_j24 13 S x1 x2 s0) : z_G X zm_World_linksOf (24, [(0, z_r 13), (1, .inl x1), (2, .inl x2)], [.inl s0], zW T' G' S n, 0, 0) := by
  unfold F_World_linksOf_j24 at K
  unfold Sf_World_linksOf_j24 at hs
  try simp only [Nat.reduceAdd] at K hs
  refine z_go2 M.1 24 [(.istore_n 3, 1), (.iload_n 3, 1)] (26, [(3, .inl s0), (0, z_r 13), (1, .inl x1), (2, .inl x2)], [.inl s0], zW T' G' S n, 0, 0) (by decide +kernel) rfl ⟨trivial, trivial, trivial⟩ ?_
  refine z_if_eq 43 M.1 (off := 17) (by decide +kernel) (by decide) (fun c26 => ?_) (fun c26 => ?_)
  · rw [if_pos c26] at K hs
    refine z_go2 M.1 43 [(.iconst 0, 1)] (44, [(3, .inl s0), (0, z_r 13), (1, .inl x1), (2, .inl x2)], [.inl 0], zW T' G' S n, 0, 0) (by decide +kernel) rfl ⟨trivial, trivial⟩ ?_
    exact z_iret M (by decide +kernel) .int rfl rfl (by decide) (by decide) (hQ _ K)
  · rw [if_neg c26] at K hs
    refine z_go2 M.1 29 [(.aload_n 0, 1), (.getfield 15, 3), (.iload_n 1, 1), (.bipush 30, 2), (.imul, 1), (.iload_n 2, 1), (.iadd, 1), (.iaload, 1), (.goto 4, 3)] (44, [(3, .inl s0), (0, z_r 13), (1, .inl x1), (2, .inl x2)], [.inl (S 15 ((x1 * 30) + x2).toNatClampNeg)], zW T' G' S n, 0, 0) (by decide +kernel) rfl ⟨trivial, rfl, trivial, trivial, trivial, trivial, trivial, ⟨rfl, hs.1⟩, trivial, trivial⟩ ?_
    replace hs := hs.2
    exact z_iret M (by decide +kernel) .int rfl rfl (by decide) (by decide) (hQ _ K)
theorem t_World_linksOf_j24_28 {X : z_X} {Post : Option z_V → z_W → Prop} (M : z_M X zm_World_linksOf rm_World_linksOf Post) {T' : Nat → Nat × Nat} {G' : Nat → Nat → Option Nat} {n : Nat} {Q : Int32 → Prop} (S : (Nat → Nat → Int32)) (x1 : Int32) (x2 : Int32) (s0 : Int32) (hQ : ∀ v, Q v → Post (some (.inl v)) (zW T' G' S n)) (K : Q (F_World_linksOf_j24 28 S x1 x2 s0)) (hs : Sf_World_linksOf_j24 28 S x1 x2 s0) : z_G X zm_World_linksOf (24, [(0, z_r 28), (1, .inl x1), (2, .inl x2)], [.inl s0], zW T' G' S n, 0, 0) := by
  unfold F_World_linksOf_j24 at K
  unfold Sf_World_linksOf_j24 at hs
  try simp only [Nat.reduceAdd] at K hs
  refine z_go2 M.1 24 [(.istore_n 3, 1), (.iload_n 3, 1)] (26, [(3, .inl s0), (0, z_r 28), (1, .inl x1), (2, .inl x2)], [.inl s0], zW T' G' S n, 0, 0) (by decide +kernel) rfl ⟨trivial, trivial, trivial⟩ ?_
  refine z_if_eq 43 M.1 (off := 17) (by decide +kernel) (by decide) (fun c26 => ?_) (fun c26 => ?_)
  · rw [if_pos c26] at K hs
    refine z_go2 M.1 43 [(.iconst 0, 1)] (44, [(3, .inl s0), (0, z_r 28), (1, .inl x1), (2, .inl x2)], [.inl 0], zW T' G' S n, 0, 0) (by decide +kernel) rfl ⟨trivial, trivial⟩ ?_
    exact z_iret M (by decide +kernel) .int rfl rfl (by decide) (by decide) (hQ _ K)
  · rw [if_neg c26] at K hs
    refine z_go2 M.1 29 [(.aload_n 0, 1), (.getfield 15, 3), (.iload_n 1, 1), (.bipush 30, 2), (.imul, 1), (.iload_n 2, 1), (.iadd, 1), (.iaload, 1), (.goto 4, 3)] (44, [(3, .inl s0), (0, z_r 28), (1, .inl x1), (2, .inl x2)], [.inl (S 30 ((x1 * 30) + x2).toNatClampNeg)], zW T' G' S n, 0, 0) (by decide +kernel) rfl ⟨trivial, rfl, trivial, trivial, trivial, trivial, trivial, ⟨rfl, hs.1⟩, trivial, trivial⟩ ?_
    replace hs := hs.2
    exact z_iret M (by decide +kernel) .int rfl rfl (by decide) (by decide) (hQ _ K)
def F_World_linksOf_j23 (r : Nat) (S : (Nat → Nat → Int32)) (x1 : Int32) (x2 : Int32) : Int32 := (F_World_linksOf_j24 r S x1 x2 0)
def Sf_World_linksOf_j23 (r : Nat) (S : (Nat → Nat → Int32)) (x1 : Int32) (x2 : Int32) : Prop := (Sf_World_linksOf_j24 r S x1 x2 0)
theorem t_World_linksOf_j23_9 {X : z_X} {Post : Option z_V → z_W → Prop} (M : z_M X zm_World_linksOf rm_World_linksOf Post) {T' : Nat → Nat × Nat} {G' : Nat → Nat → Option Nat} {n : Nat} {Q : Int32 → Prop} (S : (Nat → Nat → Int32)) (x1 : Int32) (x2 : Int32) (hQ : ∀ v, Q v → Post (some (.inl v)) (zW T' G' S n)) (K : Q (F_World_linksOf_j23 9 S x1 x2)) (hs : Sf_World_linksOf_j23 9 S x1 x2) : z_G X zm_World_linksOf (23, [(0, z_r 9), (1, .inl x1), (2, .inl x2)], [], zW T' G' S n, 0, 0) := by
  unfold F_World_linksOf_j23 at K
  unfold Sf_World_linksOf_j23 at hs
  try simp only [Nat.reduceAdd] at K hs
  refine z_go2 M.1 23 [(.iconst 0, 1)] (24, [(0, z_r 9), (1, .inl x1), (2, .inl x2)], [.inl 0], zW T' G' S n, 0, 0) (by decide +kernel) rfl ⟨trivial, trivial⟩ ?_
  exact z_lvs (lv' := [(0, z_r 9), (1, .inl x1), (2, .inl x2)]) [0, 1, 2] rfl (t_World_linksOf_j24_9 M S x1 x2 0 hQ K hs)
theorem t_World_linksOf_j23_13 {X : z_X} {Post : Option z_V → z_W → Prop} (M : z_M X zm_World_linksOf rm_World_linksOf Post) {T' : Nat → Nat × Nat} {G' : Nat → Nat → Option Nat} {n : Nat} {Q : Int32 → Prop} (S : (Nat → Nat → Int32)) (x1 : Int32) (x2 : Int32) (hQ : ∀ v, Q v → Post (some (.inl v)) (zW T' G' S n)) (K : Q (F_World_linksOf_j23 13 S x1 x2)) (hs : Sf_World_linksOf_j23 13 S x1 x2) : z_G X zm_World_linksOf (23, [(0, z_r 13), (1, .inl x1), (2, .inl x2)], [], zW T' G' S n, 0, 0) := by
  unfold F_World_linksOf_j23 at K
  unfold Sf_World_linksOf_j23 at hs
  try simp only [Nat.reduceAdd] at K hs
  refine z_go2 M.1 23 [(.iconst 0, 1)] (24, [(0, z_r 13), (1, .inl x1), (2, .inl x2)], [.inl 0], zW T' G' S n, 0, 0) (by decide +kernel) rfl ⟨trivial, trivial⟩ ?_
  exact z_lvs (lv' := [(0, z_r 13), (1, .inl x1), (2, .inl x2)]) [0, 1, 2] rfl (t_World_linksOf_j24_13 M S x1 x2 0 hQ K hs)
theorem t_World_linksOf_j23_28 {X : z_X} {Post : Option z_V → z_W → Prop} (M : z_M X zm_World_linksOf rm_World_linksOf Post) {T' : Nat → Nat × Nat} {G' : Nat → Nat → Option Nat} {n : Nat} {Q : Int32 → Prop} (S : (Nat → Nat → Int32)) (x1 : Int32) (x2 : Int32) (hQ : ∀ v, Q v → Post (some (.inl v)) (zW T' G' S n)) (K : Q (F_World_linksOf_j23 28 S x1 x2)) (hs : Sf_World_linksOf_j23 28 S x1 x2) : z_G X zm_World_linksOf (23, [(0, z_r 28), (1, .inl x1), (2, .inl x2)], [], zW T' G' S n, 0, 0) := by
  unfold F_World_linksOf_j23 at K
  unfold Sf_World_linksOf_j23 at hs
  try simp only [Nat.reduceAdd] at K hs
  refine z_go2 M.1 23 [(.iconst 0, 1)] (24, [(0, z_r 28), (1, .inl x1), (2, .inl x2)], [.inl 0], zW T' G' S n, 0, 0) (by decide +kernel) rfl ⟨trivial, trivial⟩ ?_
  exact z_lvs (lv' := [(0, z_r 28), (1, .inl x1), (2, .inl x2)]) [0, 1, 2] rfl (t_World_linksOf_j24_28 M S x1 x2 0 hQ K hs)
def F_World_linksOf (r : Nat) (S : (Nat → Nat → Int32)) (p1 : Int32) (p2 : Int32) : Int32 := (if p1 < 0 then (F_World_linksOf_j23 r S p1 p2) else (if (3 : Int32) ≤ p1 then (F_World_linksOf_j23 r S p1 p2) else (if p2 < 0 then (F_World_linksOf_j23 r S p1 p2) else (if (30 : Int32) ≤ p2 then (F_World_linksOf_j23 r S p1 p2) else (F_World_linksOf_j24 r S p1 p2 1)))))
def Sf_World_linksOf (r : Nat) (S : (Nat → Nat → Int32)) (p1 : Int32) (p2 : Int32) : Prop := (if p1 < 0 then (Sf_World_linksOf_j23 r S p1 p2) else (if (3 : Int32) ≤ p1 then (Sf_World_linksOf_j23 r S p1 p2) else (if p2 < 0 then (Sf_World_linksOf_j23 r S p1 p2) else (if (30 : Int32) ≤ p2 then (Sf_World_linksOf_j23 r S p1 p2) else (Sf_World_linksOf_j24 r S p1 p2 1)))))
theorem c_World_linksOf_9 (T' : Nat → Nat × Nat) (G' : Nat → Nat → Option Nat) (S : (Nat → Nat → Int32)) (n : Nat) (p1 : Int32) (p2 : Int32) (hs : Sf_World_linksOf 9 S p1 p2) : z_Run rm_World_linksOf zm_World_linksOf [z_r 9, .inl p1, .inl p2] (zW T' G' S n) (zq (some (.inl (F_World_linksOf 9 S p1 p2))) (zW T' G' S n)) := by
  refine z_body (by decide) zf_World_ok (Nat.le_of_ble_eq_true rfl) (fun X M => ?_)
  obtain ⟨Q, hQ, K⟩ : ∃ Q : Int32 → Prop, (∀ v, Q v → zq (some (.inl (F_World_linksOf 9 S p1 p2))) (zW T' G' S n) (some (.inl v)) (zW T' G' S n)) ∧ Q (F_World_linksOf 9 S p1 p2) := ⟨fun o => F_World_linksOf 9 S p1 p2 = o, fun v h => ⟨by rw [h], rfl⟩, rfl⟩
  show z_G X zm_World_linksOf (0, [(0, z_r 9), (1, .inl p1), (2, .inl p2)], [], zW T' G' S n, 0, 0)
  unfold F_World_linksOf at K
  unfold Sf_World_linksOf at hs
  try simp only [Nat.reduceAdd] at K hs
  refine z_go2 M.1 0 [(.iload_n 1, 1)] (1, [(0, z_r 9), (1, .inl p1), (2, .inl p2)], [.inl p1], zW T' G' S n, 0, 0) (by decide +kernel) rfl ⟨trivial, trivial⟩ ?_
  refine z_if_lt 23 M.1 (off := 22) (by decide +kernel) (by decide) (fun c1 => ?_) (fun c1 => ?_)
  · rw [if_pos c1] at K hs
    exact z_lvs (lv' := [(0, z_r 9), (1, .inl p1), (2, .inl p2)]) [0, 1, 2] rfl (t_World_linksOf_j23_9 M S p1 p2 hQ K hs)
  · rw [if_neg c1] at K hs
    refine z_go2 M.1 4 [(.iload_n 1, 1), (.iconst 3, 1)] (6, [(0, z_r 9), (1, .inl p1), (2, .inl p2)], [.inl 3, .inl p1], zW T' G' S n, 0, 0) (by decide +kernel) rfl ⟨trivial, trivial, trivial⟩ ?_
    refine z_icmp_ge 23 M.1 (off := 17) (by decide +kernel) (by decide) (fun c6 => ?_) (fun c6 => ?_)
    · rw [if_pos c6] at K hs
      exact z_lvs (lv' := [(0, z_r 9), (1, .inl p1), (2, .inl p2)]) [0, 1, 2] rfl (t_World_linksOf_j23_9 M S p1 p2 hQ K hs)
    · rw [if_neg c6] at K hs
      refine z_go2 M.1 9 [(.iload_n 2, 1)] (10, [(0, z_r 9), (1, .inl p1), (2, .inl p2)], [.inl p2], zW T' G' S n, 0, 0) (by decide +kernel) rfl ⟨trivial, trivial⟩ ?_
      refine z_if_lt 23 M.1 (off := 13) (by decide +kernel) (by decide) (fun c10 => ?_) (fun c10 => ?_)
      · rw [if_pos c10] at K hs
        exact z_lvs (lv' := [(0, z_r 9), (1, .inl p1), (2, .inl p2)]) [0, 1, 2] rfl (t_World_linksOf_j23_9 M S p1 p2 hQ K hs)
      · rw [if_neg c10] at K hs
        refine z_go2 M.1 13 [(.iload_n 2, 1), (.bipush 30, 2)] (16, [(0, z_r 9), (1, .inl p1), (2, .inl p2)], [.inl 30, .inl p2], zW T' G' S n, 0, 0) (by decide +kernel) rfl ⟨trivial, trivial, trivial⟩ ?_
        refine z_icmp_ge 23 M.1 (off := 7) (by decide +kernel) (by decide) (fun c16 => ?_) (fun c16 => ?_)
        · rw [if_pos c16] at K hs
          exact z_lvs (lv' := [(0, z_r 9), (1, .inl p1), (2, .inl p2)]) [0, 1, 2] rfl (t_World_linksOf_j23_9 M S p1 p2 hQ K hs)
        · rw [if_neg c16] at K hs
          refine z_go2 M.1 19 [(.iconst 1, 1), (.goto 4, 3)] (24, [(0, z_r 9), (1, .inl p1), (2, .inl p2)], [.inl 1], zW T' G' S n, 0, 0) (by decide +kernel) rfl ⟨trivial, trivial, trivial⟩ ?_
          exact z_lvs (lv' := [(0, z_r 9), (1, .inl p1), (2, .inl p2)]) [0, 1, 2] rfl (t_World_linksOf_j24_9 M S p1 p2 1 hQ K hs)
theorem c_World_linksOf_13 (T' : Nat → Nat × Nat) (G' : Nat → Nat → Option Nat) (S : (Nat → Nat → Int32)) (n : Nat) (p1 : Int32) (p2 : Int32) (hs : Sf_World_linksOf 13 S p1 p2) : z_Run rm_World_linksOf zm_World_linksOf [z_r 13, .inl p1, .inl p2] (zW T' G' S n) (zq (some (.inl (F_World_linksOf 13 S p1 p2))) (zW T' G' S n)) := by
  refine z_body (by decide) zf_World_ok (Nat.le_of_ble_eq_true rfl) (fun X M => ?_)
  obtain ⟨Q, hQ, K⟩ : ∃ Q : Int32 → Prop, (∀ v, Q v → zq (some (.inl (F_World_linksOf 13 S p1 p2))) (zW T' G' S n) (some (.inl v)) (zW T' G' S n)) ∧ Q (F_World_linksOf 13 S p1 p2) := ⟨fun o => F_World_linksOf 13 S p1 p2 = o, fun v h => ⟨by rw [h], rfl⟩, rfl⟩
  show z_G X zm_World_linksOf (0, [(0, z_r 13), (1, .inl p1), (2, .inl p2)], [], zW T' G' S n, 0, 0)
  unfold F_World_linksOf at K
  unfold Sf_World_linksOf at hs
  try simp only [Nat.reduceAdd] at K hs
  refine z_go2 M.1 0 [(.iload_n 1, 1)] (1, [(0, z_r 13), (1, .inl p1), (2, .inl p2)], [.inl p1], zW T' G' S n, 0, 0) (by decide +kernel) rfl ⟨trivial, trivial⟩ ?_
  refine z_if_lt 23 M.1 (off := 22) (by decide +kernel) (by decide) (fun c1 => ?_) (fun c1 => ?_)
  · rw [if_pos c1] at K hs
    exact z_lvs (lv' := [(0, z_r 13), (1, .inl p1), (2, .inl p2)]) [0, 1, 2] rfl (t_World_linksOf_j23_13 M S p1 p2 hQ K hs)
  · rw [if_neg c1] at K hs
    refine z_go2 M.1 4 [(.iload_n 1, 1), (.iconst 3, 1)] (6, [(0, z_r 13), (1, .inl p1), (2, .inl p2)], [.inl 3, .inl p1], zW T' G' S n, 0, 0) (by decide +kernel) rfl ⟨trivial, trivial, trivial⟩ ?_
    refine z_icmp_ge 23 M.1 (off := 17) (by decide +kernel) (by decide) (fun c6 => ?_) (fun c6 => ?_)
    · rw [if_pos c6] at K hs
      exact z_lvs (lv' := [(0, z_r 13), (1, .inl p1), (2, .inl p2)]) [0, 1, 2] rfl (t_World_linksOf_j23_13 M S p1 p2 hQ K hs)
    · rw [if_neg c6] at K hs
      refine z_go2 M.1 9 [(.iload_n 2, 1)] (10, [(0, z_r 13), (1, .inl p1), (2, .inl p2)], [.inl p2], zW T' G' S n, 0, 0) (by decide +kernel) rfl ⟨trivial, trivial⟩ ?_
      refine z_if_lt 23 M.1 (off := 13) (by decide +kernel) (by decide) (fun c10 => ?_) (fun c10 => ?_)
      · rw [if_pos c10] at K hs
        exact z_lvs (lv' := [(0, z_r 13), (1, .inl p1), (2, .inl p2)]) [0, 1, 2] rfl (t_World_linksOf_j23_13 M S p1 p2 hQ K hs)
      · rw [if_neg c10] at K hs
        refine z_go2 M.1 13 [(.iload_n 2, 1), (.bipush 30, 2)] (16, [(0, z_r 13), (1, .inl p1), (2, .inl p2)], [.inl 30, .inl p2], zW T' G' S n, 0, 0) (by decide +kernel) rfl ⟨trivial, trivial, trivial⟩ ?_
        refine z_icmp_ge 23 M.1 (off := 7) (by decide +kernel) (by decide) (fun c16 => ?_) (fun c16 => ?_)
        · rw [if_pos c16] at K hs
          exact z_lvs (lv' := [(0, z_r 13), (1, .inl p1), (2, .inl p2)]) [0, 1, 2] rfl (t_World_linksOf_j23_13 M S p1 p2 hQ K hs)
        · rw [if_neg c16] at K hs
          refine z_go2 M.1 19 [(.iconst 1, 1), (.goto 4, 3)] (24, [(0, z_r 13), (1, .inl p1), (2, .inl p2)], [.inl 1], zW T' G' S n, 0, 0) (by decide +kernel) rfl ⟨trivial, trivial, trivial⟩ ?_
          exact z_lvs (lv' := [(0, z_r 13), (1, .inl p1), (2, .inl p2)]) [0, 1, 2] rfl (t_World_linksOf_j24_13 M S p1 p2 1 hQ K hs)
theorem c_World_linksOf_28 (T' : Nat → Nat × Nat) (G' : Nat → Nat → Option Nat) (S : (Nat → Nat → Int32)) (n : Nat) (p1 : Int32) (p2 : Int32) (hs : Sf_World_linksOf 28 S p1 p2) : z_Run rm_World_linksOf zm_World_linksOf [z_r 28, .inl p1, .inl p2] (zW T' G' S n) (zq (some (.inl (F_World_linksOf 28 S p1 p2))) (zW T' G' S n)) := by
  refine z_body (by decide) zf_World_ok (Nat.le_of_ble_eq_true rfl) (fun X M => ?_)
  obtain ⟨Q, hQ, K⟩ : ∃ Q : Int32 → Prop, (∀ v, Q v → zq (some (.inl (F_World_linksOf 28 S p1 p2))) (zW T' G' S n) (some (.inl v)) (zW T' G' S n)) ∧ Q (F_World_linksOf 28 S p1 p2) := ⟨fun o => F_World_linksOf 28 S p1 p2 = o, fun v h => ⟨by rw [h], rfl⟩, rfl⟩
  show z_G X zm_World_linksOf (0, [(0, z_r 28), (1, .inl p1), (2, .inl p2)], [], zW T' G' S n, 0, 0)
  unfold F_World_linksOf at K
  unfold Sf_World_linksOf at hs
  try simp only [Nat.reduceAdd] at K hs
  refine z_go2 M.1 0 [(.iload_n 1, 1)] (1, [(0, z_r 28), (1, .inl p1), (2, .inl p2)], [.inl p1], zW T' G' S n, 0, 0) (by decide +kernel) rfl ⟨trivial, trivial⟩ ?_
  refine z_if_lt 23 M.1 (off := 22) (by decide +kernel) (by decide) (fun c1 => ?_) (fun c1 => ?_)
  · rw [if_pos c1] at K hs
    exact z_lvs (lv' := [(0, z_r 28), (1, .inl p1), (2, .inl p2)]) [0, 1, 2] rfl (t_World_linksOf_j23_28 M S p1 p2 hQ K hs)
  · rw [if_neg c1] at K hs
    refine z_go2 M.1 4 [(.iload_n 1, 1), (.iconst 3, 1)] (6, [(0, z_r 28), (1, .inl p1), (2, .inl p2)], [.inl 3, .inl p1], zW T' G' S n, 0, 0) (by decide +kernel) rfl ⟨trivial, trivial, trivial⟩ ?_
    refine z_icmp_ge 23 M.1 (off := 17) (by decide +kernel) (by decide) (fun c6 => ?_) (fun c6 => ?_)
    · rw [if_pos c6] at K hs
      exact z_lvs (lv' := [(0, z_r 28), (1, .inl p1), (2, .inl p2)]) [0, 1, 2] rfl (t_World_linksOf_j23_28 M S p1 p2 hQ K hs)
    · rw [if_neg c6] at K hs
      refine z_go2 M.1 9 [(.iload_n 2, 1)] (10, [(0, z_r 28), (1, .inl p1), (2, .inl p2)], [.inl p2], zW T' G' S n, 0, 0) (by decide +kernel) rfl ⟨trivial, trivial⟩ ?_
      refine z_if_lt 23 M.1 (off := 13) (by decide +kernel) (by decide) (fun c10 => ?_) (fun c10 => ?_)
      · rw [if_pos c10] at K hs
        exact z_lvs (lv' := [(0, z_r 28), (1, .inl p1), (2, .inl p2)]) [0, 1, 2] rfl (t_World_linksOf_j23_28 M S p1 p2 hQ K hs)
      · rw [if_neg c10] at K hs
        refine z_go2 M.1 13 [(.iload_n 2, 1), (.bipush 30, 2)] (16, [(0, z_r 28), (1, .inl p1), (2, .inl p2)], [.inl 30, .inl p2], zW T' G' S n, 0, 0) (by decide +kernel) rfl ⟨trivial, trivial, trivial⟩ ?_
        refine z_icmp_ge 23 M.1 (off := 7) (by decide +kernel) (by decide) (fun c16 => ?_) (fun c16 => ?_)
        · rw [if_pos c16] at K hs
          exact z_lvs (lv' := [(0, z_r 28), (1, .inl p1), (2, .inl p2)]) [0, 1, 2] rfl (t_World_linksOf_j23_28 M S p1 p2 hQ K hs)
        · rw [if_neg c16] at K hs
          refine z_go2 M.1 19 [(.iconst 1, 1), (.goto 4, 3)] (24, [(0, z_r 28), (1, .inl p1), (2, .inl p2)], [.inl 1], zW T' G' S n, 0, 0) (by decide +kernel) rfl ⟨trivial, trivial, trivial⟩ ?_
          exact z_lvs (lv' := [(0, z_r 28), (1, .inl p1), (2, .inl p2)]) [0, 1, 2] rfl (t_World_linksOf_j24_28 M S p1 p2 1 hQ K hs)

-- TrackHouse$World.rolesOf
abbrev rm_World_rolesOf : Room := zr 1
def F_World_rolesOf (r : Nat) (S : (Nat → Nat → Int32)) (p1 : Int32) (p2 : Int32) : Int32 := (zAt (S (r + 3)) 24 ((p1 * 3) + p2))
theorem c_World_rolesOf_9 (T' : Nat → Nat × Nat) (G' : Nat → Nat → Option Nat) (S : (Nat → Nat → Int32)) (n : Nat) (p1 : Int32) (p2 : Int32) : z_Run rm_World_rolesOf zm_World_rolesOf [z_r 9, .inl p1, .inl p2] (zW T' G' S n) (zq (some (.inl (F_World_rolesOf 9 S p1 p2))) (zW T' G' S n)) := by
  refine z_body (by decide) zf_World_ok (Nat.le_of_ble_eq_true rfl) (fun X M => ?_)
  obtain ⟨Q, hQ, K⟩ : ∃ Q : Int32 → Prop, (∀ v, Q v → zq (some (.inl (F_World_rolesOf 9 S p1 p2))) (zW T' G' S n) (some (.inl v)) (zW T' G' S n)) ∧ Q (F_World_rolesOf 9 S p1 p2) := ⟨fun o => F_World_rolesOf 9 S p1 p2 = o, fun v h => ⟨by rw [h], rfl⟩, rfl⟩
  show z_G X zm_World_rolesOf (0, [(0, z_r 9), (1, .inl p1), (2, .inl p2)], [], zW T' G' S n, 0, 0)
  unfold F_World_rolesOf at K
  try simp only [Nat.reduceAdd] at K
  refine z_go2 M.1 0 [(.aload_n 0, 1), (.getfield 18, 3), (.iload_n 1, 1), (.iconst 3, 1), (.imul, 1), (.iload_n 2, 1), (.iadd, 1)] (9, [(0, z_r 9), (1, .inl p1), (2, .inl p2)], [.inl ((p1 * 3) + p2), z_r 12], zW T' G' S n, 0, 0) (by decide +kernel) rfl ⟨trivial, rfl, trivial, trivial, trivial, trivial, trivial, trivial⟩ ?_
  refine z_callS M.1 (av := [z_r 12, .inl ((p1 * 3) + p2)]) (st := []) (by decide +kernel) (c_at (zW T' G' S n) 12 24 rfl (by decide) ((p1 * 3) + p2)) M.2.1 zl_World_37 zs_T_at ⟨by decide, by decide, by decide, by decide⟩ rfl (Nat.le_of_ble_eq_true rfl) (fun v w' hv => ?_)
  obtain ⟨rfl, rfl⟩ := hv
  show z_G X zm_World_rolesOf (12, [(0, z_r 9), (1, .inl p1), (2, .inl p2)], [.inl (zAt (S 12) 24 ((p1 * 3) + p2))], zW T' G' S n, 0, 0)
  exact z_iret M (by decide +kernel) .int rfl rfl (by decide) (by decide) (hQ _ K)
theorem c_World_rolesOf_13 (T' : Nat → Nat × Nat) (G' : Nat → Nat → Option Nat) (S : (Nat → Nat → Int32)) (n : Nat) (p1 : Int32) (p2 : Int32) : z_Run rm_World_rolesOf zm_World_rolesOf [z_r 13, .inl p1, .inl p2] (zW T' G' S n) (zq (some (.inl (F_World_rolesOf 13 S p1 p2))) (zW T' G' S n)) := by
  refine z_body (by decide) zf_World_ok (Nat.le_of_ble_eq_true rfl) (fun X M => ?_)
  obtain ⟨Q, hQ, K⟩ : ∃ Q : Int32 → Prop, (∀ v, Q v → zq (some (.inl (F_World_rolesOf 13 S p1 p2))) (zW T' G' S n) (some (.inl v)) (zW T' G' S n)) ∧ Q (F_World_rolesOf 13 S p1 p2) := ⟨fun o => F_World_rolesOf 13 S p1 p2 = o, fun v h => ⟨by rw [h], rfl⟩, rfl⟩
  show z_G X zm_World_rolesOf (0, [(0, z_r 13), (1, .inl p1), (2, .inl p2)], [], zW T' G' S n, 0, 0)
  unfold F_World_rolesOf at K
  try simp only [Nat.reduceAdd] at K
  refine z_go2 M.1 0 [(.aload_n 0, 1), (.getfield 18, 3), (.iload_n 1, 1), (.iconst 3, 1), (.imul, 1), (.iload_n 2, 1), (.iadd, 1)] (9, [(0, z_r 13), (1, .inl p1), (2, .inl p2)], [.inl ((p1 * 3) + p2), z_r 16], zW T' G' S n, 0, 0) (by decide +kernel) rfl ⟨trivial, rfl, trivial, trivial, trivial, trivial, trivial, trivial⟩ ?_
  refine z_callS M.1 (av := [z_r 16, .inl ((p1 * 3) + p2)]) (st := []) (by decide +kernel) (c_at (zW T' G' S n) 16 24 rfl (by decide) ((p1 * 3) + p2)) M.2.1 zl_World_37 zs_T_at ⟨by decide, by decide, by decide, by decide⟩ rfl (Nat.le_of_ble_eq_true rfl) (fun v w' hv => ?_)
  obtain ⟨rfl, rfl⟩ := hv
  show z_G X zm_World_rolesOf (12, [(0, z_r 13), (1, .inl p1), (2, .inl p2)], [.inl (zAt (S 16) 24 ((p1 * 3) + p2))], zW T' G' S n, 0, 0)
  exact z_iret M (by decide +kernel) .int rfl rfl (by decide) (by decide) (hQ _ K)
theorem c_World_rolesOf_28 (T' : Nat → Nat × Nat) (G' : Nat → Nat → Option Nat) (S : (Nat → Nat → Int32)) (n : Nat) (p1 : Int32) (p2 : Int32) : z_Run rm_World_rolesOf zm_World_rolesOf [z_r 28, .inl p1, .inl p2] (zW T' G' S n) (zq (some (.inl (F_World_rolesOf 28 S p1 p2))) (zW T' G' S n)) := by
  refine z_body (by decide) zf_World_ok (Nat.le_of_ble_eq_true rfl) (fun X M => ?_)
  obtain ⟨Q, hQ, K⟩ : ∃ Q : Int32 → Prop, (∀ v, Q v → zq (some (.inl (F_World_rolesOf 28 S p1 p2))) (zW T' G' S n) (some (.inl v)) (zW T' G' S n)) ∧ Q (F_World_rolesOf 28 S p1 p2) := ⟨fun o => F_World_rolesOf 28 S p1 p2 = o, fun v h => ⟨by rw [h], rfl⟩, rfl⟩
  show z_G X zm_World_rolesOf (0, [(0, z_r 28), (1, .inl p1), (2, .inl p2)], [], zW T' G' S n, 0, 0)
  unfold F_World_rolesOf at K
  try simp only [Nat.reduceAdd] at K
  refine z_go2 M.1 0 [(.aload_n 0, 1), (.getfield 18, 3), (.iload_n 1, 1), (.iconst 3, 1), (.imul, 1), (.iload_n 2, 1), (.iadd, 1)] (9, [(0, z_r 28), (1, .inl p1), (2, .inl p2)], [.inl ((p1 * 3) + p2), z_r 31], zW T' G' S n, 0, 0) (by decide +kernel) rfl ⟨trivial, rfl, trivial, trivial, trivial, trivial, trivial, trivial⟩ ?_
  refine z_callS M.1 (av := [z_r 31, .inl ((p1 * 3) + p2)]) (st := []) (by decide +kernel) (c_at (zW T' G' S n) 31 24 rfl (by decide) ((p1 * 3) + p2)) M.2.1 zl_World_37 zs_T_at ⟨by decide, by decide, by decide, by decide⟩ rfl (Nat.le_of_ble_eq_true rfl) (fun v w' hv => ?_)
  obtain ⟨rfl, rfl⟩ := hv
  show z_G X zm_World_rolesOf (12, [(0, z_r 28), (1, .inl p1), (2, .inl p2)], [.inl (zAt (S 31) 24 ((p1 * 3) + p2))], zW T' G' S n, 0, 0)
  exact z_iret M (by decide +kernel) .int rfl rfl (by decide) (by decide) (hQ _ K)

-- TrackHouse$World.childrenOf
abbrev rm_World_childrenOf : Room := zr 1
def F_World_childrenOf_L4 (r : Nat) (S : (Nat → Nat → Int32)) (x1 : Int32) : Nat → Int32 → Int32 → (Int32)
  | 0, x2, x3 => x2
  | f + 1, x2, x3 => (if (30 : Int32) ≤ x3 then x2 else (if (F_World_has r S x3) = 0 then ((F_World_childrenOf_L4 r S x1 f) x2 (x3 + 1)) else (if (F_World_cell r S x3 5) = x1 then ((F_World_childrenOf_L4 r S x1 f) (x2 ||| (F_T_bit S x3)) (x3 + 1)) else ((F_World_childrenOf_L4 r S x1 f) x2 (x3 + 1)))))
def Sf_World_childrenOf_L4 (r : Nat) (S : (Nat → Nat → Int32)) (x1 : Int32) : Nat → Int32 → Int32 → Prop
  | 0, _, _ => False
  | f + 1, x2, x3 => (if (30 : Int32) ≤ x3 then True else (if (F_World_has r S x3) = 0 then ((Sf_World_childrenOf_L4 r S x1 f) x2 (x3 + 1)) else (Sf_World_cell r S x3 5 ∧ (if (F_World_cell r S x3 5) = x1 then ((Sf_World_childrenOf_L4 r S x1 f) (x2 ||| (F_T_bit S x3)) (x3 + 1)) else ((Sf_World_childrenOf_L4 r S x1 f) x2 (x3 + 1))))))
theorem t_World_childrenOf_L4_9 {X : z_X} {Post : Option z_V → z_W → Prop} (M : z_M X zm_World_childrenOf rm_World_childrenOf Post) {T' : Nat → Nat × Nat} {G' : Nat → Nat → Option Nat} {n : Nat} {Q : (Int32) → Prop} (S : (Nat → Nat → Int32))  (x1 : Int32) (hE : ∀ (y2 : Int32), Q y2 → z_G X zm_World_childrenOf (41, [(2, .inl y2)], [], zW T' G' S n, 0, 0)) (f : Nat) : ∀ (x2 : Int32) (x3 : Int32), Q (F_World_childrenOf_L4 9 S x1 f x2 x3) → Sf_World_childrenOf_L4 9 S x1 f x2 x3 → z_G X zm_World_childrenOf (4, [(0, z_r 9), (1, .inl x1), (2, .inl x2), (3, .inl x3)], [], zW T' G' S n, 0, 0) := by
  induction f with
  | zero => intro x2 x3 K hs; exact False.elim hs
  | succ f hC =>
    intro x2 x3 K hs
    rw [F_World_childrenOf_L4] at K
    rw [Sf_World_childrenOf_L4] at hs
    try simp only [Nat.reduceAdd] at K hs
    refine z_go2 M.1 4 [(.iload_n 3, 1), (.bipush 30, 2)] (7, [(0, z_r 9), (1, .inl x1), (2, .inl x2), (3, .inl x3)], [.inl 30, .inl x3], zW T' G' S n, 0, 0) (by decide +kernel) rfl ⟨trivial, trivial, trivial⟩ ?_
    refine z_icmp_ge 41 M.1 (off := 34) (by decide +kernel) (by decide) (fun c7 => ?_) (fun c7 => ?_)
    · rw [if_pos c7] at K hs
      exact z_lvs (lv' := [(2, .inl x2)]) [2] rfl (hE x2 K)
    · rw [if_neg c7] at K hs
      refine z_go2 M.1 10 [(.aload_n 0, 1), (.iload_n 3, 1)] (12, [(0, z_r 9), (1, .inl x1), (2, .inl x2), (3, .inl x3)], [.inl x3, z_r 9], zW T' G' S n, 0, 0) (by decide +kernel) rfl ⟨trivial, trivial, trivial⟩ ?_
      refine z_callV M.1 (av := [.inl x3]) (st := []) (a := 9) (ci := 10) (by decide +kernel) (c_World_has_9 T' G' S n x3) M.2.1 zl_World_41 zv_World_has rfl rfl rfl ⟨by decide, by decide, by decide, by decide⟩ rfl (Nat.le_of_ble_eq_true rfl) (fun v w' hv => ?_)
      obtain ⟨rfl, rfl⟩ := hv
      show z_G X zm_World_childrenOf (15, [(0, z_r 9), (1, .inl x1), (2, .inl x2), (3, .inl x3)], [.inl (F_World_has 9 S x3)], zW T' G' S n, 0, 0)
      refine z_if_eq 35 M.1 (off := 20) (by decide +kernel) (by decide) (fun c15 => ?_) (fun c15 => ?_)
      · rw [if_pos c15] at K hs
        refine z_go2 M.1 35 [(.iinc 3 1, 3), (.goto (-34), 3)] (4, [(3, .inl (x3 + 1)), (0, z_r 9), (1, .inl x1), (2, .inl x2)], [], zW T' G' S n, 0, 0) (by decide +kernel) rfl ⟨trivial, trivial, trivial⟩ ?_
        exact z_lvs (lv' := [(0, z_r 9), (1, .inl x1), (2, .inl x2), (3, .inl (x3 + 1))]) [1, 2, 3, 0] rfl (hC x2 (x3 + 1) K hs)
      · rw [if_neg c15] at K hs
        refine z_go2 M.1 18 [(.aload_n 0, 1), (.iload_n 3, 1), (.iconst 5, 1)] (21, [(0, z_r 9), (1, .inl x1), (2, .inl x2), (3, .inl x3)], [.inl 5, .inl x3, z_r 9], zW T' G' S n, 0, 0) (by decide +kernel) rfl ⟨trivial, trivial, trivial, trivial⟩ ?_
        refine z_callV M.1 (av := [.inl x3, .inl 5]) (st := []) (a := 9) (ci := 10) (by decide +kernel) (c_World_cell_9 T' G' S n x3 5 hs.1) M.2.1 zl_World_45 zv_World_cell rfl rfl rfl ⟨by decide, by decide, by decide, by decide⟩ rfl (Nat.le_of_ble_eq_true rfl) (fun v w' hv => ?_)
        obtain ⟨rfl, rfl⟩ := hv
        replace hs := hs.2
        show z_G X zm_World_childrenOf (24, [(0, z_r 9), (1, .inl x1), (2, .inl x2), (3, .inl x3)], [.inl (F_World_cell 9 S x3 5)], zW T' G' S n, 0, 0)
        refine z_go2 M.1 24 [(.iload_n 1, 1)] (25, [(0, z_r 9), (1, .inl x1), (2, .inl x2), (3, .inl x3)], [.inl x1, .inl (F_World_cell 9 S x3 5)], zW T' G' S n, 0, 0) (by decide +kernel) rfl ⟨trivial, trivial⟩ ?_
        refine z_icmp_ne 35 M.1 (off := 10) (by decide +kernel) (by decide) (fun c25 => ?_) (fun c25 => ?_)
        · rw [if_neg c25] at K hs
          refine z_go2 M.1 35 [(.iinc 3 1, 3), (.goto (-34), 3)] (4, [(3, .inl (x3 + 1)), (0, z_r 9), (1, .inl x1), (2, .inl x2)], [], zW T' G' S n, 0, 0) (by decide +kernel) rfl ⟨trivial, trivial, trivial⟩ ?_
          exact z_lvs (lv' := [(0, z_r 9), (1, .inl x1), (2, .inl x2), (3, .inl (x3 + 1))]) [1, 2, 3, 0] rfl (hC x2 (x3 + 1) K hs)
        · rw [if_pos c25] at K hs
          refine z_go2 M.1 28 [(.iload_n 2, 1), (.iload_n 3, 1)] (30, [(0, z_r 9), (1, .inl x1), (2, .inl x2), (3, .inl x3)], [.inl x3, .inl x2], zW T' G' S n, 0, 0) (by decide +kernel) rfl ⟨trivial, trivial, trivial⟩ ?_
          refine z_callS M.1 (av := [.inl x3]) (st := [.inl x2]) (by decide +kernel) (c_T_bit T' G' S n x3) M.2.1 zl_World_49 zs_T_bit ⟨by decide, by decide, by decide, by decide⟩ rfl (Nat.le_of_ble_eq_true rfl) (fun v w' hv => ?_)
          obtain ⟨rfl, rfl⟩ := hv
          show z_G X zm_World_childrenOf (33, [(0, z_r 9), (1, .inl x1), (2, .inl x2), (3, .inl x3)], [.inl (F_T_bit S x3), .inl x2], zW T' G' S n, 0, 0)
          refine z_go2 M.1 33 [(.ior, 1), (.istore_n 2, 1), (.iinc 3 1, 3), (.goto (-34), 3)] (4, [(3, .inl (x3 + 1)), (2, .inl (x2 ||| (F_T_bit S x3))), (0, z_r 9), (1, .inl x1)], [], zW T' G' S n, 0, 0) (by decide +kernel) rfl ⟨trivial, trivial, trivial, trivial, trivial⟩ ?_
          exact z_lvs (lv' := [(0, z_r 9), (1, .inl x1), (2, .inl (x2 ||| (F_T_bit S x3))), (3, .inl (x3 + 1))]) [2, 3, 1, 0] rfl (hC (x2 ||| (F_T_bit S x3)) (x3 + 1) K hs)
def F_World_childrenOf (r : Nat) (S : (Nat → Nat → Int32)) (p1 : Int32) : Int32 := (match F_World_childrenOf_L4 r S p1 1300 0 0 with | y2_4 => y2_4)
def Sf_World_childrenOf (r : Nat) (S : (Nat → Nat → Int32)) (p1 : Int32) : Prop := (Sf_World_childrenOf_L4 r S p1 1300 0 0 ∧ True)
theorem c_World_childrenOf_9 (T' : Nat → Nat × Nat) (G' : Nat → Nat → Option Nat) (S : (Nat → Nat → Int32)) (n : Nat) (p1 : Int32) (hs : Sf_World_childrenOf 9 S p1) : z_Run rm_World_childrenOf zm_World_childrenOf [z_r 9, .inl p1] (zW T' G' S n) (zq (some (.inl (F_World_childrenOf 9 S p1))) (zW T' G' S n)) := by
  refine z_body (by decide) zf_World_ok (Nat.le_of_ble_eq_true rfl) (fun X M => ?_)
  obtain ⟨Q, hQ, K⟩ : ∃ Q : Int32 → Prop, (∀ v, Q v → zq (some (.inl (F_World_childrenOf 9 S p1))) (zW T' G' S n) (some (.inl v)) (zW T' G' S n)) ∧ Q (F_World_childrenOf 9 S p1) := ⟨fun o => F_World_childrenOf 9 S p1 = o, fun v h => ⟨by rw [h], rfl⟩, rfl⟩
  show z_G X zm_World_childrenOf (0, [(0, z_r 9), (1, .inl p1)], [], zW T' G' S n, 0, 0)
  unfold F_World_childrenOf at K
  unfold Sf_World_childrenOf at hs
  try simp only [Nat.reduceAdd] at K hs
  refine z_go2 M.1 0 [(.iconst 0, 1), (.istore_n 2, 1), (.iconst 0, 1), (.istore_n 3, 1)] (4, [(3, .inl 0), (2, .inl 0), (0, z_r 9), (1, .inl p1)], [], zW T' G' S n, 0, 0) (by decide +kernel) rfl ⟨trivial, trivial, trivial, trivial, trivial⟩ ?_
  refine z_lvs (lv' := [(0, z_r 9), (1, .inl p1), (2, .inl 0), (3, .inl 0)]) [2, 3, 1, 0] rfl ?_
  refine t_World_childrenOf_L4_9 M (Q := fun o => F_World_childrenOf_L4 9 S p1 1300 0 0 = o) S p1 (fun y2_4 hL4 => ?_) 1300 0 0 rfl hs.1
  replace hs := hs.2
  rw [hL4] at K
  try dsimp only at K
  refine z_go2 M.1 41 [(.iload_n 2, 1)] (42, [(2, .inl y2_4)], [.inl y2_4], zW T' G' S n, 0, 0) (by decide +kernel) rfl ⟨trivial, trivial⟩ ?_
  exact z_iret M (by decide +kernel) .int rfl rfl (by decide) (by decide) (hQ _ K)

-- TrackHouse$World.current
abbrev rm_World_current : Room := zr 1
def F_World_current (r : Nat) (S : (Nat → Nat → Int32)) (p1 : Int32) (p2 : Int32) (p3 : Int32) : Int32 := (if p2 = 14 then (zAt (S (r + 3)) 24 p3) else (if p2 < 10 then (F_World_cell r S p1 p2) else (if (F_T_isIn S (F_World_linksOf r S (p2 - 10) p1) p3) = 0 then 0 else 1)))
def Sf_World_current (r : Nat) (S : (Nat → Nat → Int32)) (p1 : Int32) (p2 : Int32) (p3 : Int32) : Prop := (if p2 = 14 then True else (if p2 < 10 then (Sf_World_cell r S p1 p2 ∧ True) else (Sf_World_linksOf r S (p2 - 10) p1 ∧ True)))
theorem c_World_current_9 (T' : Nat → Nat × Nat) (G' : Nat → Nat → Option Nat) (S : (Nat → Nat → Int32)) (n : Nat) (p1 : Int32) (p2 : Int32) (p3 : Int32) (hs : Sf_World_current 9 S p1 p2 p3) : z_Run rm_World_current zm_World_current [z_r 9, .inl p1, .inl p2, .inl p3] (zW T' G' S n) (zq (some (.inl (F_World_current 9 S p1 p2 p3))) (zW T' G' S n)) := by
  refine z_body (by decide) zf_World_ok (Nat.le_of_ble_eq_true rfl) (fun X M => ?_)
  obtain ⟨Q, hQ, K⟩ : ∃ Q : Int32 → Prop, (∀ v, Q v → zq (some (.inl (F_World_current 9 S p1 p2 p3))) (zW T' G' S n) (some (.inl v)) (zW T' G' S n)) ∧ Q (F_World_current 9 S p1 p2 p3) := ⟨fun o => F_World_current 9 S p1 p2 p3 = o, fun v h => ⟨by rw [h], rfl⟩, rfl⟩
  show z_G X zm_World_current (0, [(0, z_r 9), (1, .inl p1), (2, .inl p2), (3, .inl p3)], [], zW T' G' S n, 0, 0)
  unfold F_World_current at K
  unfold Sf_World_current at hs
  try simp only [Nat.reduceAdd] at K hs
  refine z_go2 M.1 0 [(.iload_n 2, 1), (.bipush 14, 2)] (3, [(0, z_r 9), (1, .inl p1), (2, .inl p2), (3, .inl p3)], [.inl 14, .inl p2], zW T' G' S n, 0, 0) (by decide +kernel) rfl ⟨trivial, trivial, trivial⟩ ?_
  refine z_icmp_ne 15 M.1 (off := 12) (by decide +kernel) (by decide) (fun c3 => ?_) (fun c3 => ?_)
  · rw [if_neg c3] at K hs
    refine z_go2 M.1 15 [(.iload_n 2, 1), (.bipush 10, 2)] (18, [(0, z_r 9), (1, .inl p1), (2, .inl p2), (3, .inl p3)], [.inl 10, .inl p2], zW T' G' S n, 0, 0) (by decide +kernel) rfl ⟨trivial, trivial, trivial⟩ ?_
    refine z_icmp_lt 43 M.1 (off := 25) (by decide +kernel) (by decide) (fun c18 => ?_) (fun c18 => ?_)
    · rw [if_pos c18] at K hs
      refine z_go2 M.1 43 [(.aload_n 0, 1), (.iload_n 1, 1), (.iload_n 2, 1)] (46, [(0, z_r 9), (1, .inl p1), (2, .inl p2), (3, .inl p3)], [.inl p2, .inl p1, z_r 9], zW T' G' S n, 0, 0) (by decide +kernel) rfl ⟨trivial, trivial, trivial, trivial⟩ ?_
      refine z_callV M.1 (av := [.inl p1, .inl p2]) (st := []) (a := 9) (ci := 10) (by decide +kernel) (c_World_cell_9 T' G' S n p1 p2 hs.1) M.2.1 zl_World_45 zv_World_cell rfl rfl rfl ⟨by decide, by decide, by decide, by decide⟩ rfl (Nat.le_of_ble_eq_true rfl) (fun v w' hv => ?_)
      obtain ⟨rfl, rfl⟩ := hv
      replace hs := hs.2
      show z_G X zm_World_current (49, [(0, z_r 9), (1, .inl p1), (2, .inl p2), (3, .inl p3)], [.inl (F_World_cell 9 S p1 p2)], zW T' G' S n, 0, 0)
      exact z_iret M (by decide +kernel) .int rfl rfl (by decide) (by decide) (hQ _ K)
    · rw [if_neg c18] at K hs
      refine z_go2 M.1 21 [(.aload_n 0, 1), (.iload_n 2, 1), (.bipush 10, 2), (.isub, 1), (.iload_n 1, 1)] (27, [(0, z_r 9), (1, .inl p1), (2, .inl p2), (3, .inl p3)], [.inl p1, .inl (p2 - 10), z_r 9], zW T' G' S n, 0, 0) (by decide +kernel) rfl ⟨trivial, trivial, trivial, trivial, trivial, trivial⟩ ?_
      refine z_callV M.1 (av := [.inl (p2 - 10), .inl p1]) (st := []) (a := 9) (ci := 10) (by decide +kernel) (c_World_linksOf_9 T' G' S n (p2 - 10) p1 hs.1) M.2.1 zl_World_52 zv_World_linksOf rfl rfl rfl ⟨by decide, by decide, by decide, by decide⟩ rfl (Nat.le_of_ble_eq_true rfl) (fun v w' hv => ?_)
      obtain ⟨rfl, rfl⟩ := hv
      replace hs := hs.2
      show z_G X zm_World_current (30, [(0, z_r 9), (1, .inl p1), (2, .inl p2), (3, .inl p3)], [.inl (F_World_linksOf 9 S (p2 - 10) p1)], zW T' G' S n, 0, 0)
      refine z_go2 M.1 30 [(.iload_n 3, 1)] (31, [(0, z_r 9), (1, .inl p1), (2, .inl p2), (3, .inl p3)], [.inl p3, .inl (F_World_linksOf 9 S (p2 - 10) p1)], zW T' G' S n, 0, 0) (by decide +kernel) rfl ⟨trivial, trivial⟩ ?_
      refine z_callS M.1 (av := [.inl (F_World_linksOf 9 S (p2 - 10) p1), .inl p3]) (st := []) (by decide +kernel) (c_T_isIn T' G' S n (F_World_linksOf 9 S (p2 - 10) p1) p3) M.2.1 zl_World_55 zs_T_isIn ⟨by decide, by decide, by decide, by decide⟩ rfl (Nat.le_of_ble_eq_true rfl) (fun v w' hv => ?_)
      obtain ⟨rfl, rfl⟩ := hv
      show z_G X zm_World_current (34, [(0, z_r 9), (1, .inl p1), (2, .inl p2), (3, .inl p3)], [.inl (F_T_isIn S (F_World_linksOf 9 S (p2 - 10) p1) p3)], zW T' G' S n, 0, 0)
      refine z_if_eq 41 M.1 (off := 7) (by decide +kernel) (by decide) (fun c34 => ?_) (fun c34 => ?_)
      · rw [if_pos c34] at K
        refine z_go2 M.1 41 [(.iconst 0, 1)] (42, [(0, z_r 9), (1, .inl p1), (2, .inl p2), (3, .inl p3)], [.inl 0], zW T' G' S n, 0, 0) (by decide +kernel) rfl ⟨trivial, trivial⟩ ?_
        exact z_iret M (by decide +kernel) .int rfl rfl (by decide) (by decide) (hQ _ K)
      · rw [if_neg c34] at K
        refine z_go2 M.1 37 [(.iconst 1, 1), (.goto 4, 3)] (42, [(0, z_r 9), (1, .inl p1), (2, .inl p2), (3, .inl p3)], [.inl 1], zW T' G' S n, 0, 0) (by decide +kernel) rfl ⟨trivial, trivial, trivial⟩ ?_
        exact z_iret M (by decide +kernel) .int rfl rfl (by decide) (by decide) (hQ _ K)
  · rw [if_pos c3] at K hs
    refine z_go2 M.1 6 [(.aload_n 0, 1), (.getfield 18, 3), (.iload_n 3, 1)] (11, [(0, z_r 9), (1, .inl p1), (2, .inl p2), (3, .inl p3)], [.inl p3, z_r 12], zW T' G' S n, 0, 0) (by decide +kernel) rfl ⟨trivial, rfl, trivial, trivial⟩ ?_
    refine z_callS M.1 (av := [z_r 12, .inl p3]) (st := []) (by decide +kernel) (c_at (zW T' G' S n) 12 24 rfl (by decide) p3) M.2.1 zl_World_37 zs_T_at ⟨by decide, by decide, by decide, by decide⟩ rfl (Nat.le_of_ble_eq_true rfl) (fun v w' hv => ?_)
    obtain ⟨rfl, rfl⟩ := hv
    show z_G X zm_World_current (14, [(0, z_r 9), (1, .inl p1), (2, .inl p2), (3, .inl p3)], [.inl (zAt (S 12) 24 p3)], zW T' G' S n, 0, 0)
    exact z_iret M (by decide +kernel) .int rfl rfl (by decide) (by decide) (hQ _ K)

-- TrackHouse$World.connect
abbrev rm_World_connect : Room := zr 0
def F_World_connect_j86 (r : Nat) (S : (Nat → Nat → Int32)) (s0 : Int32) (s1 : Int32) : (Nat → Nat → Int32) := (z_uS S (r + 2) (s1).toNatClampNeg s0)
def Sf_World_connect_j86 (r : Nat) (S : (Nat → Nat → Int32)) (s0 : Int32) (s1 : Int32) : Prop := ((vp_in s1 90) ∧ True)
theorem t_World_connect_j86_9 {X : z_X} {Post : Option z_V → z_W → Prop} (M : z_M X zm_World_connect rm_World_connect Post) {T' : Nat → Nat × Nat} {G' : Nat → Nat → Option Nat} {n : Nat} {Q : (Nat → Nat → Int32) → Prop} (S : (Nat → Nat → Int32)) (s0 : Int32) (s1 : Int32) (hQ : ∀ S', Q S' → Post none (zW T' G' S' n)) (K : Q (F_World_connect_j86 9 S s0 s1)) (hs : Sf_World_connect_j86 9 S s0 s1) : z_G X zm_World_connect (86, [], [.inl s0, .inl s1, z_r 11], zW T' G' S n, 0, 0) := by
  unfold F_World_connect_j86 at K
  unfold Sf_World_connect_j86 at hs
  try simp only [Nat.reduceAdd] at K hs
  refine z_go2 M.1 86 [(.iastore, 1)] (87, [], [], zW T' G' (z_uS S 11 (s1).toNatClampNeg s0) n, 0, 0) (by decide +kernel) rfl ⟨⟨rfl, hs.1⟩, trivial⟩ ?_
  replace hs := hs.2
  exact z_vret M (by decide +kernel) rfl (by decide) (by decide) (hQ _ K)
theorem t_World_connect_j86_13 {X : z_X} {Post : Option z_V → z_W → Prop} (M : z_M X zm_World_connect rm_World_connect Post) {T' : Nat → Nat × Nat} {G' : Nat → Nat → Option Nat} {n : Nat} {Q : (Nat → Nat → Int32) → Prop} (S : (Nat → Nat → Int32)) (s0 : Int32) (s1 : Int32) (hQ : ∀ S', Q S' → Post none (zW T' G' S' n)) (K : Q (F_World_connect_j86 13 S s0 s1)) (hs : Sf_World_connect_j86 13 S s0 s1) : z_G X zm_World_connect (86, [], [.inl s0, .inl s1, z_r 15], zW T' G' S n, 0, 0) := by
  unfold F_World_connect_j86 at K
  unfold Sf_World_connect_j86 at hs
  try simp only [Nat.reduceAdd] at K hs
  refine z_go2 M.1 86 [(.iastore, 1)] (87, [], [], zW T' G' (z_uS S 15 (s1).toNatClampNeg s0) n, 0, 0) (by decide +kernel) rfl ⟨⟨rfl, hs.1⟩, trivial⟩ ?_
  replace hs := hs.2
  exact z_vret M (by decide +kernel) rfl (by decide) (by decide) (hQ _ K)
theorem t_World_connect_j86_28 {X : z_X} {Post : Option z_V → z_W → Prop} (M : z_M X zm_World_connect rm_World_connect Post) {T' : Nat → Nat × Nat} {G' : Nat → Nat → Option Nat} {n : Nat} {Q : (Nat → Nat → Int32) → Prop} (S : (Nat → Nat → Int32)) (s0 : Int32) (s1 : Int32) (hQ : ∀ S', Q S' → Post none (zW T' G' S' n)) (K : Q (F_World_connect_j86 28 S s0 s1)) (hs : Sf_World_connect_j86 28 S s0 s1) : z_G X zm_World_connect (86, [], [.inl s0, .inl s1, z_r 30], zW T' G' S n, 0, 0) := by
  unfold F_World_connect_j86 at K
  unfold Sf_World_connect_j86 at hs
  try simp only [Nat.reduceAdd] at K hs
  refine z_go2 M.1 86 [(.iastore, 1)] (87, [], [], zW T' G' (z_uS S 30 (s1).toNatClampNeg s0) n, 0, 0) (by decide +kernel) rfl ⟨⟨rfl, hs.1⟩, trivial⟩ ?_
  replace hs := hs.2
  exact z_vret M (by decide +kernel) rfl (by decide) (by decide) (hQ _ K)
def F_World_connect_j34 (r : Nat) (S : (Nat → Nat → Int32)) (x1 : Int32) (x2 : Int32) (x3 : Int32) (x4 : Int32) (s0 : Int32) : (Nat → Nat → Int32) := (if s0 = 0 then S else (if x4 = 0 then (F_World_connect_j86 r S ((S (r + 2) ((x1 * 30) + x2).toNatClampNeg) &&& (((1 : Int32) <<< (x3 &&& 31)) ^^^ (-1))) ((x1 * 30) + x2)) else (F_World_connect_j86 r S ((S (r + 2) ((x1 * 30) + x2).toNatClampNeg) ||| ((1 : Int32) <<< (x3 &&& 31))) ((x1 * 30) + x2))))
def Sf_World_connect_j34 (r : Nat) (S : (Nat → Nat → Int32)) (x1 : Int32) (x2 : Int32) (x3 : Int32) (x4 : Int32) (s0 : Int32) : Prop := (if s0 = 0 then True else ((vp_in ((x1 * 30) + x2) 90) ∧ (if x4 = 0 then (Sf_World_connect_j86 r S ((S (r + 2) ((x1 * 30) + x2).toNatClampNeg) &&& (((1 : Int32) <<< (x3 &&& 31)) ^^^ (-1))) ((x1 * 30) + x2)) else (Sf_World_connect_j86 r S ((S (r + 2) ((x1 * 30) + x2).toNatClampNeg) ||| ((1 : Int32) <<< (x3 &&& 31))) ((x1 * 30) + x2)))))
theorem t_World_connect_j34_9 {X : z_X} {Post : Option z_V → z_W → Prop} (M : z_M X zm_World_connect rm_World_connect Post) {T' : Nat → Nat × Nat} {G' : Nat → Nat → Option Nat} {n : Nat} {Q : (Nat → Nat → Int32) → Prop} (S : (Nat → Nat → Int32)) (x1 : Int32) (x2 : Int32) (x3 : Int32) (x4 : Int32) (s0 : Int32) (hQ : ∀ S', Q S' → Post none (zW T' G' S' n)) (K : Q (F_World_connect_j34 9 S x1 x2 x3 x4 s0)) (hs : Sf_World_connect_j34 9 S x1 x2 x3 x4 s0) : z_G X zm_World_connect (34, [(0, z_r 9), (1, .inl x1), (2, .inl x2), (3, .inl x3), (4, .inl x4)], [.inl s0], zW T' G' S n, 0, 0) := by
  unfold F_World_connect_j34 at K
  unfold Sf_World_connect_j34 at hs
  try simp only [Nat.reduceAdd] at K hs
  refine z_go2 M.1 34 [(.istore 5, 2), (.iload 5, 2)] (38, [(5, .inl s0), (0, z_r 9), (1, .inl x1), (2, .inl x2), (3, .inl x3), (4, .inl x4)], [.inl s0], zW T' G' S n, 0, 0) (by decide +kernel) rfl ⟨trivial, trivial, trivial⟩ ?_
  refine z_if_eq 87 M.1 (off := 49) (by decide +kernel) (by decide) (fun c38 => ?_) (fun c38 => ?_)
  · rw [if_pos c38] at K hs
    exact z_vret M (by decide +kernel) rfl (by decide) (by decide) (hQ _ K)
  · rw [if_neg c38] at K hs
    refine z_go2 M.1 41 [(.aload_n 0, 1), (.getfield 15, 3), (.iload_n 1, 1), (.bipush 30, 2), (.imul, 1), (.iload_n 2, 1), (.iadd, 1), (.iaload, 1), (.istore 6, 2), (.aload_n 0, 1), (.getfield 15, 3), (.iload_n 1, 1), (.bipush 30, 2), (.imul, 1), (.iload_n 2, 1), (.iadd, 1), (.iload 4, 2)] (66, [(6, .inl (S 11 ((x1 * 30) + x2).toNatClampNeg)), (5, .inl s0), (0, z_r 9), (1, .inl x1), (2, .inl x2), (3, .inl x3), (4, .inl x4)], [.inl x4, .inl ((x1 * 30) + x2), z_r 11], zW T' G' S n, 0, 0) (by decide +kernel) rfl ⟨trivial, rfl, trivial, trivial, trivial, trivial, trivial, ⟨rfl, hs.1⟩, trivial, trivial, rfl, trivial, trivial, trivial, trivial, trivial, trivial, trivial⟩ ?_
    replace hs := hs.2
    refine z_if_eq 78 M.1 (off := 12) (by decide +kernel) (by decide) (fun c66 => ?_) (fun c66 => ?_)
    · rw [if_pos c66] at K hs
      refine z_go2 M.1 78 [(.iload 6, 2), (.iconst 1, 1), (.iload_n 3, 1), (.ishl, 1), (.iconst (-1), 1), (.ixor, 1), (.iand, 1)] (86, [(6, .inl (S 11 ((x1 * 30) + x2).toNatClampNeg)), (5, .inl s0), (0, z_r 9), (1, .inl x1), (2, .inl x2), (3, .inl x3), (4, .inl x4)], [.inl ((S 11 ((x1 * 30) + x2).toNatClampNeg) &&& (((1 : Int32) <<< (x3 &&& 31)) ^^^ (-1))), .inl ((x1 * 30) + x2), z_r 11], zW T' G' S n, 0, 0) (by decide +kernel) rfl ⟨trivial, trivial, trivial, trivial, trivial, trivial, trivial, trivial⟩ ?_
      exact z_lvs (lv' := []) [] rfl (t_World_connect_j86_9 M S ((S 11 ((x1 * 30) + x2).toNatClampNeg) &&& (((1 : Int32) <<< (x3 &&& 31)) ^^^ (-1))) ((x1 * 30) + x2) hQ K hs)
    · rw [if_neg c66] at K hs
      refine z_go2 M.1 69 [(.iload 6, 2), (.iconst 1, 1), (.iload_n 3, 1), (.ishl, 1), (.ior, 1), (.goto 11, 3)] (86, [(6, .inl (S 11 ((x1 * 30) + x2).toNatClampNeg)), (5, .inl s0), (0, z_r 9), (1, .inl x1), (2, .inl x2), (3, .inl x3), (4, .inl x4)], [.inl ((S 11 ((x1 * 30) + x2).toNatClampNeg) ||| ((1 : Int32) <<< (x3 &&& 31))), .inl ((x1 * 30) + x2), z_r 11], zW T' G' S n, 0, 0) (by decide +kernel) rfl ⟨trivial, trivial, trivial, trivial, trivial, trivial, trivial⟩ ?_
      exact z_lvs (lv' := []) [] rfl (t_World_connect_j86_9 M S ((S 11 ((x1 * 30) + x2).toNatClampNeg) ||| ((1 : Int32) <<< (x3 &&& 31))) ((x1 * 30) + x2) hQ K hs)
theorem t_World_connect_j34_13 {X : z_X} {Post : Option z_V → z_W → Prop} (M : z_M X zm_World_connect rm_World_connect Post) {T' : Nat → Nat × Nat} {G' : Nat → Nat → Option Nat} {n : Nat} {Q : (Nat → Nat → Int32) → Prop} (S : (Nat → Nat → Int32)) (x1 : Int32) (x2 : Int32) (x3 : Int32) (x4 : Int32) (s0 : Int32) (hQ : ∀ S', Q S' → Post none (zW T' G' S' n)) (K : Q (F_World_connect_j34 13 S x1 x2 x3 x4 s0)) (hs : Sf_World_connect_j34 13 S x1 x2 x3 x4 s0) : z_G X zm_World_connect (34, [(0, z_r 13), (1, .inl x1), (2, .inl x2), (3, .inl x3), (4, .inl x4)], [.inl s0], zW T' G' S n, 0, 0) := by
  unfold F_World_connect_j34 at K
  unfold Sf_World_connect_j34 at hs
  try simp only [Nat.reduceAdd] at K hs
  refine z_go2 M.1 34 [(.istore 5, 2), (.iload 5, 2)] (38, [(5, .inl s0), (0, z_r 13), (1, .inl x1), (2, .inl x2), (3, .inl x3), (4, .inl x4)], [.inl s0], zW T' G' S n, 0, 0) (by decide +kernel) rfl ⟨trivial, trivial, trivial⟩ ?_
  refine z_if_eq 87 M.1 (off := 49) (by decide +kernel) (by decide) (fun c38 => ?_) (fun c38 => ?_)
  · rw [if_pos c38] at K hs
    exact z_vret M (by decide +kernel) rfl (by decide) (by decide) (hQ _ K)
  · rw [if_neg c38] at K hs
    refine z_go2 M.1 41 [(.aload_n 0, 1), (.getfield 15, 3), (.iload_n 1, 1), (.bipush 30, 2), (.imul, 1), (.iload_n 2, 1), (.iadd, 1), (.iaload, 1), (.istore 6, 2), (.aload_n 0, 1), (.getfield 15, 3), (.iload_n 1, 1), (.bipush 30, 2), (.imul, 1), (.iload_n 2, 1), (.iadd, 1), (.iload 4, 2)] (66, [(6, .inl (S 15 ((x1 * 30) + x2).toNatClampNeg)), (5, .inl s0), (0, z_r 13), (1, .inl x1), (2, .inl x2), (3, .inl x3), (4, .inl x4)], [.inl x4, .inl ((x1 * 30) + x2), z_r 15], zW T' G' S n, 0, 0) (by decide +kernel) rfl ⟨trivial, rfl, trivial, trivial, trivial, trivial, trivial, ⟨rfl, hs.1⟩, trivial, trivial, rfl, trivial, trivial, trivial, trivial, trivial, trivial, trivial⟩ ?_
    replace hs := hs.2
    refine z_if_eq 78 M.1 (off := 12) (by decide +kernel) (by decide) (fun c66 => ?_) (fun c66 => ?_)
    · rw [if_pos c66] at K hs
      refine z_go2 M.1 78 [(.iload 6, 2), (.iconst 1, 1), (.iload_n 3, 1), (.ishl, 1), (.iconst (-1), 1), (.ixor, 1), (.iand, 1)] (86, [(6, .inl (S 15 ((x1 * 30) + x2).toNatClampNeg)), (5, .inl s0), (0, z_r 13), (1, .inl x1), (2, .inl x2), (3, .inl x3), (4, .inl x4)], [.inl ((S 15 ((x1 * 30) + x2).toNatClampNeg) &&& (((1 : Int32) <<< (x3 &&& 31)) ^^^ (-1))), .inl ((x1 * 30) + x2), z_r 15], zW T' G' S n, 0, 0) (by decide +kernel) rfl ⟨trivial, trivial, trivial, trivial, trivial, trivial, trivial, trivial⟩ ?_
      exact z_lvs (lv' := []) [] rfl (t_World_connect_j86_13 M S ((S 15 ((x1 * 30) + x2).toNatClampNeg) &&& (((1 : Int32) <<< (x3 &&& 31)) ^^^ (-1))) ((x1 * 30) + x2) hQ K hs)
    · rw [if_neg c66] at K hs
      refine z_go2 M.1 69 [(.iload 6, 2), (.iconst 1, 1), (.iload_n 3, 1), (.ishl, 1), (.ior, 1), (.goto 11, 3)] (86, [(6, .inl (S 15 ((x1 * 30) + x2).toNatClampNeg)), (5, .inl s0), (0, z_r 13), (1, .inl x1), (2, .inl x2), (3, .inl x3), (4, .inl x4)], [.inl ((S 15 ((x1 * 30) + x2).toNatClampNeg) ||| ((1 : Int32) <<< (x3 &&& 31))), .inl ((x1 * 30) + x2), z_r 15], zW T' G' S n, 0, 0) (by decide +kernel) rfl ⟨trivial, trivial, trivial, trivial, trivial, trivial, trivial⟩ ?_
      exact z_lvs (lv' := []) [] rfl (t_World_connect_j86_13 M S ((S 15 ((x1 * 30) + x2).toNatClampNeg) ||| ((1 : Int32) <<< (x3 &&& 31))) ((x1 * 30) + x2) hQ K hs)
theorem t_World_connect_j34_28 {X : z_X} {Post : Option z_V → z_W → Prop} (M : z_M X zm_World_connect rm_World_connect Post) {T' : Nat → Nat × Nat} {G' : Nat → Nat → Option Nat} {n : Nat} {Q : (Nat → Nat → Int32) → Prop} (S : (Nat → Nat → Int32)) (x1 : Int32) (x2 : Int32) (x3 : Int32) (x4 : Int32) (s0 : Int32) (hQ : ∀ S', Q S' → Post none (zW T' G' S' n)) (K : Q (F_World_connect_j34 28 S x1 x2 x3 x4 s0)) (hs : Sf_World_connect_j34 28 S x1 x2 x3 x4 s0) : z_G X zm_World_connect (34, [(0, z_r 28), (1, .inl x1), (2, .inl x2), (3, .inl x3), (4, .inl x4)], [.inl s0], zW T' G' S n, 0, 0) := by
  unfold F_World_connect_j34 at K
  unfold Sf_World_connect_j34 at hs
  try simp only [Nat.reduceAdd] at K hs
  refine z_go2 M.1 34 [(.istore 5, 2), (.iload 5, 2)] (38, [(5, .inl s0), (0, z_r 28), (1, .inl x1), (2, .inl x2), (3, .inl x3), (4, .inl x4)], [.inl s0], zW T' G' S n, 0, 0) (by decide +kernel) rfl ⟨trivial, trivial, trivial⟩ ?_
  refine z_if_eq 87 M.1 (off := 49) (by decide +kernel) (by decide) (fun c38 => ?_) (fun c38 => ?_)
  · rw [if_pos c38] at K hs
    exact z_vret M (by decide +kernel) rfl (by decide) (by decide) (hQ _ K)
  · rw [if_neg c38] at K hs
    refine z_go2 M.1 41 [(.aload_n 0, 1), (.getfield 15, 3), (.iload_n 1, 1), (.bipush 30, 2), (.imul, 1), (.iload_n 2, 1), (.iadd, 1), (.iaload, 1), (.istore 6, 2), (.aload_n 0, 1), (.getfield 15, 3), (.iload_n 1, 1), (.bipush 30, 2), (.imul, 1), (.iload_n 2, 1), (.iadd, 1), (.iload 4, 2)] (66, [(6, .inl (S 30 ((x1 * 30) + x2).toNatClampNeg)), (5, .inl s0), (0, z_r 28), (1, .inl x1), (2, .inl x2), (3, .inl x3), (4, .inl x4)], [.inl x4, .inl ((x1 * 30) + x2), z_r 30], zW T' G' S n, 0, 0) (by decide +kernel) rfl ⟨trivial, rfl, trivial, trivial, trivial, trivial, trivial, ⟨rfl, hs.1⟩, trivial, trivial, rfl, trivial, trivial, trivial, trivial, trivial, trivial, trivial⟩ ?_
    replace hs := hs.2
    refine z_if_eq 78 M.1 (off := 12) (by decide +kernel) (by decide) (fun c66 => ?_) (fun c66 => ?_)
    · rw [if_pos c66] at K hs
      refine z_go2 M.1 78 [(.iload 6, 2), (.iconst 1, 1), (.iload_n 3, 1), (.ishl, 1), (.iconst (-1), 1), (.ixor, 1), (.iand, 1)] (86, [(6, .inl (S 30 ((x1 * 30) + x2).toNatClampNeg)), (5, .inl s0), (0, z_r 28), (1, .inl x1), (2, .inl x2), (3, .inl x3), (4, .inl x4)], [.inl ((S 30 ((x1 * 30) + x2).toNatClampNeg) &&& (((1 : Int32) <<< (x3 &&& 31)) ^^^ (-1))), .inl ((x1 * 30) + x2), z_r 30], zW T' G' S n, 0, 0) (by decide +kernel) rfl ⟨trivial, trivial, trivial, trivial, trivial, trivial, trivial, trivial⟩ ?_
      exact z_lvs (lv' := []) [] rfl (t_World_connect_j86_28 M S ((S 30 ((x1 * 30) + x2).toNatClampNeg) &&& (((1 : Int32) <<< (x3 &&& 31)) ^^^ (-1))) ((x1 * 30) + x2) hQ K hs)
    · rw [if_neg c66] at K hs
      refine z_go2 M.1 69 [(.iload 6, 2), (.iconst 1, 1), (.iload_n 3, 1), (.ishl, 1), (.ior, 1), (.goto 11, 3)] (86, [(6, .inl (S 30 ((x1 * 30) + x2).toNatClampNeg)), (5, .inl s0), (0, z_r 28), (1, .inl x1), (2, .inl x2), (3, .inl x3), (4, .inl x4)], [.inl ((S 30 ((x1 * 30) + x2).toNatClampNeg) ||| ((1 : Int32) <<< (x3 &&& 31))), .inl ((x1 * 30) + x2), z_r 30], zW T' G' S n, 0, 0) (by decide +kernel) rfl ⟨trivial, trivial, trivial, trivial, trivial, trivial, trivial⟩ ?_
      exact z_lvs (lv' := []) [] rfl (t_World_connect_j86_28 M S ((S 30 ((x1 * 30) + x2).toNatClampNeg) ||| ((1 : Int32) <<< (x3 &&& 31))) ((x1 * 30) + x2) hQ K hs)
def F_World_connect_j33 (r : Nat) (S : (Nat → Nat → Int32)) (x1 : Int32) (x2 : Int32) (x3 : Int32) (x4 : Int32) : (Nat → Nat → Int32) := (F_World_connect_j34 r S x1 x2 x3 x4 0)
def Sf_World_connect_j33 (r : Nat) (S : (Nat → Nat → Int32)) (x1 : Int32) (x2 : Int32) (x3 : Int32) (x4 : Int32) : Prop := (Sf_World_connect_j34 r S x1 x2 x3 x4 0)
theorem t_World_connect_j33_9 {X : z_X} {Post : Option z_V → z_W → Prop} (M : z_M X zm_World_connect rm_World_connect Post) {T' : Nat → Nat × Nat} {G' : Nat → Nat → Option Nat} {n : Nat} {Q : (Nat → Nat → Int32) → Prop} (S : (Nat → Nat → Int32)) (x1 : Int32) (x2 : Int32) (x3 : Int32) (x4 : Int32) (hQ : ∀ S', Q S' → Post none (zW T' G' S' n)) (K : Q (F_World_connect_j33 9 S x1 x2 x3 x4)) (hs : Sf_World_connect_j33 9 S x1 x2 x3 x4) : z_G X zm_World_connect (33, [(0, z_r 9), (1, .inl x1), (2, .inl x2), (3, .inl x3), (4, .inl x4)], [], zW T' G' S n, 0, 0) := by
  unfold F_World_connect_j33 at K
  unfold Sf_World_connect_j33 at hs
  try simp only [Nat.reduceAdd] at K hs
  refine z_go2 M.1 33 [(.iconst 0, 1)] (34, [(0, z_r 9), (1, .inl x1), (2, .inl x2), (3, .inl x3), (4, .inl x4)], [.inl 0], zW T' G' S n, 0, 0) (by decide +kernel) rfl ⟨trivial, trivial⟩ ?_
  exact z_lvs (lv' := [(0, z_r 9), (1, .inl x1), (2, .inl x2), (3, .inl x3), (4, .inl x4)]) [0, 1, 2, 3, 4] rfl (t_World_connect_j34_9 M S x1 x2 x3 x4 0 hQ K hs)
theorem t_World_connect_j33_13 {X : z_X} {Post : Option z_V → z_W → Prop} (M : z_M X zm_World_connect rm_World_connect Post) {T' : Nat → Nat × Nat} {G' : Nat → Nat → Option Nat} {n : Nat} {Q : (Nat → Nat → Int32) → Prop} (S : (Nat → Nat → Int32)) (x1 : Int32) (x2 : Int32) (x3 : Int32) (x4 : Int32) (hQ : ∀ S', Q S' → Post none (zW T' G' S' n)) (K : Q (F_World_connect_j33 13 S x1 x2 x3 x4)) (hs : Sf_World_connect_j33 13 S x1 x2 x3 x4) : z_G X zm_World_connect (33, [(0, z_r 13), (1, .inl x1), (2, .inl x2), (3, .inl x3), (4, .inl x4)], [], zW T' G' S n, 0, 0) := by
  unfold F_World_connect_j33 at K
  unfold Sf_World_connect_j33 at hs
  try simp only [Nat.reduceAdd] at K hs
  refine z_go2 M.1 33 [(.iconst 0, 1)] (34, [(0, z_r 13), (1, .inl x1), (2, .inl x2), (3, .inl x3), (4, .inl x4)], [.inl 0], zW T' G' S n, 0, 0) (by decide +kernel) rfl ⟨trivial, trivial⟩ ?_
  exact z_lvs (lv' := [(0, z_r 13), (1, .inl x1), (2, .inl x2), (3, .inl x3), (4, .inl x4)]) [0, 1, 2, 3, 4] rfl (t_World_connect_j34_13 M S x1 x2 x3 x4 0 hQ K hs)
theorem t_World_connect_j33_28 {X : z_X} {Post : Option z_V → z_W → Prop} (M : z_M X zm_World_connect rm_World_connect Post) {T' : Nat → Nat × Nat} {G' : Nat → Nat → Option Nat} {n : Nat} {Q : (Nat → Nat → Int32) → Prop} (S : (Nat → Nat → Int32)) (x1 : Int32) (x2 : Int32) (x3 : Int32) (x4 : Int32) (hQ : ∀ S', Q S' → Post none (zW T' G' S' n)) (K : Q (F_World_connect_j33 28 S x1 x2 x3 x4)) (hs : Sf_World_connect_j33 28 S x1 x2 x3 x4) : z_G X zm_World_connect (33, [(0, z_r 28), (1, .inl x1), (2, .inl x2), (3, .inl x3), (4, .inl x4)], [], zW T' G' S n, 0, 0) := by
  unfold F_World_connect_j33 at K
  unfold Sf_World_connect_j33 at hs
  try simp only [Nat.reduceAdd] at K hs
  refine z_go2 M.1 33 [(.iconst 0, 1)] (34, [(0, z_r 28), (1, .inl x1), (2, .inl x2), (3, .inl x3), (4, .inl x4)], [.inl 0], zW T' G' S n, 0, 0) (by decide +kernel) rfl ⟨trivial, trivial⟩ ?_
  exact z_lvs (lv' := [(0, z_r 28), (1, .inl x1), (2, .inl x2), (3, .inl x3), (4, .inl x4)]) [0, 1, 2, 3, 4] rfl (t_World_connect_j34_28 M S x1 x2 x3 x4 0 hQ K hs)
def F_World_connect (r : Nat) (S : (Nat → Nat → Int32)) (p1 : Int32) (p2 : Int32) (p3 : Int32) (p4 : Int32) : (Nat → Nat → Int32) := (if p1 < 0 then (F_World_connect_j33 r S p1 p2 p3 p4) else (if (3 : Int32) ≤ p1 then (F_World_connect_j33 r S p1 p2 p3 p4) else (if p2 < 0 then (F_World_connect_j33 r S p1 p2 p3 p4) else (if (30 : Int32) ≤ p2 then (F_World_connect_j33 r S p1 p2 p3 p4) else (if p3 < 0 then (F_World_connect_j33 r S p1 p2 p3 p4) else (if (30 : Int32) ≤ p3 then (F_World_connect_j33 r S p1 p2 p3 p4) else (F_World_connect_j34 r S p1 p2 p3 p4 1)))))))
def Sf_World_connect (r : Nat) (S : (Nat → Nat → Int32)) (p1 : Int32) (p2 : Int32) (p3 : Int32) (p4 : Int32) : Prop := (if p1 < 0 then (Sf_World_connect_j33 r S p1 p2 p3 p4) else (if (3 : Int32) ≤ p1 then (Sf_World_connect_j33 r S p1 p2 p3 p4) else (if p2 < 0 then (Sf_World_connect_j33 r S p1 p2 p3 p4) else (if (30 : Int32) ≤ p2 then (Sf_World_connect_j33 r S p1 p2 p3 p4) else (if p3 < 0 then (Sf_World_connect_j33 r S p1 p2 p3 p4) else (if (30 : Int32) ≤ p3 then (Sf_World_connect_j33 r S p1 p2 p3 p4) else (Sf_World_connect_j34 r S p1 p2 p3 p4 1)))))))
theorem c_World_connect_9 (T' : Nat → Nat × Nat) (G' : Nat → Nat → Option Nat) (S : (Nat → Nat → Int32)) (n : Nat) (p1 : Int32) (p2 : Int32) (p3 : Int32) (p4 : Int32) (hs : Sf_World_connect 9 S p1 p2 p3 p4) : z_Run rm_World_connect zm_World_connect [z_r 9, .inl p1, .inl p2, .inl p3, .inl p4] (zW T' G' S n) (zq none (zW T' G' (F_World_connect 9 S p1 p2 p3 p4) n)) := by
  refine z_body (by decide) zf_World_ok (Nat.le_of_ble_eq_true rfl) (fun X M => ?_)
  obtain ⟨Q, hQ, K⟩ : ∃ Q : (Nat → Nat → Int32) → Prop, (∀ S', Q S' → zq none (zW T' G' (F_World_connect 9 S p1 p2 p3 p4) n) none (zW T' G' S' n)) ∧ Q (F_World_connect 9 S p1 p2 p3 p4) := ⟨fun o => F_World_connect 9 S p1 p2 p3 p4 = o, fun S' h => ⟨rfl, by rw [h]⟩, rfl⟩
  show z_G X zm_World_connect (0, [(0, z_r 9), (1, .inl p1), (2, .inl p2), (3, .inl p3), (4, .inl p4)], [], zW T' G' S n, 0, 0)
  unfold F_World_connect at K
  unfold Sf_World_connect at hs
  try simp only [Nat.reduceAdd] at K hs
  refine z_go2 M.1 0 [(.iload_n 1, 1)] (1, [(0, z_r 9), (1, .inl p1), (2, .inl p2), (3, .inl p3), (4, .inl p4)], [.inl p1], zW T' G' S n, 0, 0) (by decide +kernel) rfl ⟨trivial, trivial⟩ ?_
  refine z_if_lt 33 M.1 (off := 32) (by decide +kernel) (by decide) (fun c1 => ?_) (fun c1 => ?_)
  · rw [if_pos c1] at K hs
    exact z_lvs (lv' := [(0, z_r 9), (1, .inl p1), (2, .inl p2), (3, .inl p3), (4, .inl p4)]) [0, 1, 2, 3, 4] rfl (t_World_connect_j33_9 M S p1 p2 p3 p4 hQ K hs)
  · rw [if_neg c1] at K hs
    refine z_go2 M.1 4 [(.iload_n 1, 1), (.iconst 3, 1)] (6, [(0, z_r 9), (1, .inl p1), (2, .inl p2), (3, .inl p3), (4, .inl p4)], [.inl 3, .inl p1], zW T' G' S n, 0, 0) (by decide +kernel) rfl ⟨trivial, trivial, trivial⟩ ?_
    refine z_icmp_ge 33 M.1 (off := 27) (by decide +kernel) (by decide) (fun c6 => ?_) (fun c6 => ?_)
    · rw [if_pos c6] at K hs
      exact z_lvs (lv' := [(0, z_r 9), (1, .inl p1), (2, .inl p2), (3, .inl p3), (4, .inl p4)]) [0, 1, 2, 3, 4] rfl (t_World_connect_j33_9 M S p1 p2 p3 p4 hQ K hs)
    · rw [if_neg c6] at K hs
      refine z_go2 M.1 9 [(.iload_n 2, 1)] (10, [(0, z_r 9), (1, .inl p1), (2, .inl p2), (3, .inl p3), (4, .inl p4)], [.inl p2], zW T' G' S n, 0, 0) (by decide +kernel) rfl ⟨trivial, trivial⟩ ?_
      refine z_if_lt 33 M.1 (off := 23) (by decide +kernel) (by decide) (fun c10 => ?_) (fun c10 => ?_)
      · rw [if_pos c10] at K hs
        exact z_lvs (lv' := [(0, z_r 9), (1, .inl p1), (2, .inl p2), (3, .inl p3), (4, .inl p4)]) [0, 1, 2, 3, 4] rfl (t_World_connect_j33_9 M S p1 p2 p3 p4 hQ K hs)
      · rw [if_neg c10] at K hs
        refine z_go2 M.1 13 [(.iload_n 2, 1), (.bipush 30, 2)] (16, [(0, z_r 9), (1, .inl p1), (2, .inl p2), (3, .inl p3), (4, .inl p4)], [.inl 30, .inl p2], zW T' G' S n, 0, 0) (by decide +kernel) rfl ⟨trivial, trivial, trivial⟩ ?_
        refine z_icmp_ge 33 M.1 (off := 17) (by decide +kernel) (by decide) (fun c16 => ?_) (fun c16 => ?_)
        · rw [if_pos c16] at K hs
          exact z_lvs (lv' := [(0, z_r 9), (1, .inl p1), (2, .inl p2), (3, .inl p3), (4, .inl p4)]) [0, 1, 2, 3, 4] rfl (t_World_connect_j33_9 M S p1 p2 p3 p4 hQ K hs)
        · rw [if_neg c16] at K hs
          refine z_go2 M.1 19 [(.iload_n 3, 1)] (20, [(0, z_r 9), (1, .inl p1), (2, .inl p2), (3, .inl p3), (4, .inl p4)], [.inl p3], zW T' G' S n, 0, 0) (by decide +kernel) rfl ⟨trivial, trivial⟩ ?_
          refine z_if_lt 33 M.1 (off := 13) (by decide +kernel) (by decide) (fun c20 => ?_) (fun c20 => ?_)
          · rw [if_pos c20] at K hs
            exact z_lvs (lv' := [(0, z_r 9), (1, .inl p1), (2, .inl p2), (3, .inl p3), (4, .inl p4)]) [0, 1, 2, 3, 4] rfl (t_World_connect_j33_9 M S p1 p2 p3 p4 hQ K hs)
          · rw [if_neg c20] at K hs
            refine z_go2 M.1 23 [(.iload_n 3, 1), (.bipush 30, 2)] (26, [(0, z_r 9), (1, .inl p1), (2, .inl p2), (3, .inl p3), (4, .inl p4)], [.inl 30, .inl p3], zW T' G' S n, 0, 0) (by decide +kernel) rfl ⟨trivial, trivial, trivial⟩ ?_
            refine z_icmp_ge 33 M.1 (off := 7) (by decide +kernel) (by decide) (fun c26 => ?_) (fun c26 => ?_)
            · rw [if_pos c26] at K hs
              exact z_lvs (lv' := [(0, z_r 9), (1, .inl p1), (2, .inl p2), (3, .inl p3), (4, .inl p4)]) [0, 1, 2, 3, 4] rfl (t_World_connect_j33_9 M S p1 p2 p3 p4 hQ K hs)
            · rw [if_neg c26] at K hs
              refine z_go2 M.1 29 [(.iconst 1, 1), (.goto 4, 3)] (34, [(0, z_r 9), (1, .inl p1), (2, .inl p2), (3, .inl p3), (4, .inl p4)], [.inl 1], zW T' G' S n, 0, 0) (by decide +kernel) rfl ⟨trivial, trivial, trivial⟩ ?_
              exact z_lvs (lv' := [(0, z_r 9), (1, .inl p1), (2, .inl p2), (3, .inl p3), (4, .inl p4)]) [0, 1, 2, 3, 4] rfl (t_World_connect_j34_9 M S p1 p2 p3 p4 1 hQ K hs)
theorem c_World_connect_13 (T' : Nat → Nat × Nat) (G' : Nat → Nat → Option Nat) (S : (Nat → Nat → Int32)) (n : Nat) (p1 : Int32) (p2 : Int32) (p3 : Int32) (p4 : Int32) (hs : Sf_World_connect 13 S p1 p2 p3 p4) : z_Run rm_World_connect zm_World_connect [z_r 13, .inl p1, .inl p2, .inl p3, .inl p4] (zW T' G' S n) (zq none (zW T' G' (F_World_connect 13 S p1 p2 p3 p4) n)) := by
  refine z_body (by decide) zf_World_ok (Nat.le_of_ble_eq_true rfl) (fun X M => ?_)
  obtain ⟨Q, hQ, K⟩ : ∃ Q : (Nat → Nat → Int32) → Prop, (∀ S', Q S' → zq none (zW T' G' (F_World_connect 13 S p1 p2 p3 p4) n) none (zW T' G' S' n)) ∧ Q (F_World_connect 13 S p1 p2 p3 p4) := ⟨fun o => F_World_connect 13 S p1 p2 p3 p4 = o, fun S' h => ⟨rfl, by rw [h]⟩, rfl⟩
  show z_G X zm_World_connect (0, [(0, z_r 13), (1, .inl p1), (2, .inl p2), (3, .inl p3), (4, .inl p4)], [], zW T' G' S n, 0, 0)
  unfold F_World_connect at K
  unfold Sf_World_connect at hs
  try simp only [Nat.reduceAdd] at K hs
  refine z_go2 M.1 0 [(.iload_n 1, 1)] (1, [(0, z_r 13), (1, .inl p1), (2, .inl p2), (3, .inl p3), (4, .inl p4)], [.inl p1], zW T' G' S n, 0, 0) (by decide +kernel) rfl ⟨trivial, trivial⟩ ?_
  refine z_if_lt 33 M.1 (off := 32) (by decide +kernel) (by decide) (fun c1 => ?_) (fun c1 => ?_)
  · rw [if_pos c1] at K hs
    exact z_lvs (lv' := [(0, z_r 13), (1, .inl p1), (2, .inl p2), (3, .inl p3), (4, .inl p4)]) [0, 1, 2, 3, 4] rfl (t_World_connect_j33_13 M S p1 p2 p3 p4 hQ K hs)
  · rw [if_neg c1] at K hs
    refine z_go2 M.1 4 [(.iload_n 1, 1), (.iconst 3, 1)] (6, [(0, z_r 13), (1, .inl p1), (2, .inl p2), (3, .inl p3), (4, .inl p4)], [.inl 3, .inl p1], zW T' G' S n, 0, 0) (by decide +kernel) rfl ⟨trivial, trivial, trivial⟩ ?_
    refine z_icmp_ge 33 M.1 (off := 27) (by decide +kernel) (by decide) (fun c6 => ?_) (fun c6 => ?_)
    · rw [if_pos c6] at K hs
      exact z_lvs (lv' := [(0, z_r 13), (1, .inl p1), (2, .inl p2), (3, .inl p3), (4, .inl p4)]) [0, 1, 2, 3, 4] rfl (t_World_connect_j33_13 M S p1 p2 p3 p4 hQ K hs)
    · rw [if_neg c6] at K hs
      refine z_go2 M.1 9 [(.iload_n 2, 1)] (10, [(0, z_r 13), (1, .inl p1), (2, .inl p2), (3, .inl p3), (4, .inl p4)], [.inl p2], zW T' G' S n, 0, 0) (by decide +kernel) rfl ⟨trivial, trivial⟩ ?_
      refine z_if_lt 33 M.1 (off := 23) (by decide +kernel) (by decide) (fun c10 => ?_) (fun c10 => ?_)
      · rw [if_pos c10] at K hs
        exact z_lvs (lv' := [(0, z_r 13), (1, .inl p1), (2, .inl p2), (3, .inl p3), (4, .inl p4)]) [0, 1, 2, 3, 4] rfl (t_World_connect_j33_13 M S p1 p2 p3 p4 hQ K hs)
      · rw [if_neg c10] at K hs
        refine z_go2 M.1 13 [(.iload_n 2, 1), (.bipush 30, 2)] (16, [(0, z_r 13), (1, .inl p1), (2, .inl p2), (3, .inl p3), (4, .inl p4)], [.inl 30, .inl p2], zW T' G' S n, 0, 0) (by decide +kernel) rfl ⟨trivial, trivial, trivial⟩ ?_
        refine z_icmp_ge 33 M.1 (off := 17) (by decide +kernel) (by decide) (fun c16 => ?_) (fun c16 => ?_)
        · rw [if_pos c16] at K hs
          exact z_lvs (lv' := [(0, z_r 13), (1, .inl p1), (2, .inl p2), (3, .inl p3), (4, .inl p4)]) [0, 1, 2, 3, 4] rfl (t_World_connect_j33_13 M S p1 p2 p3 p4 hQ K hs)
        · rw [if_neg c16] at K hs
          refine z_go2 M.1 19 [(.iload_n 3, 1)] (20, [(0, z_r 13), (1, .inl p1), (2, .inl p2), (3, .inl p3), (4, .inl p4)], [.inl p3], zW T' G' S n, 0, 0) (by decide +kernel) rfl ⟨trivial, trivial⟩ ?_
          refine z_if_lt 33 M.1 (off := 13) (by decide +kernel) (by decide) (fun c20 => ?_) (fun c20 => ?_)
          · rw [if_pos c20] at K hs
            exact z_lvs (lv' := [(0, z_r 13), (1, .inl p1), (2, .inl p2), (3, .inl p3), (4, .inl p4)]) [0, 1, 2, 3, 4] rfl (t_World_connect_j33_13 M S p1 p2 p3 p4 hQ K hs)
          · rw [if_neg c20] at K hs
            refine z_go2 M.1 23 [(.iload_n 3, 1), (.bipush 30, 2)] (26, [(0, z_r 13), (1, .inl p1), (2, .inl p2), (3, .inl p3), (4, .inl p4)], [.inl 30, .inl p3], zW T' G' S n, 0, 0) (by decide +kernel) rfl ⟨trivial, trivial, trivial⟩ ?_
            refine z_icmp_ge 33 M.1 (off := 7) (by decide +kernel) (by decide) (fun c26 => ?_) (fun c26 => ?_)
            · rw [if_pos c26] at K hs
              exact z_lvs (lv' := [(0, z_r 13), (1, .inl p1), (2, .inl p2), (3, .inl p3), (4, .inl p4)]) [0, 1, 2, 3, 4] rfl (t_World_connect_j33_13 M S p1 p2 p3 p4 hQ K hs)
            · rw [if_neg c26] at K hs
              refine z_go2 M.1 29 [(.iconst 1, 1), (.goto 4, 3)] (34, [(0, z_r 13), (1, .inl p1), (2, .inl p2), (3, .inl p3), (4, .inl p4)], [.inl 1], zW T' G' S n, 0, 0) (by decide +kernel) rfl ⟨trivial, trivial, trivial⟩ ?_
              exact z_lvs (lv' := [(0, z_r 13), (1, .inl p1), (2, .inl p2), (3, .inl p3), (4, .inl p4)]) [0, 1, 2, 3, 4] rfl (t_World_connect_j34_13 M S p1 p2 p3 p4 1 hQ K hs)
theorem c_World_connect_28 (T' : Nat → Nat × Nat) (G' : Nat → Nat → Option Nat) (S : (Nat → Nat → Int32)) (n : Nat) (p1 : Int32) (p2 : Int32) (p3 : Int32) (p4 : Int32) (hs : Sf_World_connect 28 S p1 p2 p3 p4) : z_Run rm_World_connect zm_World_connect [z_r 28, .inl p1, .inl p2, .inl p3, .inl p4] (zW T' G' S n) (zq none (zW T' G' (F_World_connect 28 S p1 p2 p3 p4) n)) := by
  refine z_body (by decide) zf_World_ok (Nat.le_of_ble_eq_true rfl) (fun X M => ?_)
  obtain ⟨Q, hQ, K⟩ : ∃ Q : (Nat → Nat → Int32) → Prop, (∀ S', Q S' → zq none (zW T' G' (F_World_connect 28 S p1 p2 p3 p4) n) none (zW T' G' S' n)) ∧ Q (F_World_connect 28 S p1 p2 p3 p4) := ⟨fun o => F_World_connect 28 S p1 p2 p3 p4 = o, fun S' h => ⟨rfl, by rw [h]⟩, rfl⟩
  show z_G X zm_World_connect (0, [(0, z_r 28), (1, .inl p1), (2, .inl p2), (3, .inl p3), (4, .inl p4)], [], zW T' G' S n, 0, 0)
  unfold F_World_connect at K
  unfold Sf_World_connect at hs
  try simp only [Nat.reduceAdd] at K hs
  refine z_go2 M.1 0 [(.iload_n 1, 1)] (1, [(0, z_r 28), (1, .inl p1), (2, .inl p2), (3, .inl p3), (4, .inl p4)], [.inl p1], zW T' G' S n, 0, 0) (by decide +kernel) rfl ⟨trivial, trivial⟩ ?_
  refine z_if_lt 33 M.1 (off := 32) (by decide +kernel) (by decide) (fun c1 => ?_) (fun c1 => ?_)
  · rw [if_pos c1] at K hs
    exact z_lvs (lv' := [(0, z_r 28), (1, .inl p1), (2, .inl p2), (3, .inl p3), (4, .inl p4)]) [0, 1, 2, 3, 4] rfl (t_World_connect_j33_28 M S p1 p2 p3 p4 hQ K hs)
  · rw [if_neg c1] at K hs
    refine z_go2 M.1 4 [(.iload_n 1, 1), (.iconst 3, 1)] (6, [(0, z_r 28), (1, .inl p1), (2, .inl p2), (3, .inl p3), (4, .inl p4)], [.inl 3, .inl p1], zW T' G' S n, 0, 0) (by decide +kernel) rfl ⟨trivial, trivial, trivial⟩ ?_
    refine z_icmp_ge 33 M.1 (off := 27) (by decide +kernel) (by decide) (fun c6 => ?_) (fun c6 => ?_)
    · rw [if_pos c6] at K hs
      exact z_lvs (lv' := [(0, z_r 28), (1, .inl p1), (2, .inl p2), (3, .inl p3), (4, .inl p4)]) [0, 1, 2, 3, 4] rfl (t_World_connect_j33_28 M S p1 p2 p3 p4 hQ K hs)
    · rw [if_neg c6] at K hs
      refine z_go2 M.1 9 [(.iload_n 2, 1)] (10, [(0, z_r 28), (1, .inl p1), (2, .inl p2), (3, .inl p3), (4, .inl p4)], [.inl p2], zW T' G' S n, 0, 0) (by decide +kernel) rfl ⟨trivial, trivial⟩ ?_
      refine z_if_lt 33 M.1 (off := 23) (by decide +kernel) (by decide) (fun c10 => ?_) (fun c10 => ?_)
      · rw [if_pos c10] at K hs
        exact z_lvs (lv' := [(0, z_r 28), (1, .inl p1), (2, .inl p2), (3, .inl p3), (4, .inl p4)]) [0, 1, 2, 3, 4] rfl (t_World_connect_j33_28 M S p1 p2 p3 p4 hQ K hs)
      · rw [if_neg c10] at K hs
        refine z_go2 M.1 13 [(.iload_n 2, 1), (.bipush 30, 2)] (16, [(0, z_r 28), (1, .inl p1), (2, .inl p2), (3, .inl p3), (4, .inl p4)], [.inl 30, .inl p2], zW T' G' S n, 0, 0) (by decide +kernel) rfl ⟨trivial, trivial, trivial⟩ ?_
        refine z_icmp_ge 33 M.1 (off := 17) (by decide +kernel) (by decide) (fun c16 => ?_) (fun c16 => ?_)
        · rw [if_pos c16] at K hs
          exact z_lvs (lv' := [(0, z_r 28), (1, .inl p1), (2, .inl p2), (3, .inl p3), (4, .inl p4)]) [0, 1, 2, 3, 4] rfl (t_World_connect_j33_28 M S p1 p2 p3 p4 hQ K hs)
        · rw [if_neg c16] at K hs
          refine z_go2 M.1 19 [(.iload_n 3, 1)] (20, [(0, z_r 28), (1, .inl p1), (2, .inl p2), (3, .inl p3), (4, .inl p4)], [.inl p3], zW T' G' S n, 0, 0) (by decide +kernel) rfl ⟨trivial, trivial⟩ ?_
          refine z_if_lt 33 M.1 (off := 13) (by decide +kernel) (by decide) (fun c20 => ?_) (fun c20 => ?_)
          · rw [if_pos c20] at K hs
            exact z_lvs (lv' := [(0, z_r 28), (1, .inl p1), (2, .inl p2), (3, .inl p3), (4, .inl p4)]) [0, 1, 2, 3, 4] rfl (t_World_connect_j33_28 M S p1 p2 p3 p4 hQ K hs)
          · rw [if_neg c20] at K hs
            refine z_go2 M.1 23 [(.iload_n 3, 1), (.bipush 30, 2)] (26, [(0, z_r 28), (1, .inl p1), (2, .inl p2), (3, .inl p3), (4, .inl p4)], [.inl 30, .inl p3], zW T' G' S n, 0, 0) (by decide +kernel) rfl ⟨trivial, trivial, trivial⟩ ?_
            refine z_icmp_ge 33 M.1 (off := 7) (by decide +kernel) (by decide) (fun c26 => ?_) (fun c26 => ?_)
            · rw [if_pos c26] at K hs
              exact z_lvs (lv' := [(0, z_r 28), (1, .inl p1), (2, .inl p2), (3, .inl p3), (4, .inl p4)]) [0, 1, 2, 3, 4] rfl (t_World_connect_j33_28 M S p1 p2 p3 p4 hQ K hs)
            · rw [if_neg c26] at K hs
              refine z_go2 M.1 29 [(.iconst 1, 1), (.goto 4, 3)] (34, [(0, z_r 28), (1, .inl p1), (2, .inl p2), (3, .inl p3), (4, .inl p4)], [.inl 1], zW T' G' S n, 0, 0) (by decide +kernel) rfl ⟨trivial, trivial, trivial⟩ ?_
              exact z_lvs (lv' := [(0, z_r 28), (1, .inl p1), (2, .inl p2), (3, .inl p3), (4, .inl p4)]) [0, 1, 2, 3, 4] rfl (t_World_connect_j34_28 M S p1 p2 p3 p4 1 hQ K hs)

-- TrackHouse$World.write
abbrev rm_World_write : Room := zr 1
def F_World_write_j67 (r : Nat) (S : (Nat → Nat → Int32)) (s0 : Int32) (s1 : Int32) (s2 : Int32) (s3 : Int32) : (Nat → Nat → Int32) := (z_let (F_World_connect r S s3 s2 s1 s0) (fun S67 => S67))
def Sf_World_write_j67 (r : Nat) (S : (Nat → Nat → Int32)) (s0 : Int32) (s1 : Int32) (s2 : Int32) (s3 : Int32) : Prop := (Sf_World_connect r S s3 s2 s1 s0 ∧ True)
theorem t_World_write_j67_9 {X : z_X} {Post : Option z_V → z_W → Prop} (M : z_M X zm_World_write rm_World_write Post) {T' : Nat → Nat × Nat} {G' : Nat → Nat → Option Nat} {n : Nat} {Q : (Nat → Nat → Int32) → Prop} (S : (Nat → Nat → Int32)) (s0 : Int32) (s1 : Int32) (s2 : Int32) (s3 : Int32) (hQ : ∀ S', Q S' → Post none (zW T' G' S' n)) (K : Q (F_World_write_j67 9 S s0 s1 s2 s3)) (hs : Sf_World_write_j67 9 S s0 s1 s2 s3) : z_G X zm_World_write (67, [], [.inl s0, .inl s1, .inl s2, .inl s3, z_r 9], zW T' G' S n, 0, 0) := by
  unfold F_World_write_j67 at K
  unfold Sf_World_write_j67 at hs
  try simp only [Nat.reduceAdd] at K hs
  refine z_callV M.1 (av := [.inl s3, .inl s2, .inl s1, .inl s0]) (st := []) (a := 9) (ci := 10) (by decide +kernel) (c_World_connect_9 T' G' S n s3 s2 s1 s0 hs.1) M.2.1 zl_World_63 zv_World_connect rfl rfl rfl ⟨by decide, by decide, by decide, by decide⟩ rfl (Nat.le_of_ble_eq_true rfl) (fun v w' hv => ?_)
  replace hs := hs.2
  obtain ⟨S67, hF67⟩ : ∃ y, F_World_connect 9 S s3 s2 s1 s0 = y := ⟨_, rfl⟩
  rw [hF67] at K hv
  try dsimp only [z_let] at K
  obtain ⟨rfl, rfl⟩ := hv
  show z_G X zm_World_write (70, [], [], zW T' G' S67 n, 0, 0)
  refine z_go2 M.1 70 [(.goto 18, 3)] (88, [], [], zW T' G' S67 n, 0, 0) (by decide +kernel) rfl ⟨trivial, trivial⟩ ?_
  exact z_vret M (by decide +kernel) rfl (by decide) (by decide) (hQ _ K)
theorem t_World_write_j67_13 {X : z_X} {Post : Option z_V → z_W → Prop} (M : z_M X zm_World_write rm_World_write Post) {T' : Nat → Nat × Nat} {G' : Nat → Nat → Option Nat} {n : Nat} {Q : (Nat → Nat → Int32) → Prop} (S : (Nat → Nat → Int32)) (s0 : Int32) (s1 : Int32) (s2 : Int32) (s3 : Int32) (hQ : ∀ S', Q S' → Post none (zW T' G' S' n)) (K : Q (F_World_write_j67 13 S s0 s1 s2 s3)) (hs : Sf_World_write_j67 13 S s0 s1 s2 s3) : z_G X zm_World_write (67, [], [.inl s0, .inl s1, .inl s2, .inl s3, z_r 13], zW T' G' S n, 0, 0) := by
  unfold F_World_write_j67 at K
  unfold Sf_World_write_j67 at hs
  try simp only [Nat.reduceAdd] at K hs
  refine z_callV M.1 (av := [.inl s3, .inl s2, .inl s1, .inl s0]) (st := []) (a := 13) (ci := 10) (by decide +kernel) (c_World_connect_13 T' G' S n s3 s2 s1 s0 hs.1) M.2.1 zl_World_63 zv_World_connect rfl rfl rfl ⟨by decide, by decide, by decide, by decide⟩ rfl (Nat.le_of_ble_eq_true rfl) (fun v w' hv => ?_)
  replace hs := hs.2
  obtain ⟨S67, hF67⟩ : ∃ y, F_World_connect 13 S s3 s2 s1 s0 = y := ⟨_, rfl⟩
  rw [hF67] at K hv
  try dsimp only [z_let] at K
  obtain ⟨rfl, rfl⟩ := hv
  show z_G X zm_World_write (70, [], [], zW T' G' S67 n, 0, 0)
  refine z_go2 M.1 70 [(.goto 18, 3)] (88, [], [], zW T' G' S67 n, 0, 0) (by decide +kernel) rfl ⟨trivial, trivial⟩ ?_
  exact z_vret M (by decide +kernel) rfl (by decide) (by decide) (hQ _ K)
theorem t_World_write_j67_28 {X : z_X} {Post : Option z_V → z_W → Prop} (M : z_M X zm_World_write rm_World_write Post) {T' : Nat → Nat × Nat} {G' : Nat → Nat → Option Nat} {n : Nat} {Q : (Nat → Nat → Int32) → Prop} (S : (Nat → Nat → Int32)) (s0 : Int32) (s1 : Int32) (s2 : Int32) (s3 : Int32) (hQ : ∀ S', Q S' → Post none (zW T' G' S' n)) (K : Q (F_World_write_j67 28 S s0 s1 s2 s3)) (hs : Sf_World_write_j67 28 S s0 s1 s2 s3) : z_G X zm_World_write (67, [], [.inl s0, .inl s1, .inl s2, .inl s3, z_r 28], zW T' G' S n, 0, 0) := by
  unfold F_World_write_j67 at K
  unfold Sf_World_write_j67 at hs
  try simp only [Nat.reduceAdd] at K hs
  refine z_callV M.1 (av := [.inl s3, .inl s2, .inl s1, .inl s0]) (st := []) (a := 28) (ci := 10) (by decide +kernel) (c_World_connect_28 T' G' S n s3 s2 s1 s0 hs.1) M.2.1 zl_World_63 zv_World_connect rfl rfl rfl ⟨by decide, by decide, by decide, by decide⟩ rfl (Nat.le_of_ble_eq_true rfl) (fun v w' hv => ?_)
  replace hs := hs.2
  obtain ⟨S67, hF67⟩ : ∃ y, F_World_connect 28 S s3 s2 s1 s0 = y := ⟨_, rfl⟩
  rw [hF67] at K hv
  try dsimp only [z_let] at K
  obtain ⟨rfl, rfl⟩ := hv
  show z_G X zm_World_write (70, [], [], zW T' G' S67 n, 0, 0)
  refine z_go2 M.1 70 [(.goto 18, 3)] (88, [], [], zW T' G' S67 n, 0, 0) (by decide +kernel) rfl ⟨trivial, trivial⟩ ?_
  exact z_vret M (by decide +kernel) rfl (by decide) (by decide) (hQ _ K)
def F_World_write_j43 (r : Nat) (S : (Nat → Nat → Int32)) (x1 : Int32) (x2 : Int32) (x3 : Int32) (x4 : Int32) (s0 : Int32) (s1 : Int32) (s2 : Int32) (s3 : Int32) : (Nat → Nat → Int32) := (z_let (F_World_connect r S s3 s2 s1 s0) (fun S43 => (if x2 = 11 then (if x4 = 1 then (F_World_write_j67 r S43 1 x1 x3 1) else (F_World_write_j67 r S43 0 x1 x3 1)) else S43)))
def Sf_World_write_j43 (r : Nat) (S : (Nat → Nat → Int32)) (x1 : Int32) (x2 : Int32) (x3 : Int32) (x4 : Int32) (s0 : Int32) (s1 : Int32) (s2 : Int32) (s3 : Int32) : Prop := (Sf_World_connect r S s3 s2 s1 s0 ∧ (z_let (F_World_connect r S s3 s2 s1 s0) (fun S43 => (if x2 = 11 then (if x4 = 1 then (Sf_World_write_j67 r S43 1 x1 x3 1) else (Sf_World_write_j67 r S43 0 x1 x3 1)) else True))))
theorem t_World_write_j43_9 {X : z_X} {Post : Option z_V → z_W → Prop} (M : z_M X zm_World_write rm_World_write Post) {T' : Nat → Nat × Nat} {G' : Nat → Nat → Option Nat} {n : Nat} {Q : (Nat → Nat → Int32) → Prop} (S : (Nat → Nat → Int32)) (x1 : Int32) (x2 : Int32) (x3 : Int32) (x4 : Int32) (s0 : Int32) (s1 : Int32) (s2 : Int32) (s3 : Int32) (hQ : ∀ S', Q S' → Post none (zW T' G' S' n)) (K : Q (F_World_write_j43 9 S x1 x2 x3 x4 s0 s1 s2 s3)) (hs : Sf_World_write_j43 9 S x1 x2 x3 x4 s0 s1 s2 s3) : z_G X zm_World_write (43, [(0, z_r 9), (1, .inl x1), (2, .inl x2), (3, .inl x3), (4, .inl x4)], [.inl s0, .inl s1, .inl s2, .inl s3, z_r 9], zW T' G' S n, 0, 0) := by
  unfold F_World_write_j43 at K
  unfold Sf_World_write_j43 at hs
  try simp only [Nat.reduceAdd] at K hs
  refine z_callV M.1 (av := [.inl s3, .inl s2, .inl s1, .inl s0]) (st := []) (a := 9) (ci := 10) (by decide +kernel) (c_World_connect_9 T' G' S n s3 s2 s1 s0 hs.1) M.2.1 zl_World_63 zv_World_connect rfl rfl rfl ⟨by decide, by decide, by decide, by decide⟩ rfl (Nat.le_of_ble_eq_true rfl) (fun v w' hv => ?_)
  replace hs := hs.2
  obtain ⟨S43, hF43⟩ : ∃ y, F_World_connect 9 S s3 s2 s1 s0 = y := ⟨_, rfl⟩
  rw [hF43] at K hv
  try rw [hF43] at hs
  try dsimp only [z_let] at K hs
  obtain ⟨rfl, rfl⟩ := hv
  show z_G X zm_World_write (46, [(0, z_r 9), (1, .inl x1), (2, .inl x2), (3, .inl x3), (4, .inl x4)], [], zW T' G' S43 n, 0, 0)
  refine z_go2 M.1 46 [(.iload_n 2, 1), (.bipush 11, 2)] (49, [(0, z_r 9), (1, .inl x1), (2, .inl x2), (3, .inl x3), (4, .inl x4)], [.inl 11, .inl x2], zW T' G' S43 n, 0, 0) (by decide +kernel) rfl ⟨trivial, trivial, trivial⟩ ?_
  refine z_icmp_ne 88 M.1 (off := 39) (by decide +kernel) (by decide) (fun c49 => ?_) (fun c49 => ?_)
  · rw [if_neg c49] at K hs
    exact z_vret M (by decide +kernel) rfl (by decide) (by decide) (hQ _ K)
  · rw [if_pos c49] at K hs
    refine z_go2 M.1 52 [(.aload_n 0, 1), (.iconst 1, 1), (.iload_n 3, 1), (.iload_n 1, 1), (.iload 4, 2), (.iconst 1, 1)] (59, [(0, z_r 9), (1, .inl x1), (2, .inl x2), (3, .inl x3), (4, .inl x4)], [.inl 1, .inl x4, .inl x1, .inl x3, .inl 1, z_r 9], zW T' G' S43 n, 0, 0) (by decide +kernel) rfl ⟨trivial, trivial, trivial, trivial, trivial, trivial, trivial⟩ ?_
    refine z_icmp_ne 66 M.1 (off := 7) (by decide +kernel) (by decide) (fun c59 => ?_) (fun c59 => ?_)
    · rw [if_neg c59] at K hs
      refine z_go2 M.1 66 [(.iconst 0, 1)] (67, [(0, z_r 9), (1, .inl x1), (2, .inl x2), (3, .inl x3), (4, .inl x4)], [.inl 0, .inl x1, .inl x3, .inl 1, z_r 9], zW T' G' S43 n, 0, 0) (by decide +kernel) rfl ⟨trivial, trivial⟩ ?_
      exact z_lvs (lv' := []) [] rfl (t_World_write_j67_9 M S43 0 x1 x3 1 hQ K hs)
    · rw [if_pos c59] at K hs
      refine z_go2 M.1 62 [(.iconst 1, 1), (.goto 4, 3)] (67, [(0, z_r 9), (1, .inl x1), (2, .inl x2), (3, .inl x3), (4, .inl x4)], [.inl 1, .inl x1, .inl x3, .inl 1, z_r 9], zW T' G' S43 n, 0, 0) (by decide +kernel) rfl ⟨trivial, trivial, trivial⟩ ?_
      exact z_lvs (lv' := []) [] rfl (t_World_write_j67_9 M S43 1 x1 x3 1 hQ K hs)
theorem t_World_write_j43_13 {X : z_X} {Post : Option z_V → z_W → Prop} (M : z_M X zm_World_write rm_World_write Post) {T' : Nat → Nat × Nat} {G' : Nat → Nat → Option Nat} {n : Nat} {Q : (Nat → Nat → Int32) → Prop} (S : (Nat → Nat → Int32)) (x1 : Int32) (x2 : Int32) (x3 : Int32) (x4 : Int32) (s0 : Int32) (s1 : Int32) (s2 : Int32) (s3 : Int32) (hQ : ∀ S', Q S' → Post none (zW T' G' S' n)) (K : Q (F_World_write_j43 13 S x1 x2 x3 x4 s0 s1 s2 s3)) (hs : Sf_World_write_j43 13 S x1 x2 x3 x4 s0 s1 s2 s3) : z_G X zm_World_write (43, [(0, z_r 13), (1, .inl x1), (2, .inl x2), (3, .inl x3), (4, .inl x4)], [.inl s0, .inl s1, .inl s2, .inl s3, z_r 13], zW T' G' S n, 0, 0) := by
  unfold F_World_write_j43 at K
  unfold Sf_World_write_j43 at hs
  try simp only [Nat.reduceAdd] at K hs
  refine z_callV M.1 (av := [.inl s3, .inl s2, .inl s1, .inl s0]) (st := []) (a := 13) (ci := 10) (by decide +kernel) (c_World_connect_13 T' G' S n s3 s2 s1 s0 hs.1) M.2.1 zl_World_63 zv_World_connect rfl rfl rfl ⟨by decide, by decide, by decide, by decide⟩ rfl (Nat.le_of_ble_eq_true rfl) (fun v w' hv => ?_)
  replace hs := hs.2
  obtain ⟨S43, hF43⟩ : ∃ y, F_World_connect 13 S s3 s2 s1 s0 = y := ⟨_, rfl⟩
  rw [hF43] at K hv
  try rw [hF43] at hs
  try dsimp only [z_let] at K hs
  obtain ⟨rfl, rfl⟩ := hv
  show z_G X zm_World_write (46, [(0, z_r 13), (1, .inl x1), (2, .inl x2), (3, .inl x3), (4, .inl x4)], [], zW T' G' S43 n, 0, 0)
  refine z_go2 M.1 46 [(.iload_n 2, 1), (.bipush 11, 2)] (49, [(0, z_r 13), (1, .inl x1), (2, .inl x2), (3, .inl x3), (4, .inl x4)], [.inl 11, .inl x2], zW T' G' S43 n, 0, 0) (by decide +kernel) rfl ⟨trivial, trivial, trivial⟩ ?_
  refine z_icmp_ne 88 M.1 (off := 39) (by decide +kernel) (by decide) (fun c49 => ?_) (fun c49 => ?_)
  · rw [if_neg c49] at K hs
    exact z_vret M (by decide +kernel) rfl (by decide) (by decide) (hQ _ K)
  · rw [if_pos c49] at K hs
    refine z_go2 M.1 52 [(.aload_n 0, 1), (.iconst 1, 1), (.iload_n 3, 1), (.iload_n 1, 1), (.iload 4, 2), (.iconst 1, 1)] (59, [(0, z_r 13), (1, .inl x1), (2, .inl x2), (3, .inl x3), (4, .inl x4)], [.inl 1, .inl x4, .inl x1, .inl x3, .inl 1, z_r 13], zW T' G' S43 n, 0, 0) (by decide +kernel) rfl ⟨trivial, trivial, trivial, trivial, trivial, trivial, trivial⟩ ?_
    refine z_icmp_ne 66 M.1 (off := 7) (by decide +kernel) (by decide) (fun c59 => ?_) (fun c59 => ?_)
    · rw [if_neg c59] at K hs
      refine z_go2 M.1 66 [(.iconst 0, 1)] (67, [(0, z_r 13), (1, .inl x1), (2, .inl x2), (3, .inl x3), (4, .inl x4)], [.inl 0, .inl x1, .inl x3, .inl 1, z_r 13], zW T' G' S43 n, 0, 0) (by decide +kernel) rfl ⟨trivial, trivial⟩ ?_
      exact z_lvs (lv' := []) [] rfl (t_World_write_j67_13 M S43 0 x1 x3 1 hQ K hs)
    · rw [if_pos c59] at K hs
      refine z_go2 M.1 62 [(.iconst 1, 1), (.goto 4, 3)] (67, [(0, z_r 13), (1, .inl x1), (2, .inl x2), (3, .inl x3), (4, .inl x4)], [.inl 1, .inl x1, .inl x3, .inl 1, z_r 13], zW T' G' S43 n, 0, 0) (by decide +kernel) rfl ⟨trivial, trivial, trivial⟩ ?_
      exact z_lvs (lv' := []) [] rfl (t_World_write_j67_13 M S43 1 x1 x3 1 hQ K hs)
theorem t_World_write_j43_28 {X : z_X} {Post : Option z_V → z_W → Prop} (M : z_M X zm_World_write rm_World_write Post) {T' : Nat → Nat × Nat} {G' : Nat → Nat → Option Nat} {n : Nat} {Q : (Nat → Nat → Int32) → Prop} (S : (Nat → Nat → Int32)) (x1 : Int32) (x2 : Int32) (x3 : Int32) (x4 : Int32) (s0 : Int32) (s1 : Int32) (s2 : Int32) (s3 : Int32) (hQ : ∀ S', Q S' → Post none (zW T' G' S' n)) (K : Q (F_World_write_j43 28 S x1 x2 x3 x4 s0 s1 s2 s3)) (hs : Sf_World_write_j43 28 S x1 x2 x3 x4 s0 s1 s2 s3) : z_G X zm_World_write (43, [(0, z_r 28), (1, .inl x1), (2, .inl x2), (3, .inl x3), (4, .inl x4)], [.inl s0, .inl s1, .inl s2, .inl s3, z_r 28], zW T' G' S n, 0, 0) := by
  unfold F_World_write_j43 at K
  unfold Sf_World_write_j43 at hs
  try simp only [Nat.reduceAdd] at K hs
  refine z_callV M.1 (av := [.inl s3, .inl s2, .inl s1, .inl s0]) (st := []) (a := 28) (ci := 10) (by decide +kernel) (c_World_connect_28 T' G' S n s3 s2 s1 s0 hs.1) M.2.1 zl_World_63 zv_World_connect rfl rfl rfl ⟨by decide, by decide, by decide, by decide⟩ rfl (Nat.le_of_ble_eq_true rfl) (fun v w' hv => ?_)
  replace hs := hs.2
  obtain ⟨S43, hF43⟩ : ∃ y, F_World_connect 28 S s3 s2 s1 s0 = y := ⟨_, rfl⟩
  rw [hF43] at K hv
  try rw [hF43] at hs
  try dsimp only [z_let] at K hs
  obtain ⟨rfl, rfl⟩ := hv
  show z_G X zm_World_write (46, [(0, z_r 28), (1, .inl x1), (2, .inl x2), (3, .inl x3), (4, .inl x4)], [], zW T' G' S43 n, 0, 0)
  refine z_go2 M.1 46 [(.iload_n 2, 1), (.bipush 11, 2)] (49, [(0, z_r 28), (1, .inl x1), (2, .inl x2), (3, .inl x3), (4, .inl x4)], [.inl 11, .inl x2], zW T' G' S43 n, 0, 0) (by decide +kernel) rfl ⟨trivial, trivial, trivial⟩ ?_
  refine z_icmp_ne 88 M.1 (off := 39) (by decide +kernel) (by decide) (fun c49 => ?_) (fun c49 => ?_)
  · rw [if_neg c49] at K hs
    exact z_vret M (by decide +kernel) rfl (by decide) (by decide) (hQ _ K)
  · rw [if_pos c49] at K hs
    refine z_go2 M.1 52 [(.aload_n 0, 1), (.iconst 1, 1), (.iload_n 3, 1), (.iload_n 1, 1), (.iload 4, 2), (.iconst 1, 1)] (59, [(0, z_r 28), (1, .inl x1), (2, .inl x2), (3, .inl x3), (4, .inl x4)], [.inl 1, .inl x4, .inl x1, .inl x3, .inl 1, z_r 28], zW T' G' S43 n, 0, 0) (by decide +kernel) rfl ⟨trivial, trivial, trivial, trivial, trivial, trivial, trivial⟩ ?_
    refine z_icmp_ne 66 M.1 (off := 7) (by decide +kernel) (by decide) (fun c59 => ?_) (fun c59 => ?_)
    · rw [if_neg c59] at K hs
      refine z_go2 M.1 66 [(.iconst 0, 1)] (67, [(0, z_r 28), (1, .inl x1), (2, .inl x2), (3, .inl x3), (4, .inl x4)], [.inl 0, .inl x1, .inl x3, .inl 1, z_r 28], zW T' G' S43 n, 0, 0) (by decide +kernel) rfl ⟨trivial, trivial⟩ ?_
      exact z_lvs (lv' := []) [] rfl (t_World_write_j67_28 M S43 0 x1 x3 1 hQ K hs)
    · rw [if_pos c59] at K hs
      refine z_go2 M.1 62 [(.iconst 1, 1), (.goto 4, 3)] (67, [(0, z_r 28), (1, .inl x1), (2, .inl x2), (3, .inl x3), (4, .inl x4)], [.inl 1, .inl x1, .inl x3, .inl 1, z_r 28], zW T' G' S43 n, 0, 0) (by decide +kernel) rfl ⟨trivial, trivial, trivial⟩ ?_
      exact z_lvs (lv' := []) [] rfl (t_World_write_j67_28 M S43 1 x1 x3 1 hQ K hs)
def F_World_write (r : Nat) (S : (Nat → Nat → Int32)) (p1 : Int32) (p2 : Int32) (p3 : Int32) (p4 : Int32) : (Nat → Nat → Int32) := (if p2 = 14 then (z_let (zPut S (r + 3) 24 p3 p4) (fun S13 => S13)) else (if p2 < 10 then (z_let (zPut S (r + 1) 300 ((p1 * 10) + p2) p4) (fun S85 => S85)) else (if p4 = 1 then (F_World_write_j43 r S p1 p2 p3 p4 1 p3 p1 (p2 - 10)) else (F_World_write_j43 r S p1 p2 p3 p4 0 p3 p1 (p2 - 10)))))
def Sf_World_write (r : Nat) (S : (Nat → Nat → Int32)) (p1 : Int32) (p2 : Int32) (p3 : Int32) (p4 : Int32) : Prop := (if p2 = 14 then True else (if p2 < 10 then True else (if p4 = 1 then (Sf_World_write_j43 r S p1 p2 p3 p4 1 p3 p1 (p2 - 10)) else (Sf_World_write_j43 r S p1 p2 p3 p4 0 p3 p1 (p2 - 10)))))
theorem c_World_write_9 (T' : Nat → Nat × Nat) (G' : Nat → Nat → Option Nat) (S : (Nat → Nat → Int32)) (n : Nat) (p1 : Int32) (p2 : Int32) (p3 : Int32) (p4 : Int32) (hs : Sf_World_write 9 S p1 p2 p3 p4) : z_Run rm_World_write zm_World_write [z_r 9, .inl p1, .inl p2, .inl p3, .inl p4] (zW T' G' S n) (zq none (zW T' G' (F_World_write 9 S p1 p2 p3 p4) n)) := by
  refine z_body (by decide) zf_World_ok (Nat.le_of_ble_eq_true rfl) (fun X M => ?_)
  obtain ⟨Q, hQ, K⟩ : ∃ Q : (Nat → Nat → Int32) → Prop, (∀ S', Q S' → zq none (zW T' G' (F_World_write 9 S p1 p2 p3 p4) n) none (zW T' G' S' n)) ∧ Q (F_World_write 9 S p1 p2 p3 p4) := ⟨fun o => F_World_write 9 S p1 p2 p3 p4 = o, fun S' h => ⟨rfl, by rw [h]⟩, rfl⟩
  show z_G X zm_World_write (0, [(0, z_r 9), (1, .inl p1), (2, .inl p2), (3, .inl p3), (4, .inl p4)], [], zW T' G' S n, 0, 0)
  unfold F_World_write at K
  unfold Sf_World_write at hs
  try simp only [Nat.reduceAdd] at K hs
  refine z_go2 M.1 0 [(.iload_n 2, 1), (.bipush 14, 2)] (3, [(0, z_r 9), (1, .inl p1), (2, .inl p2), (3, .inl p3), (4, .inl p4)], [.inl 14, .inl p2], zW T' G' S n, 0, 0) (by decide +kernel) rfl ⟨trivial, trivial, trivial⟩ ?_
  refine z_icmp_ne 19 M.1 (off := 16) (by decide +kernel) (by decide) (fun c3 => ?_) (fun c3 => ?_)
  · rw [if_neg c3] at K hs
    refine z_go2 M.1 19 [(.iload_n 2, 1), (.bipush 10, 2)] (22, [(0, z_r 9), (1, .inl p1), (2, .inl p2), (3, .inl p3), (4, .inl p4)], [.inl 10, .inl p2], zW T' G' S n, 0, 0) (by decide +kernel) rfl ⟨trivial, trivial, trivial⟩ ?_
    refine z_icmp_lt 73 M.1 (off := 51) (by decide +kernel) (by decide) (fun c22 => ?_) (fun c22 => ?_)
    · rw [if_pos c22] at K hs
      refine z_go2 M.1 73 [(.aload_n 0, 1), (.getfield 9, 3), (.iload_n 1, 1), (.bipush 10, 2), (.imul, 1), (.iload_n 2, 1), (.iadd, 1), (.iload 4, 2)] (85, [(0, z_r 9), (1, .inl p1), (2, .inl p2), (3, .inl p3), (4, .inl p4)], [.inl p4, .inl ((p1 * 10) + p2), z_r 10], zW T' G' S n, 0, 0) (by decide +kernel) rfl ⟨trivial, rfl, trivial, trivial, trivial, trivial, trivial, trivial, trivial⟩ ?_
      refine z_callS M.1 (av := [z_r 10, .inl ((p1 * 10) + p2), .inl p4]) (st := []) (by decide +kernel) (c_put (zW T' G' S n) 10 300 rfl (by decide) ((p1 * 10) + p2) p4) M.2.1 zl_World_59 zs_T_put ⟨by decide, by decide, by decide, by decide⟩ rfl (Nat.le_of_ble_eq_true rfl) (fun v w' hv => ?_)
      obtain ⟨S85, hF85⟩ : ∃ y, zPut S 10 300 ((p1 * 10) + p2) p4 = y := ⟨_, rfl⟩
      replace hv : v = none ∧ w' = zW T' G' (zPut S 10 300 ((p1 * 10) + p2) p4) n := hv
      rw [hF85] at K hv
      try dsimp only [z_let] at K
      obtain ⟨rfl, rfl⟩ := hv
      show z_G X zm_World_write (88, [(0, z_r 9), (1, .inl p1), (2, .inl p2), (3, .inl p3), (4, .inl p4)], [], zW T' G' S85 n, 0, 0)
      exact z_vret M (by decide +kernel) rfl (by decide) (by decide) (hQ _ K)
    · rw [if_neg c22] at K hs
      refine z_go2 M.1 25 [(.aload_n 0, 1), (.iload_n 2, 1), (.bipush 10, 2), (.isub, 1), (.iload_n 1, 1), (.iload_n 3, 1), (.iload 4, 2), (.iconst 1, 1)] (35, [(0, z_r 9), (1, .inl p1), (2, .inl p2), (3, .inl p3), (4, .inl p4)], [.inl 1, .inl p4, .inl p3, .inl p1, .inl (p2 - 10), z_r 9], zW T' G' S n, 0, 0) (by decide +kernel) rfl ⟨trivial, trivial, trivial, trivial, trivial, trivial, trivial, trivial, trivial⟩ ?_
      refine z_icmp_ne 42 M.1 (off := 7) (by decide +kernel) (by decide) (fun c35 => ?_) (fun c35 => ?_)
      · rw [if_neg c35] at K hs
        refine z_go2 M.1 42 [(.iconst 0, 1)] (43, [(0, z_r 9), (1, .inl p1), (2, .inl p2), (3, .inl p3), (4, .inl p4)], [.inl 0, .inl p3, .inl p1, .inl (p2 - 10), z_r 9], zW T' G' S n, 0, 0) (by decide +kernel) rfl ⟨trivial, trivial⟩ ?_
        exact z_lvs (lv' := [(0, z_r 9), (1, .inl p1), (2, .inl p2), (3, .inl p3), (4, .inl p4)]) [0, 1, 2, 3, 4] rfl (t_World_write_j43_9 M S p1 p2 p3 p4 0 p3 p1 (p2 - 10) hQ K hs)
      · rw [if_pos c35] at K hs
        refine z_go2 M.1 38 [(.iconst 1, 1), (.goto 4, 3)] (43, [(0, z_r 9), (1, .inl p1), (2, .inl p2), (3, .inl p3), (4, .inl p4)], [.inl 1, .inl p3, .inl p1, .inl (p2 - 10), z_r 9], zW T' G' S n, 0, 0) (by decide +kernel) rfl ⟨trivial, trivial, trivial⟩ ?_
        exact z_lvs (lv' := [(0, z_r 9), (1, .inl p1), (2, .inl p2), (3, .inl p3), (4, .inl p4)]) [0, 1, 2, 3, 4] rfl (t_World_write_j43_9 M S p1 p2 p3 p4 1 p3 p1 (p2 - 10) hQ K hs)
  · rw [if_pos c3] at K hs
    refine z_go2 M.1 6 [(.aload_n 0, 1), (.getfield 18, 3), (.iload_n 3, 1), (.iload 4, 2)] (13, [(0, z_r 9), (1, .inl p1), (2, .inl p2), (3, .inl p3), (4, .inl p4)], [.inl p4, .inl p3, z_r 12], zW T' G' S n, 0, 0) (by decide +kernel) rfl ⟨trivial, rfl, trivial, trivial, trivial⟩ ?_
    refine z_callS M.1 (av := [z_r 12, .inl p3, .inl p4]) (st := []) (by decide +kernel) (c_put (zW T' G' S n) 12 24 rfl (by decide) p3 p4) M.2.1 zl_World_59 zs_T_put ⟨by decide, by decide, by decide, by decide⟩ rfl (Nat.le_of_ble_eq_true rfl) (fun v w' hv => ?_)
    obtain ⟨S13, hF13⟩ : ∃ y, zPut S 12 24 p3 p4 = y := ⟨_, rfl⟩
    replace hv : v = none ∧ w' = zW T' G' (zPut S 12 24 p3 p4) n := hv
    rw [hF13] at K hv
    try dsimp only [z_let] at K
    obtain ⟨rfl, rfl⟩ := hv
    show z_G X zm_World_write (16, [(0, z_r 9), (1, .inl p1), (2, .inl p2), (3, .inl p3), (4, .inl p4)], [], zW T' G' S13 n, 0, 0)
    refine z_go2 M.1 16 [(.goto 72, 3)] (88, [(0, z_r 9), (1, .inl p1), (2, .inl p2), (3, .inl p3), (4, .inl p4)], [], zW T' G' S13 n, 0, 0) (by decide +kernel) rfl ⟨trivial, trivial⟩ ?_
    exact z_vret M (by decide +kernel) rfl (by decide) (by decide) (hQ _ K)
theorem c_World_write_13 (T' : Nat → Nat × Nat) (G' : Nat → Nat → Option Nat) (S : (Nat → Nat → Int32)) (n : Nat) (p1 : Int32) (p2 : Int32) (p3 : Int32) (p4 : Int32) (hs : Sf_World_write 13 S p1 p2 p3 p4) : z_Run rm_World_write zm_World_write [z_r 13, .inl p1, .inl p2, .inl p3, .inl p4] (zW T' G' S n) (zq none (zW T' G' (F_World_write 13 S p1 p2 p3 p4) n)) := by
  refine z_body (by decide) zf_World_ok (Nat.le_of_ble_eq_true rfl) (fun X M => ?_)
  obtain ⟨Q, hQ, K⟩ : ∃ Q : (Nat → Nat → Int32) → Prop, (∀ S', Q S' → zq none (zW T' G' (F_World_write 13 S p1 p2 p3 p4) n) none (zW T' G' S' n)) ∧ Q (F_World_write 13 S p1 p2 p3 p4) := ⟨fun o => F_World_write 13 S p1 p2 p3 p4 = o, fun S' h => ⟨rfl, by rw [h]⟩, rfl⟩
  show z_G X zm_World_write (0, [(0, z_r 13), (1, .inl p1), (2, .inl p2), (3, .inl p3), (4, .inl p4)], [], zW T' G' S n, 0, 0)
  unfold F_World_write at K
  unfold Sf_World_write at hs
  try simp only [Nat.reduceAdd] at K hs
  refine z_go2 M.1 0 [(.iload_n 2, 1), (.bipush 14, 2)] (3, [(0, z_r 13), (1, .inl p1), (2, .inl p2), (3, .inl p3), (4, .inl p4)], [.inl 14, .inl p2], zW T' G' S n, 0, 0) (by decide +kernel) rfl ⟨trivial, trivial, trivial⟩ ?_
  refine z_icmp_ne 19 M.1 (off := 16) (by decide +kernel) (by decide) (fun c3 => ?_) (fun c3 => ?_)
  · rw [if_neg c3] at K hs
    refine z_go2 M.1 19 [(.iload_n 2, 1), (.bipush 10, 2)] (22, [(0, z_r 13), (1, .inl p1), (2, .inl p2), (3, .inl p3), (4, .inl p4)], [.inl 10, .inl p2], zW T' G' S n, 0, 0) (by decide +kernel) rfl ⟨trivial, trivial, trivial⟩ ?_
    refine z_icmp_lt 73 M.1 (off := 51) (by decide +kernel) (by decide) (fun c22 => ?_) (fun c22 => ?_)
    · rw [if_pos c22] at K hs
      refine z_go2 M.1 73 [(.aload_n 0, 1), (.getfield 9, 3), (.iload_n 1, 1), (.bipush 10, 2), (.imul, 1), (.iload_n 2, 1), (.iadd, 1), (.iload 4, 2)] (85, [(0, z_r 13), (1, .inl p1), (2, .inl p2), (3, .inl p3), (4, .inl p4)], [.inl p4, .inl ((p1 * 10) + p2), z_r 14], zW T' G' S n, 0, 0) (by decide +kernel) rfl ⟨trivial, rfl, trivial, trivial, trivial, trivial, trivial, trivial, trivial⟩ ?_
      refine z_callS M.1 (av := [z_r 14, .inl ((p1 * 10) + p2), .inl p4]) (st := []) (by decide +kernel) (c_put (zW T' G' S n) 14 300 rfl (by decide) ((p1 * 10) + p2) p4) M.2.1 zl_World_59 zs_T_put ⟨by decide, by decide, by decide, by decide⟩ rfl (Nat.le_of_ble_eq_true rfl) (fun v w' hv => ?_)
      obtain ⟨S85, hF85⟩ : ∃ y, zPut S 14 300 ((p1 * 10) + p2) p4 = y := ⟨_, rfl⟩
      replace hv : v = none ∧ w' = zW T' G' (zPut S 14 300 ((p1 * 10) + p2) p4) n := hv
      rw [hF85] at K hv
      try dsimp only [z_let] at K
      obtain ⟨rfl, rfl⟩ := hv
      show z_G X zm_World_write (88, [(0, z_r 13), (1, .inl p1), (2, .inl p2), (3, .inl p3), (4, .inl p4)], [], zW T' G' S85 n, 0, 0)
      exact z_vret M (by decide +kernel) rfl (by decide) (by decide) (hQ _ K)
    · rw [if_neg c22] at K hs
      refine z_go2 M.1 25 [(.aload_n 0, 1), (.iload_n 2, 1), (.bipush 10, 2), (.isub, 1), (.iload_n 1, 1), (.iload_n 3, 1), (.iload 4, 2), (.iconst 1, 1)] (35, [(0, z_r 13), (1, .inl p1), (2, .inl p2), (3, .inl p3), (4, .inl p4)], [.inl 1, .inl p4, .inl p3, .inl p1, .inl (p2 - 10), z_r 13], zW T' G' S n, 0, 0) (by decide +kernel) rfl ⟨trivial, trivial, trivial, trivial, trivial, trivial, trivial, trivial, trivial⟩ ?_
      refine z_icmp_ne 42 M.1 (off := 7) (by decide +kernel) (by decide) (fun c35 => ?_) (fun c35 => ?_)
      · rw [if_neg c35] at K hs
        refine z_go2 M.1 42 [(.iconst 0, 1)] (43, [(0, z_r 13), (1, .inl p1), (2, .inl p2), (3, .inl p3), (4, .inl p4)], [.inl 0, .inl p3, .inl p1, .inl (p2 - 10), z_r 13], zW T' G' S n, 0, 0) (by decide +kernel) rfl ⟨trivial, trivial⟩ ?_
        exact z_lvs (lv' := [(0, z_r 13), (1, .inl p1), (2, .inl p2), (3, .inl p3), (4, .inl p4)]) [0, 1, 2, 3, 4] rfl (t_World_write_j43_13 M S p1 p2 p3 p4 0 p3 p1 (p2 - 10) hQ K hs)
      · rw [if_pos c35] at K hs
        refine z_go2 M.1 38 [(.iconst 1, 1), (.goto 4, 3)] (43, [(0, z_r 13), (1, .inl p1), (2, .inl p2), (3, .inl p3), (4, .inl p4)], [.inl 1, .inl p3, .inl p1, .inl (p2 - 10), z_r 13], zW T' G' S n, 0, 0) (by decide +kernel) rfl ⟨trivial, trivial, trivial⟩ ?_
        exact z_lvs (lv' := [(0, z_r 13), (1, .inl p1), (2, .inl p2), (3, .inl p3), (4, .inl p4)]) [0, 1, 2, 3, 4] rfl (t_World_write_j43_13 M S p1 p2 p3 p4 1 p3 p1 (p2 - 10) hQ K hs)
  · rw [if_pos c3] at K hs
    refine z_go2 M.1 6 [(.aload_n 0, 1), (.getfield 18, 3), (.iload_n 3, 1), (.iload 4, 2)] (13, [(0, z_r 13), (1, .inl p1), (2, .inl p2), (3, .inl p3), (4, .inl p4)], [.inl p4, .inl p3, z_r 16], zW T' G' S n, 0, 0) (by decide +kernel) rfl ⟨trivial, rfl, trivial, trivial, trivial⟩ ?_
    refine z_callS M.1 (av := [z_r 16, .inl p3, .inl p4]) (st := []) (by decide +kernel) (c_put (zW T' G' S n) 16 24 rfl (by decide) p3 p4) M.2.1 zl_World_59 zs_T_put ⟨by decide, by decide, by decide, by decide⟩ rfl (Nat.le_of_ble_eq_true rfl) (fun v w' hv => ?_)
    obtain ⟨S13, hF13⟩ : ∃ y, zPut S 16 24 p3 p4 = y := ⟨_, rfl⟩
    replace hv : v = none ∧ w' = zW T' G' (zPut S 16 24 p3 p4) n := hv
    rw [hF13] at K hv
    try dsimp only [z_let] at K
    obtain ⟨rfl, rfl⟩ := hv
    show z_G X zm_World_write (16, [(0, z_r 13), (1, .inl p1), (2, .inl p2), (3, .inl p3), (4, .inl p4)], [], zW T' G' S13 n, 0, 0)
    refine z_go2 M.1 16 [(.goto 72, 3)] (88, [(0, z_r 13), (1, .inl p1), (2, .inl p2), (3, .inl p3), (4, .inl p4)], [], zW T' G' S13 n, 0, 0) (by decide +kernel) rfl ⟨trivial, trivial⟩ ?_
    exact z_vret M (by decide +kernel) rfl (by decide) (by decide) (hQ _ K)
theorem c_World_write_28 (T' : Nat → Nat × Nat) (G' : Nat → Nat → Option Nat) (S : (Nat → Nat → Int32)) (n : Nat) (p1 : Int32) (p2 : Int32) (p3 : Int32) (p4 : Int32) (hs : Sf_World_write 28 S p1 p2 p3 p4) : z_Run rm_World_write zm_World_write [z_r 28, .inl p1, .inl p2, .inl p3, .inl p4] (zW T' G' S n) (zq none (zW T' G' (F_World_write 28 S p1 p2 p3 p4) n)) := by
  refine z_body (by decide) zf_World_ok (Nat.le_of_ble_eq_true rfl) (fun X M => ?_)
  obtain ⟨Q, hQ, K⟩ : ∃ Q : (Nat → Nat → Int32) → Prop, (∀ S', Q S' → zq none (zW T' G' (F_World_write 28 S p1 p2 p3 p4) n) none (zW T' G' S' n)) ∧ Q (F_World_write 28 S p1 p2 p3 p4) := ⟨fun o => F_World_write 28 S p1 p2 p3 p4 = o, fun S' h => ⟨rfl, by rw [h]⟩, rfl⟩
  show z_G X zm_World_write (0, [(0, z_r 28), (1, .inl p1), (2, .inl p2), (3, .inl p3), (4, .inl p4)], [], zW T' G' S n, 0, 0)
  unfold F_World_write at K
  unfold Sf_World_write at hs
  try simp only [Nat.reduceAdd] at K hs
  refine z_go2 M.1 0 [(.iload_n 2, 1), (.bipush 14, 2)] (3, [(0, z_r 28), (1, .inl p1), (2, .inl p2), (3, .inl p3), (4, .inl p4)], [.inl 14, .inl p2], zW T' G' S n, 0, 0) (by decide +kernel) rfl ⟨trivial, trivial, trivial⟩ ?_
  refine z_icmp_ne 19 M.1 (off := 16) (by decide +kernel) (by decide) (fun c3 => ?_) (fun c3 => ?_)
  · rw [if_neg c3] at K hs
    refine z_go2 M.1 19 [(.iload_n 2, 1), (.bipush 10, 2)] (22, [(0, z_r 28), (1, .inl p1), (2, .inl p2), (3, .inl p3), (4, .inl p4)], [.inl 10, .inl p2], zW T' G' S n, 0, 0) (by decide +kernel) rfl ⟨trivial, trivial, trivial⟩ ?_
    refine z_icmp_lt 73 M.1 (off := 51) (by decide +kernel) (by decide) (fun c22 => ?_) (fun c22 => ?_)
    · rw [if_pos c22] at K hs
      refine z_go2 M.1 73 [(.aload_n 0, 1), (.getfield 9, 3), (.iload_n 1, 1), (.bipush 10, 2), (.imul, 1), (.iload_n 2, 1), (.iadd, 1), (.iload 4, 2)] (85, [(0, z_r 28), (1, .inl p1), (2, .inl p2), (3, .inl p3), (4, .inl p4)], [.inl p4, .inl ((p1 * 10) + p2), z_r 29], zW T' G' S n, 0, 0) (by decide +kernel) rfl ⟨trivial, rfl, trivial, trivial, trivial, trivial, trivial, trivial, trivial⟩ ?_
      refine z_callS M.1 (av := [z_r 29, .inl ((p1 * 10) + p2), .inl p4]) (st := []) (by decide +kernel) (c_put (zW T' G' S n) 29 300 rfl (by decide) ((p1 * 10) + p2) p4) M.2.1 zl_World_59 zs_T_put ⟨by decide, by decide, by decide, by decide⟩ rfl (Nat.le_of_ble_eq_true rfl) (fun v w' hv => ?_)
      obtain ⟨S85, hF85⟩ : ∃ y, zPut S 29 300 ((p1 * 10) + p2) p4 = y := ⟨_, rfl⟩
      replace hv : v = none ∧ w' = zW T' G' (zPut S 29 300 ((p1 * 10) + p2) p4) n := hv
      rw [hF85] at K hv
      try dsimp only [z_let] at K
      obtain ⟨rfl, rfl⟩ := hv
      show z_G X zm_World_write (88, [(0, z_r 28), (1, .inl p1), (2, .inl p2), (3, .inl p3), (4, .inl p4)], [], zW T' G' S85 n, 0, 0)
      exact z_vret M (by decide +kernel) rfl (by decide) (by decide) (hQ _ K)
    · rw [if_neg c22] at K hs
      refine z_go2 M.1 25 [(.aload_n 0, 1), (.iload_n 2, 1), (.bipush 10, 2), (.isub, 1), (.iload_n 1, 1), (.iload_n 3, 1), (.iload 4, 2), (.iconst 1, 1)] (35, [(0, z_r 28), (1, .inl p1), (2, .inl p2), (3, .inl p3), (4, .inl p4)], [.inl 1, .inl p4, .inl p3, .inl p1, .inl (p2 - 10), z_r 28], zW T' G' S n, 0, 0) (by decide +kernel) rfl ⟨trivial, trivial, trivial, trivial, trivial, trivial, trivial, trivial, trivial⟩ ?_
      refine z_icmp_ne 42 M.1 (off := 7) (by decide +kernel) (by decide) (fun c35 => ?_) (fun c35 => ?_)
      · rw [if_neg c35] at K hs
        refine z_go2 M.1 42 [(.iconst 0, 1)] (43, [(0, z_r 28), (1, .inl p1), (2, .inl p2), (3, .inl p3), (4, .inl p4)], [.inl 0, .inl p3, .inl p1, .inl (p2 - 10), z_r 28], zW T' G' S n, 0, 0) (by decide +kernel) rfl ⟨trivial, trivial⟩ ?_
        exact z_lvs (lv' := [(0, z_r 28), (1, .inl p1), (2, .inl p2), (3, .inl p3), (4, .inl p4)]) [0, 1, 2, 3, 4] rfl (t_World_write_j43_28 M S p1 p2 p3 p4 0 p3 p1 (p2 - 10) hQ K hs)
      · rw [if_pos c35] at K hs
        refine z_go2 M.1 38 [(.iconst 1, 1), (.goto 4, 3)] (43, [(0, z_r 28), (1, .inl p1), (2, .inl p2), (3, .inl p3), (4, .inl p4)], [.inl 1, .inl p3, .inl p1, .inl (p2 - 10), z_r 28], zW T' G' S n, 0, 0) (by decide +kernel) rfl ⟨trivial, trivial, trivial⟩ ?_
        exact z_lvs (lv' := [(0, z_r 28), (1, .inl p1), (2, .inl p2), (3, .inl p3), (4, .inl p4)]) [0, 1, 2, 3, 4] rfl (t_World_write_j43_28 M S p1 p2 p3 p4 1 p3 p1 (p2 - 10) hQ K hs)
  · rw [if_pos c3] at K hs
    refine z_go2 M.1 6 [(.aload_n 0, 1), (.getfield 18, 3), (.iload_n 3, 1), (.iload 4, 2)] (13, [(0, z_r 28), (1, .inl p1), (2, .inl p2), (3, .inl p3), (4, .inl p4)], [.inl p4, .inl p3, z_r 31], zW T' G' S n, 0, 0) (by decide +kernel) rfl ⟨trivial, rfl, trivial, trivial, trivial⟩ ?_
    refine z_callS M.1 (av := [z_r 31, .inl p3, .inl p4]) (st := []) (by decide +kernel) (c_put (zW T' G' S n) 31 24 rfl (by decide) p3 p4) M.2.1 zl_World_59 zs_T_put ⟨by decide, by decide, by decide, by decide⟩ rfl (Nat.le_of_ble_eq_true rfl) (fun v w' hv => ?_)
    obtain ⟨S13, hF13⟩ : ∃ y, zPut S 31 24 p3 p4 = y := ⟨_, rfl⟩
    replace hv : v = none ∧ w' = zW T' G' (zPut S 31 24 p3 p4) n := hv
    rw [hF13] at K hv
    try dsimp only [z_let] at K
    obtain ⟨rfl, rfl⟩ := hv
    show z_G X zm_World_write (16, [(0, z_r 28), (1, .inl p1), (2, .inl p2), (3, .inl p3), (4, .inl p4)], [], zW T' G' S13 n, 0, 0)
    refine z_go2 M.1 16 [(.goto 72, 3)] (88, [(0, z_r 28), (1, .inl p1), (2, .inl p2), (3, .inl p3), (4, .inl p4)], [], zW T' G' S13 n, 0, 0) (by decide +kernel) rfl ⟨trivial, trivial⟩ ?_
    exact z_vret M (by decide +kernel) rfl (by decide) (by decide) (hQ _ K)

-- TrackHouse$World.begin
abbrev rm_World_begin : Room := zr 1
def F_World_begin_L16 (r : Nat) (x1 : Int32) (x2 : Int32) (x3 : Int32) : Nat → (Nat → Nat → Int32) → Int32 → ((Nat → Nat → Int32))
  | 0, S, x4 => S
  | f + 1, S, x4 => (if (10 : Int32) ≤ x4 then S else (z_let (zPut S (r + 1) 300 ((x1 * 10) + x4) (-1)) (fun S35 => ((F_World_begin_L16 r x1 x2 x3 f) S35 (x4 + 1)))))
def Sf_World_begin_L16 (r : Nat) (x1 : Int32) (x2 : Int32) (x3 : Int32) : Nat → (Nat → Nat → Int32) → Int32 → Prop
  | 0, _, _ => False
  | f + 1, S, x4 => (if (10 : Int32) ≤ x4 then True else (z_let (zPut S (r + 1) 300 ((x1 * 10) + x4) (-1)) (fun S35 => ((Sf_World_begin_L16 r x1 x2 x3 f) S35 (x4 + 1)))))
theorem t_World_begin_L16_9 {X : z_X} {Post : Option z_V → z_W → Prop} (M : z_M X zm_World_begin rm_World_begin Post) {T' : Nat → Nat × Nat} {G' : Nat → Nat → Option Nat} {n : Nat} {Q : ((Nat → Nat → Int32)) → Prop}  (x1 : Int32) (x2 : Int32) (x3 : Int32) (hE : ∀ (S' : (Nat → Nat → Int32)), Q S' → z_G X zm_World_begin (44, [(0, z_r 9), (1, .inl x1), (2, .inl x2), (3, .inl x3)], [], zW T' G' S' n, 0, 0)) (f : Nat) : ∀ (S : (Nat → Nat → Int32)) (x4 : Int32), Q (F_World_begin_L16 9 x1 x2 x3 f S x4) → Sf_World_begin_L16 9 x1 x2 x3 f S x4 → z_G X zm_World_begin (16, [(0, z_r 9), (1, .inl x1), (2, .inl x2), (3, .inl x3), (4, .inl x4)], [], zW T' G' S n, 0, 0) := by
  induction f with
  | zero => intro S x4 K hs; exact False.elim hs
  | succ f hC =>
    intro S x4 K hs
    rw [F_World_begin_L16] at K
    rw [Sf_World_begin_L16] at hs
    try simp only [Nat.reduceAdd] at K hs
    refine z_go2 M.1 16 [(.iload 4, 2), (.bipush 10, 2)] (20, [(0, z_r 9), (1, .inl x1), (2, .inl x2), (3, .inl x3), (4, .inl x4)], [.inl 10, .inl x4], zW T' G' S n, 0, 0) (by decide +kernel) rfl ⟨trivial, trivial, trivial⟩ ?_
    refine z_icmp_ge 44 M.1 (off := 24) (by decide +kernel) (by decide) (fun c20 => ?_) (fun c20 => ?_)
    · rw [if_pos c20] at K hs
      exact z_lvs (lv' := [(0, z_r 9), (1, .inl x1), (2, .inl x2), (3, .inl x3)]) [0, 1, 2, 3] rfl (hE S K)
    · rw [if_neg c20] at K hs
      refine z_go2 M.1 23 [(.aload_n 0, 1), (.getfield 9, 3), (.iload_n 1, 1), (.bipush 10, 2), (.imul, 1), (.iload 4, 2), (.iadd, 1), (.iconst (-1), 1)] (35, [(0, z_r 9), (1, .inl x1), (2, .inl x2), (3, .inl x3), (4, .inl x4)], [.inl (-1), .inl ((x1 * 10) + x4), z_r 10], zW T' G' S n, 0, 0) (by decide +kernel) rfl ⟨trivial, rfl, trivial, trivial, trivial, trivial, trivial, trivial, trivial⟩ ?_
      refine z_callS M.1 (av := [z_r 10, .inl ((x1 * 10) + x4), .inl (-1)]) (st := []) (by decide +kernel) (c_put (zW T' G' S n) 10 300 rfl (by decide) ((x1 * 10) + x4) (-1)) M.2.1 zl_World_59 zs_T_put ⟨by decide, by decide, by decide, by decide⟩ rfl (Nat.le_of_ble_eq_true rfl) (fun v w' hv => ?_)
      obtain ⟨S35, hF35⟩ : ∃ y, zPut S 10 300 ((x1 * 10) + x4) (-1) = y := ⟨_, rfl⟩
      replace hv : v = none ∧ w' = zW T' G' (zPut S 10 300 ((x1 * 10) + x4) (-1)) n := hv
      rw [hF35] at K hv
      try rw [hF35] at hs
      try dsimp only [z_let] at K hs
      obtain ⟨rfl, rfl⟩ := hv
      show z_G X zm_World_begin (38, [(0, z_r 9), (1, .inl x1), (2, .inl x2), (3, .inl x3), (4, .inl x4)], [], zW T' G' S35 n, 0, 0)
      refine z_go2 M.1 38 [(.iinc 4 1, 3), (.goto (-25), 3)] (16, [(4, .inl (x4 + 1)), (0, z_r 9), (1, .inl x1), (2, .inl x2), (3, .inl x3)], [], zW T' G' S35 n, 0, 0) (by decide +kernel) rfl ⟨trivial, trivial, trivial⟩ ?_
      exact z_lvs (lv' := [(0, z_r 9), (1, .inl x1), (2, .inl x2), (3, .inl x3), (4, .inl (x4 + 1))]) [1, 2, 3, 4, 0] rfl (hC S35 (x4 + 1) K hs)
theorem t_World_begin_L16_13 {X : z_X} {Post : Option z_V → z_W → Prop} (M : z_M X zm_World_begin rm_World_begin Post) {T' : Nat → Nat × Nat} {G' : Nat → Nat → Option Nat} {n : Nat} {Q : ((Nat → Nat → Int32)) → Prop}  (x1 : Int32) (x2 : Int32) (x3 : Int32) (hE : ∀ (S' : (Nat → Nat → Int32)), Q S' → z_G X zm_World_begin (44, [(0, z_r 13), (1, .inl x1), (2, .inl x2), (3, .inl x3)], [], zW T' G' S' n, 0, 0)) (f : Nat) : ∀ (S : (Nat → Nat → Int32)) (x4 : Int32), Q (F_World_begin_L16 13 x1 x2 x3 f S x4) → Sf_World_begin_L16 13 x1 x2 x3 f S x4 → z_G X zm_World_begin (16, [(0, z_r 13), (1, .inl x1), (2, .inl x2), (3, .inl x3), (4, .inl x4)], [], zW T' G' S n, 0, 0) := by
  induction f with
  | zero => intro S x4 K hs; exact False.elim hs
  | succ f hC =>
    intro S x4 K hs
    rw [F_World_begin_L16] at K
    rw [Sf_World_begin_L16] at hs
    try simp only [Nat.reduceAdd] at K hs
    refine z_go2 M.1 16 [(.iload 4, 2), (.bipush 10, 2)] (20, [(0, z_r 13), (1, .inl x1), (2, .inl x2), (3, .inl x3), (4, .inl x4)], [.inl 10, .inl x4], zW T' G' S n, 0, 0) (by decide +kernel) rfl ⟨trivial, trivial, trivial⟩ ?_
    refine z_icmp_ge 44 M.1 (off := 24) (by decide +kernel) (by decide) (fun c20 => ?_) (fun c20 => ?_)
    · rw [if_pos c20] at K hs
      exact z_lvs (lv' := [(0, z_r 13), (1, .inl x1), (2, .inl x2), (3, .inl x3)]) [0, 1, 2, 3] rfl (hE S K)
    · rw [if_neg c20] at K hs
      refine z_go2 M.1 23 [(.aload_n 0, 1), (.getfield 9, 3), (.iload_n 1, 1), (.bipush 10, 2), (.imul, 1), (.iload 4, 2), (.iadd, 1), (.iconst (-1), 1)] (35, [(0, z_r 13), (1, .inl x1), (2, .inl x2), (3, .inl x3), (4, .inl x4)], [.inl (-1), .inl ((x1 * 10) + x4), z_r 14], zW T' G' S n, 0, 0) (by decide +kernel) rfl ⟨trivial, rfl, trivial, trivial, trivial, trivial, trivial, trivial, trivial⟩ ?_
      refine z_callS M.1 (av := [z_r 14, .inl ((x1 * 10) + x4), .inl (-1)]) (st := []) (by decide +kernel) (c_put (zW T' G' S n) 14 300 rfl (by decide) ((x1 * 10) + x4) (-1)) M.2.1 zl_World_59 zs_T_put ⟨by decide, by decide, by decide, by decide⟩ rfl (Nat.le_of_ble_eq_true rfl) (fun v w' hv => ?_)
      obtain ⟨S35, hF35⟩ : ∃ y, zPut S 14 300 ((x1 * 10) + x4) (-1) = y := ⟨_, rfl⟩
      replace hv : v = none ∧ w' = zW T' G' (zPut S 14 300 ((x1 * 10) + x4) (-1)) n := hv
      rw [hF35] at K hv
      try rw [hF35] at hs
      try dsimp only [z_let] at K hs
      obtain ⟨rfl, rfl⟩ := hv
      show z_G X zm_World_begin (38, [(0, z_r 13), (1, .inl x1), (2, .inl x2), (3, .inl x3), (4, .inl x4)], [], zW T' G' S35 n, 0, 0)
      refine z_go2 M.1 38 [(.iinc 4 1, 3), (.goto (-25), 3)] (16, [(4, .inl (x4 + 1)), (0, z_r 13), (1, .inl x1), (2, .inl x2), (3, .inl x3)], [], zW T' G' S35 n, 0, 0) (by decide +kernel) rfl ⟨trivial, trivial, trivial⟩ ?_
      exact z_lvs (lv' := [(0, z_r 13), (1, .inl x1), (2, .inl x2), (3, .inl x3), (4, .inl (x4 + 1))]) [1, 2, 3, 4, 0] rfl (hC S35 (x4 + 1) K hs)
theorem t_World_begin_L16_28 {X : z_X} {Post : Option z_V → z_W → Prop} (M : z_M X zm_World_begin rm_World_begin Post) {T' : Nat → Nat × Nat} {G' : Nat → Nat → Option Nat} {n : Nat} {Q : ((Nat → Nat → Int32)) → Prop}  (x1 : Int32) (x2 : Int32) (x3 : Int32) (hE : ∀ (S' : (Nat → Nat → Int32)), Q S' → z_G X zm_World_begin (44, [(0, z_r 28), (1, .inl x1), (2, .inl x2), (3, .inl x3)], [], zW T' G' S' n, 0, 0)) (f : Nat) : ∀ (S : (Nat → Nat → Int32)) (x4 : Int32), Q (F_World_begin_L16 28 x1 x2 x3 f S x4) → Sf_World_begin_L16 28 x1 x2 x3 f S x4 → z_G X zm_World_begin (16, [(0, z_r 28), (1, .inl x1), (2, .inl x2), (3, .inl x3), (4, .inl x4)], [], zW T' G' S n, 0, 0) := by
  induction f with
  | zero => intro S x4 K hs; exact False.elim hs
  | succ f hC =>
    intro S x4 K hs
    rw [F_World_begin_L16] at K
    rw [Sf_World_begin_L16] at hs
    try simp only [Nat.reduceAdd] at K hs
    refine z_go2 M.1 16 [(.iload 4, 2), (.bipush 10, 2)] (20, [(0, z_r 28), (1, .inl x1), (2, .inl x2), (3, .inl x3), (4, .inl x4)], [.inl 10, .inl x4], zW T' G' S n, 0, 0) (by decide +kernel) rfl ⟨trivial, trivial, trivial⟩ ?_
    refine z_icmp_ge 44 M.1 (off := 24) (by decide +kernel) (by decide) (fun c20 => ?_) (fun c20 => ?_)
    · rw [if_pos c20] at K hs
      exact z_lvs (lv' := [(0, z_r 28), (1, .inl x1), (2, .inl x2), (3, .inl x3)]) [0, 1, 2, 3] rfl (hE S K)
    · rw [if_neg c20] at K hs
      refine z_go2 M.1 23 [(.aload_n 0, 1), (.getfield 9, 3), (.iload_n 1, 1), (.bipush 10, 2), (.imul, 1), (.iload 4, 2), (.iadd, 1), (.iconst (-1), 1)] (35, [(0, z_r 28), (1, .inl x1), (2, .inl x2), (3, .inl x3), (4, .inl x4)], [.inl (-1), .inl ((x1 * 10) + x4), z_r 29], zW T' G' S n, 0, 0) (by decide +kernel) rfl ⟨trivial, rfl, trivial, trivial, trivial, trivial, trivial, trivial, trivial⟩ ?_
      refine z_callS M.1 (av := [z_r 29, .inl ((x1 * 10) + x4), .inl (-1)]) (st := []) (by decide +kernel) (c_put (zW T' G' S n) 29 300 rfl (by decide) ((x1 * 10) + x4) (-1)) M.2.1 zl_World_59 zs_T_put ⟨by decide, by decide, by decide, by decide⟩ rfl (Nat.le_of_ble_eq_true rfl) (fun v w' hv => ?_)
      obtain ⟨S35, hF35⟩ : ∃ y, zPut S 29 300 ((x1 * 10) + x4) (-1) = y := ⟨_, rfl⟩
      replace hv : v = none ∧ w' = zW T' G' (zPut S 29 300 ((x1 * 10) + x4) (-1)) n := hv
      rw [hF35] at K hv
      try rw [hF35] at hs
      try dsimp only [z_let] at K hs
      obtain ⟨rfl, rfl⟩ := hv
      show z_G X zm_World_begin (38, [(0, z_r 28), (1, .inl x1), (2, .inl x2), (3, .inl x3), (4, .inl x4)], [], zW T' G' S35 n, 0, 0)
      refine z_go2 M.1 38 [(.iinc 4 1, 3), (.goto (-25), 3)] (16, [(4, .inl (x4 + 1)), (0, z_r 28), (1, .inl x1), (2, .inl x2), (3, .inl x3)], [], zW T' G' S35 n, 0, 0) (by decide +kernel) rfl ⟨trivial, trivial, trivial⟩ ?_
      exact z_lvs (lv' := [(0, z_r 28), (1, .inl x1), (2, .inl x2), (3, .inl x3), (4, .inl (x4 + 1))]) [1, 2, 3, 4, 0] rfl (hC S35 (x4 + 1) K hs)
def F_World_begin (r : Nat) (S : (Nat → Nat → Int32)) (p1 : Int32) (p2 : Int32) (p3 : Int32) : (Nat → Nat → Int32) := (match F_World_begin_L16 r p1 p2 p3 1300 (z_uS S r 3 ((S r 3) ||| (F_T_bit S p1))) 0 with | S16 => (z_let (zPut S16 (r + 1) 300 ((p1 * 10) + 0) 0) (fun S55 => (z_let (zPut S55 (r + 1) 300 ((p1 * 10) + 6) 0) (fun S70 => (z_let (zPut S70 (r + 1) 300 ((p1 * 10) + 8) p3) (fun S85 => (z_let (zPut S85 (r + 1) 300 ((p1 * 10) + 9) p2) (fun S100 => S100)))))))))
def Sf_World_begin (r : Nat) (S : (Nat → Nat → Int32)) (p1 : Int32) (p2 : Int32) (p3 : Int32) : Prop := (Sf_World_begin_L16 r p1 p2 p3 1300 (z_uS S r 3 ((S r 3) ||| (F_T_bit S p1))) 0 ∧ True)
theorem c_World_begin_9 (T' : Nat → Nat × Nat) (G' : Nat → Nat → Option Nat) (S : (Nat → Nat → Int32)) (n : Nat) (p1 : Int32) (p2 : Int32) (p3 : Int32) (hs : Sf_World_begin 9 S p1 p2 p3) : z_Run rm_World_begin zm_World_begin [z_r 9, .inl p1, .inl p2, .inl p3] (zW T' G' S n) (zq none (zW T' G' (F_World_begin 9 S p1 p2 p3) n)) := by
  refine z_body (by decide) zf_World_ok (Nat.le_of_ble_eq_true rfl) (fun X M => ?_)
  obtain ⟨Q, hQ, K⟩ : ∃ Q : (Nat → Nat → Int32) → Prop, (∀ S', Q S' → zq none (zW T' G' (F_World_begin 9 S p1 p2 p3) n) none (zW T' G' S' n)) ∧ Q (F_World_begin 9 S p1 p2 p3) := ⟨fun o => F_World_begin 9 S p1 p2 p3 = o, fun S' h => ⟨rfl, by rw [h]⟩, rfl⟩
  show z_G X zm_World_begin (0, [(0, z_r 9), (1, .inl p1), (2, .inl p2), (3, .inl p3)], [], zW T' G' S n, 0, 0)
  unfold F_World_begin at K
  unfold Sf_World_begin at hs
  try simp only [Nat.reduceAdd] at K hs
  refine z_go2 M.1 0 [(.aload_n 0, 1), (.dup, 1), (.getfield 21, 3), (.iload_n 1, 1)] (6, [(0, z_r 9), (1, .inl p1), (2, .inl p2), (3, .inl p3)], [.inl p1, .inl (S 9 3), z_r 9], zW T' G' S n, 0, 0) (by decide +kernel) rfl ⟨trivial, rfl, rfl, trivial, trivial⟩ ?_
  refine z_callS M.1 (av := [.inl p1]) (st := [.inl (S 9 3), z_r 9]) (by decide +kernel) (c_T_bit T' G' S n p1) M.2.1 zl_World_49 zs_T_bit ⟨by decide, by decide, by decide, by decide⟩ rfl (Nat.le_of_ble_eq_true rfl) (fun v w' hv => ?_)
  obtain ⟨rfl, rfl⟩ := hv
  show z_G X zm_World_begin (9, [(0, z_r 9), (1, .inl p1), (2, .inl p2), (3, .inl p3)], [.inl (F_T_bit S p1), .inl (S 9 3), z_r 9], zW T' G' S n, 0, 0)
  refine z_go2 M.1 9 [(.ior, 1), (.putfield 21, 3), (.iconst 0, 1), (.istore 4, 2)] (16, [(4, .inl 0), (0, z_r 9), (1, .inl p1), (2, .inl p2), (3, .inl p3)], [], zW T' G' (z_uS S 9 3 ((S 9 3) ||| (F_T_bit S p1))) n, 0, 0) (by decide +kernel) rfl ⟨trivial, ⟨rfl, trivial⟩, trivial, trivial, trivial⟩ ?_
  refine z_lvs (lv' := [(0, z_r 9), (1, .inl p1), (2, .inl p2), (3, .inl p3), (4, .inl 0)]) [1, 2, 3, 4, 0] rfl ?_
  refine t_World_begin_L16_9 M (Q := fun o => F_World_begin_L16 9 p1 p2 p3 1300 (z_uS S 9 3 ((S 9 3) ||| (F_T_bit S p1))) 0 = o) p1 p2 p3 (fun S16 hL16 => ?_) 1300 (z_uS S 9 3 ((S 9 3) ||| (F_T_bit S p1))) 0 rfl hs.1
  replace hs := hs.2
  rw [hL16] at K
  try dsimp only at K
  refine z_go2 M.1 44 [(.aload_n 0, 1), (.getfield 9, 3), (.iload_n 1, 1), (.bipush 10, 2), (.imul, 1), (.iconst 0, 1), (.iadd, 1), (.iconst 0, 1)] (55, [(0, z_r 9), (1, .inl p1), (2, .inl p2), (3, .inl p3)], [.inl 0, .inl ((p1 * 10) + 0), z_r 10], zW T' G' S16 n, 0, 0) (by decide +kernel) rfl ⟨trivial, rfl, trivial, trivial, trivial, trivial, trivial, trivial, trivial⟩ ?_
  refine z_callS M.1 (av := [z_r 10, .inl ((p1 * 10) + 0), .inl 0]) (st := []) (by decide +kernel) (c_put (zW T' G' S16 n) 10 300 rfl (by decide) ((p1 * 10) + 0) 0) M.2.1 zl_World_59 zs_T_put ⟨by decide, by decide, by decide, by decide⟩ rfl (Nat.le_of_ble_eq_true rfl) (fun v w' hv => ?_)
  obtain ⟨S55, hF55⟩ : ∃ y, zPut S16 10 300 ((p1 * 10) + 0) 0 = y := ⟨_, rfl⟩
  replace hv : v = none ∧ w' = zW T' G' (zPut S16 10 300 ((p1 * 10) + 0) 0) n := hv
  rw [hF55] at K hv
  try dsimp only [z_let] at K
  obtain ⟨rfl, rfl⟩ := hv
  show z_G X zm_World_begin (58, [(0, z_r 9), (1, .inl p1), (2, .inl p2), (3, .inl p3)], [], zW T' G' S55 n, 0, 0)
  refine z_go2 M.1 58 [(.aload_n 0, 1), (.getfield 9, 3), (.iload_n 1, 1), (.bipush 10, 2), (.imul, 1), (.bipush 6, 2), (.iadd, 1), (.iconst 0, 1)] (70, [(0, z_r 9), (1, .inl p1), (2, .inl p2), (3, .inl p3)], [.inl 0, .inl ((p1 * 10) + 6), z_r 10], zW T' G' S55 n, 0, 0) (by decide +kernel) rfl ⟨trivial, rfl, trivial, trivial, trivial, trivial, trivial, trivial, trivial⟩ ?_
  refine z_callS M.1 (av := [z_r 10, .inl ((p1 * 10) + 6), .inl 0]) (st := []) (by decide +kernel) (c_put (zW T' G' S55 n) 10 300 rfl (by decide) ((p1 * 10) + 6) 0) M.2.1 zl_World_59 zs_T_put ⟨by decide, by decide, by decide, by decide⟩ rfl (Nat.le_of_ble_eq_true rfl) (fun v w' hv => ?_)
  obtain ⟨S70, hF70⟩ : ∃ y, zPut S55 10 300 ((p1 * 10) + 6) 0 = y := ⟨_, rfl⟩
  replace hv : v = none ∧ w' = zW T' G' (zPut S55 10 300 ((p1 * 10) + 6) 0) n := hv
  rw [hF70] at K hv
  try dsimp only [z_let] at K
  obtain ⟨rfl, rfl⟩ := hv
  show z_G X zm_World_begin (73, [(0, z_r 9), (1, .inl p1), (2, .inl p2), (3, .inl p3)], [], zW T' G' S70 n, 0, 0)
  refine z_go2 M.1 73 [(.aload_n 0, 1), (.getfield 9, 3), (.iload_n 1, 1), (.bipush 10, 2), (.imul, 1), (.bipush 8, 2), (.iadd, 1), (.iload_n 3, 1)] (85, [(0, z_r 9), (1, .inl p1), (2, .inl p2), (3, .inl p3)], [.inl p3, .inl ((p1 * 10) + 8), z_r 10], zW T' G' S70 n, 0, 0) (by decide +kernel) rfl ⟨trivial, rfl, trivial, trivial, trivial, trivial, trivial, trivial, trivial⟩ ?_
  refine z_callS M.1 (av := [z_r 10, .inl ((p1 * 10) + 8), .inl p3]) (st := []) (by decide +kernel) (c_put (zW T' G' S70 n) 10 300 rfl (by decide) ((p1 * 10) + 8) p3) M.2.1 zl_World_59 zs_T_put ⟨by decide, by decide, by decide, by decide⟩ rfl (Nat.le_of_ble_eq_true rfl) (fun v w' hv => ?_)
  obtain ⟨S85, hF85⟩ : ∃ y, zPut S70 10 300 ((p1 * 10) + 8) p3 = y := ⟨_, rfl⟩
  replace hv : v = none ∧ w' = zW T' G' (zPut S70 10 300 ((p1 * 10) + 8) p3) n := hv
  rw [hF85] at K hv
  try dsimp only [z_let] at K
  obtain ⟨rfl, rfl⟩ := hv
  show z_G X zm_World_begin (88, [(0, z_r 9), (1, .inl p1), (2, .inl p2), (3, .inl p3)], [], zW T' G' S85 n, 0, 0)
  refine z_go2 M.1 88 [(.aload_n 0, 1), (.getfield 9, 3), (.iload_n 1, 1), (.bipush 10, 2), (.imul, 1), (.bipush 9, 2), (.iadd, 1), (.iload_n 2, 1)] (100, [(0, z_r 9), (1, .inl p1), (2, .inl p2), (3, .inl p3)], [.inl p2, .inl ((p1 * 10) + 9), z_r 10], zW T' G' S85 n, 0, 0) (by decide +kernel) rfl ⟨trivial, rfl, trivial, trivial, trivial, trivial, trivial, trivial, trivial⟩ ?_
  refine z_callS M.1 (av := [z_r 10, .inl ((p1 * 10) + 9), .inl p2]) (st := []) (by decide +kernel) (c_put (zW T' G' S85 n) 10 300 rfl (by decide) ((p1 * 10) + 9) p2) M.2.1 zl_World_59 zs_T_put ⟨by decide, by decide, by decide, by decide⟩ rfl (Nat.le_of_ble_eq_true rfl) (fun v w' hv => ?_)
  obtain ⟨S100, hF100⟩ : ∃ y, zPut S85 10 300 ((p1 * 10) + 9) p2 = y := ⟨_, rfl⟩
  replace hv : v = none ∧ w' = zW T' G' (zPut S85 10 300 ((p1 * 10) + 9) p2) n := hv
  rw [hF100] at K hv
  try dsimp only [z_let] at K
  obtain ⟨rfl, rfl⟩ := hv
  show z_G X zm_World_begin (103, [(0, z_r 9), (1, .inl p1), (2, .inl p2), (3, .inl p3)], [], zW T' G' S100 n, 0, 0)
  exact z_vret M (by decide +kernel) rfl (by decide) (by decide) (hQ _ K)
theorem c_World_begin_13 (T' : Nat → Nat × Nat) (G' : Nat → Nat → Option Nat) (S : (Nat → Nat → Int32)) (n : Nat) (p1 : Int32) (p2 : Int32) (p3 : Int32) (hs : Sf_World_begin 13 S p1 p2 p3) : z_Run rm_World_begin zm_World_begin [z_r 13, .inl p1, .inl p2, .inl p3] (zW T' G' S n) (zq none (zW T' G' (F_World_begin 13 S p1 p2 p3) n)) := by
  refine z_body (by decide) zf_World_ok (Nat.le_of_ble_eq_true rfl) (fun X M => ?_)
  obtain ⟨Q, hQ, K⟩ : ∃ Q : (Nat → Nat → Int32) → Prop, (∀ S', Q S' → zq none (zW T' G' (F_World_begin 13 S p1 p2 p3) n) none (zW T' G' S' n)) ∧ Q (F_World_begin 13 S p1 p2 p3) := ⟨fun o => F_World_begin 13 S p1 p2 p3 = o, fun S' h => ⟨rfl, by rw [h]⟩, rfl⟩
  show z_G X zm_World_begin (0, [(0, z_r 13), (1, .inl p1), (2, .inl p2), (3, .inl p3)], [], zW T' G' S n, 0, 0)
  unfold F_World_begin at K
  unfold Sf_World_begin at hs
  try simp only [Nat.reduceAdd] at K hs
  refine z_go2 M.1 0 [(.aload_n 0, 1), (.dup, 1), (.getfield 21, 3), (.iload_n 1, 1)] (6, [(0, z_r 13), (1, .inl p1), (2, .inl p2), (3, .inl p3)], [.inl p1, .inl (S 13 3), z_r 13], zW T' G' S n, 0, 0) (by decide +kernel) rfl ⟨trivial, rfl, rfl, trivial, trivial⟩ ?_
  refine z_callS M.1 (av := [.inl p1]) (st := [.inl (S 13 3), z_r 13]) (by decide +kernel) (c_T_bit T' G' S n p1) M.2.1 zl_World_49 zs_T_bit ⟨by decide, by decide, by decide, by decide⟩ rfl (Nat.le_of_ble_eq_true rfl) (fun v w' hv => ?_)
  obtain ⟨rfl, rfl⟩ := hv
  show z_G X zm_World_begin (9, [(0, z_r 13), (1, .inl p1), (2, .inl p2), (3, .inl p3)], [.inl (F_T_bit S p1), .inl (S 13 3), z_r 13], zW T' G' S n, 0, 0)
  refine z_go2 M.1 9 [(.ior, 1), (.putfield 21, 3), (.iconst 0, 1), (.istore 4, 2)] (16, [(4, .inl 0), (0, z_r 13), (1, .inl p1), (2, .inl p2), (3, .inl p3)], [], zW T' G' (z_uS S 13 3 ((S 13 3) ||| (F_T_bit S p1))) n, 0, 0) (by decide +kernel) rfl ⟨trivial, ⟨rfl, trivial⟩, trivial, trivial, trivial⟩ ?_
  refine z_lvs (lv' := [(0, z_r 13), (1, .inl p1), (2, .inl p2), (3, .inl p3), (4, .inl 0)]) [1, 2, 3, 4, 0] rfl ?_
  refine t_World_begin_L16_13 M (Q := fun o => F_World_begin_L16 13 p1 p2 p3 1300 (z_uS S 13 3 ((S 13 3) ||| (F_T_bit S p1))) 0 = o) p1 p2 p3 (fun S16 hL16 => ?_) 1300 (z_uS S 13 3 ((S 13 3) ||| (F_T_bit S p1))) 0 rfl hs.1
  replace hs := hs.2
  rw [hL16] at K
  try dsimp only at K
  refine z_go2 M.1 44 [(.aload_n 0, 1), (.getfield 9, 3), (.iload_n 1, 1), (.bipush 10, 2), (.imul, 1), (.iconst 0, 1), (.iadd, 1), (.iconst 0, 1)] (55, [(0, z_r 13), (1, .inl p1), (2, .inl p2), (3, .inl p3)], [.inl 0, .inl ((p1 * 10) + 0), z_r 14], zW T' G' S16 n, 0, 0) (by decide +kernel) rfl ⟨trivial, rfl, trivial, trivial, trivial, trivial, trivial, trivial, trivial⟩ ?_
  refine z_callS M.1 (av := [z_r 14, .inl ((p1 * 10) + 0), .inl 0]) (st := []) (by decide +kernel) (c_put (zW T' G' S16 n) 14 300 rfl (by decide) ((p1 * 10) + 0) 0) M.2.1 zl_World_59 zs_T_put ⟨by decide, by decide, by decide, by decide⟩ rfl (Nat.le_of_ble_eq_true rfl) (fun v w' hv => ?_)
  obtain ⟨S55, hF55⟩ : ∃ y, zPut S16 14 300 ((p1 * 10) + 0) 0 = y := ⟨_, rfl⟩
  replace hv : v = none ∧ w' = zW T' G' (zPut S16 14 300 ((p1 * 10) + 0) 0) n := hv
  rw [hF55] at K hv
  try dsimp only [z_let] at K
  obtain ⟨rfl, rfl⟩ := hv
  show z_G X zm_World_begin (58, [(0, z_r 13), (1, .inl p1), (2, .inl p2), (3, .inl p3)], [], zW T' G' S55 n, 0, 0)
  refine z_go2 M.1 58 [(.aload_n 0, 1), (.getfield 9, 3), (.iload_n 1, 1), (.bipush 10, 2), (.imul, 1), (.bipush 6, 2), (.iadd, 1), (.iconst 0, 1)] (70, [(0, z_r 13), (1, .inl p1), (2, .inl p2), (3, .inl p3)], [.inl 0, .inl ((p1 * 10) + 6), z_r 14], zW T' G' S55 n, 0, 0) (by decide +kernel) rfl ⟨trivial, rfl, trivial, trivial, trivial, trivial, trivial, trivial, trivial⟩ ?_
  refine z_callS M.1 (av := [z_r 14, .inl ((p1 * 10) + 6), .inl 0]) (st := []) (by decide +kernel) (c_put (zW T' G' S55 n) 14 300 rfl (by decide) ((p1 * 10) + 6) 0) M.2.1 zl_World_59 zs_T_put ⟨by decide, by decide, by decide, by decide⟩ rfl (Nat.le_of_ble_eq_true rfl) (fun v w' hv => ?_)
  obtain ⟨S70, hF70⟩ : ∃ y, zPut S55 14 300 ((p1 * 10) + 6) 0 = y := ⟨_, rfl⟩
  replace hv : v = none ∧ w' = zW T' G' (zPut S55 14 300 ((p1 * 10) + 6) 0) n := hv
  rw [hF70] at K hv
  try dsimp only [z_let] at K
  obtain ⟨rfl, rfl⟩ := hv
  show z_G X zm_World_begin (73, [(0, z_r 13), (1, .inl p1), (2, .inl p2), (3, .inl p3)], [], zW T' G' S70 n, 0, 0)
  refine z_go2 M.1 73 [(.aload_n 0, 1), (.getfield 9, 3), (.iload_n 1, 1), (.bipush 10, 2), (.imul, 1), (.bipush 8, 2), (.iadd, 1), (.iload_n 3, 1)] (85, [(0, z_r 13), (1, .inl p1), (2, .inl p2), (3, .inl p3)], [.inl p3, .inl ((p1 * 10) + 8), z_r 14], zW T' G' S70 n, 0, 0) (by decide +kernel) rfl ⟨trivial, rfl, trivial, trivial, trivial, trivial, trivial, trivial, trivial⟩ ?_
  refine z_callS M.1 (av := [z_r 14, .inl ((p1 * 10) + 8), .inl p3]) (st := []) (by decide +kernel) (c_put (zW T' G' S70 n) 14 300 rfl (by decide) ((p1 * 10) + 8) p3) M.2.1 zl_World_59 zs_T_put ⟨by decide, by decide, by decide, by decide⟩ rfl (Nat.le_of_ble_eq_true rfl) (fun v w' hv => ?_)
  obtain ⟨S85, hF85⟩ : ∃ y, zPut S70 14 300 ((p1 * 10) + 8) p3 = y := ⟨_, rfl⟩
  replace hv : v = none ∧ w' = zW T' G' (zPut S70 14 300 ((p1 * 10) + 8) p3) n := hv
  rw [hF85] at K hv
  try dsimp only [z_let] at K
  obtain ⟨rfl, rfl⟩ := hv
  show z_G X zm_World_begin (88, [(0, z_r 13), (1, .inl p1), (2, .inl p2), (3, .inl p3)], [], zW T' G' S85 n, 0, 0)
  refine z_go2 M.1 88 [(.aload_n 0, 1), (.getfield 9, 3), (.iload_n 1, 1), (.bipush 10, 2), (.imul, 1), (.bipush 9, 2), (.iadd, 1), (.iload_n 2, 1)] (100, [(0, z_r 13), (1, .inl p1), (2, .inl p2), (3, .inl p3)], [.inl p2, .inl ((p1 * 10) + 9), z_r 14], zW T' G' S85 n, 0, 0) (by decide +kernel) rfl ⟨trivial, rfl, trivial, trivial, trivial, trivial, trivial, trivial, trivial⟩ ?_
  refine z_callS M.1 (av := [z_r 14, .inl ((p1 * 10) + 9), .inl p2]) (st := []) (by decide +kernel) (c_put (zW T' G' S85 n) 14 300 rfl (by decide) ((p1 * 10) + 9) p2) M.2.1 zl_World_59 zs_T_put ⟨by decide, by decide, by decide, by decide⟩ rfl (Nat.le_of_ble_eq_true rfl) (fun v w' hv => ?_)
  obtain ⟨S100, hF100⟩ : ∃ y, zPut S85 14 300 ((p1 * 10) + 9) p2 = y := ⟨_, rfl⟩
  replace hv : v = none ∧ w' = zW T' G' (zPut S85 14 300 ((p1 * 10) + 9) p2) n := hv
  rw [hF100] at K hv
  try dsimp only [z_let] at K
  obtain ⟨rfl, rfl⟩ := hv
  show z_G X zm_World_begin (103, [(0, z_r 13), (1, .inl p1), (2, .inl p2), (3, .inl p3)], [], zW T' G' S100 n, 0, 0)
  exact z_vret M (by decide +kernel) rfl (by decide) (by decide) (hQ _ K)
theorem c_World_begin_28 (T' : Nat → Nat × Nat) (G' : Nat → Nat → Option Nat) (S : (Nat → Nat → Int32)) (n : Nat) (p1 : Int32) (p2 : Int32) (p3 : Int32) (hs : Sf_World_begin 28 S p1 p2 p3) : z_Run rm_World_begin zm_World_begin [z_r 28, .inl p1, .inl p2, .inl p3] (zW T' G' S n) (zq none (zW T' G' (F_World_begin 28 S p1 p2 p3) n)) := by
  refine z_body (by decide) zf_World_ok (Nat.le_of_ble_eq_true rfl) (fun X M => ?_)
  obtain ⟨Q, hQ, K⟩ : ∃ Q : (Nat → Nat → Int32) → Prop, (∀ S', Q S' → zq none (zW T' G' (F_World_begin 28 S p1 p2 p3) n) none (zW T' G' S' n)) ∧ Q (F_World_begin 28 S p1 p2 p3) := ⟨fun o => F_World_begin 28 S p1 p2 p3 = o, fun S' h => ⟨rfl, by rw [h]⟩, rfl⟩
  show z_G X zm_World_begin (0, [(0, z_r 28), (1, .inl p1), (2, .inl p2), (3, .inl p3)], [], zW T' G' S n, 0, 0)
  unfold F_World_begin at K
  unfold Sf_World_begin at hs
  try simp only [Nat.reduceAdd] at K hs
  refine z_go2 M.1 0 [(.aload_n 0, 1), (.dup, 1), (.getfield 21, 3), (.iload_n 1, 1)] (6, [(0, z_r 28), (1, .inl p1), (2, .inl p2), (3, .inl p3)], [.inl p1, .inl (S 28 3), z_r 28], zW T' G' S n, 0, 0) (by decide +kernel) rfl ⟨trivial, rfl, rfl, trivial, trivial⟩ ?_
  refine z_callS M.1 (av := [.inl p1]) (st := [.inl (S 28 3), z_r 28]) (by decide +kernel) (c_T_bit T' G' S n p1) M.2.1 zl_World_49 zs_T_bit ⟨by decide, by decide, by decide, by decide⟩ rfl (Nat.le_of_ble_eq_true rfl) (fun v w' hv => ?_)
  obtain ⟨rfl, rfl⟩ := hv
  show z_G X zm_World_begin (9, [(0, z_r 28), (1, .inl p1), (2, .inl p2), (3, .inl p3)], [.inl (F_T_bit S p1), .inl (S 28 3), z_r 28], zW T' G' S n, 0, 0)
  refine z_go2 M.1 9 [(.ior, 1), (.putfield 21, 3), (.iconst 0, 1), (.istore 4, 2)] (16, [(4, .inl 0), (0, z_r 28), (1, .inl p1), (2, .inl p2), (3, .inl p3)], [], zW T' G' (z_uS S 28 3 ((S 28 3) ||| (F_T_bit S p1))) n, 0, 0) (by decide +kernel) rfl ⟨trivial, ⟨rfl, trivial⟩, trivial, trivial, trivial⟩ ?_
  refine z_lvs (lv' := [(0, z_r 28), (1, .inl p1), (2, .inl p2), (3, .inl p3), (4, .inl 0)]) [1, 2, 3, 4, 0] rfl ?_
  refine t_World_begin_L16_28 M (Q := fun o => F_World_begin_L16 28 p1 p2 p3 1300 (z_uS S 28 3 ((S 28 3) ||| (F_T_bit S p1))) 0 = o) p1 p2 p3 (fun S16 hL16 => ?_) 1300 (z_uS S 28 3 ((S 28 3) ||| (F_T_bit S p1))) 0 rfl hs.1
  replace hs := hs.2
  rw [hL16] at K
  try dsimp only at K
  refine z_go2 M.1 44 [(.aload_n 0, 1), (.getfield 9, 3), (.iload_n 1, 1), (.bipush 10, 2), (.imul, 1), (.iconst 0, 1), (.iadd, 1), (.iconst 0, 1)] (55, [(0, z_r 28), (1, .inl p1), (2, .inl p2), (3, .inl p3)], [.inl 0, .inl ((p1 * 10) + 0), z_r 29], zW T' G' S16 n, 0, 0) (by decide +kernel) rfl ⟨trivial, rfl, trivial, trivial, trivial, trivial, trivial, trivial, trivial⟩ ?_
  refine z_callS M.1 (av := [z_r 29, .inl ((p1 * 10) + 0), .inl 0]) (st := []) (by decide +kernel) (c_put (zW T' G' S16 n) 29 300 rfl (by decide) ((p1 * 10) + 0) 0) M.2.1 zl_World_59 zs_T_put ⟨by decide, by decide, by decide, by decide⟩ rfl (Nat.le_of_ble_eq_true rfl) (fun v w' hv => ?_)
  obtain ⟨S55, hF55⟩ : ∃ y, zPut S16 29 300 ((p1 * 10) + 0) 0 = y := ⟨_, rfl⟩
  replace hv : v = none ∧ w' = zW T' G' (zPut S16 29 300 ((p1 * 10) + 0) 0) n := hv
  rw [hF55] at K hv
  try dsimp only [z_let] at K
  obtain ⟨rfl, rfl⟩ := hv
  show z_G X zm_World_begin (58, [(0, z_r 28), (1, .inl p1), (2, .inl p2), (3, .inl p3)], [], zW T' G' S55 n, 0, 0)
  refine z_go2 M.1 58 [(.aload_n 0, 1), (.getfield 9, 3), (.iload_n 1, 1), (.bipush 10, 2), (.imul, 1), (.bipush 6, 2), (.iadd, 1), (.iconst 0, 1)] (70, [(0, z_r 28), (1, .inl p1), (2, .inl p2), (3, .inl p3)], [.inl 0, .inl ((p1 * 10) + 6), z_r 29], zW T' G' S55 n, 0, 0) (by decide +kernel) rfl ⟨trivial, rfl, trivial, trivial, trivial, trivial, trivial, trivial, trivial⟩ ?_
  refine z_callS M.1 (av := [z_r 29, .inl ((p1 * 10) + 6), .inl 0]) (st := []) (by decide +kernel) (c_put (zW T' G' S55 n) 29 300 rfl (by decide) ((p1 * 10) + 6) 0) M.2.1 zl_World_59 zs_T_put ⟨by decide, by decide, by decide, by decide⟩ rfl (Nat.le_of_ble_eq_true rfl) (fun v w' hv => ?_)
  obtain ⟨S70, hF70⟩ : ∃ y, zPut S55 29 300 ((p1 * 10) + 6) 0 = y := ⟨_, rfl⟩
  replace hv : v = none ∧ w' = zW T' G' (zPut S55 29 300 ((p1 * 10) + 6) 0) n := hv
  rw [hF70] at K hv
  try dsimp only [z_let] at K
  obtain ⟨rfl, rfl⟩ := hv
  show z_G X zm_World_begin (73, [(0, z_r 28), (1, .inl p1), (2, .inl p2), (3, .inl p3)], [], zW T' G' S70 n, 0, 0)
  refine z_go2 M.1 73 [(.aload_n 0, 1), (.getfield 9, 3), (.iload_n 1, 1), (.bipush 10, 2), (.imul, 1), (.bipush 8, 2), (.iadd, 1), (.iload_n 3, 1)] (85, [(0, z_r 28), (1, .inl p1), (2, .inl p2), (3, .inl p3)], [.inl p3, .inl ((p1 * 10) + 8), z_r 29], zW T' G' S70 n, 0, 0) (by decide +kernel) rfl ⟨trivial, rfl, trivial, trivial, trivial, trivial, trivial, trivial, trivial⟩ ?_
  refine z_callS M.1 (av := [z_r 29, .inl ((p1 * 10) + 8), .inl p3]) (st := []) (by decide +kernel) (c_put (zW T' G' S70 n) 29 300 rfl (by decide) ((p1 * 10) + 8) p3) M.2.1 zl_World_59 zs_T_put ⟨by decide, by decide, by decide, by decide⟩ rfl (Nat.le_of_ble_eq_true rfl) (fun v w' hv => ?_)
  obtain ⟨S85, hF85⟩ : ∃ y, zPut S70 29 300 ((p1 * 10) + 8) p3 = y := ⟨_, rfl⟩
  replace hv : v = none ∧ w' = zW T' G' (zPut S70 29 300 ((p1 * 10) + 8) p3) n := hv
  rw [hF85] at K hv
  try dsimp only [z_let] at K
  obtain ⟨rfl, rfl⟩ := hv
  show z_G X zm_World_begin (88, [(0, z_r 28), (1, .inl p1), (2, .inl p2), (3, .inl p3)], [], zW T' G' S85 n, 0, 0)
  refine z_go2 M.1 88 [(.aload_n 0, 1), (.getfield 9, 3), (.iload_n 1, 1), (.bipush 10, 2), (.imul, 1), (.bipush 9, 2), (.iadd, 1), (.iload_n 2, 1)] (100, [(0, z_r 28), (1, .inl p1), (2, .inl p2), (3, .inl p3)], [.inl p2, .inl ((p1 * 10) + 9), z_r 29], zW T' G' S85 n, 0, 0) (by decide +kernel) rfl ⟨trivial, rfl, trivial, trivial, trivial, trivial, trivial, trivial, trivial⟩ ?_
  refine z_callS M.1 (av := [z_r 29, .inl ((p1 * 10) + 9), .inl p2]) (st := []) (by decide +kernel) (c_put (zW T' G' S85 n) 29 300 rfl (by decide) ((p1 * 10) + 9) p2) M.2.1 zl_World_59 zs_T_put ⟨by decide, by decide, by decide, by decide⟩ rfl (Nat.le_of_ble_eq_true rfl) (fun v w' hv => ?_)
  obtain ⟨S100, hF100⟩ : ∃ y, zPut S85 29 300 ((p1 * 10) + 9) p2 = y := ⟨_, rfl⟩
  replace hv : v = none ∧ w' = zW T' G' (zPut S85 29 300 ((p1 * 10) + 9) p2) n := hv
  rw [hF100] at K hv
  try dsimp only [z_let] at K
  obtain ⟨rfl, rfl⟩ := hv
  show z_G X zm_World_begin (103, [(0, z_r 28), (1, .inl p1), (2, .inl p2), (3, .inl p3)], [], zW T' G' S100 n, 0, 0)
  exact z_vret M (by decide +kernel) rfl (by decide) (by decide) (hQ _ K)

-- TrackHouse$World.redo
abbrev rm_World_redo : Room := zr 2
def F_World_redo (r : Nat) (S : (Nat → Nat → Int32)) (p2 : Int32) : (Nat → Nat → Int32) := (if (zAt (S 5) 900 p2) = 13 then (z_let (F_World_begin r S (zAt (S 4) 900 p2) (zAt (S 6) 900 p2) (zAt (S 8) 900 p2)) (fun S40 => S40)) else (z_let (F_World_write r S (zAt (S 4) 900 p2) (zAt (S 5) 900 p2) (zAt (S 6) 900 p2) (zAt (S 8) 900 p2)) (fun S72 => S72)))
def Sf_World_redo (r : Nat) (S : (Nat → Nat → Int32)) (p2 : Int32) : Prop := (if (zAt (S 5) 900 p2) = 13 then (Sf_World_begin r S (zAt (S 4) 900 p2) (zAt (S 6) 900 p2) (zAt (S 8) 900 p2) ∧ True) else (Sf_World_write r S (zAt (S 4) 900 p2) (zAt (S 5) 900 p2) (zAt (S 6) 900 p2) (zAt (S 8) 900 p2) ∧ True))
theorem c_World_redo_9 (T' : Nat → Nat × Nat) (G' : Nat → Nat → Option Nat) (S : (Nat → Nat → Int32)) (n : Nat) (p2 : Int32) (hs : Sf_World_redo 9 S p2) : z_Run rm_World_redo zm_World_redo [z_r 9, z_r 1, .inl p2] (zW T' G' S n) (zq none (zW T' G' (F_World_redo 9 S p2) n)) := by
  refine z_body (by decide) zf_World_ok (Nat.le_of_ble_eq_true rfl) (fun X M => ?_)
  obtain ⟨Q, hQ, K⟩ : ∃ Q : (Nat → Nat → Int32) → Prop, (∀ S', Q S' → zq none (zW T' G' (F_World_redo 9 S p2) n) none (zW T' G' S' n)) ∧ Q (F_World_redo 9 S p2) := ⟨fun o => F_World_redo 9 S p2 = o, fun S' h => ⟨rfl, by rw [h]⟩, rfl⟩
  show z_G X zm_World_redo (0, [(0, z_r 9), (1, z_r 1), (2, .inl p2)], [], zW T' G' S n, 0, 0)
  unfold F_World_redo at K
  unfold Sf_World_redo at hs
  try simp only [Nat.reduceAdd] at K hs
  refine z_go2 M.1 0 [(.aload_n 1, 1), (.getfield 67, 3), (.iload_n 2, 1)] (5, [(0, z_r 9), (1, z_r 1), (2, .inl p2)], [.inl p2, z_r 4], zW T' G' S n, 0, 0) (by decide +kernel) rfl ⟨trivial, rfl, trivial, trivial⟩ ?_
  refine z_callS M.1 (av := [z_r 4, .inl p2]) (st := []) (by decide +kernel) (c_at (zW T' G' S n) 4 900 rfl (by decide) p2) M.2.1 zl_World_37 zs_T_at ⟨by decide, by decide, by decide, by decide⟩ rfl (Nat.le_of_ble_eq_true rfl) (fun v w' hv => ?_)
  obtain ⟨rfl, rfl⟩ := hv
  show z_G X zm_World_redo (8, [(0, z_r 9), (1, z_r 1), (2, .inl p2)], [.inl (zAt (S 4) 900 p2)], zW T' G' S n, 0, 0)
  refine z_go2 M.1 8 [(.istore_n 3, 1), (.aload_n 1, 1), (.getfield 72, 3), (.iload_n 2, 1)] (14, [(3, .inl (zAt (S 4) 900 p2)), (0, z_r 9), (1, z_r 1), (2, .inl p2)], [.inl p2, z_r 5], zW T' G' S n, 0, 0) (by decide +kernel) rfl ⟨trivial, trivial, rfl, trivial, trivial⟩ ?_
  refine z_callS M.1 (av := [z_r 5, .inl p2]) (st := []) (by decide +kernel) (c_at (zW T' G' S n) 5 900 rfl (by decide) p2) M.2.1 zl_World_37 zs_T_at ⟨by decide, by decide, by decide, by decide⟩ rfl (Nat.le_of_ble_eq_true rfl) (fun v w' hv => ?_)
  obtain ⟨rfl, rfl⟩ := hv
  show z_G X zm_World_redo (17, [(3, .inl (zAt (S 4) 900 p2)), (0, z_r 9), (1, z_r 1), (2, .inl p2)], [.inl (zAt (S 5) 900 p2)], zW T' G' S n, 0, 0)
  refine z_go2 M.1 17 [(.bipush 13, 2)] (19, [(3, .inl (zAt (S 4) 900 p2)), (0, z_r 9), (1, z_r 1), (2, .inl p2)], [.inl 13, .inl (zAt (S 5) 900 p2)], zW T' G' S n, 0, 0) (by decide +kernel) rfl ⟨trivial, trivial⟩ ?_
  refine z_icmp_ne 46 M.1 (off := 27) (by decide +kernel) (by decide) (fun c19 => ?_) (fun c19 => ?_)
  · rw [if_neg c19] at K hs
    refine z_go2 M.1 46 [(.aload_n 0, 1), (.iload_n 3, 1), (.aload_n 1, 1), (.getfield 72, 3), (.iload_n 2, 1)] (53, [(3, .inl (zAt (S 4) 900 p2)), (0, z_r 9), (1, z_r 1), (2, .inl p2)], [.inl p2, z_r 5, .inl (zAt (S 4) 900 p2), z_r 9], zW T' G' S n, 0, 0) (by decide +kernel) rfl ⟨trivial, trivial, trivial, rfl, trivial, trivial⟩ ?_
    refine z_callS M.1 (av := [z_r 5, .inl p2]) (st := [.inl (zAt (S 4) 900 p2), z_r 9]) (by decide +kernel) (c_at (zW T' G' S n) 5 900 rfl (by decide) p2) M.2.1 zl_World_37 zs_T_at ⟨by decide, by decide, by decide, by decide⟩ rfl (Nat.le_of_ble_eq_true rfl) (fun v w' hv => ?_)
    obtain ⟨rfl, rfl⟩ := hv
    show z_G X zm_World_redo (56, [(3, .inl (zAt (S 4) 900 p2)), (0, z_r 9), (1, z_r 1), (2, .inl p2)], [.inl (zAt (S 5) 900 p2), .inl (zAt (S 4) 900 p2), z_r 9], zW T' G' S n, 0, 0)
    refine z_go2 M.1 56 [(.aload_n 1, 1), (.getfield 75, 3), (.iload_n 2, 1)] (61, [(3, .inl (zAt (S 4) 900 p2)), (0, z_r 9), (1, z_r 1), (2, .inl p2)], [.inl p2, z_r 6, .inl (zAt (S 5) 900 p2), .inl (zAt (S 4) 900 p2), z_r 9], zW T' G' S n, 0, 0) (by decide +kernel) rfl ⟨trivial, rfl, trivial, trivial⟩ ?_
    refine z_callS M.1 (av := [z_r 6, .inl p2]) (st := [.inl (zAt (S 5) 900 p2), .inl (zAt (S 4) 900 p2), z_r 9]) (by decide +kernel) (c_at (zW T' G' S n) 6 900 rfl (by decide) p2) M.2.1 zl_World_37 zs_T_at ⟨by decide, by decide, by decide, by decide⟩ rfl (Nat.le_of_ble_eq_true rfl) (fun v w' hv => ?_)
    obtain ⟨rfl, rfl⟩ := hv
    show z_G X zm_World_redo (64, [(3, .inl (zAt (S 4) 900 p2)), (0, z_r 9), (1, z_r 1), (2, .inl p2)], [.inl (zAt (S 6) 900 p2), .inl (zAt (S 5) 900 p2), .inl (zAt (S 4) 900 p2), z_r 9], zW T' G' S n, 0, 0)
    refine z_go2 M.1 64 [(.aload_n 1, 1), (.getfield 78, 3), (.iload_n 2, 1)] (69, [(3, .inl (zAt (S 4) 900 p2)), (0, z_r 9), (1, z_r 1), (2, .inl p2)], [.inl p2, z_r 8, .inl (zAt (S 6) 900 p2), .inl (zAt (S 5) 900 p2), .inl (zAt (S 4) 900 p2), z_r 9], zW T' G' S n, 0, 0) (by decide +kernel) rfl ⟨trivial, rfl, trivial, trivial⟩ ?_
    refine z_callS M.1 (av := [z_r 8, .inl p2]) (st := [.inl (zAt (S 6) 900 p2), .inl (zAt (S 5) 900 p2), .inl (zAt (S 4) 900 p2), z_r 9]) (by decide +kernel) (c_at (zW T' G' S n) 8 900 rfl (by decide) p2) M.2.1 zl_World_37 zs_T_at ⟨by decide, by decide, by decide, by decide⟩ rfl (Nat.le_of_ble_eq_true rfl) (fun v w' hv => ?_)
    obtain ⟨rfl, rfl⟩ := hv
    show z_G X zm_World_redo (72, [(3, .inl (zAt (S 4) 900 p2)), (0, z_r 9), (1, z_r 1), (2, .inl p2)], [.inl (zAt (S 8) 900 p2), .inl (zAt (S 6) 900 p2), .inl (zAt (S 5) 900 p2), .inl (zAt (S 4) 900 p2), z_r 9], zW T' G' S n, 0, 0)
    refine z_callV M.1 (av := [.inl (zAt (S 4) 900 p2), .inl (zAt (S 5) 900 p2), .inl (zAt (S 6) 900 p2), .inl (zAt (S 8) 900 p2)]) (st := []) (a := 9) (ci := 10) (by decide +kernel) (c_World_write_9 T' G' S n (zAt (S 4) 900 p2) (zAt (S 5) 900 p2) (zAt (S 6) 900 p2) (zAt (S 8) 900 p2) hs.1) M.2.1 zl_World_85 zv_World_write rfl rfl rfl ⟨by decide, by decide, by decide, by decide⟩ rfl (Nat.le_of_ble_eq_true rfl) (fun v w' hv => ?_)
    replace hs := hs.2
    obtain ⟨S72, hF72⟩ : ∃ y, F_World_write 9 S (zAt (S 4) 900 p2) (zAt (S 5) 900 p2) (zAt (S 6) 900 p2) (zAt (S 8) 900 p2) = y := ⟨_, rfl⟩
    rw [hF72] at K hv
    try dsimp only [z_let] at K
    obtain ⟨rfl, rfl⟩ := hv
    show z_G X zm_World_redo (75, [(3, .inl (zAt (S 4) 900 p2)), (0, z_r 9), (1, z_r 1), (2, .inl p2)], [], zW T' G' S72 n, 0, 0)
    exact z_vret M (by decide +kernel) rfl (by decide) (by decide) (hQ _ K)
  · rw [if_pos c19] at K hs
    refine z_go2 M.1 22 [(.aload_n 0, 1), (.iload_n 3, 1), (.aload_n 1, 1), (.getfield 75, 3), (.iload_n 2, 1)] (29, [(3, .inl (zAt (S 4) 900 p2)), (0, z_r 9), (1, z_r 1), (2, .inl p2)], [.inl p2, z_r 6, .inl (zAt (S 4) 900 p2), z_r 9], zW T' G' S n, 0, 0) (by decide +kernel) rfl ⟨trivial, trivial, trivial, rfl, trivial, trivial⟩ ?_
    refine z_callS M.1 (av := [z_r 6, .inl p2]) (st := [.inl (zAt (S 4) 900 p2), z_r 9]) (by decide +kernel) (c_at (zW T' G' S n) 6 900 rfl (by decide) p2) M.2.1 zl_World_37 zs_T_at ⟨by decide, by decide, by decide, by decide⟩ rfl (Nat.le_of_ble_eq_true rfl) (fun v w' hv => ?_)
    obtain ⟨rfl, rfl⟩ := hv
    show z_G X zm_World_redo (32, [(3, .inl (zAt (S 4) 900 p2)), (0, z_r 9), (1, z_r 1), (2, .inl p2)], [.inl (zAt (S 6) 900 p2), .inl (zAt (S 4) 900 p2), z_r 9], zW T' G' S n, 0, 0)
    refine z_go2 M.1 32 [(.aload_n 1, 1), (.getfield 78, 3), (.iload_n 2, 1)] (37, [(3, .inl (zAt (S 4) 900 p2)), (0, z_r 9), (1, z_r 1), (2, .inl p2)], [.inl p2, z_r 8, .inl (zAt (S 6) 900 p2), .inl (zAt (S 4) 900 p2), z_r 9], zW T' G' S n, 0, 0) (by decide +kernel) rfl ⟨trivial, rfl, trivial, trivial⟩ ?_
    refine z_callS M.1 (av := [z_r 8, .inl p2]) (st := [.inl (zAt (S 6) 900 p2), .inl (zAt (S 4) 900 p2), z_r 9]) (by decide +kernel) (c_at (zW T' G' S n) 8 900 rfl (by decide) p2) M.2.1 zl_World_37 zs_T_at ⟨by decide, by decide, by decide, by decide⟩ rfl (Nat.le_of_ble_eq_true rfl) (fun v w' hv => ?_)
    obtain ⟨rfl, rfl⟩ := hv
    show z_G X zm_World_redo (40, [(3, .inl (zAt (S 4) 900 p2)), (0, z_r 9), (1, z_r 1), (2, .inl p2)], [.inl (zAt (S 8) 900 p2), .inl (zAt (S 6) 900 p2), .inl (zAt (S 4) 900 p2), z_r 9], zW T' G' S n, 0, 0)
    refine z_callV M.1 (av := [.inl (zAt (S 4) 900 p2), .inl (zAt (S 6) 900 p2), .inl (zAt (S 8) 900 p2)]) (st := []) (a := 9) (ci := 10) (by decide +kernel) (c_World_begin_9 T' G' S n (zAt (S 4) 900 p2) (zAt (S 6) 900 p2) (zAt (S 8) 900 p2) hs.1) M.2.1 zl_World_81 zv_World_begin rfl rfl rfl ⟨by decide, by decide, by decide, by decide⟩ rfl (Nat.le_of_ble_eq_true rfl) (fun v w' hv => ?_)
    replace hs := hs.2
    obtain ⟨S40, hF40⟩ : ∃ y, F_World_begin 9 S (zAt (S 4) 900 p2) (zAt (S 6) 900 p2) (zAt (S 8) 900 p2) = y := ⟨_, rfl⟩
    rw [hF40] at K hv
    try dsimp only [z_let] at K
    obtain ⟨rfl, rfl⟩ := hv
    show z_G X zm_World_redo (43, [(3, .inl (zAt (S 4) 900 p2)), (0, z_r 9), (1, z_r 1), (2, .inl p2)], [], zW T' G' S40 n, 0, 0)
    refine z_go2 M.1 43 [(.goto 32, 3)] (75, [(3, .inl (zAt (S 4) 900 p2)), (0, z_r 9), (1, z_r 1), (2, .inl p2)], [], zW T' G' S40 n, 0, 0) (by decide +kernel) rfl ⟨trivial, trivial⟩ ?_
    exact z_vret M (by decide +kernel) rfl (by decide) (by decide) (hQ _ K)
theorem c_World_redo_28 (T' : Nat → Nat × Nat) (G' : Nat → Nat → Option Nat) (S : (Nat → Nat → Int32)) (n : Nat) (p2 : Int32) (hs : Sf_World_redo 28 S p2) : z_Run rm_World_redo zm_World_redo [z_r 28, z_r 1, .inl p2] (zW T' G' S n) (zq none (zW T' G' (F_World_redo 28 S p2) n)) := by
  refine z_body (by decide) zf_World_ok (Nat.le_of_ble_eq_true rfl) (fun X M => ?_)
  obtain ⟨Q, hQ, K⟩ : ∃ Q : (Nat → Nat → Int32) → Prop, (∀ S', Q S' → zq none (zW T' G' (F_World_redo 28 S p2) n) none (zW T' G' S' n)) ∧ Q (F_World_redo 28 S p2) := ⟨fun o => F_World_redo 28 S p2 = o, fun S' h => ⟨rfl, by rw [h]⟩, rfl⟩
  show z_G X zm_World_redo (0, [(0, z_r 28), (1, z_r 1), (2, .inl p2)], [], zW T' G' S n, 0, 0)
  unfold F_World_redo at K
  unfold Sf_World_redo at hs
  try simp only [Nat.reduceAdd] at K hs
  refine z_go2 M.1 0 [(.aload_n 1, 1), (.getfield 67, 3), (.iload_n 2, 1)] (5, [(0, z_r 28), (1, z_r 1), (2, .inl p2)], [.inl p2, z_r 4], zW T' G' S n, 0, 0) (by decide +kernel) rfl ⟨trivial, rfl, trivial, trivial⟩ ?_
  refine z_callS M.1 (av := [z_r 4, .inl p2]) (st := []) (by decide +kernel) (c_at (zW T' G' S n) 4 900 rfl (by decide) p2) M.2.1 zl_World_37 zs_T_at ⟨by decide, by decide, by decide, by decide⟩ rfl (Nat.le_of_ble_eq_true rfl) (fun v w' hv => ?_)
  obtain ⟨rfl, rfl⟩ := hv
  show z_G X zm_World_redo (8, [(0, z_r 28), (1, z_r 1), (2, .inl p2)], [.inl (zAt (S 4) 900 p2)], zW T' G' S n, 0, 0)
  refine z_go2 M.1 8 [(.istore_n 3, 1), (.aload_n 1, 1), (.getfield 72, 3), (.iload_n 2, 1)] (14, [(3, .inl (zAt (S 4) 900 p2)), (0, z_r 28), (1, z_r 1), (2, .inl p2)], [.inl p2, z_r 5], zW T' G' S n, 0, 0) (by decide +kernel) rfl ⟨trivial, trivial, rfl, trivial, trivial⟩ ?_
  refine z_callS M.1 (av := [z_r 5, .inl p2]) (st := []) (by decide +kernel) (c_at (zW T' G' S n) 5 900 rfl (by decide) p2) M.2.1 zl_World_37 zs_T_at ⟨by decide, by decide, by decide, by decide⟩ rfl (Nat.le_of_ble_eq_true rfl) (fun v w' hv => ?_)
  obtain ⟨rfl, rfl⟩ := hv
  show z_G X zm_World_redo (17, [(3, .inl (zAt (S 4) 900 p2)), (0, z_r 28), (1, z_r 1), (2, .inl p2)], [.inl (zAt (S 5) 900 p2)], zW T' G' S n, 0, 0)
  refine z_go2 M.1 17 [(.bipush 13, 2)] (19, [(3, .inl (zAt (S 4) 900 p2)), (0, z_r 28), (1, z_r 1), (2, .inl p2)], [.inl 13, .inl (zAt (S 5) 900 p2)], zW T' G' S n, 0, 0) (by decide +kernel) rfl ⟨trivial, trivial⟩ ?_
  refine z_icmp_ne 46 M.1 (off := 27) (by decide +kernel) (by decide) (fun c19 => ?_) (fun c19 => ?_)
  · rw [if_neg c19] at K hs
    refine z_go2 M.1 46 [(.aload_n 0, 1), (.iload_n 3, 1), (.aload_n 1, 1), (.getfield 72, 3), (.iload_n 2, 1)] (53, [(3, .inl (zAt (S 4) 900 p2)), (0, z_r 28), (1, z_r 1), (2, .inl p2)], [.inl p2, z_r 5, .inl (zAt (S 4) 900 p2), z_r 28], zW T' G' S n, 0, 0) (by decide +kernel) rfl ⟨trivial, trivial, trivial, rfl, trivial, trivial⟩ ?_
    refine z_callS M.1 (av := [z_r 5, .inl p2]) (st := [.inl (zAt (S 4) 900 p2), z_r 28]) (by decide +kernel) (c_at (zW T' G' S n) 5 900 rfl (by decide) p2) M.2.1 zl_World_37 zs_T_at ⟨by decide, by decide, by decide, by decide⟩ rfl (Nat.le_of_ble_eq_true rfl) (fun v w' hv => ?_)
    obtain ⟨rfl, rfl⟩ := hv
    show z_G X zm_World_redo (56, [(3, .inl (zAt (S 4) 900 p2)), (0, z_r 28), (1, z_r 1), (2, .inl p2)], [.inl (zAt (S 5) 900 p2), .inl (zAt (S 4) 900 p2), z_r 28], zW T' G' S n, 0, 0)
    refine z_go2 M.1 56 [(.aload_n 1, 1), (.getfield 75, 3), (.iload_n 2, 1)] (61, [(3, .inl (zAt (S 4) 900 p2)), (0, z_r 28), (1, z_r 1), (2, .inl p2)], [.inl p2, z_r 6, .inl (zAt (S 5) 900 p2), .inl (zAt (S 4) 900 p2), z_r 28], zW T' G' S n, 0, 0) (by decide +kernel) rfl ⟨trivial, rfl, trivial, trivial⟩ ?_
    refine z_callS M.1 (av := [z_r 6, .inl p2]) (st := [.inl (zAt (S 5) 900 p2), .inl (zAt (S 4) 900 p2), z_r 28]) (by decide +kernel) (c_at (zW T' G' S n) 6 900 rfl (by decide) p2) M.2.1 zl_World_37 zs_T_at ⟨by decide, by decide, by decide, by decide⟩ rfl (Nat.le_of_ble_eq_true rfl) (fun v w' hv => ?_)
    obtain ⟨rfl, rfl⟩ := hv
    show z_G X zm_World_redo (64, [(3, .inl (zAt (S 4) 900 p2)), (0, z_r 28), (1, z_r 1), (2, .inl p2)], [.inl (zAt (S 6) 900 p2), .inl (zAt (S 5) 900 p2), .inl (zAt (S 4) 900 p2), z_r 28], zW T' G' S n, 0, 0)
    refine z_go2 M.1 64 [(.aload_n 1, 1), (.getfield 78, 3), (.iload_n 2, 1)] (69, [(3, .inl (zAt (S 4) 900 p2)), (0, z_r 28), (1, z_r 1), (2, .inl p2)], [.inl p2, z_r 8, .inl (zAt (S 6) 900 p2), .inl (zAt (S 5) 900 p2), .inl (zAt (S 4) 900 p2), z_r 28], zW T' G' S n, 0, 0) (by decide +kernel) rfl ⟨trivial, rfl, trivial, trivial⟩ ?_
    refine z_callS M.1 (av := [z_r 8, .inl p2]) (st := [.inl (zAt (S 6) 900 p2), .inl (zAt (S 5) 900 p2), .inl (zAt (S 4) 900 p2), z_r 28]) (by decide +kernel) (c_at (zW T' G' S n) 8 900 rfl (by decide) p2) M.2.1 zl_World_37 zs_T_at ⟨by decide, by decide, by decide, by decide⟩ rfl (Nat.le_of_ble_eq_true rfl) (fun v w' hv => ?_)
    obtain ⟨rfl, rfl⟩ := hv
    show z_G X zm_World_redo (72, [(3, .inl (zAt (S 4) 900 p2)), (0, z_r 28), (1, z_r 1), (2, .inl p2)], [.inl (zAt (S 8) 900 p2), .inl (zAt (S 6) 900 p2), .inl (zAt (S 5) 900 p2), .inl (zAt (S 4) 900 p2), z_r 28], zW T' G' S n, 0, 0)
    refine z_callV M.1 (av := [.inl (zAt (S 4) 900 p2), .inl (zAt (S 5) 900 p2), .inl (zAt (S 6) 900 p2), .inl (zAt (S 8) 900 p2)]) (st := []) (a := 28) (ci := 10) (by decide +kernel) (c_World_write_28 T' G' S n (zAt (S 4) 900 p2) (zAt (S 5) 900 p2) (zAt (S 6) 900 p2) (zAt (S 8) 900 p2) hs.1) M.2.1 zl_World_85 zv_World_write rfl rfl rfl ⟨by decide, by decide, by decide, by decide⟩ rfl (Nat.le_of_ble_eq_true rfl) (fun v w' hv => ?_)
    replace hs := hs.2
    obtain ⟨S72, hF72⟩ : ∃ y, F_World_write 28 S (zAt (S 4) 900 p2) (zAt (S 5) 900 p2) (zAt (S 6) 900 p2) (zAt (S 8) 900 p2) = y := ⟨_, rfl⟩
    rw [hF72] at K hv
    try dsimp only [z_let] at K
    obtain ⟨rfl, rfl⟩ := hv
    show z_G X zm_World_redo (75, [(3, .inl (zAt (S 4) 900 p2)), (0, z_r 28), (1, z_r 1), (2, .inl p2)], [], zW T' G' S72 n, 0, 0)
    exact z_vret M (by decide +kernel) rfl (by decide) (by decide) (hQ _ K)
  · rw [if_pos c19] at K hs
    refine z_go2 M.1 22 [(.aload_n 0, 1), (.iload_n 3, 1), (.aload_n 1, 1), (.getfield 75, 3), (.iload_n 2, 1)] (29, [(3, .inl (zAt (S 4) 900 p2)), (0, z_r 28), (1, z_r 1), (2, .inl p2)], [.inl p2, z_r 6, .inl (zAt (S 4) 900 p2), z_r 28], zW T' G' S n, 0, 0) (by decide +kernel) rfl ⟨trivial, trivial, trivial, rfl, trivial, trivial⟩ ?_
    refine z_callS M.1 (av := [z_r 6, .inl p2]) (st := [.inl (zAt (S 4) 900 p2), z_r 28]) (by decide +kernel) (c_at (zW T' G' S n) 6 900 rfl (by decide) p2) M.2.1 zl_World_37 zs_T_at ⟨by decide, by decide, by decide, by decide⟩ rfl (Nat.le_of_ble_eq_true rfl) (fun v w' hv => ?_)
    obtain ⟨rfl, rfl⟩ := hv
    show z_G X zm_World_redo (32, [(3, .inl (zAt (S 4) 900 p2)), (0, z_r 28), (1, z_r 1), (2, .inl p2)], [.inl (zAt (S 6) 900 p2), .inl (zAt (S 4) 900 p2), z_r 28], zW T' G' S n, 0, 0)
    refine z_go2 M.1 32 [(.aload_n 1, 1), (.getfield 78, 3), (.iload_n 2, 1)] (37, [(3, .inl (zAt (S 4) 900 p2)), (0, z_r 28), (1, z_r 1), (2, .inl p2)], [.inl p2, z_r 8, .inl (zAt (S 6) 900 p2), .inl (zAt (S 4) 900 p2), z_r 28], zW T' G' S n, 0, 0) (by decide +kernel) rfl ⟨trivial, rfl, trivial, trivial⟩ ?_
    refine z_callS M.1 (av := [z_r 8, .inl p2]) (st := [.inl (zAt (S 6) 900 p2), .inl (zAt (S 4) 900 p2), z_r 28]) (by decide +kernel) (c_at (zW T' G' S n) 8 900 rfl (by decide) p2) M.2.1 zl_World_37 zs_T_at ⟨by decide, by decide, by decide, by decide⟩ rfl (Nat.le_of_ble_eq_true rfl) (fun v w' hv => ?_)
    obtain ⟨rfl, rfl⟩ := hv
    show z_G X zm_World_redo (40, [(3, .inl (zAt (S 4) 900 p2)), (0, z_r 28), (1, z_r 1), (2, .inl p2)], [.inl (zAt (S 8) 900 p2), .inl (zAt (S 6) 900 p2), .inl (zAt (S 4) 900 p2), z_r 28], zW T' G' S n, 0, 0)
    refine z_callV M.1 (av := [.inl (zAt (S 4) 900 p2), .inl (zAt (S 6) 900 p2), .inl (zAt (S 8) 900 p2)]) (st := []) (a := 28) (ci := 10) (by decide +kernel) (c_World_begin_28 T' G' S n (zAt (S 4) 900 p2) (zAt (S 6) 900 p2) (zAt (S 8) 900 p2) hs.1) M.2.1 zl_World_81 zv_World_begin rfl rfl rfl ⟨by decide, by decide, by decide, by decide⟩ rfl (Nat.le_of_ble_eq_true rfl) (fun v w' hv => ?_)
    replace hs := hs.2
    obtain ⟨S40, hF40⟩ : ∃ y, F_World_begin 28 S (zAt (S 4) 900 p2) (zAt (S 6) 900 p2) (zAt (S 8) 900 p2) = y := ⟨_, rfl⟩
    rw [hF40] at K hv
    try dsimp only [z_let] at K
    obtain ⟨rfl, rfl⟩ := hv
    show z_G X zm_World_redo (43, [(3, .inl (zAt (S 4) 900 p2)), (0, z_r 28), (1, z_r 1), (2, .inl p2)], [], zW T' G' S40 n, 0, 0)
    refine z_go2 M.1 43 [(.goto 32, 3)] (75, [(3, .inl (zAt (S 4) 900 p2)), (0, z_r 28), (1, z_r 1), (2, .inl p2)], [], zW T' G' S40 n, 0, 0) (by decide +kernel) rfl ⟨trivial, trivial⟩ ?_
    exact z_vret M (by decide +kernel) rfl (by decide) (by decide) (hQ _ K)

-- TrackHouse$World.undo
abbrev rm_World_undo : Room := zr 2
def F_World_undo (r : Nat) (S : (Nat → Nat → Int32)) (p2 : Int32) : (Nat → Nat → Int32) := (if (zAt (S 5) 900 p2) = 13 then (z_uS S r 3 ((S r 3) &&& ((F_T_bit S (zAt (S 4) 900 p2)) ^^^ (-1)))) else (z_let (F_World_write r S (zAt (S 4) 900 p2) (zAt (S 5) 900 p2) (zAt (S 6) 900 p2) (zAt (S 7) 900 p2)) (fun S66 => S66)))
def Sf_World_undo (r : Nat) (S : (Nat → Nat → Int32)) (p2 : Int32) : Prop := (if (zAt (S 5) 900 p2) = 13 then True else (Sf_World_write r S (zAt (S 4) 900 p2) (zAt (S 5) 900 p2) (zAt (S 6) 900 p2) (zAt (S 7) 900 p2) ∧ True))
theorem c_World_undo_9 (T' : Nat → Nat × Nat) (G' : Nat → Nat → Option Nat) (S : (Nat → Nat → Int32)) (n : Nat) (p2 : Int32) (hs : Sf_World_undo 9 S p2) : z_Run rm_World_undo zm_World_undo [z_r 9, z_r 1, .inl p2] (zW T' G' S n) (zq none (zW T' G' (F_World_undo 9 S p2) n)) := by
  refine z_body (by decide) zf_World_ok (Nat.le_of_ble_eq_true rfl) (fun X M => ?_)
  obtain ⟨Q, hQ, K⟩ : ∃ Q : (Nat → Nat → Int32) → Prop, (∀ S', Q S' → zq none (zW T' G' (F_World_undo 9 S p2) n) none (zW T' G' S' n)) ∧ Q (F_World_undo 9 S p2) := ⟨fun o => F_World_undo 9 S p2 = o, fun S' h => ⟨rfl, by rw [h]⟩, rfl⟩
  show z_G X zm_World_undo (0, [(0, z_r 9), (1, z_r 1), (2, .inl p2)], [], zW T' G' S n, 0, 0)
  unfold F_World_undo at K
  unfold Sf_World_undo at hs
  try simp only [Nat.reduceAdd] at K hs
  refine z_go2 M.1 0 [(.aload_n 1, 1), (.getfield 67, 3), (.iload_n 2, 1)] (5, [(0, z_r 9), (1, z_r 1), (2, .inl p2)], [.inl p2, z_r 4], zW T' G' S n, 0, 0) (by decide +kernel) rfl ⟨trivial, rfl, trivial, trivial⟩ ?_
  refine z_callS M.1 (av := [z_r 4, .inl p2]) (st := []) (by decide +kernel) (c_at (zW T' G' S n) 4 900 rfl (by decide) p2) M.2.1 zl_World_37 zs_T_at ⟨by decide, by decide, by decide, by decide⟩ rfl (Nat.le_of_ble_eq_true rfl) (fun v w' hv => ?_)
  obtain ⟨rfl, rfl⟩ := hv
  show z_G X zm_World_undo (8, [(0, z_r 9), (1, z_r 1), (2, .inl p2)], [.inl (zAt (S 4) 900 p2)], zW T' G' S n, 0, 0)
  refine z_go2 M.1 8 [(.istore_n 3, 1), (.aload_n 1, 1), (.getfield 72, 3), (.iload_n 2, 1)] (14, [(3, .inl (zAt (S 4) 900 p2)), (0, z_r 9), (1, z_r 1), (2, .inl p2)], [.inl p2, z_r 5], zW T' G' S n, 0, 0) (by decide +kernel) rfl ⟨trivial, trivial, rfl, trivial, trivial⟩ ?_
  refine z_callS M.1 (av := [z_r 5, .inl p2]) (st := []) (by decide +kernel) (c_at (zW T' G' S n) 5 900 rfl (by decide) p2) M.2.1 zl_World_37 zs_T_at ⟨by decide, by decide, by decide, by decide⟩ rfl (Nat.le_of_ble_eq_true rfl) (fun v w' hv => ?_)
  obtain ⟨rfl, rfl⟩ := hv
  show z_G X zm_World_undo (17, [(3, .inl (zAt (S 4) 900 p2)), (0, z_r 9), (1, z_r 1), (2, .inl p2)], [.inl (zAt (S 5) 900 p2)], zW T' G' S n, 0, 0)
  refine z_go2 M.1 17 [(.bipush 13, 2)] (19, [(3, .inl (zAt (S 4) 900 p2)), (0, z_r 9), (1, z_r 1), (2, .inl p2)], [.inl 13, .inl (zAt (S 5) 900 p2)], zW T' G' S n, 0, 0) (by decide +kernel) rfl ⟨trivial, trivial⟩ ?_
  refine z_icmp_ne 40 M.1 (off := 21) (by decide +kernel) (by decide) (fun c19 => ?_) (fun c19 => ?_)
  · rw [if_neg c19] at K hs
    refine z_go2 M.1 40 [(.aload_n 0, 1), (.iload_n 3, 1), (.aload_n 1, 1), (.getfield 72, 3), (.iload_n 2, 1)] (47, [(3, .inl (zAt (S 4) 900 p2)), (0, z_r 9), (1, z_r 1), (2, .inl p2)], [.inl p2, z_r 5, .inl (zAt (S 4) 900 p2), z_r 9], zW T' G' S n, 0, 0) (by decide +kernel) rfl ⟨trivial, trivial, trivial, rfl, trivial, trivial⟩ ?_
    refine z_callS M.1 (av := [z_r 5, .inl p2]) (st := [.inl (zAt (S 4) 900 p2), z_r 9]) (by decide +kernel) (c_at (zW T' G' S n) 5 900 rfl (by decide) p2) M.2.1 zl_World_37 zs_T_at ⟨by decide, by decide, by decide, by decide⟩ rfl (Nat.le_of_ble_eq_true rfl) (fun v w' hv => ?_)
    obtain ⟨rfl, rfl⟩ := hv
    show z_G X zm_World_undo (50, [(3, .inl (zAt (S 4) 900 p2)), (0, z_r 9), (1, z_r 1), (2, .inl p2)], [.inl (zAt (S 5) 900 p2), .inl (zAt (S 4) 900 p2), z_r 9], zW T' G' S n, 0, 0)
    refine z_go2 M.1 50 [(.aload_n 1, 1), (.getfield 75, 3), (.iload_n 2, 1)] (55, [(3, .inl (zAt (S 4) 900 p2)), (0, z_r 9), (1, z_r 1), (2, .inl p2)], [.inl p2, z_r 6, .inl (zAt (S 5) 900 p2), .inl (zAt (S 4) 900 p2), z_r 9], zW T' G' S n, 0, 0) (by decide +kernel) rfl ⟨trivial, rfl, trivial, trivial⟩ ?_
    refine z_callS M.1 (av := [z_r 6, .inl p2]) (st := [.inl (zAt (S 5) 900 p2), .inl (zAt (S 4) 900 p2), z_r 9]) (by decide +kernel) (c_at (zW T' G' S n) 6 900 rfl (by decide) p2) M.2.1 zl_World_37 zs_T_at ⟨by decide, by decide, by decide, by decide⟩ rfl (Nat.le_of_ble_eq_true rfl) (fun v w' hv => ?_)
    obtain ⟨rfl, rfl⟩ := hv
    show z_G X zm_World_undo (58, [(3, .inl (zAt (S 4) 900 p2)), (0, z_r 9), (1, z_r 1), (2, .inl p2)], [.inl (zAt (S 6) 900 p2), .inl (zAt (S 5) 900 p2), .inl (zAt (S 4) 900 p2), z_r 9], zW T' G' S n, 0, 0)
    refine z_go2 M.1 58 [(.aload_n 1, 1), (.getfield 89, 3), (.iload_n 2, 1)] (63, [(3, .inl (zAt (S 4) 900 p2)), (0, z_r 9), (1, z_r 1), (2, .inl p2)], [.inl p2, z_r 7, .inl (zAt (S 6) 900 p2), .inl (zAt (S 5) 900 p2), .inl (zAt (S 4) 900 p2), z_r 9], zW T' G' S n, 0, 0) (by decide +kernel) rfl ⟨trivial, rfl, trivial, trivial⟩ ?_
    refine z_callS M.1 (av := [z_r 7, .inl p2]) (st := [.inl (zAt (S 6) 900 p2), .inl (zAt (S 5) 900 p2), .inl (zAt (S 4) 900 p2), z_r 9]) (by decide +kernel) (c_at (zW T' G' S n) 7 900 rfl (by decide) p2) M.2.1 zl_World_37 zs_T_at ⟨by decide, by decide, by decide, by decide⟩ rfl (Nat.le_of_ble_eq_true rfl) (fun v w' hv => ?_)
    obtain ⟨rfl, rfl⟩ := hv
    show z_G X zm_World_undo (66, [(3, .inl (zAt (S 4) 900 p2)), (0, z_r 9), (1, z_r 1), (2, .inl p2)], [.inl (zAt (S 7) 900 p2), .inl (zAt (S 6) 900 p2), .inl (zAt (S 5) 900 p2), .inl (zAt (S 4) 900 p2), z_r 9], zW T' G' S n, 0, 0)
    refine z_callV M.1 (av := [.inl (zAt (S 4) 900 p2), .inl (zAt (S 5) 900 p2), .inl (zAt (S 6) 900 p2), .inl (zAt (S 7) 900 p2)]) (st := []) (a := 9) (ci := 10) (by decide +kernel) (c_World_write_9 T' G' S n (zAt (S 4) 900 p2) (zAt (S 5) 900 p2) (zAt (S 6) 900 p2) (zAt (S 7) 900 p2) hs.1) M.2.1 zl_World_85 zv_World_write rfl rfl rfl ⟨by decide, by decide, by decide, by decide⟩ rfl (Nat.le_of_ble_eq_true rfl) (fun v w' hv => ?_)
    replace hs := hs.2
    obtain ⟨S66, hF66⟩ : ∃ y, F_World_write 9 S (zAt (S 4) 900 p2) (zAt (S 5) 900 p2) (zAt (S 6) 900 p2) (zAt (S 7) 900 p2) = y := ⟨_, rfl⟩
    rw [hF66] at K hv
    try dsimp only [z_let] at K
    obtain ⟨rfl, rfl⟩ := hv
    show z_G X zm_World_undo (69, [(3, .inl (zAt (S 4) 900 p2)), (0, z_r 9), (1, z_r 1), (2, .inl p2)], [], zW T' G' S66 n, 0, 0)
    exact z_vret M (by decide +kernel) rfl (by decide) (by decide) (hQ _ K)
  · rw [if_pos c19] at K hs
    refine z_go2 M.1 22 [(.aload_n 0, 1), (.dup, 1), (.getfield 21, 3), (.iload_n 3, 1)] (28, [(3, .inl (zAt (S 4) 900 p2)), (0, z_r 9), (1, z_r 1), (2, .inl p2)], [.inl (zAt (S 4) 900 p2), .inl (S 9 3), z_r 9], zW T' G' S n, 0, 0) (by decide +kernel) rfl ⟨trivial, rfl, rfl, trivial, trivial⟩ ?_
    refine z_callS M.1 (av := [.inl (zAt (S 4) 900 p2)]) (st := [.inl (S 9 3), z_r 9]) (by decide +kernel) (c_T_bit T' G' S n (zAt (S 4) 900 p2)) M.2.1 zl_World_49 zs_T_bit ⟨by decide, by decide, by decide, by decide⟩ rfl (Nat.le_of_ble_eq_true rfl) (fun v w' hv => ?_)
    obtain ⟨rfl, rfl⟩ := hv
    show z_G X zm_World_undo (31, [(3, .inl (zAt (S 4) 900 p2)), (0, z_r 9), (1, z_r 1), (2, .inl p2)], [.inl (F_T_bit S (zAt (S 4) 900 p2)), .inl (S 9 3), z_r 9], zW T' G' S n, 0, 0)
    refine z_go2 M.1 31 [(.iconst (-1), 1), (.ixor, 1), (.iand, 1), (.putfield 21, 3), (.goto 32, 3)] (69, [(3, .inl (zAt (S 4) 900 p2)), (0, z_r 9), (1, z_r 1), (2, .inl p2)], [], zW T' G' (z_uS S 9 3 ((S 9 3) &&& ((F_T_bit S (zAt (S 4) 900 p2)) ^^^ (-1)))) n, 0, 0) (by decide +kernel) rfl ⟨trivial, trivial, trivial, ⟨rfl, trivial⟩, trivial, trivial⟩ ?_
    exact z_vret M (by decide +kernel) rfl (by decide) (by decide) (hQ _ K)


-- TrackHouse$World.copyFrom
abbrev rm_World_copyFrom : Room := zr 3
def F_World_copyFrom (r : Nat) (o : Nat) (S : (Nat → Nat → Int32)) : (Nat → Nat → Int32) := (z_let (zCopy S (o + 1) (r + 1) 0 0 300) (fun S13 => (z_let (zCopy S13 (o + 2) (r + 2) 0 0 90) (fun S28 => (z_let (zCopy S28 (o + 3) (r + 3) 0 0 24) (fun S43 => (z_uS S43 r 3 (S43 o 3))))))))
theorem c_World_copyFrom_13_9 (T' : Nat → Nat × Nat) (G' : Nat → Nat → Option Nat) (S : (Nat → Nat → Int32)) (n : Nat) : z_Run rm_World_copyFrom zm_World_copyFrom [z_r 13, z_r 9] (zW T' G' S n) (zq none (zW T' G' (F_World_copyFrom 13 9 S) n)) := by
  refine z_body (by decide) zf_World_ok (Nat.le_of_ble_eq_true rfl) (fun X M => ?_)
  obtain ⟨Q, hQ, K⟩ : ∃ Q : (Nat → Nat → Int32) → Prop, (∀ S', Q S' → zq none (zW T' G' (F_World_copyFrom 13 9 S) n) none (zW T' G' S' n)) ∧ Q (F_World_copyFrom 13 9 S) := ⟨fun o => F_World_copyFrom 13 9 S = o, fun S' h => ⟨rfl, by rw [h]⟩, rfl⟩
  show z_G X zm_World_copyFrom (0, [(0, z_r 13), (1, z_r 9)], [], zW T' G' S n, 0, 0)
  unfold F_World_copyFrom at K
  try simp only [Nat.reduceAdd] at K
  refine z_go2 M.1 0 [(.aload_n 1, 1), (.getfield 9, 3), (.iconst 0, 1), (.aload_n 0, 1), (.getfield 9, 3), (.iconst 0, 1), (.sipush 300, 3)] (13, [(0, z_r 13), (1, z_r 9)], [.inl 300, .inl 0, z_r 14, .inl 0, z_r 10], zW T' G' S n, 0, 0) (by decide +kernel) rfl ⟨trivial, rfl, trivial, trivial, rfl, trivial, trivial, trivial⟩ ?_
  refine z_copy M.1 (idx := 92) (st := []) (by decide +kernel) M.2.1 (z_wi 850 (by decide +kernel) rfl) (z_wi 852 (by decide +kernel) rfl) (z_wi 851 (by decide +kernel) rfl) (z_wi 99 (by decide +kernel) rfl) rfl rfl (by decide) (by decide) (by decide) (by decide) (by decide) (by decide) (by decide +kernel) (Nat.le_of_ble_eq_true rfl) ?_
  show z_G X zm_World_copyFrom (16, [(0, z_r 13), (1, z_r 9)], [], zW T' G' (zCopy S 10 14 0 0 300) n, 0, 0)
  obtain ⟨S13, hF13⟩ : ∃ y, zCopy S 10 14 0 0 300 = y := ⟨_, rfl⟩
  rw [hF13] at K ⊢
  try dsimp only [z_let] at K
  refine z_go2 M.1 16 [(.aload_n 1, 1), (.getfield 15, 3), (.iconst 0, 1), (.aload_n 0, 1), (.getfield 15, 3), (.iconst 0, 1), (.bipush 90, 2)] (28, [(0, z_r 13), (1, z_r 9)], [.inl 90, .inl 0, z_r 15, .inl 0, z_r 11], zW T' G' S13 n, 0, 0) (by decide +kernel) rfl ⟨trivial, rfl, trivial, trivial, rfl, trivial, trivial, trivial⟩ ?_
  refine z_copy M.1 (idx := 92) (st := []) (by decide +kernel) M.2.1 (z_wi 850 (by decide +kernel) rfl) (z_wi 852 (by decide +kernel) rfl) (z_wi 851 (by decide +kernel) rfl) (z_wi 99 (by decide +kernel) rfl) rfl rfl (by decide) (by decide) (by decide) (by decide) (by decide) (by decide) (by decide +kernel) (Nat.le_of_ble_eq_true rfl) ?_
  show z_G X zm_World_copyFrom (31, [(0, z_r 13), (1, z_r 9)], [], zW T' G' (zCopy S13 11 15 0 0 90) n, 0, 0)
  obtain ⟨S28, hF28⟩ : ∃ y, zCopy S13 11 15 0 0 90 = y := ⟨_, rfl⟩
  rw [hF28] at K ⊢
  try dsimp only [z_let] at K
  refine z_go2 M.1 31 [(.aload_n 1, 1), (.getfield 18, 3), (.iconst 0, 1), (.aload_n 0, 1), (.getfield 18, 3), (.iconst 0, 1), (.bipush 24, 2)] (43, [(0, z_r 13), (1, z_r 9)], [.inl 24, .inl 0, z_r 16, .inl 0, z_r 12], zW T' G' S28 n, 0, 0) (by decide +kernel) rfl ⟨trivial, rfl, trivial, trivial, rfl, trivial, trivial, trivial⟩ ?_
  refine z_copy M.1 (idx := 92) (st := []) (by decide +kernel) M.2.1 (z_wi 850 (by decide +kernel) rfl) (z_wi 852 (by decide +kernel) rfl) (z_wi 851 (by decide +kernel) rfl) (z_wi 99 (by decide +kernel) rfl) rfl rfl (by decide) (by decide) (by decide) (by decide) (by decide) (by decide) (by decide +kernel) (Nat.le_of_ble_eq_true rfl) ?_
  show z_G X zm_World_copyFrom (46, [(0, z_r 13), (1, z_r 9)], [], zW T' G' (zCopy S28 12 16 0 0 24) n, 0, 0)
  obtain ⟨S43, hF43⟩ : ∃ y, zCopy S28 12 16 0 0 24 = y := ⟨_, rfl⟩
  rw [hF43] at K ⊢
  try dsimp only [z_let] at K
  refine z_go2 M.1 46 [(.aload_n 0, 1), (.aload_n 1, 1), (.getfield 21, 3), (.putfield 21, 3)] (54, [(0, z_r 13), (1, z_r 9)], [], zW T' G' (z_uS S43 13 3 (S43 9 3)) n, 0, 0) (by decide +kernel) rfl ⟨trivial, trivial, rfl, ⟨rfl, trivial⟩, trivial⟩ ?_
  exact z_vret M (by decide +kernel) rfl (by decide) (by decide) (hQ _ K)

