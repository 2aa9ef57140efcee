/-! PURE: queries: the class finds -/
theorem holds_I {E V : Nat → Nat → Int32} {p : Nat} {L : zLg} {Q : zVq} {D : Int32} (h : zFd E V p L Q D) {j i : Nat} (hj : j < 30) (hi : i < 30) (hne : V 21 j ≠ 102) : Sf_Finder_holds V (zI j) (zI i) ∧ (Q.1.1 i = true → F_Finder_holds V (zI j) (zI i) = bI (kLe E p L Q D (V 21 j) (V 22 j) (V 23 j) (V 24 j) i)) ∧ (F_Finder_holds V (zI j) (zI i) = 0 ∨ F_Finder_holds V (zI j) (zI i) = 1) := by
  have z21 : zAt (V 21) 30 (zI j) = V 21 j := zAt_I hj (by omega)
  have z22 : zAt (V 22) 30 (zI j) = V 22 j := zAt_I hj (by omega)
  have z23 : zAt (V 23) 30 (zI j) = V 23 j := zAt_I hj (by omega)
  have i34 : zAt (V 34) 30 (zI i) = V 34 i := zAt_I hi (by omega)
  have i35 : zAt (V 35) 30 (zI i) = V 35 i := zAt_I hi (by omega)
  have i32 : zAt (V 32) 30 (zI i) = V 32 i := zAt_I hi (by omega)
  obtain ⟨g4, s4⟩ := h.1.1.cell hi (show 4 < 10 by omega)
  obtain ⟨g9, s9⟩ := h.1.1.cell hi (show 9 < 10 by omega)
  obtain ⟨g8, s8⟩ := h.1.1.cell hi (show 8 < 10 by omega)
  obtain ⟨g0, s0⟩ := h.1.1.cell hi (show 0 < 10 by omega)
  obtain ⟨g7, s7⟩ := h.1.1.cell hi (show 7 < 10 by omega)
  change F_World_cell 28 V (zI i) 4 = _ at g4
  change F_World_cell 28 V (zI i) 9 = _ at g9
  change F_World_cell 28 V (zI i) 8 = _ at g8
  change F_World_cell 28 V (zI i) 0 = _ at g0
  change F_World_cell 28 V (zI i) 7 = _ at g7
  have bd : ∀ (P : Prop) [Decidable P], (if P then (1 : Int32) else 0) = bI (decide P) ∧ ((if P then (1 : Int32) else 0) = 0 ∨ (if P then (1 : Int32) else 0) = 1) := fun P _ => by
    by_cases q : P
    · rw [if_pos q, decide_eq_true q]; exact ⟨rfl, Or.inr rfl⟩
    · rw [if_neg q, decide_eq_false q]; exact ⟨rfl, Or.inl rfl⟩
  unfold Sf_Finder_holds F_Finder_holds kLe
  rw [z21, z22, z23, i34, i35, i32, g4, g9, g8, g0, g7, h.2.2.2.2.2]
  generalize hc : V 21 j = c at *
  by_cases c66 : c = 66
  · simp only [if_pos c66]
    refine ⟨trivial, fun hw => ?_, (bd _).2⟩
    rw [(h.1.2 i hi hw).2.2.1]; exact (bd _).1
  by_cases c68 : c = 68
  · simp only [if_neg c66, if_pos c68]
    refine ⟨trivial, fun hw => ?_, ?_⟩
    · rw [(h.1.2 i hi hw).2.2.2]
      by_cases q : D - (10 * V 22 j + V 23 j) ≤ qDay L Q i
      · rw [decide_eq_true q, if_neg (by rw [T_lt]; rw [T_le] at q; omega)]; rfl
      · rw [decide_eq_false q, if_pos (by rw [T_lt]; rw [T_le] at q; omega)]; rfl
    · split
      · exact Or.inl rfl
      · exact Or.inr rfl
  by_cases c87 : c = 87
  · simp only [if_neg c66, if_neg c68, if_pos c87]
    refine ⟨⟨nar01 (T_isIn_01 _ _ _), trivial⟩, fun hw => ?_, T_isIn_01 _ _ _⟩
    unfold kWas
    by_cases q : 0 ≤ (V 22 j).toInt ∧ (V 22 j).toInt < 31
    · obtain ⟨s, hs, es⟩ := zI_ex (n := 31) q.1 (by omega) (by omega)
      rw [decide_eq_true q, es, zI_clamp (by omega), T_isIn_I V hs, (h.1.2 i hi hw).1 s hs]; rfl
    · rw [decide_eq_false q, T_isIn_out V (by omega)]; rfl
  by_cases c88 : c = 88
  · simp only [if_neg c66, if_neg c68, if_neg c87, if_pos c88]
    have e1 : F_View_cameFrom V (zI i) (V 22 j) (V 23 j) = 0 ∨ F_View_cameFrom V (zI i) (V 22 j) (V 23 j) = 1 := by
      unfold F_View_cameFrom
      split
      · exact Or.inl rfl
      · split
        · exact Or.inl rfl
        · exact Or.inr rfl
    refine ⟨⟨nar01 e1, trivial⟩, fun hw => ?_, e1⟩
    unfold F_View_cameFrom kCam
    rw [T_isState_eq]
    by_cases q : 0 ≤ (V 22 j).toInt ∧ (V 22 j).toInt < 6
    · obtain ⟨fr, hf, ef⟩ := zI_ex (n := 6) q.1 (by omega) (by omega)
      rw [if_pos q, decide_eq_true q, if_neg ne_10, ef, show (6 : Int32) = zI 6 from rfl, zI_mul, zI_add, zAt_I (by omega) (by omega), zI_clamp (show fr < 2147483648 by omega), show i * 6 + fr = 6 * i + fr by omega]
      by_cases q2 : 0 ≤ (V 23 j).toInt ∧ (V 23 j).toInt < 31
      · obtain ⟨s, hs, es⟩ := zI_ex (n := 31) q2.1 (by omega) (by omega)
        rw [decide_eq_true q2, es, zI_clamp (by omega), T_isIn_I V hs, (h.1.2 i hi hw).2.1 fr hf s hs]
        cases qCam L Q i fr s <;> rfl
      · rw [decide_eq_false q2, T_isIn_out V (by omega)]; rfl
    · rw [if_neg q, decide_eq_false q]; rfl
  by_cases c97 : c = 97
  · simp only [if_neg c66, if_neg c68, if_neg c87, if_neg c88, if_pos c97]
    exact ⟨⟨s4, trivial⟩, fun _ => (bd _).1, (bd _).2⟩
  by_cases c107 : c = 107
  · simp only [if_neg c66, if_neg c68, if_neg c87, if_neg c88, if_neg c97, if_neg hne, if_pos c107]
    exact ⟨⟨s9, trivial⟩, fun _ => (bd _).1, (bd _).2⟩
  by_cases c112 : c = 112
  · simp only [if_neg c66, if_neg c68, if_neg c87, if_neg c88, if_neg c97, if_neg hne, if_neg c107, if_pos c112]
    exact ⟨⟨s8, trivial⟩, fun _ => (bd _).1, (bd _).2⟩
  by_cases c115 : c = 115
  · simp only [if_neg c66, if_neg c68, if_neg c87, if_neg c88, if_neg c97, if_neg hne, if_neg c107, if_neg c112, if_pos c115]
    exact ⟨⟨s0, trivial⟩, fun _ => (bd _).1, (bd _).2⟩
  by_cases c118 : c = 118
  · simp only [if_neg c66, if_neg c68, if_neg c87, if_neg c88, if_neg c97, if_neg hne, if_neg c107, if_neg c112, if_neg c115, if_pos c118]
    exact ⟨⟨s7, trivial⟩, fun _ => (bd _).1, (bd _).2⟩
  by_cases c120 : c = 120
  · simp only [if_neg c66, if_neg c68, if_neg c87, if_neg c88, if_neg c97, if_neg hne, if_neg c107, if_neg c112, if_neg c115, if_neg c118, if_pos c120]
    exact ⟨⟨s4, trivial⟩, fun _ => (bd _).1, (bd _).2⟩
  · simp only [if_neg c66, if_neg c68, if_neg c87, if_neg c88, if_neg c97, if_neg hne, if_neg c107, if_neg c112, if_neg c115, if_neg c118, if_neg c120]
    exact ⟨trivial, fun _ => rfl, Or.inl trivial⟩
theorem comps_I {E V : Nat → Nat → Int32} {p : Nat} {L : zLg} {Q : zVq} {D : Int32} (h : zFd E V p L Q D) {j i : Nat} (hj : j < 30) (hi : i < 30) (hc : V 21 j = 102) (hf : (∃ f, f < 4 ∧ V 22 j = zI f) ∧ V 24 j ≠ -1) : Sf_Finder_compares 28 V (zI j) (zI i) ∧ F_Finder_compares 28 V (zI j) (zI i) = bI (kLe E p L Q D (V 21 j) (V 22 j) (V 23 j) (V 24 j) i) := by
  have z22 : zAt (V 22) 30 (zI j) = V 22 j := zAt_I hj (by omega)
  have z23 : zAt (V 23) 30 (zI j) = V 23 j := zAt_I hj (by omega)
  have z24 : zAt (V 24) 30 (zI j) = V 24 j := zAt_I hj (by omega)
  obtain ⟨⟨f, hf4, ef⟩, hn⟩ := hf
  obtain ⟨v1, v2⟩ := Sight_value_I h.2.2.1 h.2.2.2.1 h.2.1 h.1.1 h.2.2.2.2.1 hi hf4
  unfold Sf_Finder_compares F_Finder_compares F_Finder_compares_j104 F_Finder_compares_j87 kLe
  rw [z22, z23, z24, ef, v1, hc, zI_clamp (show f < 2147483648 by omega)]
  refine ⟨⟨v2, trivial⟩, ?_⟩
  rw [if_neg (show ¬ (102 : Int32) = 66 by decide), if_neg (show ¬ (102 : Int32) = 68 by decide), if_neg (show ¬ (102 : Int32) = 87 by decide), if_neg (show ¬ (102 : Int32) = 88 by decide), if_neg (show ¬ (102 : Int32) = 97 by decide), if_pos (show (102 : Int32) = 102 from rfl)]
  unfold kCmp
  generalize vVal E Q.1 p i f = v
  by_cases b60 : V 23 j = 60
  · rw [if_pos b60, if_neg (show ¬ V 23 j = 62 by rw [b60]; decide), if_pos b60]
    by_cases q : v = -1
    · rw [if_pos q, decide_eq_true q]; rfl
    · rw [if_neg q, decide_eq_false q]
      by_cases q2 : V 24 j ≤ v
      · rw [if_pos q2, decide_eq_false (by rw [T_lt]; rw [T_le] at q2; omega)]; rfl
      · rw [if_neg q2, decide_eq_true (by rw [T_lt]; rw [T_le] at q2; omega)]; rfl
  by_cases b61 : V 23 j = 61
  · rw [if_neg b60, if_pos b61, if_neg (show ¬ V 23 j = 62 by rw [b61]; decide), if_neg b60, if_pos b61]
    by_cases q : v = V 24 j
    · rw [if_pos q, decide_eq_true q, decide_eq_false (by rw [q]; exact hn)]; rfl
    · rw [if_neg q, decide_eq_false q]; simp [bI]
  by_cases b62 : V 23 j = 62
  · rw [if_neg b60, if_neg b61, if_pos b62, if_pos b62]
    by_cases q : v = -1
    · rw [if_pos q, decide_eq_true q]; rfl
    · rw [if_neg q, decide_eq_false q]
      by_cases q2 : v ≤ V 24 j
      · rw [if_pos q2, decide_eq_false (by rw [T_lt]; rw [T_le] at q2; omega)]; rfl
      · rw [if_neg q2, decide_eq_true (by rw [T_lt]; rw [T_le] at q2; omega)]; rfl
  · rw [if_neg b60, if_neg b61, if_neg b62, if_neg b62, if_neg b60, if_neg b61]
    by_cases q : v = -1
    · rw [if_pos q, decide_eq_true q]; rfl
    · rw [if_neg q, decide_eq_false q]; rfl
theorem leaves_L {E V : Nat → Nat → Int32} {p : Nat} {L : zLg} {Q : zVq} {D : Int32} (h : zFd E V p L Q D) {j : Nat} (hj : j < 30) (hf : V 21 j = 102 → (∃ f, f < 4 ∧ V 22 j = zI f) ∧ V 24 j ≠ -1) : ∀ (n i f : Nat) (x : Int32), i + n = 30 → n < f → (∀ q, q < 30 → Q.1.1 q = true → zB (F_Finder_leaves_L4 28 V (zI j) f x (zI i)) q = (zB x q || (decide (i ≤ q) && kLe E p L Q D (V 21 j) (V 22 j) (V 23 j) (V 24 j) q))) ∧ Sf_Finder_leaves_L4 28 V (zI j) f x (zI i) := by
  have z21 : zAt (V 21) 30 (zI j) = V 21 j := zAt_I hj (by omega)
  intro n
  induction n with
  | zero =>
    intro i f x hi hf'
    obtain ⟨f, rfl⟩ : ∃ g, f = g + 1 := ⟨f - 1, by omega⟩
    have hl : (30 : Int32) ≤ zI i := by rw [show (30 : Int32) = zI 30 from rfl, zI_le (by omega) (by omega)]; omega
    unfold F_Finder_leaves_L4 Sf_Finder_leaves_L4
    rw [if_pos hl, if_pos hl]
    exact ⟨fun q hq _ => by rw [decide_eq_false (show ¬ i ≤ q by omega)]; simp, trivial⟩
  | succ n ih =>
    intro i f x hi hf'
    obtain ⟨f, rfl⟩ : ∃ g, f = g + 1 := ⟨f - 1, by omega⟩
    have hi30 : i < 30 := by omega
    have hl : ¬ (30 : Int32) ≤ zI i := by rw [show (30 : Int32) = zI 30 from rfl, zI_le (by omega) (by omega)]; omega
    have go : ∀ b : Bool, (Q.1.1 i = true → b = kLe E p L Q D (V 21 j) (V 22 j) (V 23 j) (V 24 j) i) → ∀ y : Int32, (y = if b = true then x ||| F_T_bit V (zI i) else x ||| 0) → (∀ q, q < 30 → Q.1.1 q = true → zB (F_Finder_leaves_L4 28 V (zI j) f y (zI i + 1)) q = (zB x q || (decide (i ≤ q) && kLe E p L Q D (V 21 j) (V 22 j) (V 23 j) (V 24 j) q))) ∧ Sf_Finder_leaves_L4 28 V (zI j) f y (zI i + 1) := by
      intro b hb y hy
      obtain ⟨g1, g2⟩ := ih (i + 1) f y (by omega) (by omega)
      rw [zI_succ]
      refine ⟨fun q hq hw => ?_, g2⟩
      rw [g1 q hq hw]
      have ey : zB y q = (zB x q || (b && decide (q = i))) := by
        rw [hy]
        cases b
        · rw [if_neg (by simp), zB_or, zB_0]; simp
        · rw [if_pos rfl, zB_or, T_bit_B V (by omega) (by omega)]; simp
      rw [ey]
      by_cases e : q = i
      · subst e
        rw [hb hw, decide_eq_true rfl, decide_eq_true (Nat.le_refl q), decide_eq_false (show ¬ q + 1 ≤ q by omega)]; simp
      · by_cases e2 : i ≤ q
        · rw [decide_eq_false e, decide_eq_true e2, decide_eq_true (show i + 1 ≤ q by omega)]; simp
        · rw [decide_eq_false e, decide_eq_false e2, decide_eq_false (show ¬ i + 1 ≤ q by omega)]; simp
    unfold F_Finder_leaves_L4 Sf_Finder_leaves_L4
    rw [if_neg hl, if_neg hl, z21]
    by_cases c : V 21 j = 102
    · rw [if_pos c, if_pos c]
      obtain ⟨c1, c2⟩ := comps_I h hj hi30 c (hf c)
      unfold F_Finder_leaves_l4_41 Sf_Finder_leaves_l4_41
      rw [c2]
      have G := go _ (fun _ => rfl)
      cases q : kLe E p L Q D (V 21 j) (V 22 j) (V 23 j) (V 24 j) i
      · rw [q] at G
        obtain ⟨g1, g2⟩ := G (x ||| 0) rfl
        rw [if_pos (show bI false = 0 from rfl), if_pos (show bI false = 0 from rfl)]
        exact ⟨g1, c1, g2⟩
      · rw [q] at G
        obtain ⟨g1, g2⟩ := G (x ||| F_T_bit V (zI i)) rfl
        rw [if_neg (show ¬ bI true = 0 by decide), if_neg (show ¬ bI true = 0 by decide)]
        exact ⟨g1, c1, g2⟩
    · rw [if_neg c, if_neg c]
      obtain ⟨c1, c2, c3⟩ := holds_I h hj hi30 c
      rcases c3 with c3 | c3
      · rw [if_pos c3, if_pos c3]
        obtain ⟨g1, g2⟩ := go false (fun hw => by
          have := c2 hw
          rw [c3] at this
          cases q : kLe E p L Q D (V 21 j) (V 22 j) (V 23 j) (V 24 j) i
          · rfl
          · rw [q] at this; exact absurd this (by decide)) (x ||| 0) rfl
        exact ⟨g1, c1, g2⟩
      · have n0 : ¬ F_Finder_holds V (zI j) (zI i) = 0 := by rw [c3]; decide
        rw [if_neg n0, if_neg n0]
        obtain ⟨g1, g2⟩ := go true (fun hw => by
          have := c2 hw
          rw [c3] at this
          cases q : kLe E p L Q D (V 21 j) (V 22 j) (V 23 j) (V 24 j) i
          · rw [q] at this; exact absurd this (by decide)
          · rfl) (x ||| F_T_bit V (zI i)) rfl
        exact ⟨g1, c1, g2⟩
theorem leaves_I {E V : Nat → Nat → Int32} {p : Nat} {L : zLg} {Q : zVq} {D : Int32} (h : zFd E V p L Q D) {j : Nat} (hj : j < 30) (hf : V 21 j = 102 → (∃ f, f < 4 ∧ V 22 j = zI f) ∧ V 24 j ≠ -1) : bS (F_Finder_leaves 28 V (zI j)) ((kK E p L Q D).1 (V 21 j) (V 22 j) (V 23 j) (V 24 j)) ∧ Sf_Finder_leaves 28 V (zI j) := by
  obtain ⟨g1, g2⟩ := leaves_L h hj hf 30 0 1300 0 (by omega) (by omega)
  rw [zI_0] at g1 g2
  unfold F_Finder_leaves Sf_Finder_leaves
  refine ⟨fun q hq => ?_, g2, trivial⟩
  show zB (F_Finder_leaves_L4 28 V (zI j) 1300 0 0 &&& V 28 3) q = (kTh Q.1 q && _)
  rw [zB_and, th_bit h.1.1, Bool.and_comm]
  by_cases hq30 : q < 30
  · cases hw : Q.1.1 q
    · unfold kTh; rw [hw]; simp
    · rw [g1 q hq30 hw, zB_0, decide_eq_true (Nat.zero_le q)]; simp
  · unfold kTh; rw [decide_eq_false hq30]; rfl
/-- the sets, from the top -/
def stk (V : Nat → Nat → Int32) (w : zWd) : List (Nat → Bool) → Prop
  | [] => True
  | m :: s => bS (V 18 s.length) m ∧ mk w m ∧ stk V w s
theorem stk.put {V : Nat → Nat → Int32} {w : zWd} {x : Int32} {i : Nat} : ∀ s : List (Nat → Bool), stk V w s → s.length ≤ i → stk (z_uS V 18 i x) w s := by
  intro s
  induction s with
  | nil => intro _ _; trivial
  | cons m s ih =>
    intro h hi
    have hl : s.length + 1 ≤ i := hi
    exact ⟨by rw [uS_nj _ _ _ (by omega)]; exact h.1, h.2.1, ih h.2.2 (by omega)⟩
theorem mk_lf {E : Nat → Nat → Int32} {p : Nat} {L : zLg} {Q : zVq} {D : Int32} (c a b g : Int32) : mk Q.1 ((kK E p L Q D).1 c a b g) := fun q h => (Bool.and_eq_true _ _ ▸ h : _ ∧ _).1
theorem mk_rl {E : Nat → Nat → Int32} {p : Nat} {w : zWd} (c ty : Int32) (m : Nat → Bool) : mk w (kRl E p w c ty m) := fun q h => by
  unfold kRl at h; rw [Bool.and_eq_true] at h; exact h.1
theorem mk_cb {w : zWd} {c : Int32} {m m2 : Nat → Bool} (h1 : mk w m) (h2 : mk w m2) : mk w (kCb c m m2) := fun q h => by
  unfold kCb at h
  split at h
  · rw [Bool.and_eq_true] at h; exact h1 q h.1
  · rw [Bool.or_eq_true] at h
    rcases h with h | h
    · exact h1 q h
    · exact h2 q h
theorem xRun_none (K : zKm) (T : Nat → Nat → Int32) : ∀ n j, xRun K T n j none = none := by
  intro n
  induction n with
  | zero => intro j; rfl
  | succ n ih => intro j; exact ih (j + 1)
theorem zFd.put {E V : Nat → Nat → Int32} {p : Nat} {L : zLg} {Q : zVq} {D : Int32} (h : zFd E V p L Q D) (i : Nat) (x : Int32) : zFd E (z_uS V 18 i x) p L Q D := by
  have e : ∀ k, k ≠ 18 → z_uS V 18 i x k = V k := fun k hk => z_uS_ne _ _ _ hk
  refine ⟨h.1.ag fun k a b => e k (by omega), ?_, fun k hk => by rw [e k (by omega)]; exact h.2.2.1 k hk, h.2.2.2.1, h.2.2.2.2.1, by rw [e 27 (by omega)]; exact h.2.2.2.2.2⟩
  unfold zSt
  rw [e 36 (by omega), e 41 (by omega), e 42 (by omega)]
  exact h.2.1
theorem isOne_I (S : Nat → Nat → Int32) (c : Int32) : (isUn c → F_Finder_isOfOne S c = 1) ∧ (¬ isUn c → F_Finder_isOfOne S c = 0) := by
  unfold F_Finder_isOfOne isUn
  constructor
  · rintro (e | e | e | e | e) <;> subst e <;> simp (decide := true) only [if_true, if_false]
  · intro h
    rw [if_neg (fun e => h (Or.inl e)), if_neg (fun e => h (Or.inr (Or.inl e))), if_neg (fun e => h (Or.inr (Or.inr (Or.inl e)))), if_neg (fun e => h (Or.inr (Or.inr (Or.inr (Or.inl e))))), if_neg (fun e => h (Or.inr (Or.inr (Or.inr (Or.inr e)))))]
theorem hits_L {E : Nat → Nat → Int32} {p : Nat} {L : zLg} {Q : zVq} {D : Int32} {z : Nat} (hz : z ≤ 30) : ∀ (n j f : Nat) (V : Nat → Nat → Int32) (st st' : List (Nat → Bool)), j + n = z → n < f → zFd E V p L Q D → V 19 8 = zI z → sOk V 0 z → st.length ≤ j → stk V Q.1 st → xRun (kK E p L Q D) V n j (some st) = some st' → ∃ W, F_Finder_hits_L4 28 f V (zI st.length) (zI j) = W ∧ Sf_Finder_hits_L4 28 f V (zI st.length) (zI j) ∧ stk W Q.1 st' ∧ ∀ k, k ≠ 18 → W k = V k := by
  intro n
  induction n with
  | zero =>
    intro j f V st st' hj hf hV h8 hO hl hs hr
    obtain ⟨f, rfl⟩ : ∃ g, f = g + 1 := ⟨f - 1, by omega⟩
    have hle : V 19 8 ≤ zI j := by rw [h8, zI_le (by omega) (by omega)]; omega
    cases hr
    unfold F_Finder_hits_L4 Sf_Finder_hits_L4
    rw [if_pos hle, if_pos hle]
    exact ⟨V, rfl, trivial, hs, fun _ _ => rfl⟩
  | succ n ih =>
    intro j f V st st' hj hf hV h8 hO hl hs hr
    obtain ⟨f, rfl⟩ : ∃ g, f = g + 1 := ⟨f - 1, by omega⟩
    have hj30 : j < 30 := by omega
    have hle : ¬ V 19 8 ≤ zI j := by rw [h8, zI_le (by omega) (by omega)]; omega
    have z21 : zAt (V 21) 30 (zI j) = V 21 j := zAt_I hj30 (by omega)
    have z22 : zAt (V 22) 30 (zI j) = V 22 j := zAt_I hj30 (by omega)
    have hr' : xRun (kK E p L Q D) V n (j + 1) (xStep (kK E p L Q D) (V 21 j) (V 22 j) (V 23 j) (V 24 j) st) = some st' := hr
    -- one step, then the rest
    have go : ∀ (x : Int32) (m : Nat → Bool) (s : List (Nat → Bool)), bS x m → mk Q.1 m → stk V Q.1 s → s.length ≤ j → xRun (kK E p L Q D) V n (j + 1) (some (m :: s)) = some st' → ∃ W, F_Finder_hits_L4 28 f (z_uS V 18 s.length x) (zI (s.length + 1)) (zI j + 1) = W ∧ Sf_Finder_hits_L4 28 f (z_uS V 18 s.length x) (zI (s.length + 1)) (zI j + 1) ∧ stk W Q.1 st' ∧ ∀ k, k ≠ 18 → W k = V k := by
      intro x m s h1 h2 h3 h4 h5
      have en : ∀ k, k ≠ 18 → z_uS V 18 s.length x k = V k := fun k hk => z_uS_ne _ _ _ hk
      rw [zI_succ]
      obtain ⟨W, w1, w2, w3, w4⟩ := ih (j + 1) f (z_uS V 18 s.length x) (m :: s) st' (by omega) (by omega) (hV.put _ _) (by rw [en 19 (by omega)]; exact h8) (hO.eq fun k hk i _ => by rw [en k (by omega)]) (by show s.length + 1 ≤ j + 1; omega) ⟨by rw [uS_at]; exact h1, h2, h3.put s (Nat.le_refl _)⟩ (by rw [xRun_eq (kK E p L Q D) (T := V) _ _ _ fun k hk i _ _ => by rw [en k (by omega)]]; exact h5)
      exact ⟨W, w1, w2, w3, fun k hk => by rw [w4 k hk, en k hk]⟩
    unfold F_Finder_hits_L4 Sf_Finder_hits_L4
    rw [if_neg hle, if_neg hle, z21]
    unfold xStep at hr'
    by_cases hb : V 21 j = 38 ∨ V 21 j = 124
    · rw [if_pos hb] at hr'
      match st, hl, hs, hr' with
      | [], hl, hs, hr' => rw [xRun_none] at hr'; cases hr'
      | [m], hl, hs, hr' => rw [xRun_none] at hr'; cases hr'
      | r :: l :: s, hl, hs, hr' =>
        have hl' : s.length + 2 ≤ j := hl
        obtain ⟨h1, h2, h3, h4, h5⟩ := hs
        have hlen : ((r :: l :: s : List (Nat → Bool)).length) = s.length + 2 := rfl
        have e1 : zI (s.length + 2) + (-1) = zI (s.length + 1) := by
          rw [show zI (s.length + 2) = zI (s.length + 1) + 1 from zI_succ.symm, Int32.add_assoc, show (1 : Int32) + (-1) = 0 by decide, Int32.add_zero]
        have e2 : zI (s.length + 1) - 1 = zI s.length := by rw [show (1 : Int32) = zI 1 from rfl, zI_sub (by omega) (by omega)]; rfl
        have a1 : zAt (V 18) 30 (zI (s.length + 1)) = V 18 (s.length + 1) := zAt_I (by omega) (by omega)
        have a0 : zAt (V 18) 30 (zI s.length) = V 18 s.length := zAt_I (by omega) (by omega)
        have h1' : bS (V 18 (s.length + 1)) r := h1
        have hp : ∀ x, zPut V 18 30 (zI s.length) x = z_uS V 18 s.length x := fun x => zPut_I (by omega) (by omega)
        rw [hlen]
        rcases hb with hb | hb
        · rw [if_pos hb, if_pos hb]
          unfold F_Finder_hits_l4_39 Sf_Finder_hits_l4_39 F_Finder_hits_l4_90 Sf_Finder_hits_l4_90
          rw [if_pos hb, if_pos hb, e1, e2, a1, a0]
          simp only [z_let, hp]
          refine go _ (kCb (V 21 j) l r) s ?_ (mk_cb h4 h2) h5 (by omega) hr'
          intro q hq
          rw [zB_and, h3 q hq, h1' q hq]; unfold kCb; rw [if_pos hb]
        · have n38 : ¬ V 21 j = 38 := by rw [hb]; decide
          rw [if_neg n38, if_neg n38, if_pos hb, if_pos hb]
          unfold F_Finder_hits_l4_39 Sf_Finder_hits_l4_39 F_Finder_hits_l4_90 Sf_Finder_hits_l4_90
          rw [if_neg n38, if_neg n38, e1, e2, a1, a0]
          simp only [z_let, hp]
          refine go _ (kCb (V 21 j) l r) s ?_ (mk_cb h4 h2) h5 (by omega) hr'
          intro q hq
          rw [zB_or, h3 q hq, h1' q hq]; unfold kCb; rw [if_neg n38]
    · have n38 : ¬ V 21 j = 38 := fun e => hb (Or.inl e)
      have n124 : ¬ V 21 j = 124 := fun e => hb (Or.inr e)
      rw [if_neg hb] at hr'
      rw [if_neg n38, if_neg n38, if_neg n124, if_neg n124]
      by_cases hu : V 21 j = 33 ∨ V 21 j = 67 ∨ V 21 j = 85 ∨ V 21 j = 76 ∨ V 21 j = 73
      · rw [if_pos hu] at hr'
        have ho := (isOne_I V (V 21 j)).1 hu
        have n0 : ¬ F_Finder_isOfOne V (V 21 j) = 0 := by rw [ho]; decide
        rw [if_neg n0, if_neg n0, z22]
        match st, hl, hs, hr' with
        | [], hl, hs, hr' => rw [xRun_none] at hr'; cases hr'
        | r :: s, hl, hs, hr' =>
          have hl' : s.length + 1 ≤ j := hl
          obtain ⟨h1, h2, h3⟩ := hs
          have hlen : ((r :: s : List (Nat → Bool)).length) = s.length + 1 := rfl
          have e2 : zI (s.length + 1) - 1 = zI s.length := by rw [show (1 : Int32) = zI 1 from rfl, zI_sub (by omega) (by omega)]; rfl
          have a0 : zAt (V 18) 30 (zI s.length) = V 18 s.length := zAt_I (by omega) (by omega)
          have hp : ∀ x, zPut V 18 30 (zI s.length) x = z_uS V 18 s.length x := fun x => zPut_I (by omega) (by omega)
          obtain ⟨g1, g2⟩ := related_I (ty := V 22 j) hV hu (fun e => (hO j (Nat.zero_le _) (by omega)).2 e) h1 h2
          rw [hlen, e2, a0]
          simp only [z_let, hp]
          obtain ⟨W, w1, w2, w3, w4⟩ := go _ _ s g1 (mk_rl _ _ _) h3 (by omega) hr'
          exact ⟨W, w1, ⟨g2, w2⟩, w3, w4⟩
      · rw [if_neg hu] at hr'
        have ho := (isOne_I V (V 21 j)).2 hu
        rw [if_pos ho, if_pos ho]
        obtain ⟨g1, g2⟩ := leaves_I hV hj30 (hO j (Nat.zero_le _) (by omega)).1
        have hp : ∀ x, zPut V 18 30 (zI st.length) x = z_uS V 18 st.length x := fun x => zPut_I (by omega) (by omega)
        simp only [z_let, hp, zI_succ (i := st.length)]
        obtain ⟨W, w1, w2, w3, w4⟩ := go _ _ st g1 (mk_lf _ _ _ _) hs hl hr'
        exact ⟨W, w1, ⟨g2, w2⟩, w3, w4⟩
/-- what is found, and seen -/
def kFnd (E : Nat → Nat → Int32) (p : Nat) (w : zWd) (m : Nat → Bool) (q : Nat) : Bool := m q && (decide (q < 30) && vSee E w p q)
theorem hits_I {E V : Nat → Nat → Int32} {p : Nat} {L : zLg} {Q : zVq} {D : Int32} {z : Nat} {m : Nat → Bool} (hV : zFd E V p L Q D) (hz : z ≤ 30) (h8 : V 19 8 = zI z) (hO : sOk V 0 z) (hr : xRun (kK E p L Q D) V z 0 (some []) = some [m]) : ∃ x W, F_Finder_hits 28 V = (x, W) ∧ Sf_Finder_hits 28 V ∧ (∀ q, q < 32 → zB x q = kFnd E p Q.1 m q) ∧ (∀ k, k ≠ 18 → W k = V k) ∧ mk Q.1 m := by
  obtain ⟨W, w1, w2, w3, w4⟩ := hits_L hz z 0 1300 V [] [m] (by omega) (by omega) hV h8 hO (Nat.zero_le _) trivial hr
  have e0 : zI ([] : List (Nat → Bool)).length = 0 := rfl
  rw [e0, zI_0] at w1 w2
  refine ⟨zAt (W 18) 30 0 &&& W 36 8, W, ?_, ⟨w2, trivial⟩, fun q hq => ?_, w4, w3.2.1⟩
  · unfold F_Finder_hits; rw [w1]
  · have a0 : zAt (W 18) 30 0 = W 18 0 := zAt_I (i := 0) (by omega) (by omega)
    have h0 : bS (W 18 0) m := w3.1
    rw [zB_and, a0, h0 q hq, w4 36 (by omega), sees_bit hV]; rfl
