/-! PURE: worlds held against each other -/
theorem zCopy_at (S : Nat → Nat → Int32) (a b n k j : Nat) (hn : n < 2147483648) : zCopy S a b 0 0 (zI n) k j = if k = b ∧ j < n then S a j else S k j := by
  unfold zCopy va_cpy
  rw [zI_clamp hn]
  have e0 : (0 : Int32).toNatClampNeg = 0 := rfl
  rw [e0]
  by_cases h : k = b
  · subst h
    by_cases h2 : j < n
    · simp [h2]
    · simp [h2]
  · simp [h]
theorem World_copyFrom_I {S : Nat → Nat → Int32} {w : zWd} (h : zWC 9 S w) : zWC 13 (F_World_copyFrom 13 9 S) w ∧ (∀ k, (k < 13 ∨ 16 < k) → F_World_copyFrom 13 9 S k = S k) ∧ ∀ j, j ≠ 3 → F_World_copyFrom 13 9 S 13 j = S 13 j := by
  unfold F_World_copyFrom
  simp only [z_let]
  generalize hA : zCopy S (9 + 1) (13 + 1) 0 0 300 = A
  generalize hB : zCopy A (9 + 2) (13 + 2) 0 0 90 = B
  generalize hC : zCopy B (9 + 3) (13 + 3) 0 0 24 = C
  have cA : ∀ k j, A k j = if k = 14 ∧ j < 300 then S 10 j else S k j := fun k j => by rw [← hA]; exact zCopy_at S 10 14 300 k j (by omega)
  have cB : ∀ k j, B k j = if k = 15 ∧ j < 90 then A 11 j else A k j := fun k j => by rw [← hB]; exact zCopy_at A 11 15 90 k j (by omega)
  have cC : ∀ k j, C k j = if k = 16 ∧ j < 24 then B 12 j else B k j := fun k j => by rw [← hC]; exact zCopy_at B 12 16 24 k j (by omega)
  have e14 : ∀ j, j < 300 → C 14 j = S 10 j := fun j hj => by rw [cC, if_neg (by omega), cB, if_neg (by omega), cA, if_pos ⟨rfl, hj⟩]
  have e15 : ∀ j, j < 90 → C 15 j = S 11 j := fun j hj => by rw [cC, if_neg (by omega), cB, if_pos ⟨rfl, hj⟩, cA, if_neg (by omega)]
  have e16 : ∀ j, j < 24 → C 16 j = S 12 j := fun j hj => by rw [cC, if_pos ⟨rfl, hj⟩, cB, if_neg (by omega), cA, if_neg (by omega)]
  have eo : ∀ k, (k < 14 ∨ 16 < k) → C k = S k := fun k hk => funext fun j => by rw [cC, if_neg (by omega), cB, if_neg (by omega), cA, if_neg (by omega)]
  refine ⟨⟨fun i hi => ?_, fun i hi => ?_, fun i hi c hc => ?_, fun t ht i hi j hj => ?_, fun t ht i hi j hj => ?_, fun k hk => ?_⟩, fun k hk => ?_, fun j hj => ?_⟩
  · rw [uS_at, eo 9 (by omega)]; exact h.has i hi
  · rw [uS_at, eo 9 (by omega)]; exact h.hi i hi
  · rw [z_uS_ne _ _ _ (by omega), e14 _ (by omega)]; exact h.col i hi c hc
  · rw [z_uS_ne _ _ _ (by omega), e15 _ (by omega)]; exact h.link t ht i hi j hj
  · rw [z_uS_ne _ _ _ (by omega), e15 _ (by omega)]; exact h.lhi t ht i hi j hj
  · rw [z_uS_ne _ _ _ (by omega), e16 _ (by omega)]; exact h.role k hk
  · rw [z_uS_ne _ _ _ (by omega), eo k (by omega)]
  · rw [uS_nj _ _ _ hj, eo 13 (by omega)]
/-- rows that agree to the end -/
theorem World_isSame_10_I {S : Nat → Nat → Int32} : ∀ (n k f : Nat), n + k = 300 → n < f → ∀ x : Int32, (x = 0 ∨ x = 1) → Sf_World_isSame_10_L15 S f x (zI k) ∧ (F_World_isSame_10_L15 S f x (zI k) = 0 ∨ F_World_isSame_10_L15 S f x (zI k) = 1) ∧ (F_World_isSame_10_L15 S f x (zI k) = 1 ↔ x = 1 ∧ ∀ q, k ≤ q → q < 300 → S 10 q = S 14 q) := by
  intro n
  induction n with
  | zero =>
    intro k f hk hf x hx
    obtain ⟨f, rfl⟩ : ∃ g, f = g + 1 := ⟨f - 1, by omega⟩
    have hl : (300 : Int32) ≤ zI k := by rw [show (300 : Int32) = zI 300 from rfl, zI_le (by omega) (by omega)]; omega
    unfold Sf_World_isSame_10_L15 F_World_isSame_10_L15
    rw [if_pos hl, if_pos hl]
    exact ⟨trivial, hx, fun h => ⟨h, fun q h1 h2 => by omega⟩, fun h => h.1⟩
  | succ n ih =>
    intro k f hk hf x hx
    obtain ⟨f, rfl⟩ : ∃ g, f = g + 1 := ⟨f - 1, by omega⟩
    have hl : ¬ (300 : Int32) ≤ zI k := by rw [show (300 : Int32) = zI 300 from rfl, zI_le (by omega) (by omega)]; omega
    unfold Sf_World_isSame_10_L15 F_World_isSame_10_L15
    rw [if_neg hl, if_neg hl, zAt_I (show k < 300 by omega) (by omega), zI_clamp (show k < 2147483648 by omega), zI_succ]
    rcases hx with rfl | rfl
    · rw [if_pos rfl, if_pos rfl]
      exact ⟨trivial, Or.inl rfl, fun h => absurd h (by decide), fun h => absurd h.1 (by decide)⟩
    · rw [if_neg (show ¬ ((1 : Int32) = 0) by decide), if_neg (show ¬ ((1 : Int32) = 0) by decide)]
      by_cases q : S 10 k = S 14 k
      · rw [if_pos q, if_pos q]
        obtain ⟨i1, i2, i3⟩ := ih (k + 1) f (by omega) (by omega) 1 (Or.inr rfl)
        refine ⟨⟨vp_in_I (by omega) (by omega), i1⟩, i2, i3.trans ⟨fun h => ⟨rfl, fun j h1 h2 => ?_⟩, fun h => ⟨rfl, fun j h1 h2 => h.2 j (by omega) h2⟩⟩⟩
        by_cases e : j = k
        · rw [e]; exact q
        · exact h.2 j (by omega) h2
      · rw [if_neg q, if_neg q]
        obtain ⟨i1, i2, i3⟩ := ih (k + 1) f (by omega) (by omega) 0 (Or.inl rfl)
        exact ⟨⟨vp_in_I (by omega) (by omega), i1⟩, i2, i3.trans ⟨fun h => absurd h.1 (by decide), fun h => absurd (h.2 k (by omega) (by omega)) q⟩⟩
theorem World_isSame_11_I {S : Nat → Nat → Int32} : ∀ (n k f : Nat), n + k = 90 → n < f → ∀ x : Int32, (x = 0 ∨ x = 1) → Sf_World_isSame_11_L15 S f x (zI k) ∧ (F_World_isSame_11_L15 S f x (zI k) = 0 ∨ F_World_isSame_11_L15 S f x (zI k) = 1) ∧ (F_World_isSame_11_L15 S f x (zI k) = 1 ↔ x = 1 ∧ ∀ q, k ≤ q → q < 90 → S 11 q = S 15 q) := by
  intro n
  induction n with
  | zero =>
    intro k f hk hf x hx
    obtain ⟨f, rfl⟩ : ∃ g, f = g + 1 := ⟨f - 1, by omega⟩
    have hl : (90 : Int32) ≤ zI k := by rw [show (90 : Int32) = zI 90 from rfl, zI_le (by omega) (by omega)]; omega
    unfold Sf_World_isSame_11_L15 F_World_isSame_11_L15
    rw [if_pos hl, if_pos hl]
    exact ⟨trivial, hx, fun h => ⟨h, fun q h1 h2 => by omega⟩, fun h => h.1⟩
  | succ n ih =>
    intro k f hk hf x hx
    obtain ⟨f, rfl⟩ : ∃ g, f = g + 1 := ⟨f - 1, by omega⟩
    have hl : ¬ (90 : Int32) ≤ zI k := by rw [show (90 : Int32) = zI 90 from rfl, zI_le (by omega) (by omega)]; omega
    unfold Sf_World_isSame_11_L15 F_World_isSame_11_L15
    rw [if_neg hl, if_neg hl, zAt_I (show k < 90 by omega) (by omega), zI_clamp (show k < 2147483648 by omega), zI_succ]
    rcases hx with rfl | rfl
    · rw [if_pos rfl, if_pos rfl]
      exact ⟨trivial, Or.inl rfl, fun h => absurd h (by decide), fun h => absurd h.1 (by decide)⟩
    · rw [if_neg (show ¬ ((1 : Int32) = 0) by decide), if_neg (show ¬ ((1 : Int32) = 0) by decide)]
      by_cases q : S 11 k = S 15 k
      · rw [if_pos q, if_pos q]
        obtain ⟨i1, i2, i3⟩ := ih (k + 1) f (by omega) (by omega) 1 (Or.inr rfl)
        refine ⟨⟨vp_in_I (by omega) (by omega), i1⟩, i2, i3.trans ⟨fun h => ⟨rfl, fun j h1 h2 => ?_⟩, fun h => ⟨rfl, fun j h1 h2 => h.2 j (by omega) h2⟩⟩⟩
        by_cases e : j = k
        · rw [e]; exact q
        · exact h.2 j (by omega) h2
      · rw [if_neg q, if_neg q]
        obtain ⟨i1, i2, i3⟩ := ih (k + 1) f (by omega) (by omega) 0 (Or.inl rfl)
        exact ⟨⟨vp_in_I (by omega) (by omega), i1⟩, i2, i3.trans ⟨fun h => absurd h.1 (by decide), fun h => absurd (h.2 k (by omega) (by omega)) q⟩⟩
theorem World_isSame_12_I {S : Nat → Nat → Int32} : ∀ (n k f : Nat), n + k = 24 → n < f → ∀ x : Int32, (x = 0 ∨ x = 1) → Sf_World_isSame_12_L15 S f x (zI k) ∧ (F_World_isSame_12_L15 S f x (zI k) = 0 ∨ F_World_isSame_12_L15 S f x (zI k) = 1) ∧ (F_World_isSame_12_L15 S f x (zI k) = 1 ↔ x = 1 ∧ ∀ q, k ≤ q → q < 24 → S 12 q = S 16 q) := by
  intro n
  induction n with
  | zero =>
    intro k f hk hf x hx
    obtain ⟨f, rfl⟩ : ∃ g, f = g + 1 := ⟨f - 1, by omega⟩
    have hl : (24 : Int32) ≤ zI k := by rw [show (24 : Int32) = zI 24 from rfl, zI_le (by omega) (by omega)]; omega
    unfold Sf_World_isSame_12_L15 F_World_isSame_12_L15
    rw [if_pos hl, if_pos hl]
    exact ⟨trivial, hx, fun h => ⟨h, fun q h1 h2 => by omega⟩, fun h => h.1⟩
  | succ n ih =>
    intro k f hk hf x hx
    obtain ⟨f, rfl⟩ : ∃ g, f = g + 1 := ⟨f - 1, by omega⟩
    have hl : ¬ (24 : Int32) ≤ zI k := by rw [show (24 : Int32) = zI 24 from rfl, zI_le (by omega) (by omega)]; omega
    unfold Sf_World_isSame_12_L15 F_World_isSame_12_L15
    rw [if_neg hl, if_neg hl, zAt_I (show k < 24 by omega) (by omega), zI_clamp (show k < 2147483648 by omega), zI_succ]
    rcases hx with rfl | rfl
    · rw [if_pos rfl, if_pos rfl]
      exact ⟨trivial, Or.inl rfl, fun h => absurd h (by decide), fun h => absurd h.1 (by decide)⟩
    · rw [if_neg (show ¬ ((1 : Int32) = 0) by decide), if_neg (show ¬ ((1 : Int32) = 0) by decide)]
      by_cases q : S 12 k = S 16 k
      · rw [if_pos q, if_pos q]
        obtain ⟨i1, i2, i3⟩ := ih (k + 1) f (by omega) (by omega) 1 (Or.inr rfl)
        refine ⟨⟨vp_in_I (by omega) (by omega), i1⟩, i2, i3.trans ⟨fun h => ⟨rfl, fun j h1 h2 => ?_⟩, fun h => ⟨rfl, fun j h1 h2 => h.2 j (by omega) h2⟩⟩⟩
        by_cases e : j = k
        · rw [e]; exact q
        · exact h.2 j (by omega) h2
      · rw [if_neg q, if_neg q]
        obtain ⟨i1, i2, i3⟩ := ih (k + 1) f (by omega) (by omega) 0 (Or.inl rfl)
        exact ⟨⟨vp_in_I (by omega) (by omega), i1⟩, i2, i3.trans ⟨fun h => absurd h.1 (by decide), fun h => absurd (h.2 k (by omega) (by omega)) q⟩⟩
theorem b01_ne {x : Int32} (h : x = 0 ∨ x = 1) : ¬ x = 0 ↔ x = 1 := by
  rcases h with rfl | rfl <;> decide
theorem World_isLike_I {S : Nat → Nat → Int32} {w w' : zWd} (h : zWC 9 S w) (g : zWC 13 S w') : Sf_World_isLike S ∧ (F_World_isLike S = 0 ∨ F_World_isLike S = 1) ∧ (F_World_isLike S = 1 ↔ (∀ i, i < 30 → w'.1 i = w.1 i) ∧ (∀ i, i < 30 → ∀ c, c < 10 → w'.2.1 i c = w.2.1 i c) ∧ (∀ t, t < 3 → ∀ i, i < 30 → ∀ j, j < 30 → w'.2.2.1 t i j = w.2.2.1 t i j) ∧ ∀ k, k < 24 → w'.2.2.2 k = w.2.2.2 k) := by
  obtain ⟨a1, a2, a3⟩ := World_isSame_10_I (S := S) 300 0 1300 (by omega) (by omega) 1 (Or.inr rfl)
  obtain ⟨b1, b2, b3⟩ := World_isSame_11_I (S := S) 90 0 1300 (by omega) (by omega) 1 (Or.inr rfl)
  obtain ⟨c1, c2, c3⟩ := World_isSame_12_I (S := S) 24 0 1300 (by omega) (by omega) 1 (Or.inr rfl)
  rw [zI_0] at a1 a2 a3 b1 b2 b3 c1 c2 c3
  have nar : ∀ x : Int32, (x = 0 ∨ x = 1) → (narrow .boolean (.int x) = .int x ∧ True) := fun x hx => by rcases hx with rfl | rfl <;> exact ⟨rfl, trivial⟩
  have s10 : F_World_isSame_10 S = F_World_isSame_10_L15 S 1300 1 0 ∧ Sf_World_isSame_10 S := by
    unfold F_World_isSame_10 Sf_World_isSame_10 F_World_isSame_10_j12 Sf_World_isSame_10_j12
    rw [if_pos rfl, if_pos rfl]; exact ⟨rfl, a1, nar _ a2⟩
  have s11 : F_World_isSame_11 S = F_World_isSame_11_L15 S 1300 1 0 ∧ Sf_World_isSame_11 S := by
    unfold F_World_isSame_11 Sf_World_isSame_11 F_World_isSame_11_j12 Sf_World_isSame_11_j12
    rw [if_pos rfl, if_pos rfl]; exact ⟨rfl, b1, nar _ b2⟩
  have s12 : F_World_isSame_12 S = F_World_isSame_12_L15 S 1300 1 0 ∧ Sf_World_isSame_12 S := by
    unfold F_World_isSame_12 Sf_World_isSame_12 F_World_isSame_12_j12 Sf_World_isSame_12_j12
    rw [if_pos rfl, if_pos rfl]; exact ⟨rfl, c1, nar _ c2⟩
  have k0 : S 9 3 = S 13 3 ↔ ∀ i, i < 30 → w'.1 i = w.1 i := by
    constructor
    · intro e i hi
      rw [← g.has i hi, ← h.has i hi, e]
    · intro e
      apply zB_ext
      intro k hk
      by_cases k30 : k < 30
      · rw [h.has k k30, g.has k k30, e k k30]
      · rw [h.hi k (by omega), g.hi k (by omega)]
  have k1 : (∀ q, 0 ≤ q → q < 300 → S 10 q = S 14 q) ↔ ∀ i, i < 30 → ∀ c, c < 10 → w'.2.1 i c = w.2.1 i c := by
    constructor
    · intro e i hi c hc
      rw [← g.col i hi c hc, ← h.col i hi c hc]; exact (e _ (by omega) (by omega)).symm
    · intro e q _ hq
      have := e (q / 10) (by omega) (q % 10) (by omega)
      rw [← g.col _ (by omega) _ (by omega), ← h.col _ (by omega) _ (by omega)] at this
      rw [show 10 * (q / 10) + q % 10 = q by omega] at this
      exact this.symm
  have k2 : (∀ q, 0 ≤ q → q < 90 → S 11 q = S 15 q) ↔ ∀ t, t < 3 → ∀ i, i < 30 → ∀ j, j < 30 → w'.2.2.1 t i j = w.2.2.1 t i j := by
    constructor
    · intro e t ht i hi j hj
      have : S 11 (30 * t + i) = S 15 (30 * t + i) := e _ (by omega) (by omega)
      rw [← g.link t ht i hi j hj, ← h.link t ht i hi j hj]
      show zB (S 15 (30 * t + i)) j = zB (S 11 (30 * t + i)) j
      rw [this]
    · intro e q _ hq
      apply zB_ext
      intro k hk
      have h1 := h.link (q / 30) (by omega) (q % 30) (by omega)
      have g1 := g.link (q / 30) (by omega) (q % 30) (by omega)
      have h2 := h.lhi (q / 30) (by omega) (q % 30) (by omega)
      have g2 := g.lhi (q / 30) (by omega) (q % 30) (by omega)
      rw [show 30 * (q / 30) + q % 30 = q by omega] at h1 g1 h2 g2
      by_cases k30 : k < 30
      · exact (h1 k k30).trans ((e _ (by omega) _ (by omega) k k30).symm.trans (g1 k k30).symm)
      · exact (h2 k (by omega)).trans (g2 k (by omega)).symm
  have k3 : (∀ q, 0 ≤ q → q < 24 → S 12 q = S 16 q) ↔ ∀ k, k < 24 → w'.2.2.2 k = w.2.2.2 k := by
    constructor
    · intro e k hk
      rw [← g.role k hk, ← h.role k hk]; exact (e _ (by omega) hk).symm
    · intro e q _ hq
      have := e q hq
      rw [← g.role q hq, ← h.role q hq] at this
      exact this.symm
  have a3' : F_World_isSame_10_L15 S 1300 1 0 = 1 ↔ ∀ i, i < 30 → ∀ c, c < 10 → w'.2.1 i c = w.2.1 i c := (a3.trans ⟨fun h => h.2, fun h => ⟨rfl, h⟩⟩).trans k1
  have b3' : F_World_isSame_11_L15 S 1300 1 0 = 1 ↔ ∀ t, t < 3 → ∀ i, i < 30 → ∀ j, j < 30 → w'.2.2.1 t i j = w.2.2.1 t i j := (b3.trans ⟨fun h => h.2, fun h => ⟨rfl, h⟩⟩).trans k2
  have c3' : F_World_isSame_12_L15 S 1300 1 0 = 1 ↔ ∀ k, k < 24 → w'.2.2.2 k = w.2.2.2 k := (c3.trans ⟨fun h => h.2, fun h => ⟨rfl, h⟩⟩).trans k3
  unfold F_World_isLike Sf_World_isLike F_World_isLike_j57
  rw [s10.1, s11.1, s12.1]
  have no : ∀ P : Prop, ¬ P → (((0 : Int32) = 0 ∨ (0 : Int32) = 1) ∧ ((0 : Int32) = 1 ↔ P)) := fun P hP => ⟨Or.inl rfl, fun h => absurd h (by decide), fun h => absurd h hP⟩
  by_cases q0 : S 9 3 = S 13 3
  · rw [if_pos q0, if_pos q0]
    rcases a2 with q1 | q1
    · rw [if_pos q1, if_pos q1]
      exact ⟨⟨s10.2, trivial⟩, no _ (fun h => by have := a3'.mpr h.2.1; rw [q1] at this; exact absurd this (by decide))⟩
    · have n1 : ¬ F_World_isSame_10_L15 S 1300 1 0 = 0 := by rw [q1]; decide
      rw [if_neg n1, if_neg n1]
      rcases b2 with q2 | q2
      · rw [if_pos q2, if_pos q2]
        exact ⟨⟨s10.2, s11.2, trivial⟩, no _ (fun h => by have := b3'.mpr h.2.2.1; rw [q2] at this; exact absurd this (by decide))⟩
      · have n2 : ¬ F_World_isSame_11_L15 S 1300 1 0 = 0 := by rw [q2]; decide
        rw [if_neg n2, if_neg n2]
        rcases c2 with q3 | q3
        · rw [if_pos q3]
          exact ⟨⟨s10.2, s11.2, s12.2, trivial⟩, no _ (fun h => by have := c3'.mpr h.2.2.2; rw [q3] at this; exact absurd this (by decide))⟩
        · have n3 : ¬ F_World_isSame_12_L15 S 1300 1 0 = 0 := by rw [q3]; decide
          rw [if_neg n3]
          exact ⟨⟨s10.2, s11.2, s12.2, trivial⟩, Or.inr rfl, fun _ => ⟨k0.mp q0, a3'.mp q1, b3'.mp q2, c3'.mp q3⟩, fun _ => rfl⟩
  · rw [if_neg q0, if_neg q0]
    exact ⟨trivial, no _ (fun h => q0 (k0.mpr h.1))⟩
