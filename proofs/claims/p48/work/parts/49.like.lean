/-! Worlds held against each other: safe, whatever they hold -/
theorem sfL_10 (S : Nat → Nat → Int32) : ∀ n k f : Nat, n + k = 300 → n < f → ∀ x : Int32, x = 0 ∨ x = 1 → Sf_World_isSame_10_L15 S f x (nI k) ∧ (F_World_isSame_10_L15 S f x (nI k) = 0 ∨ F_World_isSame_10_L15 S f x (nI k) = 1) := by
  intro n
  induction n with
  | zero =>
    intro k f hk hf x hx
    obtain ⟨f, rfl⟩ : ∃ g, f = g + 1 := ⟨f - 1, by omega⟩
    have hk : k = 300 := by omega
    subst hk
    have hl : (300 : Int32) ≤ nI 300 := nI_le (a := 300) (Nat.le_refl _) (by decide)
    rw [Sf_World_isSame_10_L15, F_World_isSame_10_L15, if_pos hl, if_pos hl]
    exact ⟨trivial, hx⟩
  | succ n ih =>
    intro k f hk hf x hx
    obtain ⟨f, rfl⟩ : ∃ g, f = g + 1 := ⟨f - 1, by omega⟩
    have hl : ¬ (300 : Int32) ≤ nI k := nI_ge (b := 300) (by omega) (by decide)
    rw [Sf_World_isSame_10_L15, F_World_isSame_10_L15, if_neg hl, if_neg hl]
    rcases hx with rfl | rfl
    · rw [if_pos rfl, if_pos rfl]; exact ⟨trivial, Or.inl rfl⟩
    · rw [if_neg (show ¬ ((1 : Int32) = 0) by decide), if_neg (show ¬ ((1 : Int32) = 0) by decide)]
      by_cases q : S 10 (nI k).toNatClampNeg = zAt (S 14) 300 (nI k)
      · rw [if_pos q, if_pos q, nI_1]
        obtain ⟨i1, i2⟩ := ih (k + 1) f (by omega) (by omega) 1 (Or.inr rfl)
        exact ⟨⟨vp_in_nI (by omega) (by omega), i1⟩, i2⟩
      · rw [if_neg q, if_neg q, nI_1]
        obtain ⟨i1, i2⟩ := ih (k + 1) f (by omega) (by omega) 0 (Or.inl rfl)
        exact ⟨⟨vp_in_nI (by omega) (by omega), i1⟩, i2⟩
theorem sf_10 (S : Nat → Nat → Int32) : Sf_World_isSame_10 S := by
  unfold Sf_World_isSame_10 Sf_World_isSame_10_j12
  rw [if_pos rfl]
  obtain ⟨h1, h2⟩ := sfL_10 S 300 0 1300 (by omega) (by omega) 1 (Or.inr rfl)
  refine ⟨h1, ?_⟩
  show narrow .boolean (.int (F_World_isSame_10_L15 S 1300 1 0)) = .int (F_World_isSame_10_L15 S 1300 1 0) ∧ True
  have h3 : F_World_isSame_10_L15 S 1300 1 0 = 0 ∨ F_World_isSame_10_L15 S 1300 1 0 = 1 := h2
  rcases h3 with h3 | h3 <;> rw [h3] <;> exact ⟨rfl, trivial⟩
theorem sfL_11 (S : Nat → Nat → Int32) : ∀ n k f : Nat, n + k = 90 → n < f → ∀ x : Int32, x = 0 ∨ x = 1 → Sf_World_isSame_11_L15 S f x (nI k) ∧ (F_World_isSame_11_L15 S f x (nI k) = 0 ∨ F_World_isSame_11_L15 S f x (nI k) = 1) := by
  intro n
  induction n with
  | zero =>
    intro k f hk hf x hx
    obtain ⟨f, rfl⟩ : ∃ g, f = g + 1 := ⟨f - 1, by omega⟩
    have hk : k = 90 := by omega
    subst hk
    have hl : (90 : Int32) ≤ nI 90 := nI_le (a := 90) (Nat.le_refl _) (by decide)
    rw [Sf_World_isSame_11_L15, F_World_isSame_11_L15, if_pos hl, if_pos hl]
    exact ⟨trivial, hx⟩
  | succ n ih =>
    intro k f hk hf x hx
    obtain ⟨f, rfl⟩ : ∃ g, f = g + 1 := ⟨f - 1, by omega⟩
    have hl : ¬ (90 : Int32) ≤ nI k := nI_ge (b := 90) (by omega) (by decide)
    rw [Sf_World_isSame_11_L15, F_World_isSame_11_L15, if_neg hl, if_neg hl]
    rcases hx with rfl | rfl
    · rw [if_pos rfl, if_pos rfl]; exact ⟨trivial, Or.inl rfl⟩
    · rw [if_neg (show ¬ ((1 : Int32) = 0) by decide), if_neg (show ¬ ((1 : Int32) = 0) by decide)]
      by_cases q : S 11 (nI k).toNatClampNeg = zAt (S 15) 90 (nI k)
      · rw [if_pos q, if_pos q, nI_1]
        obtain ⟨i1, i2⟩ := ih (k + 1) f (by omega) (by omega) 1 (Or.inr rfl)
        exact ⟨⟨vp_in_nI (by omega) (by omega), i1⟩, i2⟩
      · rw [if_neg q, if_neg q, nI_1]
        obtain ⟨i1, i2⟩ := ih (k + 1) f (by omega) (by omega) 0 (Or.inl rfl)
        exact ⟨⟨vp_in_nI (by omega) (by omega), i1⟩, i2⟩
theorem sf_11 (S : Nat → Nat → Int32) : Sf_World_isSame_11 S := by
  unfold Sf_World_isSame_11 Sf_World_isSame_11_j12
  rw [if_pos rfl]
  obtain ⟨h1, h2⟩ := sfL_11 S 90 0 1300 (by omega) (by omega) 1 (Or.inr rfl)
  refine ⟨h1, ?_⟩
  show narrow .boolean (.int (F_World_isSame_11_L15 S 1300 1 0)) = .int (F_World_isSame_11_L15 S 1300 1 0) ∧ True
  have h3 : F_World_isSame_11_L15 S 1300 1 0 = 0 ∨ F_World_isSame_11_L15 S 1300 1 0 = 1 := h2
  rcases h3 with h3 | h3 <;> rw [h3] <;> exact ⟨rfl, trivial⟩
theorem sfL_12 (S : Nat → Nat → Int32) : ∀ n k f : Nat, n + k = 24 → n < f → ∀ x : Int32, x = 0 ∨ x = 1 → Sf_World_isSame_12_L15 S f x (nI k) ∧ (F_World_isSame_12_L15 S f x (nI k) = 0 ∨ F_World_isSame_12_L15 S f x (nI k) = 1) := by
  intro n
  induction n with
  | zero =>
    intro k f hk hf x hx
    obtain ⟨f, rfl⟩ : ∃ g, f = g + 1 := ⟨f - 1, by omega⟩
    have hk : k = 24 := by omega
    subst hk
    have hl : (24 : Int32) ≤ nI 24 := nI_le (a := 24) (Nat.le_refl _) (by decide)
    rw [Sf_World_isSame_12_L15, F_World_isSame_12_L15, if_pos hl, if_pos hl]
    exact ⟨trivial, hx⟩
  | succ n ih =>
    intro k f hk hf x hx
    obtain ⟨f, rfl⟩ : ∃ g, f = g + 1 := ⟨f - 1, by omega⟩
    have hl : ¬ (24 : Int32) ≤ nI k := nI_ge (b := 24) (by omega) (by decide)
    rw [Sf_World_isSame_12_L15, F_World_isSame_12_L15, if_neg hl, if_neg hl]
    rcases hx with rfl | rfl
    · rw [if_pos rfl, if_pos rfl]; exact ⟨trivial, Or.inl rfl⟩
    · rw [if_neg (show ¬ ((1 : Int32) = 0) by decide), if_neg (show ¬ ((1 : Int32) = 0) by decide)]
      by_cases q : S 12 (nI k).toNatClampNeg = zAt (S 16) 24 (nI k)
      · rw [if_pos q, if_pos q, nI_1]
        obtain ⟨i1, i2⟩ := ih (k + 1) f (by omega) (by omega) 1 (Or.inr rfl)
        exact ⟨⟨vp_in_nI (by omega) (by omega), i1⟩, i2⟩
      · rw [if_neg q, if_neg q, nI_1]
        obtain ⟨i1, i2⟩ := ih (k + 1) f (by omega) (by omega) 0 (Or.inl rfl)
        exact ⟨⟨vp_in_nI (by omega) (by omega), i1⟩, i2⟩
theorem sf_12 (S : Nat → Nat → Int32) : Sf_World_isSame_12 S := by
  unfold Sf_World_isSame_12 Sf_World_isSame_12_j12
  rw [if_pos rfl]
  obtain ⟨h1, h2⟩ := sfL_12 S 24 0 1300 (by omega) (by omega) 1 (Or.inr rfl)
  refine ⟨h1, ?_⟩
  show narrow .boolean (.int (F_World_isSame_12_L15 S 1300 1 0)) = .int (F_World_isSame_12_L15 S 1300 1 0) ∧ True
  have h3 : F_World_isSame_12_L15 S 1300 1 0 = 0 ∨ F_World_isSame_12_L15 S 1300 1 0 = 1 := h2
  rcases h3 with h3 | h3 <;> rw [h3] <;> exact ⟨rfl, trivial⟩
theorem like_ok (S : Nat → Nat → Int32) : Sf_World_isLike S := by
  unfold Sf_World_isLike
  split
  · refine ⟨sf_10 S, ?_⟩
    split
    · trivial
    · refine ⟨sf_11 S, ?_⟩
      split
      · trivial
      · exact ⟨sf_12 S, trivial⟩
  · trivial
def dS_World_isLike (S : Nat → Nat → Int32) : Decidable (Sf_World_isLike S) := .isTrue (like_ok S)
