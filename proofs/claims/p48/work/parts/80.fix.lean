/-! FROM THE FOURTH ACT ON the memory stays as it is -/
theorem zFill_id (S : Nat → Nat → Int32) (a len : Nat) (x : Int32) (h : ∀ j, j < len → S a j = x) : zFill S a len x = S := by
  funext k j
  by_cases hk : k = a
  · subst hk
    by_cases hj : j < len
    · simp [zFill, hj, h j hj]
    · simp [zFill, hj]
  · simp [zFill, hk]
theorem of_d {P : Prop} {d : Decidable P} (h : @decide P d = true) : P ∧ True := ⟨@of_decide_eq_true P d h, trivial⟩
theorem look_rest (S : Nat → Nat → Int32) (h : ∀ j : Nat, 1 ≤ j → j < 30 → F_World_has 9 S (nI j) = 0) : ∀ k i f : Nat, i + k = 30 → 1 ≤ i → k < f → F_Sight_look_L33 9 0 f S (nI i) = S := by
  intro k
  induction k with
  | zero =>
    intro i f hi h1 hf
    obtain ⟨f, rfl⟩ : ∃ g, f = g + 1 := ⟨f - 1, by omega⟩
    have hi : i = 30 := by omega
    subst hi
    rw [F_Sight_look_L33, if_pos (show (30 : Int32) ≤ nI 30 from nI_le (a := 30) (Nat.le_refl _) (by decide))]
  | succ k ih =>
    intro i f hi h1 hf
    obtain ⟨f, rfl⟩ : ∃ g, f = g + 1 := ⟨f - 1, by omega⟩
    rw [F_Sight_look_L33, if_neg (show ¬ (30 : Int32) ≤ nI i from nI_ge (b := 30) (by omega) (by decide)), if_pos (h i h1 (by omega)), nI_1]
    exact ih (i + 1) f (by omega) (by omega) (by omega)
theorem lookAt_id (S : Nat → Nat → Int32) (p2 : Int32) (h1 : F_World_cell 9 S 0 6 = 0) (h2 : p2 &&& (zAt (S 37) 3 (F_World_cell 9 S 0 8)) = 0) : F_Sight_lookAt 9 S 0 p2 = S := by
  unfold F_Sight_lookAt
  rw [if_pos h1]
  unfold F_Sight_lookAt_j42 F_Sight_lookAt_j47
  rw [if_neg (show ¬ ((1 : Int32) = 0) by decide), if_pos h2]
theorem look_id (S : Nat → Nat → Int32) (h0 : S 36 8 = 0) (h1 : S 36 9 = 0) (h2 : ∀ j, j < 4 → S 41 j = 0) (h3 : ∀ j, j < 3 → S 42 j = 0) (hh : ¬ F_World_has 9 S 0 = 0) (hl : F_Sight_lookAt 9 S 0 (F_World_rolesOf 9 S 0 (F_World_cell 9 S 0 8)) = S)
    (hr : ∀ j : Nat, 1 ≤ j → j < 30 → F_World_has 9 S (nI j) = 0) : F_Sight_look 9 S 0 = S := by
  unfold F_Sight_look
  rw [z_uS_id S 36 8 0 h0, z_uS_id S 36 9 0 h1]
  dsimp only [z_let]
  rw [zFill_id S 41 4 0 h2, zFill_id S 42 3 0 h3]
  show F_Sight_look_L33 9 0 (1299 + 1) S 0 = S
  rw [F_Sight_look_L33, if_neg (show ¬ ((30 : Int32) ≤ 0) by decide), if_neg hh]
  dsimp only [z_let]
  rw [hl]
  exact look_rest S hr 29 1 1299 (by omega) (by omega) (by omega)
theorem isSeen_id (S : Nat → Nat → Int32) (hl : F_Sight_look 9 S 0 = S) (hs : F_Sight_sees S 0 = 0) : F_T_isSeen S 0 0 = (0, S) := by
  unfold F_T_isSeen
  rw [hl]
  dsimp only [z_let]
  rw [hs]
theorem field_id (S : Nat → Nat → Int32) (f : Int32) (h : F_T_isSeen S 0 0 = (0, S)) : F_T_field S 0 0 f = (.inl "java/lang/IndexOutOfBoundsException", S) := by
  unfold F_T_field
  rw [if_neg (show ¬ (F_T_isPerson S 0 = 0) by unfold F_T_isPerson; rw [if_neg (by decide), if_neg (by decide)]; decide), h]
  dsimp only
  rw [if_pos rfl]
theorem field_sf (S : Nat → Nat → Int32) (f : Int32) (hs : Sf_T_isSeen S 0 0) (h : F_T_isSeen S 0 0 = (0, S)) : Sf_T_field S 0 0 f := by
  unfold Sf_T_field
  rw [if_neg (show ¬ (F_T_isPerson S 0 = 0) by unfold F_T_isPerson; rw [if_neg (by decide), if_neg (by decide)]; decide)]
  refine ⟨hs, ?_⟩
  rw [h]
  dsimp only
  rw [if_pos rfl]
  trivial
theorem stateOn_id (S : Nat → Nat → Int32) (h1 : ¬ F_World_has 9 S 0 = 0) (h2 : ¬ F_T_isDay S 0 = 0) (h3 : F_T_stateOn_L32 S 0 0 1300 (-1) 0 = 0) : F_T_stateOn S 0 0 = (.inr 0, S) := by
  unfold F_T_stateOn
  rw [if_neg h1, if_neg h2]
  show ((.inr (F_T_stateOn_L32 S 0 0 1300 (-1) 0), S) : (String ⊕ Int32) × (Nat → Nat → Int32)) = (.inr 0, S)
  rw [h3]
theorem stateOnAnew_id (S : Nat → Nat → Int32) (h1 : ¬ F_World_has 9 S 0 = 0) (h2 : ¬ F_T_isDay S 0 = 0) (h3 : F_T_stateOnAnew_L48 S 0 0 1300 (F_World_cell 9 S 0 0) ((S 1 7) - 1) = 0) : F_T_stateOnAnew S 0 0 = (.inr 0, S) := by
  unfold F_T_stateOnAnew
  rw [if_neg h1, if_neg h2]
  show ((.inr (F_T_stateOnAnew_L48 S 0 0 1300 (F_World_cell 9 S 0 0) ((S 1 7) - 1)), S) : (String ⊕ Int32) × (Nat → Nat → Int32)) = (.inr 0, S)
  rw [h3]
theorem reads_id (S : Nat → Nat → Int32) (h : S 40 0 = 15) : F_T_reads S 0 15 = (.inr 15, S) := by
  unfold F_T_reads
  rw [if_neg (show ¬ (F_T_isAnyField S 0 = 0) by unfold F_T_isAnyField; rw [if_neg (by decide), if_neg (by decide)]; decide), if_neg (show ¬ (F_T_isRoles S 15 = 0) by unfold F_T_isRoles; rw [if_neg (by decide), if_neg (by decide)]; decide)]
  have e1 : zPut S 40 4 0 15 = S := by
    unfold zPut
    rw [if_neg (by decide)]
    exact z_uS_id S 40 _ 15 h
  have e2 : zAt (S 40) 4 0 = 15 := by
    unfold zAt
    rw [if_neg (by decide)]
    exact h
  rw [e1, e2]
set_option maxRecDepth 200000 in
theorem e_14 : (¬ F_World_has 9 m_13 0 = 0) ∧ F_World_cell 9 m_13 0 6 = 0 ∧ (F_World_rolesOf 9 m_13 0 (F_World_cell 9 m_13 0 8)) &&& (zAt (m_13 37) 3 (F_World_cell 9 m_13 0 8)) = 0 ∧ (List.range 30).all (fun j => decide (j < 1) || decide (F_World_has 9 m_13 (nI j) = 0)) = true ∧ F_Sight_sees m_13 0 = 0 ∧
    (¬ F_T_isDay m_13 0 = 0) ∧ F_T_stateOn_L32 m_13 0 0 1300 (-1) 0 = 0 ∧ F_T_stateOnAnew_L48 m_13 0 0 1300 (F_World_cell 9 m_13 0 0) ((m_13 1 7) - 1) = 0 := by decide +kernel
set_option maxRecDepth 200000 in
theorem s_14 : Sf_T_isSeen m_13 0 0 ∧ True := And.intro (@of_decide_eq_true _ (dS_T_isSeen m_13 0 0) (by decide +kernel)) trivial
set_option maxRecDepth 200000 in
theorem d_15 : @decide (Sf_T_stateOn m_13 0 0) (dS_T_stateOn m_13 0 0) = true := by decide +kernel
theorem s_15 : Sf_T_stateOn m_13 0 0 ∧ True := of_d d_15
set_option maxRecDepth 200000 in
theorem d_16 : @decide (Sf_T_stateOnAnew m_13 0 0) (dS_T_stateOnAnew m_13 0 0) = true := by decide +kernel
theorem s_16 : Sf_T_stateOnAnew m_13 0 0 ∧ True := of_d d_16
