/-! The fourth act's call is safe: its pieces by what the memory holds -/
theorem z_uS_id (S : Nat → Nat → Int32) (c j : Nat) (v : Int32) (h : S c j = v) : z_uS S c j v = S := by
  funext k i
  by_cases hk : k = c
  · subst hk
    rw [z_uS_self]
    by_cases hi : i = j
    · subst hi; simp [upd, h]
    · simp [upd, hi]
  · rw [z_uS_ne _ _ _ hk]
theorem log_sf (S : Nat → Nat → Int32) (h : S 1 7 = 1) (a b c d e f g : Int32) : Sf_Log_add S a b c d e f g ∧ True := by
  refine ⟨?_, trivial⟩
  unfold Sf_Log_add
  rw [h, if_neg (by decide), if_neg (by decide)]
  have h1 : vp_in 1 900 := by unfold vp_in; decide
  exact ⟨h1, h1, h1, h1, h1, h1, h1, trivial⟩
theorem begin_sf (r : Nat) (x1 x2 x3 : Int32) : ∀ k i f : Nat, i + k = 10 → k < f → ∀ S : Nat → Nat → Int32, Sf_World_begin_L16 r x1 x2 x3 f S (nI i) := by
  intro k
  induction k with
  | zero =>
    intro i f hi hf S
    obtain ⟨f, rfl⟩ : ∃ g, f = g + 1 := ⟨f - 1, by omega⟩
    have hi : i = 10 := by omega
    subst hi
    rw [Sf_World_begin_L16, if_pos (show (10 : Int32) ≤ nI 10 from nI_le (a := 10) (Nat.le_refl _) (by decide))]
    trivial
  | succ k ih =>
    intro i f hi hf S
    obtain ⟨f, rfl⟩ : ∃ g, f = g + 1 := ⟨f - 1, by omega⟩
    rw [Sf_World_begin_L16, if_neg (show ¬ (10 : Int32) ≤ nI i from nI_ge (b := 10) (by omega) (by decide)), nI_1]
    exact ih (i + 1) f (by omega) (by omega) _
theorem redo_sf (S : Nat → Nat → Int32) (p : Int32) (h : zAt (S 5) 900 p = 13) : Sf_World_redo 9 S p ∧ True := by
  refine ⟨?_, trivial⟩
  unfold Sf_World_redo
  rw [if_pos h]
  exact ⟨⟨begin_sf _ _ _ _ 10 0 1300 rfl (by decide) _, trivial⟩, trivial⟩
theorem wake_id (S : Nat → Nat → Int32) (h : S 59 8 = 0) (a b c d : Int32) : F_T_wake S a b c d = S ∧ Sf_T_wake S a b c d := by
  unfold F_T_wake Sf_T_wake
  constructor
  · show F_T_wake_L16 a b c d (zAt (S 4) 900 a) (1299 + 1) S 0 = S
    rw [F_T_wake_L16, h, if_pos (by decide)]
  · refine ⟨?_, trivial⟩
    show Sf_T_wake_L16 a b c d (zAt (S 4) 900 a) (1299 + 1) S 0
    rw [Sf_T_wake_L16, h, if_pos (by decide)]
    trivial
theorem thr_id (S : Nat → Nat → Int32) (h : S 59 8 = 0) (h17 : S 1 7 = 2) (b c : Int32) : F_T_goesThrough S 1 b c = (1, S) ∧ Sf_T_goesThrough S 1 b c := by
  have hL : F_T_goesThrough_L15 b c (2 + 20) 1300 S 1 = S := by
    show F_T_goesThrough_L15 b c (2 + 20) (1298 + 1 + 1) S 1 = S
    rw [F_T_goesThrough_L15, h17, if_neg (by decide), if_neg (by decide)]
    dsimp only [z_let]
    rw [(wake_id S h 1 b c (2 + 20)).1, F_T_goesThrough_L15, h17, if_pos (by decide)]
  have hs : Sf_T_goesThrough_L15 b c (2 + 20) 1300 S 1 := by
    show Sf_T_goesThrough_L15 b c (2 + 20) (1298 + 1 + 1) S 1
    rw [Sf_T_goesThrough_L15, h17, if_neg (by decide), if_neg (by decide)]
    refine ⟨(wake_id S h 1 b c (2 + 20)).2, ?_⟩
    dsimp only [z_let]
    rw [(wake_id S h 1 b c (2 + 20)).1, Sf_T_goesThrough_L15, h17, if_pos (by decide)]
    trivial
  unfold F_T_goesThrough Sf_T_goesThrough
  constructor
  · rw [h17, hL]
    show (if (2 + 20 : Int32) < S 1 7 then ((0, S) : Int32 × (Nat → Nat → Int32)) else (1, S)) = (1, S)
    rw [h17, if_neg (by decide)]
  · rw [h17]; exact ⟨hs, trivial⟩
theorem back_id (S : Nat → Nat → Int32) (h17 : S 1 7 = 2) : F_T_takeBack S 2 = S ∧ Sf_T_takeBack S 2 := by
  have hL : F_T_takeBack_L10 2 1300 S (2 - 1) = S := by
    show F_T_takeBack_L10 2 (1299 + 1) S (2 - 1) = S
    rw [F_T_takeBack_L10, if_pos (by decide)]
  have hs : Sf_T_takeBack_L10 2 1300 S (2 - 1) := by
    show Sf_T_takeBack_L10 2 (1299 + 1) S (2 - 1)
    rw [Sf_T_takeBack_L10, if_pos (by decide)]
    trivial
  unfold F_T_takeBack Sf_T_takeBack
  constructor
  · rw [h17, hL]
    show z_uS S 1 7 (F_Math_min S (S 1 7) 2) = S
    rw [h17]
    exact z_uS_id S 1 7 _ (by rw [h17]; rfl)
  · rw [h17]; exact ⟨hs, trivial⟩
theorem settled_sf (S A : Nat → Nat → Int32) (hA : F_World_copyFrom 13 9 S = A) (h : S 59 8 = 0) (h17 : S 1 7 = 2) (g : A 59 8 = 0) (g17 : A 1 7 = 2) (hl : ¬ F_World_isLike A = 0) : Sf_T_isSettled S 1 0 ∧ F_T_isSettled S 1 0 = (1, A) := by
  have e1 := (thr_id S h h17 0 1).1
  have e2 := (thr_id A g g17 0 0).1
  have e3 := (back_id A g17).1
  constructor
  · unfold Sf_T_isSettled
    refine ⟨(thr_id S h h17 0 1).2, ?_⟩
    rw [e1]
    dsimp only [z_let]
    rw [hA, h17]
    refine ⟨(back_id A g17).2, ?_⟩
    rw [e3, if_neg (by decide)]
    refine ⟨(thr_id A g g17 0 0).2, ?_⟩
    rw [e2]
    dsimp only
    rw [if_neg (by decide)]
    refine ⟨like_ok A, ?_⟩
    rw [if_neg hl, if_neg (show ¬ (800 : Int32) < A 1 7 by rw [g17]; decide)]
    unfold Sf_T_isSettled_j80
    rw [if_neg (by decide)]
    exact ⟨rfl, trivial⟩
  · unfold F_T_isSettled
    rw [e1]
    dsimp only [z_let]
    rw [hA, h17, e3, if_neg (by decide), e2]
    dsimp only
    rw [if_neg (by decide), if_neg hl, if_neg (show ¬ (800 : Int32) < A 1 7 by rw [g17]; decide)]
    unfold F_T_isSettled_j80
    rw [if_neg (by decide)]
theorem append_sf (S : Nat → Nat → Int32) (h : S 68 2 = 0) (p : Int32) : Sf_Ranks_append S p ∧ True := by
  refine ⟨?_, trivial⟩
  unfold Sf_Ranks_append
  refine ⟨?_, trivial⟩
  show Sf_Ranks_append_L4 p (1299 + 1) S 0 0
  rw [Sf_Ranks_append_L4, h, if_pos (by decide)]
  trivial
