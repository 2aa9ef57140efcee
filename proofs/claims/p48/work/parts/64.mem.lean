theorem create_sf (S A1 A2 A3 : Nat → Nat → Int32) (e1 : F_Log_add S (S 0 14) 0 (F_World_size 9 S) 13 0 (-1) 0 = A1) (e2 : F_World_redo 9 A1 (S 1 7) = A2) (s1 : Sf_Log_add S (S 0 14) 0 (F_World_size 9 S) 13 0 (-1) 0 ∧ True) (s2 : Sf_World_redo 9 A1 (S 1 7) ∧ True) (h17 : S 1 7 = 1) (s3 : Sf_T_isSettled A2 1 0 ∧ F_T_isSettled A2 1 0 = (1, A3)) (s4 : Sf_Ranks_append A3 (F_World_size 9 S) ∧ True) : Sf_T_create S 0 0 0 ∧ True := by
  refine ⟨?_, trivial⟩
  unfold Sf_T_create
  split
  · trivial
  · split
    · trivial
    · split
      · trivial
      · split
        · trivial
        · split
          · trivial
          · refine ⟨s1.1, ?_⟩
            dsimp only [z_let]
            rw [e1]
            refine ⟨s2.1, ?_⟩
            rw [e2, h17]
            refine ⟨s3.1, ?_⟩
            rw [s3.2]
            dsimp only
            rw [if_neg (by decide)]
            exact ⟨s4.1, trivial⟩
theorem a_1_eq : F_Log_add c_13 (c_13 0 14) 0 (F_World_size 9 c_13) 13 0 (-1) 0 = a_1 := by delta a_1; exact Eq.refl _
theorem a_2_eq : F_World_redo 9 a_1 (c_13 1 7) = a_2 := by delta a_2; exact Eq.refl _
theorem a_3_eq : F_World_copyFrom 13 9 a_2 = a_3 := by delta a_3; exact Eq.refl _
theorem s_13s : Sf_T_isSettled a_2 1 0 ∧ F_T_isSettled a_2 1 0 = (1, a_3) := settled_sf a_2 a_3 a_3_eq t_4.1 t_4.2.1 t_4.2.2.1 t_4.2.2.2.1 t_5
theorem s_13 : Sf_T_create c_13 0 0 0 ∧ True := create_sf c_13 a_1 a_2 a_3 a_1_eq a_2_eq (log_sf c_13 t_1.1 _ _ _ _ _ _ _) (redo_sf a_1 _ t_3) t_1.1 s_13s (append_sf a_3 t_4.2.2.2.2 _)
