theorem seen_13 : F_T_isSeen m_13 0 0 = (0, m_13) := by
  obtain ⟨-, g82_0, g82_1, g82_2, g1_7, g78_0, g78_1, g80_0, g81_0, g81_6, g40_0, g36_8, g36_9, g41_0, g41_1, g41_2, g41_3, g42_0, g42_1, g42_2⟩ := e_13
  obtain ⟨a1, a2, a3, a4, a5, -, -, -⟩ := e_14
  refine isSeen_id m_13 (look_id m_13 g36_8 g36_9 (fun j hj => ?_) (fun j hj => ?_) a1 (lookAt_id m_13 _ a2 a3) (fun j h1 h2 => ?_)) a5
  · have : j = 0 ∨ j = 1 ∨ j = 2 ∨ j = 3 := by omega
    rcases this with rfl | rfl | rfl | rfl
    · exact g41_0
    · exact g41_1
    · exact g41_2
    · exact g41_3
  · have : j = 0 ∨ j = 1 ∨ j = 2 := by omega
    rcases this with rfl | rfl | rfl
    · exact g42_0
    · exact g42_1
    · exact g42_2
  · have h := List.all_eq_true.mp a4 j (List.mem_range.mpr h2)
    simp only [Bool.or_eq_true, decide_eq_true_eq] at h
    rcases h with h | h
    · omega
    · exact h
theorem fix_of (S : Nat → Nat → Int32) (hc : S 82 0 = 1 ∧ S 82 1 = 2 ∧ S 82 2 = 0 ∧ S 78 0 = 0 ∧ S 78 1 = 0 ∧ S 80 0 = 15 ∧ S 81 0 = 0) (h1 : Sf_T_isSeen S 0 0 ∧ True) (h2 : F_T_isSeen S 0 0 = (0, S)) (h3 : Sf_T_stateOn S 0 0 ∧ True) (h4 : F_T_stateOn S 0 0 = (.inr 0, S)) (h5 : Sf_T_stateOnAnew S 0 0 ∧ True) (h6 : F_T_stateOnAnew S 0 0 = (.inr 0, S)) (h7 : S 1 7 = 2) : z_Fix S :=
  ⟨hc, fun f _ => field_sf S f h1.1 h2, fun f _ => field_id S f h2, h3.1, h4, h5.1, h6, h7⟩
theorem fix_13 : z_Fix m_13 := by
  obtain ⟨-, g82_0, g82_1, g82_2, g1_7, g78_0, g78_1, g80_0, g81_0, g81_6, g40_0, g36_8, g36_9, g41_0, g41_1, g41_2, g41_3, g42_0, g42_1, g42_2⟩ := e_13
  obtain ⟨a1, a2, a3, a4, a5, a6, a7, a8⟩ := e_14
  exact fix_of m_13 ⟨g82_0, g82_1, g82_2, g78_0, g78_1, g80_0, g81_0⟩ s_14 seen_13 s_15 (stateOn_id m_13 a1 a6 a7) s_16 (stateOnAnew_id m_13 a1 a6 a8) g1_7
theorem c6_13 : m_13 81 6 = 15 := by
  obtain ⟨-, g82_0, g82_1, g82_2, g1_7, g78_0, g78_1, g80_0, g81_0, g81_6, g40_0, g36_8, g36_9, g41_0, g41_1, g41_2, g41_3, g42_0, g42_1, g42_2⟩ := e_13
  exact g81_6
theorem reads_13 : F_T_reads (z_uS m_13 81 6 15) 0 15 = (.inr 15, m_13) := by
  obtain ⟨-, g82_0, g82_1, g82_2, g1_7, g78_0, g78_1, g80_0, g81_0, g81_6, g40_0, g36_8, g36_9, g41_0, g41_1, g41_2, g41_3, g42_0, g42_1, g42_2⟩ := e_13
  rw [z_uS_id m_13 81 6 15 g81_6]
  exact reads_id m_13 g40_0
