theorem t_1 : c_13 1 7 = 1 ∧ c_13 0 14 = 0 := by decide +kernel
def a_1 : Nat → Nat → Int32 := F_Log_add c_13 (c_13 0 14) 0 (F_World_size 9 c_13) 13 0 (-1) 0
def a_2 : Nat → Nat → Int32 := F_World_redo 9 a_1 (c_13 1 7)
def a_3 : Nat → Nat → Int32 := F_World_copyFrom 13 9 a_2
theorem t_3 : zAt (a_1 5) 900 (c_13 1 7) = 13 := by decide +kernel
theorem t_4 : a_2 59 8 = 0 ∧ a_2 1 7 = 2 ∧ a_3 59 8 = 0 ∧ a_3 1 7 = 2 ∧ a_3 68 2 = 0 := by decide +kernel
