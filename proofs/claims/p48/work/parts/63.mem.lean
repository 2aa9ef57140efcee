theorem t_5 : ¬ F_World_isLike a_3 = 0 := by decide +kernel
