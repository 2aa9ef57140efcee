/-! THE MEMORIES of one run: ahead of and behind each call of the class -/
def m_0 : Nat → Nat → Int32 := Wc_193.2.2.1
def m_1 : Nat → Nat → Int32 := zFill (zFill m_0 81 10 15) 83 60 (-1)
def m_2 : Nat → Nat → Int32 := (F_T_kind m_1 0 7 1 1).2
def m_3 : Nat → Nat → Int32 := (F_T_draft m_2 0).2
def m_4 : Nat → Nat → Int32 := (F_T_state m_3 1).2
def m_5 : Nat → Nat → Int32 := (F_T_state m_4 2).2
def c_6 : Nat → Nat → Int32 := (z_uS (z_uS (z_uS (z_uS (z_uS (z_uS m_5 84 0 0) 84 1 1) 84 2 1) 84 3 (-1)) 84 4 0) 84 5 0)
def m_6 : Nat → Nat → Int32 := (F_T_transition c_6 0 1 1 (-1) 0 0).2
def c_7 : Nat → Nat → Int32 := (z_uS (z_uS (z_uS (z_uS (z_uS (z_uS m_6 84 6 1) 84 7 2) 84 8 1) 84 9 (-1)) 84 10 0) 84 11 0)
def m_7 : Nat → Nat → Int32 := (F_T_transition c_7 1 2 1 (-1) 0 0).2
def c_8 : Nat → Nat → Int32 := (z_uS (z_uS (z_uS (z_uS (z_uS (z_uS m_7 84 12 2) 84 13 0) 84 14 1) 84 15 (-1)) 84 16 0) 84 17 0)
def m_8 : Nat → Nat → Int32 := (F_T_transition c_8 2 0 1 (-1) 0 0).2
def m_9 : Nat → Nat → Int32 := (F_T_publish m_8 0).2
def c_10 : Nat → Nat → Int32 := (z_uS (z_uS m_9 82 1 1) 80 0 15)
def m_10 : Nat → Nat → Int32 := (F_T_grant c_10 0 0 15).2
def c_11 : Nat → Nat → Int32 := (z_uS m_10 80 2 0)
def m_11 : Nat → Nat → Int32 := (F_T_grant c_11 1 0 0).2
def c_12 : Nat → Nat → Int32 := (z_uS (z_uS m_11 81 0 0) 81 1 8)
def m_12 : Nat → Nat → Int32 := (F_T_scheme c_12 0 0 8).2
def c_13 : Nat → Nat → Int32 := (z_uS (z_uS (z_uS (z_uS (z_uS (z_uS (z_uS (z_uS (z_uS (z_uS (z_uS m_12 78 0 0) 78 1 0) 78 2 (-1)) 78 3 (-1)) 78 4 0) 78 5 (-1)) 79 0 (-1)) 79 1 (-1)) 79 2 (-1)) 82 0 1) 82 1 2)
def m_13 : Nat → Nat → Int32 := (F_T_create c_13 0 0 0).2
theorem e_2 : (F_T_kind m_1 0 7 1 1).1 = .inr () := by decide +kernel
theorem e_3 : (F_T_draft m_2 0).1 = .inr 1 := by decide +kernel
set_option maxRecDepth 200000 in
theorem s_3 : Sf_T_draft m_2 0 ∧ True := And.intro (@of_decide_eq_true _ (dS_T_draft m_2 0) (by decide +kernel)) trivial
theorem e_4 : (F_T_state m_3 1).1 = .inr 3 := by decide +kernel
set_option maxRecDepth 200000 in
theorem s_4 : Sf_T_state m_3 1 ∧ True := And.intro (@of_decide_eq_true _ (dS_T_state m_3 1) (by decide +kernel)) trivial
theorem e_5 : (F_T_state m_4 2).1 = .inr 7 := by decide +kernel
set_option maxRecDepth 200000 in
theorem s_5 : Sf_T_state m_4 2 ∧ True := And.intro (@of_decide_eq_true _ (dS_T_state m_4 2) (by decide +kernel)) trivial
theorem e_6 : (F_T_transition c_6 0 1 1 (-1) 0 0).1 = .inr 0 := by decide +kernel
set_option maxRecDepth 200000 in
theorem s_6 : Sf_T_transition c_6 0 1 1 (-1) 0 0 ∧ True := And.intro (@of_decide_eq_true _ (dS_T_transition c_6 0 1 1 (-1) 0 0) (by decide +kernel)) trivial
theorem e_7 : (F_T_transition c_7 1 2 1 (-1) 0 0).1 = .inr 1 := by decide +kernel
set_option maxRecDepth 200000 in
theorem s_7 : Sf_T_transition c_7 1 2 1 (-1) 0 0 ∧ True := And.intro (@of_decide_eq_true _ (dS_T_transition c_7 1 2 1 (-1) 0 0) (by decide +kernel)) trivial
theorem e_8 : (F_T_transition c_8 2 0 1 (-1) 0 0).1 = .inr 2 := by decide +kernel
set_option maxRecDepth 200000 in
theorem s_8 : Sf_T_transition c_8 2 0 1 (-1) 0 0 ∧ True := And.intro (@of_decide_eq_true _ (dS_T_transition c_8 2 0 1 (-1) 0 0) (by decide +kernel)) trivial
theorem e_9 : (F_T_publish m_8 0).1 = .inr 0 ∧ m_9 82 0 = 0 ∧ m_9 82 1 = 0 ∧ m_9 80 0 = 0 := by decide +kernel
set_option maxRecDepth 200000 in
theorem s_9 : Sf_T_publish m_8 0 ∧ True := And.intro (@of_decide_eq_true _ (dS_T_publish m_8 0) (by decide +kernel)) trivial
theorem e_10 : (F_T_grant c_10 0 0 15).1 = .inr 0 ∧ m_10 82 0 = 0 ∧ m_10 82 1 = 1 ∧ m_10 1 7 = 1 ∧ m_10 80 2 = 0 := by decide +kernel
set_option maxRecDepth 200000 in
theorem s_10 : Sf_T_grant c_10 0 0 15 ∧ True := And.intro (@of_decide_eq_true _ (dS_T_grant c_10 0 0 15) (by decide +kernel)) trivial
theorem e_11 : (F_T_grant c_11 1 0 0).1 = .inr 0 ∧ m_11 82 0 = 0 ∧ m_11 82 1 = 1 ∧ m_11 1 7 = 1 ∧ m_11 81 0 = 15 ∧ m_11 81 1 = 15 := by decide +kernel
set_option maxRecDepth 200000 in
theorem s_11 : Sf_T_grant c_11 1 0 0 ∧ True := And.intro (@of_decide_eq_true _ (dS_T_grant c_11 1 0 0) (by decide +kernel)) trivial
theorem e_12 : (F_T_scheme c_12 0 0 8).1 = .inr 255 ∧ m_12 82 0 = 0 ∧ m_12 82 1 = 1 ∧ m_12 1 7 = 1 ∧ m_12 80 0 = 15 ∧ m_12 81 1 = 8 := by decide +kernel
theorem e_13 : (F_T_create c_13 0 0 0).1 = .inr 0 ∧ m_13 82 0 = 1 ∧ m_13 82 1 = 2 ∧ m_13 82 2 = 0 ∧ m_13 1 7 = 2 ∧ m_13 78 0 = 0 ∧ m_13 78 1 = 0 ∧ m_13 80 0 = 15 ∧ m_13 81 0 = 0 ∧ m_13 81 6 = 15 ∧ m_13 40 0 = 15 ∧ m_13 36 8 = 0 ∧ m_13 36 9 = 0 ∧ m_13 41 0 = 0 ∧ m_13 41 1 = 0 ∧ m_13 41 2 = 0 ∧ m_13 41 3 = 0 ∧ m_13 42 0 = 0 ∧ m_13 42 1 = 0 ∧ m_13 42 2 = 0 := by decide +kernel
