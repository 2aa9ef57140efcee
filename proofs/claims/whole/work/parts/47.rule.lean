/-! PURE: a rule more -/
theorem z_ite (P : Prop) [Decidable P] : ((if P then (1 : Int32) else 0) = 0) = ¬ P := by
  by_cases h : P
  · rw [if_pos h]; simp [h]
  · rw [if_neg h]; simp [h]
theorem i_eq0 {p : Int32} : (p = 0) = (p.toInt = 0) := propext (Int32.toInt_inj (x := p) (y := 0)).symm
theorem i_eq1 {p : Int32} : (p = 1) = (p.toInt = 1) := propext (Int32.toInt_inj (x := p) (y := 1)).symm
theorem i_eq2 {p : Int32} : (p = 2) = (p.toInt = 2) := propext (Int32.toInt_inj (x := p) (y := 2)).symm
def zPt (a b : Int) : Prop := (a = 0 ∧ b = 0) ∨ (a = 1 ∧ 0 ≤ b ∧ b ≤ 5) ∨ (a = 2 ∧ 0 ≤ b ∧ b ≤ 2)
def zPa (a b : Int) : Prop := (a = 0 ∧ 0 ≤ b ∧ b ≤ 2) ∨ (a = 1 ∧ 0 ≤ b ∧ b ≤ 5) ∨ (a = 2 ∧ 0 ≤ b ∧ b ≤ 7)
theorem T_isTrigger_0 (S : Nat → Nat → Int32) (a b : Int32) : (F_T_isTrigger S a b = 0) = ¬ zPt a.toInt b.toInt := by
  unfold F_T_isTrigger zPt
  by_cases h0 : a = 0
  · have t0 := (Eq.mp (i_eq0 (p := a))) h0
    rw [if_pos h0]
    by_cases g : b = 0
    · have g0 := (Eq.mp (i_eq0 (p := b))) g
      rw [if_pos g]
      exact propext ⟨fun h => absurd h (by decide), fun h => absurd (Or.inl ⟨t0, g0⟩) h⟩
    · have g0 : ¬ b.toInt = 0 := fun e => g (Eq.mpr (i_eq0 (p := b)) e)
      rw [if_neg g]
      exact propext ⟨fun _ => by omega, fun _ => rfl⟩
  · have t0 : ¬ a.toInt = 0 := fun e => h0 (Eq.mpr (i_eq0 (p := a)) e)
    rw [if_neg h0]
    by_cases h1 : a = 1
    · have t1 := Eq.mp (i_eq1 (p := a)) h1
      rw [if_pos h1, T_isState_eq, z_ite]
      exact propext ⟨fun _ => by omega, fun _ => by omega⟩
    · have t1 : ¬ a.toInt = 1 := fun e => h1 (Eq.mpr (i_eq1 (p := a)) e)
      rw [if_neg h1]
      by_cases h2 : a = 2
      · have t2 := Eq.mp (i_eq2 (p := a)) h2
        rw [if_pos h2, T_isField_eq, z_ite]
        exact propext ⟨fun _ => by omega, fun _ => by omega⟩
      · have t2 : ¬ a.toInt = 2 := fun e => h2 (Eq.mpr (i_eq2 (p := a)) e)
        rw [if_neg h2]
        exact propext ⟨fun _ => by omega, fun _ => rfl⟩
theorem T_isAction_0 (S : Nat → Nat → Int32) (a b : Int32) : (F_T_isAction S a b = 0) = ¬ zPa a.toInt b.toInt := by
  unfold F_T_isAction zPa
  by_cases h0 : a = 0
  · have t0 := (Eq.mp (i_eq0 (p := a))) h0
    rw [if_pos h0, T_isField_eq, z_ite]
    exact propext ⟨fun _ => by omega, fun _ => by omega⟩
  · have t0 : ¬ a.toInt = 0 := fun e => h0 (Eq.mpr (i_eq0 (p := a)) e)
    rw [if_neg h0]
    by_cases h1 : a = 1
    · have t1 := Eq.mp (i_eq1 (p := a)) h1
      rw [if_pos h1, T_isState_eq, z_ite]
      exact propext ⟨fun _ => by omega, fun _ => by omega⟩
    · have t1 : ¬ a.toInt = 1 := fun e => h1 (Eq.mpr (i_eq1 (p := a)) e)
      rw [if_neg h1]
      by_cases h2 : a = 2
      · have t2 := Eq.mp (i_eq2 (p := a)) h2
        rw [if_pos h2, T_isPerson_eq, z_ite]
        exact propext ⟨fun _ => by omega, fun _ => by omega⟩
      · have t2 : ¬ a.toInt = 2 := fun e => h2 (Eq.mpr (i_eq2 (p := a)) e)
        rw [if_neg h2]
        exact propext ⟨fun _ => by omega, fun _ => rfl⟩
theorem nr_ite (P : Prop) [Decidable P] : narrow .boolean (.int (if P then (1 : Int32) else 0)) = .int (if P then (1 : Int32) else 0) := by
  by_cases h : P
  · rw [if_pos h]; rfl
  · rw [if_neg h]; rfl
theorem Sf_isTrigger (S : Nat → Nat → Int32) (a b : Int32) : Sf_T_isTrigger S a b := by
  unfold Sf_T_isTrigger
  rw [T_isState_eq, T_isField_eq]
  split
  · trivial
  · split
    · exact ⟨nr_ite _, trivial⟩
    · split
      · exact ⟨nr_ite _, trivial⟩
      · trivial
theorem Sf_isAction (S : Nat → Nat → Int32) (a b : Int32) : Sf_T_isAction S a b := by
  unfold Sf_T_isAction
  rw [T_isState_eq, T_isField_eq, T_isPerson_eq]
  split
  · exact ⟨nr_ite _, trivial⟩
  · split
    · exact ⟨nr_ite _, trivial⟩
    · split
      · exact ⟨nr_ite _, trivial⟩
      · trivial
def zPr (a1 a2 a3 a4 a5 a6 : Int) : Prop := zPt a1 a2 ∧ (0 ≤ a3 ∧ a3 ≤ 3) ∧ zPa a4 a5 ∧ 0 ≤ a6 ∧ a6 ≤ 99
theorem ite_2 {α : Type} {c : Prop} [Decidable c] {U V Z : α} (h1 : c → U = Z) (h2 : ¬ c → V = Z) : (if c then U else V) = Z := by
  by_cases h : c
  · rw [if_pos h]; exact h1 h
  · rw [if_neg h]; exact h2 h
theorem ite_p {c U V : Prop} [Decidable c] (h1 : c → U) (h2 : ¬ c → V) : if c then U else V := by
  by_cases h : c
  · rw [if_pos h]; exact h1 h
  · rw [if_neg h]; exact h2 h
theorem M_rule_no (S : Nat → Nat → Int32) (a1 a2 a3 a4 a5 a6 : Int32) (h : ¬ zPr a1.toInt a2.toInt a3.toInt a4.toInt a5.toInt a6.toInt) : F_M_rule S a1 a2 a3 a4 a5 a6 = F_M_rule_j112 S a1 a2 a3 a4 a5 a6 0 ∧ (Sf_M_rule_j112 S a1 a2 a3 a4 a5 a6 0 → Sf_M_rule S a1 a2 a3 a4 a5 a6) := by
  unfold F_M_rule F_M_rule_j29 F_M_rule_j58 F_M_rule_j59 F_M_rule_j90 F_M_rule_j111 Sf_M_rule Sf_M_rule_j29 Sf_M_rule_j58 Sf_M_rule_j59 Sf_M_rule_j90 Sf_M_rule_j111
  unfold zPr zPt zPa at h
  simp only [M_isIn_eq, z_ite]
  simp only [i_eq0, i_eq1, i_eq2, show (0 : Int32).toInt = 0 from rfl, show (1 : Int32).toInt = 1 from rfl, show (2 : Int32).toInt = 2 from rfl, show (3 : Int32).toInt = 3 from rfl, show (5 : Int32).toInt = 5 from rfl, show (7 : Int32).toInt = 7 from rfl, show (99 : Int32).toInt = 99 from rfl, show ¬ ((1 : Int) = 0) by decide, eq_self, not_true, if_true, if_false]
  refine ⟨?_, fun hh => ?_⟩
  · repeat' first | rfl | (exfalso; omega) | refine ite_2 (fun _ => ?_) (fun _ => ?_)
  · repeat' first | exact hh | (exfalso; omega) | refine ite_p (fun _ => ?_) (fun _ => ?_)
theorem M_rule_yes (S : Nat → Nat → Int32) (a1 a2 a3 a4 a5 a6 : Int32) (h : zPr a1.toInt a2.toInt a3.toInt a4.toInt a5.toInt a6.toInt) : F_M_rule S a1 a2 a3 a4 a5 a6 = F_M_rule_j112 S a1 a2 a3 a4 a5 a6 1 ∧ (Sf_M_rule_j112 S a1 a2 a3 a4 a5 a6 1 → Sf_M_rule S a1 a2 a3 a4 a5 a6) := by
  unfold F_M_rule F_M_rule_j29 F_M_rule_j58 F_M_rule_j59 F_M_rule_j90 F_M_rule_j111 Sf_M_rule Sf_M_rule_j29 Sf_M_rule_j58 Sf_M_rule_j59 Sf_M_rule_j90 Sf_M_rule_j111
  unfold zPr zPt zPa at h
  simp only [M_isIn_eq, z_ite]
  simp only [i_eq0, i_eq1, i_eq2, show (0 : Int32).toInt = 0 from rfl, show (1 : Int32).toInt = 1 from rfl, show (2 : Int32).toInt = 2 from rfl, show (3 : Int32).toInt = 3 from rfl, show (5 : Int32).toInt = 5 from rfl, show (7 : Int32).toInt = 7 from rfl, show (99 : Int32).toInt = 99 from rfl, show ¬ ((1 : Int) = 0) by decide, eq_self, not_true, if_true, if_false]
  refine ⟨?_, fun hh => ?_⟩
  · repeat' first | rfl | (exfalso; omega) | refine ite_2 (fun _ => ?_) (fun _ => ?_)
  · repeat' first | exact hh | (exfalso; omega) | refine ite_p (fun _ => ?_) (fun _ => ?_)
