/-! PURE: schemes, kinds, goals, days -/
def zCA (S : Nat → Nat → Int32) : Prop := zEqN 3 (S 37) (S 124) ∧ zEqN 3 (S 38) (S 125) ∧ zEqN 3 (S 39) (S 126) ∧ zEqN 4 (S 40) (S 127)
theorem zCA.see {S : Nat → Nat → Int32} (h : zCA S) : zEqN 3 (S 37) (S 124) := h.1
theorem zCA.edit {S : Nat → Nat → Int32} (h : zCA S) : zEqN 3 (S 38) (S 125) := h.2.1
theorem zCA.clr {S : Nat → Nat → Int32} (h : zCA S) : zEqN 3 (S 39) (S 126) := h.2.2.1
theorem zCA.read {S : Nat → Nat → Int32} (h : zCA S) : zEqN 4 (S 40) (S 127) := h.2.2.2
def zDA : List zLoc := [(37, none), (38, none), (39, none), (40, none), (124, none), (125, none), (126, none), (127, none)]
theorem zCA.ag {S S' : Nat → Nat → Int32} (h : zCA S) (g : zAg zDA S S') : zCA S' := by
  refine ⟨?_, ?_, ?_, ?_⟩
  · rw [g.cell (a := 37) (by decide), g.cell (a := 124) (by decide)]; exact h.see
  · rw [g.cell (a := 38) (by decide), g.cell (a := 125) (by decide)]; exact h.edit
  · rw [g.cell (a := 39) (by decide), g.cell (a := 126) (by decide)]; exact h.clr
  · rw [g.cell (a := 40) (by decide), g.cell (a := 127) (by decide)]; exact h.read
/-- kinds and goals -/
def zCK (S : Nat → Nat → Int32) : Prop := zEqN 3 (S 44) (S 128) ∧ zEqN 3 (S 45) (S 129) ∧ zEqN 3 (S 46) (S 130) ∧ zEqN 3 (S 47) (S 164) ∧ zEqN 3 (S 48) (S 165) ∧ zEqN 3 (S 49) (S 166)
theorem zCK.fields {S : Nat → Nat → Int32} (h : zCK S) : zEqN 3 (S 44) (S 128) := h.1
theorem zCK.ways {S : Nat → Nat → Int32} (h : zCK S) : zEqN 3 (S 45) (S 129) := h.2.1
theorem zCK.overs {S : Nat → Nat → Int32} (h : zCK S) : zEqN 3 (S 46) (S 130) := h.2.2.1
theorem zCK.days {S : Nat → Nat → Int32} (h : zCK S) : zEqN 3 (S 47) (S 164) := h.2.2.2.1
theorem zCK.runs {S : Nat → Nat → Int32} (h : zCK S) : zEqN 3 (S 48) (S 165) := h.2.2.2.2.1
theorem zCK.goals {S : Nat → Nat → Int32} (h : zCK S) : zEqN 3 (S 49) (S 166) := h.2.2.2.2.2
def zDK : List zLoc := [(44, none), (45, none), (46, none), (47, none), (48, none), (49, none), (128, none), (129, none), (130, none), (164, none), (165, none), (166, none)]
theorem zCK.ag {S S' : Nat → Nat → Int32} (h : zCK S) (g : zAg zDK S S') : zCK S' := by
  refine ⟨?_, ?_, ?_, ?_, ?_, ?_⟩
  · rw [g.cell (a := 44) (by decide), g.cell (a := 128) (by decide)]; exact h.fields
  · rw [g.cell (a := 45) (by decide), g.cell (a := 129) (by decide)]; exact h.ways
  · rw [g.cell (a := 46) (by decide), g.cell (a := 130) (by decide)]; exact h.overs
  · rw [g.cell (a := 47) (by decide), g.cell (a := 164) (by decide)]; exact h.days
  · rw [g.cell (a := 48) (by decide), g.cell (a := 165) (by decide)]; exact h.runs
  · rw [g.cell (a := 49) (by decide), g.cell (a := 166) (by decide)]; exact h.goals
theorem upd_pair {n : Nat} {f g f' g' : Nat → Int32} {j : Nat} {v : Int32} (h : zEqN n f g) (hf : f' = upd f j v) (hg : g' = upd g j v) : zEqN n f' g' := by rw [hf, hg]; exact h.upd j v

theorem z_b10 : ((1 : Int32) = 0) = False := by simp
theorem z_b01 : ((0 : Int32) = 0) = True := by simp
theorem z_b20 : ((2 : Int32) = 0) = False := by simp
theorem z_b30 : ((3 : Int32) = 0) = False := by simp
theorem z_le00 : ((0 : Int32) ≤ 0) = True := by simp
theorem z_le10 : ((1 : Int32) ≤ 0) = False := by decide
theorem z_le20 : ((2 : Int32) ≤ 0) = False := by decide
theorem z_le30 : ((3 : Int32) ≤ 0) = False := by decide
def zW1 : List zLoc := [(37, none), (124, none), (38, none), (125, none), (78, some 0), (193, none)]
theorem o_1 (fl : Nat → Nat) {S : Nat → Nat → Int32} (a1 a2 a3 a4 a5 a6 : Int32) (h : zCA S) : Sl_1 fl S a1 a2 a3 a4 a5 a6 ∧ zCA (Fl_1 fl S a1 a2 a3 a4 a5 a6) ∧ zWr zW1 S (Fl_1 fl S a1 a2 a3 a4 a5 a6) := by
  unfold Sl_1 Fl_1 Sf_L_scheme F_L_scheme F_T_scheme Sf_M_scheme F_M_scheme F_M_thrown Sf_M_scheme_j38 F_M_scheme_j38 Sf_M_scheme_j39 F_M_scheme_j39
  simp only [T_isProject_eq, T_isRoles_eq, T_isKind_eq, T_isNumber_eq, T_isField_eq, T_isAnyField_eq, M_isIn_eq, T_lt, T_le, show (0 : Int32).toInt = 0 from rfl, show (1 : Int32).toInt = 1 from rfl, show (2 : Int32).toInt = 2 from rfl, show (3 : Int32).toInt = 3 from rfl, show (6 : Int32).toInt = 6 from rfl, show (7 : Int32).toInt = 7 from rfl, show (15 : Int32).toInt = 15 from rfl, show (60 : Int32).toInt = 60 from rfl, show (63 : Int32).toInt = 63 from rfl, show (99 : Int32).toInt = 99 from rfl, show (400 : Int32).toInt = 400 from rfl, show ((-1) : Int32).toInt = (-1) from rfl]
  by_cases h1 : 0 ≤ a1.toInt ∧ a1.toInt < 3
  case neg =>
    have m0 : ¬ (0 ≤ a1.toInt ∧ a1.toInt ≤ 2) := by omega
    simp only [if_neg h1, if_neg m0, z_b10, z_b01, z_b20, z_b30, z_le00, z_le10, z_le20, z_le30, if_true, if_false, ite_self]
    exact ⟨⟨fun E S2 hE => by cases hE; simp, trivial, by simp [uS_at], fun h0 => absurd h0 (by decide)⟩, h.ag ((zWr.slot (W := [(78, some 0)]) (by decide) S _).ag (by decide)), zWr.slot (by decide) S _⟩
  case pos =>
    by_cases h2 : 0 ≤ a2.toInt ∧ a2.toInt ≤ 15
    case neg =>
      have m0 : 0 ≤ a1.toInt ∧ a1.toInt ≤ 2 := by omega
      simp only [if_pos h1, if_neg h2, if_pos m0, z_b10, z_b01, z_b20, z_b30, z_le00, z_le10, z_le20, z_le30, if_true, if_false, ite_self]
      exact ⟨⟨fun E S2 hE => by cases hE; simp, trivial, by simp [uS_at], fun h0 => absurd h0 (by decide)⟩, h.ag ((zWr.slot (W := [(78, some 0)]) (by decide) S _).ag (by decide)), zWr.slot (by decide) S _⟩
    case pos =>
      by_cases h3 : 0 ≤ a3.toInt ∧ a3.toInt ≤ 15
      case neg =>
        have m0 : 0 ≤ a1.toInt ∧ a1.toInt ≤ 2 := by omega
        simp only [if_pos h1, if_pos h2, if_neg h3, if_pos m0, z_b10, z_b01, z_b20, z_b30, z_le00, z_le10, z_le20, z_le30, if_true, if_false, ite_self]
        exact ⟨⟨fun E S2 hE => by cases hE; simp, trivial, by simp [uS_at], fun h0 => absurd h0 (by decide)⟩, h.ag ((zWr.slot (W := [(78, some 0)]) (by decide) S _).ag (by decide)), zWr.slot (by decide) S _⟩
      case pos =>
        have m0 : 0 ≤ a1.toInt ∧ a1.toInt ≤ 2 := by omega
        simp only [if_pos h1, if_pos h2, if_pos h3, if_pos m0, z_b10, z_b01, z_b20, z_b30, z_le00, z_le10, z_le20, z_le30, if_true, if_false, ite_self]
        have r0 : 0 ≤ a1.toInt := by omega
        have r1 : a1.toInt < 3 := by omega
        have hi : a1.toNatClampNeg < 3 := by have := i_clamp r0; omega
        have hv := vp_inI (len := 3) r0 r1
        simp only [zPut_in (len := 3) r0 r1, zAt_in (len := 3) r0 r1]
        refine ⟨⟨(fun E S2 hE => by cases hE), by simp [hv], ?_, fun _ => ?_⟩, ⟨?_, ?_, ?_, ?_⟩, ?_⟩
        · simp [z_uS, upd]
        · simp [z_uS, upd, h.see _ hi, h.edit _ hi, Int32.mul_comm]
        · exact upd_pair (j := a1.toNatClampNeg) (v := a2) h.see (by simp [z_uS]) (by simp [z_uS])
        · exact upd_pair (j := a1.toNatClampNeg) (v := a3) h.edit (by simp [z_uS]) (by simp [z_uS])
        · simpa [z_uS] using h.clr
        · simpa [z_uS] using h.read
        · exact ((zWr.cell (by decide) S _ _).trans ((zWr.cell (by decide) _ _ _).trans ((zWr.cell (by decide) _ _ _).trans ((zWr.slot (by decide) _ _).trans ((zWr.cell (by decide) _ _ _).trans (zWr.cell (by decide) _ _ _))))))
def zW2 : List zLoc := [(39, none), (126, none), (78, some 0), (193, none)]
theorem o_2 (fl : Nat → Nat) {S : Nat → Nat → Int32} (a1 a2 a3 a4 a5 a6 : Int32) (h : zCA S) : Sl_2 fl S a1 a2 a3 a4 a5 a6 ∧ zCA (Fl_2 fl S a1 a2 a3 a4 a5 a6) ∧ zWr zW2 S (Fl_2 fl S a1 a2 a3 a4 a5 a6) := by
  unfold Sl_2 Fl_2 Sf_L_secure F_L_secure F_T_secure Sf_M_secure F_M_secure F_M_thrown Sf_M_secure_j24 F_M_secure_j24 Sf_M_secure_j25 F_M_secure_j25
  simp only [T_isProject_eq, T_isRoles_eq, T_isKind_eq, T_isNumber_eq, T_isField_eq, T_isAnyField_eq, M_isIn_eq, T_lt, T_le, show (0 : Int32).toInt = 0 from rfl, show (1 : Int32).toInt = 1 from rfl, show (2 : Int32).toInt = 2 from rfl, show (3 : Int32).toInt = 3 from rfl, show (6 : Int32).toInt = 6 from rfl, show (7 : Int32).toInt = 7 from rfl, show (15 : Int32).toInt = 15 from rfl, show (60 : Int32).toInt = 60 from rfl, show (63 : Int32).toInt = 63 from rfl, show (99 : Int32).toInt = 99 from rfl, show (400 : Int32).toInt = 400 from rfl, show ((-1) : Int32).toInt = (-1) from rfl]
  by_cases h1 : a1.toInt < 1
  case pos =>
    have m0 : ¬ (1 ≤ a1.toInt ∧ a1.toInt ≤ 2) := by omega
    simp only [if_pos h1, if_neg m0, z_b10, z_b01, z_b20, z_b30, z_le00, z_le10, z_le20, z_le30, if_true, if_false, ite_self]
    exact ⟨⟨fun E S2 hE => by cases hE; simp, trivial, by simp [uS_at], fun h0 => absurd h0 (by decide)⟩, h.ag ((zWr.slot (W := [(78, some 0)]) (by decide) S _).ag (by decide)), zWr.slot (by decide) S _⟩
  case neg =>
    by_cases h2 : 3 ≤ a1.toInt
    case pos =>
      have m0 : ¬ (1 ≤ a1.toInt ∧ a1.toInt ≤ 2) := by omega
      simp only [if_neg h1, if_pos h2, if_neg m0, z_b10, z_b01, z_b20, z_b30, z_le00, z_le10, z_le20, z_le30, if_true, if_false, ite_self]
      exact ⟨⟨fun E S2 hE => by cases hE; simp, trivial, by simp [uS_at], fun h0 => absurd h0 (by decide)⟩, h.ag ((zWr.slot (W := [(78, some 0)]) (by decide) S _).ag (by decide)), zWr.slot (by decide) S _⟩
    case neg =>
      by_cases h3 : 0 ≤ a2.toInt ∧ a2.toInt ≤ 15
      case neg =>
        have m0 : 1 ≤ a1.toInt ∧ a1.toInt ≤ 2 := by omega
        simp only [if_neg h1, if_neg h2, if_neg h3, if_pos m0, z_b10, z_b01, z_b20, z_b30, z_le00, z_le10, z_le20, z_le30, if_true, if_false, ite_self]
        exact ⟨⟨fun E S2 hE => by cases hE; simp, trivial, by simp [uS_at], fun h0 => absurd h0 (by decide)⟩, h.ag ((zWr.slot (W := [(78, some 0)]) (by decide) S _).ag (by decide)), zWr.slot (by decide) S _⟩
      case pos =>
        have m0 : 1 ≤ a1.toInt ∧ a1.toInt ≤ 2 := by omega
        simp only [if_neg h1, if_neg h2, if_pos h3, if_pos m0, z_b10, z_b01, z_b20, z_b30, z_le00, z_le10, z_le20, z_le30, if_true, if_false, ite_self]
        have r0 : 0 ≤ a1.toInt := by omega
        have r1 : a1.toInt < 3 := by omega
        have hi : a1.toNatClampNeg < 3 := by have := i_clamp r0; omega
        have hv := vp_inI (len := 3) r0 r1
        simp only [zPut_in (len := 3) r0 r1, zAt_in (len := 3) r0 r1]
        refine ⟨⟨(fun E S2 hE => by cases hE), by simp [hv], ?_, fun _ => ?_⟩, ⟨?_, ?_, ?_, ?_⟩, ?_⟩
        · simp [z_uS, upd]
        · simp [z_uS, upd, h.clr _ hi, Int32.mul_comm]
        · simpa [z_uS] using h.see
        · simpa [z_uS] using h.edit
        · exact upd_pair (j := a1.toNatClampNeg) (v := a2) h.clr (by simp [z_uS]) (by simp [z_uS])
        · simpa [z_uS] using h.read
        · exact ((zWr.cell (by decide) S _ _).trans ((zWr.cell (by decide) _ _ _).trans ((zWr.slot (by decide) _ _).trans (zWr.cell (by decide) _ _ _))))
def zW3 : List zLoc := [(40, none), (127, none), (78, some 0), (193, none)]
theorem o_3 (fl : Nat → Nat) {S : Nat → Nat → Int32} (a1 a2 a3 a4 a5 a6 : Int32) (h : zCA S) : Sl_3 fl S a1 a2 a3 a4 a5 a6 ∧ zCA (Fl_3 fl S a1 a2 a3 a4 a5 a6) ∧ zWr zW3 S (Fl_3 fl S a1 a2 a3 a4 a5 a6) := by
  unfold Sl_3 Fl_3 Sf_L_reads F_L_reads F_T_reads Sf_M_reads_2 F_M_reads_2 F_M_thrown Sf_M_reads_2_j24 F_M_reads_2_j24 Sf_M_reads_2_j25 F_M_reads_2_j25
  simp only [T_isProject_eq, T_isRoles_eq, T_isKind_eq, T_isNumber_eq, T_isField_eq, T_isAnyField_eq, M_isIn_eq, T_lt, T_le, show (0 : Int32).toInt = 0 from rfl, show (1 : Int32).toInt = 1 from rfl, show (2 : Int32).toInt = 2 from rfl, show (3 : Int32).toInt = 3 from rfl, show (6 : Int32).toInt = 6 from rfl, show (7 : Int32).toInt = 7 from rfl, show (15 : Int32).toInt = 15 from rfl, show (60 : Int32).toInt = 60 from rfl, show (63 : Int32).toInt = 63 from rfl, show (99 : Int32).toInt = 99 from rfl, show (400 : Int32).toInt = 400 from rfl, show ((-1) : Int32).toInt = (-1) from rfl]
  by_cases h1 : 0 ≤ a1.toInt ∧ a1.toInt ≤ 3
  case neg =>
    simp only [if_neg h1, z_b10, z_b01, z_b20, z_b30, z_le00, z_le10, z_le20, z_le30, if_true, if_false, ite_self]
    exact ⟨⟨fun E S2 hE => by cases hE; simp, trivial, by simp [uS_at], fun h0 => absurd h0 (by decide)⟩, h.ag ((zWr.slot (W := [(78, some 0)]) (by decide) S _).ag (by decide)), zWr.slot (by decide) S _⟩
  case pos =>
    by_cases h3 : 0 ≤ a2.toInt ∧ a2.toInt ≤ 15
    case neg =>
      simp only [if_pos h1, if_neg h3, z_b10, z_b01, z_b20, z_b30, z_le00, z_le10, z_le20, z_le30, if_true, if_false, ite_self]
      exact ⟨⟨fun E S2 hE => by cases hE; simp, trivial, by simp [uS_at], fun h0 => absurd h0 (by decide)⟩, h.ag ((zWr.slot (W := [(78, some 0)]) (by decide) S _).ag (by decide)), zWr.slot (by decide) S _⟩
    case pos =>
      simp only [if_pos h1, if_pos h3, z_b10, z_b01, z_b20, z_b30, z_le00, z_le10, z_le20, z_le30, if_true, if_false, ite_self]
      have r0 : 0 ≤ a1.toInt := by omega
      have r1 : a1.toInt < 4 := by omega
      have hi : a1.toNatClampNeg < 4 := by have := i_clamp r0; omega
      have hv := vp_inI (len := 4) r0 r1
      simp only [zPut_in (len := 4) r0 r1, zAt_in (len := 4) r0 r1]
      refine ⟨⟨(fun E S2 hE => by cases hE), by simp [hv], ?_, fun _ => ?_⟩, ⟨?_, ?_, ?_, ?_⟩, ?_⟩
      · simp [z_uS, upd]
      · simp [z_uS, upd, h.read _ hi, Int32.mul_comm]
      · simpa [z_uS] using h.see
      · simpa [z_uS] using h.edit
      · simpa [z_uS] using h.clr
      · exact upd_pair (j := a1.toNatClampNeg) (v := a2) h.read (by simp [z_uS]) (by simp [z_uS])
      · exact ((zWr.cell (by decide) S _ _).trans ((zWr.cell (by decide) _ _ _).trans ((zWr.slot (by decide) _ _).trans (zWr.cell (by decide) _ _ _))))
def zW7 : List zLoc := [(44, none), (128, none), (45, none), (129, none), (46, none), (130, none), (78, some 0), (193, none)]
theorem o_7 (fl : Nat → Nat) {S : Nat → Nat → Int32} (a1 a2 a3 a4 a5 a6 : Int32) (h : zCK S) : Sl_7 fl S a1 a2 a3 a4 a5 a6 ∧ zCK (Fl_7 fl S a1 a2 a3 a4 a5 a6) ∧ zWr zW7 S (Fl_7 fl S a1 a2 a3 a4 a5 a6) := by
  unfold Sl_7 Fl_7 Sf_L_kind F_L_kind F_T_kind Sf_M_kind F_M_kind F_M_thrown Sf_M_kind_j33 F_M_kind_j33 Sf_M_kind_j34 F_M_kind_j34 Sf_M_kind_j60 F_M_kind_j60
  simp only [T_isProject_eq, T_isRoles_eq, T_isKind_eq, T_isNumber_eq, T_isField_eq, T_isAnyField_eq, M_isIn_eq, T_lt, T_le, show (0 : Int32).toInt = 0 from rfl, show (1 : Int32).toInt = 1 from rfl, show (2 : Int32).toInt = 2 from rfl, show (3 : Int32).toInt = 3 from rfl, show (6 : Int32).toInt = 6 from rfl, show (7 : Int32).toInt = 7 from rfl, show (15 : Int32).toInt = 15 from rfl, show (60 : Int32).toInt = 60 from rfl, show (63 : Int32).toInt = 63 from rfl, show (99 : Int32).toInt = 99 from rfl, show (400 : Int32).toInt = 400 from rfl, show ((-1) : Int32).toInt = (-1) from rfl]
  by_cases h1 : 0 ≤ a1.toInt ∧ a1.toInt < 3
  case neg =>
    have m0 : ¬ (0 ≤ a1.toInt ∧ a1.toInt ≤ 2) := by omega
    simp only [if_neg h1, if_neg m0, z_b10, z_b01, z_b20, z_b30, z_le00, z_le10, z_le20, z_le30, if_true, if_false, ite_self]
    exact ⟨⟨fun E S2 hE => by cases hE; simp, trivial, by simp [uS_at]⟩, h.ag ((zWr.slot (W := [(78, some 0)]) (by decide) S _).ag (by decide)), zWr.slot (by decide) S _⟩
  case pos =>
    by_cases h2 : a2.toInt < 0
    case pos =>
      have m0 : 0 ≤ a1.toInt ∧ a1.toInt ≤ 2 := by omega
      have m1 : ¬ (0 ≤ a2.toInt ∧ a2.toInt ≤ 7) := by omega
      simp only [if_pos h1, if_pos h2, if_pos m0, if_neg m1, z_b10, z_b01, z_b20, z_b30, z_le00, z_le10, z_le20, z_le30, if_true, if_false, ite_self]
      exact ⟨⟨fun E S2 hE => by cases hE; simp, trivial, by simp [uS_at]⟩, h.ag ((zWr.slot (W := [(78, some 0)]) (by decide) S _).ag (by decide)), zWr.slot (by decide) S _⟩
    case neg =>
      by_cases h3 : 7 < a2.toInt
      case pos =>
        have m0 : 0 ≤ a1.toInt ∧ a1.toInt ≤ 2 := by omega
        have m1 : ¬ (0 ≤ a2.toInt ∧ a2.toInt ≤ 7) := by omega
        simp only [if_pos h1, if_neg h2, if_pos h3, if_pos m0, if_neg m1, z_b10, z_b01, z_b20, z_b30, z_le00, z_le10, z_le20, z_le30, if_true, if_false, ite_self]
        exact ⟨⟨fun E S2 hE => by cases hE; simp, trivial, by simp [uS_at]⟩, h.ag ((zWr.slot (W := [(78, some 0)]) (by decide) S _).ag (by decide)), zWr.slot (by decide) S _⟩
      case neg =>
        by_cases h4 : a3.toInt < -1
        case pos =>
          have m0 : 0 ≤ a1.toInt ∧ a1.toInt ≤ 2 := by omega
          have m1 : 0 ≤ a2.toInt ∧ a2.toInt ≤ 7 := by omega
          have m2 : ¬ (-1 ≤ a3.toInt ∧ a3.toInt ≤ 3) := by omega
          simp only [if_pos h1, if_neg h2, if_neg h3, if_pos h4, if_pos m0, if_pos m1, if_neg m2, z_b10, z_b01, z_b20, z_b30, z_le00, z_le10, z_le20, z_le30, if_true, if_false, ite_self]
          exact ⟨⟨fun E S2 hE => by cases hE; simp, trivial, by simp [uS_at]⟩, h.ag ((zWr.slot (W := [(78, some 0)]) (by decide) S _).ag (by decide)), zWr.slot (by decide) S _⟩
        case neg =>
          by_cases h5 : 3 < a3.toInt
          case pos =>
            have m0 : 0 ≤ a1.toInt ∧ a1.toInt ≤ 2 := by omega
            have m1 : 0 ≤ a2.toInt ∧ a2.toInt ≤ 7 := by omega
            have m2 : ¬ (-1 ≤ a3.toInt ∧ a3.toInt ≤ 3) := by omega
            simp only [if_pos h1, if_neg h2, if_neg h3, if_neg h4, if_pos h5, if_pos m0, if_pos m1, if_neg m2, z_b10, z_b01, z_b20, z_b30, z_le00, z_le10, z_le20, z_le30, if_true, if_false, ite_self]
            exact ⟨⟨fun E S2 hE => by cases hE; simp, trivial, by simp [uS_at]⟩, h.ag ((zWr.slot (W := [(78, some 0)]) (by decide) S _).ag (by decide)), zWr.slot (by decide) S _⟩
          case neg =>
            by_cases h6 : 0 ≤ a4.toInt ∧ a4.toInt < 3
            case neg =>
              have m0 : 0 ≤ a1.toInt ∧ a1.toInt ≤ 2 := by omega
              have m1 : 0 ≤ a2.toInt ∧ a2.toInt ≤ 7 := by omega
              have m2 : -1 ≤ a3.toInt ∧ a3.toInt ≤ 3 := by omega
              have m3 : ¬ (0 ≤ a4.toInt ∧ a4.toInt ≤ 2) := by omega
              simp only [if_pos h1, if_neg h2, if_neg h3, if_neg h4, if_neg h5, if_neg h6, if_pos m0, if_pos m1, if_pos m2, if_neg m3, z_b10, z_b01, z_b20, z_b30, z_le00, z_le10, z_le20, z_le30, if_true, if_false, ite_self]
              exact ⟨⟨fun E S2 hE => by cases hE; simp, trivial, by simp [uS_at]⟩, h.ag ((zWr.slot (W := [(78, some 0)]) (by decide) S _).ag (by decide)), zWr.slot (by decide) S _⟩
            case pos =>
              have m0 : 0 ≤ a1.toInt ∧ a1.toInt ≤ 2 := by omega
              have m1 : 0 ≤ a2.toInt ∧ a2.toInt ≤ 7 := by omega
              have m2 : -1 ≤ a3.toInt ∧ a3.toInt ≤ 3 := by omega
              have m3 : 0 ≤ a4.toInt ∧ a4.toInt ≤ 2 := by omega
              simp only [if_pos h1, if_neg h2, if_neg h3, if_neg h4, if_neg h5, if_pos h6, if_pos m0, if_pos m1, if_pos m2, if_pos m3, z_b10, z_b01, z_b20, z_b30, z_le00, z_le10, z_le20, z_le30, if_true, if_false, ite_self]
              have r0 : 0 ≤ a1.toInt := by omega
              have r1 : a1.toInt < 3 := by omega
              have hi : a1.toNatClampNeg < 3 := by have := i_clamp r0; omega
              have hv := vp_inI (len := 3) r0 r1
              simp only [zPut_in (len := 3) r0 r1, zAt_in (len := 3) r0 r1]
              refine ⟨⟨(fun E S2 hE => by cases hE), by simp [hv], ?_⟩, ⟨?_, ?_, ?_, ?_, ?_, ?_⟩, ?_⟩
              · simp [z_uS, upd]
              · exact upd_pair (j := a1.toNatClampNeg) (v := a2) h.fields (by simp [z_uS]) (by simp [z_uS])
              · exact upd_pair (j := a1.toNatClampNeg) (v := a3) h.ways (by simp [z_uS]) (by simp [z_uS])
              · exact upd_pair (j := a1.toNatClampNeg) (v := a4) h.overs (by simp [z_uS]) (by simp [z_uS])
              · simpa [z_uS] using h.days
              · simpa [z_uS] using h.runs
              · simpa [z_uS] using h.goals
              · exact ((zWr.cell (by decide) S _ _).trans ((zWr.cell (by decide) _ _ _).trans ((zWr.cell (by decide) _ _ _).trans ((zWr.slot (by decide) _ _).trans ((zWr.cell (by decide) _ _ _).trans ((zWr.cell (by decide) _ _ _).trans (zWr.cell (by decide) _ _ _)))))))
def zW37 : List zLoc := [(47, none), (164, none), (48, none), (165, none), (49, none), (166, none), (78, some 0), (193, none)]
theorem o_37 (fl : Nat → Nat) {S : Nat → Nat → Int32} (a1 a2 a3 a4 a5 a6 : Int32) (h : zCK S) : Sl_37 fl S a1 a2 a3 a4 a5 a6 ∧ zCK (Fl_37 fl S a1 a2 a3 a4 a5 a6) ∧ zWr zW37 S (Fl_37 fl S a1 a2 a3 a4 a5 a6) := by
  unfold Sl_37 Fl_37 Sf_L_goal F_L_goal F_T_goal Sf_M_goal F_M_goal F_M_thrown Sf_M_goal_j35 F_M_goal_j35 Sf_M_goal_j36 F_M_goal_j36 Sf_M_goal_j62 F_M_goal_j62
  simp only [T_isProject_eq, T_isRoles_eq, T_isKind_eq, T_isNumber_eq, T_isField_eq, T_isAnyField_eq, M_isIn_eq, T_lt, T_le, show (0 : Int32).toInt = 0 from rfl, show (1 : Int32).toInt = 1 from rfl, show (2 : Int32).toInt = 2 from rfl, show (3 : Int32).toInt = 3 from rfl, show (6 : Int32).toInt = 6 from rfl, show (7 : Int32).toInt = 7 from rfl, show (15 : Int32).toInt = 15 from rfl, show (60 : Int32).toInt = 60 from rfl, show (63 : Int32).toInt = 63 from rfl, show (99 : Int32).toInt = 99 from rfl, show (400 : Int32).toInt = 400 from rfl, show ((-1) : Int32).toInt = (-1) from rfl]
  by_cases h1 : 0 ≤ a1.toInt ∧ a1.toInt < 3
  case neg =>
    have m0 : ¬ (0 ≤ a1.toInt ∧ a1.toInt ≤ 2) := by omega
    simp only [if_neg h1, if_neg m0, z_b10, z_b01, z_b20, z_b30, z_le00, z_le10, z_le20, z_le30, if_true, if_false, ite_self]
    exact ⟨⟨fun E S2 hE => by cases hE; simp, trivial, by simp [uS_at], fun h0 => absurd h0 (by decide)⟩, h.ag ((zWr.slot (W := [(78, some 0)]) (by decide) S _).ag (by decide)), zWr.slot (by decide) S _⟩
  case pos =>
    by_cases h2 : 0 ≤ a2.toInt ∧ a2.toInt ≤ 99
    case neg =>
      have m0 : 0 ≤ a1.toInt ∧ a1.toInt ≤ 2 := by omega
      simp only [if_pos h1, if_neg h2, if_pos m0, z_b10, z_b01, z_b20, z_b30, z_le00, z_le10, z_le20, z_le30, if_true, if_false, ite_self]
      exact ⟨⟨fun E S2 hE => by cases hE; simp, trivial, by simp [uS_at], fun h0 => absurd h0 (by decide)⟩, h.ag ((zWr.slot (W := [(78, some 0)]) (by decide) S _).ag (by decide)), zWr.slot (by decide) S _⟩
    case pos =>
      by_cases h3 : a3.toInt < 0
      case pos =>
        have m0 : 0 ≤ a1.toInt ∧ a1.toInt ≤ 2 := by omega
        have m1 : ¬ (0 ≤ a3.toInt ∧ a3.toInt ≤ 63) := by omega
        simp only [if_pos h1, if_pos h2, if_pos h3, if_pos m0, if_neg m1, z_b10, z_b01, z_b20, z_b30, z_le00, z_le10, z_le20, z_le30, if_true, if_false, ite_self]
        exact ⟨⟨fun E S2 hE => by cases hE; simp, trivial, by simp [uS_at], fun h0 => absurd h0 (by decide)⟩, h.ag ((zWr.slot (W := [(78, some 0)]) (by decide) S _).ag (by decide)), zWr.slot (by decide) S _⟩
      case neg =>
        by_cases h4 : 63 < a3.toInt
        case pos =>
          have m0 : 0 ≤ a1.toInt ∧ a1.toInt ≤ 2 := by omega
          have m1 : ¬ (0 ≤ a3.toInt ∧ a3.toInt ≤ 63) := by omega
          simp only [if_pos h1, if_pos h2, if_neg h3, if_pos h4, if_pos m0, if_neg m1, z_b10, z_b01, z_b20, z_b30, z_le00, z_le10, z_le20, z_le30, if_true, if_false, ite_self]
          exact ⟨⟨fun E S2 hE => by cases hE; simp, trivial, by simp [uS_at], fun h0 => absurd h0 (by decide)⟩, h.ag ((zWr.slot (W := [(78, some 0)]) (by decide) S _).ag (by decide)), zWr.slot (by decide) S _⟩
        case neg =>
          by_cases h5 : a4.toInt < 0
          case pos =>
            have m0 : 0 ≤ a1.toInt ∧ a1.toInt ≤ 2 := by omega
            have m1 : 0 ≤ a3.toInt ∧ a3.toInt ≤ 63 := by omega
            have m2 : ¬ (0 ≤ a4.toInt ∧ a4.toInt ≤ 63) := by omega
            simp only [if_pos h1, if_pos h2, if_neg h3, if_neg h4, if_pos h5, if_pos m0, if_pos m1, if_neg m2, z_b10, z_b01, z_b20, z_b30, z_le00, z_le10, z_le20, z_le30, if_true, if_false, ite_self]
            exact ⟨⟨fun E S2 hE => by cases hE; simp, trivial, by simp [uS_at], fun h0 => absurd h0 (by decide)⟩, h.ag ((zWr.slot (W := [(78, some 0)]) (by decide) S _).ag (by decide)), zWr.slot (by decide) S _⟩
          case neg =>
            by_cases h6 : 63 < a4.toInt
            case pos =>
              have m0 : 0 ≤ a1.toInt ∧ a1.toInt ≤ 2 := by omega
              have m1 : 0 ≤ a3.toInt ∧ a3.toInt ≤ 63 := by omega
              have m2 : ¬ (0 ≤ a4.toInt ∧ a4.toInt ≤ 63) := by omega
              simp only [if_pos h1, if_pos h2, if_neg h3, if_neg h4, if_neg h5, if_pos h6, if_pos m0, if_pos m1, if_neg m2, z_b10, z_b01, z_b20, z_b30, z_le00, z_le10, z_le20, z_le30, if_true, if_false, ite_self]
              exact ⟨⟨fun E S2 hE => by cases hE; simp, trivial, by simp [uS_at], fun h0 => absurd h0 (by decide)⟩, h.ag ((zWr.slot (W := [(78, some 0)]) (by decide) S _).ag (by decide)), zWr.slot (by decide) S _⟩
            case neg =>
              have m0 : 0 ≤ a1.toInt ∧ a1.toInt ≤ 2 := by omega
              have m1 : 0 ≤ a3.toInt ∧ a3.toInt ≤ 63 := by omega
              have m2 : 0 ≤ a4.toInt ∧ a4.toInt ≤ 63 := by omega
              simp only [if_pos h1, if_pos h2, if_neg h3, if_neg h4, if_neg h5, if_neg h6, if_pos m0, if_pos m1, if_pos m2, z_b10, z_b01, z_b20, z_b30, z_le00, z_le10, z_le20, z_le30, if_true, if_false, ite_self]
              have r0 : 0 ≤ a1.toInt := by omega
              have r1 : a1.toInt < 3 := by omega
              have hi : a1.toNatClampNeg < 3 := by have := i_clamp r0; omega
              have hv := vp_inI (len := 3) r0 r1
              simp only [zPut_in (len := 3) r0 r1, zAt_in (len := 3) r0 r1]
              refine ⟨⟨(fun E S2 hE => by cases hE), by simp [hv], ?_, fun _ => ?_⟩, ⟨?_, ?_, ?_, ?_, ?_, ?_⟩, ?_⟩
              · simp [z_uS, upd]
              · simp [z_uS, upd, h.days _ hi, h.runs _ hi, h.goals _ hi, Int32.mul_comm]
              · simpa [z_uS] using h.fields
              · simpa [z_uS] using h.ways
              · simpa [z_uS] using h.overs
              · exact upd_pair (j := a1.toNatClampNeg) (v := a2) h.days (by simp [z_uS]) (by simp [z_uS])
              · exact upd_pair (j := a1.toNatClampNeg) (v := a3) h.runs (by simp [z_uS]) (by simp [z_uS])
              · exact upd_pair (j := a1.toNatClampNeg) (v := a4) h.goals (by simp [z_uS]) (by simp [z_uS])
              · exact ((zWr.cell (by decide) S _ _).trans ((zWr.cell (by decide) _ _ _).trans ((zWr.cell (by decide) _ _ _).trans ((zWr.cell (by decide) _ _ _).trans ((zWr.slot (by decide) _ _).trans ((zWr.cell (by decide) _ _ _).trans ((zWr.cell (by decide) _ _ _).trans (zWr.cell (by decide) _ _ _))))))))
