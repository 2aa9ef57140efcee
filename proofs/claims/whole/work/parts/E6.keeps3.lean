/-! PURE: each call keeps what holds, 3 -/
theorem ek_7 (fl : Nat → Nat) {S : Nat → Nat → Int32} (a1 a2 a3 a4 a5 a6 : Int32) (h : eK S) : eK (Fl_7 fl S a1 a2 a3 a4 a5 a6) := by
  unfold Fl_7 F_L_kind F_T_kind F_M_kind F_M_kind_j33 F_M_kind_j34 F_M_kind_j60
  simp only [T_isProject_eq, T_isRoles_eq, T_isKind_eq, T_isNumber_eq, T_isField_eq, T_isAnyField_eq, M_isIn_eq, T_lt, T_le, show (0 : Int32).toInt = 0 from rfl, show (1 : Int32).toInt = 1 from rfl, show (2 : Int32).toInt = 2 from rfl, show (3 : Int32).toInt = 3 from rfl, show (6 : Int32).toInt = 6 from rfl, show (7 : Int32).toInt = 7 from rfl, show (15 : Int32).toInt = 15 from rfl, show (60 : Int32).toInt = 60 from rfl, show (63 : Int32).toInt = 63 from rfl, show (99 : Int32).toInt = 99 from rfl, show (400 : Int32).toInt = 400 from rfl, show ((-1) : Int32).toInt = (-1) from rfl]
  by_cases h1 : 0 ≤ a1.toInt ∧ a1.toInt < 3
  case neg =>
    have m0 : ¬ (0 ≤ a1.toInt ∧ a1.toInt ≤ 2) := by omega
    simp only [if_neg h1, if_neg m0, z_b10, z_b01, z_b20, z_b30, z_le00, z_le10, z_le20, z_le30, if_true, if_false, ite_self]
    exact h.ag (z_uS_ne _ _ _ (by omega)) (z_uS_ne _ _ _ (by omega))
  case pos =>
    by_cases h2 : a2.toInt < 0
    case pos =>
      have m0 : 0 ≤ a1.toInt ∧ a1.toInt ≤ 2 := by omega
      have m1 : ¬ (0 ≤ a2.toInt ∧ a2.toInt ≤ 7) := by omega
      simp only [if_pos h1, if_pos h2, if_pos m0, if_neg m1, z_b10, z_b01, z_b20, z_b30, z_le00, z_le10, z_le20, z_le30, if_true, if_false, ite_self]
      exact h.ag (z_uS_ne _ _ _ (by omega)) (z_uS_ne _ _ _ (by omega))
    case neg =>
      by_cases h3 : 7 < a2.toInt
      case pos =>
        have m0 : 0 ≤ a1.toInt ∧ a1.toInt ≤ 2 := by omega
        have m1 : ¬ (0 ≤ a2.toInt ∧ a2.toInt ≤ 7) := by omega
        simp only [if_pos h1, if_neg h2, if_pos h3, if_pos m0, if_neg m1, z_b10, z_b01, z_b20, z_b30, z_le00, z_le10, z_le20, z_le30, if_true, if_false, ite_self]
        exact h.ag (z_uS_ne _ _ _ (by omega)) (z_uS_ne _ _ _ (by omega))
      case neg =>
        by_cases h4 : a3.toInt < -1
        case pos =>
          have m0 : 0 ≤ a1.toInt ∧ a1.toInt ≤ 2 := by omega
          have m1 : 0 ≤ a2.toInt ∧ a2.toInt ≤ 7 := by omega
          have m2 : ¬ (-1 ≤ a3.toInt ∧ a3.toInt ≤ 3) := by omega
          simp only [if_pos h1, if_neg h2, if_neg h3, if_pos h4, if_pos m0, if_pos m1, if_neg m2, z_b10, z_b01, z_b20, z_b30, z_le00, z_le10, z_le20, z_le30, if_true, if_false, ite_self]
          exact h.ag (z_uS_ne _ _ _ (by omega)) (z_uS_ne _ _ _ (by omega))
        case neg =>
          by_cases h5 : 3 < a3.toInt
          case pos =>
            have m0 : 0 ≤ a1.toInt ∧ a1.toInt ≤ 2 := by omega
            have m1 : 0 ≤ a2.toInt ∧ a2.toInt ≤ 7 := by omega
            have m2 : ¬ (-1 ≤ a3.toInt ∧ a3.toInt ≤ 3) := by omega
            simp only [if_pos h1, if_neg h2, if_neg h3, if_neg h4, if_pos h5, if_pos m0, if_pos m1, if_neg m2, z_b10, z_b01, z_b20, z_b30, z_le00, z_le10, z_le20, z_le30, if_true, if_false, ite_self]
            exact h.ag (z_uS_ne _ _ _ (by omega)) (z_uS_ne _ _ _ (by omega))
          case neg =>
            by_cases h6 : 0 ≤ a4.toInt ∧ a4.toInt < 3
            case neg =>
              have m0 : 0 ≤ a1.toInt ∧ a1.toInt ≤ 2 := by omega
              have m1 : 0 ≤ a2.toInt ∧ a2.toInt ≤ 7 := by omega
              have m2 : -1 ≤ a3.toInt ∧ a3.toInt ≤ 3 := by omega
              have m3 : ¬ (0 ≤ a4.toInt ∧ a4.toInt ≤ 2) := by omega
              simp only [if_pos h1, if_neg h2, if_neg h3, if_neg h4, if_neg h5, if_neg h6, if_pos m0, if_pos m1, if_pos m2, if_neg m3, z_b10, z_b01, z_b20, z_b30, z_le00, z_le10, z_le20, z_le30, if_true, if_false, ite_self]
              exact h.ag (z_uS_ne _ _ _ (by omega)) (z_uS_ne _ _ _ (by omega))
            case pos =>
              have m0 : 0 ≤ a1.toInt ∧ a1.toInt ≤ 2 := by omega
              have m1 : 0 ≤ a2.toInt ∧ a2.toInt ≤ 7 := by omega
              have m2 : -1 ≤ a3.toInt ∧ a3.toInt ≤ 3 := by omega
              have m3 : 0 ≤ a4.toInt ∧ a4.toInt ≤ 2 := by omega
              simp only [if_pos h1, if_neg h2, if_neg h3, if_neg h4, if_neg h5, if_pos h6, if_pos m0, if_pos m1, if_pos m2, if_pos m3, z_b10, z_b01, z_b20, z_b30, z_le00, z_le10, z_le20, z_le30, if_true, if_false, ite_self]
              have r0 : 0 ≤ a1.toInt := by omega
              have r1 : a1.toInt < 3 := by omega
              have hi : a1.toNatClampNeg < 3 := by have := i_clamp r0; omega
              have hv := vp_inI (len := 3) r0 r1
              simp only [zPut_in (len := 3) r0 r1, zAt_in (len := 3) r0 r1]
              intro k hk
              by_cases e : k = a1.toNatClampNeg
              · simp [z_uS, upd, e]; omega
              · have g := h k hk
                simpa [z_uS, upd, e] using g
theorem kg_37 (fl : Nat → Nat) {S : Nat → Nat → Int32} (a1 a2 a3 a4 a5 a6 : Int32) (h : zKG2 S) : zKG2 (Fl_37 fl S a1 a2 a3 a4 a5 a6) := by
  unfold Fl_37 F_L_goal F_T_goal F_M_goal F_M_goal_j35 F_M_goal_j36 F_M_goal_j62
  simp only [T_isProject_eq, T_isRoles_eq, T_isKind_eq, T_isNumber_eq, T_isField_eq, T_isAnyField_eq, M_isIn_eq, T_lt, T_le, show (0 : Int32).toInt = 0 from rfl, show (1 : Int32).toInt = 1 from rfl, show (2 : Int32).toInt = 2 from rfl, show (3 : Int32).toInt = 3 from rfl, show (6 : Int32).toInt = 6 from rfl, show (7 : Int32).toInt = 7 from rfl, show (15 : Int32).toInt = 15 from rfl, show (60 : Int32).toInt = 60 from rfl, show (63 : Int32).toInt = 63 from rfl, show (99 : Int32).toInt = 99 from rfl, show (400 : Int32).toInt = 400 from rfl, show ((-1) : Int32).toInt = (-1) from rfl]
  by_cases h1 : 0 ≤ a1.toInt ∧ a1.toInt < 3
  case neg =>
    have m0 : ¬ (0 ≤ a1.toInt ∧ a1.toInt ≤ 2) := by omega
    simp only [if_neg h1, if_neg m0, z_b10, z_b01, z_b20, z_b30, z_le00, z_le10, z_le20, z_le30, if_true, if_false, ite_self]
    exact h.ag (by simp [z_uS]) (by simp [z_uS])
  case pos =>
    by_cases h2 : 0 ≤ a2.toInt ∧ a2.toInt ≤ 99
    case neg =>
      have m0 : 0 ≤ a1.toInt ∧ a1.toInt ≤ 2 := by omega
      simp only [if_pos h1, if_neg h2, if_pos m0, z_b10, z_b01, z_b20, z_b30, z_le00, z_le10, z_le20, z_le30, if_true, if_false, ite_self]
      exact h.ag (by simp [z_uS]) (by simp [z_uS])
    case pos =>
      by_cases h3 : a3.toInt < 0
      case pos =>
        have m0 : 0 ≤ a1.toInt ∧ a1.toInt ≤ 2 := by omega
        have m1 : ¬ (0 ≤ a3.toInt ∧ a3.toInt ≤ 63) := by omega
        simp only [if_pos h1, if_pos h2, if_pos h3, if_pos m0, if_neg m1, z_b10, z_b01, z_b20, z_b30, z_le00, z_le10, z_le20, z_le30, if_true, if_false, ite_self]
        exact h.ag (by simp [z_uS]) (by simp [z_uS])
      case neg =>
        by_cases h4 : 63 < a3.toInt
        case pos =>
          have m0 : 0 ≤ a1.toInt ∧ a1.toInt ≤ 2 := by omega
          have m1 : ¬ (0 ≤ a3.toInt ∧ a3.toInt ≤ 63) := by omega
          simp only [if_pos h1, if_pos h2, if_neg h3, if_pos h4, if_pos m0, if_neg m1, z_b10, z_b01, z_b20, z_b30, z_le00, z_le10, z_le20, z_le30, if_true, if_false, ite_self]
          exact h.ag (by simp [z_uS]) (by simp [z_uS])
        case neg =>
          by_cases h5 : a4.toInt < 0
          case pos =>
            have m0 : 0 ≤ a1.toInt ∧ a1.toInt ≤ 2 := by omega
            have m1 : 0 ≤ a3.toInt ∧ a3.toInt ≤ 63 := by omega
            have m2 : ¬ (0 ≤ a4.toInt ∧ a4.toInt ≤ 63) := by omega
            simp only [if_pos h1, if_pos h2, if_neg h3, if_neg h4, if_pos h5, if_pos m0, if_pos m1, if_neg m2, z_b10, z_b01, z_b20, z_b30, z_le00, z_le10, z_le20, z_le30, if_true, if_false, ite_self]
            exact h.ag (by simp [z_uS]) (by simp [z_uS])
          case neg =>
            by_cases h6 : 63 < a4.toInt
            case pos =>
              have m0 : 0 ≤ a1.toInt ∧ a1.toInt ≤ 2 := by omega
              have m1 : 0 ≤ a3.toInt ∧ a3.toInt ≤ 63 := by omega
              have m2 : ¬ (0 ≤ a4.toInt ∧ a4.toInt ≤ 63) := by omega
              simp only [if_pos h1, if_pos h2, if_neg h3, if_neg h4, if_neg h5, if_pos h6, if_pos m0, if_pos m1, if_neg m2, z_b10, z_b01, z_b20, z_b30, z_le00, z_le10, z_le20, z_le30, if_true, if_false, ite_self]
              exact h.ag (by simp [z_uS]) (by simp [z_uS])
            case neg =>
              have m0 : 0 ≤ a1.toInt ∧ a1.toInt ≤ 2 := by omega
              have m1 : 0 ≤ a3.toInt ∧ a3.toInt ≤ 63 := by omega
              have m2 : 0 ≤ a4.toInt ∧ a4.toInt ≤ 63 := by omega
              simp only [if_pos h1, if_pos h2, if_neg h3, if_neg h4, if_neg h5, if_neg h6, if_pos m0, if_pos m1, if_pos m2, z_b10, z_b01, z_b20, z_b30, z_le00, z_le10, z_le20, z_le30, if_true, if_false, ite_self]
              have r0 : 0 ≤ a1.toInt := by omega
              have r1 : a1.toInt < 3 := by omega
              have hi : a1.toNatClampNeg < 3 := by have := i_clamp r0; omega
              have hv := vp_inI (len := 3) r0 r1
              simp only [zPut_in (len := 3) r0 r1, zAt_in (len := 3) r0 r1]
              refine ⟨fun k hk => ?_, fun k hk => ?_⟩
              · by_cases e : k = a1.toNatClampNeg
                · simp [z_uS, upd, e]; omega
                · have g := h.1 k hk
                  simpa [z_uS, upd, e] using g
              · by_cases e : k = a1.toNatClampNeg
                · intro z
                  have z2 : a2 = -1 := by simpa [z_uS, upd, e] using z
                  have z3 : (-1 : Int32).toInt = -1 := by decide
                  rw [z2, z3] at h2
                  omega
                · have g := h.2 k hk
                  simpa [z_uS, upd, e] using g
theorem up_4 (fl : Nat → Nat) {S : Nat → Nat → Int32} (a1 a2 a3 a4 a5 a6 : Int32) (h : zCT S) : (S 0 14).toInt ≤ (Fl_4 fl S a1 a2 a3 a4 a5 a6 0 14).toInt := by
  have hnow := h.now
  have hlo := h.lo
  have hhi := h.hi
  unfold Fl_4 F_L_pass F_T_pass F_M_pass F_M_pass_j32 F_M_pass_j52
  simp only [M_isIn_eq, T_lt, T_le, show (0 : Int32).toInt = 0 from rfl, show (1 : Int32).toInt = 1 from rfl, show (60 : Int32).toInt = 60 from rfl, show (400 : Int32).toInt = 400 from rfl, show (2 : Int32).toInt = 2 from rfl]
  by_cases h1 : a1.toInt < 1
  case pos =>
    have m0 : ¬ (1 ≤ a1.toInt ∧ a1.toInt ≤ 60) := by omega
    simp only [if_pos h1, if_neg m0, z_b10, z_b01, if_true, if_false, show ¬ ((1 : Int) ≤ 0) by decide]
    simp [z_uS, upd]
  case neg =>
    by_cases h2 : 60 < a1.toInt
    case pos =>
      have m0 : ¬ (1 ≤ a1.toInt ∧ a1.toInt ≤ 60) := by omega
      simp only [if_neg h1, if_pos h2, if_neg m0, z_b10, z_b01, if_true, if_false, show ¬ ((1 : Int) ≤ 0) by decide]
      simp [z_uS, upd]
    case neg =>
      have m0 : 1 ≤ a1.toInt ∧ a1.toInt ≤ 60 := by omega
      have ea : (S 0 14 + a1).toInt = (S 0 14).toInt + a1.toInt := i_add (by omega) (by omega)
      by_cases h3 : 400 < (S 0 14 + a1).toInt
      case pos =>
        have m1 : ¬ ((S 78 1 + a1).toInt ≤ 400) := by rw [← hnow]; omega
        simp only [if_neg h1, if_neg h2, if_pos h3, if_pos m0, if_neg m1, z_b10, z_b01, z_b20, if_true, if_false, show ¬ ((2 : Int) ≤ 0) by decide]
        simp [z_uS, upd]
      case neg =>
        have m1 : (z_uS (z_uS S 0 14 (S 0 14 + a1)) 193 0 (S 0 14 + a1)) 78 1 = S 0 14 := by simp [z_uS, hnow]
        simp only [if_neg h1, if_neg h2, if_neg h3, if_pos m0, m1, z_b10, z_b01, if_true, if_false, show ((0 : Int) ≤ 0) by decide]
        have m2 : (S 0 14 + a1).toInt ≤ 400 := by omega
        simp only [if_pos m2]
        have e : (z_uS (z_uS (z_uS (z_uS S 0 14 (S 0 14 + a1)) 193 0 (S 0 14 + a1)) 78 0 0) 78 1 (S 0 14 + a1)) 0 14 = S 0 14 + a1 := by simp [z_uS, upd]
        rw [e]; omega
theorem i_7 {m : Nat} {fl : Nat → Nat} {S : Nat → Nat → Int32} (_hm : m < 512) (h : zInv m fl S) (a1 a2 a3 a4 a5 a6 : Int32) : Sl_7 fl S a1 a2 a3 a4 a5 a6 ∧ zInv (m + 1) fl (Fl_7 fl S a1 a2 a3 a4 a5 a6) := by
  obtain ⟨g1, g2, w⟩ := o_7 fl a1 a2 a3 a4 a5 a6 h.1.1.2.1
  have g := w.ag (D := [(47, none), (49, none)]) (by decide)
  exact ⟨g1, zInv.up ⟨h.1.chK g2 (ek_7 fl a1 a2 a3 a4 a5 a6 h.1.2.1) (h.1.2.2.ag (g.cell (by decide)) (g.cell (by decide))) w (by decide +kernel) (by decide +kernel) (by decide +kernel) (by decide +kernel) (by decide +kernel) (by decide +kernel), h.2.keep (w.ag (by decide +kernel))⟩⟩
theorem i_37 {m : Nat} {fl : Nat → Nat} {S : Nat → Nat → Int32} (_hm : m < 512) (h : zInv m fl S) (a1 a2 a3 a4 a5 a6 : Int32) : Sl_37 fl S a1 a2 a3 a4 a5 a6 ∧ zInv (m + 1) fl (Fl_37 fl S a1 a2 a3 a4 a5 a6) := by
  obtain ⟨g1, g2, w⟩ := o_37 fl a1 a2 a3 a4 a5 a6 h.1.1.2.1
  have g := w.ag (D := [(45, none), (46, none)]) (by decide)
  exact ⟨g1, zInv.up ⟨h.1.chK g2 (h.1.2.1.ag (g.cell (by decide)) (g.cell (by decide))) (kg_37 fl a1 a2 a3 a4 a5 a6 h.1.2.2) w (by decide +kernel) (by decide +kernel) (by decide +kernel) (by decide +kernel) (by decide +kernel) (by decide +kernel), h.2.keep (w.ag (by decide +kernel))⟩⟩
theorem i_4 {m : Nat} {fl : Nat → Nat} {S : Nat → Nat → Int32} (_hm : m < 512) (h : zInv m fl S) (a1 a2 a3 a4 a5 a6 : Int32) : Sl_4 fl S a1 a2 a3 a4 a5 a6 ∧ zInv (m + 1) fl (Fl_4 fl S a1 a2 a3 a4 a5 a6) := by
  obtain ⟨d, A, rn, m', h0, hK, hB, hm', s⟩ := h.b0
  have hd4 : d ≤ 400 := h0.ok.2.2.2.2
  have hd1 : S 78 1 = zI d := (h0.bm (zFX.rfl (S := S))).d
  have hT : zCT S := ⟨h0.d.trans hd1.symm, by rw [h0.d, zI_toInt (by omega)]; omega, by rw [h0.d, zI_toInt (by omega)]; omega⟩
  obtain ⟨g1, g2, w⟩ := o_4 fl a1 a2 a3 a4 a5 a6 hT
  have up := up_4 fl a1 a2 a3 a4 a5 a6 hT
  generalize Fl_4 fl S a1 a2 a3 a4 a5 a6 = F at *
  obtain ⟨t1, t2, t3⟩ := g2
  rw [h0.d, zI_toInt (by omega)] at up
  obtain ⟨d', d3, d5⟩ := zI_ex (n := 401) t2 (by omega) (by omega)
  rw [d5, zI_toInt (by omega)] at up
  have hO : zOk d' A := ⟨h0.ok.1, h0.ok.2.1, ⟨fun i hi => by have := h0.ok.2.2.1.1 i hi; omega, h0.ok.2.2.1.2⟩, h0.ok.2.2.2.1, by omega⟩
  have gL := w.ag (D := zDL.drop 2) (by decide +kernel)
  have cl : ∀ k, 2 ≤ k ∧ k ≤ 12 ∨ 79 ≤ k ∧ k ≤ 97 → F k = S k := fun k hk => by
    have : ∀ k, k < 98 → (2 ≤ k ∧ k ≤ 12 ∨ 79 ≤ k ∧ k ≤ 97) → ((k, none) : zLoc) ∈ zDL.drop 2 := by decide +kernel
    exact gL.cell (by rw [if_pos (show k < 194 by omega)]; exact this k (by omega) hk)
  have g55 := (w.ag (D := [(55, none)]) (by decide)).cell (a := 55) (by decide)
  have gB := w.ag (D := zDBk) (by decide +kernel)
  have hC : zRC F A := h0.c.ag (gL.slot (a := 1) (j := 7) (by decide +kernel)) (fun k hk => cl k (by omega))
  refine ⟨g1, h.1.keep (w.ag (by decide +kernel)), d', A, m', ⟨hO, h0.n⟩, ⟨hC, h0.m.ag (by omega) (gL.slot (a := 78) (j := 2) (by decide +kernel)) (fun k hk => cl k (by omega))⟩, ⟨d5, t1.symm.trans d5⟩, hK.ag (w.ag (by decide +kernel)), ⟨hB.go (Nat.le_refl _) (gB.slot (a := 71) (j := 4) (by decide)) (gB.slot (a := 78) (j := 41) (by decide)) gB.bk (fun k _ => ?_), by omega⟩, s.cg h0.ok hC h0.c fun k hk => by rw [g55]⟩
  rw [cl 4 (by omega), cl 5 (by omega), cl 7 (by omega), cl 8 (by omega)]; exact ⟨Eq.refl _, Eq.refl _, Eq.refl _, Eq.refl _⟩
