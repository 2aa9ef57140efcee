/-! PURE: rules -/
theorem i_sub {a b : Int32} (h1 : -2147483648 ≤ a.toInt - b.toInt) (h2 : a.toInt - b.toInt < 2147483648) : (a - b).toInt = a.toInt - b.toInt := by
  rw [Int32.toInt_sub]
  exact Int.bmod_eq_of_le (by omega) (by omega)
theorem i_m1 {p : Int32} : p = -1 ↔ p.toInt = -1 := by
  rw [← Int32.toInt_inj]
  exact Iff.rfl
theorem T_orNone {α : Type} (p : Int32) (X E : α) : (if p = -1 then X else if (if 0 ≤ p.toInt ∧ p.toInt < 3 then (1 : Int32) else 0) = 0 then E else X) = if -1 ≤ p.toInt ∧ p.toInt ≤ 2 then X else E := by
  by_cases h : p = -1
  · have h' := i_m1.mp h
    rw [if_pos h, if_pos (by omega)]
  · have h' : ¬ p.toInt = -1 := fun e => h (i_m1.mpr e)
    rw [if_neg h]
    by_cases g : 0 ≤ p.toInt ∧ p.toInt < 3
    · rw [if_pos g, if_neg (by decide), if_pos (by omega)]
    · rw [if_neg g, if_pos (by decide), if_neg (by omega)]
/-- a rule: as both keep it -/
def zRule (S : Nat → Nat → Int32) (i : Nat) : Prop :=
  (S 60 i = S 168 i ∧ S 61 i = S 169 i ∧ S 62 i = S 173 i ∧ S 65 i = S 170 i ∧ S 66 i = S 171 i ∧ (S 66 i = -1 ∨ S 67 i = S 172 i)) ∧
  (S 60 i = 0 ∨ (S 60 i = 1 ∧ 0 ≤ (S 61 i).toInt ∧ (S 61 i).toInt ≤ 5) ∨ (S 60 i = 2 ∧ 0 ≤ (S 61 i).toInt ∧ (S 61 i).toInt ≤ 2)) ∧
  ((0 ≤ (S 62 i).toInt ∧ (S 62 i).toInt ≤ 3) ∧ (-1 ≤ (S 65 i).toInt ∧ (S 65 i).toInt ≤ 2) ∧ (-1 ≤ (S 66 i).toInt ∧ (S 66 i).toInt ≤ 2) ∧ 0 ≤ (S 67 i).toInt ∧ (S 67 i).toInt ≤ 99) ∧
  ((S 174 i = 0 ∧ S 63 i = 1 + S 175 i ∧ S 64 i = S 176 i ∧ (0 ≤ (S 175 i).toInt ∧ (S 175 i).toInt ≤ 2) ∧ 0 ≤ (S 176 i).toInt ∧ (S 176 i).toInt ≤ 99) ∨
    (S 174 i = 1 ∧ S 63 i = 0 ∧ S 64 i = S 175 i ∧ 0 ≤ (S 175 i).toInt ∧ (S 175 i).toInt ≤ 5) ∨
    (S 174 i = 2 ∧ S 63 i = 4 ∧ S 64 i = S 175 i ∧ 0 ≤ (S 175 i).toInt ∧ (S 175 i).toInt ≤ 7))
def zRuL : List Nat := [60, 61, 62, 63, 64, 65, 66, 67, 168, 169, 170, 171, 172, 173, 174, 175, 176]
theorem zRule.same {S S' : Nat → Nat → Int32} {i : Nat} (h : zRule S i) (g : ∀ k ∈ zRuL, S' k i = S k i) : zRule S' i := by
  have e : ∀ k, k ∈ zRuL → S' k i = S k i := g
  unfold zRule at h ⊢
  rw [e 60 (by decide), e 61 (by decide), e 62 (by decide), e 63 (by decide), e 64 (by decide), e 65 (by decide), e 66 (by decide), e 67 (by decide), e 168 (by decide), e 169 (by decide), e 170 (by decide), e 171 (by decide), e 172 (by decide), e 173 (by decide), e 174 (by decide), e 175 (by decide), e 176 (by decide)]
  exact h
def zCR (S : Nat → Nat → Int32) : Prop := (S 59 8 = S 78 31 ∧ 0 ≤ (S 59 8).toInt ∧ (S 59 8).toInt ≤ 6) ∧ ∀ i : Nat, (i : Int) < (S 59 8).toInt → zRule S i
def zDR : List zLoc := [(59, some 8), (78, some 31), (60, none), (61, none), (62, none), (63, none), (64, none), (65, none), (66, none), (67, none), (168, none), (169, none), (170, none), (171, none), (172, none), (173, none), (174, none), (175, none), (176, none)]
theorem zCR.ag {S S' : Nat → Nat → Int32} (h : zCR S) (g : zAg zDR S S') : zCR S' := by
  have e1 : S' 59 8 = S 59 8 := g.slot (by decide)
  have e2 : S' 78 31 = S 78 31 := g.slot (by decide)
  refine ⟨⟨by rw [e1, e2]; exact h.1.1, by rw [e1]; exact h.1.2.1, by rw [e1]; exact h.1.2.2⟩, fun i hi => ?_⟩
  rw [e1] at hi
  refine (h.2 i hi).same (fun k hk => ?_)
  simp only [zRuL, List.mem_cons, List.not_mem_nil, or_false] at hk
  rcases hk with rfl | rfl | rfl | rfl | rfl | rfl | rfl | rfl | rfl | rfl | rfl | rfl | rfl | rfl | rfl | rfl | rfl <;> exact congrFun (g.cell (by decide)) i
def zW36 : List zLoc := [(65, none), (66, none), (67, none), (78, some 0), (170, none), (171, none), (172, none)]
theorem o_36 (fl : Nat → Nat) {S : Nat → Nat → Int32} (a1 a2 a3 a4 a5 a6 : Int32) (h : zCR S) : Sl_36 fl S a1 a2 a3 a4 a5 a6 ∧ zCR (Fl_36 fl S a1 a2 a3 a4 a5 a6) ∧ zWr zW36 S (Fl_36 fl S a1 a2 a3 a4 a5 a6) := by
  obtain ⟨⟨hsz, hlo, hhi⟩, hru⟩ := id h
  have err : ∀ c : Int32, zCR (z_uS S 78 0 c) ∧ zWr zW36 S (z_uS S 78 0 c) := fun c => ⟨h.ag ((zWr.slot (W := [(78, some 0)]) (by decide) S _).ag (by decide)), zWr.slot (by decide) S _⟩
  have es : (S 78 31 - 1).toInt = (S 59 8).toInt - 1 := by
    have e := i_sub (a := S 59 8) (b := 1) (by have e1 : (1 : Int32).toInt = 1 := rfl; omega) (by have e1 : (1 : Int32).toInt = 1 := rfl; omega)
    rw [← hsz]; exact e
  unfold Sl_36 Fl_36 Sf_L_narrow F_L_narrow F_T_narrow F_T_narrow_j35 F_T_narrow_j47 Sf_M_narrow F_M_narrow F_M_thrown Sf_M_narrow_j33 F_M_narrow_j33 Sf_M_narrow_j34 F_M_narrow_j34 Sf_M_narrow_j65 F_M_narrow_j65 F_Rules_setTerms
  simp only [T_isKind_eq, T_isField_eq, T_isNumber_eq, M_isIn_eq, T_orNone, T_lt, T_le, show (0 : Int32).toInt = 0 from rfl, show (2 : Int32).toInt = 2 from rfl, show (99 : Int32).toInt = 99 from rfl, show (-1 : Int32).toInt = -1 from rfl]
  by_cases h1 : a1.toInt < 0
  case pos =>
    have m0 : ¬ (0 ≤ a1.toInt ∧ a1.toInt ≤ (S 78 31 - 1).toInt) := by omega
    simp only [if_pos h1, if_neg m0, z_b10, z_b01, if_true, if_false, ite_self]
    exact ⟨⟨fun E S2 hE => by cases hE; simp, trivial, by simp [uS_at]⟩, (err 1).1, (err 1).2⟩
  case neg =>
    by_cases h2 : (S 59 8).toInt ≤ a1.toInt
    case pos =>
      have m0 : ¬ (0 ≤ a1.toInt ∧ a1.toInt ≤ (S 78 31 - 1).toInt) := by omega
      simp only [if_neg h1, if_pos h2, if_neg m0, z_b10, z_b01, if_true, if_false, ite_self]
      exact ⟨⟨fun E S2 hE => by cases hE; simp, trivial, by simp [uS_at]⟩, (err 1).1, (err 1).2⟩
    case neg =>
      have r0 : 0 ≤ a1.toInt := by omega
      have r1 : a1.toInt < 6 := by omega
      by_cases h3 : -1 ≤ a2.toInt ∧ a2.toInt ≤ 2
      case neg =>
        have m0 : 0 ≤ a1.toInt ∧ a1.toInt ≤ (S 78 31 - 1).toInt := by omega
        simp only [if_neg h1, if_neg h2, if_neg h3, if_pos m0, z_b10, z_b01, z_b20, if_true, if_false, ite_self]
        exact ⟨⟨fun E S2 hE => by cases hE; simp, trivial, by simp [uS_at]⟩, (err 2).1, (err 2).2⟩
      case pos =>
        by_cases h4 : -1 ≤ a3.toInt ∧ a3.toInt ≤ 2
        case neg =>
          have m0 : 0 ≤ a1.toInt ∧ a1.toInt ≤ (S 78 31 - 1).toInt := by omega
          simp only [if_neg h1, if_neg h2, if_pos h3, if_neg h4, if_pos m0, z_b10, z_b01, z_b20, if_true, if_false, ite_self]
          exact ⟨⟨fun E S2 hE => by cases hE; simp, trivial, by simp [uS_at]⟩, (err 2).1, (err 2).2⟩
        case pos =>
          by_cases h5 : 0 ≤ a4.toInt ∧ a4.toInt ≤ 99
          case neg =>
            have m0 : 0 ≤ a1.toInt ∧ a1.toInt ≤ (S 78 31 - 1).toInt := by omega
            simp only [if_neg h1, if_neg h2, if_pos h3, if_pos h4, if_neg h5, if_pos m0, z_b10, z_b01, z_b20, if_true, if_false, ite_self]
            exact ⟨⟨fun E S2 hE => by cases hE; simp, trivial, by simp [uS_at]⟩, (err 2).1, (err 2).2⟩
          case pos =>
            have hv := vp_inI (len := 6) r0 r1
            have hc := i_clamp r0
            simp only [if_neg h1, if_neg h2, if_pos h3, if_pos h4, if_pos h5, z_b10, z_b01, if_true, if_false, z_let, zPut_in (len := 6) r0 r1]
            have m1 : (z_uS (z_uS (z_uS S 65 a1.toNatClampNeg a2) 66 a1.toNatClampNeg a3) 67 a1.toNatClampNeg a4) 78 31 = S 78 31 := by simp [z_uS]
            have m0 : 0 ≤ a1.toInt ∧ a1.toInt ≤ (S 78 31 - 1).toInt := by omega
            simp only [m1, if_pos m0, z_b10, if_false]
            refine ⟨⟨(fun E S2 hE => by cases hE), ⟨hv, hv, hv, trivial⟩, by simp [z_uS, upd]⟩, ⟨⟨by simp [z_uS, upd, hsz], by simpa [z_uS, upd] using hlo, by simpa [z_uS, upd] using hhi⟩, fun i hi => ?_⟩, ?_⟩
            · have hi' : (i : Int) < (S 59 8).toInt := by simpa [z_uS, upd] using hi
              have hr := hru i hi'
              by_cases hij : i = a1.toNatClampNeg
              · subst hij
                obtain ⟨⟨q1, q2, q3, q4, q5, q6⟩, w1, ⟨w2, w3, w4, w5⟩, w6⟩ := hr
                refine ⟨⟨?_, ?_, ?_, ?_, ?_, ?_⟩, ?_, ⟨?_, ?_, ?_, ?_⟩, ?_⟩
                · simpa [z_uS] using q1
                · simpa [z_uS] using q2
                · simpa [z_uS] using q3
                · simp [z_uS, upd]
                · simp [z_uS, upd]
                · exact Or.inr (by simp [z_uS, upd])
                · simpa [z_uS] using w1
                · simpa [z_uS] using w2
                · simpa [z_uS, upd] using h3
                · simpa [z_uS, upd] using h4
                · simpa [z_uS, upd] using h5
                · simpa [z_uS] using w6
              · refine hr.same (fun k hk => ?_)
                simp only [zRuL, List.mem_cons, List.not_mem_nil, or_false] at hk
                rcases hk with rfl | rfl | rfl | rfl | rfl | rfl | rfl | rfl | rfl | rfl | rfl | rfl | rfl | rfl | rfl | rfl | rfl <;> simp [z_uS, upd, hij]
            · exact (zWr.cell (by decide) S _ _).trans ((zWr.cell (by decide) _ _ _).trans ((zWr.cell (by decide) _ _ _).trans ((zWr.slot (by decide) _ _).trans ((zWr.cell (by decide) _ _ _).trans ((zWr.cell (by decide) _ _ _).trans (zWr.cell (by decide) _ _ _))))))
