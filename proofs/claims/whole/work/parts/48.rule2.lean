theorem T_rule_no (S : Nat → Nat → Int32) (a1 a2 a3 a4 a5 a6 : Int32) (h : ¬ zPr a1.toInt a2.toInt a3.toInt a4.toInt a5.toInt a6.toInt) : F_T_rule S a1 a2 a3 a4 a5 a6 = (.inl "java/lang/IllegalArgumentException", S) := by
  unfold F_T_rule
  simp only [T_isNumber_eq, z_ite, T_lt, show (0 : Int32).toInt = 0 from rfl, show (3 : Int32).toInt = 3 from rfl]
  refine ite_2 (fun _ => rfl) (fun c1 => ?_)
  refine ite_2 (fun _ => rfl) (fun c2 => ?_)
  refine ite_2 (fun _ => rfl) (fun c3 => ?_)
  refine ite_2 (fun _ => rfl) (fun c4 => ?_)
  refine ite_2 (fun _ => rfl) (fun c5 => ?_)
  exact absurd ⟨Classical.byContradiction fun hn => c1 (Eq.mpr (T_isTrigger_0 S a1 a2) hn), ⟨by omega, by omega⟩, Classical.byContradiction fun hn => c4 (Eq.mpr (T_isAction_0 S a4 a5) hn), Classical.not_not.mp c5⟩ h
theorem T_rule_full (S : Nat → Nat → Int32) (a1 a2 a3 a4 a5 a6 : Int32) (h : zPr a1.toInt a2.toInt a3.toInt a4.toInt a5.toInt a6.toInt) (h6 : 6 ≤ (S 59 8).toInt) : F_T_rule S a1 a2 a3 a4 a5 a6 = (.inl "java/lang/IllegalStateException", S) := by
  obtain ⟨c1, ⟨c2, c3⟩, c4, c5⟩ := h
  unfold F_T_rule
  simp only [T_isNumber_eq, z_ite, T_lt, T_le, show (0 : Int32).toInt = 0 from rfl, show (3 : Int32).toInt = 3 from rfl, show (6 : Int32).toInt = 6 from rfl]
  rw [if_neg (fun e => Eq.mp (T_isTrigger_0 S a1 a2) e c1), if_neg (by omega), if_neg (by omega), if_neg (fun e => Eq.mp (T_isAction_0 S a4 a5) e c4), if_neg (by omega), if_pos h6]
theorem T_rule_ok (S : Nat → Nat → Int32) (a1 a2 a3 a4 a5 a6 : Int32) (h : zPr a1.toInt a2.toInt a3.toInt a4.toInt a5.toInt a6.toInt) (h6 : ¬ 6 ≤ (S 59 8).toInt) : F_T_rule S a1 a2 a3 a4 a5 a6 = (.inr (S 59 8), F_Rules_setTerms (F_Rules_setDeed (F_Rules_setCause (z_uS S 59 8 (S 59 8 + 1)) (S 59 8) a1 a2) (S 59 8) a3 a4 a5 a6) (S 59 8) (-1) (-1) 0) := by
  obtain ⟨c1, ⟨c2, c3⟩, c4, c5⟩ := h
  unfold F_T_rule
  simp only [T_isNumber_eq, z_ite, T_lt, T_le, show (0 : Int32).toInt = 0 from rfl, show (3 : Int32).toInt = 3 from rfl, show (6 : Int32).toInt = 6 from rfl]
  rw [if_neg (fun e => Eq.mp (T_isTrigger_0 S a1 a2) e c1), if_neg (by omega), if_neg (by omega), if_neg (fun e => Eq.mp (T_isAction_0 S a4 a5) e c4), if_neg (by omega), if_neg h6]
theorem Sf_rule (S : Nat → Nat → Int32) (a1 a2 a3 a4 a5 a6 : Int32) : Sf_T_rule S a1 a2 a3 a4 a5 a6 := by
  unfold Sf_T_rule
  refine ⟨Sf_isTrigger _ _ _, ?_⟩
  refine ite_p (fun _ => trivial) (fun _ => ite_p (fun _ => trivial) (fun _ => ite_p (fun _ => trivial) (fun _ => ⟨Sf_isAction _ _ _, trivial⟩)))
/-- where an action goes -/
def zCol (a4 a5 : Int32) : Int32 := if a4 = 0 then 1 + a5 else if a4 = 1 then 0 else 4
def zVal (a4 a5 a6 : Int32) : Int32 := if a4 = 0 then a6 else a5
theorem setDeed_eq (S : Nat → Nat → Int32) (i a3 a4 a5 a6 : Int32) (h0 : 0 ≤ i.toInt) (h1 : i.toInt < 6) : F_Rules_setDeed S i a3 a4 a5 a6 = z_uS (z_uS (z_uS S 62 i.toNatClampNeg a3) 63 i.toNatClampNeg (zCol a4 a5)) 64 i.toNatClampNeg (zVal a4 a5 a6) := by
  unfold F_Rules_setDeed F_Rules_setDeed_j35 F_Rules_setDeed_j54 zCol zVal
  simp only [z_let, zPut_in (len := 6) h0 h1]
  by_cases g : a4 = 0
  · simp only [if_pos g]
  · by_cases g1 : a4 = 1
    · simp only [if_neg g, if_pos g1]
    · simp only [if_neg g, if_neg g1]
def zW35 : List zLoc := [(59, some 8), (60, none), (61, none), (62, none), (63, none), (64, none), (65, none), (66, none), (67, none), (78, some 0), (78, some 31), (168, none), (169, none), (170, none), (171, none), (173, none), (174, none), (175, none), (176, none), (193, none)]
theorem o_35 (fl : Nat → Nat) {S : Nat → Nat → Int32} (a1 a2 a3 a4 a5 a6 : Int32) (h : zCR S) : Sl_35 fl S a1 a2 a3 a4 a5 a6 ∧ zCR (Fl_35 fl S a1 a2 a3 a4 a5 a6) ∧ zWr zW35 S (Fl_35 fl S a1 a2 a3 a4 a5 a6) := by
  obtain ⟨⟨hsz, hlo, hhi⟩, hru⟩ := id h
  have err : ∀ c : Int32, zCR (z_uS S 78 0 c) ∧ zWr zW35 S (z_uS S 78 0 c) := fun c => ⟨h.ag ((zWr.slot (W := [(78, some 0)]) (by decide) S _).ag (by decide)), zWr.slot (by decide) S _⟩
  unfold Sl_35 Fl_35 Sf_L_rule F_L_rule F_M_thrown
  by_cases g : zPr a1.toInt a2.toInt a3.toInt a4.toInt a5.toInt a6.toInt
  case neg =>
    obtain ⟨m1, m2⟩ := M_rule_no S a1 a2 a3 a4 a5 a6 g
    rw [T_rule_no S a1 a2 a3 a4 a5 a6 g]
    simp only [m1]
    unfold F_M_rule_j112 F_M_rule_j138
    simp only [z_b01, z_le10, if_true, if_false]
    exact ⟨⟨⟨Sf_rule _ _ _ _ _ _ _, fun E S2 hE => by cases hE; simp⟩, m2 (by unfold Sf_M_rule_j112 Sf_M_rule_j138; simp only [z_b01, z_le10, if_true, if_false]), by simp [uS_at], fun h0 => absurd h0 (by simp)⟩, (err 1).1, (err 1).2⟩
  case pos =>
    by_cases h6 : 6 ≤ (S 59 8).toInt
    case pos =>
      obtain ⟨m1, m2⟩ := M_rule_yes S a1 a2 a3 a4 a5 a6 g
      have e6 : S 78 31 = 6 := by rw [← hsz]; exact Int32.toInt_inj.mp (by show (S 59 8).toInt = 6; omega)
      rw [T_rule_full S a1 a2 a3 a4 a5 a6 g h6]
      simp only [m1]
      unfold F_M_rule_j112 F_M_rule_j138
      simp only [z_b10, e6, z_le20, if_true, if_false]
      exact ⟨⟨⟨Sf_rule _ _ _ _ _ _ _, fun E S2 hE => by cases hE; simp⟩, m2 (by unfold Sf_M_rule_j112 Sf_M_rule_j138; simp only [z_b10, e6, z_le20, if_true, if_false]), by simp [uS_at], fun h0 => absurd h0 (by simp)⟩, (err 2).1, (err 2).2⟩
    case neg =>
      have r1 : (S 59 8).toInt < 6 := by omega
      have hv := vp_inI (len := 6) hlo r1
      have hc := i_clamp hlo
      have e1' : (1 : Int32).toInt = 1 := rfl
      have hs1 : (S 59 8 + 1).toInt = (S 59 8).toInt + 1 := by
        have e := i_add (a := S 59 8) (b := 1) (by omega) (by omega)
        rw [e, e1']
      rw [T_rule_ok S a1 a2 a3 a4 a5 a6 g h6]
      simp only [setDeed_eq _ _ _ _ _ _ hlo r1]
      unfold F_Rules_setTerms F_Rules_setCause
      simp only [z_let, zPut_in (len := 6) hlo r1]
      generalize hj : (S 59 8).toNatClampNeg = j at hc
      obtain ⟨S1, hS1⟩ : ∃ y, z_uS (z_uS (z_uS (z_uS (z_uS (z_uS (z_uS (z_uS (z_uS (z_uS S 59 8 (S 59 8 + 1)) 60 j a1) 61 j a2) 62 j a3) 63 j (zCol a4 a5)) 64 j (zVal a4 a5 a6)) 65 j (-1)) 66 j (-1)) 67 j 0) 193 0 (S 59 8) = y := ⟨_, rfl⟩
      rw [hS1]
      have q31 : S1 78 31 = S 59 8 := by rw [← hS1, hsz]; simp [z_uS]
      obtain ⟨m1, m2⟩ := M_rule_yes S1 a1 a2 a3 a4 a5 a6 g
      have n6 : ¬ S 59 8 = 6 := fun e => by rw [e] at r1; exact absurd r1 (by decide)
      simp only [m1]
      unfold F_M_rule_j112 F_M_rule_j138
      simp only [z_b10, q31, if_neg n6, z_le00, if_true, if_false, hj]
      have w1 : zWr zW35 S S1 := by
        rw [← hS1]
        exact (zWr.slot (by decide) S _).trans ((zWr.cell (by decide) _ _ _).trans ((zWr.cell (by decide) _ _ _).trans ((zWr.cell (by decide) _ _ _).trans ((zWr.cell (by decide) _ _ _).trans ((zWr.cell (by decide) _ _ _).trans ((zWr.cell (by decide) _ _ _).trans ((zWr.cell (by decide) _ _ _).trans ((zWr.cell (by decide) _ _ _).trans (zWr.cell (by decide) _ _ _)))))))))
      refine ⟨⟨⟨Sf_rule _ _ _ _ _ _ _, (fun E S2 hE => by cases hE)⟩, m2 ?_, ?_, fun _ => ?_⟩, ⟨⟨?_, ?_, ?_⟩, fun i hi => ?_⟩, ?_⟩
      · unfold Sf_M_rule_j112 Sf_M_rule_j138
        simp only [z_b10, q31, if_neg n6, z_le00, if_true, if_false]
        exact ⟨hv, hv, hv, hv, hv, hv, hv, hv, trivial⟩
      · simp [z_uS, upd]
      · rw [← hS1]; simp [z_uS, upd]
      · rw [← hS1]; simp [z_uS, upd]
      · rw [← hS1]; simp [z_uS, upd, -Int32.toInt_add]; omega
      · rw [← hS1]; simp [z_uS, upd, -Int32.toInt_add]; omega
      · have hi' : (i : Int) < (S 59 8).toInt + 1 := by
          rw [← hS1] at hi
          simp [z_uS, upd, -Int32.toInt_add] at hi
          omega
        by_cases hij : i = j
        · subst hij
          obtain ⟨gt, ⟨g3, g3'⟩, ga, g6, g6'⟩ := g
          rw [← hS1]
          refine ⟨⟨by simp [z_uS, upd], by simp [z_uS, upd], by simp [z_uS, upd], by simp [z_uS, upd], by simp [z_uS, upd], Or.inl (by simp [z_uS, upd])⟩, ?_, ⟨?_, ?_, ?_, ?_⟩, ?_⟩
          · have q60 : zPt a1.toInt a2.toInt := gt
            unfold zPt at q60
            simp [z_uS, upd]
            rcases q60 with q | q | q
            · exact Or.inl (Eq.mpr i_eq0 q.1)
            · exact Or.inr (Or.inl ⟨Eq.mpr i_eq1 q.1, q.2⟩)
            · exact Or.inr (Or.inr ⟨Eq.mpr i_eq2 q.1, q.2⟩)
          · simp [z_uS, upd]; exact ⟨g3, g3'⟩
          · simp [z_uS, upd]
          · simp [z_uS, upd]
          · simp [z_uS, upd]
          · unfold zPa at ga
            rcases ga with q | q | q
            · have e4 : a4 = 0 := Eq.mpr i_eq0 q.1
              refine Or.inl ?_
              simp [z_uS, upd, zCol, zVal, e4]
              omega
            · have e4 : a4 = 1 := Eq.mpr i_eq1 q.1
              refine Or.inr (Or.inl ?_)
              simp [z_uS, upd, zCol, zVal, e4]
              omega
            · have e4 : a4 = 2 := Eq.mpr i_eq2 q.1
              refine Or.inr (Or.inr ?_)
              simp [z_uS, upd, zCol, zVal, e4]
              omega
        · have hr := hru i (by omega)
          rw [← hS1]
          refine hr.same (fun k hk => ?_)
          simp only [zRuL, List.mem_cons, List.not_mem_nil, or_false] at hk
          rcases hk with rfl | rfl | rfl | rfl | rfl | rfl | rfl | rfl | rfl | rfl | rfl | rfl | rfl | rfl | rfl | rfl | rfl <;> simp [z_uS, upd, hij]
      · exact w1.trans ((zWr.slot (by decide) _ _).trans ((zWr.cell (by decide) _ _ _).trans ((zWr.cell (by decide) _ _ _).trans ((zWr.cell (by decide) _ _ _).trans ((zWr.cell (by decide) _ _ _).trans ((zWr.cell (by decide) _ _ _).trans ((zWr.cell (by decide) _ _ _).trans ((zWr.cell (by decide) _ _ _).trans ((zWr.cell (by decide) _ _ _).trans (zWr.slot (by decide) _ _))))))))))
