/-! PURE: transition -/
def zTOk (a1 a2 a3 a4 a5 a6 : Int32) : Prop := (0 ≤ a1.toInt ∧ a1.toInt < 6) ∧ (0 ≤ a2.toInt ∧ a2.toInt < 6) ∧ a1 ≠ a2 ∧ (1 ≤ a3.toInt ∧ a3.toInt ≤ 15) ∧ (-1 ≤ a4.toInt ∧ a4.toInt ≤ 2) ∧ (0 ≤ a5.toInt ∧ a5.toInt ≤ 99) ∧ (0 ≤ a6.toInt ∧ a6.toInt ≤ 2) ∧ (a6 = 2 → a4 ≠ -1)
theorem T_trans_ok {S : Nat → Nat → Int32} {a1 a2 a3 a4 a5 a6 : Int32} (h : zTOk a1 a2 a3 a4 a5 a6) : F_T_transition S a1 a2 a3 a4 a5 a6 = F_T_transition_j92 S a1 a2 a3 a4 a5 a6 ∧ (Sf_T_transition_j92 S a1 a2 a3 a4 a5 a6 → Sf_T_transition S a1 a2 a3 a4 a5 a6) ∧ F_M_transition S a1 a2 a3 a4 a5 a6 = F_M_transition_j93 S a1 a2 a3 a4 a5 a6 1 ∧ (Sf_M_transition_j93 S a1 a2 a3 a4 a5 a6 1 → Sf_M_transition S a1 a2 a3 a4 a5 a6) := by
  obtain ⟨h1, h2, h3, h4, h5, h6, h7, h8⟩ := h
  have n3 : ¬ a3.toInt < 1 := by omega
  have r3 : 0 ≤ a3.toInt ∧ a3.toInt ≤ 15 := by omega
  have n6 : ¬ a6.toInt < 0 := by omega
  have n6' : ¬ 2 < a6.toInt := by omega
  have m1 : 0 ≤ a1.toInt ∧ a1.toInt ≤ 5 := by omega
  have m2 : 0 ≤ a2.toInt ∧ a2.toInt ≤ 5 := by omega
  unfold F_T_transition Sf_T_transition F_T_transition_j48 Sf_T_transition_j48 F_M_transition Sf_M_transition F_M_transition_j48 Sf_M_transition_j48 F_M_transition_j88 Sf_M_transition_j88
  simp only [T_isState_eq, T_isRoles_eq, T_isField_eq, T_isNumber_eq, M_isIn_eq, T_lt, T_le, show (0 : Int32).toInt = 0 from rfl, show (1 : Int32).toInt = 1 from rfl, show (2 : Int32).toInt = 2 from rfl, show (5 : Int32).toInt = 5 from rfl, show (15 : Int32).toInt = 15 from rfl, show (99 : Int32).toInt = 99 from rfl, show ((-1) : Int32).toInt = (-1) from rfl, if_pos h1, if_pos h2, if_pos r3, if_neg n3, if_pos h6, if_neg n6, if_neg n6', if_neg h3, if_pos m1, if_pos m2, if_pos h4, if_pos h5, if_pos h7, z_b10, z_b01, if_false, if_true]
  by_cases e4 : a4 = -1
  · have e6 : ¬ a6 = 2 := fun e => h8 e e4
    simp only [if_pos e4, if_neg e6]
    exact ⟨trivial, fun q => q, trivial, fun q => q⟩
  · have r4 : 0 ≤ a4.toInt ∧ a4.toInt < 3 := by rw [i_m1] at e4; omega
    simp only [if_neg e4, if_pos r4, z_b10, if_false]
    by_cases e6 : a6 = 2
    · simp only [if_pos e6]; exact ⟨trivial, fun q => q, trivial, fun q => q⟩
    · simp only [if_neg e6]; exact ⟨trivial, fun q => q, trivial, fun q => q⟩
theorem T_trans_no {S U : Nat → Nat → Int32} {a1 a2 a3 a4 a5 a6 : Int32} (h : ¬ zTOk a1 a2 a3 a4 a5 a6) : F_T_transition S a1 a2 a3 a4 a5 a6 = (.inl "java/lang/IllegalArgumentException", S) ∧ Sf_T_transition S a1 a2 a3 a4 a5 a6 := by
  unfold F_T_transition Sf_T_transition F_T_transition_j48 Sf_T_transition_j48
  simp only [T_isState_eq, T_isRoles_eq, T_isField_eq, T_isNumber_eq, T_lt, T_le, show (0 : Int32).toInt = 0 from rfl, show (1 : Int32).toInt = 1 from rfl, show (2 : Int32).toInt = 2 from rfl]
  by_cases h1 : 0 ≤ a1.toInt ∧ a1.toInt < 6
  case neg => simp [if_neg h1]
  by_cases h2 : 0 ≤ a2.toInt ∧ a2.toInt < 6
  case neg => simp [if_neg h2]
  by_cases n3 : a3.toInt < 1
  case pos => simp [if_pos n3]
  by_cases r3 : 0 ≤ a3.toInt ∧ a3.toInt ≤ 15
  case neg => simp [if_neg r3]
  by_cases h6 : 0 ≤ a5.toInt ∧ a5.toInt ≤ 99
  case neg => simp [if_neg h6]
  by_cases n6 : a6.toInt < 0
  case pos => simp [if_pos n6]
  by_cases n6' : 2 < a6.toInt
  case pos => simp [if_pos n6']
  by_cases h3 : a1 = a2
  case pos => simp [if_pos h3]
  simp only [if_pos h1, if_pos h2, if_neg n3, if_pos r3, if_pos h6, if_neg n6, if_neg n6', if_neg h3, z_b10, if_false]
  by_cases e4 : a4 = -1
  · have e6 : a6 = 2 := by
      by_cases e6 : a6 = 2
      · exact e6
      · exact absurd ⟨h1, h2, h3, by omega, by rw [i_m1] at e4; omega, h6, by omega, fun q => absurd q e6⟩ h
    simp only [if_pos e4, if_pos e6]; exact ⟨trivial, trivial⟩
  · by_cases r4 : 0 ≤ a4.toInt ∧ a4.toInt < 3
    · exact absurd ⟨h1, h2, h3, by omega, by omega, h6, by omega, fun _ => e4⟩ h
    · simp only [if_neg e4, if_neg r4, z_b01, if_true]; exact ⟨trivial, trivial⟩
theorem M_trans_no {S : Nat → Nat → Int32} {a1 a2 a3 a4 a5 a6 : Int32} (h : ¬ zTOk a1 a2 a3 a4 a5 a6) : F_M_transition S a1 a2 a3 a4 a5 a6 = (0, z_uS S 78 0 1) ∧ Sf_M_transition S a1 a2 a3 a4 a5 a6 := by
  have j : F_M_transition_j92 S a1 a2 a3 a4 a5 a6 = (0, z_uS S 78 0 1) ∧ Sf_M_transition_j92 S a1 a2 a3 a4 a5 a6 := by
    unfold F_M_transition_j92 Sf_M_transition_j92 F_M_transition_j93 Sf_M_transition_j93 F_M_transition_j152 Sf_M_transition_j152
    simp only [if_true, show ¬ ((1 : Int32) ≤ 0) by decide, if_false]
    exact ⟨trivial, trivial⟩
  have j0 : F_M_transition_j47 S a1 a2 a3 a4 a5 a6 = (0, z_uS S 78 0 1) ∧ Sf_M_transition_j47 S a1 a2 a3 a4 a5 a6 := by
    unfold F_M_transition_j47 Sf_M_transition_j47 F_M_transition_j48 Sf_M_transition_j48
    simp only [if_true]
    exact j
  unfold F_M_transition Sf_M_transition F_M_transition_j48 Sf_M_transition_j48
  simp only [M_isIn_eq, show (0 : Int32).toInt = 0 from rfl, show (1 : Int32).toInt = 1 from rfl, show (2 : Int32).toInt = 2 from rfl, show (5 : Int32).toInt = 5 from rfl, show (15 : Int32).toInt = 15 from rfl, show (99 : Int32).toInt = 99 from rfl, show ((-1) : Int32).toInt = (-1) from rfl]
  by_cases h1 : 0 ≤ a1.toInt ∧ a1.toInt ≤ 5
  case neg => simp only [if_neg h1, if_true]; exact j0
  by_cases h2 : 0 ≤ a2.toInt ∧ a2.toInt ≤ 5
  case neg => simp only [if_pos h1, if_neg h2, z_b10, if_false, if_true]; exact j0
  by_cases h3 : a1 = a2
  case pos => simp only [if_pos h1, if_pos h2, if_pos h3, z_b10, if_false, if_true]; exact j0
  by_cases h4 : 1 ≤ a3.toInt ∧ a3.toInt ≤ 15
  case neg => simp only [if_pos h1, if_pos h2, if_neg h3, if_neg h4, z_b10, if_false, if_true]; exact j0
  by_cases h5 : -1 ≤ a4.toInt ∧ a4.toInt ≤ 2
  case neg => simp only [if_pos h1, if_pos h2, if_neg h3, if_pos h4, if_neg h5, z_b10, if_false, if_true]; exact j0
  by_cases h6 : 0 ≤ a5.toInt ∧ a5.toInt ≤ 99
  case neg => simp only [if_pos h1, if_pos h2, if_neg h3, if_pos h4, if_pos h5, if_neg h6, z_b10, if_false, if_true]; exact j
  by_cases h7 : 0 ≤ a6.toInt ∧ a6.toInt ≤ 2
  case neg => simp only [if_pos h1, if_pos h2, if_neg h3, if_pos h4, if_pos h5, if_pos h6, if_neg h7, z_b10, if_false, if_true]; exact j
  simp only [if_pos h1, if_pos h2, if_neg h3, if_pos h4, if_pos h5, if_pos h6, if_pos h7, z_b10, if_false]
  by_cases e6 : a6 = 2
  · by_cases e4 : a4 = -1
    · simp only [if_pos e6, if_pos e4]; exact j
    · exact absurd ⟨by omega, by omega, h3, h4, h5, h6, h7, fun _ => e4⟩ h
  · exact absurd ⟨by omega, by omega, h3, h4, h5, h6, h7, fun q => absurd q e6⟩ h
/-- the parts of one step of the draft -/
theorem Flows_setAll (S : Nat → Nat → Int32) {c : Nat} (hc : c < 8) (q : Nat → Int32) : ∃ V, F_Flows_setTerms (F_Flows_setEnds S (zI c) (q 0) (q 1)) (zI c) (q 2) (q 3) (q 4) (q 5) = V ∧ (∀ m, m ≠ 57 → V m = S m) ∧ (∀ p, p < 6 → V 57 ((24 + c) * 6 + p) = q p) ∧ ∀ j, (j < (24 + c) * 6 ∨ (24 + c) * 6 + 6 ≤ j) → V 57 j = S 57 j := by
  have e : ∀ (Q : Nat → Nat → Int32) (p : Nat) (v : Int32), p < 6 → F_Flows_setPart Q (zI c) (zI p) v = z_uS Q 57 ((24 + c) * 6 + p) v := fun Q p v hp => Flows_setPart_I Q hc hp v
  refine ⟨_, rfl, ?_, ?_, ?_⟩
  all_goals
    unfold F_Flows_setTerms F_Flows_setEnds
    simp only [z_let, show (0 : Int32) = zI 0 from rfl, show (1 : Int32) = zI 1 from rfl, show (2 : Int32) = zI 2 from rfl, show (3 : Int32) = zI 3 from rfl, show (4 : Int32) = zI 4 from rfl, show (5 : Int32) = zI 5 from rfl, e _ 0 _ (by omega), e _ 1 _ (by omega), e _ 2 _ (by omega), e _ 3 _ (by omega), e _ 4 _ (by omega), e _ 5 _ (by omega)]
  · intro m hm
    simp [z_uS, hm]
  · intro p hp
    simp only [z_uS, upd, if_true]
    by_cases p5 : p = 5
    · subst p5; simp
    by_cases p4 : p = 4
    · subst p4; simp
    by_cases p3 : p = 3
    · subst p3; simp
    by_cases p2 : p = 2
    · subst p2; simp
    by_cases p1 : p = 1
    · subst p1; simp
    have p0 : p = 0 := by omega
    subst p0; simp
  · intro j hj
    simp only [z_uS, upd, if_true]
    rw [if_neg (by omega), if_neg (by omega), if_neg (by omega), if_neg (by omega), if_neg (by omega), if_neg (by omega)]
def zW11 : List zLoc := [(56, some 3), (57, none), (78, some 0), (156, none), (157, none), (158, none), (159, none), (160, none), (161, none), (162, none), (193, none)]
theorem o_11 (fl : Nat → Nat) {S : Nat → Nat → Int32} (a1 a2 a3 a4 a5 a6 : Int32) (h : zCF fl S S) : Sl_11 fl S a1 a2 a3 a4 a5 a6 ∧ zCF fl (Fl_11 fl S a1 a2 a3 a4 a5 a6) (Fl_11 fl S a1 a2 a3 a4 a5 a6) ∧ zWr zW11 S (Fl_11 fl S a1 a2 a3 a4 a5 a6) := by
  have err : ∀ c : Int32, zCF fl (z_uS S 78 0 c) (z_uS S 78 0 c) ∧ zWr zW11 S (z_uS S 78 0 c) := fun c => ⟨h.ag ((zWr.slot (W := [(78, some 0)]) (by decide) S _).ag (by decide)), zWr.slot (by decide) S _⟩
  unfold Sl_11 Fl_11 Sf_L_transition F_L_transition F_M_thrown
  by_cases ok : zTOk a1 a2 a3 a4 a5 a6
  case neg =>
    simp only [(T_trans_no (S := S) (U := S) ok).1, (M_trans_no (S := S) ok).1, if_true]
    exact ⟨⟨⟨(T_trans_no (S := S) (U := S) ok).2, fun E S2 hE => by cases hE; simp⟩, (M_trans_no ok).2, by simp [uS_at], fun h0 => absurd h0 (by simp)⟩, (err 1).1, (err 1).2⟩
  case pos =>
    obtain ⟨t1, t2, -, -⟩ := T_trans_ok (S := S) ok
    have t34 : ∀ Q, F_M_transition Q a1 a2 a3 a4 a5 a6 = F_M_transition_j93 Q a1 a2 a3 a4 a5 a6 1 ∧ (Sf_M_transition_j93 Q a1 a2 a3 a4 a5 a6 1 → Sf_M_transition Q a1 a2 a3 a4 a5 a6) := fun Q => ⟨(T_trans_ok (S := Q) ok).2.2.1, (T_trans_ok (S := Q) ok).2.2.2⟩
    obtain ⟨x1, x2, x3, x4, x5, x6, x7, x8⟩ := ok
    obtain ⟨a, ha, rfl⟩ := zI_ex (n := 6) (p := a1) x1.1 x1.2 (by omega)
    obtain ⟨b, hb, rfl⟩ := zI_ex (n := 6) (p := a2) x2.1 x2.2 (by omega)
    -- refused as things stand
    have bad : ∀ Q : Nat → Nat → Int32, F_M_transition_j147 Q (zI a) (zI b) a3 a4 a5 a6 = (0, z_uS Q 78 0 2) ∧ Sf_M_transition_j147 Q (zI a) (zI b) a3 a4 a5 a6 := fun Q => by
      unfold F_M_transition_j147 Sf_M_transition_j147 F_M_transition_j152 Sf_M_transition_j152
      simp only [show ¬ ((2 : Int32) ≤ 0) by decide, if_false]
      exact ⟨trivial, trivial⟩
    rw [t1, (t34 _).1]
    have fin : ∀ (Q : (String ⊕ Int32) × (Nat → Nat → Int32)), Q = F_T_transition_j92 S (zI a) (zI b) a3 a4 a5 a6 → Sf_T_transition_j92 S (zI a) (zI b) a3 a4 a5 a6 → Sf_T_transition S (zI a) (zI b) a3 a4 a5 a6 := fun _ _ q => t2 q
    by_cases h3 : S 54 4 = -1
    case pos =>
      have h4 : S 78 26 = -1 := by rw [← h.of]; exact h3
      have eT : F_T_transition_j92 S (zI a) (zI b) a3 a4 a5 a6 = (.inl "java/lang/IllegalStateException", S) ∧ Sf_T_transition_j92 S (zI a) (zI b) a3 a4 a5 a6 := by
        unfold F_T_transition_j92 Sf_T_transition_j92
        simp only [if_pos h3]; exact ⟨trivial, trivial⟩
      have eM : F_M_transition_j93 S (zI a) (zI b) a3 a4 a5 a6 1 = (0, z_uS S 78 0 2) ∧ Sf_M_transition_j93 S (zI a) (zI b) a3 a4 a5 a6 1 := by
        unfold F_M_transition_j93 Sf_M_transition_j93
        simp only [z_b10, if_false, if_pos h4]; exact bad S
      simp only [eT.1, show ¬ ("java/lang/IllegalStateException" = "java/lang/IllegalArgumentException") by decide, if_false, if_true, eM.1]
      exact ⟨⟨⟨t2 eT.2, fun E S2 hE => by cases hE; simp⟩, (t34 S).2 eM.2, by simp [uS_at], fun h0 => absurd h0 (by simp)⟩, (err 2).1, (err 2).2⟩
    case neg =>
      have h4 : ¬ S 78 26 = -1 := by rw [← h.of]; exact h3
      obtain ⟨c, hr, hw⟩ := h.draft h3
      obtain ⟨g1, ⟨d, hd, hd2, hd3⟩, r, hr3⟩ := h.map h3
      have hle := hr.le
      have e1 : F_Flows_has S 3 (zI a) = if zB (S 55 3) a = true then 1 else 0 := Flows_has_I S (s := 3) (by omega) (by omega)
      have e2 : F_Flows_has S 3 (zI b) = if zB (S 55 3) b = true then 1 else 0 := Flows_has_I S (s := 3) (by omega) (by omega)
      have e3 : ∀ (Q : Nat → Nat → Int32) (i : Nat), i < 31 → Q 156 0 = S 156 0 → F_MF_has 156 Q (zI i) = if zB (S 55 3) i = true then 1 else 0 := fun Q i hi hQ => by rw [MF_has_I 156 Q hi, hQ, ← hr.states]
      have e4 : zAt (S 56) 4 3 = zI c := by rw [show (3 : Int32) = zI 3 from rfl, zAt_I (by omega) (by omega)]; exact hr.cnt
      by_cases h5 : (zB (S 55 3) a = true ∧ zB (S 55 3) b = true) ∧ c < 8
      case neg =>
        have eT : F_T_transition_j92 S (zI a) (zI b) a3 a4 a5 a6 = (.inl "java/lang/IllegalStateException", S) ∧ Sf_T_transition_j92 S (zI a) (zI b) a3 a4 a5 a6 := by
          unfold F_T_transition_j92 Sf_T_transition_j92
          simp only [if_neg h3, e1, e2, e4]
          by_cases b1 : zB (S 55 3) a = true
          case neg => simp only [if_neg b1, if_true]; exact ⟨trivial, Sf_Flows_has_I _ _ _, trivial⟩
          by_cases b2 : zB (S 55 3) b = true
          case neg => simp only [if_pos b1, if_neg b2, z_b10, if_false, if_true]; exact ⟨trivial, Sf_Flows_has_I _ _ _, Sf_Flows_has_I _ _ _, trivial⟩
          have b3 : (8 : Int32) ≤ zI c := by
            rw [show (8 : Int32) = zI 8 from rfl, zI_le (by omega) (by omega)]
            have : ¬ c < 8 := fun q => h5 ⟨⟨b1, b2⟩, q⟩
            omega
          simp only [if_pos b1, if_pos b2, if_pos b3, z_b10, if_false]; exact ⟨trivial, Sf_Flows_has_I _ _ _, Sf_Flows_has_I _ _ _, trivial⟩
        have eM : F_M_transition_j93 S (zI a) (zI b) a3 a4 a5 a6 1 = (0, z_uS S 78 0 2) ∧ Sf_M_transition_j93 S (zI a) (zI b) a3 a4 a5 a6 1 := by
          unfold F_M_transition_j93 Sf_M_transition_j93
          simp only [z_b10, if_false, if_neg h4, e3 S a (by omega) rfl, e3 S b (by omega) rfl]
          by_cases b1 : zB (S 55 3) a = true
          case neg => simp only [if_neg b1, if_true]; exact bad S
          by_cases b2 : zB (S 55 3) b = true
          case neg => simp only [if_pos b1, if_neg b2, z_b10, if_false, if_true]; exact bad S
          have b3 : S 156 1 = 8 := by
            have : ¬ c < 8 := fun q => h5 ⟨⟨b1, b2⟩, q⟩
            rw [hr.many, show c = 8 by omega]; rfl
          simp only [if_pos b1, if_pos b2, if_pos b3, z_b10, if_false]; exact bad S
        simp only [eT.1, show ¬ ("java/lang/IllegalStateException" = "java/lang/IllegalArgumentException") by decide, if_false, if_true, eM.1]
        exact ⟨⟨⟨t2 eT.2, fun E S2 hE => by cases hE; simp⟩, (t34 S).2 eM.2, by simp [uS_at], fun h0 => absurd h0 (by simp)⟩, (err 2).1, (err 2).2⟩
      case pos =>
        obtain ⟨⟨b1, b2⟩, hc⟩ := h5
        have b3 : ¬ (8 : Int32) ≤ zI c := by rw [show (8 : Int32) = zI 8 from rfl, zI_le (by omega) (by omega)]; omega
        obtain ⟨q, hq⟩ : ∃ q : Nat → Int32, q = fun p => if p = 0 then zI a else if p = 1 then zI b else if p = 2 then a3 else if p = 3 then a4 else if p = 4 then a5 else a6 := ⟨_, rfl⟩
        have q0 : q 0 = zI a := by rw [hq]; rfl
        have q1 : q 1 = zI b := by rw [hq]; rfl
        have q2 : q 2 = a3 := by rw [hq]; rfl
        have q3 : q 3 = a4 := by rw [hq]; rfl
        have q4 : q 4 = a5 := by rw [hq]; rfl
        have q5 : q 5 = a6 := by rw [hq]; rfl
        obtain ⟨V, v1, v2, v3, v4⟩ := Flows_setAll (z_uS S 56 3 (zI (c + 1))) hc q
        rw [q0, q1, q2, q3, q4, q5] at v1
        have eP : zPut S 56 4 3 (zI (c + 1)) = z_uS S 56 3 (zI (c + 1)) := by rw [show (3 : Int32) = zI 3 from rfl, zPut_I (by omega) (by omega)]
        have eT : F_T_transition_j92 S (zI a) (zI b) a3 a4 a5 a6 = (.inr (zI c), V) ∧ Sf_T_transition_j92 S (zI a) (zI b) a3 a4 a5 a6 := by
          unfold F_T_transition_j92 Sf_T_transition_j92
          simp only [if_neg h3, e1, e2, e4, if_pos b1, if_pos b2, if_neg b3, z_b10, if_false, zI_succ, eP, z_let, v1]
          exact ⟨trivial, Sf_Flows_has_I _ _ _, Sf_Flows_has_I _ _ _, trivial⟩
        have VS : ∀ m, m ≠ 56 → m ≠ 57 → V m = S m := fun m h1 h2 => by rw [v2 m h2, z_uS_ne _ _ _ h1]
        generalize hX : z_uS V 193 0 (zI c) = X
        have XS : ∀ m, m ≠ 56 → m ≠ 57 → m ≠ 193 → X m = S m := fun m h1 h2 h3 => by rw [← hX, z_uS_ne _ _ _ h3, VS m h1 h2]
        have h156 : (z_uS X 78 0 0) 156 1 = zI c := by rw [z_uS_ne _ _ _ (by omega), XS _ (by omega) (by omega) (by omega)]; exact hr.many
        obtain ⟨ea, sa⟩ := MF_add_eq (fa := 156) (S := z_uS X 78 0 0) q h156 hc
        rw [q0, q1, q2, q3, q4, q5] at ea sa
        have eM : F_M_transition_j93 X (zI a) (zI b) a3 a4 a5 a6 1 = (zI c, zAdd 156 (z_uS X 78 0 0) c q) ∧ Sf_M_transition_j93 X (zI a) (zI b) a3 a4 a5 a6 1 := by
          unfold F_M_transition_j93 Sf_M_transition_j93 F_M_transition_j152 Sf_M_transition_j152
          have i1 : ¬ X 78 26 = -1 := by rw [XS _ (by omega) (by omega) (by omega)]; exact h4
          have i2 : X 156 = S 156 := XS _ (by omega) (by omega) (by omega)
          have i3 : ¬ X 156 1 = 8 := by rw [i2, hr.many, show (8 : Int32) = zI 8 from rfl, zI_inj (by omega) (by omega)]; omega
          simp only [z_b10, if_false, if_neg i1, e3 X a (by omega) (by rw [i2]), e3 X b (by omega) (by rw [i2]), if_pos b1, if_pos b2, if_neg i3, show ((0 : Int32) ≤ 0) by decide, if_true, z_let, ea, zAdd_1]
          refine ⟨?_, sa, trivial⟩
          rw [show (1 : Int32) = zI 1 from rfl, zI_sub (by omega) (by omega)]
          rfl
        simp only [eT.1, hX, eM.1]
        generalize hY : zAdd 156 (z_uS X 78 0 0) c q = Y
        have Yout : ∀ m, (m < 56 ∨ 57 < m ∧ m < 78 ∨ 78 < m ∧ m < 156 ∨ 162 < m ∧ m ≠ 193) → Y m = S m := fun m i => by rw [← hY, zAdd_ne (by omega), z_uS_ne _ _ _ (by omega), XS m (by omega) (by omega) (by omega)]
        have Y78 : Y 78 = upd (S 78) 0 0 := by rw [← hY, zAdd_ne (by omega), z_uS_self, XS _ (by omega) (by omega) (by omega)]
        have Y56 : Y 56 = upd (S 56) 3 (zI (c + 1)) := by rw [← hY, zAdd_ne (by omega), z_uS_ne _ _ _ (by omega), ← hX, z_uS_ne _ _ _ (by omega), v2 _ (by omega), z_uS_self]
        have Y57 : Y 57 = V 57 := by rw [← hY, zAdd_ne (by omega), z_uS_ne _ _ _ (by omega), ← hX, z_uS_ne _ _ _ (by omega)]
        have Y193 : Y 193 0 = zI c := by rw [← hY, zAdd_ne (by omega), z_uS_ne _ _ _ (by omega), ← hX, uS_at]
        have V57 : ∀ j, (j < (24 + c) * 6 ∨ (24 + c) * 6 + 6 ≤ j) → V 57 j = S 57 j := fun j hj => by rw [v4 j hj, z_uS_ne _ _ _ (by omega)]
        refine ⟨⟨⟨t2 eT.2, fun E S2 hE => by cases hE⟩, (t34 X).2 eM.2, by rw [Y78]; simp [upd], fun _ => Y193⟩, h.redraft (fun m hm => by rw [Yout 55 (by omega)]) (fun m hm => by rw [Y56]; simp [upd, show m ≠ 3 by omega]) (fun j hj => by rw [Y57, V57 j (by omega)]) (fun m hm => Yout m (by omega)) (by rw [Yout 54 (by omega), Y78]; simp [upd]; exact h.of) (fun _ => ⟨⟨c + 1, ?_, ?_⟩, ?_⟩), ?_⟩
        · refine ⟨by omega, ?_, ?_, ?_, fun j hj p hp => ?_⟩
          · rw [Yout 55 (by omega), ← hY, zAdd_0, z_uS_ne _ _ _ (by omega), XS _ (by omega) (by omega) (by omega)]; exact hr.states
          · rw [Y56]; simp [upd]
          · rw [← hY]; exact zAdd_1 _ _ _ _
          · rw [Y57, ← hY, zAdd_row _ _ _ _ hp, z_uS_ne _ _ _ (by omega), XS _ (by omega) (by omega) (by omega)]
            by_cases hjc : j = c
            · subst hjc; rw [if_pos rfl]; exact v3 p hp
            · rw [if_neg hjc, V57 _ (by omega)]; exact hr.part j (by omega) p hp
        · refine ⟨by rw [Yout 55 (by omega)]; exact hw.b0, by rw [Yout 55 (by omega)]; exact hw.hi, fun j hj => ?_⟩
          rw [Yout 55 (by omega), Y57]
          by_cases hjc : j = c
          · subst hjc
            refine zStepOk.congr (q := q) ?_ (fun p hp => v3 p hp)
            unfold zStepOk
            rw [q0, q1, q3, q4, q5]
            refine ⟨⟨a, ha, rfl, b1⟩, ⟨b, hb, rfl, b2⟩, ?_, x6, x7, x8⟩
            by_cases n4 : a4 = -1
            · exact Or.inl n4
            · right
              rw [i_m1] at n4
              obtain ⟨f, hf, rfl⟩ := zI_ex (n := 3) (p := a4) (by omega) (by omega) (by omega)
              exact ⟨f, hf, rfl⟩
          · exact (hw.step j (by omega)).congr fun p hp => V57 _ (by omega)
        · unfold zDM
          rw [Yout 58 (by omega), Yout 163 (by omega), Yout 54 (by omega), Yout 55 (by omega)]
          exact ⟨g1, ⟨d, hd, hd2, hd3⟩, r, hr3⟩
        · intro m j hcv
          have n57 := zCov.ne hcv (a := 57) (by decide) (by omega)
          have n6 := zCov.ne hcv (a := 156) (by decide) (by omega)
          have n7 := zCov.ne hcv (a := 157) (by decide) (by omega)
          have n8 := zCov.ne hcv (a := 158) (by decide) (by omega)
          have n9 := zCov.ne hcv (a := 159) (by decide) (by omega)
          have n10 := zCov.ne hcv (a := 160) (by decide) (by omega)
          have n11 := zCov.ne hcv (a := 161) (by decide) (by omega)
          have n12 := zCov.ne hcv (a := 162) (by decide) (by omega)
          have n14 := zCov.ne hcv (a := 193) (by decide) (by omega)
          by_cases c56 : m = 56
          · have := zCov.nj hcv (a := 56) (s := 3) (by decide) (by omega) c56
            subst c56
            rw [Y56]; simp [upd, this]
          by_cases c78 : m = 78
          · have := zCov.nj hcv (a := 78) (s := 0) (by decide) (by omega) c78
            subst c78
            rw [Y78]; simp [upd, this]
          · rw [Yout m (by omega)]
