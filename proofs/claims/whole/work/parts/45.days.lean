/-! PURE: days, the index, the text, the draft forgotten -/
theorem i_add {a b : Int32} (h1 : -2147483648 ≤ a.toInt + b.toInt) (h2 : a.toInt + b.toInt < 2147483648) : (a + b).toInt = a.toInt + b.toInt := by
  rw [Int32.toInt_add]
  exact Int.bmod_eq_of_le (by omega) (by omega)
def zCT (S : Nat → Nat → Int32) : Prop := S 0 14 = S 78 1 ∧ 0 ≤ (S 0 14).toInt ∧ (S 0 14).toInt ≤ 400
theorem zCT.now {S : Nat → Nat → Int32} (h : zCT S) : S 0 14 = S 78 1 := h.1
theorem zCT.lo {S : Nat → Nat → Int32} (h : zCT S) : 0 ≤ (S 0 14).toInt := h.2.1
theorem zCT.hi {S : Nat → Nat → Int32} (h : zCT S) : (S 0 14).toInt ≤ 400 := h.2.2
def zDT : List zLoc := [(0, some 14), (78, some 1)]
theorem zCT.ag {S S' : Nat → Nat → Int32} (h : zCT S) (g : zAg zDT S S') : zCT S' := by
  have e1 : S' 0 14 = S 0 14 := g.slot (by decide)
  have e2 : S' 78 1 = S 78 1 := g.slot (by decide)
  exact ⟨by rw [e1, e2]; exact h.now, by rw [e1]; exact h.lo, by rw [e1]; exact h.hi⟩
def zW4 : List zLoc := [(0, some 14), (78, some 0), (78, some 1), (193, none)]
theorem o_4 (fl : Nat → Nat) {S : Nat → Nat → Int32} (a1 a2 a3 a4 a5 a6 : Int32) (h : zCT S) : Sl_4 fl S a1 a2 a3 a4 a5 a6 ∧ zCT (Fl_4 fl S a1 a2 a3 a4 a5 a6) ∧ zWr zW4 S (Fl_4 fl S a1 a2 a3 a4 a5 a6) := by
  have hnow := h.now
  have hlo := h.lo
  have hhi := h.hi
  have err : ∀ c : Int32, zCT (z_uS (z_uS S 78 0 c) 78 1 ((z_uS S 78 0 c) 78 1 + 0)) ∧ zWr zW4 S (z_uS (z_uS S 78 0 c) 78 1 ((z_uS S 78 0 c) 78 1 + 0)) := fun c =>
    ⟨⟨by simp [z_uS, upd, hnow], by simpa [z_uS, upd] using hlo, by simpa [z_uS, upd] using hhi⟩, (zWr.slot (by decide) S _).trans (zWr.slot (by decide) _ _)⟩
  unfold Sl_4 Fl_4 Sf_L_pass F_L_pass F_T_pass F_M_pass F_M_thrown F_M_pass_j32 F_M_pass_j52
  simp only [M_isIn_eq, T_lt, T_le, show (0 : Int32).toInt = 0 from rfl, show (1 : Int32).toInt = 1 from rfl, show (60 : Int32).toInt = 60 from rfl, show (400 : Int32).toInt = 400 from rfl, show (2 : Int32).toInt = 2 from rfl]
  by_cases h1 : a1.toInt < 1
  case pos =>
    have m0 : ¬ (1 ≤ a1.toInt ∧ a1.toInt ≤ 60) := by omega
    simp only [if_pos h1, if_neg m0, z_b10, z_b01, if_true, if_false, show ¬ ((1 : Int) ≤ 0) by decide]
    exact ⟨⟨fun E S2 hE => by cases hE; simp, by simp [z_uS, upd], fun h0 => absurd h0 (by simp)⟩, by simpa [z_uS, upd] using (err 1).1, by simpa [z_uS, upd] using (err 1).2⟩
  case neg =>
    by_cases h2 : 60 < a1.toInt
    case pos =>
      have m0 : ¬ (1 ≤ a1.toInt ∧ a1.toInt ≤ 60) := by omega
      simp only [if_neg h1, if_pos h2, if_neg m0, z_b10, z_b01, if_true, if_false, show ¬ ((1 : Int) ≤ 0) by decide]
      exact ⟨⟨fun E S2 hE => by cases hE; simp, by simp [z_uS, upd], fun h0 => absurd h0 (by simp)⟩, by simpa [z_uS, upd] using (err 1).1, by simpa [z_uS, upd] using (err 1).2⟩
    case neg =>
      have m0 : 1 ≤ a1.toInt ∧ a1.toInt ≤ 60 := by omega
      have ea : (S 0 14 + a1).toInt = (S 0 14).toInt + a1.toInt := i_add (by omega) (by omega)
      by_cases h3 : 400 < (S 0 14 + a1).toInt
      case pos =>
        have m1 : ¬ ((S 78 1 + a1).toInt ≤ 400) := by rw [← hnow]; omega
        simp only [if_neg h1, if_neg h2, if_pos h3, if_pos m0, if_neg m1, z_b10, z_b01, z_b20, if_true, if_false, show ¬ ((2 : Int) ≤ 0) by decide]
        exact ⟨⟨fun E S2 hE => by cases hE; simp, by simp [z_uS, upd], fun h0 => absurd h0 (by simp)⟩, by simpa [z_uS, upd] using (err 2).1, by simpa [z_uS, upd] using (err 2).2⟩
      case neg =>
        have m1 : (z_uS (z_uS S 0 14 (S 0 14 + a1)) 193 0 (S 0 14 + a1)) 78 1 = S 0 14 := by simp [z_uS, hnow]
        simp only [if_neg h1, if_neg h2, if_neg h3, if_pos m0, m1, z_b10, z_b01, if_true, if_false, show ((0 : Int) ≤ 0) by decide]
        have m2 : (S 0 14 + a1).toInt ≤ 400 := by omega
        simp only [if_pos m2]
        refine ⟨⟨(fun E S2 hE => by cases hE), by simp [z_uS, upd], fun _ => by simp [z_uS, upd]⟩, ⟨by simp [z_uS, upd], ?_, ?_⟩, (zWr.slot (by decide) S _).trans ((zWr.cell (by decide) _ _ _).trans ((zWr.slot (by decide) _ _).trans (zWr.slot (by decide) _ _)))⟩
        · have e : (z_uS (z_uS (z_uS (z_uS S 0 14 (S 0 14 + a1)) 193 0 (S 0 14 + a1)) 78 0 0) 78 1 (S 0 14 + a1)) 0 14 = S 0 14 + a1 := by simp [z_uS, upd]
          rw [e]; omega
        · have e : (z_uS (z_uS (z_uS (z_uS S 0 14 (S 0 14 + a1)) 193 0 (S 0 14 + a1)) 78 0 0) 78 1 (S 0 14 + a1)) 0 14 = S 0 14 + a1 := by simp [z_uS, upd]
          rw [e]; omega
/-- what the index has -/
def zCI (S : Nat → Nat → Int32) : Prop := S 0 15 = S 78 16
def zDI : List zLoc := [(0, some 15), (78, some 16)]
theorem zCI.ag {S S' : Nat → Nat → Int32} (h : zCI S) (g : zAg zDI S S') : zCI S' := by
  have e1 : S' 0 15 = S 0 15 := g.slot (by decide)
  have e2 : S' 78 16 = S 78 16 := g.slot (by decide)
  show S' 0 15 = S' 78 16
  rw [e1, e2]; exact h
def zW5 : List zLoc := [(0, some 15), (78, some 0), (78, some 16)]
theorem o_5 (fl : Nat → Nat) {S : Nat → Nat → Int32} (a1 a2 a3 a4 a5 a6 : Int32) (hsz : S 1 7 = S 78 2) : Sl_5 fl S a1 a2 a3 a4 a5 a6 ∧ zCI (Fl_5 fl S a1 a2 a3 a4 a5 a6) ∧ zWr zW5 S (Fl_5 fl S a1 a2 a3 a4 a5 a6) ∧ Fl_5 fl S a1 a2 a3 a4 a5 a6 0 15 = S 1 7 := by
  unfold Sl_5 Fl_5 F_T_index F_M_index
  exact ⟨by simp [z_uS, hsz], by simp [zCI, z_uS, upd, hsz], (zWr.slot (by decide) S _).trans ((zWr.slot (by decide) _ _).trans (zWr.slot (by decide) _ _)), by simp [z_uS, upd]⟩
def zW6 : List zLoc := [(78, some 0)]
theorem o_6 (fl : Nat → Nat) {S : Nat → Nat → Int32} (a1 a2 a3 a4 a5 a6 : Int32) (hsz : S 1 7 = S 78 2) : Sl_6 fl S a1 a2 a3 a4 a5 a6 ∧ zWr zW6 S (Fl_6 fl S a1 a2 a3 a4 a5 a6) := by
  unfold Sl_6 Fl_6 F_T_entries F_M_entries
  exact ⟨by simp [hsz], zWr.slot (by decide) S _⟩
/-- which draft there is -/
def zCD (S : Nat → Nat → Int32) : Prop := S 54 4 = S 78 26
def zDD : List zLoc := [(54, some 4), (78, some 26)]
theorem zCD.ag {S S' : Nat → Nat → Int32} (h : zCD S) (g : zAg zDD S S') : zCD S' := by
  have e1 : S' 54 4 = S 54 4 := g.slot (by decide)
  have e2 : S' 78 26 = S 78 26 := g.slot (by decide)
  show S' 54 4 = S' 78 26
  rw [e1, e2]; exact h
def zW13 : List zLoc := [(54, some 4), (78, some 0), (78, some 26)]
theorem o_13 (fl : Nat → Nat) {S : Nat → Nat → Int32} (a1 a2 a3 a4 a5 a6 : Int32) (h : zCD S) : Sl_13 fl S a1 a2 a3 a4 a5 a6 ∧ zCD (Fl_13 fl S a1 a2 a3 a4 a5 a6) ∧ zWr zW13 S (Fl_13 fl S a1 a2 a3 a4 a5 a6) ∧ Fl_13 fl S a1 a2 a3 a4 a5 a6 54 4 = -1 := by
  have h' : S 54 4 = S 78 26 := h
  have w : zWr zW13 S (z_uS (z_uS (z_uS S 54 4 (-1)) 78 0 0) 78 26 (-1)) := (zWr.slot (by decide) S _).trans ((zWr.slot (by decide) _ _).trans (zWr.slot (by decide) _ _))
  unfold Sl_13 Fl_13 F_T_forget F_M_forget F_T_forget_j16 F_M_forget_j18 Sf_T_forget Sf_M_forget Sf_T_forget_j16 Sf_M_forget_j18
  by_cases h1 : S 54 4 = -1
  · have m1 : S 78 26 = -1 := by rw [← h']; exact h1
    simp only [if_pos h1]
    have m2 : (z_uS S 54 4 (-1)) 78 26 = -1 := by simp [z_uS, m1]
    simp only [if_pos m2]
    exact ⟨⟨⟨rfl, trivial⟩, ⟨rfl, trivial⟩, trivial⟩, by simp [zCD, z_uS, upd], w, by simp [z_uS, upd]⟩
  · have m1 : ¬ S 78 26 = -1 := by rw [← h']; exact h1
    simp only [if_neg h1]
    have m2 : ¬ (z_uS S 54 4 (-1)) 78 26 = -1 := by simpa [z_uS] using m1
    simp only [if_neg m2]
    exact ⟨⟨⟨rfl, trivial⟩, ⟨rfl, trivial⟩, trivial⟩, by simp [zCD, z_uS, upd], w, by simp [z_uS, upd]⟩
/-- the text -/
def zCh (x : Int32) : Prop := narrow .char (.int x) = .int x
theorem zCh.nar {x : Int32} (h : zCh x) : vp_nar .char x = x := by
  unfold vp_nar
  rw [h]
def zCQ (S : Nat → Nat → Int32) : Prop := S 19 7 = S 78 51 ∧ 0 ≤ (S 19 7).toInt ∧ (S 19 7).toInt ≤ 30 ∧ zEqN 30 (S 20) (S 185) ∧ ∀ i, i < 30 → zCh (S 20 i)
theorem zCQ.len {S : Nat → Nat → Int32} (h : zCQ S) : S 19 7 = S 78 51 := h.1
theorem zCQ.lo {S : Nat → Nat → Int32} (h : zCQ S) : 0 ≤ (S 19 7).toInt := h.2.1
theorem zCQ.hi {S : Nat → Nat → Int32} (h : zCQ S) : (S 19 7).toInt ≤ 30 := h.2.2.1
theorem zCQ.text {S : Nat → Nat → Int32} (h : zCQ S) : zEqN 30 (S 20) (S 185) := h.2.2.2.1
theorem zCQ.ch {S : Nat → Nat → Int32} (h : zCQ S) : ∀ i, i < 30 → zCh (S 20 i) := h.2.2.2.2
def zDQ : List zLoc := [(19, some 7), (78, some 51), (20, none), (185, none)]
theorem zCQ.ag {S S' : Nat → Nat → Int32} (h : zCQ S) (g : zAg zDQ S S') : zCQ S' := by
  have e1 : S' 19 7 = S 19 7 := g.slot (by decide)
  have e2 : S' 78 51 = S 78 51 := g.slot (by decide)
  exact ⟨by rw [e1, e2]; exact h.len, by rw [e1]; exact h.lo, by rw [e1]; exact h.hi, by rw [g.cell (a := 20) (by decide), g.cell (a := 185) (by decide)]; exact h.text, by rw [g.cell (a := 20) (by decide)]; exact h.ch⟩
def zW25 : List zLoc := [(19, some 7), (78, some 0), (78, some 51)]
theorem o_25 (fl : Nat → Nat) {S : Nat → Nat → Int32} (a1 a2 a3 a4 a5 a6 : Int32) (h : zCQ S) : Sl_25 fl S a1 a2 a3 a4 a5 a6 ∧ zCQ (Fl_25 fl S a1 a2 a3 a4 a5 a6) ∧ zWr zW25 S (Fl_25 fl S a1 a2 a3 a4 a5 a6) := by
  unfold Sl_25 Fl_25 F_T_wipe F_M_wipe
  refine ⟨by simp [z_uS, h.len], ⟨by simp [z_uS, upd], by simp [z_uS, upd], by simp [z_uS, upd], by simpa [z_uS] using h.text, fun i hi => by simpa [z_uS] using h.ch i hi⟩, (zWr.slot (by decide) S _).trans ((zWr.slot (by decide) _ _).trans (zWr.slot (by decide) _ _))⟩
def zW24 : List zLoc := [(19, some 7), (20, none), (78, some 0), (78, some 51), (185, none), (193, none)]
theorem o_24 (fl : Nat → Nat) {S : Nat → Nat → Int32} (a1 a2 a3 a4 a5 a6 : Int32) (h : zCQ S) : Sl_24 fl S a1 a2 a3 a4 a5 a6 ∧ zCQ (Fl_24 fl S a1 a2 a3 a4 a5 a6) ∧ zWr zW24 S (Fl_24 fl S a1 a2 a3 a4 a5 a6) := by
  have hlen := h.len
  have hlo := h.lo
  have hhi := h.hi
  unfold Sl_24 Fl_24
  have hch : zCh (a1.toUInt32 % 65536).toInt32 := pk_nc a1
  generalize (a1.toUInt32 % 65536).toInt32 = p at hch
  have err : ∀ c : Int32, zCQ (z_uS S 78 0 c) ∧ zWr zW24 S (z_uS S 78 0 c) := fun c => ⟨h.ag ((zWr.slot (W := [(78, some 0)]) (by decide) S _).ag (by decide)), zWr.slot (by decide) S _⟩
  unfold Sf_L_type Sf_T_type Sf_Query_append F_L_type F_T_type Sf_M_type F_M_type F_M_thrown Sf_M_type_j30 F_M_type_j30 F_Query_append
  simp only [M_isIn_eq, T_lt, T_le, show (0 : Int32).toInt = 0 from rfl, show (32 : Int32).toInt = 32 from rfl, show (126 : Int32).toInt = 126 from rfl, show (30 : Int32).toInt = 30 from rfl, show (1 : Int32).toInt = 1 from rfl, show (2 : Int32).toInt = 2 from rfl]
  by_cases h1 : p.toInt < 32
  case pos =>
    have m0 : ¬ (32 ≤ p.toInt ∧ p.toInt ≤ 126) := by omega
    simp only [if_pos h1, if_neg m0, z_b10, z_b01, if_true, if_false, show ¬ ((1 : Int) ≤ 0) by decide]
    exact ⟨⟨⟨trivial, fun E S2 hE => by cases hE; simp⟩, trivial, by simp [uS_at], fun h0 => absurd h0 (by simp)⟩, (err 1).1, (err 1).2⟩
  case neg =>
    by_cases h2 : 126 < p.toInt
    case pos =>
      have m0 : ¬ (32 ≤ p.toInt ∧ p.toInt ≤ 126) := by omega
      simp only [if_neg h1, if_pos h2, if_neg m0, z_b10, z_b01, if_true, if_false, show ¬ ((1 : Int) ≤ 0) by decide]
      exact ⟨⟨⟨trivial, fun E S2 hE => by cases hE; simp⟩, trivial, by simp [uS_at], fun h0 => absurd h0 (by simp)⟩, (err 1).1, (err 1).2⟩
    case neg =>
      have m0 : 32 ≤ p.toInt ∧ p.toInt ≤ 126 := by omega
      by_cases h3 : 30 ≤ (S 19 7).toInt
      case pos =>
        have e30 : S 78 51 = 30 := by rw [← hlen]; exact Int32.toInt_inj.mp (by show (S 19 7).toInt = 30; omega)
        simp only [if_neg h1, if_neg h2, if_pos h3, if_pos m0, e30, z_b10, z_b01, if_true, if_false, show ¬ ((2 : Int) ≤ 0) by decide]
        exact ⟨⟨⟨trivial, fun E S2 hE => by cases hE; simp⟩, trivial, by simp [uS_at], fun h0 => absurd h0 (by simp)⟩, (err 2).1, (err 2).2⟩
      case neg =>
        have h4 : ¬ (S 19 7).toInt < 0 := by omega
        simp only [if_neg h1, if_neg h2, if_neg h3, if_neg h4, if_pos m0, z_b10, z_b01, if_true, if_false]
        have hlt : (S 19 7).toInt < 30 := by omega
        have hi := i_clamp hlo
        have hl1 : (S 19 7 + 1).toInt = (S 19 7).toInt + 1 := i_add (by show _ ≤ _ + (1 : Int32).toInt; simp; omega) (by show _ + (1 : Int32).toInt < _; simp; omega)
        have e1 : (z_uS (z_uS (z_uS S 20 (S 19 7).toNatClampNeg (vp_nar .char p)) 19 7 (S 19 7 + 1)) 193 0 (S 19 7 + 1)) 78 51 = S 19 7 := by simp [z_uS, hlen]
        have e30 : ¬ S 19 7 = 30 := fun e => by rw [e] at hlt; exact absurd hlt (by decide)
        have e0 : (z_uS (z_uS (z_uS (z_uS S 20 (S 19 7).toNatClampNeg (vp_nar .char p)) 19 7 (S 19 7 + 1)) 193 0 (S 19 7 + 1)) 78 0 0) 78 51 = S 19 7 := by simp [z_uS, upd, hlen]
        simp only [e1, if_neg e30, show ((0 : Int) ≤ 0) by decide, if_true]
        refine ⟨⟨⟨by simp [vp_inI (len := 30) hlo hlt], (fun E S2 hE => by cases hE)⟩, ⟨vp_inI (len := 30) hlo hlt, trivial⟩, by simp [z_uS, upd], fun _ => by simp [z_uS, upd]⟩, ⟨by simp [z_uS, upd], ?_, ?_, ?_, ?_⟩, ?_⟩
        · simp [z_uS, upd, -Int32.toInt_add]; omega
        · simp [z_uS, upd, -Int32.toInt_add]; omega
        · exact upd_pair (j := (S 19 7).toNatClampNeg) (v := vp_nar .char p) h.text (by simp [z_uS]) (by simp [z_uS])
        · intro i hi
          have hx := h.ch i hi
          have hp := hch.nar
          by_cases q : i = (S 19 7).toNatClampNeg
          · simp [z_uS, upd, q, hp, hch]
          · simp [z_uS, upd, q, hx]
        · exact (zWr.cell (by decide) S _ _).trans ((zWr.slot (by decide) _ _).trans ((zWr.cell (by decide) _ _ _).trans ((zWr.slot (by decide) _ _).trans ((zWr.cell (by decide) _ _ _).trans (zWr.slot (by decide) _ _)))))
