/-! PURE: assign, sprint: a column set by one who edits -/
def aOk (E : Nat → Nat → Int32) (d p i c : Nat) (v : Int32) (A : zA) : Bool := vEdit E A.2.2 p i && decide ((aC d p i c v A).2.1 ≤ 800)
def aCell (E : Nat → Nat → Int32) (d p i c : Nat) (v : Int32) (A : zA) : zA := if vEdit E A.2.2 p i = true then aLim A.2.1 (aC d p i c v A) else A
theorem aCell_ok {E : Nat → Nat → Int32} {d p i c : Nat} {v : Int32} {A : zA} (hA : zOk d A) (hn : A.2.1 ≤ 800) (hO : zOk d (aC d p i c v A)) (h1 : A.2.1 ≤ (aC d p i c v A).2.1) : zOk d (aCell E d p i c v A) ∧ (aCell E d p i c v A).2.1 ≤ 800 := by
  unfold aCell
  split
  · exact aLim_ok hO h1 hn
  · exact ⟨hA, hn⟩
theorem zB0.ccell {fl : Nat → Nat} {S : Nat → Nat → Int32} {d : Nat} {A : zA} {rn p i c : Nat} {v : Int32} (h : zB0 fl S d A rn) (hX : zOk d (aC d p i c v A) := by assumption) (hc : c ≠ 0 ∧ c ≠ 9 := by omega) : zCN S (aCell S d p i c v A) := by
  unfold aCell
  split
  · exact h.clim zNb.rfl.aC
  · exact h.cn
theorem aC_n {d p i c : Nat} {v : Int32} {A : zA} : A.2.1 ≤ (aC d p i c v A).2.1 ∧ (aC d p i c v A).2.1 ≤ A.2.1 + 1 := by
  rcases aC_cases (d := d) (p := p) (i := i) (c := c) (v := v) (A := A) with e | e <;> rw [e]
  · omega
  · show A.2.1 ≤ A.2.1 + 1 ∧ A.2.1 + 1 ≤ A.2.1 + 1; omega
theorem T_setCell_I {E V : Nat → Nat → Int32} {d p i c : Nat} {A : zA} (hst : zSt E A.2.2 p 30 V) (hC : zRC V A) (hA : zOk d A) (hd : V 0 14 = zI d) (hn : A.2.1 ≤ 800) (hi : i < 30) (hc : c < 9) (v : Int32) (hO : zOk d (aC d p i c v A)) :
    ∃ D, F_T_setCell V (zI p) (zI i) (zI c) v = (if aOk E d p i c v A = true then .inr (wC A.2.2 i c) else .inl "java/lang/IllegalStateException", D) ∧ Sf_T_setCell V (zI p) (zI i) (zI c) v ∧ zFC V D ∧ zRC D (aCell E d p i c v A) := by
  have he := Sight_canEdit_I hst hi
  have hs := Sf_canEdit_I V (zI i)
  unfold F_T_setCell Sf_T_setCell aOk aCell
  rw [he]
  by_cases q : vEdit E A.2.2 p i = true
  · obtain ⟨C, c1, c2, c3, c4⟩ := T_change_C (p := p) hC (show A.2.1 < 900 by omega) hd hi hc v
    have hb := aC_n (d := d) (p := p) (i := i) (c := c) (v := v) (A := A)
    obtain ⟨r, D, d1, d2, d3, d4, d5⟩ := T_isWithinLimit_I (m := A.2.1) (show (aC d p i c v A).2.1 ≤ 900 by omega) hb.1 c3 hO
    have h17 : V 1 7 = zI A.2.1 := hC.1.size
    obtain ⟨x1, x2⟩ := hC.2.cell hi (show c < 10 by omega)
    simp only [q, if_true, if_neg ne_10, z_let, c1, h17, d1, x1, Bool.true_and]
    unfold aLim
    by_cases r8 : (aC d p i c v A).2.1 ≤ 800
    · obtain ⟨e, g⟩ := d4 r8
      subst e
      simp only [if_neg ne_10, decide_eq_true r8, if_pos r8, if_true]
      exact ⟨D, rfl, ⟨hs, x2, c2, d2, trivial⟩, c4.trans d3, by rw [g]; exact c3⟩
    · obtain ⟨e, g⟩ := d5 r8
      subst e
      simp only [if_true, decide_eq_false r8, if_neg r8, Bool.false_eq_true, if_false]
      exact ⟨D, rfl, ⟨hs, x2, c2, d2, trivial⟩, c4.trans d3, g⟩
  · have q' : vEdit E A.2.2 p i = false := by simpa using q
    simp only [q', Bool.false_eq_true, if_false, if_true, Bool.false_and]
    exact ⟨V, rfl, ⟨hs, trivial⟩, zFC.rfl, hC⟩
theorem M_turns_I {fl : Nat → Nat} {E U : Nat → Nat → Int32} {d rn p i c : Nat} {A : zA} (h : zBM fl E U d A rn) (hp : p < 8) (hi : i < 30) (hc : c < 9) (hc4 : 4 ≤ c) (v : Int32) (hO : zOk d (aC d p i c v A)) (x5 : Int32) {x6 : Int32} (h6 : ¬ x6 ≤ 0) :
    ∃ W, F_M_turns fl U (zI c) (zI p) (zI i) v x5 x6 = (if aOk E d p i c v A = true then x5 else 0, W) ∧ Sf_M_turns fl U (zI c) (zI p) (zI i) v x5 x6 ∧ zFMX U W ∧ (W 78 0 = if aOk E d p i c v A = true then 0 else x6) ∧ zRM 86 W (aCell E d p i c v A) := by
  obtain ⟨e1, e2⟩ := M_edits_I h.y h.m.2.1 h.ok.rg hp hi
  have hn := h.n
  unfold F_M_turns Sf_M_turns aOk aCell
  rw [e1]
  by_cases q : vEdit E A.2.2 p i = true
  · have hw := vSee_there (Bool.and_eq_true_iff.mp q).1
    obtain ⟨X, k1, k2, k3, k4⟩ := M_chg h.bx h.m h.ok (by omega) p hi hc hw v
    have mk : mKc c = zI c := by unfold mKc; rw [if_neg (by omega), if_neg (by omega)]
    have mw : mWc c = 0 := by unfold mWc; rw [if_neg (by omega), if_neg (by omega)]
    rw [mk, mw] at k1 k2
    have hb := aC_n (d := d) (p := p) (i := i) (c := c) (v := v) (A := A)
    obtain ⟨Y, l1, l2, l3, l4⟩ := M_lim (p := p) (h.bx.mx k3) hp k4 hO (by omega) hb.1 (aC_by (Nat.le_refl _)) (aC_quiet (aQuiet_0 (Nat.le_refl _)) hc4)
    have hsz : U 78 2 = zI A.2.1 := h.m.1.size
    simp only [q, if_true, if_neg ne_10, z_let, k1, hsz, l1, Bool.true_and]
    unfold F_M_turns_j58
    by_cases r8 : (aC d p i c v A).2.1 ≤ 800
    · simp only [if_pos r8, if_neg ne_10, if_pos le_00, decide_eq_true r8, if_true]
      exact ⟨z_uS Y 78 0 0, rfl, ⟨e2, k2, l2, trivial⟩, (k3.trans l3).trans (zFMX.thr _ _), uS_at _ _ _ _, l4.thr _⟩
    · simp only [if_neg r8, if_true, if_neg h6, decide_eq_false r8, Bool.false_eq_true, if_false]
      exact ⟨z_uS Y 78 0 x6, rfl, ⟨e2, k2, l2, trivial⟩, (k3.trans l3).trans (zFMX.thr _ _), uS_at _ _ _ _, l4.thr _⟩
  · have q' : vEdit E A.2.2 p i = false := by simpa using q
    simp only [q', Bool.false_eq_true, if_false, if_true, Bool.false_and]
    exact ⟨z_uS U 78 0 x6, rfl, ⟨e2, trivial⟩, zFMX.thr _ _, uS_at _ _ _ _, h.m.thr _⟩
theorem o_16 {fl : Nat → Nat} {S : Nat → Nat → Int32} {d : Nat} {A : zA} {rn : Nat} (h : zB0 fl S d A rn) (a1 a2 a3 a4 a5 a6 : Int32) : Sl_16 fl S a1 a2 a3 a4 a5 a6 ∧ zEnd S (Fl_16 fl S a1 a2 a3 a4 a5 a6) d := by
  suffices g : zOp (fun E => (if E = "java/lang/IndexOutOfBoundsException" then 1 else (if E = "java/lang/IllegalStateException" then 2 else 0))) (fun E => E = "java/lang/IndexOutOfBoundsException" ∨ E = "java/lang/IllegalStateException") S d (F_T_assign S a1 a2 a3) (Sf_T_assign S a1 a2 a3) (fun U => F_M_assign fl U a1 a2 a3) (fun U => Sf_M_assign fl U a1 a2 a3) from g
  rcases T_head h a1 a2 with ⟨V, hv, hcx, hC, m1, m2⟩ | ⟨p, i, V, hp, hi, rfl, rfl, hsee, hw, hper, v1, v2, hcx, hC, hst, hCX, hU⟩
  · refine zOp_err (E := "java/lang/IndexOutOfBoundsException") (V := V) (x := 0) (W := z_uS V 78 0 1) ?_ ?_ (Or.inl rfl) (by decide) hcx h.ok h.ns hC ?_ ?_ (by rw [uS_at]; rfl) (zFMX.thr _ _) ((h.bm hcx.x).m.thr _)
    · unfold F_T_assign
      rcases hv with ⟨g, rfl⟩ | ⟨g, v1, v2⟩
      · rw [if_pos g]
      · rw [g, v1]; rfl
    · unfold Sf_T_assign
      rcases hv with ⟨g, rfl⟩ | ⟨g, v1, v2⟩
      · rw [if_pos g]; trivial
      · rw [g, v1]; exact ⟨v2, trivial⟩
    · show F_M_assign fl V a1 a2 a3 = _
      unfold F_M_assign F_M_assign_j24 F_M_assign_j25
      simp only [m1, if_true, if_neg le_10]
    · show Sf_M_assign fl V a1 a2 a3
      unfold Sf_M_assign Sf_M_assign_j24 Sf_M_assign_j25
      simp only [m1, if_true, if_neg le_10]; exact ⟨m2, trivial⟩
  have hbm := h.bm hcx.x
  have hn := h.n
  by_cases hf : -1 ≤ a3.toInt ∧ a3.toInt ≤ 7
  case neg =>
    obtain ⟨n1, n2⟩ := hU V hbm
    have q1 : ¬ a3 = -1 := by rw [i_m1]; omega
    refine zOp_err (E := "java/lang/IndexOutOfBoundsException") (V := V) (x := 0) (W := z_uS V 78 0 1) ?_ ?_ (Or.inl rfl) (by decide) hcx h.ok h.ns hC ?_ ?_ (by rw [uS_at]; rfl) (zFMX.thr _ _) (hbm.m.thr _)
    · unfold F_T_assign; rw [hper, v1]; simp only [if_neg ne_10, if_neg q1, T_isPerson_eq, if_neg (show ¬ (0 ≤ a3.toInt ∧ a3.toInt < 8) by omega), if_true]
    · unfold Sf_T_assign; rw [hper, v1]; simp only [if_neg ne_10, if_neg q1, T_isPerson_eq, if_neg (show ¬ (0 ≤ a3.toInt ∧ a3.toInt < 8) by omega), if_true]; exact ⟨v2, trivial⟩
    · show F_M_assign fl V (zI p) (zI i) a3 = _
      unfold F_M_assign F_M_assign_j24 F_M_assign_j25
      simp only [n1, if_neg ne_10, M_isIn_eq, show ((-1) : Int32).toInt = -1 from rfl, show (7 : Int32).toInt = 7 from rfl, if_neg hf, if_true, if_neg le_10]
    · show Sf_M_assign fl V (zI p) (zI i) a3
      unfold Sf_M_assign Sf_M_assign_j24 Sf_M_assign_j25
      simp only [n1, if_neg ne_10, M_isIn_eq, show ((-1) : Int32).toInt = -1 from rfl, show (7 : Int32).toInt = 7 from rfl, if_neg hf, if_true, if_neg le_10]; exact ⟨n2, trivial⟩
  obtain ⟨o1, o2, o3⟩ := aC_ok (p := p) (v := a3) h.ok hi (show 4 < 9 by omega) hw (show rgC 4 a3 from hf) (by omega) hp
  obtain ⟨D, d1, d2, d3, d4⟩ := T_setCell_I hst hC h.ok hCX.2.2 hn hi (show 4 < 9 by omega) a3 o1
  have d1' : F_T_setCell V (zI p) (zI i) 4 a3 = _ := d1
  have d2' : Sf_T_setCell V (zI p) (zI i) 4 a3 := d2
  obtain ⟨q1, q2⟩ := aCell_ok (E := S) h.ok hn o1 o3.1
  have hfcx : zFCX S D := hcx.trans d3.cx
  have hT : ∀ r, F_T_assign_j28 V (zI p) (zI i) a3 = (r, D) → F_T_assign S (zI p) (zI i) a3 = (r, D) := by
    intro r hr
    unfold F_T_assign; rw [hper, v1]; simp only [if_neg ne_10, T_isPerson_eq]
    by_cases q : a3 = -1
    · rw [if_pos q]; exact hr
    · have : ¬ a3.toInt = -1 := fun e => q (i_m1.mpr e)
      simp only [if_neg q, if_pos (show 0 ≤ a3.toInt ∧ a3.toInt < 8 by omega), if_neg ne_10]; exact hr
  have hTs : Sf_T_assign S (zI p) (zI i) a3 := by
    unfold Sf_T_assign Sf_T_assign_j28; rw [hper, v1]; simp only [if_neg ne_10, T_isPerson_eq]
    refine ⟨v2, ?_⟩
    by_cases q : a3 = -1
    · rw [if_pos q]; exact ⟨d2', trivial⟩
    · have : ¬ a3.toInt = -1 := fun e => q (i_m1.mpr e)
      simp only [if_neg q, if_pos (show 0 ≤ a3.toInt ∧ a3.toInt < 8 by omega), if_neg ne_10]; exact ⟨d2', trivial⟩
  have hM : ∀ U : Nat → Nat → Int32, zBM fl S U d A rn → ∃ W, F_M_assign fl U (zI p) (zI i) a3 = (if aOk S d p i 4 a3 A = true then wC A.2.2 i 4 else 0, W) ∧ Sf_M_assign fl U (zI p) (zI i) a3 ∧ zFMX U W ∧ (W 78 0 = if aOk S d p i 4 a3 A = true then 0 else 2) ∧ zRM 86 W (aCell S d p i 4 a3 A) := by
    intro U hU2
    obtain ⟨n1, n2⟩ := hU U hU2
    have hx : U 91 i = wC A.2.2 i 4 := hU2.m.2.1.cell hi (show 4 < 10 by omega) hw
    obtain ⟨W, k1, k2, k3, k4, k5⟩ := M_turns_I (hU2.thr 0) hp hi (show 4 < 9 by omega) (by omega) a3 o1 (wC A.2.2 i 4) le_20
    have k1' : F_M_turns fl (z_uS U 78 0 0) 4 (zI p) (zI i) a3 (wC A.2.2 i 4) 2 = _ := k1
    have k2' : Sf_M_turns fl (z_uS U 78 0 0) 4 (zI p) (zI i) a3 (wC A.2.2 i 4) 2 := k2
    refine ⟨W, ?_, ?_, (zFMX.thr U 0).trans k3, k4, k5⟩
    · unfold F_M_assign F_M_assign_j24 F_M_assign_j25
      simp only [n1, if_neg ne_10, M_isIn_eq, show ((-1) : Int32).toInt = -1 from rfl, show (7 : Int32).toInt = 7 from rfl, if_pos hf, if_pos le_00, zI_clamp (show i < 2147483648 by omega), hx, k1']
    · unfold Sf_M_assign Sf_M_assign_j24 Sf_M_assign_j25
      simp only [n1, if_neg ne_10, M_isIn_eq, show ((-1) : Int32).toInt = -1 from rfl, show (7 : Int32).toInt = 7 from rfl, if_pos hf, if_pos le_00, zI_clamp (show i < 2147483648 by omega), hx]
      exact ⟨n2, vp_in_I hi (by omega), k2', trivial⟩
  by_cases ho : aOk S d p i 4 a3 A = true
  · rw [if_pos ho] at d1'
    obtain ⟨W, m1, m2, m3, m4, m5⟩ := hM (z_uS D 193 0 (wC A.2.2 i 4)) (h.bm (hfcx.out _))
    rw [if_pos ho] at m1 m4
    exact zOp_ok (V := D) (v := wC A.2.2 i 4) (hT _ (by unfold F_T_assign_j28; rw [d1'])) hTs hfcx q1 ⟨q2, h.ccell⟩ d4 m1 m2 m4 m3 m5
  · rw [if_neg ho] at d1'
    obtain ⟨W, m1, m2, m3, m4, m5⟩ := hM D (h.bm hfcx.x)
    rw [if_neg ho] at m1 m4
    exact zOp_err (E := "java/lang/IllegalStateException") (V := D) (hT _ (by unfold F_T_assign_j28; rw [d1'])) hTs (Or.inr rfl) (by decide) hfcx q1 ⟨q2, h.ccell⟩ d4 m1 m2 m4 m3 m5
theorem o_22 {fl : Nat → Nat} {S : Nat → Nat → Int32} {d : Nat} {A : zA} {rn : Nat} (h : zB0 fl S d A rn) (a1 a2 a3 a4 a5 a6 : Int32) : Sl_22 fl S a1 a2 a3 a4 a5 a6 ∧ zEnd S (Fl_22 fl S a1 a2 a3 a4 a5 a6) d := by
  suffices g : zOp (fun E => (if E = "java/lang/IndexOutOfBoundsException" then 1 else (if E = "java/lang/IllegalArgumentException" then 2 else (if E = "java/lang/IllegalStateException" then 3 else 0)))) (fun E => E = "java/lang/IndexOutOfBoundsException" ∨ E = "java/lang/IllegalArgumentException" ∨ E = "java/lang/IllegalStateException") S d (F_T_sprint S a1 a2 a3) (Sf_T_sprint S a1 a2 a3) (fun U => F_M_sprint fl U a1 a2 a3) (fun U => Sf_M_sprint fl U a1 a2 a3) from g
  rcases T_head h a1 a2 with ⟨V, hv, hcx, hC, m1, m2⟩ | ⟨p, i, V, hp, hi, rfl, rfl, hsee, hw, hper, v1, v2, hcx, hC, hst, hCX, hU⟩
  · refine zOp_err (E := "java/lang/IndexOutOfBoundsException") (V := V) (x := 0) (W := z_uS V 78 0 1) ?_ ?_ (Or.inl rfl) (by decide) hcx h.ok h.ns hC ?_ ?_ (by rw [uS_at]; rfl) (zFMX.thr _ _) ((h.bm hcx.x).m.thr _)
    · unfold F_T_sprint
      rcases hv with ⟨g, rfl⟩ | ⟨g, v1, v2⟩
      · rw [if_pos g]
      · rw [g, v1]; rfl
    · unfold Sf_T_sprint
      rcases hv with ⟨g, rfl⟩ | ⟨g, v1, v2⟩
      · rw [if_pos g]; trivial
      · rw [g, v1]; exact ⟨v2, trivial⟩
    · show F_M_sprint fl V a1 a2 a3 = _
      unfold F_M_sprint F_M_sprint_j28
      simp only [m1, if_true, if_neg le_10]
    · show Sf_M_sprint fl V a1 a2 a3
      unfold Sf_M_sprint Sf_M_sprint_j28
      simp only [m1, if_true, if_neg le_10]; exact ⟨m2, trivial⟩
  have hbm := h.bm hcx.x
  have hn := h.n
  by_cases hf : -1 ≤ a3.toInt ∧ a3.toInt ≤ 3
  case neg =>
    obtain ⟨n1, n2⟩ := hU V hbm
    have q1 : ¬ a3 = -1 := by rw [i_m1]; omega
    refine zOp_err (E := "java/lang/IllegalArgumentException") (V := V) (x := 0) (W := z_uS V 78 0 2) ?_ ?_ (Or.inr (Or.inl rfl)) (by decide) hcx h.ok h.ns hC ?_ ?_ (by rw [uS_at]; rfl) (zFMX.thr _ _) (hbm.m.thr _)
    · unfold F_T_sprint; rw [hper, v1]; simp only [if_neg ne_10, if_neg q1, T_isSprint_eq, if_neg (show ¬ (0 ≤ a3.toInt ∧ a3.toInt < 4) by omega), if_true]
    · unfold Sf_T_sprint; rw [hper, v1]; simp only [if_neg ne_10, if_neg q1, T_isSprint_eq, if_neg (show ¬ (0 ≤ a3.toInt ∧ a3.toInt < 4) by omega), if_true]; exact ⟨v2, trivial⟩
    · show F_M_sprint fl V (zI p) (zI i) a3 = _
      unfold F_M_sprint F_M_sprint_j28
      simp only [n1, if_neg ne_10, M_isIn_eq, show ((-1) : Int32).toInt = -1 from rfl, show (3 : Int32).toInt = 3 from rfl, if_neg hf, if_true, if_neg le_20]
    · show Sf_M_sprint fl V (zI p) (zI i) a3
      unfold Sf_M_sprint Sf_M_sprint_j28
      simp only [n1, if_neg ne_10, M_isIn_eq, show ((-1) : Int32).toInt = -1 from rfl, show (3 : Int32).toInt = 3 from rfl, if_neg hf, if_true, if_neg le_20]; exact ⟨n2, trivial⟩
  obtain ⟨o1, o2, o3⟩ := aC_ok (p := p) (v := a3) h.ok hi (show 7 < 9 by omega) hw (show rgC 7 a3 from hf) (by omega) hp
  obtain ⟨D, d1, d2, d3, d4⟩ := T_setCell_I hst hC h.ok hCX.2.2 hn hi (show 7 < 9 by omega) a3 o1
  have d1' : F_T_setCell V (zI p) (zI i) 7 a3 = _ := d1
  have d2' : Sf_T_setCell V (zI p) (zI i) 7 a3 := d2
  obtain ⟨q1, q2⟩ := aCell_ok (E := S) h.ok hn o1 o3.1
  have hfcx : zFCX S D := hcx.trans d3.cx
  have hT : ∀ r, F_T_sprint_j36 V (zI p) (zI i) a3 = (r, D) → F_T_sprint S (zI p) (zI i) a3 = (r, D) := by
    intro r hr
    unfold F_T_sprint; rw [hper, v1]; simp only [if_neg ne_10, T_isSprint_eq]
    by_cases q : a3 = -1
    · rw [if_pos q]; exact hr
    · have : ¬ a3.toInt = -1 := fun e => q (i_m1.mpr e)
      simp only [if_neg q, if_pos (show 0 ≤ a3.toInt ∧ a3.toInt < 4 by omega), if_neg ne_10]; exact hr
  have hTs : Sf_T_sprint S (zI p) (zI i) a3 := by
    unfold Sf_T_sprint Sf_T_sprint_j36; rw [hper, v1]; simp only [if_neg ne_10, T_isSprint_eq]
    refine ⟨v2, ?_⟩
    by_cases q : a3 = -1
    · rw [if_pos q]; exact ⟨d2', trivial⟩
    · have : ¬ a3.toInt = -1 := fun e => q (i_m1.mpr e)
      simp only [if_neg q, if_pos (show 0 ≤ a3.toInt ∧ a3.toInt < 4 by omega), if_neg ne_10]; exact ⟨d2', trivial⟩
  have hM : ∀ U : Nat → Nat → Int32, zBM fl S U d A rn → ∃ W, F_M_sprint fl U (zI p) (zI i) a3 = (if aOk S d p i 7 a3 A = true then wC A.2.2 i 7 else 0, W) ∧ Sf_M_sprint fl U (zI p) (zI i) a3 ∧ zFMX U W ∧ (W 78 0 = if aOk S d p i 7 a3 A = true then 0 else 3) ∧ zRM 86 W (aCell S d p i 7 a3 A) := by
    intro U hU2
    obtain ⟨n1, n2⟩ := hU U hU2
    have hx : U 94 i = wC A.2.2 i 7 := hU2.m.2.1.cell hi (show 7 < 10 by omega) hw
    obtain ⟨W, k1, k2, k3, k4, k5⟩ := M_turns_I (hU2.thr 0) hp hi (show 7 < 9 by omega) (by omega) a3 o1 (wC A.2.2 i 7) le_30
    have k1' : F_M_turns fl (z_uS U 78 0 0) 7 (zI p) (zI i) a3 (wC A.2.2 i 7) 3 = _ := k1
    have k2' : Sf_M_turns fl (z_uS U 78 0 0) 7 (zI p) (zI i) a3 (wC A.2.2 i 7) 3 := k2
    refine ⟨W, ?_, ?_, (zFMX.thr U 0).trans k3, k4, k5⟩
    · unfold F_M_sprint F_M_sprint_j28
      simp only [n1, if_neg ne_10, M_isIn_eq, show ((-1) : Int32).toInt = -1 from rfl, show (3 : Int32).toInt = 3 from rfl, if_pos hf, if_pos le_00, zI_clamp (show i < 2147483648 by omega), hx, k1']
    · unfold Sf_M_sprint Sf_M_sprint_j28
      simp only [n1, if_neg ne_10, M_isIn_eq, show ((-1) : Int32).toInt = -1 from rfl, show (3 : Int32).toInt = 3 from rfl, if_pos hf, if_pos le_00, zI_clamp (show i < 2147483648 by omega), hx]
      exact ⟨n2, vp_in_I hi (by omega), k2', trivial⟩
  by_cases ho : aOk S d p i 7 a3 A = true
  · rw [if_pos ho] at d1'
    obtain ⟨W, m1, m2, m3, m4, m5⟩ := hM (z_uS D 193 0 (wC A.2.2 i 7)) (h.bm (hfcx.out _))
    rw [if_pos ho] at m1 m4
    exact zOp_ok (V := D) (v := wC A.2.2 i 7) (hT _ (by unfold F_T_sprint_j36; rw [d1'])) hTs hfcx q1 ⟨q2, h.ccell⟩ d4 m1 m2 m4 m3 m5
  · rw [if_neg ho] at d1'
    obtain ⟨W, m1, m2, m3, m4, m5⟩ := hM D (h.bm hfcx.x)
    rw [if_neg ho] at m1 m4
    exact zOp_err (E := "java/lang/IllegalStateException") (V := D) (hT _ (by unfold F_T_sprint_j36; rw [d1'])) hTs (Or.inr (Or.inr rfl)) (by decide) hfcx q1 ⟨q2, h.ccell⟩ d4 m1 m2 m4 m3 m5
