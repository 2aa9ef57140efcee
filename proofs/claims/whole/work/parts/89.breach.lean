/-! PURE: left, breach, in both -/
def zKG (S : Nat → Nat → Int32) : Prop := ∀ k, k < 3 → -1 ≤ (S 47 k).toInt ∧ (S 47 k).toInt ≤ 99
theorem M_asksGoal_I {fl : Nat → Nat} {E U : Nat → Nat → Int32} {d rn : Nat} {A : zA} (h : zBM fl E U d A rn) {i k : Nat} (hi : i < 30) (hk : k < 3) (hw : A.2.2.1 i = true) (ek : wC A.2.2 i 9 = zI k) : F_M_asksGoal U (zI i) = (if U 164 k = -1 then (0, z_uS U 78 0 2) else (1, z_uS U 78 0 0)) ∧ Sf_M_asksGoal U (zI i) := by
  obtain ⟨f2, f2'⟩ := M_isItem_B h (zI i)
  rw [vTh_I hi, hw] at f2
  have c88 : U 88 i = zI k := (h.m.2.1.cell hi (show 9 < 10 by omega) hw).trans ek
  unfold F_M_asksGoal Sf_M_asksGoal F_M_asksGoal_j36
  simp only [f2, if_true, if_neg ne_10, zI_clamp (show i < 2147483648 by omega), c88, zI_clamp (show k < 2147483648 by omega)]
  refine ⟨?_, f2', vp_in_I hi (by omega), vp_in_I hk (by omega), trivial⟩
  by_cases q : U 164 k = -1
  · rw [if_pos q, if_pos q, if_neg (show ¬ ((2 : Int32) = 0) by decide)]
  · rw [if_neg q, if_neg q]
theorem M_asksGoal_no {fl : Nat → Nat} {E U : Nat → Nat → Int32} {d rn : Nat} {A : zA} (h : zBM fl E U d A rn) {a : Int32} (hv : vTh A.2.2 a = false) : F_M_asksGoal U a = (0, z_uS U 78 0 1) ∧ Sf_M_asksGoal U a := by
  obtain ⟨f2, f2'⟩ := M_isItem_B h a
  rw [hv] at f2
  unfold F_M_asksGoal Sf_M_asksGoal F_M_asksGoal_j36
  simp only [f2, Bool.false_eq_true, if_false, if_true, if_neg ne_10]
  exact ⟨trivial, f2', trivial⟩
theorem M_leftOf_I {fl : Nat → Nat} {E U : Nat → Nat → Int32} {d rn : Nat} {A : zA} (h : zBM fl E U d A rn) {i k : Nat} {R : Int32} (hi : i < 30) (hk : k < 3) (hw : A.2.2.1 i = true) (ek : wC A.2.2 i 9 = zI k) (hR : U 165 k = R) : F_M_leftOf U (zI i) = U 164 k - zI (rD A.1 i R A.2.1 d) ∧ Sf_M_leftOf U (zI i) := by
  have c88 : U 88 i = zI k := (h.m.2.1.cell hi (show 9 < 10 by omega) hw).trans ek
  have hn := h.n
  obtain ⟨l1, l2⟩ := M_leftOf_L (R := R) h.d h.m h.ok (by omega) hi hk c88 hR d 0 1300 rfl (by have : d ≤ 400 := h.ok.2.2.2.2; omega)
  have l1' : F_M_leftOf_L4 U (zI i) 1300 0 0 = zI (rD A.1 i R A.2.1 d) := l1
  have l2' : Sf_M_leftOf_L4 U (zI i) 1300 0 0 := l2
  unfold F_M_leftOf Sf_M_leftOf
  rw [l1', zI_clamp (show i < 2147483648 by omega), c88, zI_clamp (show k < 2147483648 by omega)]
  exact ⟨rfl, l2', vp_in_I hi (by omega), vp_in_I hk (by omega), trivial⟩
theorem wk_140 : ∀ d, d ≤ 400 → cN wk d + 100 ≤ cN wk (d + 140) := by
  have h : ∀ d, d ≤ 400 → cN wk (d + 140) = cN wk d + 100 := by
    intro d
    induction d with
    | zero => intro _; decide +kernel
    | succ d ih =>
      intro hd
      have e1 : cN wk (d + 1) = cN wk d + (if wk d = true then 1 else 0) := rfl
      have e2 : cN wk (d + 140 + 1) = cN wk (d + 140) + (if wk (d + 140) = true then 1 else 0) := rfl
      have e3 : wk (d + 140) = wk d := by unfold wk; rw [show (d + 140) % 7 = d % 7 by omega]
      rw [show d + 1 + 140 = d + 140 + 1 by omega, e2, ih (by omega), e1, e3]; omega
  intro d hd
  rw [h d hd]
  exact Nat.le_refl _
/-- both come to the same day -/
theorem breach_loop {S : Nat → Nat → Int32} {d lf : Nat} (hd : d ≤ 400) (hl : lf ≤ 99) : ∀ (m c : Nat), m + c = 140 → cN wk (d + c) ≤ cN wk d + lf →
    ∃ ans, (∀ f, m < f → F_T_dayOfWork_L20 S (zI (cN wk d + lf + 1)) f (zI (d + c)) (zI c) = zI ans ∧ Sf_T_dayOfWork_L20 S (zI (cN wk d + lf + 1)) f (zI (d + c)) (zI c)) ∧ ∀ (U : Nat → Nat → Int32) f, m < f → F_M_breach_L44 f U (zI (cN wk d + lf - cN wk (d + c))) (zI (d + c)) = (zI ans, U) ∧ Sf_M_breach_L44 f U (zI (cN wk d + lf - cN wk (d + c))) (zI (d + c)) := by
  intro m
  induction m with
  | zero =>
    intro c hc h
    have := wk_140 d hd
    rw [show d + c = d + 140 by omega] at h
    omega
  | succ m ih =>
    intro c hc h
    have hle := cN_le wk d
    have hn : ¬ (198 : Int32) < zI c := by rw [show (198 : Int32) = zI 198 from rfl, zI_lt (by omega) (by omega)]; omega
    have e1 : cN wk (d + c + 1) = cN wk (d + c) + (if wk (d + c) = true then 1 else 0) := rfl
    have ew : F_T_workBefore S (zI (d + c) + 1) = zI (cN wk (d + c + 1)) := by rw [T_work_eq, zI_succ, wB_I _ (by omega)]
    by_cases hstop : cN wk d + lf + 1 ≤ cN wk (d + c + 1)
    · -- here it is
      have hwk : wk (d + c) = true := by
        cases q : wk (d + c)
        · rw [q] at e1; simp at e1; omega
        · rfl
      rw [hwk] at e1
      simp only [if_true] at e1
      refine ⟨d + c, fun f hf => ?_, fun U f hf => ?_⟩
      · obtain ⟨f, rfl⟩ : ∃ q, f = q + 1 := ⟨f - 1, by omega⟩
        have q2 : zI (cN wk d + lf + 1) ≤ zI (cN wk (d + c + 1)) := by rw [zI_le (by omega) (by omega)]; exact hstop
        unfold F_T_dayOfWork_L20 Sf_T_dayOfWork_L20
        rw [if_neg hn, if_neg hn, ew, if_pos q2, if_pos q2]; exact ⟨rfl, trivial⟩
      · obtain ⟨f, rfl⟩ : ∃ q, f = q + 1 := ⟨f - 1, by omega⟩
        have q3 : ¬ (0 : Int32) < zI (cN wk d + lf - cN wk (d + c)) := by rw [show (0 : Int32) = zI 0 from rfl, zI_lt (by omega) (by omega)]; omega
        have q4 : ¬ F_M_isWorking U (zI (d + c)) = 0 := by rw [M_isWorking_eq, wN_I _ (by omega), hwk]; decide
        unfold F_M_breach_L44 Sf_M_breach_L44
        rw [if_neg q3, if_neg q3, if_neg q4, if_neg q4]; exact ⟨rfl, trivial⟩
    · have hle2 : cN wk (d + (c + 1)) ≤ cN wk d + lf := by rw [show d + (c + 1) = d + c + 1 by omega]; omega
      obtain ⟨ans, i1, i2⟩ := ih (c + 1) (by omega) hle2
      refine ⟨ans, fun f hf => ?_, fun U f hf => ?_⟩
      · obtain ⟨f, rfl⟩ : ∃ q, f = q + 1 := ⟨f - 1, by omega⟩
        have q2 : ¬ zI (cN wk d + lf + 1) ≤ zI (cN wk (d + c + 1)) := by rw [zI_le (by omega) (by have := cN_le wk (d + c + 1); omega)]; exact hstop
        have := i1 f (by omega)
        unfold F_T_dayOfWork_L20 Sf_T_dayOfWork_L20
        rw [if_neg hn, if_neg hn, ew, if_neg q2, if_neg q2, zI_succ, zI_succ]; exact this
      · obtain ⟨f, rfl⟩ : ∃ q, f = q + 1 := ⟨f - 1, by omega⟩
        have := i2 U f (by omega)
        rw [show d + (c + 1) = d + c + 1 by omega] at this
        unfold F_M_breach_L44 Sf_M_breach_L44 F_M_breach_l44_55 Sf_M_breach_l44_55
        rw [M_isWorking_eq, wN_I _ (by omega), zI_succ]
        cases hwk : wk (d + c)
        · rw [hwk] at e1
          simp only [Bool.false_eq_true, if_false, Nat.add_zero] at e1
          rw [e1] at this
          have s0 : zI (cN wk d + lf - cN wk (d + c)) - 0 = zI (cN wk d + lf - cN wk (d + c)) := by rw [show (0 : Int32) = zI 0 from rfl, zI_sub (by omega) (by omega)]; rfl
          simp only [Bool.false_eq_true, if_false, if_true, s0, ite_self]; exact this
        · rw [hwk] at e1
          simp only [if_true] at e1
          have q3 : (0 : Int32) < zI (cN wk d + lf - cN wk (d + c)) := by rw [show (0 : Int32) = zI 0 from rfl, zI_lt (by omega) (by omega)]; omega
          have s1 : zI (cN wk d + lf - cN wk (d + c)) - 1 = zI (cN wk d + lf - cN wk (d + c + 1)) := by rw [show (1 : Int32) = zI 1 from rfl, zI_sub (by omega) (by omega)]; congr 1; omega
          simp only [if_true, if_neg ne_10, if_pos q3, s1]; exact this
theorem breach_joint {S : Nat → Nat → Int32} {d lf : Nat} (hd : d ≤ 400) (hl : lf ≤ 99) : ∃ ans, F_T_dayOfWork_L20 S (zI (cN wk d + lf + 1)) 1300 (zI d) 0 = zI ans ∧ Sf_T_dayOfWork_L20 S (zI (cN wk d + lf + 1)) 1300 (zI d) 0 ∧ ∀ U : Nat → Nat → Int32, F_M_breach_L44 1300 U (zI lf) (zI d) = (zI ans, U) ∧ Sf_M_breach_L44 1300 U (zI lf) (zI d) := by
  obtain ⟨ans, h1, h2⟩ := breach_loop (S := S) hd hl 140 0 rfl (by show cN wk d ≤ _; omega)
  obtain ⟨a1, a2⟩ := h1 1300 (by omega)
  refine ⟨ans, a1, a2, fun U => ?_⟩
  have := h2 U 1300 (by omega)
  rw [show cN wk d + lf - cN wk (d + 0) = lf by show cN wk d + lf - cN wk d = lf; omega] at this
  exact this
theorem o_38 {fl : Nat → Nat} {S : Nat → Nat → Int32} {d : Nat} {A : zA} {rn : Nat} (h : zB0 fl S d A rn) (hG : zKG S) (a1 a2 a3 a4 a5 a6 : Int32) : Sl_38 fl S a1 a2 a3 a4 a5 a6 ∧ zWr zW30 S (Fl_38 fl S a1 a2 a3 a4 a5 a6) := by
  suffices g : zOpQ (fun E => (if E = "java/lang/IndexOutOfBoundsException" then 1 else (if E = "java/lang/IllegalStateException" then 2 else 0))) (fun E => E = "java/lang/IndexOutOfBoundsException" ∨ E = "java/lang/IllegalStateException") (fun x => x) (F_T_left S a1) (Sf_T_left S a1) (fun U => F_M_left U a1) (fun U => Sf_M_left U a1) (fun F => zWr zW30 S F) from g
  have hn := h.n
  have hd4 : d ≤ 400 := h.ok.2.2.2.2
  have hbm := h.bm (zFX.rfl (S := S))
  have e1 := T_has_B h.c.2 a1
  rcases item_cases A.2.2 a1 with ⟨i, hi, rfl, hw⟩ | hb
  case inr =>
    rw [hb] at e1
    obtain ⟨f1, f2⟩ := M_asksGoal_no hbm hb
    refine zOpQ_err (E := "java/lang/IndexOutOfBoundsException") (V := S) (x := 0) (W := z_uS S 78 0 1) ?_ ?_ (Or.inl rfl) (by decide) ?_ ?_ (by rw [uS_at]; rfl) (zWr.slot (by decide) _ _)
    · unfold F_T_left; rw [e1]; rfl
    · unfold Sf_T_left; rw [e1]; trivial
    · show F_M_left S a1 = _
      unfold F_M_left; rw [f1]; rfl
    · show Sf_M_left S a1
      unfold Sf_M_left; rw [f1]; exact ⟨f2, trivial⟩
  rw [vTh_I hi, hw] at e1
  simp only [if_true] at e1
  obtain ⟨k, hk, ek⟩ := h.ok.rg.kind hi hw
  obtain ⟨c1, c2⟩ := h.c.2.cell hi (show 9 < 10 by omega)
  have c1' : F_World_cell 9 S (zI i) 9 = zI k := c1.trans ek
  have c2' : Sf_World_cell 9 S (zI i) 9 := c2
  have g1 : F_T_goalDays S (zI i) = S 47 k := by unfold F_T_goalDays; rw [c1', zAt_I hk (by omega)]
  have g2 : Sf_T_goalDays S (zI i) := ⟨c2', trivial⟩
  have hck := h.ck
  have k47 := hck.days k hk
  have k48 := hck.runs k hk
  by_cases hno : S 47 k = -1
  · obtain ⟨f1, f2⟩ := M_asksGoal_I hbm hi hk hw ek
    rw [← k47, if_pos hno] at f1
    refine zOpQ_err (E := "java/lang/IllegalStateException") (V := S) (x := 0) (W := z_uS S 78 0 2) ?_ ?_ (Or.inr rfl) (by decide) ?_ ?_ (by rw [uS_at]; rfl) (zWr.slot (by decide) _ _)
    · unfold F_T_left; simp only [e1, if_neg ne_10, g1, if_pos hno]
    · unfold Sf_T_left; simp only [e1, if_neg ne_10, g1, if_pos hno]; exact ⟨g2, trivial⟩
    · show F_M_left S (zI i) = _
      unfold F_M_left; rw [f1]; rfl
    · show Sf_M_left S (zI i)
      unfold Sf_M_left; rw [f1]; exact ⟨f2, trivial⟩
  obtain ⟨s1, s2⟩ := T_spentDays_I (R := S 48 k) h.d h.c h.ok (by omega) hi hk ek rfl
  generalize hsp : rD A.1 i (S 48 k) A.2.1 d = sp at s1
  have hsp4 : sp ≤ d := by rw [← hsp]; exact rD_mono
  have hMl : ∀ U, zFX S U → F_M_left U (zI i) = (S 47 k - zI sp, z_uS U 78 0 0) ∧ Sf_M_left U (zI i) := by
    intro U hx
    have hU := h.bm hx
    obtain ⟨f1, f2⟩ := M_asksGoal_I hU hi hk hw ek
    rw [hx 164 (by omega) (by omega), ← k47, if_neg hno] at f1
    obtain ⟨l1, l2⟩ := M_leftOf_I (R := S 48 k) (hU.thr 0) hi hk hw ek (by rw [z_uS_ne _ _ _ (by omega), hx 165 (by omega) (by omega)]; exact k48.symm)
    rw [hsp, z_uS_ne _ _ _ (by omega), hx 164 (by omega) (by omega), ← k47] at l1
    unfold F_M_left Sf_M_left
    rw [f1]
    simp only [if_neg ne_10, l1]
    exact ⟨trivial, f2, l2, trivial⟩
  obtain ⟨m1, m2⟩ := hMl _ (zFX.out S (S 47 k - zI sp))
  refine zOpQ_ok (V := S) (v := S 47 k - zI sp) (W := z_uS (z_uS S 193 0 (S 47 k - zI sp)) 78 0 0) ?_ ?_ m1 m2 (uS_at _ _ _ _) (by rw [z_uS_ne _ _ _ (by omega), uS_at]) (zFX.o30 _ _)
  · unfold F_T_left; simp only [e1, if_neg ne_10, g1, if_neg hno, s1]
  · unfold Sf_T_left; simp only [e1, if_neg ne_10, g1, if_neg hno]; exact ⟨g2, g2, s2, trivial⟩
theorem o_39 {fl : Nat → Nat} {S : Nat → Nat → Int32} {d : Nat} {A : zA} {rn : Nat} (h : zB0 fl S d A rn) (hG : zKG S) (a1 a2 a3 a4 a5 a6 : Int32) : Sl_39 fl S a1 a2 a3 a4 a5 a6 ∧ zWr zW30 S (Fl_39 fl S a1 a2 a3 a4 a5 a6) := by
  suffices g : zOpQ (fun E => (if E = "java/lang/IndexOutOfBoundsException" then 1 else (if E = "java/lang/IllegalStateException" then 2 else 0))) (fun E => E = "java/lang/IndexOutOfBoundsException" ∨ E = "java/lang/IllegalStateException") (fun x => x) (F_T_breach S a1) (Sf_T_breach S a1) (fun U => F_M_breach U a1) (fun U => Sf_M_breach U a1) (fun F => zWr zW30 S F) from g
  have hn := h.n
  have hd4 : d ≤ 400 := h.ok.2.2.2.2
  have hbm := h.bm (zFX.rfl (S := S))
  have e1 := T_has_B h.c.2 a1
  rcases item_cases A.2.2 a1 with ⟨i, hi, rfl, hw⟩ | hb
  case inr =>
    rw [hb] at e1
    obtain ⟨f1, f2⟩ := M_asksGoal_no hbm hb
    refine zOpQ_err (E := "java/lang/IndexOutOfBoundsException") (V := S) (x := 0) (W := z_uS S 78 0 1) ?_ ?_ (Or.inl rfl) (by decide) ?_ ?_ (by rw [uS_at]; rfl) (zWr.slot (by decide) _ _)
    · unfold F_T_breach; rw [e1]; rfl
    · unfold Sf_T_breach; rw [e1]; trivial
    · show F_M_breach S a1 = _
      unfold F_M_breach; rw [f1]; rfl
    · show Sf_M_breach S a1
      unfold Sf_M_breach; rw [f1]; exact ⟨f2, trivial⟩
  rw [vTh_I hi, hw] at e1
  simp only [if_true] at e1
  obtain ⟨k, hk, ek⟩ := h.ok.rg.kind hi hw
  obtain ⟨c1, c2⟩ := h.c.2.cell hi (show 9 < 10 by omega)
  have c1' : F_World_cell 9 S (zI i) 9 = zI k := c1.trans ek
  have c2' : Sf_World_cell 9 S (zI i) 9 := c2
  have g1 : F_T_goalDays S (zI i) = S 47 k := by unfold F_T_goalDays; rw [c1', zAt_I hk (by omega)]
  have g2 : Sf_T_goalDays S (zI i) := ⟨c2', trivial⟩
  have hck := h.ck
  have k47 := hck.days k hk
  have k48 := hck.runs k hk
  by_cases hno : S 47 k = -1
  · obtain ⟨f1, f2⟩ := M_asksGoal_I hbm hi hk hw ek
    rw [← k47, if_pos hno] at f1
    refine zOpQ_err (E := "java/lang/IllegalStateException") (V := S) (x := 0) (W := z_uS S 78 0 2) ?_ ?_ (Or.inr rfl) (by decide) ?_ ?_ (by rw [uS_at]; rfl) (zWr.slot (by decide) _ _)
    · unfold F_T_breach; simp only [e1, if_neg ne_10, g1, if_pos hno]
    · unfold Sf_T_breach; simp only [e1, if_neg ne_10, g1, if_pos hno]; exact ⟨g2, trivial⟩
    · show F_M_breach S (zI i) = _
      unfold F_M_breach; rw [f1]; rfl
    · show Sf_M_breach S (zI i)
      unfold Sf_M_breach; rw [f1]; exact ⟨f2, trivial⟩
  obtain ⟨s1, s2⟩ := T_spentDays_I (R := S 48 k) h.d h.c h.ok (by omega) hi hk ek rfl
  generalize hsp : rD A.1 i (S 48 k) A.2.1 d = sp at s1
  have hsp4 : sp ≤ d := by rw [← hsp]; exact rD_mono
  obtain ⟨q0, q1⟩ := hG k hk
  have hnot : ¬ (S 47 k).toInt = -1 := fun e => hno (i_m1.mpr e)
  have eL : (S 47 k - zI sp).toInt = (S 47 k).toInt - sp := by
    rw [i_sub (by rw [zI_toInt (by omega)]; omega) (by rw [zI_toInt (by omega)]; omega), zI_toInt (by omega)]
  obtain ⟨st, hst, est⟩ := h.ok.rg.state hi hw
  obtain ⟨x1, x2⟩ := h.c.2.cell hi (show 0 < 10 by omega)
  have x1' : F_World_cell 9 S (zI i) 0 = zI st := x1.trans est
  have x2' : Sf_World_cell 9 S (zI i) 0 := x2
  have hrun : F_T_isIn S (zAt (S 48) 3 (F_World_cell 9 S (zI i) 9)) (F_World_cell 9 S (zI i) 0) = if zB (S 48 k) st = true then 1 else 0 := by
    rw [c1', x1', zAt_I hk (by omega), T_isIn_I S (by omega)]
  have hMr : ∀ U, zFX S U → F_M_runs (z_uS U 78 0 0) (zI i) ((z_uS U 78 0 0) 89 i) = (if zB (S 48 k) st = true then 1 else 0) ∧ Sf_M_runs (z_uS U 78 0 0) (zI i) ((z_uS U 78 0 0) 89 i) := by
    intro U hx
    have hU := (h.bm hx).thr 0
    have c89 : (z_uS U 78 0 0) 89 i = zI st := (hU.m.2.1.cell hi (show 0 < 10 by omega) hw).trans est
    have c88 : (z_uS U 78 0 0) 88 i = zI k := (hU.m.2.1.cell hi (show 9 < 10 by omega) hw).trans ek
    have c165 : (z_uS U 78 0 0) 165 k = S 48 k := by rw [z_uS_ne _ _ _ (by omega), hx 165 (by omega) (by omega)]; exact k48.symm
    unfold F_M_runs Sf_M_runs
    rw [c89, if_neg (m1_ne st (by omega)), if_neg (m1_ne st (by omega)), zI_clamp (show i < 2147483648 by omega), c88, zI_clamp (show k < 2147483648 by omega), c165]
    refine ⟨?_, vp_in_I hi (by omega), vp_in_I hk (by omega), trivial⟩
    by_cases hb : zB (S 48 k) st = true
    · rw [if_pos hb, if_pos ((zB_shr (by omega)).mpr hb)]
    · rw [if_neg hb, if_neg (fun e => hb ((zB_shr (by omega)).mp e))]
  have hMg : ∀ U, zFX S U → F_M_asksGoal U (zI i) = (1, z_uS U 78 0 0) ∧ Sf_M_asksGoal U (zI i) ∧ F_M_leftOf (z_uS U 78 0 0) (zI i) = S 47 k - zI sp ∧ Sf_M_leftOf (z_uS U 78 0 0) (zI i) := by
    intro U hx
    have hU := h.bm hx
    obtain ⟨f1, f2⟩ := M_asksGoal_I hU hi hk hw ek
    rw [hx 164 (by omega) (by omega), ← k47, if_neg hno] at f1
    obtain ⟨l1, l2⟩ := M_leftOf_I (R := S 48 k) (hU.thr 0) hi hk hw ek (by rw [z_uS_ne _ _ _ (by omega), hx 165 (by omega) (by omega)]; exact k48.symm)
    rw [hsp, z_uS_ne _ _ _ (by omega), hx 164 (by omega) (by omega), ← k47] at l1
    exact ⟨f1, f2, l1, l2⟩
  have vi : vp_in (zI i) 30 := vp_in_I hi (by omega)
  by_cases hgo : zB (S 48 k) st = true ∧ 0 ≤ (S 47 k - zI sp).toInt
  case neg =>
    obtain ⟨m1, m2, m3, m4⟩ := hMg _ (zFX.out S (-1))
    obtain ⟨r1, r2⟩ := hMr _ (zFX.out S (-1))
    refine zOpQ_ok (V := S) (v := -1) (W := z_uS (z_uS S 193 0 (-1)) 78 0 0) ?_ ?_ ?_ ?_ (uS_at _ _ _ _) (by rw [z_uS_ne _ _ _ (by omega), uS_at]) (zFX.o30 _ _)
    · unfold F_T_breach F_T_breach_j89
      simp only [e1, if_neg ne_10, g1, if_neg hno, s1, hrun]
      by_cases b : zB (S 48 k) st = true
      · have : S 47 k - zI sp < 0 := by rw [T_lt]; show _ < (0 : Int); exact Int.not_le.mp fun g => hgo ⟨b, g⟩
        simp only [b, if_true, if_neg ne_10, if_pos this]
      · rw [if_neg b, if_pos (Eq.refl _)]
    · unfold Sf_T_breach
      simp only [e1, if_neg ne_10, g1, if_neg hno, s1, hrun]
      refine ⟨g2, g2, s2, c2', x2', ?_⟩
      by_cases b : zB (S 48 k) st = true
      · have : S 47 k - zI sp < 0 := by rw [T_lt]; show _ < (0 : Int); exact Int.not_le.mp fun g => hgo ⟨b, g⟩
        simp only [b, if_true, if_neg ne_10, if_pos this]
      · rw [if_neg b, if_pos (Eq.refl _)]; trivial
    · show F_M_breach (z_uS S 193 0 (-1)) (zI i) = _
      unfold F_M_breach
      rw [m1]
      simp only [if_neg ne_10, m3, zI_clamp (show i < 2147483648 by omega), r1]
      by_cases l0 : S 47 k - zI sp < 0
      · simp only [if_pos l0]
      · have b : ¬ zB (S 48 k) st = true := fun b => hgo ⟨b, by rw [T_lt] at l0; have : (0 : Int32).toInt = 0 := rfl; omega⟩
        simp only [if_neg l0, if_neg b, if_true]
    · show Sf_M_breach (z_uS S 193 0 (-1)) (zI i)
      unfold Sf_M_breach
      rw [m1]
      simp only [if_neg ne_10, m3, zI_clamp (show i < 2147483648 by omega), r1]
      refine ⟨m2, m4, ?_⟩
      by_cases l0 : S 47 k - zI sp < 0
      · simp only [if_pos l0]
      · have b : ¬ zB (S 48 k) st = true := fun b => hgo ⟨b, by rw [T_lt] at l0; have : (0 : Int32).toInt = 0 := rfl; omega⟩
        simp only [if_neg l0, if_neg b, if_true]
        exact ⟨vi, r2, trivial⟩
  obtain ⟨b, l0⟩ := hgo
  have nl0 : ¬ S 47 k - zI sp < 0 := by rw [T_lt]; have : (0 : Int32).toInt = 0 := rfl; omega
  obtain ⟨lf, hlf, elf⟩ := zI_ex (n := 100) l0 (by omega) (by omega)
  obtain ⟨ans, t1, t2, t3⟩ := breach_joint (S := S) hd4 (show lf ≤ 99 by omega)
  have ewd : F_T_workBefore S (S 0 14) + zI lf + 1 = zI (cN wk d + lf + 1) := by
    rw [T_work_eq, h.d, wB_I d (by omega), zI_add, zI_succ]
  have hT : F_T_dayOfWork S (zI lf) = zI ans ∧ Sf_T_dayOfWork S (zI lf) := by
    unfold F_T_dayOfWork Sf_T_dayOfWork
    rw [ewd, h.d]; exact ⟨t1, t2, trivial⟩
  obtain ⟨m1, m2, m3, m4⟩ := hMg _ (zFX.out S (zI ans))
  obtain ⟨r1, r2⟩ := hMr _ (zFX.out S (zI ans))
  rw [elf] at m3
  have h78 : (z_uS (z_uS S 193 0 (zI ans)) 78 0 0) 78 1 = zI d := ((h.bm (zFX.out S (zI ans))).thr 0).d
  obtain ⟨u1, u2⟩ := t3 (z_uS (z_uS S 193 0 (zI ans)) 78 0 0)
  have nlf : ¬ zI lf < 0 := zI_n0 (by omega)
  refine zOpQ_ok (V := S) (v := zI ans) (W := z_uS (z_uS S 193 0 (zI ans)) 78 0 0) ?_ ?_ ?_ ?_ (uS_at _ _ _ _) (by rw [z_uS_ne _ _ _ (by omega), uS_at]) (zFX.o30 _ _)
  · unfold F_T_breach
    simp only [e1, if_neg ne_10, g1, if_neg hno, s1, hrun, b, if_true, elf, if_neg nlf, hT.1]
  · unfold Sf_T_breach
    simp only [e1, if_neg ne_10, g1, if_neg hno, s1, hrun, b, if_true, elf, if_neg nlf]
    exact ⟨g2, g2, s2, c2', x2', hT.2, trivial⟩
  · show F_M_breach (z_uS S 193 0 (zI ans)) (zI i) = _
    unfold F_M_breach
    rw [m1]
    simp only [if_neg ne_10, m3, if_neg nlf, zI_clamp (show i < 2147483648 by omega), r1, b, if_true, h78, u1]
  · show Sf_M_breach (z_uS S 193 0 (zI ans)) (zI i)
    unfold Sf_M_breach
    rw [m1]
    simp only [if_neg ne_10, m3, if_neg nlf, zI_clamp (show i < 2147483648 by omega), r1, b, if_true, h78]
    exact ⟨m2, m4, vi, r2, u2, trivial⟩
