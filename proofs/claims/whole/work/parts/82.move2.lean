/-! PURE: move, in both -/
def oI (o : Option Nat) : Int32 := match o with
  | some q => zI q
  | none => -1
def oU (o : Option Nat) : Unit ⊕ Int32 := match o with
  | some q => .inr (zI q)
  | none => .inl ()
theorem F_M_move_end {fl : Nat → Nat} {U Y W : Nat → Nat → Int32} {x4 x6 : Int32} {b : Bool} (h : F_M_stays fl Y x6 1 = (if b = true then 1 else 0, W)) : F_M_move_j185 fl Y x4 x6 = (if b = true then x4 else 0, z_uS W 78 0 (if b = true then 0 else 3)) := by
  unfold F_M_move_j185 F_M_move_j201
  rw [h]
  cases b
  · simp [le_30]
  · simp
theorem o_17 {fl : Nat → Nat} {S : Nat → Nat → Int32} {d : Nat} {A : zA} {rn : Nat} (h : zB0 fl S d A rn) (hF : zCF fl S S) (a1 a2 a3 a4 a5 a6 : Int32) : Sl_17 fl S a1 a2 a3 a4 a5 a6 ∧ zEnd S (Fl_17 fl S a1 a2 a3 a4 a5 a6) d := by
  suffices g : zOp (fun E => (if E = "java/lang/IndexOutOfBoundsException" then 1 else (if E = "java/lang/IllegalArgumentException" then 2 else (if E = "java/lang/IllegalStateException" then 3 else 0)))) (fun E => E = "java/lang/IndexOutOfBoundsException" ∨ E = "java/lang/IllegalArgumentException" ∨ E = "java/lang/IllegalStateException") S d (F_T_move S a1 a2 a3) (Sf_T_move S a1 a2 a3) (fun U => F_M_move fl U a1 a2 a3) (fun U => Sf_M_move fl U a1 a2 a3) from g
  rcases T_head h a1 a2 with ⟨V, hv, hcx, hC, m1, m2⟩ | ⟨p, i, V, hp, hi, rfl, rfl, hsee, hw, hper, v1, v2, hcx, hC, hst, hCX, hU⟩
  · refine zOp_err (E := "java/lang/IndexOutOfBoundsException") (V := V) (x := 0) (W := z_uS V 78 0 1) ?_ ?_ (Or.inl rfl) (by decide) hcx h.ok h.ns hC ?_ ?_ (by rw [uS_at]; rfl) (zFMX.thr _ _) ((h.bm hcx.x).m.thr _)
    · unfold F_T_move
      rcases hv with ⟨g, rfl⟩ | ⟨g, v1, v2⟩
      · rw [if_pos g]
      · rw [g, v1]; rfl
    · unfold Sf_T_move
      rcases hv with ⟨g, rfl⟩ | ⟨g, v1, v2⟩
      · rw [if_pos g]; trivial
      · rw [g, v1]; exact ⟨v2, trivial⟩
    · show F_M_move fl V a1 a2 a3 = _
      unfold F_M_move F_M_move_j28
      simp only [m1, if_true, if_neg le_10]
    · show Sf_M_move fl V a1 a2 a3
      unfold Sf_M_move Sf_M_move_j28
      simp only [m1, if_true, if_neg le_10]; exact ⟨m2, trivial⟩
  have hbm := h.bm hcx.x
  have hn := h.n
  have vi : vp_in (zI i) 30 := vp_in_I hi (by omega)
  by_cases hf : 0 ≤ a3.toInt ∧ a3.toInt < 6
  case neg =>
    obtain ⟨n1, n2⟩ := hU V hbm
    have hf2 : ¬ (0 ≤ a3.toInt ∧ a3.toInt ≤ 5) := by omega
    refine zOp_err (E := "java/lang/IllegalArgumentException") (V := V) (x := 0) (W := z_uS V 78 0 2) ?_ ?_ (Or.inr (Or.inl rfl)) (by decide) hcx h.ok h.ns hC ?_ ?_ (by rw [uS_at]; rfl) (zFMX.thr _ _) (hbm.m.thr _)
    · unfold F_T_move; rw [hper, v1]; simp only [if_neg ne_10, T_isState_eq, if_neg hf, if_true]
    · unfold Sf_T_move; rw [hper, v1]; simp only [if_neg ne_10, T_isState_eq, if_neg hf, if_true]; exact ⟨v2, trivial⟩
    · show F_M_move fl V (zI p) (zI i) a3 = _
      unfold F_M_move F_M_move_j28
      simp only [n1, if_neg ne_10, M_isIn_eq, show (0 : Int32).toInt = 0 from rfl, show (5 : Int32).toInt = 5 from rfl, if_neg hf2, if_true, if_neg le_20]
    · show Sf_M_move fl V (zI p) (zI i) a3
      unfold Sf_M_move Sf_M_move_j28
      simp only [n1, if_neg ne_10, M_isIn_eq, show (0 : Int32).toInt = 0 from rfl, show (5 : Int32).toInt = 5 from rfl, if_neg hf2, if_true, if_neg le_20]; exact ⟨n2, trivial⟩
  obtain ⟨to, hto, rfl⟩ := zI_ex (n := 6) hf.1 (by omega) (by omega)
  have hf2 : 0 ≤ (zI to).toInt ∧ (zI to).toInt ≤ 5 := by omega
  have hpr : F_T_isState V (zI to) = 1 := by rw [T_isState_eq, if_pos hf]
  have hed := Sight_canEdit_I hst hi
  have heds := Sf_canEdit_I V (zI i)
  -- the kind's workflow
  obtain ⟨k, hk, ek⟩ := h.ok.rg.kind hi hw
  obtain ⟨x, hx, ex⟩ := h.ok.rg.project hi hw
  obtain ⟨c, hfr, hfw⟩ := hF.flow hk
  have hc8 := hfr.le
  have hstep : ∀ j, j < c → (wP S k j 3 = -1 ∨ ∃ f, f < 3 ∧ wP S k j 3 = zI f) ∧ 0 ≤ (wP S k j 4).toInt := fun j hj => ⟨(hfw.step j hj).2.2.1, (hfw.step j hj).2.2.2.1.1⟩
  have h57 : V 57 = S 57 := hcx.1 57 (by omega)
  have h56 : V 56 k = zI c := by rw [hcx.1 56 (by omega)]; exact hfr.cnt
  obtain ⟨x9, x9'⟩ := hC.2.cell hi (show 9 < 10 by omega)
  obtain ⟨x0, x0'⟩ := hC.2.cell hi (show 0 < 10 by omega)
  obtain ⟨x8, x8'⟩ := hC.2.cell hi (show 8 < 10 by omega)
  have y9 : F_World_cell 9 V (zI i) 9 = zI k := x9.trans ek
  have y9' : Sf_World_cell 9 V (zI i) 9 := x9'
  have y0 : F_World_cell 9 V (zI i) 0 = wC A.2.2 i 0 := x0
  have y0' : Sf_World_cell 9 V (zI i) 0 := x0'
  have y8 : F_World_cell 9 V (zI i) 8 = zI x := x8.trans ex
  have y8' : Sf_World_cell 9 V (zI i) 8 := x8'
  have eR : F_World_rolesOf 9 V (zI p) (zI x) = vR A.2.2 p i := by
    rw [World_rolesOf_I hp hx, hC.2.role _ (by omega)]; unfold vR; rw [ex, zI_clamp (by omega)]
  obtain ⟨t1, t2⟩ := T_stepTo_L hCX.2.1 h57 h56 hC.2 h.ok.rg hi hw hk hc8 (fun j hj => (hstep j hj).1) (p := p) (to := zI to) c 0 1300 rfl (by omega)
  rw [zI_0] at t1 t2
  change _ = oU (aWay (wCond S A.2.2 p i (zI to) k) c 0) at t1
  generalize hway : aWay (wCond S A.2.2 p i (zI to) k) c 0 = way at t1
  have hTs : F_T_stepTo V (zI p) (zI i) (zI to) = oI way ∧ Sf_T_stepTo V (zI p) (zI i) (zI to) := by
    unfold F_T_stepTo Sf_T_stepTo
    rw [y9, y0, y8, eR, t1]
    refine ⟨?_, y9', y0', y8', t2, trivial⟩
    cases way <;> rfl
  -- the reference: to where the step is known
  have hMw : ∀ U : Nat → Nat → Int32, zBM fl S U d A rn → zFlw fl S U → F_M_way fl U (zI p) (zI i) (zI to) = oI way ∧ Sf_M_way fl U (zI p) (zI i) (zI to) := by
    intro U hU2 hfl
    have c88 : U 88 i = zI k := (hU2.m.2.1.cell hi (show 9 < 10 by omega) hw).trans ek
    have hfa : U (fl k) 1 = zI c := by have := hfl k 0 hk (by omega); rw [Nat.add_zero] at this; rw [this]; exact hfr.many
    have hpt : ∀ j, j < c → ∀ q, q < 6 → U (fl k + 1 + q) j = wP S k j q := fun j hj q hq => by
      have := hfl k (1 + q) hk (by omega)
      rw [show fl k + 1 + q = fl k + (1 + q) by omega, this, show fl k + (1 + q) = fl k + 1 + q by omega]
      exact (hfr.part j hj q hq).symm
    obtain ⟨l1, l2⟩ := M_way_L hU2.e hfa hpt hU2.m.2.1 h.ok.rg hp hi hw hc8 hstep (to := zI to) c 0 1300 rfl (by omega)
    rw [zI_0] at l1 l2
    change _ = oI (aWay (wCond S A.2.2 p i (zI to) k) c 0) at l1
    rw [hway] at l1
    unfold F_M_way Sf_M_way
    simp only [z_letN, zI_clamp (show i < 2147483648 by omega), c88, zI_clamp (show k < 2147483648 by omega), l1]
    exact ⟨trivial, vi, vp_in_I hk (by omega), l2, trivial⟩
  have hM1 : ∀ U : Nat → Nat → Int32, zBM fl S U d A rn → zFlw fl S U → F_M_move fl U (zI p) (zI i) (zI to) = F_M_move_j64 fl (z_uS U 78 0 0) (zI p) (zI i) (zI to) (if vEdit S A.2.2 p i = true then oI way else -1) ∧ (Sf_M_move_j64 fl (z_uS U 78 0 0) (zI p) (zI i) (zI to) (if vEdit S A.2.2 p i = true then oI way else -1) → Sf_M_move fl U (zI p) (zI i) (zI to)) := by
    intro U hU2 hfl
    obtain ⟨n1, n2⟩ := hU U hU2
    have hU0 := hU2.thr 0
    obtain ⟨e1, e2⟩ := M_edits_I hU0.y hU0.m.2.1 h.ok.rg hp hi
    obtain ⟨w1, w2⟩ := hMw _ hU0 (hfl.mx hF.fl (zFMX.thr U 0))
    unfold F_M_move Sf_M_move F_M_move_j28 Sf_M_move_j28
    simp only [n1, if_neg ne_10, M_isIn_eq, show (0 : Int32).toInt = 0 from rfl, show (5 : Int32).toInt = 5 from rfl, if_pos hf2, if_pos le_00, e1, w1]
    cases vEdit S A.2.2 p i
    · simp only [Bool.false_eq_true, if_false, if_true]; exact ⟨trivial, fun z => ⟨n2, e2, z⟩⟩
    · simp only [if_true, if_neg ne_10]; exact ⟨trivial, fun z => ⟨n2, e2, w2, z⟩⟩
  -- no step
  have none' : (if vEdit S A.2.2 p i = true then oI way else -1) = -1 → zOp (fun E => (if E = "java/lang/IndexOutOfBoundsException" then 1 else (if E = "java/lang/IllegalArgumentException" then 2 else (if E = "java/lang/IllegalStateException" then 3 else 0)))) (fun E => E = "java/lang/IndexOutOfBoundsException" ∨ E = "java/lang/IllegalArgumentException" ∨ E = "java/lang/IllegalStateException") S d (F_T_move S (zI p) (zI i) (zI to)) (Sf_T_move S (zI p) (zI i) (zI to)) (fun U => F_M_move fl U (zI p) (zI i) (zI to)) (fun U => Sf_M_move fl U (zI p) (zI i) (zI to)) := by
    intro he
    obtain ⟨y1, y2⟩ := hM1 V hbm (hcx.x.flw hF.fl)
    rw [he] at y1 y2
    refine zOp_err (E := "java/lang/IllegalStateException") (V := V) (x := 0) (W := z_uS (z_uS V 78 0 0) 78 0 3) ?_ ?_ (Or.inr (Or.inr rfl)) (by decide) hcx h.ok h.ns hC ?_ (y2 ?_) (by rw [uS_at]; rfl) ((zFMX.thr _ _).trans (zFMX.thr _ _)) ((hbm.m.thr _).thr _)
    · unfold F_T_move F_T_move_j53; rw [hper, v1]; simp only [if_neg ne_10, hpr, hed, hTs.1]
      cases q : vEdit S A.2.2 p i
      · simp
      · rw [q] at he; simp only [if_true] at he; simp [he]
    · unfold Sf_T_move Sf_T_move_j53; rw [hper, v1]; simp only [if_neg ne_10, hpr, hed, hTs.1]
      refine ⟨v2, heds, ?_⟩
      cases q : vEdit S A.2.2 p i
      · simp
      · rw [q] at he; simp only [if_true] at he; simp [he, hTs.2]
    · refine y1.trans ?_
      unfold F_M_move_j64 F_M_move_j78; simp [le_30]
    · unfold Sf_M_move_j64 Sf_M_move_j78; simp [le_30]
  cases q : vEdit S A.2.2 p i
  · exact none' (by rw [q]; rfl)
  cases qw : way with
  | none => exact none' (by rw [q, qw]; rfl)
  | some st =>
  subst qw
  have eOI : oI (some st) = zI st := rfl
  simp only [eOI] at hTs hMw hM1
  have hlt := aWay_some c 0 st hway
  have hst8 : st < 8 := by omega
  have hstc : st < c := by omega
  obtain ⟨s0, s1, s3, s4, s5, s6⟩ := hfw.step st hstc
  have hnm : ¬ zI st = -1 := m1_ne st (by omega)
  -- the first change
  have hwto : eS S (wC A.2.2 i 9) (zI to) = true := by
    have hin := aWay_hit c 0 st hway
    unfold wCond at hin
    simp only [Bool.and_eq_true, decide_eq_true_eq] at hin
    obtain ⟨b, hb, e1, e2⟩ := s1
    have e3 : zI b = zI to := e1.symm.trans hin.2.1
    have e4 : b = to := (zI_inj (by omega) (by omega)).mp e3
    unfold eS
    rw [ek, zI_clamp (show k < 2147483648 by omega), zI_clamp (show to < 2147483648 by omega), ← e4]
    exact e2
  have hrg0 : rgC 0 (zI to) := ⟨by show (0 : Int) ≤ _; omega, by show _ ≤ (5 : Int); omega⟩
  obtain ⟨o1, b1, g1⟩ := aC_ok (p := p) (v := zI to) h.ok hi (show 0 < 9 by omega) hw hrg0 (by omega) hp
  obtain ⟨C1, c11, c12, c13, c14⟩ := T_chg hCX hC (show A.2.1 < 900 by omega) p hi (show 0 < 9 by omega) (zI to)
  have hw1 : (aC d p i 0 (zI to) A).2.2.1 i = true := by rw [g1.2.2.2.1]; exact hw
  have c11' : F_T_change V (zI p) (zI i) 0 0 (zI to) = C1 := c11
  have c12' : Sf_T_change V (zI p) (zI i) 0 0 (zI to) := c12
  have hb1 := g1.1
  have hnb1 : zNq S A (aC d p i 0 (zI to) A) := (zNb.rfl.q).aS fun _ => hwto
  have hby1 : aBy p A.2.1 (aC d p i 0 (zI to) A) := aC_by (Nat.le_refl _)
  generalize hA1 : aC d p i 0 (zI to) A = A1 at *
  have h17 : V 1 7 = zI A.2.1 := hC.1.size
  have pp : ∀ (T : Nat → Nat → Int32), T 57 = S 57 → ∀ q, q < 6 → F_Flows_part T (zI k) (zI st) (zI q) = wP S k st q := fun T hT q hq => by rw [Flows_part_I T (by omega) hst8 hq, hT]; rfl
  have h571 : C1 57 = S 57 := by rw [c13.1 57 (by omega)]; exact h57
  have p5 : F_Flows_part C1 (zI k) (zI st) 5 = wP S k st 5 := pp C1 h571 5 (by omega)
  have p3 : F_Flows_part C1 (zI k) (zI st) 3 = wP S k st 3 := pp C1 h571 3 (by omega)
  have hTm : F_T_move S (zI p) (zI i) (zI to) = F_T_move_j53 V (zI p) (zI i) (zI to) (zI st) ∧ (Sf_T_move_j53 V (zI p) (zI i) (zI to) (zI st) → Sf_T_move S (zI p) (zI i) (zI to)) := by
    unfold F_T_move Sf_T_move; rw [hper, v1]; simp only [if_neg ne_10, hpr, hed, q, if_true, hTs.1]
    exact ⟨trivial, fun z => ⟨v2, heds, hTs.2, z⟩⟩
  -- the reference's first change
  have hM2 : ∀ U : Nat → Nat → Int32, zBM fl S U d A rn → zFlw fl S U → ∃ X, zFMX U X ∧ zBX fl S X d rn ∧ zRM 86 X A1 ∧ F_M_move fl U (zI p) (zI i) (zI to) = (if wP S k st 5 = 1 then F_M_move_j185 fl (F_M_change 86 X 4 (zI p) (zI i) 0 (zI p)) (zI st) (zI A.2.1) else if wP S k st 5 = 2 then F_M_move_j185 fl (F_M_change 86 X 3 (zI p) (zI i) (wP S k st 3) (-1)) (zI st) (zI A.2.1) else F_M_move_j185 fl X (zI st) (zI A.2.1)) ∧ ((if wP S k st 5 = 1 then Sf_M_change 86 X 4 (zI p) (zI i) 0 (zI p) ∧ Sf_M_stays fl (F_M_change 86 X 4 (zI p) (zI i) 0 (zI p)) (zI A.2.1) 1 else if wP S k st 5 = 2 then Sf_M_change 86 X 3 (zI p) (zI i) (wP S k st 3) (-1) ∧ Sf_M_stays fl (F_M_change 86 X 3 (zI p) (zI i) (wP S k st 3) (-1)) (zI A.2.1) 1 else Sf_M_stays fl X (zI A.2.1) 1) → Sf_M_move fl U (zI p) (zI i) (zI to)) := by
    intro U hU2 hfl
    obtain ⟨y1, y2⟩ := hM1 U hU2 hfl
    rw [q] at y1 y2
    have hU3 := (hU2.thr 0).thr 0
    obtain ⟨X, k1, k2, k3, k4⟩ := M_chg hU3.bx hU3.m h.ok (by omega) p hi (show 0 < 9 by omega) hw (zI to)
    rw [hA1] at k4
    have k1' : F_M_change 86 (z_uS (z_uS U 78 0 0) 78 0 0) 2 (zI p) (zI i) 0 (zI to) = X := k1
    have k2' : Sf_M_change 86 (z_uS (z_uS U 78 0 0) 78 0 0) 2 (zI p) (zI i) 0 (zI to) := k2
    have hfr2 : zFMX U X := ((zFMX.thr U 0).trans (zFMX.thr _ 0)).trans k3
    have hflx := hfl.mx hF.fl hfr2
    have c88 : (z_uS U 78 0 0) 88 i = zI k := ((hU2.thr 0).m.2.1.cell hi (show 9 < 10 by omega) hw).trans ek
    have hsz : (z_uS U 78 0 0) 78 2 = zI A.2.1 := (hU2.thr 0).m.1.size
    have e6 : X (fl k + 6) st = wP S k st 5 := by rw [hflx k 6 hk (by omega)]; exact (hfr.part st hstc 5 (by omega)).symm
    have e4 : X (fl k + 4) st = wP S k st 3 := by rw [hflx k 4 hk (by omega)]; exact (hfr.part st hstc 3 (by omega)).symm
    have vs : vp_in (zI st) 8 := vp_in_I hst8 (by omega)
    refine ⟨X, hfr2, hU3.bx.mx k3, k4, ?_, fun z => y2 ?_⟩
    · refine y1.trans ?_
      unfold F_M_move_j64 F_M_move_j78
      simp only [if_true, if_neg hnm, if_pos le_00, z_letN, z_let, zI_clamp (show i < 2147483648 by omega), c88, zI_clamp (show k < 2147483648 by omega), k1', zI_clamp (show st < 2147483648 by omega), e6, e4, hsz]
      rfl
    · unfold Sf_M_move_j64 Sf_M_move_j78 Sf_M_move_j185
      simp only [if_true, if_neg hnm, if_pos le_00, z_letN, z_let, zI_clamp (show i < 2147483648 by omega), c88, zI_clamp (show k < 2147483648 by omega), k1', zI_clamp (show st < 2147483648 by omega), e6, e4, hsz]
      refine ⟨vi, vp_in_I hk (by omega), k2', vs, ?_⟩
      by_cases r1 : wP S k st 5 = 1
      · rw [if_pos r1] at z ⊢; exact ⟨z.1, z.2, trivial⟩
      · rw [if_neg r1] at z ⊢
        refine ⟨vs, ?_⟩
        by_cases r2 : wP S k st 5 = 2
        · rw [if_pos r2] at z ⊢; exact ⟨vs, z.1, z.2, trivial⟩
        · rw [if_neg r2] at z ⊢; exact ⟨z, trivial⟩
  have finish : ∀ (A2 : zA) (T : Nat → Nat → Int32), zOk d A2 → A2.2.1 ≤ A.2.1 + 2 → A.2.1 ≤ A2.2.1 → zNq S A A2 → aBy p A.2.1 A2 → zCX S T d → zRC T A2 → zFCX S T →
      (F_T_move S (zI p) (zI i) (zI to) = F_T_move_j159 T (zI p) (zI st) (zI A.2.1)) → (Sf_T_isSettled T (zI A.2.1) (zI p) → Sf_T_move S (zI p) (zI i) (zI to)) →
      (∀ U, zBM fl S U d A rn → zFlw fl S U → ∃ Y, zFMX U Y ∧ zBX fl S Y d rn ∧ zRM 86 Y A2 ∧ F_M_move fl U (zI p) (zI i) (zI to) = F_M_move_j185 fl Y (zI st) (zI A.2.1) ∧ (Sf_M_stays fl Y (zI A.2.1) 1 → Sf_M_move fl U (zI p) (zI i) (zI to))) →
      zOp (fun E => (if E = "java/lang/IndexOutOfBoundsException" then 1 else (if E = "java/lang/IllegalArgumentException" then 2 else (if E = "java/lang/IllegalStateException" then 3 else 0)))) (fun E => E = "java/lang/IndexOutOfBoundsException" ∨ E = "java/lang/IllegalArgumentException" ∨ E = "java/lang/IllegalStateException") S d (F_T_move S (zI p) (zI i) (zI to)) (Sf_T_move S (zI p) (zI i) (zI to)) (fun U => F_M_move fl U (zI p) (zI i) (zI to)) (fun U => Sf_M_move fl U (zI p) (zI i) (zI to)) := by
    intro A2 T a1 a2 a3 anb a5 t1 t2 t3 t4 t5 t6
    obtain ⟨D, d1, d2, d3, d4⟩ := T_stl (m := A.2.1) t1 h.ru hp t2 a1 (by omega) a3
    obtain ⟨q1, q2⟩ := aRes_ok (E := S) (m := A.2.1) h.ru hp a1 a3 h.n
    have hfx := t3.trans d3
    have hMf : ∀ U, zBM fl S U d A rn → zFlw fl S U → ∃ W, F_M_move fl U (zI p) (zI i) (zI to) = (if aSt S d p rn A.2.1 A2 = true then zI st else 0, W) ∧ Sf_M_move fl U (zI p) (zI i) (zI to) ∧ zFMX U W ∧ (W 78 0 = if aSt S d p rn A.2.1 A2 = true then 0 else 3) ∧ zRM 86 W (aRes S d p rn A.2.1 A2) := by
      intro U hU2 hfl
      obtain ⟨Y, u1, u2, u3, u4, u5⟩ := t6 U hU2 hfl
      obtain ⟨W, w1, w2, w3, w4⟩ := M_stl (m := A.2.1) u2 hp u3 a1 (by omega) a3 a5
      exact ⟨_, u4.trans (F_M_move_end (U := U) w1), u5 w2, (u1.trans w3).trans (zFMX.thr _ _), uS_at _ _ _ _, w4.thr _⟩
    cases r8 : aSt S d p rn A.2.1 A2
    · obtain ⟨W, m1, m2, m3, m4, m5⟩ := hMf D (h.bm hfx.x) (hfx.x.flw hF.fl)
      rw [r8] at m1 m4 d1
      refine zOp_err (E := "java/lang/IllegalStateException") (V := D) (t4.trans ?_) (t5 d2) (Or.inr (Or.inr rfl)) (by decide) hfx q1 ⟨q2, h.cres hp anb a1⟩ d4 m1 m2 m4 m3 m5
      unfold F_T_move_j159; rw [d1]; rfl
    · obtain ⟨W, m1, m2, m3, m4, m5⟩ := hMf (z_uS D 193 0 (zI st)) (h.bm (hfx.out _)) ((hfx.out _).flw hF.fl)
      rw [r8] at m1 m4 d1
      refine zOp_ok (V := D) (v := zI st) (t4.trans ?_) (t5 d2) hfx q1 ⟨q2, h.cres hp anb a1⟩ d4 m1 m2 m4 m3 m5
      unfold F_T_move_j159; rw [d1]; rfl
  have hCX1 := hCX.cx c13
  have hfx1 := hcx.trans c13
  by_cases r1 : wP S k st 5 = 1
  · have hrg4 : rgC 4 (zI p) := by
      unfold rgC; rw [zI_toInt (by omega)]; exact ⟨by show (-1 : Int) ≤ p; omega, by show (p : Int) ≤ 7; omega⟩
    obtain ⟨o2, b2, g2⟩ := aC_ok (p := p) (v := zI p) o1 hi (show 4 < 9 by omega) hw1 hrg4 (by omega) hp
    obtain ⟨C2, c21, c22, c23, c24⟩ := T_chg hCX1 c14 (by omega) p hi (show 4 < 9 by omega) (zI p)
    have c21' : F_T_change C1 (zI p) (zI i) 4 0 (zI p) = C2 := c21
    have c22' : Sf_T_change C1 (zI p) (zI i) 4 0 (zI p) := c22
    refine finish _ C2 o2 (by omega) (by have := g2.1; omega) hnb1.aC hby1.aC (hCX1.cx c23) c24 (hfx1.trans c23) ?_ ?_ ?_
    · rw [hTm.1]; unfold F_T_move_j53; simp only [if_neg hnm, z_let, c11', y9, p5, if_pos r1, c21', h17]
    · intro z; refine hTm.2 ?_; unfold Sf_T_move_j53 Sf_T_move_j159; simp only [if_neg hnm, z_let, c11', y9, p5, if_pos r1, c21', h17]; exact ⟨y9', c12', c22', z, trivial⟩
    · intro U hU2 hfl
      obtain ⟨X, u1, u2, u3, u4, u5⟩ := hM2 U hU2 hfl
      rw [if_pos r1] at u4 u5
      obtain ⟨Y, z1, z2, z3, z4⟩ := M_chg u2 u3 o1 (by omega) p hi (show 4 < 9 by omega) hw1 (zI p)
      have z1' : F_M_change 86 X 4 (zI p) (zI i) 0 (zI p) = Y := z1
      have z2' : Sf_M_change 86 X 4 (zI p) (zI i) 0 (zI p) := z2
      rw [z1'] at u4 u5
      exact ⟨Y, u1.trans z3, u2.mx z3, z4, u4, fun z => u5 ⟨z2', z⟩⟩
  by_cases r2 : wP S k st 5 = 2
  · obtain ⟨f, hf3, ef⟩ := s3.resolve_left (s6 r2)
    have ef' : wP S k st 3 = zI f := ef
    have hrgf : rgC (1 + f) (-1) := rgC_val hf3 (by decide) (by decide)
    have e1 : (1 : Int32) + zI f = zI (1 + f) := by rw [show (1 : Int32) = zI 1 from rfl, zI_add]
    obtain ⟨o2, b2, g2⟩ := aC_ok (p := p) (v := -1) o1 hi (show 1 + f < 9 by omega) hw1 hrgf (by omega) hp
    obtain ⟨C2, c21, c22, c23, c24⟩ := T_chg hCX1 c14 (by omega) p hi (show 1 + f < 9 by omega) (-1)
    refine finish _ C2 o2 (by omega) (by have := g2.1; omega) hnb1.aC hby1.aC (hCX1.cx c23) c24 (hfx1.trans c23) ?_ ?_ ?_
    · rw [hTm.1]; unfold F_T_move_j53; simp only [if_neg hnm, z_let, c11', y9, p5, if_neg r1, if_pos r2, p3, ef', e1, c21, h17]; rfl
    · intro z; refine hTm.2 ?_; unfold Sf_T_move_j53; simp only [if_neg hnm, z_let, c11', y9, p5, if_neg r1, if_pos r2, p3, ef', e1, c21, h17]; exact ⟨y9', c12', c22, z, trivial⟩
    · intro U hU2 hfl
      obtain ⟨X, u1, u2, u3, u4, u5⟩ := hM2 U hU2 hfl
      rw [if_neg r1, if_pos r2, ef'] at u4 u5
      obtain ⟨Y, z1, z2, z3, z4⟩ := M_chg u2 u3 o1 (by omega) p hi (show 1 + f < 9 by omega) hw1 (-1)
      rw [mKc_f hf3, mWc_f hf3] at z1 z2
      rw [z1] at u4 u5
      exact ⟨Y, u1.trans z3, u2.mx z3, z4, u4, fun z => u5 ⟨z2, z⟩⟩
  · refine finish A1 C1 o1 (by omega) hb1 hnb1 hby1 hCX1 c14 hfx1 ?_ ?_ ?_
    · rw [hTm.1]; unfold F_T_move_j53; simp only [if_neg hnm, z_let, c11', y9, p5, if_neg r1, if_neg r2, h17]
    · intro z; refine hTm.2 ?_; unfold Sf_T_move_j53 Sf_T_move_j159; simp only [if_neg hnm, z_let, c11', y9, p5, if_neg r1, if_neg r2, h17]; exact ⟨y9', c12', z, trivial⟩
    · intro U hU2 hfl
      obtain ⟨X, u1, u2, u3, u4, u5⟩ := hM2 U hU2 hfl
      rw [if_neg r1, if_neg r2] at u4 u5
      exact ⟨X, u1, u2, u3, u4, u5⟩
