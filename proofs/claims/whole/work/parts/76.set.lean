/-! PURE: set -/
theorem M_set_unseen {fl : Nat → Nat} {U : Nat → Nat → Int32} {a1 a2 a3 a4 : Int32} (h : F_M_isSeen U a1 a2 = 0) (hs : Sf_M_isSeen U a1 a2) : F_M_set fl U a1 a2 a3 a4 = (0, z_uS U 78 0 1) ∧ Sf_M_set fl U a1 a2 a3 a4 := by
  unfold F_M_set Sf_M_set F_M_set_j24 Sf_M_set_j24 F_M_set_j25 Sf_M_set_j25 F_M_set_j51 Sf_M_set_j51
  simp only [h, if_true, if_neg le_10, ite_self]
  exact ⟨trivial, hs, trivial⟩

theorem M_set_in {fl : Nat → Nat} {a1 a2 a4 : Int32} {f : Nat} (hf : f < 3) (g0 : -1 ≤ a4.toInt) (g1 : a4.toInt ≤ 99) (U : Nat → Nat → Int32) : F_M_set fl U a1 a2 (zI f) a4 = F_M_set_j25 fl U a1 a2 (zI f) a4 1 ∧ (Sf_M_set_j25 fl U a1 a2 (zI f) a4 1 → Sf_M_set fl U a1 a2 (zI f) a4) := by
  have f0 : (zI f).toInt = f := zI_toInt (by omega)
  unfold F_M_set Sf_M_set
  simp only [M_isIn_eq, show (0 : Int32).toInt = 0 from rfl, show (2 : Int32).toInt = 2 from rfl, show ((-1) : Int32).toInt = -1 from rfl, show (99 : Int32).toInt = 99 from rfl]
  rw [if_pos (show 0 ≤ (zI f).toInt ∧ (zI f).toInt ≤ 2 by omega), if_pos (show -1 ≤ a4.toInt ∧ a4.toInt ≤ 99 by omega)]
  simp only [if_neg ne_10]
  exact ⟨trivial, fun x => x⟩
theorem T_isValue_I (S : Nat → Nat → Int32) (a : Int32) : F_T_isValue S a = if -1 ≤ a.toInt ∧ a.toInt ≤ 99 then 1 else 0 := by
  unfold F_T_isValue
  rw [T_isNumber_eq]
  by_cases q : a = -1
  · have := i_m1.mp q
    rw [if_pos q, if_pos (by omega)]
  · have : ¬ a.toInt = -1 := fun e => q (i_m1.mpr e)
    rw [if_neg q]
    by_cases r : 0 ≤ a.toInt ∧ a.toInt ≤ 99
    · simp only [if_neg q, if_pos r, if_neg ne_10, if_pos (show -1 ≤ a.toInt ∧ a.toInt ≤ 99 by omega)]
    · simp only [if_neg q, if_neg r, if_true, if_neg (show ¬ (-1 ≤ a.toInt ∧ a.toInt ≤ 99) by omega)]
theorem rgC_val {f : Nat} {v : Int32} (hf : f < 3) (h0 : -1 ≤ v.toInt) (h1 : v.toInt ≤ 99) : rgC (1 + f) v := by
  unfold rgC lo_c hi_c
  have hf' : f = 0 ∨ f = 1 ∨ f = 2 := by omega
  rcases hf' with rfl | rfl | rfl <;> exact ⟨by simp; omega, by simp; omega⟩
theorem mKc_f {f : Nat} (hf : f < 3) : mKc (1 + f) = 3 := by unfold mKc; rw [if_neg (by omega), if_pos (by omega)]
theorem mWc_f {f : Nat} (hf : f < 3) : mWc (1 + f) = zI f := by unfold mWc; rw [if_neg (by omega), if_pos (by omega)]; congr 1; omega
def vCan (E : Nat → Nat → Int32) (w : zWd) (p i f : Nat) : Bool := vEdit E w p i && vRead E w p i f && eH E (wC w i 9) f
/-- the reference's rights -/
theorem M_set_can {fl : Nat → Nat} {E U : Nat → Nat → Int32} {d rn : Nat} {A : zA} (hU : zBM fl E U d A rn) {p i f : Nat} (hp : p < 8) (hi : i < 30) (hw : A.2.2.1 i = true) (hf : f < 3) (a4 : Int32) (n1 : F_M_isSeen U (zI p) (zI i) = 1) (n2 : Sf_M_isSeen U (zI p) (zI i)) : F_M_set_j25 fl U (zI p) (zI i) (zI f) a4 1 = (if vCan E A.2.2 p i f = true then F_M_set_j109 fl (z_uS U 78 0 0) (zI p) (zI i) (zI f) a4 0 else (0, z_uS (z_uS U 78 0 0) 78 0 3)) ∧ ((if vCan E A.2.2 p i f = true then Sf_M_set_j109 fl (z_uS U 78 0 0) (zI p) (zI i) (zI f) a4 0 else True) → Sf_M_set_j25 fl U (zI p) (zI i) (zI f) a4 1) := by
  have hU0 := hU.thr 0
  have hg := hU.ok.rg
  obtain ⟨e1, e2⟩ := M_edits_I hU0.y hU0.m.2.1 hg hp hi
  obtain ⟨r1, r2⟩ := M_readsIt_I hU0.y hU0.m.2.1 hg hp hi (show f < 4 by omega)
  obtain ⟨s1, s2⟩ := M_hasField_J (E := E) (fun k hk => (hU0.y.1 k hk).2.2.2.1) hU0.m.2.1 hg hi hw hf
  unfold vCan
  refine ⟨?_, fun hgo => ?_⟩
  · unfold F_M_set_j25 F_M_set_j51 F_M_set_j108
    simp only [n1, if_neg ne_10, if_pos le_00, e1, r1, s1]
    cases q1 : vEdit E A.2.2 p i
    · simp [F_M_set_j109, le_30]
    · cases q2 : vRead E A.2.2 p i f
      · simp [F_M_set_j109, le_30]
      · cases q3 : eH E (wC A.2.2 i 9) f
        · simp [F_M_set_j109, le_30]
        · simp
  · unfold Sf_M_set_j25 Sf_M_set_j51 Sf_M_set_j108
    simp only [n1, if_neg ne_10, if_pos le_00, e1, r1, s1]
    cases q1 : vEdit E A.2.2 p i
    · simp [Sf_M_set_j109, le_30, n2, e2]
    · cases q2 : vRead E A.2.2 p i f
      · simp [Sf_M_set_j109, le_30, n2, e2, r2]
      · cases q3 : eH E (wC A.2.2 i 9) f
        · simp [Sf_M_set_j109, le_30, n2, e2, r2, s2]
        · simp only [q1, q2, q3, Bool.true_and, if_true] at hgo
          simp [n2, e2, r2, s2, hgo]
theorem o_15 {fl : Nat → Nat} {S : Nat → Nat → Int32} {d : Nat} {A : zA} {rn : Nat} (h : zB0 fl S d A rn) (a1 a2 a3 a4 a5 a6 : Int32) : Sl_15 fl S a1 a2 a3 a4 a5 a6 ∧ zEnd S (Fl_15 fl S a1 a2 a3 a4 a5 a6) d := by
  suffices g : zOp (fun E => (if E = "java/lang/IndexOutOfBoundsException" then 1 else (if E = "java/lang/IllegalArgumentException" then 2 else (if E = "java/lang/IllegalStateException" then 3 else 0)))) (fun E => E = "java/lang/IndexOutOfBoundsException" ∨ E = "java/lang/IllegalArgumentException" ∨ E = "java/lang/IllegalStateException") S d (F_T_set S a1 a2 a3 a4) (Sf_T_set S a1 a2 a3 a4) (fun U => F_M_set fl U a1 a2 a3 a4) (fun U => Sf_M_set fl U a1 a2 a3 a4) from g
  rcases T_head h a1 a2 with ⟨V, hv, hcx, hC, m1, m2⟩ | ⟨p, i, V, hp, hi, rfl, rfl, hsee, hw, hper, v1, v2, hcx, hC, hst, hCX, hU⟩
  · obtain ⟨m3, m4⟩ := M_set_unseen (fl := fl) (a3 := a3) (a4 := a4) m1 m2
    refine zOp_err (E := "java/lang/IndexOutOfBoundsException") (V := V) ?_ ?_ (Or.inl rfl) (by decide) hcx h.ok h.ns hC m3 m4 (by rw [uS_at]; rfl) (zFMX.thr _ _) ((h.bm hcx.x).m.thr _)
    · unfold F_T_set
      rcases hv with ⟨g, rfl⟩ | ⟨g, v1, v2⟩
      · rw [if_pos g]
      · rw [g, v1]; rfl
    · unfold Sf_T_set
      rcases hv with ⟨g, rfl⟩ | ⟨g, v1, v2⟩
      · rw [if_pos g]; trivial
      · rw [g, v1]; exact ⟨v2, trivial⟩
  have hbm := h.bm hcx.x
  have hn := h.n
  by_cases hf : 0 ≤ a3.toInt ∧ a3.toInt < 3 ∧ -1 ≤ a4.toInt ∧ a4.toInt ≤ 99
  case neg =>
    obtain ⟨n1, n2⟩ := hU V hbm
    refine zOp_err (E := "java/lang/IllegalArgumentException") (V := V) (x := 0) (W := z_uS V 78 0 2) ?_ ?_ (Or.inr (Or.inl rfl)) (by decide) hcx h.ok h.ns hC ?_ ?_ (by rw [uS_at]; rfl) (zFMX.thr _ _) (hbm.m.thr _)
    · unfold F_T_set
      rw [hper, v1]
      simp only [if_neg ne_10, T_isField_eq, T_isValue_I]
      by_cases q : 0 ≤ a3.toInt ∧ a3.toInt < 3
      · simp only [if_pos q, if_neg ne_10, if_neg (show ¬ (-1 ≤ a4.toInt ∧ a4.toInt ≤ 99) by omega), if_true]
      · simp only [if_neg q, if_true]
    · unfold Sf_T_set
      rw [hper, v1]
      simp only [if_neg ne_10, T_isField_eq, T_isValue_I]
      refine ⟨v2, ?_⟩
      by_cases q : 0 ≤ a3.toInt ∧ a3.toInt < 3
      · simp only [if_pos q, if_neg ne_10, if_neg (show ¬ (-1 ≤ a4.toInt ∧ a4.toInt ≤ 99) by omega), if_true]
      · simp only [if_neg q, if_true]
    · show F_M_set fl V (zI p) (zI i) a3 a4 = _
      unfold F_M_set F_M_set_j24 F_M_set_j25 F_M_set_j51
      simp only [M_isIn_eq, n1, if_neg ne_10, if_neg le_20, show (0 : Int32).toInt = 0 from rfl, show (2 : Int32).toInt = 2 from rfl, show ((-1) : Int32).toInt = -1 from rfl, show (99 : Int32).toInt = 99 from rfl]
      by_cases q : 0 ≤ a3.toInt ∧ a3.toInt ≤ 2
      · simp only [if_pos q, if_neg ne_10, if_neg (show ¬ (-1 ≤ a4.toInt ∧ a4.toInt ≤ 99) by omega), if_true]
      · simp only [if_neg q, if_true]
    · show Sf_M_set fl V (zI p) (zI i) a3 a4
      unfold Sf_M_set Sf_M_set_j24 Sf_M_set_j25 Sf_M_set_j51
      simp only [M_isIn_eq, n1, if_neg ne_10, if_neg le_20, show (0 : Int32).toInt = 0 from rfl, show (2 : Int32).toInt = 2 from rfl, show ((-1) : Int32).toInt = -1 from rfl, show (99 : Int32).toInt = 99 from rfl]
      by_cases q : 0 ≤ a3.toInt ∧ a3.toInt ≤ 2
      · simp only [if_pos q, if_neg ne_10, if_neg (show ¬ (-1 ≤ a4.toInt ∧ a4.toInt ≤ 99) by omega), if_true]
        exact ⟨n2, trivial⟩
      · simp only [if_neg q, if_true]
        exact ⟨n2, trivial⟩
  obtain ⟨f0, f1, g0, g1⟩ := hf
  obtain ⟨f, hf, rfl⟩ := zI_ex (n := 3) f0 (by omega) (by omega)
  have hval : F_T_isValue V a4 = 1 := by rw [T_isValue_I, if_pos ⟨g0, g1⟩]
  have hfld : F_T_isField V (zI f) = 1 := by rw [T_isField_eq, if_pos ⟨f0, f1⟩]
  obtain ⟨w1, w2⟩ := T_canWrite_I hCX.1 hst hC.2 h.ok.rg hi hf
  change F_T_canWrite V (zI i) (zI f) = (if vCan S A.2.2 p i f = true then 1 else 0) at w1
  -- the reference
  have hR : ∀ U : Nat → Nat → Int32, zBM fl S U d A rn → F_M_set fl U (zI p) (zI i) (zI f) a4 = (if vCan S A.2.2 p i f = true then F_M_set_j109 fl (z_uS U 78 0 0) (zI p) (zI i) (zI f) a4 0 else (0, z_uS (z_uS U 78 0 0) 78 0 3)) ∧ ((if vCan S A.2.2 p i f = true then Sf_M_set_j109 fl (z_uS U 78 0 0) (zI p) (zI i) (zI f) a4 0 else True) → Sf_M_set fl U (zI p) (zI i) (zI f) a4) := by
    intro U hU2
    obtain ⟨n1, n2⟩ := hU U hU2
    obtain ⟨x1, x2⟩ := M_set_in (fl := fl) (a1 := zI p) (a2 := zI i) hf g0 g1 U
    obtain ⟨y1, y2⟩ := M_set_can hU2 hp hi hw hf a4 n1 n2
    exact ⟨x1.trans y1, fun z => x2 (y2 z)⟩
  by_cases hcan : vCan S A.2.2 p i f = true
  case neg =>
    obtain ⟨x1, x2⟩ := hR V hbm
    rw [if_neg hcan] at x1 x2 w1
    refine zOp_err (E := "java/lang/IllegalStateException") (V := V) ?_ ?_ (Or.inr (Or.inr rfl)) (by decide) hcx h.ok h.ns hC x1 (x2 trivial) (by rw [uS_at]; rfl) ((zFMX.thr _ _).trans (zFMX.thr _ _)) ((hbm.m.thr _).thr _)
    · unfold F_T_set; rw [hper, v1]; simp only [if_neg ne_10, hfld, hval, w1, if_true]
    · unfold Sf_T_set; rw [hper, v1]; simp only [if_neg ne_10, hfld, hval, w1, if_true]; exact ⟨v2, w2, trivial⟩
  rw [if_pos hcan] at w1
  have e1 : (1 : Int32) + zI f = zI (1 + f) := by rw [show (1 : Int32) = zI 1 from rfl, zI_add]
  obtain ⟨o1, o2, o3⟩ := aC_ok (p := p) (v := a4) h.ok hi (show 1 + f < 9 by omega) hw (rgC_val hf g0 g1) (by omega) hp
  obtain ⟨C, c1, c2, c3, c4⟩ := T_chg hCX hC (show A.2.1 < 900 by omega) p hi (show 1 + f < 9 by omega) a4
  obtain ⟨D, d1, d2, d3, d4⟩ := T_stl (hCX.cx c3) h.ru hp c4 o1 (by omega) o3.1
  obtain ⟨q1, q2⟩ := aRes_ok (E := S) h.ru hp o1 o3.1 h.n
  have h17 : V 1 7 = zI A.2.1 := hC.1.size
  obtain ⟨x1, x2⟩ := hC.2.cell hi (show 1 + f < 10 by omega)
  have hfcx : zFCX S D := (hcx.trans c3).trans d3
  have hM : ∀ U : Nat → Nat → Int32, zBM fl S U d A rn → ∃ W, F_M_set fl U (zI p) (zI i) (zI f) a4 = (if aSt S d p rn A.2.1 (aC d p i (1 + f) a4 A) = true then wC A.2.2 i (1 + f) else 0, W) ∧ Sf_M_set fl U (zI p) (zI i) (zI f) a4 ∧ zFMX U W ∧ (W 78 0 = if aSt S d p rn A.2.1 (aC d p i (1 + f) a4 A) = true then 0 else 3) ∧ zRM 86 W (aRes S d p rn A.2.1 (aC d p i (1 + f) a4 A)) := by
    intro U hU2
    obtain ⟨y1, y2⟩ := hR U hU2
    rw [if_pos hcan] at y1 y2
    have hU3 := (hU2.thr 0).thr 0
    obtain ⟨X, k1, k2, k3, k4⟩ := M_chg hU3.bx hU3.m h.ok (by omega) p hi (show 1 + f < 9 by omega) hw a4
    rw [mKc_f hf, mWc_f hf] at k1 k2
    obtain ⟨Y, l1, l2, l3, l4⟩ := M_stl (hU3.bx.mx k3) hp k4 o1 (by omega) o3.1 (aC_by (Nat.le_refl _))
    obtain ⟨z1, z2⟩ := M_valueOf_J (E := S) hU3.bx.f128 hU3.m.2.1 h.ok.rg hi hw hf
    have heh : eH S (wC A.2.2 i 9) f = true := (Bool.and_eq_true_iff.mp hcan).2
    rw [heh] at z1
    simp only [if_true] at z1
    have hsz : (z_uS U 78 0 0) 78 2 = zI A.2.1 := (hU2.thr 0).m.1.size
    have hfr : zFMX U Y := (((zFMX.thr U 0).trans (zFMX.thr _ 0)).trans k3).trans l3
    refine ⟨z_uS Y 78 0 (if aSt S d p rn A.2.1 (aC d p i (1 + f) a4 A) = true then 0 else 3), ?_, y2 ?_, hfr.trans (zFMX.thr _ _), uS_at _ _ _ _, l4.thr _⟩
    · rw [y1]
      unfold F_M_set_j109 F_M_set_j169
      simp only [if_pos le_00, z_let, k1, hsz, l1, z1]
      cases aSt S d p rn A.2.1 (aC d p i (1 + f) a4 A)
      · simp [le_30]
      · simp
    · unfold Sf_M_set_j109
      simp only [if_pos le_00, z_let, k1, hsz]
      exact ⟨z2, k2, l2, trivial⟩
  by_cases hst2 : aSt S d p rn A.2.1 (aC d p i (1 + f) a4 A) = true
  · rw [hst2] at d1
    obtain ⟨W, m1, m2, m3, m4, m5⟩ := hM (z_uS D 193 0 (wC A.2.2 i (1 + f))) (h.bm (hfcx.out _))
    rw [if_pos hst2] at m1 m4
    refine zOp_ok (V := D) (v := wC A.2.2 i (1 + f)) ?_ ?_ hfcx q1 ⟨q2, h.cres hp zNb.rfl.aC.q o1⟩ d4 m1 m2 m4 m3 m5
    · unfold F_T_set; rw [hper, v1]; simp only [if_neg ne_10, hfld, hval, w1, e1, z_let, c1, h17, d1, x1, if_true]
    · unfold Sf_T_set; rw [hper, v1]; simp only [if_neg ne_10, hfld, hval, w1, e1, z_let, c1, h17]; exact ⟨v2, w2, x2, c2, d2, trivial⟩
  · have hst3 : aSt S d p rn A.2.1 (aC d p i (1 + f) a4 A) = false := by simpa using hst2
    rw [hst3] at d1
    obtain ⟨W, m1, m2, m3, m4, m5⟩ := hM D (h.bm hfcx.x)
    rw [if_neg hst2] at m1 m4
    refine zOp_err (E := "java/lang/IllegalStateException") (V := D) ?_ ?_ (Or.inr (Or.inr rfl)) (by decide) hfcx q1 ⟨q2, h.cres hp zNb.rfl.aC.q o1⟩ d4 m1 m2 m4 m3 m5
    · unfold F_T_set; rw [hper, v1]; simp only [if_neg ne_10, hfld, hval, w1, e1, z_let, c1, h17, d1, Bool.false_eq_true, if_false, if_true]
    · unfold Sf_T_set; rw [hper, v1]; simp only [if_neg ne_10, hfld, hval, w1, e1, z_let, c1, h17]; exact ⟨v2, w2, x2, c2, d2, trivial⟩
