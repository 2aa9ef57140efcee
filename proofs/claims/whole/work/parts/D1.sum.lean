/-! PURE: sum -/
theorem o_29 {fl : Nat → Nat} {S : Nat → Nat → Int32} {d : Nat} {A : zA} {rn : Nat} (h : zB0 fl S d A rn) (hI : zCI S) (hQ : zCQ S) (a1 a2 a3 a4 a5 a6 : Int32) : Sl_29 fl S a1 a2 a3 a4 a5 a6 ∧ zWr zWF S (Fl_29 fl S a1 a2 a3 a4 a5 a6) := by
  suffices g : zOpQ (fun E => (if E = "java/lang/IndexOutOfBoundsException" then 1 else (if E = "java/lang/IllegalArgumentException" then 2 else (if E = "java/lang/IllegalStateException" then 3 else 0)))) (fun E => E = "java/lang/IndexOutOfBoundsException" ∨ E = "java/lang/IllegalArgumentException" ∨ E = "java/lang/IllegalStateException") (fun x => x) (F_T_sum S a1 a2 a3) (Sf_T_sum S a1 a2 a3) (fun U => F_M_sum U a1 a2 a3) (fun U => Sf_M_sum U a1 a2 a3) (fun F => zWr zWF S F) from g
  have hd4 : d ≤ 400 := h.ok.2.2.2.2
  have hbm := h.bm (zFX.rfl (S := S))
  have hd1 : S 78 1 = zI d := hbm.d
  have e3 := T_isDay_I h.d hd4 a2
  have e4 : ∀ V, V 78 1 = zI d → F_M_isDay V a2 = (if 0 ≤ a2.toInt ∧ a2.toInt ≤ d then 1 else 0) ∧ Sf_M_isDay V a2 := fun V g => M_isDay_I g hd4 a2
  rcases vPer_cases a1 with ⟨p, hp, rfl⟩ | hp
  case inr =>
    obtain ⟨p1, p2⟩ := M_isPerson_I S a1
    rw [if_neg hp] at p1
    refine zOpQ_err (E := "java/lang/IndexOutOfBoundsException") (V := S) (x := 0) (W := z_uS S 78 0 1) ?_ ?_ (Or.inl rfl) (by decide) ?_ ?_ (by rw [uS_at]; rfl) (zWr.slot (by decide) _ _)
    · unfold F_T_sum; rw [T_isPerson_eq, if_neg hp, if_pos rfl]
    · unfold Sf_T_sum; rw [T_isPerson_eq, if_neg hp, if_pos rfl]; trivial
    · show F_M_sum S a1 a2 a3 = _
      unfold F_M_sum F_M_sum_j16 F_M_sum_j46; rw [p1, if_pos rfl, if_neg le_10]
    · show Sf_M_sum S a1 a2 a3
      unfold Sf_M_sum Sf_M_sum_j16 Sf_M_sum_j46; rw [p1, if_pos rfl, if_neg le_10]; exact ⟨p2, trivial⟩
  have hper : ∀ V, F_T_isPerson V (zI p) = 1 := fun V => T_isPerson_I V hp
  by_cases hD : 0 ≤ a2.toInt ∧ a2.toInt ≤ d
  case neg =>
    obtain ⟨p1, p2⟩ := per_M (V := S) hp
    obtain ⟨f1, f2⟩ := e4 S hd1
    rw [if_neg hD] at e3 f1
    refine zOpQ_err (E := "java/lang/IndexOutOfBoundsException") (V := S) (x := 0) (W := z_uS S 78 0 1) ?_ ?_ (Or.inl rfl) (by decide) ?_ ?_ (by rw [uS_at]; rfl) (zWr.slot (by decide) _ _)
    · unfold F_T_sum; rw [hper, if_neg ne_10, e3, if_pos rfl]
    · unfold Sf_T_sum; rw [hper, if_neg ne_10, e3, if_pos rfl]; trivial
    · show F_M_sum S (zI p) a2 a3 = _
      unfold F_M_sum F_M_sum_j16 F_M_sum_j46; rw [p1, if_neg ne_10, f1, if_pos rfl, if_neg le_10]
    · show Sf_M_sum S (zI p) a2 a3
      unfold Sf_M_sum Sf_M_sum_j16 Sf_M_sum_j46; rw [p1, if_neg ne_10, f1, if_pos rfl, if_neg le_10]; exact ⟨p2, f2, trivial⟩
  rw [if_pos hD] at e3
  have le_30 : ¬ (3 : Int32) ≤ 0 := by decide
  have z3 : (3 : Int32).toInt = 3 := rfl
  have z0 : (0 : Int32).toInt = 0 := rfl
  by_cases hf : 0 ≤ a3.toInt ∧ a3.toInt ≤ 3
  case neg =>
    obtain ⟨p1, p2⟩ := per_M (V := S) hp
    obtain ⟨f1, f2⟩ := e4 S hd1
    rw [if_pos hD] at f1
    refine zOpQ_err (E := "java/lang/IllegalArgumentException") (V := S) (x := 0) (W := z_uS S 78 0 2) ?_ ?_ (Or.inr (Or.inl rfl)) (by decide) ?_ ?_ (by rw [uS_at]; rfl) (zWr.slot (by decide) _ _)
    · unfold F_T_sum; rw [hper, if_neg ne_10, e3, if_neg ne_10, T_isAnyField_eq, if_neg hf, if_pos rfl]
    · unfold Sf_T_sum; rw [hper, if_neg ne_10, e3, if_neg ne_10, T_isAnyField_eq, if_neg hf, if_pos rfl]; trivial
    · show F_M_sum S (zI p) a2 a3 = _
      unfold F_M_sum F_M_sum_j46; rw [p1, if_neg ne_10, f1, if_neg ne_10, M_isIn_eq, z0, z3, if_neg hf, if_pos rfl, if_neg le_20]
    · show Sf_M_sum S (zI p) a2 a3
      unfold Sf_M_sum Sf_M_sum_j46; rw [p1, if_neg ne_10, f1, if_neg ne_10, M_isIn_eq, z0, z3, if_neg hf, if_pos rfl, if_neg le_20]; exact ⟨p2, f2, trivial⟩
  have tf : ∀ V, F_T_isAnyField V a3 = 1 := fun V => by rw [T_isAnyField_eq, if_pos hf]
  have mf : ∀ V, F_M_isIn V a3 0 3 = 1 := fun V => by rw [M_isIn_eq, z0, z3, if_pos hf]
  obtain ⟨f, hf4, rfl⟩ := zI_ex (n := 4) hf.1 (by omega) (by omega)
  generalize hr : qTop (zXs S) (kK S p A.1 (qQ S A a2 p (decide (a2 = zI d))) a2) = r
  cases r with
  | inl e =>
    obtain ⟨V, W, x, y, x1, y1, i1, i2, hV, j1, j2, w1, w2⟩ := q_bad h hQ hr
    obtain ⟨p1, p2⟩ := per_M (V := V) hp
    obtain ⟨f1, f2⟩ := e4 V (by rw [hV 78 (by omega) (by omega)]; exact hd1)
    rw [if_pos hD] at f1
    refine zOpQ_err (E := "java/lang/IllegalStateException") (V := V) (x := 0) (W := z_uS W 78 0 3) ?_ ?_ (Or.inr (Or.inr rfl)) (by decide) ?_ ?_ (by rw [uS_at]; rfl) ((w1.trans w2).trans (zWr.slot (by decide) _ _))
    · unfold F_T_sum; rw [hper, if_neg ne_10, e3, if_neg ne_10, tf, if_neg ne_10, i1]; dsimp only; rw [if_neg x1]
    · unfold Sf_T_sum; rw [hper, if_neg ne_10, e3, if_neg ne_10, tf, if_neg ne_10, i1]; dsimp only; rw [if_neg x1]; exact ⟨i2, trivial⟩
    · show F_M_sum V (zI p) a2 (zI f) = _
      unfold F_M_sum F_M_sum_j46; rw [p1, if_neg ne_10, f1, if_neg ne_10, mf, if_neg ne_10, j1]; dsimp only; rw [if_neg y1, if_neg le_30]
    · show Sf_M_sum V (zI p) a2 (zI f)
      unfold Sf_M_sum Sf_M_sum_j46; rw [p1, if_neg ne_10, f1, if_neg ne_10, mf, if_neg ne_10, j1]; dsimp only; rw [if_neg y1, if_neg le_30]; exact ⟨p2, f2, j2, trivial⟩
  | inr z =>
    obtain ⟨q, m⟩ := z
    obtain ⟨V1, V2, x, V3, c1, c2, c3, c4, c5, c6, c7, c8, hV, w1⟩ := q_cls h hQ hp hr
    generalize hw : (qQ S A a2 p (decide (a2 = zI d))).1 = w at *
    obtain ⟨s1, s2⟩ := T_total_I (S := V3) (x := x) (F := zI f) (v := fun i => vVal S w p i f) (P := kFnd S p w m) (fun k hk => c7 k (by omega)) (fun i hi => c8 i f hi hf4)
    generalize hv : sT (kFnd S p w m) (fun i => vVal S w p i f) 30 0 0 = v at *
    obtain ⟨U1, U2, U3, j1, j2, u1, u2, f1, f2, d1, an, t0, t193, w2⟩ := q_ref h hI hQ hp (b := decide (a2 = zI d)) (fun z => of_decide_eq_true z) (hV.trans (zFX.out V3 v)) hr
    rw [hw] at an
    obtain ⟨m1, m2⟩ := M_sum_I (F := zI f) (v := fun i => vVal S w p i f) an.is (fun i hi => an.2.1 i f hi hf4) 30 0 1300 0 rfl (by omega)
    rw [hv] at m1
    have hd2 : U1 78 1 = zI d := d1.trans hd1
    have hd3 : (z_uS V3 193 0 v) 78 1 = zI d := by rw [z_uS_ne _ _ _ (by omega), hV 78 (by omega) (by omega)]; exact hd1
    obtain ⟨p1, p2⟩ := per_M (V := z_uS V3 193 0 v) hp
    obtain ⟨g1, g2⟩ := e4 _ hd3
    rw [if_pos hD] at g1
    have R : F_M_sum_j46 U1 (zI p) a2 (zI f) 0 = (v, U3) ∧ Sf_M_sum_j46 U1 (zI p) a2 (zI f) 0 := by
      unfold F_M_sum_j46 Sf_M_sum_j46 F_M_sum_j74 Sf_M_sum_j74
      rw [if_pos le_00, if_pos le_00, hd2]
      by_cases z : a2 = zI d
      · rw [if_pos z, if_pos z]
        rw [decide_eq_true z] at u1 u2
        simp only [bI, if_true] at u1 u2
        simp only [z_let, u1, f1]
        exact ⟨congrArg (fun y => (y.1, y.2)) m1, u2, f2, m2, trivial⟩
      · rw [if_neg z, if_neg z]
        rw [decide_eq_false z] at u1 u2
        simp only [bI, Bool.false_eq_true, if_false] at u1 u2
        simp only [z_let, u1, f1]
        exact ⟨congrArg (fun y => (y.1, y.2)) m1, u2, f2, m2, trivial⟩
    refine zOpQ_ok (v := v) (V := V3) (W := U3) ?_ ?_ ?_ ?_ t0 (t193.trans (uS_at _ _ _ _)) ((w1.trans (zWr.cell (by decide) _ _ _)).trans w2)
    · unfold F_T_sum; rw [hper, if_neg ne_10, e3, if_neg ne_10, tf, if_neg ne_10, c1]; dsimp only; rw [if_pos rfl]; simp only [z_let, c3, c5, s1]
    · unfold Sf_T_sum; rw [hper, if_neg ne_10, e3, if_neg ne_10, tf, if_neg ne_10, c1]; dsimp only; rw [if_pos rfl]; simp only [z_let, c3]; exact ⟨c2, c4, c6, by rw [c5]; exact ⟨s2, trivial⟩⟩
    · show F_M_sum (z_uS V3 193 0 v) (zI p) a2 (zI f) = _
      unfold F_M_sum; rw [p1, if_neg ne_10, g1, if_neg ne_10, mf, if_neg ne_10, j1]; dsimp only; rw [if_pos rfl]; exact R.1
    · show Sf_M_sum (z_uS V3 193 0 v) (zI p) a2 (zI f)
      unfold Sf_M_sum; rw [p1, if_neg ne_10, g1, if_neg ne_10, mf, if_neg ne_10, j1]; dsimp only; rw [if_pos rfl]; exact ⟨p2, g2, j2, R.2⟩
