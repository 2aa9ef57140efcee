/-! PURE: found -/
theorem o_28 {fl : Nat → Nat} {S : Nat → Nat → Int32} {d : Nat} {A : zA} {rn : Nat} (h : zB0 fl S d A rn) (hI : zCI S) (hQ : zCQ S) (a1 a2 a3 a4 a5 a6 : Int32) : Sl_28 fl S a1 a2 a3 a4 a5 a6 ∧ zWr zWF S (Fl_28 fl S a1 a2 a3 a4 a5 a6) := by
  suffices g : zOpQ (fun E => (if E = "java/lang/IndexOutOfBoundsException" then 1 else (if E = "java/lang/IllegalStateException" then 2 else 0))) (fun E => E = "java/lang/IndexOutOfBoundsException" ∨ E = "java/lang/IllegalStateException") (fun x => x) (F_T_found S a1 a2 a3) (Sf_T_found S a1 a2 a3) (fun U => F_M_found U a1 a2 a3) (fun U => Sf_M_found U a1 a2 a3) (fun F => zWr zWF S F) from g
  have hd4 : d ≤ 400 := h.ok.2.2.2.2
  have hbm := h.bm (zFX.rfl (S := S))
  have hd1 : S 78 1 = zI d := hbm.d
  have e3 := T_isDay_I h.d hd4 a2
  have e4 : ∀ V, V 78 1 = zI d → F_M_isDay V a2 = (if 0 ≤ a2.toInt ∧ a2.toInt ≤ d then 1 else 0) ∧ Sf_M_isDay V a2 := fun V g => M_isDay_I g hd4 a2
  rcases vPer_cases a1 with ⟨p, hp, rfl⟩ | hp
  case inr =>
    obtain ⟨p1, p2⟩ := M_isPerson_I S a1
    rw [if_neg hp] at p1
    refine zOpQ_err (E := "java/lang/IndexOutOfBoundsException") (V := S) (x := 0) (W := z_uS S 78 0 1) ?_ ?_ (Or.inl rfl) (by decide) ?_ ?_ (by rw [uS_at]; rfl) (zWr.slot (by decide) _ _)
    · unfold F_T_found; rw [T_isPerson_eq, if_neg hp, if_pos rfl]
    · unfold Sf_T_found; rw [T_isPerson_eq, if_neg hp, if_pos rfl]; trivial
    · show F_M_found S a1 a2 a3 = _
      unfold F_M_found F_M_found_j16 F_M_found_j33; rw [p1, if_pos rfl, if_neg le_10]
    · show Sf_M_found S a1 a2 a3
      unfold Sf_M_found Sf_M_found_j16 Sf_M_found_j33; rw [p1, if_pos rfl, if_neg le_10]; exact ⟨p2, trivial⟩
  have hper : ∀ V, F_T_isPerson V (zI p) = 1 := fun V => T_isPerson_I V hp
  by_cases hD : 0 ≤ a2.toInt ∧ a2.toInt ≤ d
  case neg =>
    obtain ⟨p1, p2⟩ := per_M (V := S) hp
    obtain ⟨f1, f2⟩ := e4 S hd1
    rw [if_neg hD] at e3 f1
    refine zOpQ_err (E := "java/lang/IndexOutOfBoundsException") (V := S) (x := 0) (W := z_uS S 78 0 1) ?_ ?_ (Or.inl rfl) (by decide) ?_ ?_ (by rw [uS_at]; rfl) (zWr.slot (by decide) _ _)
    · unfold F_T_found; rw [hper, if_neg ne_10, e3, if_pos rfl]
    · unfold Sf_T_found; rw [hper, if_neg ne_10, e3, if_pos rfl]; trivial
    · show F_M_found S (zI p) a2 a3 = _
      unfold F_M_found F_M_found_j16 F_M_found_j33; rw [p1, if_neg ne_10, f1, if_pos rfl, if_neg le_10]
    · show Sf_M_found S (zI p) a2 a3
      unfold Sf_M_found Sf_M_found_j16 Sf_M_found_j33; rw [p1, if_neg ne_10, f1, if_pos rfl, if_neg le_10]; exact ⟨p2, f2, trivial⟩
  rw [if_pos hD] at e3
  generalize hr : qTop (zXs S) (kK S p A.1 (qQ S A a2 p (decide (a2 = zI d))) a2) = r
  cases r with
  | inl e =>
    obtain ⟨V, W, x, y, x1, y1, i1, i2, hV, j1, j2, w1, w2⟩ := q_bad h hQ hr
    obtain ⟨p1, p2⟩ := per_M (V := V) hp
    obtain ⟨f1, f2⟩ := e4 V (by rw [hV 78 (by omega) (by omega)]; exact hd1)
    rw [if_pos hD] at f1
    refine zOpQ_err (E := "java/lang/IllegalStateException") (V := V) (x := 0) (W := z_uS W 78 0 2) ?_ ?_ (Or.inr rfl) (by decide) ?_ ?_ (by rw [uS_at]; rfl) ((w1.trans w2).trans (zWr.slot (by decide) _ _))
    · unfold F_T_found; rw [hper, if_neg ne_10, e3, if_neg ne_10, i1]; dsimp only; rw [if_neg x1]
    · unfold Sf_T_found; rw [hper, if_neg ne_10, e3, if_neg ne_10, i1]; dsimp only; rw [if_neg x1]; exact ⟨i2, trivial⟩
    · show F_M_found V (zI p) a2 a3 = _
      unfold F_M_found F_M_found_j33; rw [p1, if_neg ne_10, f1, if_neg ne_10, j1]; dsimp only; rw [if_neg y1, if_neg le_20]
    · show Sf_M_found V (zI p) a2 a3
      unfold Sf_M_found Sf_M_found_j33; rw [p1, if_neg ne_10, f1, if_neg ne_10, j1]; dsimp only; rw [if_neg y1, if_neg le_20]; exact ⟨p2, f2, j2, trivial⟩
  | inr z =>
    obtain ⟨q, m⟩ := z
    obtain ⟨V1, V2, x, V3, c1, c2, c3, c4, c5, c6, c7, c8, hV, w1⟩ := q_cls h hQ hp hr
    generalize hw : (qQ S A a2 p (decide (a2 = zI d))).1 = w at *
    have hcnt : F_bitCount x = zI (cN (kFnd S p w m) 30) := by
      have g30 : ∀ k, 30 ≤ k → kFnd S p w m k = false := fun k hk => by unfold kFnd; rw [decide_eq_false (by omega)]; simp
      rw [bitCount_I, cN_congr 32 (fun j hj => c7 j hj), cN_30 g30]
    have hle := cN_le (kFnd S p w m) 30
    have hd3 : ∀ v, (z_uS V3 193 0 v) 78 1 = zI d := fun v => by rw [z_uS_ne _ _ _ (by omega), hV 78 (by omega) (by omega)]; exact hd1
    by_cases ht : 0 ≤ a3.toInt ∧ a3.toInt < (cN (kFnd S p w m) 30 : Nat)
    case pos =>
      obtain ⟨t, t1, rfl⟩ := zI_ex (n := cN (kFnd S p w m) 30) ht.1 ht.2 (by omega)
      obtain ⟨i, i30, iP, it⟩ := cN_nth 30 t1
      have n1 : ¬ zI t < 0 := by rw [T_lt, zI_toInt (by omega)]; exact fun z => absurd z (by show ¬ ((t : Int) < 0); omega)
      have n2 : ¬ F_bitCount x ≤ zI t := by rw [hcnt, zI_le (by omega) (by omega)]; omega
      obtain ⟨k1, k2⟩ := T_found_I (S := V3) (x := x) (fun k hk => c7 k (by omega)) i30 iP i 0 1300 (by omega) (by omega)
      rw [it] at k1 k2
      obtain ⟨U1, U2, U3, j1, j2, u1, u2, f1, f2, d1, an, t0, t193, w2⟩ := q_ref h hI hQ hp (b := decide (a2 = zI d)) (fun z => of_decide_eq_true z) (hV.trans (zFX.out V3 (zI i))) hr
      rw [hw] at an
      obtain ⟨m1, m2⟩ := M_found_some (y := -1) an.is i30 iP i 0 1300 (by omega) (by omega)
      rw [it] at m1 m2
      have hd2 : U1 78 1 = zI d := d1.trans hd1
      obtain ⟨p1, p2⟩ := per_M (V := z_uS V3 193 0 (zI i)) hp
      obtain ⟨g1, g2⟩ := e4 _ (hd3 (zI i))
      rw [if_pos hD] at g1
      have ni : ¬ zI i = -1 := zI_ne_m1 (by omega)
      have R : F_M_found_j33 U1 (zI p) a2 (zI t) 0 = (zI i, z_uS U3 78 0 0) ∧ Sf_M_found_j33 U1 (zI p) a2 (zI t) 0 := by
        unfold F_M_found_j33 Sf_M_found_j33 F_M_found_j61 Sf_M_found_j61 F_M_found_j148
        rw [if_pos le_00, if_pos le_00, hd2]
        by_cases z : a2 = zI d
        · rw [if_pos z, if_pos z]
          rw [decide_eq_true z] at u1 u2
          simp only [bI, if_true] at u1 u2
          simp only [z_let, u1, f1]
          refine ⟨?_, u2, f2, m2, trivial⟩
          rw [show F_M_found_L79 (zI p) (zI t) 1300 U3 0 (-1) 0 = (zI i, U3) from m1]
          dsimp only
          rw [if_neg ni, if_pos le_00]
        · rw [if_neg z, if_neg z]
          rw [decide_eq_false z] at u1 u2
          simp only [bI, Bool.false_eq_true, if_false] at u1 u2
          simp only [z_let, u1, f1]
          refine ⟨?_, u2, f2, m2, trivial⟩
          rw [show F_M_found_L79 (zI p) (zI t) 1300 U3 0 (-1) 0 = (zI i, U3) from m1]
          dsimp only
          rw [if_neg ni, if_pos le_00]
      refine zOpQ_ok (v := zI i) (V := V3) (W := z_uS U3 78 0 0) ?_ ?_ ?_ ?_ (uS_at _ _ _ _) (by rw [z_uS_ne _ _ _ (by omega)]; exact t193.trans (uS_at _ _ _ _)) (((w1.trans (zWr.cell (by decide) _ _ _)).trans w2).trans (zWr.slot (by decide) _ _))
      · unfold F_T_found; rw [hper, if_neg ne_10, e3, if_neg ne_10, c1]; dsimp only; rw [if_pos rfl]; simp only [z_let, c3, c5, if_neg n1, if_neg n2]
        rw [show F_T_found_L84 (zI t) x 1300 V3 0 0 = .inr (.inr (zI i), V3) from k1]
      · unfold Sf_T_found; rw [hper, if_neg ne_10, e3, if_neg ne_10, c1]; dsimp only; rw [if_pos rfl]; simp only [z_let, c3, c5, if_neg n1, if_neg n2]; exact ⟨c2, c4, c6, k2, trivial⟩
      · show F_M_found (z_uS V3 193 0 (zI i)) (zI p) a2 (zI t) = _
        unfold F_M_found; rw [p1, if_neg ne_10, g1, if_neg ne_10, j1]; dsimp only; rw [if_pos rfl]; exact R.1
      · show Sf_M_found (z_uS V3 193 0 (zI i)) (zI p) a2 (zI t)
        unfold Sf_M_found; rw [p1, if_neg ne_10, g1, if_neg ne_10, j1]; dsimp only; rw [if_pos rfl]; exact ⟨p2, g2, j2, R.2⟩
    case neg =>
      obtain ⟨U1, U2, U3, j1, j2, u1, u2, f1, f2, d1, an, t0, t193, w2⟩ := q_ref h hI hQ hp (b := decide (a2 = zI d)) (fun z => of_decide_eq_true z) hV hr
      rw [hw] at an
      obtain ⟨m1, m2⟩ := M_found_none (t := a3) (y := -1) an.is 30 0 1300 rfl (by omega) (fun j a b e z => by
        have l1 := cN_at e (show j < 30 by omega)
        rw [← z, zI_toInt (by omega)] at ht
        exact ht ⟨by omega, by omega⟩)
      have hd2 : U1 78 1 = zI d := d1.trans hd1
      obtain ⟨p1, p2⟩ := per_M (V := V3) hp
      obtain ⟨g1, g2⟩ := e4 V3 (by rw [hV 78 (by omega) (by omega)]; exact hd1)
      rw [if_pos hD] at g1
      have R : F_M_found_j33 U1 (zI p) a2 a3 0 = (0, z_uS U3 78 0 1) ∧ Sf_M_found_j33 U1 (zI p) a2 a3 0 := by
        unfold F_M_found_j33 Sf_M_found_j33 F_M_found_j61 Sf_M_found_j61 F_M_found_j148
        rw [if_pos le_00, if_pos le_00, hd2]
        by_cases z : a2 = zI d
        · rw [if_pos z, if_pos z]
          rw [decide_eq_true z] at u1 u2
          simp only [bI, if_true] at u1 u2
          simp only [z_let, u1, f1]
          refine ⟨?_, u2, f2, m2, trivial⟩
          rw [show F_M_found_L79 (zI p) a3 1300 U3 0 (-1) 0 = (-1, U3) from m1]
          dsimp only
          rw [if_pos rfl, if_neg le_10]
        · rw [if_neg z, if_neg z]
          rw [decide_eq_false z] at u1 u2
          simp only [bI, Bool.false_eq_true, if_false] at u1 u2
          simp only [z_let, u1, f1]
          refine ⟨?_, u2, f2, m2, trivial⟩
          rw [show F_M_found_L79 (zI p) a3 1300 U3 0 (-1) 0 = (-1, U3) from m1]
          dsimp only
          rw [if_pos rfl, if_neg le_10]
      have out : a3 < 0 ∨ F_bitCount x ≤ a3 := by
        by_cases z : a3 < 0
        · exact Or.inl z
        · right
          have z0 : (0 : Int32).toInt = 0 := rfl
          rw [T_lt, z0] at z
          rw [hcnt, T_le, zI_toInt (by omega)]
          omega
      refine zOpQ_err (E := "java/lang/IndexOutOfBoundsException") (V := V3) (x := 0) (W := z_uS U3 78 0 1) ?_ ?_ (Or.inl rfl) (by decide) ?_ ?_ (by rw [uS_at]; rfl) ((w1.trans w2).trans (zWr.slot (by decide) _ _))
      · unfold F_T_found; rw [hper, if_neg ne_10, e3, if_neg ne_10, c1]; dsimp only; rw [if_pos rfl]; simp only [z_let, c3, c5]
        by_cases z : a3 < 0
        · rw [if_pos z]
        · rw [if_neg z, if_pos (out.resolve_left z)]
      · unfold Sf_T_found; rw [hper, if_neg ne_10, e3, if_neg ne_10, c1]; dsimp only; rw [if_pos rfl]; simp only [z_let, c3, c5]
        refine ⟨c2, c4, c6, ?_⟩
        by_cases z : a3 < 0
        · rw [if_pos z]; trivial
        · rw [if_neg z, if_pos (out.resolve_left z)]; trivial
      · show F_M_found V3 (zI p) a2 a3 = _
        unfold F_M_found; rw [p1, if_neg ne_10, g1, if_neg ne_10, j1]; dsimp only; rw [if_pos rfl]; exact R.1
      · show Sf_M_found V3 (zI p) a2 a3
        unfold Sf_M_found; rw [p1, if_neg ne_10, g1, if_neg ne_10, j1]; dsimp only; rw [if_pos rfl]; exact ⟨p2, g2, j2, R.2⟩
