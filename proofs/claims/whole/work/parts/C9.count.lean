/-! PURE: count, found, sum -/
theorem zI_ne_m1 {e : Nat} (h : e ≤ 30) : ¬ zI e = -1 := fun z => by
  have := congrArg Int32.toInt z
  rw [zI_toInt (by omega)] at this
  have e1 : (-1 : Int32).toInt = -1 := by decide
  omega
theorem zFq.fx {S V : Nat → Nat → Int32} (h : zFq 0 0 S V) : zFX S V := fun k a b => h.1 k (by omega) (by omega)
theorem zAns.is {S U : Nat → Nat → Int32} {p : Nat} {w : zWd} {m : Nat → Bool} (h : zAns S U p w m) : zIsF U (zI p) (kFnd S p w m) := h.1
/-- the text is wrong: the class, then the reference -/
theorem q_bad {fl : Nat → Nat} {S : Nat → Nat → Int32} {d : Nat} {A : zA} {rn : Nat} (_ : zB0 fl S d A rn) (hQ : zCQ S) {p : Nat} {D : Int32} {b : Bool} {e : Nat} (hr : qTop (zXs S) (kK S p A.1 (qQ S A D p b) D) = .inl e) : ∃ V W x y, x ≠ -1 ∧ y ≠ -1 ∧ F_Query_compile S = (x, V) ∧ Sf_Query_compile S ∧ zFX S V ∧ F_M_reads_0 V = (y, W) ∧ Sf_M_reads_0 V ∧ zWr zWF S V ∧ zWr zWF V W := by
  have I := T_compile_I hQ.t (kK S p A.1 (qQ S A D p b) D)
  rw [hr] at I
  obtain ⟨V, i1, i2, i3, i4⟩ := I
  have hX : (zXs S).2 ≤ 30 := hQ.t.2.2
  have hm : zTm (zXs S) V := hQ.m.cg (by rw [i3.fx 78 (by omega) (by omega)]) (i3.fx 185 (by omega) (by omega))
  have J := M_reads_I hm (kK_M S p A.1 (qQ S A D p b) D)
  rw [hr] at J
  obtain ⟨W, j1, j2, j3, j4⟩ := J
  exact ⟨V, W, zI e, zI e, zI_ne_m1 (by omega), zI_ne_m1 (by omega), i1, i2, i3.fx, j1, j2, zWQ.f i3.wr, zWQ.f j3.wr⟩
theorem per_M {V : Nat → Nat → Int32} {p : Nat} (hp : p < 8) : F_M_isPerson V (zI p) = 1 ∧ Sf_M_isPerson V (zI p) := by
  obtain ⟨a, b⟩ := M_isPerson_I V (zI p)
  rw [zI_toInt (by omega), if_pos (by omega)] at a
  exact ⟨a, b⟩
theorem o_27 {fl : Nat → Nat} {S : Nat → Nat → Int32} {d : Nat} {A : zA} {rn : Nat} (h : zB0 fl S d A rn) (hI : zCI S) (hQ : zCQ S) (a1 a2 a3 a4 a5 a6 : Int32) : Sl_27 fl S a1 a2 a3 a4 a5 a6 ∧ zWr zWF S (Fl_27 fl S a1 a2 a3 a4 a5 a6) := by
  suffices g : zOpQ (fun E => (if E = "java/lang/IndexOutOfBoundsException" then 1 else (if E = "java/lang/IllegalStateException" then 2 else 0))) (fun E => E = "java/lang/IndexOutOfBoundsException" ∨ E = "java/lang/IllegalStateException") (fun x => x) (F_T_count S a1 a2) (Sf_T_count S a1 a2) (fun U => F_M_count U a1 a2) (fun U => Sf_M_count U a1 a2) (fun F => zWr zWF S F) from g
  have hd4 : d ≤ 400 := h.ok.2.2.2.2
  have hbm := h.bm (zFX.rfl (S := S))
  have hd1 : S 78 1 = zI d := hbm.d
  have e3 := T_isDay_I h.d hd4 a2
  have e4 : ∀ V, V 78 1 = zI d → F_M_isDay V a2 = (if 0 ≤ a2.toInt ∧ a2.toInt ≤ d then 1 else 0) ∧ Sf_M_isDay V a2 := fun V g => M_isDay_I g hd4 a2
  rcases vPer_cases a1 with ⟨p, hp, rfl⟩ | hp
  case inr =>
    obtain ⟨p1, p2⟩ := M_isPerson_I S a1
    rw [if_neg hp] at p1
    refine zOpQ_err (E := "java/lang/IndexOutOfBoundsException") (V := S) (x := 0) (W := z_uS S 78 0 1) ?_ ?_ (Or.inl rfl) (by decide) ?_ ?_ (by rw [uS_at]; rfl) (zWr.slot (by decide) _ _)
    · unfold F_T_count; rw [T_isPerson_eq, if_neg hp, if_pos rfl]
    · unfold Sf_T_count; rw [T_isPerson_eq, if_neg hp, if_pos rfl]; trivial
    · show F_M_count S a1 a2 = _
      unfold F_M_count F_M_count_j16 F_M_count_j33; rw [p1, if_pos rfl, if_neg le_10]
    · show Sf_M_count S a1 a2
      unfold Sf_M_count Sf_M_count_j16 Sf_M_count_j33; rw [p1, if_pos rfl, if_neg le_10]; exact ⟨p2, trivial⟩
  have hper : ∀ V, F_T_isPerson V (zI p) = 1 := fun V => T_isPerson_I V hp
  by_cases hD : 0 ≤ a2.toInt ∧ a2.toInt ≤ d
  case neg =>
    obtain ⟨p1, p2⟩ := per_M (V := S) hp
    obtain ⟨f1, f2⟩ := e4 S hd1
    rw [if_neg hD] at e3 f1
    refine zOpQ_err (E := "java/lang/IndexOutOfBoundsException") (V := S) (x := 0) (W := z_uS S 78 0 1) ?_ ?_ (Or.inl rfl) (by decide) ?_ ?_ (by rw [uS_at]; rfl) (zWr.slot (by decide) _ _)
    · unfold F_T_count; rw [hper, if_neg ne_10, e3, if_pos rfl]
    · unfold Sf_T_count; rw [hper, if_neg ne_10, e3, if_pos rfl]; trivial
    · show F_M_count S (zI p) a2 = _
      unfold F_M_count F_M_count_j16 F_M_count_j33; rw [p1, if_neg ne_10, f1, if_pos rfl, if_neg le_10]
    · show Sf_M_count S (zI p) a2
      unfold Sf_M_count Sf_M_count_j16 Sf_M_count_j33; rw [p1, if_neg ne_10, f1, if_pos rfl, if_neg le_10]; exact ⟨p2, f2, trivial⟩
  rw [if_pos hD] at e3
  generalize hr : qTop (zXs S) (kK S p A.1 (qQ S A a2 p (decide (a2 = zI d))) a2) = r
  cases r with
  | inl e =>
    obtain ⟨V, W, x, y, x1, y1, i1, i2, hV, j1, j2, w1, w2⟩ := q_bad h hQ hr
    obtain ⟨p1, p2⟩ := per_M (V := V) hp
    obtain ⟨f1, f2⟩ := e4 V (by rw [hV 78 (by omega) (by omega)]; exact hd1)
    rw [if_pos hD] at f1
    refine zOpQ_err (E := "java/lang/IllegalStateException") (V := V) (x := 0) (W := z_uS W 78 0 2) ?_ ?_ (Or.inr rfl) (by decide) ?_ ?_ (by rw [uS_at]; rfl) ((w1.trans w2).trans (zWr.slot (by decide) _ _))
    · unfold F_T_count; rw [hper, if_neg ne_10, e3, if_neg ne_10, i1]; dsimp only; rw [if_neg x1]
    · unfold Sf_T_count; rw [hper, if_neg ne_10, e3, if_neg ne_10, i1]; dsimp only; rw [if_neg x1]; exact ⟨i2, trivial⟩
    · show F_M_count V (zI p) a2 = _
      unfold F_M_count F_M_count_j33; rw [p1, if_neg ne_10, f1, if_neg ne_10, j1]; dsimp only; rw [if_neg y1, if_neg le_20]
    · show Sf_M_count V (zI p) a2
      unfold Sf_M_count Sf_M_count_j33; rw [p1, if_neg ne_10, f1, if_neg ne_10, j1]; dsimp only; rw [if_neg y1, if_neg le_20]; exact ⟨p2, f2, j2, trivial⟩
  | inr z =>
    obtain ⟨q, m⟩ := z
    obtain ⟨V1, V2, x, V3, c1, c2, c3, c4, c5, c6, c7, c8, hV, w1⟩ := q_cls h hQ hp hr
    generalize hw : (qQ S A a2 p (decide (a2 = zI d))).1 = w at *
    have hcnt : F_bitCount x = zI (cN (kFnd S p w m) 30) := by
      have g30 : ∀ k, 30 ≤ k → kFnd S p w m k = false := fun k hk => by unfold kFnd; rw [decide_eq_false (by omega)]; simp
      rw [bitCount_I, cN_congr 32 (fun j hj => c7 j hj), cN_30 g30]
    generalize hv : zI (cN (kFnd S p w m) 30) = v at *
    obtain ⟨U1, U2, U3, j1, j2, u1, u2, f1, f2, d1, an, t0, t193, w2⟩ := q_ref h hI hQ hp (b := decide (a2 = zI d)) (fun z => of_decide_eq_true z) (hV.trans (zFX.out V3 v)) hr
    rw [hw] at an
    obtain ⟨m1, m2⟩ := M_count_I an.is 30 0 1300 rfl (by omega)
    rw [hv] at m1
    have hd2 : U1 78 1 = zI d := d1.trans hd1
    have hd3 : (z_uS V3 193 0 v) 78 1 = zI d := by rw [z_uS_ne _ _ _ (by omega), hV 78 (by omega) (by omega)]; exact hd1
    obtain ⟨p1, p2⟩ := per_M (V := z_uS V3 193 0 v) hp
    obtain ⟨g1, g2⟩ := e4 _ hd3
    rw [if_pos hD] at g1
    have R : F_M_count_j33 U1 (zI p) a2 0 = (v, U3) ∧ Sf_M_count_j33 U1 (zI p) a2 0 := by
      unfold F_M_count_j33 Sf_M_count_j33 F_M_count_j61 Sf_M_count_j61
      rw [if_pos le_00, if_pos le_00, hd2]
      by_cases z : a2 = zI d
      · rw [if_pos z, if_pos z]
        rw [decide_eq_true z] at u1 u2
        simp only [bI, if_true] at u1 u2
        simp only [z_let, u1, f1]
        exact ⟨by rw [show (0 : Int32) = zI (cN (kFnd S p w m) 0) from rfl]; exact congrArg (fun y => (y.1, y.2)) m1, u2, f2, m2, trivial⟩
      · rw [if_neg z, if_neg z]
        rw [decide_eq_false z] at u1 u2
        simp only [bI, Bool.false_eq_true, if_false] at u1 u2
        simp only [z_let, u1, f1]
        exact ⟨congrArg (fun y => (y.1, y.2)) m1, u2, f2, m2, trivial⟩
    refine zOpQ_ok (v := v) (V := V3) (W := U3) ?_ ?_ ?_ ?_ t0 (t193.trans (uS_at _ _ _ _)) ((w1.trans (zWr.cell (by decide) _ _ _)).trans w2)
    · unfold F_T_count; rw [hper, if_neg ne_10, e3, if_neg ne_10, c1]; dsimp only; rw [if_pos rfl]; simp only [z_let, c3, c5, hcnt]
    · unfold Sf_T_count; rw [hper, if_neg ne_10, e3, if_neg ne_10, c1]; dsimp only; rw [if_pos rfl]; simp only [z_let, c3]; exact ⟨c2, c4, c6, trivial⟩
    · show F_M_count (z_uS V3 193 0 v) (zI p) a2 = _
      unfold F_M_count; rw [p1, if_neg ne_10, g1, if_neg ne_10, j1]; dsimp only; rw [if_pos rfl]; exact R.1
    · show Sf_M_count (z_uS V3 193 0 v) (zI p) a2
      unfold Sf_M_count; rw [p1, if_neg ne_10, g1, if_neg ne_10, j1]; dsimp only; rw [if_pos rfl]; exact ⟨p2, g2, j2, R.2⟩
