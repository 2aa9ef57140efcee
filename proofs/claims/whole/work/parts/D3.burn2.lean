/-! PURE: burn, both -/
theorem o_34 {fl : Nat → Nat} {S : Nat → Nat → Int32} {d : Nat} {A : zA} {rn : Nat} (h : zB0 fl S d A rn) (hI : zCI S) (hG : zKG2 S) (a1 a2 a3 a4 a5 a6 : Int32) : Sl_34 fl S a1 a2 a3 a4 a5 a6 ∧ zWr zWF S (Fl_34 fl S a1 a2 a3 a4 a5 a6) := by
  suffices g : zOpQ (fun E => (if E = "java/lang/IndexOutOfBoundsException" then 1 else 0)) (fun E => E = "java/lang/IndexOutOfBoundsException") (fun x => x) (F_T_burn S a1 a2 a3) (Sf_T_burn S a1 a2 a3) (fun U => F_M_burn U a1 a2 a3) (fun U => Sf_M_burn U a1 a2 a3) (fun F => zWr zWF S F) from g
  have hd4 : d ≤ 400 := h.ok.2.2.2.2
  have hbm := h.bm (zFX.rfl (S := S))
  have hd1 : S 78 1 = zI d := hbm.d
  have e3 := T_isDay_I h.d hd4 a3
  have e4 : ∀ V, V 78 1 = zI d → F_M_isDay V a3 = (if 0 ≤ a3.toInt ∧ a3.toInt ≤ d then 1 else 0) ∧ Sf_M_isDay V a3 := fun V g => M_isDay_I g hd4 a3
  have z3 : (3 : Int32).toInt = 3 := rfl
  have z0 : (0 : Int32).toInt = 0 := rfl
  rcases vPer_cases a1 with ⟨p, hp, rfl⟩ | hp
  case inr =>
    obtain ⟨p1, p2⟩ := M_isPerson_I S a1
    rw [if_neg hp] at p1
    refine zOpQ_err (E := "java/lang/IndexOutOfBoundsException") (V := S) (x := 0) (W := z_uS S 78 0 1) ?_ ?_ rfl (by decide) ?_ ?_ (by rw [uS_at]; rfl) (zWr.slot (by decide) _ _)
    · unfold F_T_burn; rw [T_isPerson_eq, if_neg hp, if_pos rfl]
    · unfold Sf_T_burn; rw [T_isPerson_eq, if_neg hp, if_pos rfl]; trivial
    · show F_M_burn S a1 a2 a3 = _
      unfold F_M_burn F_M_burn_j29 F_M_burn_j30; rw [p1, if_pos rfl, if_neg le_10]
    · show Sf_M_burn S a1 a2 a3
      unfold Sf_M_burn Sf_M_burn_j29 Sf_M_burn_j30; rw [p1, if_pos rfl, if_neg le_10]; exact ⟨p2, trivial⟩
  have hper : ∀ V, F_T_isPerson V (zI p) = 1 := fun V => T_isPerson_I V hp
  obtain ⟨p1, p2⟩ := per_M (V := S) hp
  by_cases hs : 0 ≤ a2.toInt ∧ a2.toInt < 4
  case neg =>
    have hs' : ¬ (0 ≤ a2.toInt ∧ a2.toInt ≤ 3) := by omega
    refine zOpQ_err (E := "java/lang/IndexOutOfBoundsException") (V := S) (x := 0) (W := z_uS S 78 0 1) ?_ ?_ rfl (by decide) ?_ ?_ (by rw [uS_at]; rfl) (zWr.slot (by decide) _ _)
    · unfold F_T_burn; rw [hper, if_neg ne_10, T_isSprint_eq, if_neg hs, if_pos rfl]
    · unfold Sf_T_burn; rw [hper, if_neg ne_10, T_isSprint_eq, if_neg hs, if_pos rfl]; trivial
    · show F_M_burn S (zI p) a2 a3 = _
      unfold F_M_burn F_M_burn_j29 F_M_burn_j30; rw [p1, if_neg ne_10, M_isIn_eq, z0, z3, if_neg hs', if_pos rfl, if_neg le_10]
    · show Sf_M_burn S (zI p) a2 a3
      unfold Sf_M_burn Sf_M_burn_j29 Sf_M_burn_j30; rw [p1, if_neg ne_10, M_isIn_eq, z0, z3, if_neg hs', if_pos rfl, if_neg le_10]; exact ⟨p2, trivial⟩
  have hsT : ∀ V, F_T_isSprint V a2 = 1 := fun V => by rw [T_isSprint_eq, if_pos hs]
  have hsM : ∀ V, F_M_isIn V a2 0 3 = 1 := fun V => by rw [M_isIn_eq, z0, z3, if_pos (by omega)]
  by_cases hD : 0 ≤ a3.toInt ∧ a3.toInt ≤ d
  case neg =>
    obtain ⟨f1, f2⟩ := e4 S hd1
    rw [if_neg hD] at e3 f1
    refine zOpQ_err (E := "java/lang/IndexOutOfBoundsException") (V := S) (x := 0) (W := z_uS S 78 0 1) ?_ ?_ rfl (by decide) ?_ ?_ (by rw [uS_at]; rfl) (zWr.slot (by decide) _ _)
    · unfold F_T_burn; rw [hper, if_neg ne_10, hsT, if_neg ne_10, e3, if_pos rfl]
    · unfold Sf_T_burn; rw [hper, if_neg ne_10, hsT, if_neg ne_10, e3, if_pos rfl]; trivial
    · show F_M_burn S (zI p) a2 a3 = _
      unfold F_M_burn F_M_burn_j29 F_M_burn_j30; rw [p1, if_neg ne_10, hsM, if_neg ne_10, f1, if_pos rfl, if_neg le_10]
    · show Sf_M_burn S (zI p) a2 a3
      unfold Sf_M_burn Sf_M_burn_j29 Sf_M_burn_j30; rw [p1, if_neg ne_10, hsM, if_neg ne_10, f1, if_pos rfl, if_neg le_10]; exact ⟨p2, f2, trivial⟩
  rw [if_pos hD] at e3
  obtain ⟨s, s4, rfl⟩ := zI_ex (n := 4) hs.1 (by omega) (by omega)
  -- the class
  obtain ⟨V1, r1, r2, r3, r4, r5⟩ := readUpTo_I (S := S) h.vl h.c.1 a3
  obtain ⟨V2, l1, l2, l3, l4⟩ := sight_I h hp (D := a3) (b := false) (W := V1) (fun k a b => r4.1 k (by omega)) r3 r5
  obtain ⟨hv, hst, hE, hk, hg, h5⟩ := l3
  obtain ⟨y, y1, y2, y3⟩ := T_burn_L (E := S) s4 hv.1 hg (hE 49 (by omega)) 30 0 1300 0 rfl (by omega)
  have hvC : zWC 28 V2 (qQ S A a3 p false).1 := hv.1
  generalize hw : (qQ S A a3 p false).1 = w at *
  obtain ⟨t1, t2⟩ := T_total_I (S := V2) (x := y &&& V2 36 8) (F := zI 0) (v := fun i => vVal S w p i 0) (P := fun q => gG S w (zI s) q && vSee S w p q) (fun k hk => by rw [zB_and, y3 k hk, hst.seen hk, zB_0]; simp) (fun i hi => Sight_value_I (r := 28) hE h.k hst hvC hg hi (by omega))
  generalize hans : sT (fun q => gG S w (zI s) q && vSee S w p q) (fun i => vVal S w p i 0) 30 0 0 = v at *
  have hV : zFX S V2 := fun k a b => (l4.1 k (by omega) (by omega) (by omega)).trans (r4.1 k (by omega))
  -- the reference
  have hX := hV.trans (zFX.out V2 v)
  have c0 : ∀ k, 79 ≤ k → k < 186 → z_uS (z_uS V2 193 0 v) 78 0 0 k = S k := fun k a b => (z_uS_ne _ _ _ (by omega)).trans (hX k (by omega) (by omega))
  obtain ⟨U2, u1, u2, u3, u4⟩ := asked_I h hI hp (b := false) (fun z => by cases z) (D := a3) (U := z_uS (z_uS V2 193 0 v) 78 0 0) c0 (by rw [uS_nj _ _ _ (by omega), hX 78 (by omega) (by omega)]) (by rw [uS_nj _ _ _ (by omega), hX 78 (by omega) (by omega)])
  have u1 : F_M_asks (z_uS (z_uS V2 193 0 v) 78 0 0) (zI p) a3 0 = U2 := u1
  have u2 : Sf_M_asks (z_uS (z_uS V2 193 0 v) 78 0 0) (zI p) a3 0 := u2
  obtain ⟨⟨hvM, hvr⟩, hy, hk2, hg2, hcm, _⟩ := u3
  have c2 : ∀ k, 124 ≤ k → k < 186 → U2 k = S k := fun k a b => (u4.1 k (by omega) (by omega) (by omega) (by omega)).trans (c0 k (by omega) b)
  have hwM : zWM 98 U2 w := by rw [← hw]; exact hvM.1
  obtain ⟨m1, m2⟩ := M_burn_L (E := S) (U := U2) (s := s) (v := fun i => vVal S w p i 0) hp hy hwM hg (fun k hk => ⟨by rw [c2 164 (by omega) (by omega)]; exact (h.ck.days k hk).symm, by rw [c2 166 (by omega) (by omega)]; exact (h.ck.goals k hk).symm⟩) hG.2 (fun i hi => M_valueFor_I hy h.k hwM hg hp hi (show 0 < 4 by omega)) 30 0 1300 0 rfl (by omega)
  rw [hans] at m1
  obtain ⟨p3, p4⟩ := per_M (V := z_uS V2 193 0 v) hp
  obtain ⟨g1, g2⟩ := e4 (z_uS V2 193 0 v) (by rw [hX 78 (by omega) (by omega)]; exact hd1)
  rw [if_pos hD] at g1
  refine zOpQ_ok (v := v) (V := V2) (W := U2) ?_ ?_ ?_ ?_ (by rw [u4.2 0 (by omega), uS_at]) (by rw [u4.1 193 (by omega) (by omega) (by omega) (by omega), z_uS_ne _ _ _ (by omega), uS_at]) ((((r4.wr.trans l4.wf).trans (zWr.cell (by decide) _ _ _)).trans (zWr.slot (by decide) _ _)).trans u4.wr)
  · unfold F_T_burn; rw [hper, if_neg ne_10, hsT, if_neg ne_10, e3, if_neg ne_10]; simp only [z_let, r1, l1]
    rw [show F_T_burn_L63 (zI s) 1300 V2 0 0 = (y, V2) from y1]
    dsimp only
    rw [show F_Sight_total 28 V2 (y &&& V2 36 8) 0 = v from t1]
  · unfold Sf_T_burn; rw [hper, if_neg ne_10, hsT, if_neg ne_10, e3, if_neg ne_10]; simp only [z_let, r1, l1]
    rw [show F_T_burn_L63 (zI s) 1300 V2 0 0 = (y, V2) from y1]
    exact ⟨r2, l2, y2, t2, trivial⟩
  · show F_M_burn (z_uS V2 193 0 v) (zI p) (zI s) a3 = _
    unfold F_M_burn F_M_burn_j30; rw [p3, if_neg ne_10, hsM, if_neg ne_10, g1, if_neg ne_10, if_pos le_00]; simp only [z_let, u1]
    exact congrArg (fun y => (y.1, y.2)) m1
  · show Sf_M_burn (z_uS V2 193 0 v) (zI p) (zI s) a3
    unfold Sf_M_burn Sf_M_burn_j30; rw [p3, if_neg ne_10, hsM, if_neg ne_10, g1, if_neg ne_10, if_pos le_00]; simp only [z_let, u1]
    exact ⟨p4, g2, u2, m2, trivial⟩
