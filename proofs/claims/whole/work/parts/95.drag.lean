/-! PURE: drag -/
def rTo (R : Nat → Nat) (i t n : Nat) : Nat → Nat := if rOk R i t n = true then R else rSp R i n
def dR (R : Nat → Nat) (i t n : Nat) (x : Nat) : Nat := if x = i then rMd (rTo R i t n) i t n else rTo R i t n x
theorem rTo_ok {R : Nat → Nat} {i t n : Nat} (ht : t < n) : rOk (rTo R i t n) i t n = true := by
  unfold rTo
  split
  · rename_i q; exact q
  · exact rSp_ok ht
theorem dR_ok {R : Nat → Nat} {i t n : Nat} (hi : i < n) (ht : t < n) (hti : t ≠ i) (hR : ∀ x, x < n → 1 ≤ R x ∧ R x ≤ 1024 * n) (hinj : ∀ x, x < n → ∀ y, y < n → R x = R y → x = y) : (∀ x, x < n → 1 ≤ dR R i t n x ∧ dR R i t n x ≤ 1024 * n) ∧ ∀ x, x < n → ∀ y, y < n → dR R i t n x = dR R i t n y → x = y := by
  have h1 : ∀ x, x < n → 1 ≤ rTo R i t n x ∧ rTo R i t n x ≤ 1024 * n := by
    intro x hx; unfold rTo; split
    · exact hR x hx
    · exact rSp_rng hx
  have h2 : ∀ x, x < n → ∀ y, y < n → x ≠ i → y ≠ i → rTo R i t n x = rTo R i t n y → x = y := by
    intro x hx y hy hxi hyi; unfold rTo; split
    · exact hinj x hx y hy
    · exact rSp_inj hinj hx hy hxi hyi
  have h3 := rTo_ok (R := R) (i := i) ht
  unfold rOk at h3
  obtain ⟨h4, h5⟩ := Bool.and_eq_true_iff.mp h3
  have h4 := of_decide_eq_true h4
  have h5 := of_decide_eq_true h5
  have h6 : ∀ y, y < n → y ≠ i → rTo R i t n y ≠ rMd (rTo R i t n) i t n := by
    intro y hy hyi
    by_cases q : rTo R i t n y < rTo R i t n t
    · have := rLo_ge (R := rTo R i t n) (i := i) (t := t) n y hy hyi q; omega
    · omega
  refine ⟨fun x hx => ?_, fun x hx y hy he => ?_⟩
  · unfold dR; split
    · have := (h1 t ht).2; omega
    · exact h1 x hx
  · unfold dR at he
    by_cases ex : x = i
    · by_cases ey : y = i
      · omega
      · rw [if_pos ex, if_neg ey] at he; exact absurd he.symm (h6 y hy ey)
    · by_cases ey : y = i
      · rw [if_neg ex, if_pos ey] at he; exact absurd he (h6 x hx ex)
      · rw [if_neg ex, if_neg ey] at he; exact h2 x hx y hy ex ey he
theorem rMd_le {R : Nat → Nat} {i t n : Nat} (h : rOk R i t n = true) (ht : R t ≤ 1024 * n) : 1 ≤ rMd R i t n ∧ rMd R i t n ≤ 1024 * n := by
  unfold rOk at h
  obtain ⟨h4, h5⟩ := Bool.and_eq_true_iff.mp h
  have h4 := of_decide_eq_true h4
  have h5 := of_decide_eq_true h5
  omega
theorem T_bring_I {S : Nat → Nat → Int32} {n i t : Nat} {R : Nat → Nat} (hn : n ≤ 30) (hi : i < n) (ht : t < n) (hti : t ≠ i) (h68 : S 68 2 = zI n) (hR : ∀ x, x < n → R x ≤ 1024 * n ∧ S 69 x = zI (R x)) : ∃ V, F_Ranks_bringAhead S (zI i) (zI t) = V ∧ Sf_Ranks_bringAhead S (zI i) (zI t) ∧ (∀ k, k ≠ 69 → k ≠ 70 → V k = S k) ∧ ∀ x, x < n → V 69 x = zI (dR R i t n x) := by
  obtain ⟨m1, m2⟩ := T_mid_I hn hi ht hti h68 (fun x hx _ => hR x hx)
  unfold F_Ranks_bringAhead Sf_Ranks_bringAhead F_Ranks_bringAhead_j15 Sf_Ranks_bringAhead_j15
  rw [m1]
  by_cases q : rOk R i t n = true
  · have hm := rMd_le q (hR t ht).1
    have ne : ¬ zI (rMd R i t n) = -1 := m1_ne _ (by omega)
    rw [if_pos q, if_neg ne, if_neg ne, zPut_I (show i < 30 by omega) (by omega)]
    simp only [z_let]
    refine ⟨_, rfl, ⟨m2, m2, trivial⟩, fun k k1 k2 => z_uS_ne _ _ _ k1, fun x hx => ?_⟩
    unfold dR rTo
    rw [if_pos q]
    by_cases e : x = i
    · rw [e, uS_at, if_pos rfl]
    · rw [uS_nj _ _ _ e, if_neg e]; exact (hR x hx).2
  · rw [if_neg q, if_pos rfl, if_pos rfl]
    obtain ⟨V, v1, v2, v3, v4⟩ := T_spr_I hn hi h68 hR
    have hb : ∀ x, x < n → rSp R i n x ≤ 1024 * n ∧ V 69 x = zI (rSp R i n x) := fun x hx => ⟨(rSp_rng hx).2, v4 x hx⟩
    obtain ⟨n1, n2⟩ := T_mid_I hn hi ht hti (by rw [v3 68 (by omega) (by omega)]; exact h68) (fun x hx _ => hb x hx)
    rw [if_pos (rSp_ok ht)] at n1
    simp only [v1, z_let, n1]
    rw [zPut_I (show i < 30 by omega) (by omega)]
    refine ⟨_, rfl, ⟨m2, v2, n2, trivial⟩, fun k k1 k2 => by rw [z_uS_ne _ _ _ k1]; exact v3 k k1 k2, fun x hx => ?_⟩
    unfold dR rTo
    rw [if_neg q]
    by_cases e : x = i
    · rw [e, uS_at, if_pos rfl]
    · rw [uS_nj _ _ _ e, if_neg e]; exact v4 x hx
theorem M_drag_I {na n i t : Nat} {R : Nat → Nat} {U : Nat → Nat → Int32} (hna : 194 ≤ na) (hn : n ≤ 30) (hi : i < n) (ht : t < n) (hti : t ≠ i) (h86 : U 86 0 = zI n) (hR : ∀ y, y < n → R y ≤ 1024 * n ∧ U 167 y = zI (R y)) : ∃ W, F_M_drag_j50 na U (zI i) (zI t) 0 = (zI (dR R i t n i), W) ∧ Sf_M_drag_j50 na U (zI i) (zI t) 0 ∧ (∀ k, k ≠ 167 → k ≠ na → W k = (z_uS U 78 0 0) k) ∧ ∀ x, x < n → W 167 x = zI (dR R i t n x) := by
  have h86' : (z_uS U 78 0 0) 86 0 = zI n := by rw [z_uS_ne _ _ _ (by omega)]; exact h86
  have hR' : ∀ y, y < n → R y ≤ 1024 * n ∧ (z_uS U 78 0 0) 167 y = zI (R y) := fun y hy => by rw [z_uS_ne _ _ _ (by omega)]; exact hR y hy
  obtain ⟨m1, m2⟩ := M_btw_I hn hi ht hti h86' (fun x hx _ => hR' x hx)
  have vi : vp_in (zI i) 30 := vp_in_I (by omega) (by omega)
  have di : dR R i t n i = rMd (rTo R i t n) i t n := if_pos rfl
  have n0 : ∀ q, 1 ≤ q → q ≤ 1024 * n → ¬ zI q = 0 := fun q h1 h2 => by rw [show (0 : Int32) = zI 0 from rfl, zI_inj (by omega) (by omega)]; omega
  unfold F_M_drag_j50 Sf_M_drag_j50 F_M_drag_j88 Sf_M_drag_j88
  rw [if_pos le_00, if_pos le_00, m1, zI_clamp (show i < 2147483648 by omega)]
  by_cases q : rOk R i t n = true
  · have hm := rMd_le q (hR t ht).1
    have er : rTo R i t n = R := if_pos q
    rw [if_pos q, if_neg (n0 _ hm.1 hm.2), if_neg (n0 _ hm.1 hm.2), di, er]
    refine ⟨_, rfl, ⟨m2, vi, trivial⟩, fun k k1 k2 => z_uS_ne _ _ _ k1, fun x hx => ?_⟩
    by_cases e : x = i
    · rw [e, uS_at, di, er]
    · rw [uS_nj _ _ _ e]; unfold dR; rw [if_neg e, er]; exact (hR' x hx).2
  · have er : rTo R i t n = rSp R i n := if_neg q
    rw [if_neg q, if_pos rfl, if_pos rfl]
    obtain ⟨V, v1, v2, v3, v4⟩ := M_anw_I hna hn hi h86' hR'
    obtain ⟨n1, n2⟩ := M_btw_I (R := rSp R i n) hn hi ht hti (by rw [v3 86 (by omega) (by omega)]; exact h86') (fun x hx hxi => ⟨(rSp_rng hx).2, v4 x hx hxi⟩)
    rw [if_pos (rSp_ok ht)] at n1
    simp only [v1, z_let, n1]
    rw [di, er]
    refine ⟨_, rfl, ⟨m2, v2, n2, vi, trivial⟩, fun k k1 k2 => by rw [z_uS_ne _ _ _ k1]; exact v3 k k1 k2, fun x hx => ?_⟩
    by_cases e : x = i
    · rw [e, uS_at, di, er]
    · rw [uS_nj _ _ _ e]; unfold dR; rw [if_neg e, er]; exact v4 x hx e
def zW23 : List zLoc := [(36, some 8), (36, some 9), (41, none), (42, none), (69, none), (70, none), (78, some 0), (167, none), (193, none)]
theorem o_23 {fl : Nat → Nat} {S : Nat → Nat → Int32} {d : Nat} {A : zA} {rn : Nat} (h : zB0 fl S d A rn) (hK : zRK S (zCnt A.1 A.2.1)) (a1 a2 a3 a4 a5 a6 : Int32) {na : Nat} (hna : 194 ≤ na) : Sl_23 fl na S a1 a2 a3 a4 a5 a6 ∧ ∃ F, (zWr zW23 S F ∧ zRK F (zCnt A.1 A.2.1)) ∧ zNA na F (Fl_23 fl na S a1 a2 a3 a4 a5 a6) := by
  suffices g : zOpQ (fun E => (if E = "java/lang/IndexOutOfBoundsException" then 1 else (if E = "java/lang/IllegalArgumentException" then 2 else (if E = "java/lang/IllegalStateException" then 3 else 0)))) (fun E => E = "java/lang/IndexOutOfBoundsException" ∨ E = "java/lang/IllegalArgumentException" ∨ E = "java/lang/IllegalStateException") (fun x => x) (F_T_drag S a1 a2 a3) (Sf_T_drag S a1 a2 a3) (fun U => F_M_drag na U a1 a2 a3) (fun U => Sf_M_drag na U a1 a2 a3) (fun W => ∃ F, (zWr zW23 S F ∧ zRK F (zCnt A.1 A.2.1)) ∧ zNA na F W) from by
    have eL : F_L_drag S a1 a2 a3 = LQ (fun E => (if E = "java/lang/IndexOutOfBoundsException" then 1 else (if E = "java/lang/IllegalArgumentException" then 2 else (if E = "java/lang/IllegalStateException" then 3 else 0)))) (fun x => x) (F_T_drag S a1 a2 a3) := by
      unfold F_L_drag LQ
      generalize F_T_drag S a1 a2 a3 = t
      obtain ⟨r, s⟩ := t
      cases r <;> exact Eq.refl _
    have eM : ∀ Z : Nat → Nat → Int32, F_M_thrown Z = Z 78 0 := fun Z => Eq.refl _
    unfold Sl_23 Fl_23 Sf_L_drag
    rw [eL, eM]
    unfold zOpQ at g
    dsimp only at g
    generalize F_M_drag na (LQ (fun E => (if E = "java/lang/IndexOutOfBoundsException" then 1 else (if E = "java/lang/IllegalArgumentException" then 2 else (if E = "java/lang/IllegalStateException" then 3 else 0)))) (fun x => x) (F_T_drag S a1 a2 a3)).2 a1 a2 a3 = r at g ⊢
    exact g
  have err : ∀ V, zFL S V → ∀ x, ∃ F, (zWr zW23 S F ∧ zRK F (zCnt A.1 A.2.1)) ∧ zNA na F (z_uS V 78 0 x) := by
    intro V g x
    have w1 : zWr zW33 S (z_uS V 78 0 x) := (g.wr (by decide) (by decide) (by decide) (by decide)).trans (zWr.slot (by decide) _ _)
    exact ⟨z_uS V 78 0 x, ⟨w1.mono (by decide), hK.ag (w1.ag (by decide))⟩, zNA.rfl⟩
  rcases T_head h a1 a2 with ⟨V, hv, hcx, hC, m1, m2⟩ | ⟨p, i, V, hp, hi, rfl, rfl, hsee, hwi, hper, v1, v2, hcx, hC, hst, hCX, hU⟩
  · have hfl : zFL S V := by
      rcases hv with ⟨g, rfl⟩ | ⟨g, v1, v2⟩
      · exact zFL.rfl
      · have hvp : ∃ p, p < 8 ∧ a1 = zI p := by
          rcases vPer_cases a1 with q | q
          · exact q
          · rw [T_isPerson_eq, if_neg q] at g; cases g
        obtain ⟨p, hp, rfl⟩ := hvp
        obtain ⟨V2, l1, l2, l3, l4⟩ := T_headL h hp
        have e : V = V2 := (T_seenL v1).trans l1
        subst e
        exact l3
    refine zOpQ_err (E := "java/lang/IndexOutOfBoundsException") (V := V) (x := 0) (W := z_uS V 78 0 1) ?_ ?_ (Or.inl rfl) (by decide) ?_ ?_ (by rw [uS_at]; rfl) (err V hfl 1)
    · unfold F_T_drag
      rcases hv with ⟨g, rfl⟩ | ⟨g, v1, v2⟩
      · rw [if_pos g]
      · rw [g, v1]; rfl
    · unfold Sf_T_drag
      rcases hv with ⟨g, rfl⟩ | ⟨g, v1, v2⟩
      · rw [if_pos g]; trivial
      · rw [g, v1]; exact ⟨v2, trivial⟩
    · show F_M_drag na V a1 a2 a3 = _
      unfold F_M_drag F_M_drag_j19 F_M_drag_j50
      simp only [m1, if_true, if_neg le_10]
    · show Sf_M_drag na V a1 a2 a3
      unfold Sf_M_drag Sf_M_drag_j19 Sf_M_drag_j50
      simp only [m1, if_true, if_neg le_10]; exact ⟨m2, trivial⟩
  have hfl : zFL S V := by
    obtain ⟨V2, l1, l2, l3, l4⟩ := T_headL h hp
    have e : V = V2 := (T_seenL v1).trans l1
    subst e
    exact l3
  have hbm := h.bm hcx.x
  have hs4 := Sight_sees_I hst a3
  have ss4 := Sf_sees_I V a3
  have hM4 : ∀ U, zBM fl S U d A rn → F_M_isSeen U (zI p) a3 = (if vSeeO S A.2.2 p a3 = true then 1 else 0) ∧ Sf_M_isSeen U (zI p) a3 := by
    intro U hu
    obtain ⟨x1, x2⟩ := M_isSeen_I hu (zI p) a3
    have ep : vPer (zI p) = some p := by unfold vPer; rw [zI_toInt (by omega), if_pos (by omega), zI_clamp (by omega)]
    rw [ep] at x1
    exact ⟨x1, x2⟩
  obtain ⟨n1, n2⟩ := hU V hbm
  obtain ⟨o1, o2⟩ := hM4 V hbm
  by_cases h4 : vSeeO S A.2.2 p a3 = true
  case neg =>
    rw [if_neg h4] at hs4 o1
    refine zOpQ_err (E := "java/lang/IndexOutOfBoundsException") (V := V) (x := 0) (W := z_uS V 78 0 1) ?_ ?_ (Or.inl rfl) (by decide) ?_ ?_ (by rw [uS_at]; rfl) (err V hfl 1)
    · unfold F_T_drag; simp only [hper, v1, if_neg ne_10, hs4, if_true]
    · unfold Sf_T_drag; simp only [hper, v1, if_neg ne_10, hs4, if_true]; exact ⟨v2, ss4, trivial⟩
    · show F_M_drag na V (zI p) (zI i) a3 = _
      unfold F_M_drag F_M_drag_j19 F_M_drag_j50
      simp only [n1, o1, if_neg ne_10, if_true, if_neg le_10]
    · show Sf_M_drag na V (zI p) (zI i) a3
      unfold Sf_M_drag Sf_M_drag_j19 Sf_M_drag_j50
      simp only [n1, o1, if_neg ne_10, if_true, if_neg le_10]; exact ⟨n2, o2, trivial⟩
  obtain ⟨t, ht, rfl, hst4⟩ := vSeeO_cases h4
  have hwt := vSee_there hst4
  rw [if_pos h4] at hs4 o1
  by_cases hit : zI i = zI t
  · refine zOpQ_err (E := "java/lang/IllegalArgumentException") (V := V) (x := 0) (W := z_uS V 78 0 2) ?_ ?_ (Or.inr (Or.inl rfl)) (by decide) ?_ ?_ (by rw [uS_at]; rfl) (err V hfl 2)
    · unfold F_T_drag; simp only [hper, v1, if_neg ne_10, hs4, if_pos hit]
    · unfold Sf_T_drag; simp only [hper, v1, if_neg ne_10, hs4, if_pos hit]; exact ⟨v2, ss4, trivial⟩
    · show F_M_drag na V (zI p) (zI i) (zI t) = _
      unfold F_M_drag F_M_drag_j19 F_M_drag_j50
      simp only [n1, o1, if_neg ne_10, if_pos hit, if_neg le_20]
    · show Sf_M_drag na V (zI p) (zI i) (zI t)
      unfold Sf_M_drag Sf_M_drag_j19 Sf_M_drag_j50
      simp only [n1, o1, if_neg ne_10, if_pos hit, if_neg le_20]; exact ⟨n2, o2, trivial⟩
  have hti : t ≠ i := fun e => hit (by rw [e])
  have hed := Sight_canEdit_I hst hi
  have sed := Sf_canEdit_I V (zI i)
  by_cases hE : vEdit S A.2.2 p i = true
  case neg =>
    rw [if_neg hE] at hed
    obtain ⟨e1, e2⟩ := M_edits_I hbm.y hbm.m.2.1 h.ok.rg hp hi
    rw [if_neg hE] at e1
    refine zOpQ_err (E := "java/lang/IllegalStateException") (V := V) (x := 0) (W := z_uS V 78 0 3) ?_ ?_ (Or.inr (Or.inr rfl)) (by decide) ?_ ?_ (by rw [uS_at]; rfl) (err V hfl 3)
    · unfold F_T_drag; simp only [hper, v1, if_neg ne_10, hs4, if_neg hit, hed, if_true]
    · unfold Sf_T_drag; simp only [hper, v1, if_neg ne_10, hs4, if_neg hit, hed, if_true]; exact ⟨v2, ss4, sed, trivial⟩
    · show F_M_drag na V (zI p) (zI i) (zI t) = _
      unfold F_M_drag F_M_drag_j19 F_M_drag_j50
      simp only [n1, o1, if_neg ne_10, if_neg hit, e1, if_true, if_neg le_30]
    · show Sf_M_drag na V (zI p) (zI i) (zI t)
      unfold Sf_M_drag Sf_M_drag_j19 Sf_M_drag_j50
      simp only [n1, o1, if_neg ne_10, if_neg hit, e1, if_true, if_neg le_30]; exact ⟨n2, o2, e2, trivial⟩
  rw [if_pos hE] at hed
  obtain ⟨h68, R, hR, hinj⟩ := hK
  have hn30 := h.ok.cnt
  have h86 : S 86 0 = zI (zCnt A.1 A.2.1) := h.m.2.2
  have hin : i < zCnt A.1 A.2.1 := by rw [h.ok.there i hi] at hwi; exact of_decide_eq_true hwi
  have htn : t < zCnt A.1 A.2.1 := by rw [h.ok.there t ht] at hwt; exact of_decide_eq_true hwt
  obtain ⟨k1, k2⟩ := dR_ok hin htn hti (fun x hx => (hR x hx).1) hinj
  have v69 : V 69 = S 69 := hfl.1 69 (by omega) (by omega) (by omega)
  obtain ⟨D, d1, d2, d3, d4⟩ := T_bring_I hn30 hin htn hti (R := R) (S := V) (by rw [hfl.1 68 (by omega) (by omega) (by omega)]; exact h68) (fun x hx => ⟨(hR x hx).1.2, by rw [v69]; exact (hR x hx).2.1⟩)
  generalize hv : zI (dR R i t (zCnt A.1 A.2.1) i) = v at *
  have hx : zFX S (z_uS D 193 0 v) := fun k h1 h2 => by rw [z_uS_ne _ _ _ h2, d3 k (by omega) (by omega)]; exact hcx.x k h1 h2
  have hb2 := h.bm hx
  obtain ⟨n1, n2⟩ := hU _ hb2
  obtain ⟨o1, o2⟩ := hM4 _ hb2
  rw [if_pos h4] at o1
  obtain ⟨e1, e2⟩ := M_edits_I hb2.y hb2.m.2.1 h.ok.rg hp hi
  rw [if_pos hE] at e1
  obtain ⟨W, w1, w2, w3, w4⟩ := M_drag_I (U := z_uS D 193 0 v) hna hn30 hin htn hti (R := R) (by rw [hx 86 (by omega) (by omega)]; exact h86) (fun x hx2 => ⟨(hR x hx2).1.2, by rw [hx 167 (by omega) (by omega)]; exact (hR x hx2).2.2⟩)
  rw [hv] at w1
  have w78 : W 78 = (z_uS (z_uS D 193 0 v) 78 0 0) 78 := w3 78 (by omega) (by omega)
  refine zOpQ_ok (V := D) (v := v) (W := W) ?_ ?_ ?_ ?_ (by rw [w78, uS_at]) (by rw [w3 193 (by omega) (by omega), z_uS_ne _ _ _ (by omega), uS_at]) ⟨zBut na (z_uS D 193 0 v) W, ⟨?_, ?_, dR R i t (zCnt A.1 A.2.1), ?_, k2⟩, zBut.na⟩
  · unfold F_T_drag
    simp only [hper, v1, if_neg ne_10, hs4, if_neg hit, hed, d1, z_let, zAt_I (show i < 30 by omega) (show 30 ≤ 2147483648 by omega), d4 i hin, hv]
  · unfold Sf_T_drag
    simp only [hper, v1, if_neg ne_10, hs4, if_neg hit, hed]; exact ⟨v2, ss4, sed, d2, trivial⟩
  · show F_M_drag na (z_uS D 193 0 v) (zI p) (zI i) (zI t) = _
    unfold F_M_drag
    simp only [n1, o1, if_neg ne_10, if_neg hit, e1]; exact w1
  · show Sf_M_drag na (z_uS D 193 0 v) (zI p) (zI i) (zI t)
    unfold Sf_M_drag
    simp only [n1, o1, if_neg ne_10, if_neg hit, e1]; exact ⟨n2, o2, e2, w2⟩
  · have a1 : zWr zW23 S V := hfl.wr (by decide) (by decide) (by decide) (by decide)
    have a2 : zWr zW23 V D := fun k j hc => by rw [d3 k (zCov.ne hc (by decide) (by omega)) (zCov.ne hc (by decide) (by omega))]
    have a3 : zWr zW23 D (z_uS D 193 0 v) := zWr.cell (by decide) _ 0 _
    refine ((a1.trans a2).trans a3).trans fun k j hc => ?_
    unfold zBut
    by_cases e : k = na
    · rw [if_pos e, e]
    · rw [if_neg e, w3 k (zCov.ne hc (by decide) (by omega)) e]
      exact zWr.slot (W := zW23) (by decide) _ _ k j hc
  · unfold zBut
    rw [if_neg (by omega), w3 68 (by omega) (by omega), z_uS_ne _ _ _ (by omega), z_uS_ne _ _ _ (by omega), d3 68 (by omega) (by omega), hfl.1 68 (by omega) (by omega) (by omega)]; exact h68
  · intro x hx2
    refine ⟨k1 x hx2, ?_, ?_⟩
    · unfold zBut
      rw [if_neg (by omega), w3 69 (by omega) (by omega), z_uS_ne _ _ _ (by omega), z_uS_ne _ _ _ (by omega)]; exact d4 x hx2
    · unfold zBut
      rw [if_neg (by omega)]; exact w4 x hx2
