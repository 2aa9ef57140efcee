/-! PURE: bulk, both -/
/-- the reference's bulk, once its right to it is known -/
theorem M_bulk_go {fl : Nat → Nat} {S : Nat → Nat → Int32} {d : Nat} {A : zA} {rn m p f q : Nat} {v : Int32} {rf : Nat → Nat} {mm : Nat → Bool} {X : zA} (h : zB0 fl S d A rn) (hI : zCI S) (hQ : zCQ S) (hm : m < 512) (hp : p < 8) (hf : f < 3) (hv0 : -1 ≤ v.toInt) (hv1 : v.toInt ≤ 99) (h2 : S 78 41 = zI m) (h4 : S 180 m = zI (rf m)) (h8 : rf m ≤ 800) (hr : qTop (zXs S) (kK S p A.1 (qQ S A (zI d) p false) (zI d)) = .inr (q, mm)) (hX : aBu d p f v (kFnd S p (qQ S A (zI d) p false).1 mm) (fun k => vCan S A.2.2 p k f) 30 0 A = X) (hBi : zBi d p f A 830 X) {Z : Nat → Nat → Int32} (hZ : zFX S Z) : ∃ U3 U4 U5 ct, F_M_bulk fl Z (zI p) (zI f) v = (if aSt S d p rn A.2.1 X = true then ((100 : Int32) * zI ct + rF (kFnd S p (qQ S A (zI d) p false).1 mm) (fun k => vCan S A.2.2 p k f) 30 0 0, zPushM U5 m (zI p) (zI f) v (zI (rf m + ct))) else (0, z_uS U5 78 0 3)) ∧ Sf_M_bulk fl Z (zI p) (zI f) v ∧ zWr zWF Z U3 ∧ zFMB (rf m) U3 U4 ∧ zFMX U4 U5 ∧ U5 193 0 = Z 193 0 ∧ zRM 86 U5 (aRes S d p rn A.2.1 X) ∧ zBy (rf m) f v A U4 X ct ∧ ct ≤ 30 := by
  have hd4 : d ≤ 400 := h.ok.2.2.2.2
  have hn := h.n
  have hg0 := h.ok.rg
  have hgw := (qVI h (zI d) p false).2.2.2.1
  have hrg := rgC_val (f := f) hf hv0 hv1
  have hbm := h.bm hZ
  have hd1 : S 78 1 = zI d := (h.bm (zFX.rfl (S := S))).d
  obtain ⟨U1, U2, U3, j1, j2, u1, u2, f1, f2, d1, an, t0, t193, w2, d2⟩ := q_refx h hI hQ hp (b := false) (fun z => by cases z) hZ hr
  have u1 : F_M_asks (z_uS U1 78 0 0) (zI p) (zI d) 0 = U2 := u1
  have u2 : Sf_M_asks (z_uS U1 78 0 0) (zI p) (zI d) 0 := u2
  have his := an.2.2
  have o := fun {k : Nat} => zWF_out w2 (k := k)
  obtain ⟨g1, g2, g3, g4, g5⟩ := zWF_78 w2
  have hX3 : zBX fl S U3 d rn := hbm.bx.wf w2
  have hC3 : zRM 86 U3 A := hbm.m.ag (by omega) g2 (fun k hk => o (by omega))
  have hUi : zUi d A 800 A := ⟨h.ok, hn, zNb.rfl⟩
  have hbi : zBi d p f A 800 A := ⟨hUi, zSm.rfl, aBy_0 (Nat.le_refl _)⟩
  have hby0 : zBy (rf m) f v A U3 A 0 := ⟨(Nat.add_zero _).symm, fun j hj => absurd hj (Nat.not_lt_zero _)⟩
  have e2 : U3 78 2 = zI A.2.1 := hC3.1.size
  obtain ⟨U4, ct, l1, l2, l3, l4, l5, l6⟩ := M_bu_L (zI A.2.1) hp hf h8 hrg hg0 hgw 30 0 1300 800 0 U3 A 0 rfl (by omega) (by omega) (Nat.le_refl _) hX3 hC3 hbi his hby0
  rw [hX] at l4 l5
  rw [Nat.add_zero, zI_0] at l1 l2
  obtain ⟨⟨hO, hN, hnb⟩, hsm, hby⟩ := hBi
  have hX1 := l5.1
  obtain ⟨U5, s1, s2, s3, s4⟩ := M_stl (fl := fl) (m := A.2.1) (hX3.mb l3) hp l4 hO (by omega) hnb.1.1 hby
  have hz1 : S 180 m = zI (rf m) := h4
  have e41 : U3 78 41 = zI m := by rw [g4, hZ 78 (by omega) (by omega)]; exact h2
  have e180 : U3 180 m = zI (rf m) := by rw [o (k := 180) (by omega), hZ 180 (by omega) (by omega)]; exact h4
  have x41 : U5 78 41 = zI m := by rw [s3.2 41 (by omega) (by omega), l3.2.1 41 (by omega) (by omega)]; exact e41
  have x180 : U5 180 m = zI (rf m) := by rw [s3.1 180 (by omega), l3.1 180 (by omega)]; exact e180
  have m193 : U5 193 0 = Z 193 0 := by rw [s3.1 193 (by omega), l3.1 193 (by omega)]; exact t193
  obtain ⟨p1, p2⟩ := per_M (V := Z) hp
  have is1 : F_M_isIn Z (zI f) 0 2 = 1 := by
    rw [M_isIn_eq, if_pos]
    rw [zI_toInt (by omega)]
    exact ⟨by show (0 : Int) ≤ f; omega, by show (f : Int) ≤ 2; omega⟩
  have is2 : F_M_isIn Z v (-1) 99 = 1 := by
    rw [M_isIn_eq, if_pos]
    exact ⟨hv0, hv1⟩
  have le_30 : ¬ (3 : Int32) ≤ 0 := by decide
  have U1d : U1 78 1 = zI d := d1.trans hd1
  have U2d : U2 78 1 = zI d := d2.trans hd1
  have esub : zI (rf m + ct) - zI (rf m) = zI ct := by rw [zI_sub (by omega) (by omega), Nat.add_sub_cancel_left]
  refine ⟨U3, U4, U5, ct, ?_, ?_, w2, l3, s3, m193, s4, l5, l6⟩
  · unfold F_M_bulk F_M_bulk_j24
    rw [is1, if_neg ne_10, is2, if_neg ne_10, p1, if_neg ne_10, if_neg ne_10, j1]
    dsimp only
    rw [if_pos rfl]
    unfold F_M_bulk_j60
    rw [if_pos le_00, U1d]
    simp only [z_let, u1, U2d, f1, e2, e41, zI_clamp (show m < 2147483648 by omega), e180, l1, s1]
    cases q : aSt S d p rn A.2.1 X
    · simp only [Bool.false_eq_true, if_false, if_true]
      unfold F_M_bulk_j288
      rw [if_neg le_30]
    · simp only [if_true, if_neg ne_10]
      unfold F_M_bulk_j288 zPushM
      rw [if_pos le_00, x41, zI_succ, zI_clamp (show m < 2147483648 by omega), zI_clamp (show m + 1 < 2147483648 by omega), x180, esub]
  · unfold Sf_M_bulk Sf_M_bulk_j24
    rw [is1, if_neg ne_10, is2, if_neg ne_10, p1, if_neg ne_10, if_neg ne_10, j1]
    refine ⟨p2, j2, ?_⟩
    dsimp only
    rw [if_pos rfl]
    unfold Sf_M_bulk_j60
    rw [if_pos le_00, U1d]
    simp only [z_let, u1, U2d, f1, e2, e41, zI_clamp (show m < 2147483648 by omega), e180, l1, s1]
    refine ⟨u2, f2, vp_in_I (by omega) (by omega), l2, s2, ?_⟩
    cases q : aSt S d p rn A.2.1 X
    · simp only [Bool.false_eq_true, if_false, if_true]
      unfold Sf_M_bulk_j288
      rw [if_neg le_30]; trivial
    · simp only [if_true, if_neg ne_10]
      unfold Sf_M_bulk_j288
      rw [if_pos le_00, x41, zI_succ]
      exact ⟨vp_in_I (by omega) (by omega), vp_in_I (by omega) (by omega), vp_in_I (by omega) (by omega), vp_in_I (by omega) (by omega), vp_in_I (by omega) (by omega), trivial⟩
