/-! PURE: queries: the reference's leaves -/
theorem zMl.mono {X : zTx} {K M : zKm} {U : Nat → Nat → Int32} {p r : Nat} {c : Int32} {F F' : Int32 × (Nat → Nat → Int32)} {s s' : Prop} (h : zMl X K M U p r c F s) (e : F' = F) (hs : s → s') : zMl X K M U p r c F' s' := by
  refine ⟨fun x hx => ?_, fun q a b d g hx => ?_⟩
  · obtain ⟨V, h1, h2, h3⟩ := h.1 x hx
    exact ⟨V, e.trans h1, hs h2, h3⟩
  · obtain ⟨V, h1, h2, h3⟩ := h.2 q a b d g hx
    exact ⟨V, e.trans h1, hs h2, h3⟩
/-- one number read into the node -/
theorem zMq.p {X : zTx} {U : Nat → Nat → Int32} {p q r : Nat} (h : zMq X U p r) (hq : q ≤ X.2) (hp : p ≤ q) : zMq X (mP U q) q r := ⟨h.1.p hq, by unfold mP; rw [uS_nj _ _ _ (by omega)]; exact h.2.1, by unfold mP; rw [uS_nj _ _ _ (by omega)]; exact h.2.2.1, by have := h.2.2.2; omega⟩
theorem zMq.n {X : zTx} {U : Nat → Nat → Int32} {p r k j : Nat} {v : Int32} (h : zMq X U p r) (hk : 186 ≤ k) : zMq X (z_uS U k j v) p r := ⟨h.1.n hk, by rw [z_uS_ne _ _ _ (by omega)]; exact h.2.1, by rw [z_uS_ne _ _ _ (by omega)]; exact h.2.2.1, h.2.2.2⟩
theorem mleaf_sm {X : zTx} {K M : zKm} {U S : Nat → Nat → Int32} {p r : Nat} {c : Int32} (hK : zKl K M) (hQ : zMq X S (p + 1) (r + 1)) (hF : zFm r U S) (hk : S 186 r = c) (h30 : p < 30) (hrp : r ≤ p) (k : isSm c = true) :
    zMl X K M U p r c (match F_M_digit S 9 with | (r69, S69) => (zI r, z_uS S69 187 (zI r).toNatClampNeg r69)) (Sf_M_digit S 9 ∧ (match F_M_digit S 9 with | (r69, S69) => (vp_in (zI r) 31 ∧ True))) := by
  obtain ⟨d1, d2⟩ := M_digit_I hQ.1 hQ.2.1 9
  have vr : vp_in (zI r) 31 := vp_in_I (by omega) (by omega)
  have cr : (zI r).toNatClampNeg = r := zI_clamp (by omega)
  unfold zMl lfS
  rw [if_pos k, cr]
  by_cases q : isD X 9 (p + 1) = true
  · rw [if_pos q] at d1 ⊢
    refine ⟨(fun e he => by cases he), fun q' a b d g he => ?_⟩
    cases he
    simp only [d1]
    refine ⟨_, rfl, ⟨d2, vr, trivial⟩, (hQ.p (isD_lt q) (by omega)).n (by omega), (hF.tf (by omega) _).ts (by omega) (Nat.le_refl _) _, ?_, ?_, fun e => ?_⟩
    · rw [z_uS_ne _ _ _ (by omega)]; unfold mP; rw [z_uS_ne _ _ _ (by omega)]; exact hk
    · rw [uS_at]; exact hK.1 c _ _ _ k
    · rw [e] at k; exact absurd k (by decide)
  · rw [if_neg q] at d1 ⊢
    refine ⟨fun e he => ?_, (fun q' a b d g he => by cases he)⟩
    cases he
    simp only [d1]
    refine ⟨_, rfl, ⟨d2, vr, trivial⟩, ?_, ⟨p + 1, (hQ.1.e _).n (by omega)⟩, (hF.tf (by omega) _).ts (by omega) (Nat.le_refl _) _⟩
    rw [z_uS_ne _ _ _ (by omega)]; exact uS_at _ _ _ _
theorem mleaf_a {X : zTx} {K M : zKm} {U S : Nat → Nat → Int32} {p r : Nat} {rq : (Nat → Nat → Int32) → Int32 × (Nat → Nat → Int32)} {sq : (Nat → Nat → Int32) → Prop} (hK : zKl K M) (hQ : zMq X S (p + 1) (r + 1)) (hF : zFm r U S) (hk : S 186 r = 97) (h30 : p < 30) (hrp : r ≤ p) :
    zMl X K M U p r 97 (if F_M_sign S = 120 then F_M_query_j96 rq S (zI r) 1 else F_M_query_j96 rq S (zI r) 0) (Sf_M_sign S ∧ (if F_M_sign S = 120 then Sf_M_query_j96 rq sq S (zI r) 1 else Sf_M_query_j96 rq sq S (zI r) 0)) := by
  obtain ⟨s1, s2⟩ := M_sign_I hQ.1
  have vr : vp_in (zI r) 31 := vp_in_I (by omega) (by omega)
  have cr : (zI r).toNatClampNeg = r := zI_clamp (by omega)
  have e52 : S 78 52 = zI (p + 1) := hQ.1.2.1
  have z0 : z_uS S 78 52 (S 78 52 + 0) = S := by rw [show S 78 52 + 0 = S 78 52 from Int32.add_zero _, z_uS_same]
  unfold zMl lfS
  rw [if_neg (show ¬ isSm 97 = true by decide), if_pos rfl, s1]
  unfold F_M_query_j96 Sf_M_query_j96 F_M_query_j111 Sf_M_query_j111 F_M_query_j134 Sf_M_query_j134
  by_cases q0 : sgn X (p + 1) = 120
  · simp only [if_pos q0, if_neg ne_10, cr]
    refine ⟨(fun e he => by cases he), fun q' a b d g he => ?_⟩
    cases he
    rw [e52, zI_succ]
    refine ⟨_, rfl, ⟨s2, vr, trivial⟩, (hQ.p (sgn_lt q0 (by decide)) (by omega)).n (by omega), (hF.tf (by omega) _).ts (by omega) (Nat.le_refl _) _, ?_, ?_, fun e => absurd e (by decide)⟩
    · rw [z_uS_ne _ _ _ (by omega), z_uS_ne _ _ _ (by omega)]; exact hk
    · rw [uS_at]; exact hK.2.1 _ _
  · obtain ⟨d1, d2⟩ := M_digit_I hQ.1 hQ.2.1 9
    simp only [if_neg q0, if_true, z0, cr]
    by_cases q : isD X 9 (p + 1) = true
    · rw [if_pos q] at d1 ⊢
      refine ⟨(fun e he => by cases he), fun q' a b d g he => ?_⟩
      cases he
      simp only [d1]
      refine ⟨_, rfl, ⟨s2, d2, vr, trivial⟩, (hQ.p (isD_lt q) (by omega)).n (by omega), (hF.tf (by omega) _).ts (by omega) (Nat.le_refl _) _, ?_, ?_, fun e => absurd e (by decide)⟩
      · rw [z_uS_ne _ _ _ (by omega)]; unfold mP; rw [z_uS_ne _ _ _ (by omega)]; exact hk
      · rw [uS_at]; exact hK.2.2.1 _ _ _
    · rw [if_neg q] at d1 ⊢
      refine ⟨fun e he => ?_, (fun q' a b d g he => by cases he)⟩
      cases he
      simp only [d1]
      refine ⟨_, rfl, ⟨s2, d2, vr, trivial⟩, ?_, ⟨p + 1, (hQ.1.e _).n (by omega)⟩, (hF.tf (by omega) _).ts (by omega) (Nat.le_refl _) _⟩
      rw [z_uS_ne _ _ _ (by omega)]; exact uS_at _ _ _ _
theorem mE_w (U : Nat → Nat → Int32) {e : Nat} (h : e ≤ 30) : mE U e 78 53 ≠ -1 := by
  unfold mE; rw [uS_at]; exact mE_ne h
theorem mleaf_X {X : zTx} {K M : zKm} {U S : Nat → Nat → Int32} {p r : Nat} (hK : zKl K M) (hQ : zMq X S (p + 1) (r + 1)) (hF : zFm r U S) (hk : S 186 r = 88) (h30 : p < 30) (hrp : r ≤ p) (hp : p + 1 ≤ X.2) :
    zMl X K M U p r 88 (match F_M_digit S 9 with | (r185, S185) => (match F_M_digit (z_uS S185 187 (zI r).toNatClampNeg r185) 9 with | (r197, S197) => (zI r, z_uS S197 188 (zI r).toNatClampNeg r197)))
      (Sf_M_digit S 9 ∧ (match F_M_digit S 9 with | (r185, S185) => (vp_in (zI r) 31 ∧ (Sf_M_digit (z_uS S185 187 (zI r).toNatClampNeg r185) 9 ∧ (match F_M_digit (z_uS S185 187 (zI r).toNatClampNeg r185) 9 with | (r197, S197) => (vp_in (zI r) 31 ∧ True)))))) := by
  obtain ⟨d1, d2⟩ := M_digit_I hQ.1 hQ.2.1 9
  have hX := hQ.1.2.2.2.1
  have vr : vp_in (zI r) 31 := vp_in_I (by omega) (by omega)
  have cr : (zI r).toNatClampNeg = r := zI_clamp (by omega)
  unfold zMl lfS
  rw [if_neg (show ¬ isSm 88 = true by decide), if_neg (show ¬ (88 : Int32) = 97 by decide), if_neg (show ¬ (88 : Int32) = 102 by decide), cr]
  by_cases q : isD X 9 (p + 1) = true
  · rw [if_pos q] at d1 ⊢
    have h2 : zMq X (z_uS (mP S (p + 1 + 1)) 187 r (dv X (p + 1))) (p + 1 + 1) (r + 1) := (hQ.p (isD_lt q) (by omega)).n (by omega)
    obtain ⟨e1, e2⟩ := M_digit_I h2.1 h2.2.1 9
    simp only [d1]
    have hF2 : zFm r U (z_uS (mP S (p + 1 + 1)) 187 r (dv X (p + 1))) := (hF.tf (by omega) _).ts (by omega) (Nat.le_refl _) _
    by_cases q2 : isD X 9 (p + 1 + 1) = true
    · rw [if_pos q2] at e1 ⊢
      refine ⟨(fun e he => by cases he), fun q' a b d g he => ?_⟩
      cases he
      simp only [e1]
      refine ⟨_, rfl, ⟨d2, vr, e2, vr, trivial⟩, (h2.p (isD_lt q2) (by omega)).n (by omega), (hF2.tf (by omega) _).ts (by omega) (Nat.le_refl _) _, ?_, ?_, fun e => absurd e (by decide)⟩
      · rw [z_uS_ne _ _ _ (by omega)]; unfold mP; rw [z_uS_ne _ _ _ (by omega), z_uS_ne _ _ _ (by omega), z_uS_ne _ _ _ (by omega)]; exact hk
      · rw [uS_at, z_uS_ne _ _ _ (by omega)]; unfold mP; rw [z_uS_ne _ _ _ (by omega), uS_at]; exact hK.2.2.2.1 _ _ _
    · rw [if_neg q2] at e1 ⊢
      refine ⟨fun e he => ?_, (fun q' a b d g he => by cases he)⟩
      cases he
      simp only [e1]
      refine ⟨_, rfl, ⟨d2, vr, e2, vr, trivial⟩, ?_, ⟨p + 1 + 1, (h2.1.e _).n (by omega)⟩, (hF2.tf (by omega) _).ts (by omega) (Nat.le_refl _) _⟩
      rw [z_uS_ne _ _ _ (by omega)]; exact uS_at _ _ _ _
  · rw [if_neg q] at d1 ⊢
    refine ⟨fun e he => ?_, (fun q' a b d g he => by cases he)⟩
    cases he
    simp only [d1]
    have h2 : zMs X (z_uS (mE S (p + 1)) 187 r 0) (p + 1) := (hQ.1.e _).n (by omega)
    have w2 : (z_uS (mE S (p + 1)) 187 r 0) 78 53 ≠ -1 := by rw [z_uS_ne _ _ _ (by omega)]; exact mE_w S (by omega)
    obtain ⟨e1, e2⟩ := M_digit_E h2 w2 9
    simp only [e1]
    refine ⟨_, rfl, ⟨d2, vr, e2, vr, trivial⟩, ?_, ⟨p + 1, h2.n (by omega)⟩, ((hF.tf (by omega) _).ts (by omega) (Nat.le_refl _) _).ts (by omega) (Nat.le_refl _) _⟩
    rw [z_uS_ne _ _ _ (by omega), z_uS_ne _ _ _ (by omega)]; exact uS_at _ _ _ _
theorem mleaf_D {X : zTx} {K M : zKm} {U S : Nat → Nat → Int32} {p r : Nat} (hK : zKl K M) (hQ : zMq X S (p + 1) (r + 1)) (hF : zFm r U S) (hk : S 186 r = 68) (h30 : p < 30) (hrp : r ≤ p) (hp : p + 1 ≤ X.2) :
    zMl X K M U p r 68 (match F_M_digit S 9 with | (r220, S220) => (match F_M_digit (z_uS S220 187 (zI r).toNatClampNeg ((10 : Int32) * r220)) 9 with | (r235, S235) => (zI r, z_uS S235 187 (zI r).toNatClampNeg (((z_uS S220 187 (zI r).toNatClampNeg ((10 : Int32) * r220)) 187 (zI r).toNatClampNeg) + r235))))
      (Sf_M_digit S 9 ∧ (match F_M_digit S 9 with | (r220, S220) => (vp_in (zI r) 31 ∧ (vp_in (zI r) 31 ∧ (Sf_M_digit (z_uS S220 187 (zI r).toNatClampNeg ((10 : Int32) * r220)) 9 ∧ (match F_M_digit (z_uS S220 187 (zI r).toNatClampNeg ((10 : Int32) * r220)) 9 with | (r235, S235) => (vp_in (zI r) 31 ∧ True))))))) := by
  obtain ⟨d1, d2⟩ := M_digit_I hQ.1 hQ.2.1 9
  have hX := hQ.1.2.2.2.1
  have vr : vp_in (zI r) 31 := vp_in_I (by omega) (by omega)
  have cr : (zI r).toNatClampNeg = r := zI_clamp (by omega)
  unfold zMl lfS
  rw [if_neg (show ¬ isSm 68 = true by decide), if_neg (show ¬ (68 : Int32) = 97 by decide), if_neg (show ¬ (68 : Int32) = 102 by decide), cr]
  by_cases q : isD X 9 (p + 1) = true
  · rw [if_pos q] at d1 ⊢
    have h2 : zMq X (z_uS (mP S (p + 1 + 1)) 187 r (10 * dv X (p + 1))) (p + 1 + 1) (r + 1) := (hQ.p (isD_lt q) (by omega)).n (by omega)
    obtain ⟨e1, e2⟩ := M_digit_I h2.1 h2.2.1 9
    simp only [d1]
    have hF2 : zFm r U (z_uS (mP S (p + 1 + 1)) 187 r (10 * dv X (p + 1))) := (hF.tf (by omega) _).ts (by omega) (Nat.le_refl _) _
    by_cases q2 : isD X 9 (p + 1 + 1) = true
    · rw [if_pos q2] at e1 ⊢
      refine ⟨(fun e he => by cases he), fun q' a b d g he => ?_⟩
      cases he
      simp only [e1]
      refine ⟨_, rfl, ⟨d2, vr, vr, e2, vr, trivial⟩, (h2.p (isD_lt q2) (by omega)).n (by omega), (hF2.tf (by omega) _).ts (by omega) (Nat.le_refl _) _, ?_, ?_, fun e => absurd e (by decide)⟩
      · rw [z_uS_ne _ _ _ (by omega)]; unfold mP; rw [z_uS_ne _ _ _ (by omega), z_uS_ne _ _ _ (by omega), z_uS_ne _ _ _ (by omega)]; exact hk
      · rw [uS_at, uS_at]; exact hK.2.2.2.2.1 _ _ _ _
    · rw [if_neg q2] at e1 ⊢
      refine ⟨fun e he => ?_, (fun q' a b d g he => by cases he)⟩
      cases he
      simp only [e1]
      refine ⟨_, rfl, ⟨d2, vr, vr, e2, vr, trivial⟩, ?_, ⟨p + 1 + 1, (h2.1.e _).n (by omega)⟩, (hF2.tf (by omega) _).ts (by omega) (Nat.le_refl _) _⟩
      rw [z_uS_ne _ _ _ (by omega)]; exact uS_at _ _ _ _
  · rw [if_neg q] at d1 ⊢
    refine ⟨fun e he => ?_, (fun q' a b d g he => by cases he)⟩
    cases he
    simp only [d1]
    have h2 : zMs X (z_uS (mE S (p + 1)) 187 r (10 * 0)) (p + 1) := (hQ.1.e _).n (by omega)
    have w2 : (z_uS (mE S (p + 1)) 187 r (10 * 0)) 78 53 ≠ -1 := by rw [z_uS_ne _ _ _ (by omega)]; exact mE_w S (by omega)
    obtain ⟨e1, e2⟩ := M_digit_E h2 w2 9
    simp only [e1]
    refine ⟨_, rfl, ⟨d2, vr, vr, e2, vr, trivial⟩, ?_, ⟨p + 1, h2.n (by omega)⟩, ((hF.tf (by omega) _).ts (by omega) (Nat.le_refl _) _).ts (by omega) (Nat.le_refl _) _⟩
    rw [z_uS_ne _ _ _ (by omega), z_uS_ne _ _ _ (by omega)]; exact uS_at _ _ _ _
