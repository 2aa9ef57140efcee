/-! PURE: queries: the reference's comparing leaf, and all leaves -/
theorem mleaf_f {X : zTx} {K M : zKm} {U S : Nat → Nat → Int32} {p r : Nat} (hK : zKl K M) (hQ : zMq X S (p + 1) (r + 1)) (hF : zFm r U S) (hk : S 186 r = 102) (h30 : p < 30) (hrp : r ≤ p) :
    zMl X K M U p r 102 (match F_M_digit S 3 with | (r151, S151) => (if (S151 78 53) = (-1) then (z_let (F_M_compares (z_uS S151 187 (zI r).toNatClampNeg r151) (zI r)) (fun S165 => (zI r, S165))) else (zI r, (z_uS S151 187 (zI r).toNatClampNeg r151))))
      (Sf_M_digit S 3 ∧ (match F_M_digit S 3 with | (r151, S151) => (vp_in (zI r) 31 ∧ (if (S151 78 53) = (-1) then (Sf_M_compares (z_uS S151 187 (zI r).toNatClampNeg r151) (zI r) ∧ True) else True)))) := by
  obtain ⟨d1, d2⟩ := M_digit_I hQ.1 hQ.2.1 3
  have hX := hQ.1.2.2.2.1
  have vr : vp_in (zI r) 31 := vp_in_I (by omega) (by omega)
  have cr : (zI r).toNatClampNeg = r := zI_clamp (by omega)
  unfold zMl lfS
  rw [if_neg (show ¬ isSm 102 = true by decide), if_neg (show ¬ (102 : Int32) = 97 by decide), if_pos rfl, cr]
  by_cases q : isD X 3 (p + 1) = true
  case neg =>
    rw [if_neg q] at d1 ⊢
    refine ⟨fun e he => ?_, (fun q' a b d g he => by cases he)⟩
    cases he
    have w2 : ¬ (mE S (p + 1)) 78 53 = -1 := mE_w S (by have := hQ.1.2.2.2.2; omega)
    simp only [d1, if_neg w2]
    refine ⟨_, rfl, ⟨d2, vr, trivial⟩, ?_, ⟨p + 1, (hQ.1.e _).n (by omega)⟩, (hF.tf (by omega) _).ts (by omega) (Nat.le_refl _) _⟩
    rw [z_uS_ne _ _ _ (by omega)]; exact uS_at _ _ _ _
  rw [if_pos q] at d1 ⊢
  generalize hA : z_uS (mP S (p + 1 + 1)) 187 r (dv X (p + 1)) = A
  have hQA : zMq X A (p + 2) (r + 1) := by rw [← hA]; exact (hQ.p (isD_lt q) (by omega)).n (by omega)
  have hFA : zFm r U A := by rw [← hA]; exact (hF.tf (by omega) _).ts (by omega) (Nat.le_refl _) _
  have A186 : A 186 r = 102 := by rw [← hA, z_uS_ne _ _ _ (by omega)]; unfold mP; rw [z_uS_ne _ _ _ (by omega)]; exact hk
  have A187 : A 187 r = dv X (p + 1) := by rw [← hA, uS_at]
  have w1 : (mP S (p + 1 + 1)) 78 53 = -1 := (hQ.p (isD_lt q) (by omega)).2.1
  have hfld := isD_ex (n := 4) q (by decide)
  simp only [d1, if_pos w1, hA, z_let]
  obtain ⟨s1, s2⟩ := M_sign_I hQA.1
  have hXA : p + 2 ≤ X.2 := hQA.1.2.2.2.2
  -- with a sign that may stand there
  have good : ∀ x, sgn X (p + 2) = x → (x = 120 ∨ x = 62 ∨ x = 60 ∨ x = 61) → F_M_compares A (zI r) = F_M_compares_j29 A (zI r) x ∧ (Sf_M_compares_j29 A (zI r) x → Sf_M_compares A (zI r)) := by
    intro x hx hs
    unfold F_M_compares Sf_M_compares
    rw [s1, hx]
    rcases hs with e | e | e | e <;> subst e <;> simp (decide := true) only [if_true, if_false] <;> exact ⟨trivial, fun z => ⟨s2, z⟩⟩
  by_cases q0 : sgn X (p + 1 + 1) = 120
  · rw [if_pos q0]
    obtain ⟨g1, g2⟩ := good 120 q0 (Or.inl rfl)
    refine ⟨(fun e he => by cases he), fun q' a b d g he => ?_⟩
    cases he
    have hl : p + 2 < X.2 := sgn_lt (show sgn X (p + 2) = 120 from q0) (by decide)
    unfold F_M_compares_j29 F_M_compares_j46 F_M_compares_j77 at g1
    unfold Sf_M_compares_j29 Sf_M_compares_j46 Sf_M_compares_j77 at g2
    rw [hQA.1.2.1, zI_succ, cr] at g1 g2
    simp only [if_true] at g1 g2
    rw [uS_at, show (0 : Int32) + 0 = 0 from rfl] at g1
    rw [g1]
    have hQ3 : zMq X (z_uS A 78 52 (zI (p + 2 + 1))) (p + 2 + 1) (r + 1) := hQA.p (by omega) (by omega)
    refine ⟨_, rfl, ⟨d2, vr, g2 ⟨vr, vr, vr, vr, trivial⟩, trivial⟩, ((hQ3.n (by omega)).n (by omega)).n (by omega), (((hFA.tf (by omega) _).ts (by omega) (Nat.le_refl _) _).ts (by omega) (Nat.le_refl _) _).ts (by omega) (Nat.le_refl _) _, ?_, ?_, fun _ => ?_⟩
    · rw [z_uS_ne _ _ _ (by omega), z_uS_ne _ _ _ (by omega), z_uS_ne _ _ _ (by omega), z_uS_ne _ _ _ (by omega)]; exact A186
    · rw [uS_at]
      rw [z_uS_ne _ _ _ (show 187 ≠ 188 by omega), z_uS_ne _ _ _ (show 187 ≠ 188 by omega), z_uS_ne _ _ _ (show 187 ≠ 189 by omega), z_uS_ne _ _ _ (show 187 ≠ 78 by omega), A187, z_uS_ne _ _ _ (show 189 ≠ 188 by omega), z_uS_ne _ _ _ (show 189 ≠ 188 by omega), uS_at]
      exact hK.2.2.2.2.2.1 _ _ _
    · refine ⟨?_, Or.inl ?_⟩
      · rw [z_uS_ne _ _ _ (show 187 ≠ 188 by omega), z_uS_ne _ _ _ (show 187 ≠ 188 by omega), z_uS_ne _ _ _ (show 187 ≠ 189 by omega), z_uS_ne _ _ _ (show 187 ≠ 78 by omega), A187]; exact hfld
      · rw [z_uS_ne _ _ _ (show 189 ≠ 188 by omega), z_uS_ne _ _ _ (show 189 ≠ 188 by omega), uS_at]
  rw [if_neg q0]
  have q0' : ¬ sgn X (p + 2) = 120 := q0
  by_cases q1 : sgn X (p + 1 + 1) = 60 ∨ sgn X (p + 1 + 1) = 61 ∨ sgn X (p + 1 + 1) = 62
  case neg =>
    have q1' : ¬ (sgn X (p + 2) = 60 ∨ sgn X (p + 2) = 61 ∨ sgn X (p + 2) = 62) := q1
    rw [if_neg q1]
    refine ⟨fun e he => ?_, (fun q' a b d g he => by cases he)⟩
    cases he
    generalize hx : sgn X (p + 2) = x at *
    have hB : F_M_fails A = mE A (p + 2) := M_fails_I hQA.1 hQA.2.1
    have h3 : zMs X (z_uS (mE A (p + 2)) 189 r x) (p + 2) := (hQA.1.e _).n (by omega)
    have w3 : (z_uS (mE A (p + 2)) 189 r x) 78 53 ≠ -1 := by rw [z_uS_ne _ _ _ (by omega)]; exact mE_w A (by omega)
    obtain ⟨e1, e2⟩ := M_digit_E h3 w3 9
    have h4 : zMs X (z_uS (z_uS (mE A (p + 2)) 189 r x) 188 r (10 * 0)) (p + 2) := h3.n (by omega)
    have w4 : (z_uS (z_uS (mE A (p + 2)) 189 r x) 188 r (10 * 0)) 78 53 ≠ -1 := by rw [z_uS_ne _ _ _ (by omega)]; exact w3
    obtain ⟨f1, f2⟩ := M_digit_E h4 w4 9
    have n1 : ¬ x = 62 := fun z => q1' (Or.inr (Or.inr z))
    have n2 : ¬ x = 60 := fun z => q1' (Or.inl z)
    have n3 : ¬ x = 61 := fun z => q1' (Or.inr (Or.inl z))
    have g1 : F_M_compares A (zI r) = z_uS (z_uS (z_uS (mE A (p + 2)) 189 r x) 188 r (10 * 0)) 188 r ((z_uS (z_uS (mE A (p + 2)) 189 r x) 188 r (10 * 0)) 188 r + 0) := by
      unfold F_M_compares F_M_compares_j77
      rw [s1]
      simp only [if_neg q0', if_neg n1, if_neg n2, if_neg n3, z_let, hB, cr, e1, f1]
    have g2 : Sf_M_compares A (zI r) := by
      unfold Sf_M_compares Sf_M_compares_j77
      rw [s1]
      simp only [if_neg q0', if_neg n1, if_neg n2, if_neg n3, z_let, hB, cr, e1, f1]
      exact ⟨s2, vr, e2, vr, vr, f2, vr, trivial⟩
    rw [g1]
    refine ⟨_, rfl, ⟨d2, vr, g2, trivial⟩, ?_, ⟨p + 2, h4.n (by omega)⟩, (((hFA.tf (by omega) _).ts (by omega) (Nat.le_refl _) _).ts (by omega) (Nat.le_refl _) _).ts (by omega) (Nat.le_refl _) _⟩
    rw [z_uS_ne _ _ _ (by omega), z_uS_ne _ _ _ (by omega), z_uS_ne _ _ _ (by omega)]; exact uS_at _ _ _ _
  have q1' : sgn X (p + 2) = 60 ∨ sgn X (p + 2) = 61 ∨ sgn X (p + 2) = 62 := q1
  rw [if_pos q1]
  generalize hx : sgn X (p + 1 + 1) = x
  have hx2 : sgn X (p + 2) = x := hx
  rw [hx2] at q1' q0'
  have hx0 : x ≠ 0 := by rcases q1' with e | e | e <;> rw [e] <;> decide
  have hl : p + 2 < X.2 := sgn_lt hx2 hx0
  obtain ⟨g1, g2⟩ := good x hx2 (by rcases q1' with e | e | e <;> rw [e] <;> decide)
  unfold F_M_compares_j29 F_M_compares_j46 F_M_compares_j77 at g1
  unfold Sf_M_compares_j29 Sf_M_compares_j46 Sf_M_compares_j77 at g2
  rw [hQA.1.2.1, zI_succ, cr] at g1 g2
  simp only [if_neg q0'] at g1 g2
  generalize hB : z_uS (z_uS A 78 52 (zI (p + 2 + 1))) 189 r x = B at g1 g2
  have hQB : zMq X B (p + 3) (r + 1) := by rw [← hB]; exact (hQA.p (q := p + 2 + 1) (by omega) (by omega)).n (by omega)
  have hFB : zFm r U B := by rw [← hB]; exact (hFA.tf (by omega) _).ts (by omega) (Nat.le_refl _) _
  have B186 : B 186 r = 102 := by rw [← hB, z_uS_ne _ _ _ (by omega), z_uS_ne _ _ _ (by omega)]; exact A186
  have B187 : B 187 r = dv X (p + 1) := by rw [← hB, z_uS_ne _ _ _ (by omega), z_uS_ne _ _ _ (by omega)]; exact A187
  have B189 : B 189 r = x := by rw [← hB, uS_at]
  obtain ⟨e1, e2⟩ := M_digit_I hQB.1 hQB.2.1 9
  by_cases q3 : isD X 9 (p + 1 + 2) = true
  case neg =>
    have q3' : ¬ isD X 9 (p + 3) = true := q3
    rw [if_neg q3]
    rw [if_neg q3'] at e1
    refine ⟨fun e he => ?_, (fun q' a b d g he => by cases he)⟩
    cases he
    have h4 : zMs X (z_uS (mE B (p + 3)) 188 r (10 * 0)) (p + 3) := (hQB.1.e _).n (by omega)
    have w4 : (z_uS (mE B (p + 3)) 188 r (10 * 0)) 78 53 ≠ -1 := by rw [z_uS_ne _ _ _ (by omega)]; exact mE_w B (by omega)
    obtain ⟨f1, f2⟩ := M_digit_E h4 w4 9
    simp only [e1, f1] at g1 g2
    rw [g1]
    refine ⟨_, rfl, ⟨d2, vr, g2 ⟨vr, e2, vr, vr, f2, vr, trivial⟩, trivial⟩, ?_, ⟨p + 3, h4.n (by omega)⟩, ((hFB.tf (by omega) _).ts (by omega) (Nat.le_refl _) _).ts (by omega) (Nat.le_refl _) _⟩
    rw [z_uS_ne _ _ _ (by omega), z_uS_ne _ _ _ (by omega)]; exact uS_at _ _ _ _
  have q3' : isD X 9 (p + 3) = true := q3
  rw [if_pos q3]
  rw [if_pos q3'] at e1
  simp only [e1] at g1 g2
  generalize hC : z_uS (mP B (p + 3 + 1)) 188 r (10 * dv X (p + 3)) = C at g1 g2
  have hQC : zMq X C (p + 4) (r + 1) := by rw [← hC]; exact (hQB.p (q := p + 3 + 1) (isD_lt q3') (by omega)).n (by omega)
  have hFC : zFm r U C := by rw [← hC]; exact (hFB.tf (by omega) _).ts (by omega) (Nat.le_refl _) _
  have Cn : ∀ k, k ≠ 78 → k ≠ 188 → C k = B k := fun k a b => by rw [← hC, z_uS_ne _ _ _ b]; exact z_uS_ne _ _ _ a
  have C188 : C 188 r = 10 * dv X (p + 3) := by rw [← hC, uS_at]
  obtain ⟨f1, f2⟩ := M_digit_I hQC.1 hQC.2.1 9
  by_cases q4 : isD X 9 (p + 1 + 3) = true
  · have q4' : isD X 9 (p + 4) = true := q4
    rw [if_pos q4]
    rw [if_pos q4'] at f1
    refine ⟨(fun e he => by cases he), fun q' a b d g he => ?_⟩
    cases he
    simp only [f1, C188] at g1 g2
    rw [g1]
    refine ⟨_, rfl, ⟨d2, vr, g2 ⟨vr, e2, vr, vr, f2, vr, trivial⟩, trivial⟩, (hQC.p (q := p + 4 + 1) (isD_lt q4') (by omega)).n (by omega), (hFC.tf (by omega) _).ts (by omega) (Nat.le_refl _) _, ?_, ?_, fun _ => ?_⟩
    · rw [z_uS_ne _ _ _ (by omega)]; unfold mP; rw [z_uS_ne _ _ _ (by omega), Cn 186 (by omega) (by omega)]; exact B186
    · rw [uS_at]
      rw [z_uS_ne _ _ _ (show 187 ≠ 188 by omega), z_uS_ne _ _ _ (show 189 ≠ 188 by omega)]
      unfold mP
      rw [z_uS_ne _ _ _ (show 187 ≠ 78 by omega), z_uS_ne _ _ _ (show 189 ≠ 78 by omega), Cn 187 (by omega) (by omega), Cn 189 (by omega) (by omega), B187, B189]
      exact hK.2.2.2.2.2.1 _ _ _
    · refine ⟨?_, Or.inr ?_⟩
      · rw [z_uS_ne _ _ _ (show 187 ≠ 188 by omega)]
        unfold mP
        rw [z_uS_ne _ _ _ (show 187 ≠ 78 by omega), Cn 187 (by omega) (by omega), B187]; exact hfld
      · rw [z_uS_ne _ _ _ (show 189 ≠ 188 by omega)]
        unfold mP
        rw [z_uS_ne _ _ _ (show 189 ≠ 78 by omega), Cn 189 (by omega) (by omega), B189]; exact q1'
  · have q4' : ¬ isD X 9 (p + 4) = true := q4
    rw [if_neg q4]
    rw [if_neg q4'] at f1
    refine ⟨fun e he => ?_, (fun q' a b d g he => by cases he)⟩
    cases he
    simp only [f1] at g1 g2
    rw [g1]
    refine ⟨_, rfl, ⟨d2, vr, g2 ⟨vr, e2, vr, vr, f2, vr, trivial⟩, trivial⟩, ?_, ⟨p + 4, (hQC.1.e _).n (by omega)⟩, (hFC.tf (by omega) _).ts (by omega) (Nat.le_refl _) _⟩
    rw [z_uS_ne _ _ _ (by omega)]; exact uS_at _ _ _ _
/-- the reference at a sign: a new node first -/
theorem M_query_I {X : zTx} {U : Nat → Nat → Int32} {p r : Nat} {c : Int32} {rq : (Nat → Nat → Int32) → Int32 × (Nat → Nat → Int32)} {sq : (Nat → Nat → Int32) → Prop} (h : zMq X U p r) (hp : p < X.2) (hc : X.1 p = c) : F_M_sign U = c ∧ Sf_M_sign U ∧ U 78 52 < U 78 51 ∧ vp_in (U 78 54) 31 ∧ U 78 54 = zI r ∧ z_uS (z_uS (z_uS U 78 54 ((U 78 54) + 1)) 186 (U 78 54).toNatClampNeg (vp_nar .char c)) 78 52 ((U 78 52) + 1) = ndS U r p c := by
  obtain ⟨s1, s2⟩ := M_sign_I h.1
  have h30 := h.1.2.2.2.1
  have hrp := h.2.2.2
  have hch := (h.1.2.2.1 p (by omega)).2
  rw [hc] at hch
  have hs : sgn X p = c := by unfold sgn; rw [if_neg (by omega)]; exact hc
  refine ⟨s1.trans hs, s2, ?_, ?_, h.2.2.1, ?_⟩
  · rw [h.1.1, h.1.2.1, zI_lt (by omega) (by omega)]; exact hp
  · rw [h.2.2.1]; exact vp_in_I (by omega) (by omega)
  · rw [h.2.2.1, h.1.2.1, zI_clamp (by omega), zI_succ, zI_succ, hch.nar]; rfl
theorem M_leaf_I {X : zTx} {K M : zKm} {U : Nat → Nat → Int32} {p r : Nat} {c : Int32} {rq : (Nat → Nat → Int32) → Int32 × (Nat → Nat → Int32)} {sq : (Nat → Nat → Int32) → Prop} (hK : zKl K M) (h : zMq X U p r) (hp : p < X.2) (hc : X.1 p = c) (hk : kd c = 4) : zMl X K M U p r c (F_M_query rq U) (Sf_M_query rq sq U) := by
  obtain ⟨s1, s2, hlt, hv, h54, hnd⟩ := M_query_I (rq := rq) (sq := sq) h hp hc
  have h30 := h.1.2.2.2.1
  have hrp := h.2.2.2
  have hQ := ndS_q h hp c
  have hF := ndS_fm U r p c
  have hK' := ndS_k U r p c
  generalize ndS U r p c = S at *
  have hk' : isSm c = true ∨ c = 97 ∨ c = 102 ∨ c = 88 ∨ c = 68 := by
    unfold kd at hk
    split at hk
    · omega
    split at hk
    · omega
    split at hk
    · omega
    split at hk
    · omega
    split at hk
    · assumption
    · omega
  have sm : ∀ Z, F_M_isSimple Z c = if isSm c = true then 1 else 0 := by
    intro Z
    unfold F_M_isSimple
    by_cases k : isSm c = true
    · rw [if_pos k]
      rcases isSm_cases k with e | e | e | e | e | e <;> subst e <;> simp (decide := true) only [if_true, if_false]
    · rw [if_neg k]
      have n : ∀ x : Int32, isSm x = true → ¬ c = x := fun x hx e => k (by rw [e]; exact hx)
      rw [if_neg (n _ (by decide)), if_neg (n _ (by decide)), if_neg (n _ (by decide)), if_neg (n _ (by decide)), if_neg (n _ (by decide)), if_neg (n _ (by decide))]
  have hF0 : F_M_query rq U = F_M_query rq U := rfl
  rcases hk' with k | k | k | k | k
  · refine (mleaf_sm hK hQ hF hK' (by omega) hrp k).mono ?_ (fun z => ?_)
    · unfold F_M_query
      rw [if_pos hlt, s1, hnd, sm, if_pos k, if_neg ne_10, h54]
    · unfold Sf_M_query
      rw [if_pos hlt, s1, hnd, sm, if_pos k, if_neg ne_10]
      rw [h54] at hv ⊢
      exact ⟨s2, hv, z⟩
  · subst k
    refine (mleaf_a (rq := rq) (sq := sq) hK hQ hF hK' (by omega) hrp).mono ?_ (fun z => ?_)
    · unfold F_M_query
      rw [if_pos hlt, s1, hnd, sm, if_neg (show ¬ isSm 97 = true by decide), if_pos rfl, if_pos rfl, h54]
    · unfold Sf_M_query
      rw [if_pos hlt, s1, hnd, sm, if_neg (show ¬ isSm 97 = true by decide), if_pos rfl, if_pos rfl]
      rw [h54] at hv ⊢
      exact ⟨s2, hv, z⟩
  · subst k
    refine (mleaf_f hK hQ hF hK' (by omega) hrp).mono ?_ (fun z => ?_)
    · unfold F_M_query
      rw [if_pos hlt, s1, hnd, sm, if_neg (show ¬ isSm 102 = true by decide), if_pos rfl, if_neg (by decide), if_pos rfl, h54]
    · unfold Sf_M_query
      rw [if_pos hlt, s1, hnd, sm, if_neg (show ¬ isSm 102 = true by decide), if_pos rfl, if_neg (by decide), if_pos rfl]
      rw [h54] at hv ⊢
      exact ⟨s2, hv, z⟩
  · subst k
    refine (mleaf_X hK hQ hF hK' (by omega) hrp (by omega)).mono ?_ (fun z => ?_)
    · unfold F_M_query
      rw [if_pos hlt, s1, hnd, sm, if_neg (show ¬ isSm 88 = true by decide), if_pos rfl, if_neg (by decide), if_neg (by decide), if_pos rfl, h54]
    · unfold Sf_M_query
      rw [if_pos hlt, s1, hnd, sm, if_neg (show ¬ isSm 88 = true by decide), if_pos rfl, if_neg (by decide), if_neg (by decide), if_pos rfl]
      rw [h54] at hv ⊢
      exact ⟨s2, hv, z⟩
  · subst k
    refine (mleaf_D hK hQ hF hK' (by omega) hrp (by omega)).mono ?_ (fun z => ?_)
    · unfold F_M_query
      rw [if_pos hlt, s1, hnd, sm, if_neg (show ¬ isSm 68 = true by decide), if_pos rfl, if_neg (by decide), if_neg (by decide), if_neg (by decide), if_pos rfl, h54]
    · unfold Sf_M_query
      rw [if_pos hlt, s1, hnd, sm, if_neg (show ¬ isSm 68 = true by decide), if_pos rfl, if_neg (by decide), if_neg (by decide), if_neg (by decide), if_pos rfl]
      rw [h54] at hv ⊢
      exact ⟨s2, hv, z⟩
