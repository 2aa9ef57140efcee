/-! PURE: queries: the reference's whole reading -/
theorem M_pair_I {X : zTx} {K M : zKm} {rq : (Nat → Nat → Int32) → Int32 × (Nat → Nat → Int32)} {sq : (Nat → Nat → Int32) → Prop} {rec : Nat → zRs} {U S : Nat → Nat → Int32} {p r : Nat} (hK : zKl K M) (hr31 : r < 31) (hQ : zMq X S p (r + 1)) (hF : zFm r U S) (hc : S 186 r = 40) (hrec : ∀ q m, rec p = .inr (q, m) → p ≤ q) (ih : ∀ V q r', zMq X V q r' → p ≤ q → zMr X M V r' (rq V) (sq V) (rec q)) : zMr X M U r (zI r, F_M_pair rq S (zI r)) (Sf_M_pair rq sq S (zI r)) (qPr X K rec p) := by
  have vr : vp_in (zI r) 31 := vp_in_I (by omega) (by omega)
  have cr : (zI r).toNatClampNeg = r := zI_clamp (by omega)
  have hX := hQ.1.2.2.2
  unfold qPr
  have I := ih S p (r + 1) hQ (Nat.le_refl _)
  cases hres : rec p with
  | inl e =>
    rw [hres] at I
    obtain ⟨x, V, i1, i2, i3, i4, ⟨p', i5⟩, i6⟩ := I
    have w := zMe_w i5 i3 i4
    have w1 : (z_uS V 189 r x) 78 53 ≠ -1 := by rw [z_uS_ne _ _ _ (by omega)]; exact w
    have w2 : (z_uS (z_uS V 189 r x) 190 r 0) 78 53 ≠ -1 := by rw [z_uS_ne _ _ _ (by omega)]; exact w1
    obtain ⟨u1, u2⟩ := M_takes_E w2 41
    obtain ⟨-, s2⟩ := M_sign_I (i5.n (k := 189) (j := r) (v := x) (by omega))
    have e1 : F_M_pair rq S (zI r) = z_uS (z_uS V 189 r x) 190 r 0 := by
      unfold F_M_pair F_M_pair_j55 F_M_pair_j80
      simp only [i1, if_neg w, cr, z_let, M_fails_E w1, if_neg w1, u1]
    have e2 : Sf_M_pair rq sq S (zI r) := by
      unfold Sf_M_pair Sf_M_pair_j55 Sf_M_pair_j80
      simp only [i1, if_neg w, cr, z_let, M_fails_E w1, if_neg w1]
      exact ⟨i2, vr, s2, vr, u2, trivial⟩
    rw [e1]
    exact ⟨zI r, _, rfl, e2, by rw [z_uS_ne _ _ _ (by omega), z_uS_ne _ _ _ (by omega)]; exact i3, i4, ⟨p', (i5.n (by omega)).n (by omega)⟩, ((hF.trans i6 (by omega)).ts (by omega) (Nat.le_refl _) _).ts (by omega) (Nat.le_refl _) _⟩
  | inr y =>
    obtain ⟨q, m⟩ := y
    rw [hres] at I
    obtain ⟨V, r0, i1, i2, i3, i4, i5, i6⟩ := I
    show zMr X M U r _ _ (if sgn X q = 38 ∨ sgn X q = 124 then qThen (rec (q + 1)) (fun q2 m2 => if sgn X q2 = 41 then .inr (q2 + 1, K.2.2 (sgn X q) m m2) else .inl q2) else .inl q)
    have hb := i3.r
    have hqX := i3.1.2.2.2.2
    have hpq : p ≤ q := hrec q m hres
    generalize hV1 : z_uS V 189 r (zI (r + 1)) = V1
    have hQ1 : zMq X V1 q r0 := by rw [← hV1]; exact i3.n (by omega)
    have hF1 : zFm r U V1 := by rw [← hV1]; exact (hF.trans i5 (by omega)).ts (by omega) (Nat.le_refl _) _
    obtain ⟨s1, s2⟩ := M_sign_I hQ1.1
    have tr1 : ∀ W, (∀ k, 186 ≤ k ∧ k ≤ 190 → ∀ j, r + 1 ≤ j → j < r0 → W k j = V1 k j) → zTr M W (r + 1) r0 m := by
      intro W hW
      refine i6.eq fun k hk j a b => ?_
      rw [hW k hk j a b, ← hV1]
      by_cases q : k = 189
      · subst q; exact uS_nj _ _ _ (by omega)
      · rw [z_uS_ne _ _ _ q]
    have V186 : V1 186 r = 40 := by rw [← hV1, z_uS_ne _ _ _ (by omega), i5.2.2 186 (by omega) r (by omega)]; exact hc
    have V189 : V1 189 r = zI (r + 1) := by rw [← hV1]; exact uS_at _ _ _ _
    generalize hs : sgn X q = s at *
    by_cases hsp : s = 38 ∨ s = 124
    · rw [if_pos hsp]
      have hs0 : s ≠ 0 := by rcases hsp with e | e <;> rw [e] <;> decide
      have hl := sgn_lt hs hs0
      generalize hV2 : z_uS (z_uS V1 187 r s) 78 52 (zI (q + 1)) = V2
      have hQ2 : zMq X V2 (q + 1) r0 := by rw [← hV2]; exact (hQ1.n (by omega)).p (q := q + 1) (by omega) (by omega)
      have hF2 : zFm r U V2 := by rw [← hV2]; exact (hF1.ts (by omega) (Nat.le_refl _) _).tf (by omega) _
      have n2 : ∀ k, k ≠ 78 → k ≠ 187 → V2 k = V1 k := fun k a b => by rw [← hV2, z_uS_ne _ _ _ a, z_uS_ne _ _ _ b]
      have V2187 : V2 187 r = s := by rw [← hV2, z_uS_ne _ _ _ (by omega), uS_at]
      have J := ih V2 (q + 1) r0 hQ2 (by omega)
      have j35 : F_M_pair rq S (zI r) = F_M_pair_j59 rq V2 (zI r) ∧ (Sf_M_pair_j59 rq sq V2 (zI r) → Sf_M_pair rq sq S (zI r)) := by
        unfold F_M_pair Sf_M_pair F_M_pair_j35 Sf_M_pair_j35
        simp only [i1, cr, hV1, if_pos i3.2.1, s1]
        rcases hsp with e | e
        · subst e
          simp only [if_true, hQ1.1.2.1, zI_succ, hV2]
          exact ⟨trivial, fun z => ⟨i2, vr, s2, vr, z⟩⟩
        · subst e
          simp only [if_true, if_neg (show ¬ (124 : Int32) = 38 by decide), hQ1.1.2.1, zI_succ, hV2]
          exact ⟨trivial, fun z => ⟨i2, vr, s2, vr, z⟩⟩
      rw [j35.1]
      cases hres2 : rec (q + 1) with
      | inl e =>
        rw [hres2] at J
        obtain ⟨x, V3, k1, k2, k3, k4, ⟨p', k5⟩, k6⟩ := J
        have w1 : (z_uS V3 190 r x) 78 53 ≠ -1 := by rw [z_uS_ne _ _ _ (by omega)]; exact zMe_w k5 k3 k4
        obtain ⟨u1, u2⟩ := M_takes_E w1 41
        have e1 : F_M_pair_j59 rq V2 (zI r) = z_uS V3 190 r x := by
          unfold F_M_pair_j59 F_M_pair_j80
          simp only [if_pos hQ2.2.1, k1, cr, u1]
        have e2 : Sf_M_pair_j59 rq sq V2 (zI r) := by
          unfold Sf_M_pair_j59 Sf_M_pair_j80
          simp only [if_pos hQ2.2.1, k1, cr]
          exact ⟨k2, vr, u2, trivial⟩
        rw [e1]
        exact ⟨zI r, _, rfl, j35.2 e2, by rw [z_uS_ne _ _ _ (by omega)]; exact k3, k4, ⟨p', k5.n (by omega)⟩, (hF2.trans k6 (by omega)).ts (by omega) (Nat.le_refl _) _⟩
      | inr y =>
        obtain ⟨q2, m2⟩ := y
        rw [hres2] at J
        obtain ⟨V3, r1, k1, k2, k3, k4, k5, k6⟩ := J
        show zMr X M U r _ _ (if sgn X q2 = 41 then .inr (q2 + 1, K.2.2 s m m2) else .inl q2)
        have hb3 := k3.r
        generalize hV4 : z_uS V3 190 r (zI r0) = V4
        have hQ4 : zMq X V4 q2 r1 := by rw [← hV4]; exact k3.n (by omega)
        have hF4 : zFm r U V4 := by rw [← hV4]; exact (hF2.trans k5 (by omega)).ts (by omega) (Nat.le_refl _) _
        obtain ⟨u1, u2⟩ := M_takes_I hQ4.1 hQ4.2.1 41
        have e1 : F_M_pair_j59 rq V2 (zI r) = (F_M_takes V4 41).2 := by
          unfold F_M_pair_j59 F_M_pair_j80
          simp only [if_pos hQ2.2.1, k1, cr, hV4]
        have e2 : Sf_M_pair_j59 rq sq V2 (zI r) := by
          unfold Sf_M_pair_j59 Sf_M_pair_j80
          simp only [if_pos hQ2.2.1, k1, cr, hV4]
          exact ⟨k2, vr, u2, trivial⟩
        rw [e1]
        by_cases h41 : sgn X q2 = 41
        · rw [if_pos h41] at u1 ⊢
          have hl2 := sgn_lt h41 (by decide)
          rw [u1]
          have n4 : ∀ k, k ≠ 78 → ∀ j, r ≤ j → j < r0 → k ≠ 190 → mP V4 (q2 + 1) k j = V2 k j := by
            intro k a j j1 j2 b
            unfold mP
            rw [z_uS_ne _ _ _ a, ← hV4, z_uS_ne _ _ _ b]
            by_cases h1 : 186 ≤ k ∧ k ≤ 190
            · exact k5.2.2 k h1 j j2
            · rw [k5.1 k a h1]
          have g1 : zTr M (mP V4 (q2 + 1)) (r + 1) r0 m := by
            refine tr1 _ fun k hk j a b => ?_
            by_cases q190 : k = 190
            · subst q190
              unfold mP
              rw [z_uS_ne _ _ _ (by omega), ← hV4, uS_nj _ _ _ (by omega), k5.2.2 190 (by omega) j b, n2 190 (by omega) (by omega)]
            · rw [n4 k (by omega) j (by omega) b q190]
              by_cases q187 : k = 187
              · subst q187; rw [← hV2, z_uS_ne _ _ _ (by omega), uS_nj _ _ _ (by omega)]
              · rw [n2 k (by omega) q187]
          have g2 : zTr M (mP V4 (q2 + 1)) r0 r1 m2 := k6.eq fun k hk j a b => by
            unfold mP
            rw [z_uS_ne _ _ _ (by omega), ← hV4]
            by_cases q190 : k = 190
            · subst q190; exact uS_nj _ _ _ (by omega)
            · rw [z_uS_ne _ _ _ q190]
          have t := g1.pr (s := s) g2 i4 k4 (by omega) (by rw [n4 186 (by omega) r (by omega) (by omega) (by omega), n2 186 (by omega) (by omega)]; exact V186) (by rw [n4 187 (by omega) r (by omega) (by omega) (by omega)]; exact V2187) (by rw [n4 189 (by omega) r (by omega) (by omega) (by omega), n2 189 (by omega) (by omega)]; exact V189) (by unfold mP; rw [z_uS_ne _ _ _ (by omega), ← hV4]; exact uS_at _ _ _ _)
          rw [hK.2.2.2.2.2.2.2.2 s m m2 hsp] at t
          exact ⟨_, r1, rfl, j35.2 e2, hQ4.p hl2 (by omega), by omega, hF4.tf (by omega) _, t⟩
        · rw [if_neg h41] at u1 ⊢
          rw [u1]
          show zMr X M U r (zI r, mE V4 q2) _ _
          exact ⟨zI r, _, rfl, j35.2 e2, uS_at _ _ _ _, k3.1.2.2.2.2, ⟨q2, hQ4.1.e _⟩, hF4.tf (by omega) _⟩
    · rw [if_neg hsp]
      have n1 : ¬ s = 38 := fun z => hsp (Or.inl z)
      have n2 : ¬ s = 124 := fun z => hsp (Or.inr z)
      have hfl := M_fails_I hQ1.1 hQ1.2.1
      have w := mE_w V1 (e := q) (by omega)
      have w2 : (z_uS (mE V1 q) 190 r 0) 78 53 ≠ -1 := by rw [z_uS_ne _ _ _ (by omega)]; exact w
      obtain ⟨u1, u2⟩ := M_takes_E w2 41
      have e1 : F_M_pair rq S (zI r) = z_uS (mE V1 q) 190 r 0 := by
        unfold F_M_pair F_M_pair_j55 F_M_pair_j80
        simp only [i1, cr, hV1, if_pos i3.2.1, s1, if_neg n1, if_neg n2, z_let, hfl, if_neg w, u1]
      have e2 : Sf_M_pair rq sq S (zI r) := by
        unfold Sf_M_pair Sf_M_pair_j55 Sf_M_pair_j80
        simp only [i1, cr, hV1, if_pos i3.2.1, s1, if_neg n1, if_neg n2, z_let, hfl, if_neg w]
        exact ⟨i2, vr, s2, vr, u2, trivial⟩
      rw [e1]
      exact ⟨zI r, _, rfl, e2, by rw [z_uS_ne _ _ _ (by omega)]; exact uS_at _ _ _ _, hqX, ⟨q, (hQ1.1.e _).n (by omega)⟩, (hF1.tf (by omega) _).ts (by omega) (Nat.le_refl _) _⟩
theorem qThen_lt {r : zRs} {f : Nat → (Nat → Bool) → zRs} {p q : Nat} {m : Nat → Bool} (h : qThen r f = .inr (q, m)) (h1 : ∀ q m, r = .inr (q, m) → p < q) (h2 : ∀ q m q' m', f q m = .inr (q', m') → q ≤ q') : p < q := by
  cases r with
  | inl e => cases h
  | inr y =>
    obtain ⟨q1, m1⟩ := y
    have a := h1 q1 m1 rfl
    have b := h2 q1 m1 q m h
    omega
theorem qD_lt {X : zTx} {K : zKm} : ∀ (n p q : Nat) (m : Nat → Bool), qD X K n p = .inr (q, m) → p < q := by
  intro n
  induction n with
  | zero => intro p q m h; cases h
  | succ n ih =>
    intro p q m h
    unfold qD at h
    have hin : ∀ c ty p', p < p' → qIn X K c ty (qD X K n) p' = .inr (q, m) → p < q := by
      intro c ty p' hp h
      unfold qIn at h
      split at h
      · refine qThen_lt h (fun q m hq => ?_) (fun q m q' m' hq => ?_)
        · have := ih _ _ _ hq; omega
        · split at hq
          · cases hq; omega
          · cases hq
      · cases h
    split at h
    · cases h
    split at h
    · refine qThen_lt h (fun q m hq => ?_) (fun q m q' m' hq => ?_)
      · have := ih _ _ _ hq; omega
      · cases hq; omega
    split at h
    · unfold qPr at h
      refine qThen_lt h (fun q m hq => ?_) (fun q m q' m' hq => ?_)
      · have := ih _ _ _ hq; omega
      · split at hq
        · have := qThen_lt (p := q) hq (fun q2 m2 hq2 => by have := ih _ _ _ hq2; omega) (fun q2 m2 q3 m3 hq3 => by
            split at hq3
            · cases hq3; omega
            · cases hq3)
          omega
        · cases hq
    split at h
    · exact hin _ _ _ (by omega) h
    split at h
    · split at h
      · exact hin _ _ _ (by omega) h
      · cases h
    split at h
    · unfold qLf at h
      generalize hr : lfS X (X.1 p) (p + 1) = r at h
      cases r with
      | inl e => cases h
      | inr y =>
        obtain ⟨q', a, b, d, g⟩ := y
        cases h
        have := (lfS_ok hr).1
        omega
    · cases h
theorem qThen_map (res : zRs) (X : zTx) (f : (Nat → Bool) → Nat → Bool) (cl : Int32) : qThen (qThen res (fun q2 m => if sgn X q2 = cl then .inr (q2 + 1, m) else .inl q2)) (fun q m => .inr (q, f m)) = qThen res (fun q2 m => if sgn X q2 = cl then .inr (q2 + 1, f m) else .inl q2) := by
  cases res with
  | inl e => rfl
  | inr y =>
    obtain ⟨q, m⟩ := y
    show qThen (if sgn X q = cl then .inr (q + 1, m) else .inl q) _ = if sgn X q = cl then .inr (q + 1, f m) else .inl q
    split <;> rfl
theorem zMl.r {X : zTx} {K M : zKm} {U : Nat → Nat → Int32} {p r : Nat} {c : Int32} {F : Int32 × (Nat → Nat → Int32)} {s : Prop} (h : zMl X K M U p r c F s) (hk : kd c = 4) (hp : p + 1 ≤ X.2) : zMr X M U r F s (qLf X K c (p + 1)) := by
  unfold qLf
  generalize hr : lfS X c (p + 1) = y
  cases y with
  | inl e =>
    obtain ⟨V, h1, h2, h3, h4, h5⟩ := h.1 e hr
    exact ⟨zI r, V, h1, h2, h3, (lfS_er hp hr).2, h4, h5⟩
  | inr y =>
    obtain ⟨q, a, b, d, g⟩ := y
    obtain ⟨V, h1, h2, h3, h4, h5, h6, h7⟩ := h.2 q a b d g hr
    exact ⟨V, r + 1, h1, h2, h3, by omega, h4, zTr.lf h5 hk h6 h7⟩
theorem M_query_all {X : zTx} {K M : zKm} (hK : zKl K M) : ∀ (n p r : Nat) (U : Nat → Nat → Int32), X.2 < n + p → zMq X U p r → zMr X M U r (FQ n U) (SQ n U) (qD X K n p) := by
  intro n
  induction n with
  | zero => intro p r U hn h; have := h.1.2.2.2.2; omega
  | succ n ih =>
    intro p r U hn h
    have hX := h.1.2.2.2
    have hrp := h.2.2.2
    show zMr X M U r (F_M_query (FQ n) U) (Sf_M_query (FQ n) (SQ n) U) _
    unfold qD
    by_cases hp : X.2 ≤ p
    · rw [if_pos hp]
      have hnl : ¬ U 78 52 < U 78 51 := by rw [h.1.1, h.1.2.1, zI_lt (by omega) (by omega)]; omega
      refine ⟨0, mE U p, ?_, ?_, uS_at _ _ _ _, hX.2, ⟨p, h.1.e _⟩, zFm.f (by omega) _ _⟩
      · unfold F_M_query
        rw [if_neg hnl]
        simp only [z_let, M_fails_I h.1 h.2.1]
      · unfold Sf_M_query
        rw [if_neg hnl]
        exact ⟨(M_sign_I h.1).2, trivial⟩
    rw [if_neg hp]
    have hpl : p < X.2 := by omega
    generalize hc : X.1 p = c
    obtain ⟨s1, s2, hlt, hv, h54, hnd⟩ := M_query_I (rq := FQ n) (sq := SQ n) h hpl hc
    have hQ := ndS_q h hpl c
    have hF := ndS_fm U r p c
    have hK' := ndS_k U r p c
    have cr : (zI r).toNatClampNeg = r := zI_clamp (by omega)
    have vr : vp_in (zI r) 31 := vp_in_I (by omega) (by omega)
    by_cases k4 : kd c = 4
    · have L := M_leaf_I (rq := FQ n) (sq := SQ n) hK h hpl hc k4
      rw [if_neg (by omega), if_neg (by omega), if_neg (by omega), if_neg (by omega), if_pos k4]
      exact L.r k4 (by omega)
    generalize ndS U r p c = S at *
    have nsm : ¬ isSm c = true := fun z => k4 (by rcases isSm_cases z with e | e | e | e | e | e <;> subst e <;> decide)
    have sm : ∀ Z, F_M_isSimple Z c = 0 := by
      intro Z
      unfold F_M_isSimple
      have n : ∀ x : Int32, isSm x = true → ¬ c = x := fun x hx e => nsm (by rw [e]; exact hx)
      rw [if_neg (n _ (by decide)), if_neg (n _ (by decide)), if_neg (n _ (by decide)), if_neg (n _ (by decide)), if_neg (n _ (by decide)), if_neg (n _ (by decide))]
    have n97 : ¬ c = 97 := fun e => k4 (by subst e; decide)
    have n102 : ¬ c = 102 := fun e => k4 (by subst e; decide)
    have n88 : ¬ c = 88 := fun e => k4 (by subst e; decide)
    have n68 : ¬ c = 68 := fun e => k4 (by subst e; decide)
    by_cases k0 : kd c = 0
    · rw [if_pos k0]
      have ec := kd_0 k0
      subst ec
      have I := ih (p + 1) (r + 1) S (by omega) hQ
      refine zMr.un (c := 33) (f := fun m => K.2.1 33 0 m) I hF hK' (Or.inl rfl) (fun e => by rcases e with e | e <;> exact absurd e (by decide)) (fun m => hK.2.2.2.2.2.2.1 33 _ m (Or.inl rfl)) (fun x V hG => ?_) (fun z => ?_)
      · unfold F_M_query
        rw [if_pos hlt, s1, hnd, sm, if_pos rfl]
        simp (decide := true) only [if_true, if_false, hG, h54, cr]
      · unfold Sf_M_query
        rw [if_pos hlt, s1, hnd, sm, if_pos rfl]
        simp (decide := true) only [if_true, if_false, h54]
        exact ⟨s2, vr, z, vr, trivial⟩
    rw [if_neg k0]
    by_cases k1 : kd c = 1
    · rw [if_pos k1]
      have ec := kd_1 k1
      subst ec
      have P := M_pair_I (rq := FQ n) (sq := SQ n) (rec := qD X K n) hK (by omega) hQ hF hK' (fun q m hq => by have := qD_lt n _ _ _ hq; omega) (fun V q r' hV hq => ih q r' V (by omega) hV)
      have e1 : F_M_query (FQ n) U = (zI r, F_M_pair (FQ n) S (zI r)) := by
        unfold F_M_query
        rw [if_pos hlt, s1, hnd, sm, if_pos rfl]
        simp (decide := true) only [if_true, if_false, h54, z_let]
      have e2 : Sf_M_pair (FQ n) (SQ n) S (zI r) → Sf_M_query (FQ n) (SQ n) U := by
        intro z
        unfold Sf_M_query
        rw [if_pos hlt, s1, hnd, sm, if_pos rfl]
        simp (decide := true) only [if_true, if_false, h54]
        exact ⟨s2, vr, z, trivial⟩
      rw [e1]
      generalize qPr X K (qD X K n) (p + 1) = res at P ⊢
      cases res with
      | inl e => obtain ⟨x, V, h1, h2, h3⟩ := P; exact ⟨x, V, h1, e2 h2, h3⟩
      | inr y => obtain ⟨V, r1, h1, h2, h3⟩ := P; exact ⟨V, r1, h1, e2 h2, h3⟩
    rw [if_neg k1]
    have n33 : ¬ c = 33 := fun e => k0 (by subst e; decide)
    have n40 : ¬ c = 40 := fun e => k1 (by subst e; decide)
    by_cases k2 : kd c = 2
    · rw [if_pos k2]
      have ec := kd_2 k2
      have W := M_within_I (M := M) (rq := FQ n) (sq := SQ n) (res := qD X K n (p + 1 + 1)) hQ (fun e => ih (p + 1 + 1) (r + 1) _ (by omega) (hQ.p (sgn_lt e (by decide)) (by omega)))
      have R := W.un (c := c) (f := fun m => K.2.1 c 0 m) hF hK' (by rcases ec with e | e <;> subst e <;> unfold isUn <;> decide) (fun e => by rcases ec with g | g <;> rw [g] at e <;> rcases e with e | e <;> exact absurd e (by decide)) (fun m => hK.2.2.2.2.2.2.1 c _ m (Or.inr ec)) (F := F_M_query (FQ n) U) (sF := Sf_M_query (FQ n) (SQ n) U) (fun x V hG => ?_) (fun z => ?_)
      · unfold qIn
        by_cases hs : sgn X (p + 1) = 91
        · rw [if_pos hs] at R ⊢
          rw [qThen_map] at R
          exact R
        · rw [if_neg hs] at R ⊢
          exact R
      · unfold F_M_query F_M_query_j255
        rw [if_pos hlt, s1, hnd, sm, if_pos rfl]
        rcases ec with e | e <;> subst e <;> simp (decide := true) only [if_true, if_false, hG, h54, cr]
      · unfold Sf_M_query Sf_M_query_j255
        rw [if_pos hlt, s1, hnd, sm, if_pos rfl]
        rcases ec with e | e <;> subst e <;> simp (decide := true) only [if_true, if_false, h54] <;> exact ⟨s2, vr, z, vr, trivial⟩
    rw [if_neg k2]
    have n67 : ¬ c = 67 := fun e => k2 (by subst e; decide)
    have n85 : ¬ c = 85 := fun e => k2 (by subst e; decide)
    by_cases k3 : kd c = 3
    · rw [if_pos k3]
      have ec := kd_3 k3
      have hun : isUn c := by rcases ec with e | e <;> subst e <;> unfold isUn <;> decide
      obtain ⟨d1, d2⟩ := M_digit_I hQ.1 hQ.2.1 2
      have eF : F_M_query (FQ n) U = F_M_query_j280 (FQ n) S (zI r) ∧ (Sf_M_query_j280 (FQ n) (SQ n) S (zI r) → Sf_M_query (FQ n) (SQ n) U) := by
        unfold F_M_query Sf_M_query
        rw [if_pos hlt, if_pos hlt, s1, hnd, sm, if_pos rfl, if_pos rfl]
        rcases ec with e | e <;> subst e <;> simp (decide := true) only [if_true, if_false, h54] <;> exact ⟨trivial, fun z => ⟨s2, vr, z⟩⟩
      rw [eF.1]
      by_cases hd : isD X 2 (p + 1) = true
      · rw [if_pos hd] at d1 ⊢
        generalize hS2 : z_uS (mP S (p + 1 + 1)) 187 r (dv X (p + 1)) = S2
        have hQ2 : zMq X S2 (p + 2) (r + 1) := by rw [← hS2]; exact (hQ.p (isD_lt hd) (by omega)).n (by omega)
        have hF2 : zFm r U S2 := by rw [← hS2]; exact (hF.tf (by omega) _).ts (by omega) (Nat.le_refl _) _
        have k186 : S2 186 r = c := by rw [← hS2, z_uS_ne _ _ _ (by omega)]; unfold mP; rw [z_uS_ne _ _ _ (by omega)]; exact hK'
        have k187 : S2 187 r = dv X (p + 1) := by rw [← hS2, uS_at]
        have w1 : (mP S (p + 1 + 1)) 78 53 = -1 := (hQ.p (isD_lt hd) (by omega)).2.1
        have W := M_within_I (M := M) (rq := FQ n) (sq := SQ n) (res := qD X K n (p + 2 + 1)) hQ2 (fun e => ih (p + 2 + 1) (r + 1) _ (by omega) (hQ2.p (sgn_lt e (by decide)) (by omega)))
        have R := W.un (c := c) (f := fun m => K.2.1 c (dv X (p + 1)) m) hF2 k186 hun (fun _ => by rw [k187]; exact isD_ex hd (by decide)) (fun m => by rw [k187]; exact hK.2.2.2.2.2.2.2.1 c _ m ec) (F := F_M_query_j280 (FQ n) S (zI r)) (sF := Sf_M_query (FQ n) (SQ n) U) (fun x V hG => ?_) (fun z => ?_)
        · unfold qIn
          by_cases hs : sgn X (p + 2) = 91
          · rw [if_pos hs] at R ⊢
            rw [qThen_map] at R
            exact R
          · rw [if_neg hs] at R ⊢
            exact R
        · unfold F_M_query_j280 F_M_query_j312
          simp only [d1, if_pos w1, cr, hS2, hG]
        · refine eF.2 ?_
          unfold Sf_M_query_j280 Sf_M_query_j312
          simp only [d1, if_pos w1, cr, hS2]
          exact ⟨d2, vr, z, vr, trivial⟩
      · rw [if_neg hd] at d1 ⊢
        have w1 : ¬ (mE S (p + 1)) 78 53 = -1 := mE_w S (by omega)
        refine ⟨zI r, z_uS (z_uS (mE S (p + 1)) 187 r 0) 189 r 0, ?_, ?_, ?_, by omega, ⟨p + 1, ((hQ.1.e _).n (by omega)).n (by omega)⟩, ((hF.tf (by omega) _).ts (by omega) (Nat.le_refl _) _).ts (by omega) (Nat.le_refl _) _⟩
        · unfold F_M_query_j280 F_M_query_j312
          simp only [d1, if_neg w1, cr]
        · refine eF.2 ?_
          unfold Sf_M_query_j280 Sf_M_query_j312
          simp only [d1, if_neg w1, cr]
          exact ⟨d2, vr, vr, trivial⟩
        · rw [z_uS_ne _ _ _ (by omega), z_uS_ne _ _ _ (by omega)]; exact uS_at _ _ _ _
    rw [if_neg k3, if_neg k4]
    have n76 : ¬ c = 76 := fun e => k3 (by subst e; decide)
    have n73 : ¬ c = 73 := fun e => k3 (by subst e; decide)
    have e52 : U 78 52 + 1 - 1 = zI p := by rw [h.1.2.1, Int32.add_sub_cancel]
    have hA : zMs X (z_uS S 78 52 (zI p)) p := hQ.1.p (by omega)
    have wA : (z_uS S 78 52 (zI p)) 78 53 = -1 := by rw [uS_nj _ _ _ (by omega)]; exact hQ.2.1
    refine ⟨zI r, mE (z_uS S 78 52 (zI p)) p, ?_, ?_, uS_at _ _ _ _, by omega, ⟨p, hA.e _⟩, (hF.tf (by omega) _).tf (by omega) _⟩
    · unfold F_M_query
      rw [if_pos hlt, s1, hnd, sm, if_pos rfl, if_neg n97, if_neg n102, if_neg n88, if_neg n68, if_neg n67, if_neg n85, if_neg n76, if_neg n73, if_neg n33, if_neg n40, e52]
      simp only [z_let, M_fails_I hA wA, h54]
    · unfold Sf_M_query
      rw [if_pos hlt, s1, hnd, sm, if_pos rfl, if_neg n97, if_neg n102, if_neg n88, if_neg n68, if_neg n67, if_neg n85, if_neg n76, if_neg n73, if_neg n33, if_neg n40]
      exact ⟨s2, hv, trivial⟩
