/-! PURE: queries: the class, a step of its loop -/
theorem kd_0 {c : Int32} (h : kd c = 0) : c = 33 := by
  unfold kd at h
  split at h
  · assumption
  repeat (split at h; · omega)
  omega
theorem kd_1 {c : Int32} (h : kd c = 1) : c = 40 := by
  unfold kd at h
  split at h
  · omega
  split at h
  · assumption
  repeat (split at h; · omega)
  omega
theorem kd_2 {c : Int32} (h : kd c = 2) : c = 67 ∨ c = 85 := by
  unfold kd at h
  split at h
  · omega
  split at h
  · omega
  split at h
  · assumption
  repeat (split at h; · omega)
  omega
theorem kd_3 {c : Int32} (h : kd c = 3) : c = 76 ∨ c = 73 := by
  unfold kd at h
  split at h
  · omega
  split at h
  · omega
  split at h
  · omega
  split at h
  · assumption
  split at h <;> omega
theorem kd_5 {c : Int32} (h0 : ¬ kd c = 0) (h1 : ¬ kd c = 1) (h2 : ¬ kd c = 2) (h3 : ¬ kd c = 3) (h4 : ¬ kd c = 4) : c ≠ 33 ∧ c ≠ 40 ∧ c ≠ 67 ∧ c ≠ 85 ∧ c ≠ 76 ∧ c ≠ 73 ∧ c ≠ 97 ∧ c ≠ 102 ∧ c ≠ 88 ∧ c ≠ 68 ∧ c ≠ 115 ∧ c ≠ 107 ∧ c ≠ 112 ∧ c ≠ 118 ∧ c ≠ 87 ∧ c ≠ 66 := by
  refine ⟨?_, ?_, ?_, ?_, ?_, ?_, ?_, ?_, ?_, ?_, ?_, ?_, ?_, ?_, ?_, ?_⟩ <;> intro e <;> subst e
  · exact h0 (by decide)
  · exact h1 (by decide)
  · exact h2 (by decide)
  · exact h2 (by decide)
  · exact h3 (by decide)
  · exact h3 (by decide)
  all_goals exact h4 (by decide)
theorem begins_open {X : zTx} {T : Nat → Nat → Int32} {p z dep : Nat} {c : Int32} (h : zQs X T p z dep true) (hc : sgn X p = c) (hk : c = 33 ∨ c = 40) : F_Query_beginsWell T = (1, opS (atP T (p + 1)) dep c 0) ∧ Sf_Query_beginsWell T := by
  obtain ⟨s1, s2⟩ := T_sign_I h.1
  have hc0 : c ≠ 0 := by rcases hk with e | e <;> rw [e] <;> decide
  have hp := sgn_lt hc hc0
  obtain ⟨t1, t2⟩ := T_takes_I h.1 c
  rw [if_pos hc] at t1
  rw [hc] at s1
  obtain ⟨o1, -⟩ := opS_I h (q := p + 1) (by omega) (by omega) c 0
  unfold F_Query_beginsWell Sf_Query_beginsWell
  rw [s1]
  rcases hk with e | e <;> subst e <;> simp (decide := true) only [t1, o1, if_false, if_true] <;> exact ⟨trivial, s2, t2, trivial⟩
theorem begins_in2 {X : zTx} {T : Nat → Nat → Int32} {p z dep : Nat} {c : Int32} (h : zQs X T p z dep true) (hc : sgn X p = c) (hk : c = 67 ∨ c = 85) : F_Query_beginsWell T = (if sgn X (p + 1) = 91 then (1, opS (atP T (p + 1 + 1)) dep c 0) else (0, atP T (p + 1))) ∧ Sf_Query_beginsWell T := by
  obtain ⟨s1, s2⟩ := T_sign_I h.1
  have hc0 : c ≠ 0 := by rcases hk with e | e <;> rw [e] <;> decide
  have hp := sgn_lt hc hc0
  obtain ⟨t1, t2⟩ := T_takes_I h.1 c
  rw [if_pos hc] at t1
  rw [hc] at s1
  obtain ⟨u1, u2⟩ := T_takes_I (h.1.to (q := p + 1) (by omega)) 91
  rw [atP_atP] at u1
  unfold F_Query_beginsWell Sf_Query_beginsWell F_Query_beginsWell_j197
  rw [s1]
  by_cases q : sgn X (p + 1) = 91
  · rw [if_pos q] at u1 ⊢
    obtain ⟨o1, -⟩ := opS_I h (q := p + 1 + 1) (by omega) (sgn_lt q (by decide)) c 0
    rcases hk with e | e <;> subst e <;> simp (decide := true) only [t1, u1, o1, if_false, if_true] <;> exact ⟨trivial, s2, t2, u2, trivial⟩
  · rw [if_neg q] at u1 ⊢
    rcases hk with e | e <;> subst e <;> simp (decide := true) only [t1, u1, if_false, if_true] <;> exact ⟨trivial, s2, t2, u2, trivial⟩
theorem begins_in3 {X : zTx} {T : Nat → Nat → Int32} {p z dep : Nat} {c : Int32} (h : zQs X T p z dep true) (hc : sgn X p = c) (hk : c = 76 ∨ c = 73) : F_Query_beginsWell T = (if isD X 2 (p + 1) = true then (if sgn X (p + 2) = 91 then (1, opS (atP T (p + 2 + 1)) dep c (dv X (p + 1))) else (0, atP T (p + 2))) else (0, atP T (p + 1))) ∧ Sf_Query_beginsWell T := by
  obtain ⟨s1, s2⟩ := T_sign_I h.1
  have hc0 : c ≠ 0 := by rcases hk with e | e <;> rw [e] <;> decide
  have hp := sgn_lt hc hc0
  obtain ⟨t1, t2⟩ := T_takes_I h.1 c
  rw [if_pos hc] at t1
  rw [hc] at s1
  have h1 := h.1.to (q := p + 1) (by omega)
  obtain ⟨d1, d2⟩ := T_digit_I h1 2
  rw [atP_atP] at d1
  unfold F_Query_beginsWell Sf_Query_beginsWell F_Query_beginsWell_j224 F_Query_opensTyped Sf_Query_opensTyped F_Query_opensTyped_j27
  rw [s1]
  by_cases q : isD X 2 (p + 1) = true
  · rw [if_pos q] at d1 ⊢
    have h2 : zSc X (atP T (p + 2)) (p + 2) := h.1.to (isD_lt q)
    obtain ⟨u1, u2⟩ := T_takes_I h2 91
    rw [atP_atP] at u1
    have d1' : F_Query_digit (atP T (p + 1)) 2 = (dv X (p + 1), atP T (p + 2)) := d1
    have hne := isD_ne q
    by_cases q2 : sgn X (p + 2) = 91
    · rw [if_pos q2] at u1 ⊢
      obtain ⟨o1, -⟩ := opS_I h (q := p + 2 + 1) (by omega) (sgn_lt q2 (by decide)) c (dv X (p + 1))
      rcases hk with e | e <;> subst e <;> simp (decide := true) only [t1, d1', u1, o1, hne, if_false, if_true] <;> exact ⟨trivial, s2, t2, d2, ⟨u2, trivial⟩, trivial⟩
    · rw [if_neg q2] at u1 ⊢
      rcases hk with e | e <;> subst e <;> simp (decide := true) only [t1, d1', u1, hne, if_false, if_true] <;> exact ⟨trivial, s2, t2, d2, ⟨u2, trivial⟩, trivial⟩
  · rw [if_neg q] at d1 ⊢
    rcases hk with e | e <;> subst e <;> simp (decide := true) only [t1, d1, if_false, if_true] <;> exact ⟨trivial, s2, t2, d2, trivial⟩
theorem begins_no {X : zTx} {T : Nat → Nat → Int32} {p : Nat} {c : Int32} (h : zSc X T p) (hc : sgn X p = c) (hk : c ≠ 33 ∧ c ≠ 40 ∧ c ≠ 67 ∧ c ≠ 85 ∧ c ≠ 76 ∧ c ≠ 73 ∧ c ≠ 97 ∧ c ≠ 102 ∧ c ≠ 88 ∧ c ≠ 68 ∧ c ≠ 115 ∧ c ≠ 107 ∧ c ≠ 112 ∧ c ≠ 118 ∧ c ≠ 87 ∧ c ≠ 66) : F_Query_beginsWell T = (0, T) ∧ Sf_Query_beginsWell T := by
  obtain ⟨s1, s2⟩ := T_sign_I h
  rw [hc] at s1
  obtain ⟨k1, k2, k3, k4, k5, k6, k7, k8, k9, k10, k11, k12, k13, k14, k15, k16⟩ := hk
  unfold F_Query_beginsWell Sf_Query_beginsWell
  rw [s1]
  simp only [if_neg k1, if_neg k2, if_neg k3, if_neg k4, if_neg k5, if_neg k6, if_neg k7, if_neg k8, if_neg k9, if_neg k10, if_neg k11, if_neg k12, if_neg k13, if_neg k14, if_neg k15, if_neg k16]
  exact ⟨trivial, s2, trivial⟩
/-- between two joined ones -/
def midS (V : Nat → Nat → Int32) (dep : Nat) (s : Int32) : Nat → Nat → Int32 := z_uS (z_uS V 25 dep s) 19 11 1
theorem goes_mid {X : zTx} {V : Nat → Nat → Int32} {q z dep : Nat} (h : zQs X V q z (dep + 1) false) (ho : V 25 dep = 40) : F_Query_goesOnWell V = (if sgn X q = 38 ∨ sgn X q = 124 then (1, atP (midS V dep (sgn X q)) (q + 1)) else (0, midS V dep (sgn X q))) ∧ Sf_Query_goesOnWell V ∧ zFq z dep V (midS V dep (sgn X q)) ∧ (midS V dep (sgn X q)) 25 dep = sgn X q ∧ (midS V dep (sgn X q)) 26 = V 26 ∧ ∀ j, j ≠ 11 → (midS V dep (sgn X q)) 19 j = V 19 j := by
  obtain ⟨hS, h8, h9, h11, hzd⟩ := h
  have h30 := hS.2.2.2
  obtain ⟨s1, s2⟩ := T_sign_I hS
  have nd : ¬ zI (dep + 1) ≤ 0 := by rw [show (0 : Int32) = zI 0 from rfl, zI_le (by omega) (by omega)]; omega
  have e1 : zI (dep + 1) - 1 = zI dep := by rw [show (1 : Int32) = zI 1 from rfl, zI_sub (by omega) (by omega)]; rfl
  have ea : zAt (V 25) 30 (zI dep) = 40 := by rw [zAt_I (by omega) (by omega)]; exact ho
  generalize hs : sgn X q = s at *
  have hfq : zFq z dep V (midS V dep s) := by unfold midS; exact (zFq.o (by omega) (Nat.le_refl _) V s).trans (zFq.f (by omega) _ _) (Nat.le_refl _) (Nat.le_refl _)
  have m19 : ∀ j, j ≠ 11 → midS V dep s 19 j = V 19 j := fun j hj => by unfold midS; rw [uS_nj _ _ _ hj, z_uS_ne _ _ _ (by omega)]
  have hS2 : zSc X (midS V dep s) q := hS.fq hfq (by rw [m19 10 (by omega)]; exact hS.2.1) hS.2.2.2.2
  have hput : zPut V 25 30 (zI dep) s = z_uS V 25 dep s := zPut_I (by omega) (by omega)
  refine ⟨?_, ?_, hfq, by unfold midS; rw [z_uS_ne _ _ _ (by omega), uS_at], by unfold midS; rw [z_uS_ne _ _ _ (by omega), z_uS_ne _ _ _ (by omega)], m19⟩
  · unfold F_Query_goesOnWell F_Query_goesOnWell_j24
    rw [h9, if_neg nd, e1, ea, if_neg (by decide), if_neg (by decide), if_pos rfl, s1, hput]
    show (if s = 38 then F_Query_goesOnWell_j106 (midS V dep s) s else if s = 124 then F_Query_goesOnWell_j106 (midS V dep s) s else F_Query_goesOnWell_j118 (midS V dep s)) = _
    obtain ⟨t1, t2⟩ := T_takes_I hS2 s
    rw [if_pos hs] at t1
    unfold F_Query_goesOnWell_j106 F_Query_goesOnWell_j118
    rw [t1]
    simp only [if_neg ne_10]
    by_cases q1 : s = 38
    · rw [if_pos q1, if_pos (Or.inl q1)]
    · by_cases q2 : s = 124
      · rw [if_neg q1, if_pos q2, if_pos (Or.inr q2)]
      · rw [if_neg q1, if_neg q2, if_neg (fun z => z.elim q1 q2)]
  · unfold Sf_Query_goesOnWell Sf_Query_goesOnWell_j24
    rw [h9, if_neg nd, e1, ea, if_neg (by decide), if_neg (by decide), if_pos rfl, s1, hput]
    refine ⟨s2, ?_⟩
    show (if s = 38 then Sf_Query_goesOnWell_j106 (midS V dep s) s else if s = 124 then Sf_Query_goesOnWell_j106 (midS V dep s) s else True)
    obtain ⟨t1, t2⟩ := T_takes_I hS2 s
    unfold Sf_Query_goesOnWell_j106
    by_cases q1 : s = 38
    · rw [if_pos q1]; exact ⟨t2, trivial⟩
    · by_cases q2 : s = 124
      · rw [if_neg q1, if_pos q2]; exact ⟨t2, trivial⟩
      · rw [if_neg q1, if_neg q2]; trivial
theorem goes_close {X : zTx} {V : Nat → Nat → Int32} {q z dep nb : Nat} {c ty cl : Int32} (h : zQs X V q z (dep + 1) false) (hc : V 25 dep = c) (hty : V 26 dep = ty) (ht1 : ty ≠ -1) (hcl : (c = 38 ∨ c = 124) ∧ cl = 41 ∨ (c ≠ -1 ∧ c ≠ 38 ∧ c ≠ 40 ∧ c ≠ 124) ∧ cl = 93) (hnb : nb ≤ dep) (h1 : ∀ j, dep - nb ≤ j → j < dep → V 25 j = 33) (h2 : dep = nb ∨ V 25 (dep - nb - 1) ≠ 33) :
    (sgn X q ≠ cl → F_Query_goesOnWell V = (0, V) ∧ Sf_Query_goesOnWell V) ∧ (sgn X q = cl → ∃ W, F_Query_goesOnWell V = (1, W) ∧ Sf_Query_goesOnWell V ∧ zQs X W (q + 1) (z + 1 + nb) (dep - nb) false ∧ zFq z dep V W ∧ (W 21 z = c ∧ W 22 z = ty ∧ W 23 z = 0 ∧ W 24 z = 0) ∧ ∀ j, z < j → j < z + 1 + nb → W 21 j = 33 ∧ W 22 j = 0) := by
  obtain ⟨hS, h8, h9, h11, hzd⟩ := h
  have h30 := hS.2.2.2
  have nd : ¬ zI (dep + 1) ≤ 0 := by rw [show (0 : Int32) = zI 0 from rfl, zI_le (by omega) (by omega)]; omega
  have e1 : zI (dep + 1) - 1 = zI dep := by rw [show (1 : Int32) = zI 1 from rfl, zI_sub (by omega) (by omega)]; rfl
  have ea : zAt (V 25) 30 (zI dep) = c := by rw [zAt_I (by omega) (by omega)]; exact hc
  obtain ⟨t1, t2⟩ := T_takes_I hS cl
  have hG : ∀ r S1, F_Query_takes V cl = (r, S1) → F_Query_goesOnWell V = (if r = 0 then ((0 : Int32), S1) else match F_Query_closes S1 c with | (r131, S131) => (if r131 = 0 then ((0 : Int32), S131) else ((1 : Int32), S131))) ∧ ((r = 0 ∨ Sf_Query_closes S1 c) → Sf_Query_goesOnWell V) := by
    intro r S1 hr
    unfold F_Query_goesOnWell Sf_Query_goesOnWell F_Query_goesOnWell_j24 Sf_Query_goesOnWell_j24 F_Query_goesOnWell_j141 F_Query_goesOnWell_j164
    rw [h9, if_neg nd, if_neg nd, e1, ea]
    rcases hcl with ⟨k, rfl⟩ | ⟨⟨k1, k2, k3, k4⟩, rfl⟩
    · rcases k with e | e
      · subst e
        simp (decide := true) only [hr, if_false, if_true]
        refine ⟨trivial, fun z => ⟨t2, ?_⟩⟩
        rcases z with z | z
        · rw [if_pos z]; trivial
        · split
          · trivial
          · exact ⟨z, trivial⟩
      · subst e
        simp (decide := true) only [hr, if_false, if_true]
        refine ⟨trivial, fun z => ⟨t2, ?_⟩⟩
        rcases z with z | z
        · rw [if_pos z]; trivial
        · split
          · trivial
          · exact ⟨z, trivial⟩
    · simp only [if_neg k1, if_neg k2, if_neg k3, if_neg k4, hr]
      refine ⟨trivial, fun z => ⟨t2, ?_⟩⟩
      rcases z with z | z
      · rw [if_pos z]; trivial
      · split
        · trivial
        · exact ⟨z, trivial⟩
  constructor
  · intro hne
    rw [if_neg hne] at t1
    obtain ⟨g1, g2⟩ := hG 0 V t1
    rw [if_pos rfl] at g1
    exact ⟨g1, g2 (Or.inl rfl)⟩
  · intro heq
    rw [if_pos heq] at t1
    obtain ⟨g1, g2⟩ := hG 1 _ t1
    rw [if_neg ne_10] at g1
    have hcl0 : cl ≠ 0 := by rcases hcl with ⟨-, e⟩ | ⟨-, e⟩ <;> rw [e] <;> decide
    have hq := sgn_lt heq hcl0
    generalize hU : z_uS (atP V (q + 1)) 19 9 (zI dep) = U
    have hfU : ∀ d, zFq z d V U := fun d => by rw [← hU]; exact (zFq.f (by omega) V _).trans (zFq.f (by omega) _ _) (Nat.le_refl _) (Nat.le_refl _)
    have hSU : zSc X U (q + 1) := hS.fq (hfU 0) (by rw [← hU, uS_nj _ _ _ (by omega)]; exact atP_p _ _) (by omega)
    have U25 : U 25 = V 25 := by rw [← hU, z_uS_ne _ _ _ (by omega), atP_ne _ _ (by omega)]
    obtain ⟨W, w1, w2, w3, w4, w5, w6⟩ := T_ends_I (T := U) (z := z) (dep := dep) (nb := nb) hSU (by rw [← hU, uS_nj _ _ _ (by omega), atP_nj _ _ (by omega)]; exact h8) (by rw [← hU, uS_at]) (by omega) hnb (by rw [U25]; exact h1) (by rw [U25]; exact h2) (a := c) (b := ty) (d := 0) (g := 0) ht1 (by decide)
    have eC : F_Query_closes (atP V (q + 1)) c = (1, W) ∧ Sf_Query_closes (atP V (q + 1)) c := by
      unfold F_Query_closes Sf_Query_closes
      rw [atP_nj _ _ (by omega), h9, e1, atP_ne _ _ (by omega), zAt_I (by omega) (by omega), hty, hU, w1]
      exact ⟨rfl, w2, rfl, trivial⟩
    rw [eC.1] at g1
    exact ⟨W, g1, g2 (Or.inr eC.2), w3, (hfU dep).trans (w4 dep) (Nat.le_refl _) (Nat.le_refl _), w5, w6⟩
