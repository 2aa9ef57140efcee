/-! PURE: queries: the class's parts without parts of their own; what ends with them -/
theorem isSm_cases {c : Int32} (h : isSm c = true) : c = 115 ∨ c = 107 ∨ c = 112 ∨ c = 118 ∨ c = 87 ∨ c = 66 := by
  unfold isSm at h
  simp only [Bool.or_eq_true, decide_eq_true_eq] at h
  exact h
/-- what the class makes of a sign and what follows -/
def zLf (X : zTx) (T : Nat → Nat → Int32) (p : Nat) (c : Int32) (F : Int32 × (Nat → Nat → Int32)) (sF : Prop) : Prop :=
  (∀ e, lfS X c (p + 1) = .inl e → F = (0, atP T e) ∧ sF) ∧
    ∀ q a b d g W, lfS X c (p + 1) = .inr (q, a, b, d, g) → F_Query_ends (atP T q) a b d g = (1, W) → Sf_Query_ends (atP T q) a b d g → F = (1, W) ∧ sF
theorem ends_m1 (T : Nat → Nat → Int32) (a d g : Int32) : F_Query_ends T a (-1) d g = (0, T) ∧ Sf_Query_ends T a (-1) d g := by
  unfold F_Query_ends Sf_Query_ends
  rw [if_pos rfl, if_pos rfl]
  exact ⟨rfl, trivial⟩
theorem leaf_sm {X : zTx} {T : Nat → Nat → Int32} {p : Nat} {c : Int32} (h1 : zSc X (atP T (p + 1)) (p + 1)) (k : isSm c = true) :
    zLf X T p c (match F_Query_digit (atP T (p + 1)) 9 with | (r239, S239) => (match F_Query_ends S239 c r239 0 0 with | (r244, S244) => (if r244 = 0 then ((0 : Int32), S244) else ((1 : Int32), S244)))) (Sf_Query_digit (atP T (p + 1)) 9 ∧ (match F_Query_digit (atP T (p + 1)) 9 with | (r239, S239) => (Sf_Query_ends S239 c r239 0 0 ∧ True))) := by
  obtain ⟨d1, d2⟩ := T_digit_I h1 9
  rw [atP_atP] at d1
  unfold zLf lfS
  rw [if_pos k]
  by_cases q : isD X 9 (p + 1) = true
  · rw [if_pos q] at d1 ⊢
    refine ⟨(fun e he => by cases he), fun q a b d g W he hE hS => ?_⟩
    cases he
    simp only [d1, hE, if_neg ne_10]
    exact ⟨trivial, d2, hS, trivial⟩
  · rw [if_neg q] at d1 ⊢
    refine ⟨fun e he => ?_, (fun q a b d g W he hE hS => by cases he)⟩
    cases he
    simp only [d1, (ends_m1 _ _ _ _).1, if_true]
    exact ⟨trivial, d2, (ends_m1 _ _ _ _).2, trivial⟩
theorem leaf_2 {X : zTx} {T : Nat → Nat → Int32} {p : Nat} {c : Int32} (h1 : zSc X (atP T (p + 1)) (p + 1)) (k : c = 88 ∨ c = 68) :
    zLf X T p c (match F_Query_digit (atP T (p + 1)) 9 with | (r323, S323) => (match F_Query_endsWithTwo S323 c r323 with | (r326, S326) => (if r326 = 0 then ((0 : Int32), S326) else ((1 : Int32), S326)))) (Sf_Query_digit (atP T (p + 1)) 9 ∧ (match F_Query_digit (atP T (p + 1)) 9 with | (r323, S323) => (Sf_Query_endsWithTwo S323 c r323 ∧ True))) := by
  obtain ⟨d1, d2⟩ := T_digit_I h1 9
  rw [atP_atP] at d1
  have k1 : ¬ isSm c = true := by rcases k with e | e <;> rw [e] <;> decide
  have k2 : ¬ c = 97 := by rcases k with e | e <;> rw [e] <;> decide
  have k3 : ¬ c = 102 := by rcases k with e | e <;> rw [e] <;> decide
  unfold zLf lfS
  rw [if_neg k1, if_neg k2, if_neg k3]
  unfold F_Query_endsWithTwo Sf_Query_endsWithTwo F_Query_endsWithTwo_j25
  by_cases q : isD X 9 (p + 1) = true
  · rw [if_pos q] at d1 ⊢
    have h2 : zSc X (atP T (p + 1 + 1)) (p + 1 + 1) := by have := h1.to (q := p + 1 + 1) (isD_lt q); rwa [atP_atP] at this
    obtain ⟨e1, e2⟩ := T_digit_I h2 9
    rw [atP_atP] at e1
    simp only [d1, if_neg (isD_ne q)]
    by_cases q2 : isD X 9 (p + 1 + 1) = true
    · rw [if_pos q2] at e1 ⊢
      refine ⟨(fun e he => by cases he), fun q a b d g W he hE hS => ?_⟩
      cases he
      simp only [e1, hE, if_neg ne_10]
      exact ⟨trivial, d2, ⟨e2, hS, trivial⟩, trivial⟩
    · rw [if_neg q2] at e1 ⊢
      refine ⟨fun e he => ?_, (fun q a b d g W he hE hS => by cases he)⟩
      cases he
      simp only [e1]
      unfold F_Query_ends Sf_Query_ends
      simp only [if_neg (isD_ne q), if_true]
      exact ⟨trivial, d2, ⟨e2, trivial, trivial⟩, trivial⟩
  · rw [if_neg q] at d1 ⊢
    refine ⟨fun e he => ?_, (fun q a b d g W he hE hS => by cases he)⟩
    cases he
    simp only [d1, if_true]
    exact ⟨trivial, d2, trivial, trivial⟩
theorem leaf_a {X : zTx} {T : Nat → Nat → Int32} {p : Nat} (h1 : zSc X (atP T (p + 1)) (p + 1)) :
    zLf X T p 97 (match F_Query_takes (atP T (p + 1)) 120 with | (r267, S267) => (if r267 = 0 then (match F_Query_digit S267 9 with | (r293, S293) => (match F_Query_ends S293 97 r293 0 0 with | (r298, S298) => (if r298 = 0 then ((0 : Int32), S298) else ((1 : Int32), S298)))) else (match F_Query_ends S267 120 0 0 0 with | (r279, S279) => (if r279 = 0 then ((0 : Int32), S279) else ((1 : Int32), S279)))))
      (Sf_Query_takes (atP T (p + 1)) 120 ∧ (match F_Query_takes (atP T (p + 1)) 120 with | (r267, S267) => (if r267 = 0 then (Sf_Query_digit S267 9 ∧ (match F_Query_digit S267 9 with | (r293, S293) => (Sf_Query_ends S293 97 r293 0 0 ∧ True))) else (Sf_Query_ends S267 120 0 0 0 ∧ True)))) := by
  obtain ⟨d1, d2⟩ := T_digit_I h1 9
  obtain ⟨t1, t2⟩ := T_takes_I h1 120
  rw [atP_atP] at d1 t1
  unfold zLf lfS
  rw [if_neg (show ¬ isSm 97 = true by decide), if_pos rfl]
  by_cases q0 : sgn X (p + 1) = 120
  · rw [if_pos q0] at t1 ⊢
    refine ⟨(fun e he => by cases he), fun q a b d g W he hE hS => ?_⟩
    cases he
    simp only [t1, if_neg ne_10, hE]
    exact ⟨trivial, t2, hS, trivial⟩
  · rw [if_neg q0] at t1 ⊢
    by_cases q : isD X 9 (p + 1) = true
    · rw [if_pos q] at d1 ⊢
      refine ⟨(fun e he => by cases he), fun q a b d g W he hE hS => ?_⟩
      cases he
      simp only [t1, if_true, d1, hE, if_neg ne_10]
      exact ⟨trivial, t2, d2, hS, trivial⟩
    · rw [if_neg q] at d1 ⊢
      refine ⟨fun e he => ?_, (fun q a b d g W he hE hS => by cases he)⟩
      cases he
      simp only [t1, if_true, d1, (ends_m1 _ _ _ _).1]
      exact ⟨trivial, t2, d2, (ends_m1 _ _ _ _).2, trivial⟩
theorem leaf_f {X : zTx} {T : Nat → Nat → Int32} {p : Nat} (h1 : zSc X (atP T (p + 1)) (p + 1)) :
    zLf X T p 102 (match F_Query_digit (atP T (p + 1)) 3 with | (r349, S349) => (match F_Query_compares S349 r349 with | (r352, S352) => (if r352 = 0 then ((0 : Int32), S352) else ((1 : Int32), S352))))
      (Sf_Query_digit (atP T (p + 1)) 3 ∧ (match F_Query_digit (atP T (p + 1)) 3 with | (r349, S349) => (Sf_Query_compares S349 r349 ∧ True))) := by
  obtain ⟨d1, d2⟩ := T_digit_I h1 3
  rw [atP_atP] at d1
  unfold zLf lfS
  rw [if_neg (show ¬ isSm 102 = true by decide), if_neg (show ¬ (102 : Int32) = 97 by decide), if_pos rfl]
  by_cases q : isD X 3 (p + 1) = true
  case neg =>
    rw [if_neg q] at d1 ⊢
    refine ⟨fun e he => ?_, (fun q a b d g W he hE hS => by cases he)⟩
    cases he
    simp only [d1]
    unfold F_Query_compares Sf_Query_compares
    simp only [if_true]
    exact ⟨trivial, d2, ⟨(T_sign_I h1).2, trivial⟩, trivial⟩
  rw [if_pos q] at d1 ⊢
  have h2 : zSc X (atP T (p + 1 + 1)) (p + 1 + 1) := by have := h1.to (q := p + 1 + 1) (isD_lt q); rwa [atP_atP] at this
  obtain ⟨s1, s2⟩ := T_sign_I h2
  simp only [d1]
  have hj : ∀ x, sgn X (p + 1 + 1) = x → x ≠ 0 → F_Query_takes (atP T (p + 1 + 1)) x = (1, atP T (p + 1 + 1 + 1)) ∧ Sf_Query_takes (atP T (p + 1 + 1)) x ∧ zSc X (atP T (p + 1 + 1 + 1)) (p + 1 + 1 + 1) := by
    intro x hx h0
    obtain ⟨t1, t2⟩ := T_takes_I h2 x
    rw [if_pos hx, atP_atP] at t1
    have := h2.to (q := p + 1 + 1 + 1) (sgn_lt hx h0)
    rw [atP_atP] at this
    exact ⟨t1, t2, this⟩
  by_cases q0 : sgn X (p + 1 + 1) = 120
  · rw [if_pos q0]
    obtain ⟨t1, t2, h3⟩ := hj 120 q0 (by decide)
    refine ⟨(fun e he => by cases he), fun q' a b d g W he hE hS => ?_⟩
    cases he
    have hE' : F_Query_ends (atP T (p + 1 + 1 + 1)) 102 (dv X (p + 1)) 120 (10 * 0 + 0) = (1, W) := hE
    have hS' : Sf_Query_ends (atP T (p + 1 + 1 + 1)) 102 (dv X (p + 1)) 120 (10 * 0 + 0) := hS
    unfold F_Query_compares Sf_Query_compares
    rw [s1, q0]
    simp only [if_neg (isD_ne q), if_neg (show ¬ (120 : Int32) = 60 by decide), if_neg (show ¬ (120 : Int32) = 61 by decide), if_neg (show ¬ (120 : Int32) = 62 by decide), if_true]
    unfold F_Query_compares_j34 Sf_Query_compares_j34
    simp only [t1, if_neg ne_10, if_true]
    unfold F_Query_compares_j60 Sf_Query_compares_j60 F_Query_compares_j72 Sf_Query_compares_j72 F_Query_compares_j82 Sf_Query_compares_j82
    simp only [if_true, if_neg (show ¬ (0 : Int32) = -1 by decide), hE', if_neg ne_10]
    exact ⟨trivial, d2, ⟨s2, t2, hS', trivial⟩, trivial⟩
  rw [if_neg q0]
  by_cases q1 : sgn X (p + 1 + 1) = 60 ∨ sgn X (p + 1 + 1) = 61 ∨ sgn X (p + 1 + 1) = 62
  case neg =>
    rw [if_neg q1]
    refine ⟨fun e he => ?_, (fun q a b d g W he hE hS => by cases he)⟩
    cases he
    unfold F_Query_compares Sf_Query_compares
    rw [s1]
    simp only [if_neg (isD_ne q), if_neg (fun z => q1 (Or.inl z)), if_neg (fun z => q1 (Or.inr (Or.inl z))), if_neg (fun z => q1 (Or.inr (Or.inr z))), if_neg q0, if_true]
    exact ⟨trivial, d2, ⟨s2, trivial⟩, trivial⟩
  rw [if_pos q1]
  generalize hx : sgn X (p + 1 + 1) = x at q0 q1 s1 ⊢
  have hx0 : x ≠ 0 := by rcases q1 with e | e | e <;> rw [e] <;> decide
  obtain ⟨t1, t2, h3⟩ := hj x hx hx0
  obtain ⟨e1, e2⟩ := T_digit_I h3 9
  rw [atP_atP] at e1
  have key : F_Query_compares (atP T (p + 1 + 1)) (dv X (p + 1)) = F_Query_compares_j34 (atP T (p + 1 + 1)) (dv X (p + 1)) x ∧ (Sf_Query_compares_j34 (atP T (p + 1 + 1)) (dv X (p + 1)) x → Sf_Query_compares (atP T (p + 1 + 1)) (dv X (p + 1))) := by
    unfold F_Query_compares Sf_Query_compares
    rw [s1]
    simp only [if_neg (isD_ne q)]
    rcases q1 with e | e | e
    · subst e; simp only [if_true]; exact ⟨trivial, fun z => ⟨s2, z⟩⟩
    · subst e; simp only [if_true, if_neg (show ¬ (61 : Int32) = 60 by decide)]; exact ⟨trivial, fun z => ⟨s2, z⟩⟩
    · subst e; simp only [if_true, if_neg (show ¬ (62 : Int32) = 60 by decide), if_neg (show ¬ (62 : Int32) = 61 by decide)]; exact ⟨trivial, fun z => ⟨s2, z⟩⟩
  obtain ⟨k1, k2⟩ := key
  simp only [k1]
  unfold F_Query_compares_j34 at *
  unfold Sf_Query_compares_j34 at k2
  simp only [t1, if_neg ne_10, if_neg q0] at k2 ⊢
  by_cases q3 : isD X 9 (p + 1 + 2) = true
  case neg =>
    have q3' : ¬ isD X 9 (p + 1 + 1 + 1) = true := q3
    rw [if_neg q3]
    rw [if_neg q3'] at e1
    refine ⟨fun e he => ?_, (fun q a b d g W he hE hS => by cases he)⟩
    cases he
    simp only [e1, if_true] at k2 ⊢
    unfold F_Query_compares_j72 F_Query_compares_j82 F_Query_compares_j117
    unfold Sf_Query_compares_j72 Sf_Query_compares_j82 at k2
    simp only [if_true] at k2 ⊢
    exact ⟨trivial, d2, k2 ⟨t2, e2, trivial⟩, trivial⟩
  have q3' : isD X 9 (p + 1 + 1 + 1) = true := q3
  rw [if_pos q3]
  rw [if_pos q3'] at e1
  have h4 : zSc X (atP T (p + 1 + 1 + 1 + 1)) (p + 1 + 1 + 1 + 1) := by have := h3.to (q := p + 1 + 1 + 1 + 1) (isD_lt q3'); rwa [atP_atP] at this
  obtain ⟨f1, f2⟩ := T_digit_I h4 9
  rw [atP_atP] at f1
  simp only [e1, if_neg (isD_ne q3')] at k2 ⊢
  by_cases q4 : isD X 9 (p + 1 + 3) = true
  · have q4' : isD X 9 (p + 1 + 1 + 1 + 1) = true := q4
    rw [if_pos q4]
    rw [if_pos q4'] at f1
    refine ⟨(fun e he => by cases he), fun q' a b d g W he hE hS => ?_⟩
    cases he
    have hE' : F_Query_ends (atP T (p + 1 + 1 + 1 + 1 + 1)) 102 (dv X (p + 1)) x (10 * dv X (p + 1 + 1 + 1) + dv X (p + 1 + 1 + 1 + 1)) = (1, W) := hE
    simp only [f1, if_neg (isD_ne q4'), hE', if_neg ne_10] at k2 ⊢
    exact ⟨trivial, d2, k2 ⟨t2, e2, f2, hS, trivial⟩, trivial⟩
  · have q4' : ¬ isD X 9 (p + 1 + 1 + 1 + 1) = true := q4
    rw [if_neg q4]
    rw [if_neg q4'] at f1
    refine ⟨fun e he => ?_, (fun q a b d g W he hE hS => by cases he)⟩
    cases he
    unfold F_Query_compares_j117
    simp only [f1, if_true] at k2 ⊢
    exact ⟨trivial, d2, k2 ⟨t2, e2, f2, trivial⟩, trivial⟩
