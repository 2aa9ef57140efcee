/-! PURE: queries: the text, said once for both -/
abbrev zTx := (Nat → Int32) × Nat
def sgn (X : zTx) (p : Nat) : Int32 := if X.2 ≤ p then 0 else X.1 p
def dv (X : zTx) (p : Nat) : Int32 := sgn X p - 48
def isD (X : zTx) (mx : Int32) (p : Nat) : Bool := decide (0 ≤ (dv X p).toInt ∧ (dv X p).toInt ≤ mx.toInt)
def isSm (c : Int32) : Bool := decide (c = 115) || (decide (c = 107) || (decide (c = 112) || (decide (c = 118) || (decide (c = 87) || decide (c = 66)))))
/-- a part without parts of its own, behind its sign: where it goes wrong, or its end and what it says -/
def lfS (X : zTx) (c : Int32) (p : Nat) : Nat ⊕ (Nat × Int32 × Int32 × Int32 × Int32) :=
  if isSm c = true then (if isD X 9 p = true then .inr (p + 1, c, dv X p, 0, 0) else .inl p)
  else if c = 97 then (if sgn X p = 120 then .inr (p + 1, 120, 0, 0, 0) else if isD X 9 p = true then .inr (p + 1, 97, dv X p, 0, 0) else .inl p)
  else if c = 102 then (if isD X 3 p = true then (if sgn X (p + 1) = 120 then .inr (p + 2, 102, dv X p, 120, 0) else if sgn X (p + 1) = 60 ∨ sgn X (p + 1) = 61 ∨ sgn X (p + 1) = 62 then (if isD X 9 (p + 2) = true then (if isD X 9 (p + 3) = true then .inr (p + 4, 102, dv X p, sgn X (p + 1), 10 * dv X (p + 2) + dv X (p + 3)) else .inl (p + 3)) else .inl (p + 2)) else .inl (p + 1)) else .inl p)
  else (if isD X 9 p = true then (if isD X 9 (p + 1) = true then .inr (p + 2, c, dv X p, dv X (p + 1), 0) else .inl (p + 1)) else .inl p)
def kd (c : Int32) : Nat := if c = 33 then 0 else if c = 40 then 1 else if c = 67 ∨ c = 85 then 2 else if c = 76 ∨ c = 73 then 3 else if isSm c = true ∨ c = 97 ∨ c = 102 ∨ c = 88 ∨ c = 68 then 4 else 5
theorem sgn_lt {X : zTx} {p : Nat} {c : Int32} (h : sgn X p = c) (hc : c ≠ 0) : p < X.2 := by
  unfold sgn at h
  by_cases q : X.2 ≤ p
  · rw [if_pos q] at h; exact absurd h.symm hc
  · omega
theorem isD_lt {X : zTx} {p : Nat} {mx : Int32} (h : isD X mx p = true) : p < X.2 := by
  unfold isD dv sgn at h
  by_cases q : X.2 ≤ p
  · rw [if_pos q] at h
    have := (of_decide_eq_true h).1
    exact absurd this (by decide)
  · omega
theorem isD_ne {X : zTx} {p : Nat} {mx : Int32} (h : isD X mx p = true) : dv X p ≠ -1 := by
  intro e
  have := (of_decide_eq_true h).1
  rw [e] at this
  exact absurd this (by decide)
theorem lfS_ok {X : zTx} {c : Int32} {p q : Nat} {s : Int32 × Int32 × Int32 × Int32} (h : lfS X c p = .inr (q, s)) : p < q ∧ q ≤ X.2 ∧ s.2.1 ≠ -1 ∧ s.2.2.1 ≠ -1 := by
  unfold lfS at h
  by_cases k1 : isSm c = true
  · rw [if_pos k1] at h
    by_cases d1 : isD X 9 p = true
    · rw [if_pos d1] at h; cases h; exact ⟨by omega, isD_lt d1, isD_ne d1, (show (0 : Int32) ≠ -1 by decide)⟩
    · rw [if_neg d1] at h; cases h
  rw [if_neg k1] at h
  by_cases k2 : c = 97
  · rw [if_pos k2] at h
    by_cases d0 : sgn X p = 120
    · rw [if_pos d0] at h; cases h; exact ⟨by omega, sgn_lt d0 (by decide), by decide, by decide⟩
    rw [if_neg d0] at h
    by_cases d1 : isD X 9 p = true
    · rw [if_pos d1] at h; cases h; exact ⟨by omega, isD_lt d1, isD_ne d1, (show (0 : Int32) ≠ -1 by decide)⟩
    · rw [if_neg d1] at h; cases h
  rw [if_neg k2] at h
  by_cases k3 : c = 102
  · rw [if_pos k3] at h
    by_cases d1 : isD X 3 p = true
    · rw [if_pos d1] at h
      by_cases d0 : sgn X (p + 1) = 120
      · rw [if_pos d0] at h; cases h; exact ⟨by omega, sgn_lt d0 (by decide), isD_ne d1, (show (120 : Int32) ≠ -1 by decide)⟩
      rw [if_neg d0] at h
      by_cases d2 : sgn X (p + 1) = 60 ∨ sgn X (p + 1) = 61 ∨ sgn X (p + 1) = 62
      · rw [if_pos d2] at h
        by_cases d3 : isD X 9 (p + 2) = true
        · rw [if_pos d3] at h
          by_cases d4 : isD X 9 (p + 3) = true
          · rw [if_pos d4] at h; cases h
            refine ⟨by omega, isD_lt d4, isD_ne d1, ?_⟩
            show sgn X (p + 1) ≠ -1
            rcases d2 with e | e | e <;> rw [e] <;> decide
          · rw [if_neg d4] at h; cases h
        · rw [if_neg d3] at h; cases h
      · rw [if_neg d2] at h; cases h
    · rw [if_neg d1] at h; cases h
  rw [if_neg k3] at h
  by_cases d1 : isD X 9 p = true
  · rw [if_pos d1] at h
    by_cases d4 : isD X 9 (p + 1) = true
    · rw [if_pos d4] at h; cases h; exact ⟨by omega, isD_lt d4, isD_ne d1, isD_ne d4⟩
    · rw [if_neg d4] at h; cases h
  · rw [if_neg d1] at h; cases h
theorem lfS_er {X : zTx} {c : Int32} {p e : Nat} (hp : p ≤ X.2) (h : lfS X c p = .inl e) : p ≤ e ∧ e ≤ X.2 := by
  unfold lfS at h
  by_cases k1 : isSm c = true
  · rw [if_pos k1] at h
    by_cases d1 : isD X 9 p = true
    · rw [if_pos d1] at h; cases h
    · rw [if_neg d1] at h; cases h; omega
  rw [if_neg k1] at h
  by_cases k2 : c = 97
  · rw [if_pos k2] at h
    by_cases d0 : sgn X p = 120
    · rw [if_pos d0] at h; cases h
    rw [if_neg d0] at h
    by_cases d1 : isD X 9 p = true
    · rw [if_pos d1] at h; cases h
    · rw [if_neg d1] at h; cases h; omega
  rw [if_neg k2] at h
  by_cases k3 : c = 102
  · rw [if_pos k3] at h
    by_cases d1 : isD X 3 p = true
    · rw [if_pos d1] at h
      have := isD_lt d1
      by_cases d0 : sgn X (p + 1) = 120
      · rw [if_pos d0] at h; cases h
      rw [if_neg d0] at h
      by_cases d2 : sgn X (p + 1) = 60 ∨ sgn X (p + 1) = 61 ∨ sgn X (p + 1) = 62
      · rw [if_pos d2] at h
        have hl : p + 1 < X.2 := by rcases d2 with e | e | e <;> exact sgn_lt e (by decide)
        by_cases d3 : isD X 9 (p + 2) = true
        · rw [if_pos d3] at h
          have := isD_lt d3
          by_cases d4 : isD X 9 (p + 3) = true
          · rw [if_pos d4] at h; cases h
          · rw [if_neg d4] at h; cases h; omega
        · rw [if_neg d3] at h; cases h; omega
      · rw [if_neg d2] at h; cases h; omega
    · rw [if_neg d1] at h; cases h; omega
  rw [if_neg k3] at h
  by_cases d1 : isD X 9 p = true
  · rw [if_pos d1] at h
    have := isD_lt d1
    by_cases d4 : isD X 9 (p + 1) = true
    · rw [if_pos d4] at h; cases h
    · rw [if_neg d4] at h; cases h; omega
  · rw [if_neg d1] at h; cases h; omega
theorem z_uS_same (S : Nat → Nat → Int32) (a j : Nat) : z_uS S a j (S a j) = S := by
  funext k
  by_cases q : k = a
  · subst q
    rw [z_uS_self]
    funext i
    show (if i = j then S k j else S k i) = S k i
    by_cases e : i = j
    · rw [if_pos e, e]
    · rw [if_neg e]
  · rw [z_uS_ne _ _ _ q]
/-! the class's scanner -/
def zSc (X : zTx) (T : Nat → Nat → Int32) (p : Nat) : Prop := T 19 7 = zI X.2 ∧ T 19 10 = zI p ∧ (∀ i, i < 30 → T 20 i = X.1 i ∧ zCh (X.1 i)) ∧ X.2 ≤ 30 ∧ p ≤ X.2
def atP (T : Nat → Nat → Int32) (q : Nat) : Nat → Nat → Int32 := z_uS T 19 10 (zI q)
theorem atP_atP (T : Nat → Nat → Int32) (q r : Nat) : atP (atP T q) r = atP T r := by
  unfold atP
  funext k
  by_cases h : k = 19
  · subst h
    funext i
    rw [z_uS_self, z_uS_self]
    show (if i = 10 then zI r else z_uS T 19 10 (zI q) 19 i) = if i = 10 then zI r else T 19 i
    rw [z_uS_self]
    by_cases e : i = 10
    · rw [if_pos e, if_pos e]
    · rw [if_neg e, if_neg e]; exact if_neg e
  · rw [z_uS_ne _ _ _ h, z_uS_ne _ _ _ h, z_uS_ne _ _ _ h]
theorem atP_ne (T : Nat → Nat → Int32) (q : Nat) {k : Nat} (h : k ≠ 19) : atP T q k = T k := z_uS_ne _ _ _ h
theorem atP_nj (T : Nat → Nat → Int32) (q : Nat) {j : Nat} (h : j ≠ 10) : atP T q 19 j = T 19 j := uS_nj _ _ _ h
theorem atP_p (T : Nat → Nat → Int32) (q : Nat) : atP T q 19 10 = zI q := uS_at _ _ _ _
theorem zSc.to {X : zTx} {T : Nat → Nat → Int32} {p q : Nat} (h : zSc X T p) (hq : q ≤ X.2) : zSc X (atP T q) q := by
  obtain ⟨h1, h2, h3, h4, h5⟩ := h
  exact ⟨by rw [atP_nj _ _ (by omega)]; exact h1, atP_p _ _, by rw [atP_ne _ _ (by omega)]; exact h3, h4, hq⟩
theorem zSc.self {X : zTx} {T : Nat → Nat → Int32} {p : Nat} (h : zSc X T p) : atP T p = T := by
  have := z_uS_same T 19 10
  rw [h.2.1] at this
  exact this
theorem T_sign_I {X : zTx} {T : Nat → Nat → Int32} {p : Nat} (h : zSc X T p) : F_Query_sign T = sgn X p ∧ Sf_Query_sign T := by
  obtain ⟨h1, h2, h3, h4, h5⟩ := h
  unfold F_Query_sign Sf_Query_sign sgn
  rw [h1, h2, if_neg (zI_n0 (by omega)), if_neg (zI_n0 (by omega))]
  by_cases q : X.2 ≤ p
  · rw [if_pos ((zI_le (by omega) (by omega)).mpr q), if_pos ((zI_le (by omega) (by omega)).mpr q), if_pos q]
    exact ⟨rfl, rfl, trivial⟩
  · have n30 : ¬ (30 : Int32) ≤ zI p := by rw [show (30 : Int32) = zI 30 from rfl, zI_le (by omega) (by omega)]; omega
    rw [if_neg (fun z => q ((zI_le (by omega) (by omega)).mp z)), if_neg (fun z => q ((zI_le (by omega) (by omega)).mp z)), if_neg q, if_neg n30, if_neg n30, zI_clamp (by omega)]
    obtain ⟨e1, e2⟩ := h3 p (by omega)
    rw [e1]
    exact ⟨rfl, vp_in_I (by omega) (by omega), e2, trivial⟩
theorem T_takes_I {X : zTx} {T : Nat → Nat → Int32} {p : Nat} (h : zSc X T p) (c : Int32) : F_Query_takes T c = (if sgn X p = c then (1, atP T (p + 1)) else (0, T)) ∧ Sf_Query_takes T c := by
  obtain ⟨s1, s2⟩ := T_sign_I h
  unfold F_Query_takes Sf_Query_takes F_Query_takes_j13 Sf_Query_takes_j13
  rw [s1]
  by_cases q : sgn X p = c
  · simp only [if_pos q, if_neg ne_10]
    rw [h.2.1, zI_succ]
    exact ⟨rfl, s2, rfl, trivial⟩
  · simp only [if_neg q, if_true]
    rw [show T 19 10 + 0 = T 19 10 from Int32.add_zero _, z_uS_same]
    exact ⟨rfl, s2, rfl, trivial⟩
theorem T_digit_I {X : zTx} {T : Nat → Nat → Int32} {p : Nat} (h : zSc X T p) (mx : Int32) : F_Query_digit T mx = (if isD X mx p = true then (dv X p, atP T (p + 1)) else (-1, T)) ∧ Sf_Query_digit T mx := by
  obtain ⟨s1, s2⟩ := T_sign_I h
  unfold F_Query_digit Sf_Query_digit F_Query_digit_j21 F_Query_digit_j22 F_Query_digit_j37
  rw [s1]
  refine ⟨?_, s2, trivial⟩
  show (if dv X p < 0 then _ else if mx < dv X p then _ else _) = _
  have e0 : T 19 10 + 0 = T 19 10 := Int32.add_zero _
  have e1 : z_uS T 19 10 (T 19 10 + 1) = atP T (p + 1) := by rw [h.2.1, zI_succ]; rfl
  by_cases q1 : dv X p < 0
  · have hn : ¬ isD X mx p = true := fun z => by
      have a := (of_decide_eq_true z).1
      rw [T_lt] at q1
      have : (0 : Int32).toInt = 0 := rfl
      omega
    simp only [if_pos q1, if_true, e0, z_uS_same, if_neg hn]
  · by_cases q2 : mx < dv X p
    · have hn : ¬ isD X mx p = true := fun z => by
        have a := (of_decide_eq_true z).2
        rw [T_lt] at q2
        omega
      simp only [if_neg q1, if_pos q2, if_true, e0, z_uS_same, if_neg hn]
    · have hn : isD X mx p = true := decide_eq_true (by
        rw [T_lt] at q1 q2
        have : (0 : Int32).toInt = 0 := rfl
        omega)
      simp only [if_neg q1, if_neg q2, if_neg ne_10, e1, if_pos hn]
      rfl
