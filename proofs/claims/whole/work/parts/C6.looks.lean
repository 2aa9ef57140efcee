/-! PURE: queries: what both read, before they find -/
def zWF : List zLoc := [(18, none), (19, some 8), (19, some 9), (19, some 10), (19, some 11), (21, none), (22, none), (23, none), (24, none), (25, none), (26, none), (27, some 5), (28, some 3), (29, none), (30, none), (31, none), (32, none), (33, none), (34, none), (35, none), (36, some 8), (36, some 9), (41, none), (42, none), (78, some 0), (78, some 13), (78, some 52), (78, some 53), (78, some 54), (98, none), (99, none), (100, none), (101, none), (102, none), (103, none), (104, none), (105, none), (106, none), (107, none), (108, none), (109, none), (122, none), (123, none), (186, none), (187, none), (188, none), (189, none), (190, none), (191, none), (193, none)]
theorem zWQ.f {S V : Nat → Nat → Int32} (h : zWr zWQ S V) : zWr zWF S V := h.mono (by decide)
theorem zFw.wr {S V : Nat → Nat → Int32} (h : zFw S V) : zWr zWF S V := by
  intro k j hc
  by_cases q : k = 27
  · have j8 := zCov.nj hc (a := 27) (s := 5) (by decide) (by omega) q
    subst q; exact h.2.1 j j8
  · by_cases q2 : k = 28
    · have j8 := zCov.nj hc (a := 28) (s := 3) (by decide) (by omega) q2
      subst q2; exact h.2.2 j j8
    · have n1 := zCov.ne hc (a := 29) (by decide) (by omega)
      have n2 := zCov.ne hc (a := 30) (by decide) (by omega)
      have n3 := zCov.ne hc (a := 31) (by decide) (by omega)
      have n4 := zCov.ne hc (a := 32) (by decide) (by omega)
      have n5 := zCov.ne hc (a := 33) (by decide) (by omega)
      have n6 := zCov.ne hc (a := 34) (by decide) (by omega)
      have n7 := zCov.ne hc (a := 35) (by decide) (by omega)
      rw [h.1 k (by omega)]
theorem zFL.wf {S V : Nat → Nat → Int32} (h : zFL S V) : zWr zWF S V := h.wr (by decide) (by decide) (by decide) (by decide)
theorem zFa.wr {S V : Nat → Nat → Int32} (h : zFa S V) : zWr zWF S V := by
  intro k j hc
  by_cases q : k = 78
  · have j8 := zCov.nj hc (a := 78) (s := 13) (by decide) (by omega) q
    subst q; exact h.2 j j8
  · have n0 := zCov.ne hc (a := 98) (by decide) (by omega)
    have n1 := zCov.ne hc (a := 99) (by decide) (by omega)
    have n2 := zCov.ne hc (a := 100) (by decide) (by omega)
    have n3 := zCov.ne hc (a := 101) (by decide) (by omega)
    have n4 := zCov.ne hc (a := 102) (by decide) (by omega)
    have n5 := zCov.ne hc (a := 103) (by decide) (by omega)
    have n6 := zCov.ne hc (a := 104) (by decide) (by omega)
    have n7 := zCov.ne hc (a := 105) (by decide) (by omega)
    have n8 := zCov.ne hc (a := 106) (by decide) (by omega)
    have n9 := zCov.ne hc (a := 107) (by decide) (by omega)
    have m0 := zCov.ne hc (a := 108) (by decide) (by omega)
    have m1 := zCov.ne hc (a := 109) (by decide) (by omega)
    have m2 := zCov.ne hc (a := 122) (by decide) (by omega)
    have m3 := zCov.ne hc (a := 123) (by decide) (by omega)
    rw [h.1 k q (by omega) m2 m3]
theorem zWf.one {S V : Nat → Nat → Int32} {a : Nat} (ha : (if a < 194 then a else 194, none) ∈ zWF) (h : ∀ k, k ≠ a → V k = S k) : zWr zWF S V := by
  intro k j hc
  by_cases q : k = a
  · subst q
    have : zCov zWF k j = true := List.any_eq_true.mpr ⟨_, ha, by simp⟩
    rw [this] at hc; cases hc
  · rw [h k q]
/-- which entries are read; what is read -/
def qSel (S : Nat → Nat → Int32) (L : zLg) (D : Int32) (p : Nat) (b : Bool) : zWd → Nat → Bool := if b = true then selX L (S 0 15) p else selU L D
def qQ (S : Nat → Nat → Int32) (A : zA) (D : Int32) (p : Nat) (b : Bool) : zVq := vGo A.1 (qSel S A.1 D p b) (vW0 S) A.2.1
theorem zB0.vl {fl : Nat → Nat} {S : Nat → Nat → Int32} {d : Nat} {A : zA} {rn : Nat} (h : zB0 fl S d A rn) : vLg A.1 A.2.1 := ⟨h.ok.1, h.ok.2.1, ⟨d, h.ok.2.2.2.2, h.ok.2.2.1⟩, h.n⟩
theorem qKn {fl : Nat → Nat} {S : Nat → Nat → Int32} {d : Nat} {A : zA} {rn : Nat} (h : zB0 fl S d A rn) (D : Int32) (p : Nat) (b : Bool) : vKn A.1 (qSel S A.1 D p b) (vW0 S) A.2.1 := by
  have hn := h.n
  unfold qSel
  cases b
  · exact vKn_U h.ok.1 h.ok.2.1 h.ok.2.2.1 h.ok.2.2.2.2 (Eq.refl _)
  · exact vKn_X h.ok.1 h.ok.2.1 (by omega) (Eq.refl _)
theorem qVI {fl : Nat → Nat} {S : Nat → Nat → Int32} {d : Nat} {A : zA} {rn : Nat} (h : zB0 fl S d A rn) (D : Int32) (p : Nat) (b : Bool) : vI A.1 A.2.1 (qQ S A D p b) := vI.all h.ok.1 h.ok.2.1 (qKn h D p b) (Eq.refl _) (vW0_rg S) _ (Nat.le_refl _)
theorem vGo_sel {L : zLg} {sel : zWd → Nat → Bool} {w0 : zWd} {n : Nat} {P : Nat → Prop} (hP : ∀ w k, k < n → sel w k = true → P k) : ∀ k, k ≤ n → ∀ i, i < (vGo L sel w0 k).2.1 → P ((vGo L sel w0 k).2.2.1 i) := by
  intro k
  induction k with
  | zero => intro _ i hi; exact absurd hi (Nat.not_lt_zero _)
  | succ k ih =>
    intro hk i hi
    unfold vGo at hi ⊢
    by_cases q : sel (vGo L sel w0 k).1 k = true
    · rw [if_pos q] at hi ⊢
      by_cases q2 : i = (vGo L sel w0 k).2.1
      · rw [q2, (vNx_at _ _ _).1]; exact hP _ k (by omega) q
      · have : i < (vGo L sel w0 k).2.1 := by
          have : i < (vGo L sel w0 k).2.1 + 1 := hi
          omega
        rw [vNx_lk _ _ _ i this]; exact ih (by omega) i this
    · rw [if_neg q] at hi ⊢; exact ih (by omega) i hi
theorem qDays {fl : Nat → Nat} {S : Nat → Nat → Int32} {d : Nat} {A : zA} {rn : Nat} (h : zB0 fl S d A rn) {D : Int32} {p : Nat} {b : Bool} (hb : b = true → D = zI d) : ∀ i, i < (qQ S A D p b).2.1 → ((A.1 ((qQ S A D p b).2.2.1 i)).2.1 : Int) ≤ D.toInt := by
  have hd : d ≤ 400 := h.ok.2.2.2.2
  have hD := h.ok.2.2.1.1
  refine vGo_sel (n := A.2.1) (P := fun k => ((A.1 k).2.1 : Int) ≤ D.toInt) (fun w k hk hs => ?_) _ (Nat.le_refl _)
  have := hD k hk
  cases b
  · have hs : decide (zI (A.1 k).2.1 ≤ D) = true := hs
    have := T_le.mp (of_decide_eq_true hs)
    rw [zI_toInt (by omega)] at this
    exact this
  · show ((A.1 k).2.1 : Int) ≤ D.toInt
    rw [hb (Eq.refl _), zI_toInt (by omega)]
    omega
/-- the class: looks with one's own view -/
theorem sight_I {fl : Nat → Nat} {S : Nat → Nat → Int32} {d : Nat} {A : zA} {rn : Nat} (h : zB0 fl S d A rn) {p : Nat} (hp : p < 8) {D : Int32} {b : Bool} {W : Nat → Nat → Int32} (hW : ∀ k, 37 ≤ k → k ≤ 49 → W k = S k) (hv : vC W A.1 (qQ S A D p b)) (h5 : W 27 5 = D) : ∃ V, F_Sight_look 28 W (zI p) = V ∧ Sf_Sight_look 28 W (zI p) ∧ zFd S V p A.1 (qQ S A D p b) D ∧ zFL W V := by
  have hg := (qVI h D p b).2.2.2.1
  have hE : eV S W := fun k hk => hW k (by omega) (by omega)
  obtain ⟨V, v1, v2, v3, v4⟩ := Sight_look_I (r := 28) (by omega) hE hv.1 hg hp
  exact ⟨V, v1, v2, ⟨hv.ag (fun k a b => v3.1 k (by omega) (by omega) (by omega)), v4, hE.fl v3, h.k, hg, by rw [v3.1 27 (by omega) (by omega) (by omega)]; exact h5⟩, v3⟩
theorem vW0_eq {S V : Nat → Nat → Int32} (e : V 29 = S 29) : vW0 V = vW0 S := by unfold vW0; rw [e]
theorem lookOn_I {fl : Nat → Nat} {S : Nat → Nat → Int32} {d : Nat} {A : zA} {rn : Nat} (h : zB0 fl S d A rn) {p : Nat} (hp : p < 8) {D : Int32} {V : Nat → Nat → Int32} (hV : zFq 0 0 S V) : ∃ W, F_T_lookOn V (zI p) D = W ∧ Sf_T_lookOn V (zI p) D ∧ zFd S W p A.1 (qQ S A D p (decide (D = zI d))) D ∧ zWr zWF V W ∧ ∀ k, k < 27 ∨ 42 < k → W k = V k := by
  have hs : ∀ k, k ≠ 19 → ¬ (21 ≤ k ∧ k ≤ 26) → V k = S k := hV.1
  have lg : zLgC A.1 A.2.1 V := h.c.1.ag (by rw [hs 1 (by omega) (by omega)]) (fun k a b => hs k (by omega) (by omega))
  have e14 : V 0 14 = zI d := by rw [hs 0 (by omega) (by omega)]; exact h.d
  have e15 : V 0 15 = S 0 15 := by rw [hs 0 (by omega) (by omega)]
  have w0 := vW0_eq (hs 29 (by omega) (by omega))
  by_cases q : D = zI d
  · rw [decide_eq_true q]
    obtain ⟨W, w1, w2, w3, w4, w5⟩ := readIndexed_I h.vl hp lg (V 0 15) D
    rw [w0, e15] at w3
    obtain ⟨X, x1, x2, x3, x4⟩ := sight_I h hp (D := D) (b := true) (fun k a b => (w4.1 k (by omega)).trans (hs k (by omega) (by omega))) w3 w5
    have e : V 0 14 = D := e14.trans q.symm
    refine ⟨X, ?_, ?_, x3, w4.wr.trans x4.wf, fun k hk => (x4.1 k (by omega) (by omega) (by omega)).trans (w4.1 k (by omega))⟩
    · unfold F_T_lookOn F_T_lookOn_j43; rw [if_pos e.symm, e, w1]; simp only [z_let]; exact x1
    · unfold Sf_T_lookOn Sf_T_lookOn_j43; rw [if_pos e.symm, e, w1]; simp only [z_let]; exact ⟨w2, x2, trivial⟩
  · rw [decide_eq_false q]
    obtain ⟨W, w1, w2, w3, w4, w5⟩ := readUpTo_I h.vl lg D
    rw [w0] at w3
    obtain ⟨X, x1, x2, x3, x4⟩ := sight_I h hp (D := D) (b := false) (fun k a b => (w4.1 k (by omega)).trans (hs k (by omega) (by omega))) w3 w5
    have e : ¬ D = V 0 14 := fun z => q (z.trans e14)
    refine ⟨X, ?_, ?_, x3, w4.wr.trans x4.wf, fun k hk => (x4.1 k (by omega) (by omega) (by omega)).trans (w4.1 k (by omega))⟩
    · unfold F_T_lookOn; rw [if_neg e, w1]; simp only [z_let]; exact x1
    · unfold Sf_T_lookOn; rw [if_neg e, w1]; simp only [z_let]; exact ⟨w2, x2, trivial⟩
/-- the reference asks -/
theorem asked_I {fl : Nat → Nat} {S : Nat → Nat → Int32} {d : Nat} {A : zA} {rn : Nat} (h : zB0 fl S d A rn) (hI : zCI S) {p : Nat} (hp : p < 8) {D : Int32} {b : Bool} (hb : b = true → D = zI d) {U : Nat → Nat → Int32} (hU : ∀ k, 79 ≤ k → k < 186 → U k = S k) (h2 : U 78 2 = S 78 2) (h16 : U 78 16 = S 78 16) : ∃ W, F_M_asks U (zI p) D (bI b) = W ∧ Sf_M_asks U (zI p) D (bI b) ∧ zRf S W p A.1 A.2.1 (qQ S A D p b) D ∧ zFa U W := by
  have hd : d ≤ 400 := h.ok.2.2.2.2
  have hDd := h.ok.2.2.1.1
  have hbm := h.bm (zFX.rfl (S := S))
  have lg : zLgM A.1 A.2.1 U := h.m.1.ag h2 (fun k a b => hU k (by omega) (by omega))
  have hsel : ∀ w k, k < A.2.1 → qSel S A.1 D p b w k = (decide (zI (A.1 k).2.1 ≤ D) && (!b || (decide (zI k < S 0 15) || (decide ((A.1 k).2.2 = p) && (decide ((A.1 k).1.1 = 0) || (decide ((A.1 k).1.1 = 1) || w.1 (A.1 k).1.2.1)))))) := by
    intro w k hk
    cases b
    · show decide (zI (A.1 k).2.1 ≤ D) = _
      simp only [Bool.not_false, Bool.true_or, Bool.and_true]
    · have := hDd k hk
      have e : decide (zI (A.1 k).2.1 ≤ D) = true := decide_eq_true (by rw [hb (Eq.refl _), zI_le (by omega) (by omega)]; exact this)
      rw [e]
      show selX A.1 (S 0 15) p w k = _
      simp only [Bool.not_true, Bool.false_or, Bool.true_and]
      rfl
  obtain ⟨W, w1, w2, w3, w4⟩ := asks_I (ix := S 0 15) (U := U) h.vl hp (Eq.refl _) (Eq.refl _) (Eq.refl _) (vW0_rg S) (qKn h D p b) hsel lg (by rw [h16]; exact hI.symm)
  have hv := qVI h D p b
  have hy : eY S W := by
    have g := hbm.y
    have e : ∀ k, 124 ≤ k → k ≤ 130 → W k = S k := fun k a b => (w4.1 k (by omega) (by omega) (by omega) (by omega)).trans (hU k (by omega) (by omega))
    refine ⟨fun k hk => ?_, fun k hk => ?_⟩
    · rw [e 124 (by omega) (by omega), e 125 (by omega) (by omega), e 126 (by omega) (by omega), e 128 (by omega) (by omega), e 129 (by omega) (by omega), e 130 (by omega) (by omega)]; exact g.1 k hk
    · rw [e 127 (by omega) (by omega)]; exact g.2 k hk
  exact ⟨W, w1, w2, ⟨⟨w3, lg.fa w4, h.ok.1, h.ok.2.1, h.n, hv, qDays h hb, d, hd, h.ok.2.2.1⟩, hy, h.k, hv.2.2.2.1, vCm_all h.ok.1 h.ok.2.1 (qKn h D p b) (Eq.refl _) (vW0_rg S) _ (Nat.le_refl _), hp⟩, w4⟩
