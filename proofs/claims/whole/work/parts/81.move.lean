/-! PURE: move -/
def aWay (C : Nat → Bool) : Nat → Nat → Option Nat
  | 0, _ => none
  | n + 1, j => if C j = true then some j else aWay C n (j + 1)
theorem aWay_some {C : Nat → Bool} : ∀ (n j q : Nat), aWay C n j = some q → j ≤ q ∧ q < j + n := by
  intro n
  induction n with
  | zero => intro j q h; cases h
  | succ n ih =>
    intro j q h
    unfold aWay at h
    split at h
    · cases h; omega
    · have := ih (j + 1) q h; omega
theorem aWay_hit {C : Nat → Bool} : ∀ (n j q : Nat), aWay C n j = some q → C q = true := by
  intro n
  induction n with
  | zero => intro j q h; cases h
  | succ n ih =>
    intro j q h
    unfold aWay at h
    split at h
    · next g => cases h; exact g
    · exact ih (j + 1) q h
/-- a step of a kind's workflow -/
def wP (E : Nat → Nat → Int32) (k j p : Nat) : Int32 := E 57 ((k * 8 + j) * 6 + p)
def wCond (E : Nat → Nat → Int32) (w : zWd) (p i : Nat) (to : Int32) (k j : Nat) : Bool := decide (wP E k j 0 = wC w i 0) && (decide (wP E k j 1 = to) && (!decide (wP E k j 2 &&& vR w p i = 0) && aMet E w i (wP E k j 3) (wP E k j 4)))
theorem T_stepTo_L {E V : Nat → Nat → Int32} {w : zWd} {p i k c : Nat} {to : Int32} (hE : eC E V) (h57 : V 57 = E 57) (h56 : V 56 k = zI c) (hC : zWC 9 V w) (hg : zRg w) (hi : i < 30) (hw : w.1 i = true) (hk : k < 3) (hc : c ≤ 8) (hst : ∀ j, j < c → wP E k j 3 = -1 ∨ ∃ f, f < 3 ∧ wP E k j 3 = zI f) : ∀ (n j f : Nat), n + j = c → n < f →
    F_T_stepTo_L46 V (zI i) to (zI k) (wC w i 0) (vR w p i) f (zI j) = (match aWay (wCond E w p i to k) n j with | some q => .inr (zI q) | none => .inl ()) ∧ Sf_T_stepTo_L46 V (zI i) to (zI k) (wC w i 0) (vR w p i) f (zI j) := by
  intro n
  induction n with
  | zero =>
    intro j f hj hf
    obtain ⟨f, rfl⟩ : ∃ q, f = q + 1 := ⟨f - 1, by omega⟩
    have hl : zI c ≤ zI j := by rw [zI_le (by omega) (by omega)]; omega
    unfold F_T_stepTo_L46 Sf_T_stepTo_L46 aWay
    rw [zAt_I (show k < 4 by omega) (by omega), h56, if_pos hl, if_pos hl]
    exact ⟨rfl, trivial⟩
  | succ n ih =>
    intro j f hj hf
    obtain ⟨f, rfl⟩ : ∃ q, f = q + 1 := ⟨f - 1, by omega⟩
    have hl : ¬ zI c ≤ zI j := by rw [zI_le (by omega) (by omega)]; omega
    have hp : ∀ q, q < 6 → F_Flows_part V (zI k) (zI j) (zI q) = wP E k j q := fun q hq => by rw [Flows_part_I V (by omega) (by omega) hq, h57]; rfl
    have p0 : F_Flows_part V (zI k) (zI j) 0 = wP E k j 0 := hp 0 (by omega)
    have p1 : F_Flows_part V (zI k) (zI j) 1 = wP E k j 1 := hp 1 (by omega)
    have p2 : F_Flows_part V (zI k) (zI j) 2 = wP E k j 2 := hp 2 (by omega)
    have p3 : F_Flows_part V (zI k) (zI j) 3 = wP E k j 3 := hp 3 (by omega)
    have p4 : F_Flows_part V (zI k) (zI j) 4 = wP E k j 4 := hp 4 (by omega)
    obtain ⟨i1, i2⟩ := ih (j + 1) f (by omega) (by omega)
    obtain ⟨m1, m2⟩ := T_isMet_I hE hC hg hi hw (hst j (by omega)) (wP E k j 4)
    unfold F_T_stepTo_L46 Sf_T_stepTo_L46 aWay wCond F_T_stepTo_l46_100 Sf_T_stepTo_l46_100 F_T_stepTo_l46_101 Sf_T_stepTo_l46_101
    rw [zAt_I (show k < 4 by omega) (by omega), h56, if_neg hl, if_neg hl]
    simp only [p0, p1, p2, p3, p4, m1, if_true, if_neg ne_10, zI_succ]
    by_cases q0 : wP E k j 0 = wC w i 0
    · simp only [if_pos q0, decide_eq_true q0, Bool.true_and]
      by_cases q1 : wP E k j 1 = to
      · simp only [if_pos q1, decide_eq_true q1, Bool.true_and]
        by_cases q2 : wP E k j 2 &&& vR w p i = 0
        · simp only [if_pos q2, decide_eq_true q2, Bool.not_true, Bool.false_and, Bool.false_eq_true, if_false]; exact ⟨i1, i2⟩
        · simp only [if_neg q2, decide_eq_false q2, Bool.not_false, Bool.true_and]
          cases q3 : aMet E w i (wP E k j 3) (wP E k j 4)
          · simp only [Bool.false_eq_true, if_false, if_true]; exact ⟨i1, m2, i2⟩
          · simp only [if_true, if_neg ne_10]; exact ⟨trivial, m2, trivial⟩
      · simp only [if_neg q1, decide_eq_false q1, Bool.false_and, Bool.false_eq_true, if_false]; exact ⟨i1, i2⟩
    · simp only [if_neg q0, decide_eq_false q0, Bool.false_and, Bool.false_eq_true, if_false]; exact ⟨i1, i2⟩
theorem M_way_L {E U : Nat → Nat → Int32} {fl : Nat → Nat} {w : zWd} {p i k c fa : Nat} {to : Int32} (hE : eM E fl U) (hfa : U fa 1 = zI c) (hpt : ∀ j, j < c → ∀ q, q < 6 → U (fa + 1 + q) j = wP E k j q) (hC : zWM 86 U w) (hg : zRg w) (hp : p < 8) (hi : i < 30) (hw : w.1 i = true) (hc : c ≤ 8) (hst : ∀ j, j < c → (wP E k j 3 = -1 ∨ ∃ f, f < 3 ∧ wP E k j 3 = zI f) ∧ 0 ≤ (wP E k j 4).toInt) : ∀ (n j f : Nat), n + j = c → n < f →
    F_M_way_L22 fl fa U (zI p) (zI i) to f (-1) (zI j) = (match aWay (wCond E w p i to k) n j with | some q => zI q | none => -1) ∧ Sf_M_way_L22 fl fa U (zI p) (zI i) to f (-1) (zI j) := by
  intro n
  induction n with
  | zero =>
    intro j f hj hf
    obtain ⟨f, rfl⟩ : ∃ q, f = q + 1 := ⟨f - 1, by omega⟩
    have hl : zI c ≤ zI j := by rw [zI_le (by omega) (by omega)]; omega
    unfold F_M_way_L22 Sf_M_way_L22 aWay
    rw [hfa, if_pos hl, if_pos hl]
    exact ⟨rfl, trivial⟩
  | succ n ih =>
    intro j f hj hf
    obtain ⟨f, rfl⟩ : ∃ q, f = q + 1 := ⟨f - 1, by omega⟩
    have hl : ¬ zI c ≤ zI j := by rw [zI_le (by omega) (by omega)]; omega
    have hj8 : j < 8 := by omega
    have vj : vp_in (zI j) 8 := vp_in_I hj8 (by omega)
    have vi : vp_in (zI i) 30 := vp_in_I hi (by omega)
    have p0 : U (fa + 1) j = wP E k j 0 := hpt j (by omega) 0 (by omega)
    have p1 : U (fa + 2) j = wP E k j 1 := hpt j (by omega) 1 (by omega)
    have p2 : U (fa + 3) j = wP E k j 2 := hpt j (by omega) 2 (by omega)
    have p3 : U (fa + 4) j = wP E k j 3 := hpt j (by omega) 3 (by omega)
    have p4 : U (fa + 5) j = wP E k j 4 := hpt j (by omega) 4 (by omega)
    have c89 : U 89 i = wC w i 0 := hC.cell hi (show 0 < 10 by omega) hw
    obtain ⟨x, hx, ex⟩ := hg.project hi hw
    have c87 : U 87 i = zI x := (hC.cell hi (show 8 < 10 by omega) hw).trans ex
    obtain ⟨r1, r2⟩ := M_rolesOf_I hC hp hx
    have eR : vR w p i = w.2.2.2 (3 * p + x) := by unfold vR; rw [ex, zI_clamp (by omega)]
    obtain ⟨i1, i2⟩ := ih (j + 1) f (by omega) (by omega)
    obtain ⟨m1, m2⟩ := M_isMet_I hE hC hg hi hw (hst j (by omega)).1 (hst j (by omega)).2
    unfold F_M_way_L22 Sf_M_way_L22 aWay wCond F_M_way_l22_104 Sf_M_way_l22_104 F_M_way_l22_105 Sf_M_way_l22_105 F_M_way_l22_145 Sf_M_way_l22_145
    rw [hfa, if_neg hl, if_neg hl]
    simp only [zI_clamp (show j < 2147483648 by omega), zI_clamp (show i < 2147483648 by omega), p0, p1, p2, p3, p4, c89, c87, r1, ← eR, m1, if_true, if_neg ne_10, zI_succ]
    by_cases q0 : wP E k j 0 = wC w i 0
    · simp only [if_pos q0, decide_eq_true q0, Bool.true_and]
      by_cases q1 : wP E k j 1 = to
      · simp only [if_pos q1, decide_eq_true q1, Bool.true_and]
        by_cases q2 : wP E k j 2 &&& vR w p i = 0
        · simp only [if_pos q2, decide_eq_true q2, Bool.not_true, Bool.false_and, Bool.false_eq_true, if_false]; exact ⟨i1, vj, vi, vj, vj, vi, r2, i2⟩
        · simp only [if_neg q2, decide_eq_false q2, Bool.not_false, Bool.true_and]
          cases q3 : aMet E w i (wP E k j 3) (wP E k j 4)
          · simp only [Bool.false_eq_true, if_false, if_true]; exact ⟨i1, vj, vi, vj, vj, vi, r2, vj, vj, m2, i2⟩
          · simp only [if_true, if_neg ne_10]
            obtain ⟨f, rfl⟩ : ∃ q, f = q + 1 := ⟨f - 1, by omega⟩
            unfold F_M_way_L22 Sf_M_way_L22
            rw [hfa]
            refine ⟨?_, vj, vi, vj, vj, vi, r2, vj, vj, m2, ?_⟩
            · split
              · rfl
              · rw [if_neg (m1_ne j (by omega))]
            · split
              · trivial
              · rw [if_neg (m1_ne j (by omega))]; trivial
      · simp only [if_neg q1, decide_eq_false q1, Bool.false_and, Bool.false_eq_true, if_false]; exact ⟨i1, vj, vi, vj, i2⟩
    · simp only [if_neg q0, decide_eq_false q0, Bool.false_and, Bool.false_eq_true, if_false]; exact ⟨i1, vj, vi, i2⟩
/-- the flows' cells stay -/
def zFlw (fl : Nat → Nat) (S U : Nat → Nat → Int32) : Prop := ∀ k q, k < 3 → q ≤ 7 → U (fl k + q) = S (fl k + q)
theorem zFX.flw {fl : Nat → Nat} {S V : Nat → Nat → Int32} (hf : zFl fl) (h : zFX S V) : zFlw fl S V := fun k q hk hq => by
  have := hf.lo hk
  have := hf.off hk
  exact h _ (by omega) (by omega)
theorem zFlw.mx {fl : Nat → Nat} {S U V : Nat → Nat → Int32} (hf : zFl fl) (h : zFlw fl S U) (g : zFMX U V) : zFlw fl S V := fun k q hk hq => by
  have := hf.lo hk
  have := hf.off hk
  rw [g.1 _ (by omega)]; exact h k q hk hq
