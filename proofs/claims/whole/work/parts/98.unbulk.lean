/-! PURE: unbulk, the loops -/
def aUn (E : Nat → Nat → Int32) (d p f : Nat) (v : Int32) (it : Nat → Nat) (od : Nat → Int32) : Nat → Nat → zA → zA
  | 0, _, A => A
  | n + 1, j, A => aUn E d p f v it od n (j + 1) (if (decide (wC A.2.2 (it j) (1 + f) = v) && eH E (wC A.2.2 (it j) 9) f) = true then aC d p (it j) (1 + f) (od j) A else A)
/-- the entries that a bulk made -/
def zBe (A : zA) (f first cnt : Nat) (v : Int32) (it : Nat → Nat) (od : Nat → Int32) : Prop := first + cnt ≤ A.2.1 ∧ ∀ j, j < cnt → ∃ x, (A.1 (first + j)).1 = (2, it j, 1 + f, x, od j, v)
theorem zBe.of {A B : zA} {f first cnt : Nat} {v : Int32} {it : Nat → Nat} {od : Nat → Int32} (h : zBe A f first cnt v it od) (g : zNb A B) : zBe B f first cnt v it od := by
  obtain ⟨h1, h2⟩ := h
  obtain ⟨⟨g1, g2, g3⟩, -⟩ := g
  exact ⟨by omega, fun j hj => by rw [g2 _ (by omega)]; exact h2 j hj⟩
theorem zBe.item {d : Nat} {A : zA} {f first cnt : Nat} {v : Int32} {it : Nat → Nat} {od : Nat → Int32} (h : zBe A f first cnt v it od) (hA : zOk d A) {j : Nat} (hj : j < cnt) (hf : f < 3) : it j < 30 ∧ A.2.2.1 (it j) = true ∧ rgC (1 + f) (od j) := by
  obtain ⟨h1, h2⟩ := h
  obtain ⟨x, e⟩ := h2 j hj
  have hk : first + j < A.2.1 := by omega
  obtain ⟨a1, a2⟩ := hA.item hk (Or.inr (by rw [e]))
  rw [e] at a1 a2
  refine ⟨a1, a2, ?_⟩
  have ho := (hA.w (first + j) hk).2.1
  rw [e] at ho
  obtain ⟨o1, o2⟩ := ho.2.2.1 rfl
  have hr := (zRep_rg hA.w hA.v (first + j) (by omega)).1.1 (it j) a1 o1 (1 + f) (by omega)
  have o2' : od j = (zRep A.1 (first + j)).2.1 (it j) (1 + f) := o2
  rw [o2']; exact hr
def zUi (d : Nat) (A0 : zA) (N : Nat) (A : zA) : Prop := zOk d A ∧ A.2.1 ≤ N ∧ zNb A0 A
theorem T_un_L {E : Nat → Nat → Int32} {d p f b first cnt : Nat} {A0 : zA} {v : Int32} {it : Nat → Nat} {od : Nat → Int32} (hp : p < 8) (hf : f < 3) (hb : b < 512) (hB : zBe A0 f first cnt v it od) (h8 : A0.2.1 ≤ 800) : ∀ (n j g N : Nat) (S : Nat → Nat → Int32) (A : zA), n + j = cnt → n < g → N + n ≤ 870 → zCX E S d → zRC S A → zUi d A0 N A → S 72 b = zI p → ∃ V, F_T_unbulk_L81 (zI b) (zI (1 + f)) (zI (first + cnt)) (zI A0.2.1) g S (zI (first + j)) = V ∧ Sf_T_unbulk_L81 (zI b) (zI (1 + f)) (zI (first + cnt)) (zI A0.2.1) g S (zI (first + j)) ∧ zFCX S V ∧ zRC V (aUn E d p f v it od n j A) ∧ zUi d A0 (N + n) (aUn E d p f v it od n j A) := by
  intro n
  induction n with
  | zero =>
    intro j g N S A hj hg hN hX hC hI h72
    obtain ⟨g, rfl⟩ : ∃ q, g = q + 1 := ⟨g - 1, by omega⟩
    have hB1 := hB.1
    have hl : zI (first + cnt) ≤ zI (first + j) := by rw [zI_le (by omega) (by omega)]; omega
    unfold F_T_unbulk_L81 Sf_T_unbulk_L81 aUn
    rw [if_pos hl, if_pos hl]
    exact ⟨S, rfl, trivial, zFCX.rfl, hC, hI⟩
  | succ n ih =>
    intro j g N S A hj hg hN hX hC hI h72
    obtain ⟨g, rfl⟩ : ∃ q, g = q + 1 := ⟨g - 1, by omega⟩
    have hB1 := hB.1
    obtain ⟨hA, hn, hnb⟩ := hI
    have hBA := hB.of hnb
    obtain ⟨hi, hw, hrg⟩ := hBA.item hA (show j < cnt by omega) hf
    have hl : ¬ zI (first + cnt) ≤ zI (first + j) := by rw [zI_le (by omega) (by omega)]; omega
    have hl2 : ¬ zI A0.2.1 ≤ zI (first + j) := by rw [zI_le (by omega) (by omega)]; omega
    have hent := (hC.1.2 (first + j) (by have := hBA.1; omega)).1
    obtain ⟨x, ex⟩ := hBA.2 j (by omega)
    rw [ex] at hent
    obtain ⟨c4, -, -, c7, c8⟩ := hent
    have c4' : zAt (S 4) 900 (zI (first + j)) = zI (it j) := by rw [zAt_I (by omega) (by omega)]; exact c4
    have c7' : zAt (S 7) 900 (zI (first + j)) = od j := by rw [zAt_I (by omega) (by omega)]; exact c7
    have c8' : zAt (S 8) 900 (zI (first + j)) = v := by rw [zAt_I (by omega) (by omega)]; exact c8
    obtain ⟨w1, w2⟩ := hC.2.cell hi (show 1 + f < 10 by omega)
    obtain ⟨k, hk, ek⟩ := hA.rg.kind hi hw
    obtain ⟨w3, w4⟩ := hC.2.cell hi (show 9 < 10 by omega)
    have w3' : F_World_cell 9 S (zI (it j)) 9 = zI k := w3.trans ek
    have w4' : Sf_World_cell 9 S (zI (it j)) 9 := w4
    obtain ⟨k1, k2⟩ := Kinds_has_I S hk hf
    have ef : zI (1 + f) - 1 = zI f := by rw [show (1 : Int32) = zI 1 from rfl, zI_sub (by omega) (by omega)]; congr 1; omega
    have eh : eH E (wC A.2.2 (it j) 9) f = zB (S 44 k) f := by unfold eH; rw [ek, zI_clamp (by omega), hX.1 44 (by omega)]
    have skip : (decide (wC A.2.2 (it j) (1 + f) = v) && eH E (wC A.2.2 (it j) 9) f) = false → ∃ V, F_T_unbulk_L81 (zI b) (zI (1 + f)) (zI (first + cnt)) (zI A0.2.1) g S (zI (first + j + 1)) = V ∧ Sf_T_unbulk_L81 (zI b) (zI (1 + f)) (zI (first + cnt)) (zI A0.2.1) g S (zI (first + j + 1)) ∧ zFCX S V ∧ zRC V (aUn E d p f v it od (n + 1) j A) ∧ zUi d A0 (N + (n + 1)) (aUn E d p f v it od (n + 1) j A) := by
      intro q
      obtain ⟨V, v1, v2, v3, v4, v5⟩ := ih (j + 1) g (N + 1) S A (by omega) (by omega) (by omega) hX hC ⟨hA, by omega, hnb⟩ h72
      unfold aUn
      rw [q, if_neg (by simp)]
      exact ⟨V, v1, v2, v3, v4, by rw [show N + (n + 1) = N + 1 + n by omega]; exact v5⟩
    unfold F_T_unbulk_L81 Sf_T_unbulk_L81 F_T_unbulk_l81_139 Sf_T_unbulk_l81_139
    rw [if_neg hl, if_neg hl, if_neg hl2, if_neg hl2, c4', c7', c8', w1, zI_succ]
    simp only [if_true, if_neg ne_10, w3', ef, k1]
    by_cases q1 : wC A.2.2 (it j) (1 + f) = v
    · simp only [if_pos q1]
      cases q2 : zB (S 44 k) f
      · simp only [Bool.false_eq_true, if_false, if_true]
        obtain ⟨V, v1, v2, v3⟩ := skip (by rw [eh, q2, Bool.and_false])
        exact ⟨V, v1, ⟨w2, w4', k2, v2⟩, v3⟩
      · simp only [if_true, if_neg ne_10]
        obtain ⟨V, v1, v2, v3, v4⟩ := T_chg hX hC (by omega) p hi (show 1 + f < 9 by omega) (od j)
        obtain ⟨o1, o2, -⟩ := aC_ok (p := p) hA hi (show 1 + f < 9 by omega) hw hrg (by omega) hp
        obtain ⟨W, x1, x2, x3, x4, x5⟩ := ih (j + 1) g (N + 1) V _ (by omega) (by omega) (by omega) (hX.cx v3) v4 ⟨o1, by omega, hnb.aC⟩ (by rw [v3.1 72 (by omega)]; exact h72)
        unfold aUn
        rw [decide_eq_true q1, eh, q2, if_pos (show (true && true) = true from rfl), zAt_I hb (by omega), h72]
        simp only [v1, z_let]
        exact ⟨W, x1, ⟨w2, w4', k2, v2, x2⟩, v3.trans x3, x4, by rw [show N + (n + 1) = N + 1 + n by omega]; exact x5⟩
    · simp only [if_neg q1]
      obtain ⟨V, v1, v2, v3⟩ := skip (by rw [decide_eq_false q1, Bool.false_and])
      exact ⟨V, v1, ⟨w2, v2⟩, v3⟩
/-- the reference's rows of a bulk -/
def zBr (U : Nat → Nat → Int32) (b p f first cnt : Nat) (v : Int32) (it : Nat → Nat) (od : Nat → Int32) : Prop := U 78 41 = zI (b + 1) ∧ U 177 b = zI p ∧ U 178 b = zI f ∧ U 179 b = v ∧ U 180 (b + 1) = zI (first + cnt) ∧ ∀ j, j < cnt → U 181 (first + j) = zI (it j) ∧ U 182 (first + j) = od j
theorem zBr.mx {U V : Nat → Nat → Int32} {b p f first cnt : Nat} {v : Int32} {it : Nat → Nat} {od : Nat → Int32} (h : zBr U b p f first cnt v it od) (g : zFMX U V) : zBr V b p f first cnt v it od := by
  obtain ⟨h1, h2, h3, h4, h5, h6⟩ := h
  exact ⟨by rw [g.2 41 (by omega) (by omega)]; exact h1, by rw [g.1 177 (by omega)]; exact h2, by rw [g.1 178 (by omega)]; exact h3, by rw [g.1 179 (by omega)]; exact h4, by rw [g.1 180 (by omega)]; exact h5, fun j hj => by rw [g.1 181 (by omega), g.1 182 (by omega)]; exact h6 j hj⟩
theorem M_un_L {fl : Nat → Nat} {E : Nat → Nat → Int32} {d rn p f b first r cnt : Nat} {A0 : zA} {v : Int32} {it : Nat → Nat} {od : Nat → Int32} (x2 : Int32) (hp : p < 8) (hf : f < 3) (hb : b < 512) (hr : r + cnt ≤ 800) (hB : zBe A0 f first cnt v it od) : ∀ (n j g N : Nat) (U : Nat → Nat → Int32) (A : zA), n + j = cnt → n < g → N + n ≤ 870 → zBX fl E U d rn → zRM 86 U A → zUi d A0 N A → zBr U b p f r cnt v it od → ∃ V, F_M_unbulk_L44 fl (zI b) x2 g U (zI (r + j)) = V ∧ Sf_M_unbulk_L44 fl (zI b) x2 g U (zI (r + j)) ∧ zFMX U V ∧ zRM 86 V (aUn E d p f v it od n j A) := by
  intro n
  induction n with
  | zero =>
    intro j g N U A hj hg hN hX hC hI hR
    obtain ⟨g, rfl⟩ : ∃ q, g = q + 1 := ⟨g - 1, by omega⟩
    obtain ⟨r1, r2, r3, r4, r5, r6⟩ := hR
    have hl : zI (r + cnt) ≤ zI (r + j) := by rw [zI_le (by omega) (by omega)]; omega
    unfold F_M_unbulk_L44 Sf_M_unbulk_L44 aUn
    rw [r1, zI_clamp (show b + 1 < 2147483648 by omega), r5, if_pos hl, if_pos hl]
    exact ⟨U, rfl, ⟨vp_in_I (by omega) (by omega), trivial⟩, zFMX.rfl, hC⟩
  | succ n ih =>
    intro j g N U A hj hg hN hX hC hI hR
    obtain ⟨g, rfl⟩ : ∃ q, g = q + 1 := ⟨g - 1, by omega⟩
    have hR0 := hR
    obtain ⟨r1, r2, r3, r4, r5, r6⟩ := hR
    obtain ⟨hA, hn, hnb⟩ := hI
    have hBA := hB.of hnb
    obtain ⟨hi, hw, hrg⟩ := hBA.item hA (show j < cnt by omega) hf
    obtain ⟨r7, r8⟩ := r6 j (by omega)
    have hl : ¬ zI (r + cnt) ≤ zI (r + j) := by rw [zI_le (by omega) (by omega)]; omega
    obtain ⟨f1, f2⟩ := M_hasField_J (E := E) hX.f128 hC.2.1 hA.rg hi hw hf
    have c90 : U 90 (3 * it j + f) = wC A.2.2 (it j) (1 + f) := by
      have g0 := hC.2.1.cell hi (show 1 + f < 10 by omega) hw
      have e1 : zMC 86 (it j) (1 + f) = 90 := by unfold zMC; rw [if_neg (by omega), if_pos (by omega)]
      have e2 : zMJ (it j) (1 + f) = 3 * it j + f := by unfold zMJ; rw [if_neg (by omega), if_pos (by omega)]; omega
      rw [e1, e2] at g0; exact g0
    have e3 : (3 : Int32) * zI (it j) + zI f = zI (3 * it j + f) := by rw [show (3 : Int32) = zI 3 from rfl, zI_mul, zI_add]
    have vb : vp_in (zI b) 600 := vp_in_I (by omega) (by omega)
    have vb1 : vp_in (zI (b + 1)) 601 := vp_in_I (by omega) (by omega)
    have vj : vp_in (zI (r + j)) 2000 := vp_in_I (by omega) (by omega)
    have v90 : vp_in (zI (3 * it j + f)) 90 := vp_in_I (by omega) (by omega)
    have skip : (decide (wC A.2.2 (it j) (1 + f) = v) && eH E (wC A.2.2 (it j) 9) f) = false → ∃ V, F_M_unbulk_L44 fl (zI b) x2 g U (zI (r + j + 1)) = V ∧ Sf_M_unbulk_L44 fl (zI b) x2 g U (zI (r + j + 1)) ∧ zFMX U V ∧ zRM 86 V (aUn E d p f v it od (n + 1) j A) := by
      intro q
      obtain ⟨V, v1, v2, v3, v4⟩ := ih (j + 1) g (N + 1) U A (by omega) (by omega) (by omega) hX hC ⟨hA, by omega, hnb⟩ hR0
      unfold aUn
      rw [q, if_neg (by simp)]
      exact ⟨V, v1, v2, v3, v4⟩
    unfold F_M_unbulk_L44 Sf_M_unbulk_L44
    rw [r1, zI_clamp (show b + 1 < 2147483648 by omega), r5, if_neg hl, if_neg hl, zI_clamp (show r + j < 2147483648 by omega), zI_clamp (show b < 2147483648 by omega), r2, r3, r4, r7, r8, e3, zI_clamp (show 3 * it j + f < 2147483648 by omega), c90, f1, zI_succ]
    cases q2 : eH E (wC A.2.2 (it j) 9) f
    · simp only [Bool.false_eq_true, if_false, if_true]
      obtain ⟨V, v1, v2, v3⟩ := skip (by rw [q2, Bool.and_false])
      exact ⟨V, v1, ⟨vb1, vj, vb, f2, v2⟩, v3⟩
    · simp only [if_true, if_neg ne_10]
      by_cases q1 : wC A.2.2 (it j) (1 + f) = v
      · simp only [if_pos q1]
        obtain ⟨V, v1, v2, v3, v4⟩ := M_chg hX hC hA (by omega) p hi (show 1 + f < 9 by omega) hw (od j)
        rw [mKc_f hf, mWc_f hf] at v1 v2
        obtain ⟨o1, o2, -⟩ := aC_ok (p := p) hA hi (show 1 + f < 9 by omega) hw hrg (by omega) hp
        obtain ⟨W, x1, x2', x3, x4⟩ := ih (j + 1) g (N + 1) V _ (by omega) (by omega) (by omega) (hX.mx v3) v4 ⟨o1, by omega, hnb.aC⟩ (hR0.mx v3)
        unfold aUn
        rw [decide_eq_true q1, q2, if_pos (show (true && true) = true from rfl)]
        simp only [v1, z_let]
        exact ⟨W, x1, ⟨vb1, vj, vb, f2, vb, v90, vb, vb, vb, vj, v2, x2'⟩, v3.trans x3, x4⟩
      · simp only [if_neg q1]
        obtain ⟨V, v1, v2, v3⟩ := skip (by rw [decide_eq_false q1, Bool.false_and])
        exact ⟨V, v1, ⟨vb1, vj, vb, f2, vb, v90, vb, v2⟩, v3⟩
