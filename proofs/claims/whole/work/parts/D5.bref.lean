/-! PURE: bulk: the reference's loop -/
def zFMB (r : Nat) (U V : Nat → Nat → Int32) : Prop := (∀ k, ¬ (78 ≤ k ∧ k ≤ 97 ∨ 110 ≤ k ∧ k ≤ 121 ∨ k = 181 ∨ k = 182 ∨ k = 192) → V k = U k) ∧ (∀ j, j ≠ 0 → j ≠ 2 → V 78 j = U 78 j) ∧ ∀ j, j < r → V 181 j = U 181 j ∧ V 182 j = U 182 j
theorem zFMB.rfl {r : Nat} {U : Nat → Nat → Int32} : zFMB r U U := ⟨fun _ _ => Eq.refl _, fun _ _ _ => Eq.refl _, fun _ _ => ⟨Eq.refl _, Eq.refl _⟩⟩
theorem zFMB.trans {r : Nat} {U V W : Nat → Nat → Int32} (h : zFMB r U V) (g : zFMB r V W) : zFMB r U W := ⟨fun k a => (g.1 k a).trans (h.1 k a), fun j a b => (g.2.1 j a b).trans (h.2.1 j a b), fun j a => ⟨(g.2.2 j a).1.trans (h.2.2 j a).1, (g.2.2 j a).2.trans (h.2.2 j a).2⟩⟩
theorem zFMX.mb {r : Nat} {U V : Nat → Nat → Int32} (h : zFMX U V) : zFMB r U V := ⟨fun k a => h.1 k (by omega), h.2, fun j _ => by rw [h.1 181 (by omega), h.1 182 (by omega)]; exact ⟨Eq.refl _, Eq.refl _⟩⟩
theorem zFMB.put {r i : Nat} (hr : r ≤ i) (U : Nat → Nat → Int32) (x y : Int32) : zFMB r U (z_uS (z_uS U 181 i x) 182 i y) := by
  refine ⟨fun k a => by rw [z_uS_ne _ _ _ (by omega), z_uS_ne _ _ _ (by omega)], fun j _ _ => by rw [z_uS_ne _ _ _ (by omega), z_uS_ne _ _ _ (by omega)], fun j hj => ⟨?_, ?_⟩⟩
  · rw [z_uS_ne _ _ _ (by omega), uS_nj _ _ _ (by omega)]
  · rw [uS_nj _ _ _ (by omega), z_uS_ne _ _ _ (by omega)]
theorem zBX.mb {fl : Nat → Nat} {E U V : Nat → Nat → Int32} {d rn r : Nat} (h : zBX fl E U d rn) (g : zFMB r U V) : zBX fl E V d rn := by
  obtain ⟨⟨⟨h1, h1'⟩, h2, ⟨h3, h4, h5, h6⟩⟩, h7, h8, h9⟩ := h
  refine ⟨⟨⟨fun k hk => by rw [g.1 124 (by omega), g.1 125 (by omega), g.1 126 (by omega), g.1 128 (by omega), g.1 129 (by omega), g.1 130 (by omega)]; exact h1 k hk, fun k hk => by rw [g.1 127 (by omega)]; exact h1' k hk⟩, h2, ⟨fun k hk => by rw [g.1 128 (by omega)]; exact h3 k hk, fun k hk => ?_, fun k hk => by rw [g.1 k (by omega)]; exact h5 k hk, by rw [g.2.1 31 (by omega) (by omega)]; exact h6⟩⟩, h7, h8, by rw [g.2.1 1 (by omega) (by omega)]; exact h9⟩
  have := h8.lo hk
  have := h8.off hk
  rw [g.1 (fl k) (by omega)]; exact h4 k hk
theorem zIs2.mb {E U V : Nat → Nat → Int32} {w : zWd} {m : Nat → Bool} {r : Nat} (h : zIs2 E U w m) (g : zFMB r U V) : zIs2 E V w m := by
  obtain ⟨h1, h2, h3⟩ := h
  exact ⟨h1.ag fun k a b => g.1 k (by omega), ⟨fun k hk => by rw [g.1 124 (by omega), g.1 125 (by omega), g.1 126 (by omega), g.1 128 (by omega), g.1 129 (by omega), g.1 130 (by omega)]; exact h2.1 k hk, fun k hk => by rw [g.1 127 (by omega)]; exact h2.2 k hk⟩, fun k hk => by rw [g.1 191 (by omega)]; exact h3 k hk⟩
/-- what the bulk made so far -/
def zBy (r f : Nat) (v : Int32) (A0 : zA) (U : Nat → Nat → Int32) (A : zA) (ct : Nat) : Prop := A.2.1 = A0.2.1 + ct ∧ ∀ j, j < ct → ((A.1 (A0.2.1 + j)).1.1 = 2 ∧ (A.1 (A0.2.1 + j)).1.2.1 < 30 ∧ (A.1 (A0.2.1 + j)).1.2.2.1 = 1 + f ∧ (A.1 (A0.2.1 + j)).1.2.2.2.2.2 = v) ∧ U 181 (r + j) = zI (A.1 (A0.2.1 + j)).1.2.1 ∧ U 182 (r + j) = (A.1 (A0.2.1 + j)).1.2.2.2.2.1
theorem M_bu_L {fl : Nat → Nat} {E : Nat → Nat → Int32} {d rn p f r : Nat} {v : Int32} {A0 : zA} {w : zWd} {m : Nat → Bool} (x5 : Int32) (hp : p < 8) (hf : f < 3) (hr : r ≤ 800) (hrg : rgC (1 + f) v) (hg0 : zRg A0.2.2) (hgw : zRg w) : ∀ (n k g N ct : Nat) (U : Nat → Nat → Int32) (A : zA) (x : Int32), k + n = 30 → n < g → N + n ≤ 870 → ct ≤ k → zBX fl E U d rn → zRM 86 U A → zBi d p f A0 N A → zIs2 E U w m → zBy r f v A0 U A ct →
    ∃ V ct', F_M_bulk_L114 fl (zI p) (zI f) v x5 g U x (zI (r + ct)) (zI k) = (rF (kFnd E p w m) (fun q => vCan E A0.2.2 p q f) n k x, zI (r + ct'), V) ∧ Sf_M_bulk_L114 fl (zI p) (zI f) v x5 g U x (zI (r + ct)) (zI k) ∧ zFMB r U V ∧ zRM 86 V (aBu d p f v (kFnd E p w m) (fun q => vCan E A0.2.2 p q f) n k A) ∧ zBy r f v A0 V (aBu d p f v (kFnd E p w m) (fun q => vCan E A0.2.2 p q f) n k A) ct' ∧ ct' ≤ 30 := by
  intro n
  induction n with
  | zero =>
    intro k g N ct U A x hk hg hN hct hX hC hI hW hY
    obtain ⟨g, rfl⟩ : ∃ q, g = q + 1 := ⟨g - 1, by omega⟩
    obtain rfl : k = 30 := by omega
    unfold F_M_bulk_L114 Sf_M_bulk_L114 aBu rF
    rw [if_pos le30', if_pos le30']
    exact ⟨U, ct, Eq.refl _, trivial, zFMB.rfl, hC, hY, hct⟩
  | succ n ih =>
    intro k g N ct U A x hk hg hN hct hX hC hI hW hY
    obtain ⟨g, rfl⟩ : ∃ q, g = q + 1 := ⟨g - 1, by omega⟩
    have hk30 : k < 30 := by omega
    obtain ⟨i1, i2⟩ := isF_of hW hgw hp hk30
    have hA := hI.1.1
    have hn : A.2.1 ≤ N := hI.1.2.1
    obtain ⟨d1, d2⟩ := M_edits_I hX.y hC.2.1 hA.rg hp hk30
    obtain ⟨r1, r2⟩ := M_readsIt_I hX.y hC.2.1 hA.rg hp hk30 (show f < 4 by omega)
    have hcan := can_sm (E := E) hI.2.1 hg0 hf hp hk30
    unfold F_M_bulk_L114 Sf_M_bulk_L114 F_M_bulk_l114_178 Sf_M_bulk_l114_178 F_M_bulk_l114_179 Sf_M_bulk_l114_179 F_M_bulk_l114_193 Sf_M_bulk_l114_193 aBu rF
    rw [if_neg (le30 hk30), if_neg (le30 hk30), i1, zI_succ, d1, r1]
    cases q1 : kFnd E p w m k
    · obtain ⟨V, ct', v1, v2, v3⟩ := ih (k + 1) g (N + 1) ct U A x (by omega) (by omega) (by omega) (by omega) hX hC (hI.up (by omega)) hW hY
      simp only [bI, Bool.false_eq_true, if_false, if_true, Bool.false_and]
      exact ⟨V, ct', v1, ⟨i2, v2⟩, v3⟩
    · simp only [bI, if_true, if_neg ne_10, Bool.true_and]
      cases q2 : vCan E A0.2.2 p k f
      · obtain ⟨V, ct', v1, v2, v3⟩ := ih (k + 1) g (N + 1) ct U A (x + 1) (by omega) (by omega) (by omega) (by omega) hX hC (hI.up (by omega)) hW hY
        simp only [Bool.false_eq_true, if_false, if_true, Bool.not_false]
        refine ⟨V, ct', ?_, ?_, v3⟩
        · cases q3 : vEdit E A.2.2 p k
          · simp only [Bool.false_eq_true, if_false, if_true]; exact v1
          · have hw : A.2.2.1 k = true := vSee_there (Bool.and_eq_true_iff.mp q3).1
            obtain ⟨f1, f2⟩ := M_hasField_J (E := E) hX.f128 hC.2.1 hA.rg hk30 hw hf
            simp only [if_true, if_neg ne_10, f1]
            cases q4 : eH E (wC A.2.2 k 9) f
            · simp only [Bool.false_eq_true, if_false, if_true]; exact v1
            · simp only [if_true, if_neg ne_10]
              cases q5 : vRead E A.2.2 p k f
              · simp only [Bool.false_eq_true, if_false, if_true]; exact v1
              · rw [q2] at hcan
                unfold vCan at hcan
                rw [q3, q4, q5] at hcan
                exact absurd hcan (by decide)
        · refine ⟨i2, d2, ?_⟩
          cases q3 : vEdit E A.2.2 p k
          · simp only [Bool.false_eq_true, if_false, if_true]; exact v2
          · have hw : A.2.2.1 k = true := vSee_there (Bool.and_eq_true_iff.mp q3).1
            obtain ⟨f1, f2⟩ := M_hasField_J (E := E) hX.f128 hC.2.1 hA.rg hk30 hw hf
            simp only [if_true, if_neg ne_10, f1]
            refine ⟨f2, ?_⟩
            cases q4 : eH E (wC A.2.2 k 9) f
            · simp only [Bool.false_eq_true, if_false, if_true]; exact v2
            · simp only [if_true, if_neg ne_10]
              refine ⟨r2, ?_⟩
              cases q5 : vRead E A.2.2 p k f
              · simp only [Bool.false_eq_true, if_false, if_true]; exact v2
              · rw [q2] at hcan
                unfold vCan at hcan
                rw [q3, q4, q5] at hcan
                exact absurd hcan (by decide)
      · obtain ⟨hI2, hw⟩ := hI.in hp hf hk30 hrg q2
        rw [q2] at hcan
        obtain ⟨hc1, q4⟩ := Bool.and_eq_true_iff.mp hcan
        obtain ⟨q3, q5⟩ := Bool.and_eq_true_iff.mp hc1
        obtain ⟨f1, f2⟩ := M_hasField_J (E := E) hX.f128 hC.2.1 hA.rg hk30 hw hf
        rw [q4] at f1
        have c90 : U 90 (3 * k + f) = wC A.2.2 k (1 + f) := by
          have g0 := hC.2.1.cell hk30 (show 1 + f < 10 by omega) hw
          have e1 : zMC 86 k (1 + f) = 90 := by unfold zMC; rw [if_neg (by omega), if_pos (by omega)]
          have e2 : zMJ k (1 + f) = 3 * k + f := by unfold zMJ; rw [if_neg (by omega), if_pos (by omega)]; omega
          rw [e1, e2] at g0; exact g0
        have e3 : (3 : Int32) * zI k + zI f = zI (3 * k + f) := by rw [show (3 : Int32) = zI 3 from rfl, zI_mul, zI_add]
        have v90 : vp_in (zI (3 * k + f)) 90 := vp_in_I (by omega) (by omega)
        have vr : vp_in (zI (r + ct)) 2000 := vp_in_I (by omega) (by omega)
        simp only [q3, q5, f1, if_true, if_neg ne_10, e3, zI_clamp (show 3 * k + f < 2147483648 by omega), zI_clamp (show r + ct < 2147483648 by omega), c90, Bool.not_true, Bool.false_eq_true, if_false, Int32.add_zero]
        by_cases q6 : wC A.2.2 k (1 + f) = v
        · have eA : aC d p k (1 + f) v A = A := if_pos q6
          obtain ⟨V, ct', v1, v2, v3⟩ := ih (k + 1) g (N + 1) ct U A x (by omega) (by omega) (by omega) (by omega) hX hC (hI.up (by omega)) hW hY
          simp only [if_pos q6, eA]
          exact ⟨V, ct', v1, ⟨i2, d2, f2, r2, v90, v2⟩, v3⟩
        · have eA : aC d p k (1 + f) v A = aPush d p (2, k, 1 + f, 0, wC A.2.2 k (1 + f), v) A := if_neg q6
          have hB : zFMB r U (z_uS (z_uS U 181 (r + ct) (zI k)) 182 (r + ct) (wC A.2.2 k (1 + f))) := zFMB.put (by omega) U _ _
          have hC1 : zRM 86 (z_uS (z_uS U 181 (r + ct) (zI k)) 182 (r + ct) (wC A.2.2 k (1 + f))) A := hC.ag (by omega) (by rw [z_uS_ne _ _ _ (by omega), z_uS_ne _ _ _ (by omega)]) (fun q hq => by rw [z_uS_ne _ _ _ (by omega), z_uS_ne _ _ _ (by omega)])
          obtain ⟨X, x1, x2, x3, x4⟩ := M_chg (hX.mb hB) hC1 hA (by omega) p hk30 (show 1 + f < 9 by omega) hw v
          rw [mKc_f hf, mWc_f hf] at x1 x2
          have hUX := hB.trans (x3.mb (r := r))
          have hY2 : zBy r f v A0 X (aC d p k (1 + f) v A) (ct + 1) := by
            obtain ⟨y1, y2⟩ := hY
            rw [eA]
            refine ⟨show A.2.1 + 1 = _ by omega, fun j hj => ?_⟩
            rw [x3.1 181 (by omega), x3.1 182 (by omega)]
            by_cases z : j < ct
            · have e : (aPush d p (2, k, 1 + f, 0, wC A.2.2 k (1 + f), v) A).1 (A0.2.1 + j) = A.1 (A0.2.1 + j) := zPush_lt (by omega)
              rw [e, z_uS_ne _ _ _ (by omega), uS_nj _ _ _ (by omega), uS_nj _ _ _ (by omega), z_uS_ne _ _ _ (by omega)]
              exact y2 j z
            · obtain rfl : j = ct := by omega
              have e : (aPush d p (2, k, 1 + f, 0, wC A.2.2 k (1 + f), v) A).1 (A0.2.1 + j) = ((2, k, 1 + f, 0, wC A.2.2 k (1 + f), v), d, p) := by rw [← y1]; exact zPush_n _ _ _ _ _
              rw [e, z_uS_ne _ _ _ (by omega), uS_at, uS_at]
              exact ⟨⟨Eq.refl _, hk30, Eq.refl _, Eq.refl _⟩, Eq.refl _, Eq.refl _⟩
          obtain ⟨V, ct', v1, v2, v3, v4⟩ := ih (k + 1) g (N + 1) (ct + 1) X _ x (by omega) (by omega) (by omega) (by omega) (hX.mb hUX) x4 hI2 (hW.mb hUX) hY2
          simp only [if_neg q6, x1, z_let, zI_succ]
          exact ⟨V, ct', v1, ⟨i2, d2, f2, r2, v90, vr, v90, vr, x2, v2⟩, hUX.trans v3, v4⟩
