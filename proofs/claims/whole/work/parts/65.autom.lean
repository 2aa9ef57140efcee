/-! PURE: automations, the reference -/
def eM (E : Nat → Nat → Int32) (fl : Nat → Nat) (U : Nat → Nat → Int32) : Prop := (∀ k, k < 3 → U 128 k = E 44 k) ∧ (∀ k, k < 3 → U (fl k) 0 = E 55 k) ∧ (∀ k, 168 ≤ k ∧ k ≤ 176 → U k = E k) ∧ U 78 31 = E 78 31
def zFN (b : Nat) (U V : Nat → Nat → Int32) : Prop := (∀ k, (k < 78 ∨ 85 < k ∧ k < b ∨ b + 11 < k) → k ≠ 192 → V k = U k) ∧ (∀ j, j ≠ 2 → V 78 j = U 78 j) ∧ ∀ j, j ≠ 0 → V b j = U b j
theorem zFM.n {b : Nat} {U V : Nat → Nat → Int32} (h : zFM b U V) : zFN b U V := ⟨fun k hk _ => h.1 k hk, h.2.1, h.2.2⟩
theorem zFN.rfl {b : Nat} {S : Nat → Nat → Int32} : zFN b S S := ⟨fun _ _ _ => Eq.refl _, fun _ _ => Eq.refl _, fun _ _ => Eq.refl _⟩
theorem zFN.trans {b : Nat} {S V W : Nat → Nat → Int32} (h : zFN b S V) (g : zFN b V W) : zFN b S W := ⟨fun k hk hn => (g.1 k hk hn).trans (h.1 k hk hn), fun j hj => (g.2.1 j hj).trans (h.2.1 j hj), fun j hj => (g.2.2 j hj).trans (h.2.2 j hj)⟩
theorem eM.fn {E : Nat → Nat → Int32} {fl : Nat → Nat} {b : Nat} {U V : Nat → Nat → Int32} (h : eM E fl U) (hf : zFl fl) (hb : 86 ≤ b ∧ b ≤ 110) (g : zFN b U V) : eM E fl V := by
  obtain ⟨h1, h2, h3, h4⟩ := h
  refine ⟨fun k hk => by rw [g.1 128 (by omega) (by omega)]; exact h1 k hk, fun k hk => ?_, fun k hk => by rw [g.1 k (by omega) (by omega)]; exact h3 k hk, by rw [g.2.1 31 (by omega)]; exact h4⟩
  have := hf.lo hk
  have := hf.off hk
  rw [g.1 (fl k) (by omega) (by omega)]; exact h2 k hk
theorem M_hasField_I {b : Nat} {E U : Nat → Nat → Int32} {fl : Nat → Nat} {w : zWd} (hE : eM E fl U) (hC : zWM b U w) (hg : zRg w) {i f : Nat} (hi : i < 30) (hw : w.1 i = true) (hf : f < 3) : F_M_hasField b U (zI i) (zI f) = (if eH E (wC w i 9) f = true then 1 else 0) ∧ Sf_M_hasField b U (zI i) (zI f) := by
  obtain ⟨k, hk, ek⟩ := hg.kind hi hw
  have e2 : U (b + 2) i = zI k := (hC.cell hi (show 9 < 10 by omega) hw).trans ek
  unfold F_M_hasField Sf_M_hasField eH
  rw [zI_clamp (show i < 2147483648 by omega), e2, ek, zI_clamp (show k < 2147483648 by omega), hE.1 k hk]
  refine ⟨?_, vp_in_I hi (by omega), vp_in_I hk (by omega), trivial⟩
  by_cases hb : zB (E 44 k) f = true
  · rw [if_pos hb, if_pos ((zB_shr (by omega)).mpr hb)]
  · rw [if_neg hb, if_neg (fun e => hb ((zB_shr (by omega)).mp e))]
theorem M_valueOf_I {b : Nat} {E U : Nat → Nat → Int32} {fl : Nat → Nat} {w : zWd} (hE : eM E fl U) (hC : zWM b U w) (hg : zRg w) {i f : Nat} (hi : i < 30) (hw : w.1 i = true) (hf : f < 3) : F_M_valueOf b U (zI i) (zI f) = (if eH E (wC w i 9) f = true then wC w i (1 + f) else -1) ∧ Sf_M_valueOf b U (zI i) (zI f) := by
  obtain ⟨h1, h2⟩ := M_hasField_I hE hC hg hi hw hf
  have e1 : (3 : Int32) * zI i + zI f = zI (3 * i + f) := by rw [show (3 : Int32) = zI 3 from rfl, zI_mul, zI_add]
  have e4 : U (b + 4) (3 * i + f) = wC w i (1 + f) := by
    rw [← hC.cell hi (show 1 + f < 10 by omega) hw]
    unfold zMC zMJ
    rw [if_neg (by omega), if_pos (by omega), if_neg (by omega), if_pos (by omega)]
    congr 1; omega
  unfold F_M_valueOf Sf_M_valueOf
  rw [h1, e1, zI_clamp (show 3 * i + f < 2147483648 by omega), e4]
  cases eH E (wC w i 9) f
  · exact ⟨by simp, h2, by simp⟩
  · refine ⟨by simp, h2, ?_⟩
    simp only [if_true, if_neg (show ¬ ((1 : Int32) = 0) by decide)]
    exact ⟨vp_in_I (by omega) (by omega), trivial⟩
theorem M_isMet_I {b : Nat} {E U : Nat → Nat → Int32} {fl : Nat → Nat} {w : zWd} (hE : eM E fl U) (hC : zWM b U w) (hg : zRg w) {i : Nat} (hi : i < 30) (hw : w.1 i = true) {f l : Int32} (hf : f = -1 ∨ ∃ q, q < 3 ∧ f = zI q) (hl : 0 ≤ l.toInt) : F_M_isMet b U (zI i) f l = (if aMet E w i f l = true then 1 else 0) ∧ Sf_M_isMet b U (zI i) f l := by
  unfold F_M_isMet Sf_M_isMet F_M_isMet_j32 aMet
  by_cases h1 : f = -1
  · rw [if_pos h1, if_pos h1]; simp [h1]
  · rw [if_neg h1, if_neg h1]
    obtain ⟨q, hq, e⟩ := hf.resolve_left h1
    subst e
    obtain ⟨v1, v2⟩ := M_valueOf_I hE hC hg hi hw hq
    rw [v1, zI_clamp (show q < 2147483648 by omega)]
    simp only [h1, decide_false, Bool.false_or]
    refine ⟨?_, v2, ?_⟩
    · cases eH E (wC w i 9) q
      · simp
      · simp only [if_true, Bool.true_and]
        by_cases h2 : wC w i (1 + q) = -1
        · rw [if_pos h2]
          have : wC w i (1 + q) < l := by rw [T_lt, h2, show ((-1 : Int32)).toInt = -1 from rfl]; omega
          simp [this]
        · rw [if_neg h2]
          by_cases h3 : wC w i (1 + q) < l <;> simp [h3]
    · cases eH E (wC w i 9) q
      · simp
      · simp only [if_true]
        split
        · trivial
        · exact ⟨v2, trivial⟩
theorem M_isTarget_I {b : Nat} {U : Nat → Nat → Int32} {w : zWd} (hC : zWM b U w) (hv : zLv w) {g : Int32} {i j : Nat} (hi : i < 30) (hj : j < 30) (hw : w.1 i = true) : F_M_isTarget b U g (zI i) (zI j) = (if aTg w g i j = true then 1 else 0) ∧ Sf_M_isTarget b U g (zI i) (zI j) := by
  obtain ⟨⟨r, l1⟩, l2, l3⟩ := hv
  have vi : vp_in (zI i) 30 := vp_in_I hi (by omega)
  have vj : vp_in (zI j) 30 := vp_in_I hj (by omega)
  unfold F_M_isTarget Sf_M_isTarget aTg
  rw [zI_clamp (show i < 2147483648 by omega), zI_clamp (show j < 2147483648 by omega), hC.has j hj]
  have ep : U (b + 6) i = wC w i 5 := hC.cell hi (show 5 < 10 by omega) hw
  have elk : F_MW_isLinked b U 0 (zI i) (zI j) = (if w.2.2.1 0 i j = true then 1 else 0) ∧ Sf_MW_isLinked b U 0 (zI i) (zI j) := by
    have e1 : (900 : Int32) * 0 + (30 : Int32) * zI i + zI j = zI (900 * 0 + 30 * i + j) := by rw [show (900 : Int32) = zI 900 from rfl, show (30 : Int32) = zI 30 from rfl, show (0 : Int32) = zI 0 from rfl, zI_mul, zI_mul, zI_add, zI_add]
    unfold F_MW_isLinked Sf_MW_isLinked
    rw [e1, zI_clamp (show 900 * 0 + 30 * i + j < 2147483648 by omega), hC.link 0 (by omega) i hi j hj]
    refine ⟨rfl, vp_in_I (by omega) (by omega), ?_, trivial⟩
    cases w.2.2.1 0 i j <;> rfl
  cases hwj : w.1 j
  · simp only [Bool.false_eq_true, if_false, if_true]
    refine ⟨?_, vj, trivial⟩
    by_cases g0 : g = 0
    · have : ¬ j = i := fun e => by rw [e, hw] at hwj; cases hwj
      simp [g0, this]
    by_cases g1 : g = 1
    · have : ¬ wC w i 5 = zI j := by
        intro e
        have e' : w.2.1 i 5 = zI j := by unfold wC at e; rwa [if_pos hw] at e
        rw [(l1 i hi hw j hj e').1] at hwj; cases hwj
      simp [g1, this]
    by_cases g2 : g = 2
    · simp [g2]
    · have : ¬ w.2.2.1 0 i j = true := fun e => by rw [(l2 0 (by omega) i hi j hj e).2.1] at hwj; cases hwj
      simp [g0, g1, g2, this]
  · simp only [if_true, if_neg (show ¬ ((1 : Int32) = 0) by decide), ep]
    have epj : U (b + 6) j = wC w j 5 := hC.cell hj (show 5 < 10 by omega) hwj
    rw [epj]
    by_cases g0 : g = 0
    · simp only [if_pos g0]
      refine ⟨?_, vj, trivial⟩
      by_cases q : j = i
      · simp [q]
      · have : ¬ zI j = zI i := by rw [zI_inj (by omega) (by omega)]; exact q
        simp [q, this]
    by_cases g1 : g = 1
    · simp only [if_neg g0, if_pos g1]
      refine ⟨?_, vj, vi, trivial⟩
      by_cases q : wC w i 5 = zI j <;> simp [q]
    by_cases g2 : g = 2
    · simp only [if_neg g0, if_neg g1, if_pos g2]
      refine ⟨?_, vj, vj, trivial⟩
      by_cases q : wC w j 5 = zI i <;> simp [q]
    · simp only [if_neg g0, if_neg g1, if_neg g2]
      refine ⟨elk.1, vj, elk.2, ?_, trivial⟩
      rw [elk.1]
      cases w.2.2.1 0 i j <;> rfl
theorem M_meets_I {b : Nat} {E U : Nat → Nat → Int32} {fl : Nat → Nat} {d : Nat} {A : zA} (hE : eM E fl U) (hC : zRM b U A) (hA : zOk d A) {r k : Nat} (hr : r < 6) (hru : zRule E r) (hk : k < A.2.1) (hn : A.2.1 ≤ 1200) (hk0 : (A.1 k).1.1 ≠ 0) : F_M_meets b U (zI r) (zI k) = (if aWoken E A.2.2 (A.1 k).1 r = true then 1 else 0) ∧ Sf_M_meets b U (zI r) (zI k) := by
  obtain ⟨c1, c2, c3, c4, c5⟩ := hC.1.ent k hk
  obtain ⟨he, -⟩ := hA.w k hk
  have vr : vp_in (zI r) 6 := vp_in_I hr (by omega)
  have vk : vp_in (zI k) 1200 := vp_in_I (by omega) (by omega)
  obtain ⟨⟨r1, r2, r3, r4, r5, r6⟩, rt, ⟨rg, rk, rf, rl0, rl1⟩, ra⟩ := id hru
  have n01 : ¬ ((1 : Int32) = 0) := by decide
  have n02 : ¬ ((2 : Int32) = 0) := by decide
  have n12 : ¬ ((2 : Int32) = 1) := by decide
  -- the cause is the class's
  have j108 : ∀ s0 : Int32, s0 = (if aCause E (A.1 k).1 r = true then 1 else 0) → F_M_meets_j108 b U (zI r) (mI (A.1 k).1) s0 = (if aWoken E A.2.2 (A.1 k).1 r = true then 1 else 0) ∧ Sf_M_meets_j108 b U (zI r) (mI (A.1 k).1) s0 := by
    intro s0 hs
    unfold F_M_meets_j108 Sf_M_meets_j108 F_M_meets_j141 Sf_M_meets_j141 F_M_meets_j167 aWoken
    rw [hs, zI_clamp (show r < 2147483648 by omega), hE.2.2.1 170 (by omega), hE.2.2.1 171 (by omega), hE.2.2.1 172 (by omega), ← r4, ← r5]
    by_cases q : aCause E (A.1 k).1 r = true
    · rw [q]
      obtain ⟨i1, i2⟩ := hA.item hk (aCause_kind q)
      have e2 : U (b + 2) (A.1 k).1.2.1 = wC A.2.2 (A.1 k).1.2.1 9 := hC.2.1.cell i1 (show 9 < 10 by omega) i2
      have hm : F_M_isMet b U (zI (A.1 k).1.2.1) (E 66 r) (E 172 r) = (if aMet E A.2.2 (A.1 k).1.2.1 (E 66 r) (E 67 r) = true then 1 else 0) ∧ Sf_M_isMet b U (zI (A.1 k).1.2.1) (E 66 r) (E 172 r) := by
        rcases r6 with q6 | q6
        · unfold F_M_isMet Sf_M_isMet aMet
          rw [if_pos q6, if_pos q6]; simp [q6]
        · rw [← q6]; exact M_isMet_I hE hC.2.1 hA.rg i1 i2 (orNone_ex rf) rl0
      show _ ∧ _
      unfold mI
      rw [zI_clamp (show (A.1 k).1.2.1 < 2147483648 by omega), e2, hm.1]
      simp only [if_true, if_neg n01, Bool.true_and]
      have vi : vp_in (zI (A.1 k).1.2.1) 30 := vp_in_I i1 (by omega)
      by_cases h1 : E 65 r = -1
      · simp only [h1, if_true, decide_true, Bool.true_or, Bool.true_and]
        refine ⟨?_, vr, vr, vr, hm.2, trivial⟩
        cases aMet E A.2.2 (A.1 k).1.2.1 (E 66 r) (E 67 r) <;> simp
      · simp only [h1, if_false, decide_false, Bool.false_or]
        by_cases h2 : E 65 r = wC A.2.2 (A.1 k).1.2.1 9
        · simp only [h2, if_true, decide_true, Bool.true_and]
          refine ⟨?_, vr, vr, vi, vr, vr, hm.2, trivial⟩
          cases aMet E A.2.2 (A.1 k).1.2.1 (E 66 r) (E 67 r) <;> simp
        · simp only [h2, if_false, decide_false, Bool.false_and]
          exact ⟨by simp, vr, vr, vi, trivial⟩
    · have q' : aCause E (A.1 k).1 r = false := by simpa using q
      rw [q']
      simp
  unfold F_M_meets Sf_M_meets F_M_meets_j74 Sf_M_meets_j74 F_M_meets_j107 Sf_M_meets_j107
  rw [zI_clamp (show r < 2147483648 by omega), zI_clamp (show k < 2147483648 by omega), hE.2.2.1 168 (by omega), hE.2.2.1 169 (by omega), c1, c2, c3, c5, ← r1, ← r2]
  have hb : ∀ x : Int32, 0 ≤ x.toInt → x.toInt ≤ 2 → ∃ q, q < 3 ∧ x = zI q := fun x h1 h2 => zI_ex h1 (by show _ < ((3 : Nat) : Int); omega) (by omega)
  rcases rt with t1 | ⟨t1, t2, t3⟩ | ⟨t1, t2, t3⟩
  · simp only [if_pos t1]
    have hc : aCause E (A.1 k).1 r = decide ((A.1 k).1.1 = 1) := by unfold aCause; rw [if_pos t1]
    by_cases q : mK (A.1 k).1 = 1
    · have q1 : (A.1 k).1.1 = 1 := by
        unfold mK at q
        rcases he with ⟨t0, ha, hb'⟩ | ⟨t0, ha, hb', hcc⟩ | ⟨t0, ha, hb'⟩ | ⟨t0, ha, hb', hcc, hne, ⟨ob, ho⟩, ⟨nb, hn⟩⟩
        · exact absurd t0 hk0
        · exact t0
        · rw [t0] at q
          simp only [if_true, if_neg (show ¬ (2 = 0) by decide), if_neg (show ¬ (2 = 1) by decide)] at q
          split at q
          · exact absurd q (by decide)
          · split at q
            · exact absurd q (by decide)
            · rw [show (1 : Int32) = zI 1 from rfl, zI_inj (by omega) (by omega)] at q; omega
        · rw [t0] at q; simp at q
      obtain ⟨p1, p2⟩ := j108 1 (by rw [hc, q1]; rfl)
      simp only [if_pos q]
      exact ⟨p1, vk, vr, vk, p2⟩
    · have q1 : ¬ (A.1 k).1.1 = 1 := by
        intro t; apply q; unfold mK; rw [t]; rfl
      obtain ⟨p1, p2⟩ := j108 0 (by rw [hc]; simp [q1])
      simp only [if_neg q]
      exact ⟨p1, vk, vr, vk, p2⟩
  · simp only [t1, if_neg n01, if_true]
    have hc : aCause E (A.1 k).1 r = decide ((A.1 k).1.1 = 2 ∧ (A.1 k).1.2.2.1 = 0 ∧ (A.1 k).1.2.2.2.2.2 = E 61 r) := by unfold aCause; rw [t1, if_neg n01, if_pos rfl]
    have hq : mK (A.1 k).1 = 2 ↔ (A.1 k).1.1 = 2 ∧ (A.1 k).1.2.2.1 = 0 := by
      unfold mK
      rcases he with ⟨t0, ha, hb'⟩ | ⟨t0, ha, hb', hcc⟩ | ⟨t0, ha, hb'⟩ | ⟨t0, ha, hb', hcc, hne, ⟨ob, ho⟩, ⟨nb, hn⟩⟩
      · exact absurd t0 hk0
      · rw [t0]; simp
      · rw [t0]
        simp only [if_true, if_neg (show ¬ (2 = 0) by decide), if_neg (show ¬ (2 = 1) by decide), true_and]
        split
        · rename_i q; simp [q]
        · rename_i q
          split
          · simp [q]
          · rw [show (2 : Int32) = zI 2 from rfl, zI_inj (by omega) (by omega)]; omega
      · rw [t0]; simp
    by_cases q : mK (A.1 k).1 = 2
    · obtain ⟨q1, q2⟩ := hq.mp q
      have eN : mN (A.1 k).1 = (A.1 k).1.2.2.2.2.2 := by unfold mN; rw [if_neg (by omega)]
      simp only [if_pos q, eN]
      by_cases q3 : (A.1 k).1.2.2.2.2.2 = E 61 r
      · obtain ⟨p1, p2⟩ := j108 1 (by rw [hc]; simp [q1, q2, q3])
        simp only [if_pos q3]
        exact ⟨p1, vk, vr, vr, vk, vk, vr, p2⟩
      · obtain ⟨p1, p2⟩ := j108 0 (by rw [hc]; simp [q3])
        simp only [if_neg q3]
        exact ⟨p1, vk, vr, vr, vk, vk, vr, p2⟩
    · obtain ⟨p1, p2⟩ := j108 0 (by rw [hc, decide_eq_false (fun g => q (hq.mpr ⟨g.1, g.2.1⟩))]; simp)
      simp only [if_neg q]
      exact ⟨p1, vk, vr, vr, vk, p2⟩
  · simp only [t1, if_neg n02, if_neg n12]
    obtain ⟨x, hx, ex⟩ := hb _ t2 t3
    have hadd : (1 : Int32) + zI x = zI (1 + x) := by rw [show (1 : Int32) = zI 1 from rfl, zI_add]
    have hc : aCause E (A.1 k).1 r = decide ((A.1 k).1.1 = 2 ∧ zI (A.1 k).1.2.2.1 = 1 + E 61 r) := by unfold aCause; rw [t1, if_neg n02, if_neg n12]
    have hq : mK (A.1 k).1 = 3 ↔ (A.1 k).1.1 = 2 ∧ 0 < (A.1 k).1.2.2.1 ∧ (A.1 k).1.2.2.1 < 4 := by
      unfold mK
      rcases he with ⟨t0, ha, hb'⟩ | ⟨t0, ha, hb', hcc⟩ | ⟨t0, ha, hb'⟩ | ⟨t0, ha, hb', hcc, hne, ⟨ob, ho⟩, ⟨nb, hn⟩⟩
      · exact absurd t0 hk0
      · rw [t0]; simp
      · rw [t0]
        simp only [if_true, if_neg (show ¬ (2 = 0) by decide), if_neg (show ¬ (2 = 1) by decide), true_and]
        split
        · rename_i q; simp [q]
        · rename_i q
          split
          · simp; omega
          · rw [show (3 : Int32) = zI 3 from rfl, zI_inj (by omega) (by omega)]; omega
      · rw [t0]; simp
    by_cases q : mK (A.1 k).1 = 3
    · obtain ⟨q1, q2, q3⟩ := hq.mp q
      have eN : mW (A.1 k).1 = zI ((A.1 k).1.2.2.1 - 1) := by unfold mW; rw [if_neg (by omega), if_neg (by omega), if_pos q1, if_neg (by omega), if_pos q3]
      simp only [if_pos q, eN, ex]
      by_cases q4 : zI ((A.1 k).1.2.2.1 - 1) = zI x
      · have q5 := (zI_inj (by omega) (by omega)).mp q4
        obtain ⟨p1, p2⟩ := j108 1 (by rw [hc, ex, hadd, decide_eq_true (show (A.1 k).1.1 = 2 ∧ zI (A.1 k).1.2.2.1 = zI (1 + x) from ⟨q1, by congr 1; omega⟩)]; rfl)
        simp only [if_pos q4]
        exact ⟨p1, vk, vr, vr, vk, vk, vr, p2⟩
      · obtain ⟨p1, p2⟩ := j108 0 (by
          rw [hc, ex, hadd, decide_eq_false]
          · rfl
          · intro g
            have := (zI_inj (by omega) (by omega)).mp g.2
            exact q4 (by congr 1; omega))
        simp only [if_neg q4]
        exact ⟨p1, vk, vr, vr, vk, vk, vr, p2⟩
    · obtain ⟨p1, p2⟩ := j108 0 (by
        rw [hc, ex, hadd, decide_eq_false]
        · rfl
        · intro g
          have h9 : (A.1 k).1.2.2.1 < 9 := by rcases he with t | t | t | t <;> omega
          have := (zI_inj (by omega) (by omega)).mp g.2
          exact q (hq.mpr ⟨g.1, by omega, by omega⟩))
      simp only [if_neg q]
      exact ⟨p1, vk, vr, vr, vk, p2⟩

