/-! PURE: automations, the class -/
theorem zRg.kind {w : zWd} (h : zRg w) {i : Nat} (hi : i < 30) (hw : w.1 i = true) : ∃ k, k < 3 ∧ wC w i 9 = zI k := by
  obtain ⟨g1, g2⟩ := h.1 i hi hw 9 (by omega)
  unfold wC; rw [if_pos hw]
  exact zI_ex g1 (by have : hi_c 9 = 2 := rfl; rw [this] at g2; exact Int.lt_of_le_of_lt g2 (by decide)) (by omega)
theorem zRg.state {w : zWd} (h : zRg w) {i : Nat} (hi : i < 30) (hw : w.1 i = true) : ∃ k, k < 6 ∧ wC w i 0 = zI k := by
  obtain ⟨g1, g2⟩ := h.1 i hi hw 0 (by omega)
  unfold wC; rw [if_pos hw]
  exact zI_ex g1 (by have : hi_c 0 = 5 := rfl; rw [this] at g2; exact Int.lt_of_le_of_lt g2 (by decide)) (by omega)
theorem zRg.project {w : zWd} (h : zRg w) {i : Nat} (hi : i < 30) (hw : w.1 i = true) : ∃ k, k < 3 ∧ wC w i 8 = zI k := by
  obtain ⟨g1, g2⟩ := h.1 i hi hw 8 (by omega)
  unfold wC; rw [if_pos hw]
  exact zI_ex g1 (by have : hi_c 8 = 2 := rfl; rw [this] at g2; exact Int.lt_of_le_of_lt g2 (by decide)) (by omega)
theorem zRg.level {w : zWd} (h : zRg w) {i : Nat} (hi : i < 30) (hw : w.1 i = true) : ∃ k, k < 3 ∧ wC w i 6 = zI k := by
  obtain ⟨g1, g2⟩ := h.1 i hi hw 6 (by omega)
  unfold wC; rw [if_pos hw]
  exact zI_ex g1 (by have : hi_c 6 = 2 := rfl; rw [this] at g2; exact Int.lt_of_le_of_lt g2 (by decide)) (by omega)
theorem zRg.parent {w : zWd} (h : zRg w) {i : Nat} (hi : i < 30) (hw : w.1 i = true) : wC w i 5 = -1 ∨ ∃ k, k < 30 ∧ wC w i 5 = zI k := by
  obtain ⟨g1, g2⟩ := h.1 i hi hw 5 (by omega)
  unfold wC; rw [if_pos hw]
  have h1 : lo_c 5 = -1 := rfl
  have h2 : hi_c 5 = 29 := rfl
  rw [h1] at g1
  rw [h2] at g2
  by_cases q : w.2.1 i 5 = -1
  · exact Or.inl q
  · have : ¬ (w.2.1 i 5).toInt = -1 := fun e => q (i_m1.mpr e)
    exact Or.inr (zI_ex (by omega) (by show _ < ((30 : Nat) : Int); omega) (by omega))
theorem zRg.value {w : zWd} (h : zRg w) {i f : Nat} (hi : i < 30) (hw : w.1 i = true) (hf : f < 3) : -1 ≤ (wC w i (1 + f)).toInt ∧ (wC w i (1 + f)).toInt ≤ 99 := by
  obtain ⟨g1, g2⟩ := h.1 i hi hw (1 + f) (by omega)
  unfold wC; rw [if_pos hw]
  have hf' : f = 0 ∨ f = 1 ∨ f = 2 := by omega
  rcases hf' with rfl | rfl | rfl <;> exact ⟨g1, g2⟩
theorem Kinds_has_I (S : Nat → Nat → Int32) {k f : Nat} (hk : k < 3) (hf : f < 3) : F_Kinds_has S (zI k) (zI f) = (if zB (S 44 k) f = true then 1 else 0) ∧ Sf_Kinds_has S (zI k) (zI f) := by
  unfold F_Kinds_has Sf_Kinds_has F_Kinds_has_j36
  have a1 : ¬ (3 : Int32) ≤ zI k := by rw [show (3 : Int32) = zI 3 from rfl, zI_le (by omega) (by omega)]; omega
  have a2 : ¬ (3 : Int32) ≤ zI f := by rw [show (3 : Int32) = zI 3 from rfl, zI_le (by omega) (by omega)]; omega
  simp only [if_neg (zI_n0 (show k < 2147483648 by omega)), if_neg (zI_n0 (show f < 2147483648 by omega)), if_neg a1, if_neg a2, zI_clamp (show k < 2147483648 by omega)]
  refine ⟨?_, vp_in_I hk (by omega), trivial⟩
  by_cases hb : zB (S 44 k) f = true
  · rw [if_pos hb, if_pos ((zB_shr (by omega)).mpr hb)]
  · rw [if_neg hb, if_neg (fun e => hb ((zB_shr (by omega)).mp e))]
/-- the class's rows, as the environment has them -/
def eC (E S : Nat → Nat → Int32) : Prop := ∀ k, 44 ≤ k ∧ k ≤ 49 ∨ k = 55 ∨ 59 ≤ k ∧ k ≤ 67 → S k = E k
theorem eC.fc {E S V : Nat → Nat → Int32} (h : eC E S) (g : zFC S V) : eC E V := fun k hk => by rw [g.1 k (by omega)]; exact h k hk
theorem ite_b {p : Bool} : ((if p = true then (1 : Int32) else 0) = 0) ↔ p = false := by cases p <;> simp
theorem T_isMet_I {E S : Nat → Nat → Int32} {w : zWd} (hE : eC E S) (hC : zWC 9 S w) (hg : zRg w) {i : Nat} (hi : i < 30) (hw : w.1 i = true) {f : Int32} (hf : f = -1 ∨ ∃ q, q < 3 ∧ f = zI q) (l : Int32) : F_T_isMet S (zI i) f l = (if aMet E w i f l = true then 1 else 0) ∧ Sf_T_isMet S (zI i) f l := by
  unfold F_T_isMet Sf_T_isMet aMet eH
  by_cases h1 : f = -1
  · rw [if_pos h1, if_pos h1]; simp [h1]
  · rw [if_neg h1, if_neg h1]
    obtain ⟨q, hq, e⟩ := hf.resolve_left h1
    obtain ⟨k, hk, ek⟩ := hg.kind hi hw
    obtain ⟨c1, c2⟩ := hC.cell hi (show 9 < 10 by omega)
    have c1' : F_World_cell 9 S (zI i) 9 = zI k := c1.trans ek
    have c2' : Sf_World_cell 9 S (zI i) 9 := c2
    obtain ⟨k1, k2⟩ := Kinds_has_I S hk hq
    obtain ⟨v1, v2⟩ := hC.cell hi (show 1 + q < 10 by omega)
    have e1 : (1 : Int32) + zI q = zI (1 + q) := by rw [show (1 : Int32) = zI 1 from rfl, zI_add]
    rw [ek, e, c1', k1, e1, v1, zI_clamp (by omega), zI_clamp (by omega), hE 44 (by omega)]
    have hm : ¬ zI q = -1 := by rw [← e]; exact h1
    simp only [hm, decide_false, Bool.false_or]
    rw [hE 44 (by omega)] at k1
    refine ⟨?_, c2', k2, ?_⟩
    · cases zB (E 44 k) q
      · simp
      · simp only [if_true, if_neg (show ¬ ((1 : Int32) = 0) by decide), Bool.true_and]
        by_cases hl : wC w i (1 + q) < l <;> simp [hl]
    · cases zB (E 44 k) q
      · simp
      · simp only [if_true, if_neg (show ¬ ((1 : Int32) = 0) by decide)]; exact ⟨v2, trivial⟩
theorem Rules_isCause_I {E S : Nat → Nat → Int32} (hE : eC E S) {r : Nat} (hr : r < 6) (hru : zRule E r) {e : zEnt} (he : zEok e) : F_Rules_isCause S (zI r) (eW e) (eA e) = if aCause E e r = true then 1 else 0 := by
  unfold F_Rules_isCause F_Rules_isCause_j68
  rw [zAt_I hr (by omega), zAt_I hr (by omega), hE 60 (by omega), hE 61 (by omega)]
  obtain ⟨-, ht, -, -⟩ := hru
  have hb : ∀ x : Int32, 0 ≤ x.toInt → x.toInt ≤ 2 → ∃ q, q < 3 ∧ x = zI q := fun x h1 h2 => zI_ex h1 (by show _ < ((3 : Nat) : Int); omega) (by omega)
  have hadd : ∀ q, (1 : Int32) + zI q = zI (1 + q) := fun q => by rw [show (1 : Int32) = zI 1 from rfl, zI_add]
  have n01 : ¬ ((1 : Int32) = 0) := by decide
  have n02 : ¬ ((2 : Int32) = 0) := by decide
  have n12 : ¬ ((2 : Int32) = 1) := by decide
  obtain ⟨t, a, b, c, o, n⟩ := e
  unfold aCause eW eA
  rcases he with ⟨t0, ha, hb'⟩ | ⟨t0, ha, hb', hcc⟩ | ⟨t0, ha, hb'⟩ | ⟨t0, ha, hb', hcc, hne, ⟨ob, ho⟩, ⟨nb, hn⟩⟩
  · dsimp only at t0; subst t0
    rcases ht with t1 | ⟨t1, t2, t3⟩ | ⟨t1, t2, t3⟩
    · simp only [t1, if_true]; rw [if_neg (by decide)]; simp
    · simp only [t1, if_neg n01, if_true]; rw [if_neg (by decide)]; simp
    · obtain ⟨q, hq, e⟩ := hb _ t2 t3
      have : ¬ (14 : Int32) = zI (1 + q) := by rw [show (14 : Int32) = zI 14 from rfl, zI_inj (by omega) (by omega)]; omega
      simp only [t1, if_neg n02, if_neg n12, if_true, e, hadd, if_neg this]; simp
  · dsimp only at t0; subst t0
    rcases ht with t1 | ⟨t1, t2, t3⟩ | ⟨t1, t2, t3⟩
    · simp only [t1, if_true, if_neg (show ¬ (1 = 0) by decide)]; simp
    · simp only [t1, if_neg n01, if_true, if_neg (show ¬ (1 = 0) by decide)]; rw [if_neg (by decide)]; simp
    · obtain ⟨q, hq, e⟩ := hb _ t2 t3
      have : ¬ (13 : Int32) = zI (1 + q) := by rw [show (13 : Int32) = zI 13 from rfl, zI_inj (by omega) (by omega)]; omega
      simp only [t1, if_neg n02, if_neg n12, if_true, e, hadd, if_neg (show ¬ (1 = 0) by decide), if_neg this]; simp
  · dsimp only at t0 ha hb'; subst t0
    have m13 : ¬ zI b = 13 := by rw [show (13 : Int32) = zI 13 from rfl, zI_inj (by omega) (by omega)]; omega
    rcases ht with t1 | ⟨t1, t2, t3⟩ | ⟨t1, t2, t3⟩
    · simp only [t1, if_true, if_neg (show ¬ (2 = 0) by decide), if_neg (show ¬ (2 = 1) by decide), if_neg m13]; simp
    · simp only [t1, if_neg n01, if_true, if_neg (show ¬ (2 = 0) by decide), if_neg (show ¬ (2 = 1) by decide)]
      by_cases b0 : b = 0
      · subst b0
        rw [if_pos (show zI 0 = 0 from rfl)]
        by_cases hn : n = E 61 r <;> simp [hn]
      · have : ¬ zI b = 0 := by rw [show (0 : Int32) = zI 0 from rfl, zI_inj (by omega) (by omega)]; exact b0
        rw [if_neg this]; simp [b0]
    · simp only [t1, if_neg n02, if_neg n12, if_true, if_neg (show ¬ (2 = 0) by decide), if_neg (show ¬ (2 = 1) by decide)]
      by_cases hq : zI b = 1 + E 61 r <;> simp [hq]
  · dsimp only at t0 ha hb'; subst t0
    have m13 : ¬ zI (10 + b) = 13 := by rw [show (13 : Int32) = zI 13 from rfl, zI_inj (by omega) (by omega)]; omega
    have m0 : ¬ zI (10 + b) = 0 := by rw [show (0 : Int32) = zI 0 from rfl, zI_inj (by omega) (by omega)]; omega
    rcases ht with t1 | ⟨t1, t2, t3⟩ | ⟨t1, t2, t3⟩
    · simp only [t1, if_true, if_neg (show ¬ (3 = 0) by decide), if_neg (show ¬ (3 = 1) by decide), if_neg (show ¬ (3 = 2) by decide), if_neg m13]; simp
    · simp only [t1, if_neg n01, if_true, if_neg (show ¬ (3 = 0) by decide), if_neg (show ¬ (3 = 1) by decide), if_neg (show ¬ (3 = 2) by decide), if_neg m0]; simp
    · obtain ⟨q, hq, e⟩ := hb _ t2 t3
      have : ¬ zI (10 + b) = zI (1 + q) := by rw [zI_inj (by omega) (by omega)]; omega
      simp only [t1, if_neg n02, if_neg n12, if_true, e, hadd, if_neg (show ¬ (3 = 0) by decide), if_neg (show ¬ (3 = 1) by decide), if_neg (show ¬ (3 = 2) by decide), if_neg this]; simp
theorem orNone_ex {f : Int32} (h : -1 ≤ f.toInt ∧ f.toInt ≤ 2) : f = -1 ∨ ∃ q, q < 3 ∧ f = zI q := by
  by_cases q : f = -1
  · exact Or.inl q
  · have : ¬ f.toInt = -1 := fun e => q (i_m1.mpr e)
    exact Or.inr (zI_ex (by omega) (by show _ < ((3 : Nat) : Int); omega) (by omega))
theorem T_isWoken_I {E S : Nat → Nat → Int32} {d : Nat} {A : zA} (hE : eC E S) (hC : zRC S A) (hA : zOk d A) {r k : Nat} (hr : r < 6) (hru : zRule E r) (hk : k < A.2.1) (hn : A.2.1 ≤ 900) : F_T_isWoken S (zI r) (zI k) = (if aWoken E A.2.2 (A.1 k).1 r = true then 1 else 0) ∧ Sf_T_isWoken S (zI r) (zI k) := by
  obtain ⟨c4, c5, c6, c7, c8⟩ := hC.1.ent k hk
  obtain ⟨he, -⟩ := hA.w k hk
  have hcause := Rules_isCause_I hE hr hru he
  unfold F_T_isWoken Sf_T_isWoken F_T_isWoken_j79 Sf_T_isWoken_j79 F_T_isWoken_j113
  rw [zAt_I (show k < 900 by omega) (by omega), zAt_I (show k < 900 by omega) (by omega), zAt_I (show k < 900 by omega) (by omega), c4, c5, c8, hcause, zAt_I hr (by omega), zAt_I hr (by omega), zAt_I hr (by omega), hE 65 (by omega), hE 66 (by omega), hE 67 (by omega)]
  unfold aWoken
  by_cases q : aCause E (A.1 k).1 r = true
  · rw [q]
    obtain ⟨i1, i2⟩ := hA.item hk (aCause_kind q)
    have eI' : eI (A.1 k).1 = zI (A.1 k).1.2.1 := by unfold eI; rw [if_neg (by rcases aCause_kind q with t | t <;> omega)]
    rw [eI']
    obtain ⟨m1, m2⟩ := T_isMet_I hE hC.2 hA.rg i1 i2 (f := E 66 r) (orNone_ex hru.2.2.1.2.2.1) (E 67 r)
    obtain ⟨c1, c2⟩ := hC.2.cell i1 (show 9 < 10 by omega)
    have c1' : F_World_cell 9 S (zI (A.1 k).1.2.1) 9 = wC A.2.2 (A.1 k).1.2.1 9 := c1
    have c2' : Sf_World_cell 9 S (zI (A.1 k).1.2.1) 9 := c2
    rw [m1, c1']
    simp only [if_true, if_neg (show ¬ ((1 : Int32) = 0) by decide), Bool.true_and]
    by_cases h1 : E 65 r = -1
    · simp only [h1, if_true, decide_true, Bool.true_or, Bool.true_and]
      refine ⟨?_, m2, trivial⟩
      cases aMet E A.2.2 (A.1 k).1.2.1 (E 66 r) (E 67 r) <;> simp
    · simp only [h1, if_false, decide_false, Bool.false_or]
      by_cases h2 : E 65 r = wC A.2.2 (A.1 k).1.2.1 9
      · simp only [h2, if_true, decide_true, Bool.true_and]
        refine ⟨?_, c2', m2, trivial⟩
        cases aMet E A.2.2 (A.1 k).1.2.1 (E 66 r) (E 67 r) <;> simp
      · simp only [h2, if_false, decide_false, Bool.false_and]
        exact ⟨by simp, c2', trivial⟩
  · have q' : aCause E (A.1 k).1 r = false := by simpa using q
    rw [q']
    simp
theorem World_childrenOf_L {r : Nat} {S : Nat → Nat → Int32} {w : zWd} (hC : zWC r S w) {x : Int32} : ∀ (n j f : Nat) (y : Int32), j + n = 30 → n < f →
    Sf_World_childrenOf_L4 r S x f y (zI j) ∧ ∀ q, q < 30 → zB (F_World_childrenOf_L4 r S x f y (zI j)) q = (zB y q || (decide (j ≤ q) && (w.1 q && decide (wC w q 5 = x)))) := by
  intro n
  induction n with
  | zero =>
    intro j f y hj hf
    obtain ⟨f, rfl⟩ : ∃ g, f = g + 1 := ⟨f - 1, by omega⟩
    have hl : (30 : Int32) ≤ zI j := by rw [show (30 : Int32) = zI 30 from rfl, zI_le (by omega) (by omega)]; omega
    unfold F_World_childrenOf_L4 Sf_World_childrenOf_L4
    rw [if_pos hl, if_pos hl]
    refine ⟨trivial, fun q hq => ?_⟩
    rw [show decide (j ≤ q) = false by simp; omega]; simp
  | succ n ih =>
    intro j f y hj hf
    obtain ⟨f, rfl⟩ : ∃ g, f = g + 1 := ⟨f - 1, by omega⟩
    have hl : ¬ (30 : Int32) ≤ zI j := by rw [show (30 : Int32) = zI 30 from rfl, zI_le (by omega) (by omega)]; omega
    unfold F_World_childrenOf_L4 Sf_World_childrenOf_L4
    obtain ⟨c1, c2⟩ := hC.cell (i := j) (by omega) (show 5 < 10 by omega)
    have c1' : F_World_cell r S (zI j) 5 = wC w j 5 := c1
    have c2' : Sf_World_cell r S (zI j) 5 := c2
    rw [if_neg hl, if_neg hl, World_has_I (show j < 30 by omega), hC.has j (by omega), zI_succ, c1']
    have split_q : ∀ q, decide (j ≤ q) = (decide (q = j) || decide (j + 1 ≤ q)) := fun q => by
      by_cases e : q = j
      · simp [e]
      · simp [e]; omega
    cases hw : w.1 j
    · simp only [Bool.false_eq_true, if_false, if_true]
      obtain ⟨i1, i2⟩ := ih (j + 1) f y (by omega) (by omega)
      refine ⟨i1, fun q hq => ?_⟩
      rw [i2 q hq, split_q q]
      by_cases e : q = j
      · subst e; simp [hw]
      · simp [e]
    · simp only [if_true, if_neg (show ¬ ((1 : Int32) = 0) by decide)]
      by_cases h2 : wC w j 5 = x
      · rw [if_pos h2, if_pos h2]
        obtain ⟨i1, i2⟩ := ih (j + 1) f (y ||| F_T_bit S (zI j)) (by omega) (by omega)
        refine ⟨⟨c2', i1⟩, fun q hq => ?_⟩
        rw [i2 q hq, zB_or, T_bit_B S (by omega) (by omega), split_q q]
        by_cases e : q = j
        · subst e; simp [hw, h2]
        · simp [e]
      · rw [if_neg h2, if_neg h2]
        obtain ⟨i1, i2⟩ := ih (j + 1) f y (by omega) (by omega)
        refine ⟨⟨c2', i1⟩, fun q hq => ?_⟩
        rw [i2 q hq, split_q q]
        by_cases e : q = j
        · subst e; simp [h2]
        · simp [e]
theorem T_targetsOf_I {S : Nat → Nat → Int32} {w : zWd} (hC : zWC 9 S w) (hg : zRg w) {i : Nat} (hi : i < 30) (hw : w.1 i = true) {g : Int32} (h0 : 0 ≤ g.toInt) (h3 : g.toInt ≤ 3) : (∀ j, j < 30 → zB (F_T_targetsOf S (zI i) g) j = aTg w g i j) ∧ Sf_T_targetsOf S (zI i) g := by
  unfold F_T_targetsOf Sf_T_targetsOf aTg
  by_cases g0 : g = 0
  · simp only [if_pos g0]
    exact ⟨fun j hj => T_bit_B S (by omega) (by omega), trivial⟩
  by_cases g1 : g = 1
  · simp only [if_neg g0, if_pos g1]
    obtain ⟨c1, c2⟩ := hC.cell hi (show 5 < 10 by omega)
    have c1' : F_World_cell 9 S (zI i) 5 = wC w i 5 := c1
    refine ⟨fun j hj => ?_, c2, trivial⟩
    rw [c1']
    rcases hg.parent hi hw with e | ⟨k, hk, e⟩
    · rw [e, T_bit_out S (Or.inl (by decide)), zB_0]
      have : ¬ (-1 : Int32) = zI j := by
        intro q
        have := congrArg Int32.toInt q
        rw [zI_toInt (by omega)] at this
        have e1 : (-1 : Int32).toInt = -1 := rfl
        omega
      simp [this]
    · rw [e, T_bit_B S (by omega) (by omega)]
      by_cases q : j = k
      · simp [q]
      · have : ¬ zI k = zI j := by rw [zI_inj (by omega) (by omega)]; omega
        simp [q, this]
  by_cases g2 : g = 2
  · simp only [if_neg g0, if_neg g1, if_pos g2]
    obtain ⟨l1, l2⟩ := World_childrenOf_L hC (x := zI i) 30 0 1300 0 rfl (by omega)
    rw [zI_0] at l1 l2
    unfold F_World_childrenOf Sf_World_childrenOf
    refine ⟨fun j hj => ?_, ⟨l1, trivial⟩, trivial⟩
    have := l2 j hj
    rw [zB_0] at this
    simpa using this
  · simp only [if_neg g0, if_neg g1, if_neg g2]
    obtain ⟨l1, l2⟩ := World_linksOf_I (r := 9) (S := S) (t := 0) (by omega) hi
    have l1' : F_World_linksOf 9 S 0 (zI i) = S (9 + 2) (30 * 0 + i) := l1
    refine ⟨fun j hj => ?_, l2, trivial⟩
    rw [l1']
    exact hC.link 0 (by omega) i hi j hj
theorem T_canTake_I {E S : Nat → Nat → Int32} {w : zWd} (hE : eC E S) (hC : zWC 9 S w) (hg : zRg w) {r j : Nat} (hr : r < 6) (hru : zRule E r) (hj : j < 30) (hw : w.1 j = true) : F_T_canTake S (zI r) (F_World_cell 9 S (zI j) 9) = (if aCan E w r j = true then 1 else 0) ∧ Sf_T_canTake S (zI r) (F_World_cell 9 S (zI j) 9) ∧ Sf_World_cell 9 S (zI j) 9 := by
  obtain ⟨c1, c2⟩ := hC.cell hj (show 9 < 10 by omega)
  have c1' : F_World_cell 9 S (zI j) 9 = wC w j 9 := c1
  obtain ⟨k, hk, ek⟩ := hg.kind hj hw
  refine ⟨?_, ?_, c2⟩ <;> rw [c1', ek]
  · unfold F_T_canTake aCan eS eH
    rw [zAt_I hr (by omega), hE 63 (by omega), zAt_I hr (by omega), hE 64 (by omega)]
    obtain ⟨-, -, -, h⟩ := hru
    rcases h with ⟨h1, h2, h3, ⟨h4, h5⟩, h6, h7⟩ | ⟨h1, h2, h3, h4, h5⟩ | ⟨h1, h2, h3, h4, h5⟩
    · obtain ⟨f, hf, e⟩ := zI_ex (n := 3) h4 (by omega) (by omega)
      have e2 : E 63 r = zI (1 + f) := by rw [h2, e, show (1 : Int32) = zI 1 from rfl, zI_add]
      have n0 : ¬ zI (1 + f) = 0 := by rw [show (0 : Int32) = zI 0 from rfl, zI_inj (by omega) (by omega)]; omega
      have n4 : ¬ zI (1 + f) = 4 := by rw [show (4 : Int32) = zI 4 from rfl, zI_inj (by omega) (by omega)]; omega
      have e3 : zI (1 + f) - 1 = zI f := by rw [show (1 : Int32) = zI 1 from rfl, zI_sub (by omega) (by omega)]; congr 1; omega
      rw [e2]
      simp only [if_neg n0, if_neg n4, e3, (Kinds_has_I S hk hf).1, ek, zI_clamp (show k < 2147483648 by omega), zI_clamp (show 1 + f < 2147483648 by omega), show 1 + f - 1 = f by omega, hE 44 (by omega)]
      cases zB (E 44 k) f <;> simp
    · obtain ⟨f, hf, e⟩ := zI_ex (n := 6) h4 (by omega) (by omega)
      have e2 : E 64 r = zI f := by rw [h3]; exact e
      rw [h2, e2]
      simp only [if_true, Flows_has_I S (show k < 4 by omega) (show f < 31 by omega), ek, zI_clamp (show k < 2147483648 by omega), zI_clamp (show f < 2147483648 by omega), hE 55 (by omega)]
    · rw [h2]; simp
  · unfold Sf_T_canTake
    rw [zAt_I hr (by omega), hE 63 (by omega), zAt_I hr (by omega), hE 64 (by omega)]
    obtain ⟨-, -, -, h⟩ := hru
    rcases h with ⟨h1, h2, h3, ⟨h4, h5⟩, h6, h7⟩ | ⟨h1, h2, h3, h4, h5⟩ | ⟨h1, h2, h3, h4, h5⟩
    · obtain ⟨f, hf, e⟩ := zI_ex (n := 3) h4 (by omega) (by omega)
      have e2 : E 63 r = zI (1 + f) := by rw [h2, e, show (1 : Int32) = zI 1 from rfl, zI_add]
      have n0 : ¬ zI (1 + f) = 0 := by rw [show (0 : Int32) = zI 0 from rfl, zI_inj (by omega) (by omega)]; omega
      have n4 : ¬ zI (1 + f) = 4 := by rw [show (4 : Int32) = zI 4 from rfl, zI_inj (by omega) (by omega)]; omega
      have e3 : zI (1 + f) - 1 = zI f := by rw [show (1 : Int32) = zI 1 from rfl, zI_sub (by omega) (by omega)]; congr 1; omega
      rw [e2]
      simp only [if_neg n0, if_neg n4, e3]
      exact ⟨(Kinds_has_I S hk hf).2, trivial⟩
    · obtain ⟨f, hf, e⟩ := zI_ex (n := 6) h4 (by omega) (by omega)
      have e2 : E 64 r = zI f := by rw [h3]; exact e
      rw [h2, e2]
      simp only [if_true]
      refine ⟨Sf_Flows_has_I S _ _, ?_, trivial⟩
      rw [Flows_has_I S (show k < 4 by omega) (show f < 31 by omega)]
      split <;> rfl
    · rw [h2]
      rw [if_neg (by decide), if_pos rfl]; trivial


