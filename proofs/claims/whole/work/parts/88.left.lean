/-! PURE: left, breach -/
def wk (d : Nat) : Bool := decide (d % 7 ≤ 4)
def wB (p : Int32) : Int32 := ((p / 7) * 5) + (if 5 < (p - p / 7 * 7) then 5 else (p - p / 7 * 7))
def wN (p : Int32) : Int32 := if (4 : Int32) < (p - p / 7 * 7) then 0 else 1
theorem wB_0 : wB (zI 0) = zI 0 := by decide +kernel
theorem wB_s : ∀ d, d < 700 → wB (zI (d + 1)) = wB (zI d) + (if wk d = true then 1 else 0) := by decide +kernel
theorem wN_I : ∀ d, d < 700 → wN (zI d) = if wk d = true then 1 else 0 := by decide +kernel
theorem T_work_eq (S : Nat → Nat → Int32) (p : Int32) : F_T_workBefore S p = wB p := rfl
theorem M_isWorking_eq (S : Nat → Nat → Int32) (p : Int32) : F_M_isWorking S p = wN p := rfl
theorem wB_I : ∀ d, d ≤ 700 → wB (zI d) = zI (cN wk d) := by
  intro d
  induction d with
  | zero => intro _; exact wB_0
  | succ d ih =>
    intro hd
    rw [wB_s d (by omega), ih (by omega)]
    show zI (cN wk d) + (if wk d = true then (1 : Int32) else 0) = zI (cN wk d + (if wk d = true then 1 else 0))
    cases wk d
    · show zI (cN wk d) + zI 0 = zI (cN wk d + 0)
      rw [zI_add]
    · show zI (cN wk d) + zI 1 = zI (cN wk d + 1)
      rw [zI_add]
theorem cN_add {P Q : Nat → Bool} {t : Nat} : ∀ D, t ≤ D → (∀ j, t ≤ j → j < D → P j = Q j) → cN P D + cN Q t = cN P t + cN Q D := by
  intro D
  induction D with
  | zero => intro h _; rw [show t = 0 by omega]
  | succ D ih =>
    intro h1 h2
    by_cases e : t = D + 1
    · rw [e]
    · have := ih (by omega) (fun j a b => h2 j a (by omega))
      show cN P D + (if P D = true then 1 else 0) + cN Q t = cN P t + (cN Q D + (if Q D = true then 1 else 0))
      rw [h2 D (by omega) (by omega)]; omega
theorem cN_congr {P Q : Nat → Bool} : ∀ D, (∀ j, j < D → P j = Q j) → cN P D = cN Q D := by
  intro D
  induction D with
  | zero => intro _; rfl
  | succ D ih => intro h; unfold cN; rw [ih (fun j hj => h j (by omega)), h D (by omega)]
theorem cN_false : ∀ D, cN (fun _ => false) D = 0 := by
  intro D
  induction D with
  | zero => rfl
  | succ D ih => unfold cN; rw [ih]; rfl
/-- whether a state runs -/
def rS (R s : Int32) : Bool := if s = -1 then false else zB R s.toNatClampNeg
/-- working days ahead of a day, on which an item ran, by the first k entries -/
def rD (L : zLg) (i : Nat) (R : Int32) (k D : Nat) : Nat := cN (fun j => wk j && rS R (sD L i j k)) D
theorem rD_mono {L : zLg} {i k D : Nat} {R : Int32} : rD L i R k D ≤ D := cN_le _ D
def okS (s : Int32) : Prop := s = -1 ∨ ∃ q, q < 6 ∧ s = zI q
theorem sF_ok {L : zLg} {n i : Nat} (hW : zLgW L n) (hV : zLgV L n) (hi : i < 30) : ∀ k, k ≤ n → okS (sF L i k) := by
  intro k hk
  rw [sF_rep hW k hk]
  have hg := (zRep_rg hW hV k hk).1
  by_cases hw : (zRep L k).1 i = true
  · obtain ⟨q, hq, e⟩ := hg.state hi hw
    exact Or.inr ⟨q, hq, e⟩
  · exact Or.inl (by unfold wC; rw [if_neg hw])
theorem T_isIn_rS (S : Nat → Nat → Int32) {R s : Int32} (h : okS s) : F_T_isIn S R s = if rS R s = true then 1 else 0 := by
  unfold rS
  rcases h with rfl | ⟨q, hq, rfl⟩
  · rw [if_pos rfl]; exact T_isIn_out S (Or.inl (by decide))
  · rw [if_neg (m1_ne q (by omega)), zI_clamp (by omega)]; exact T_isIn_I S (by omega)
theorem rD_split {L : zLg} {i k T : Nat} {R c : Int32} (hTk : (L k).2.1 = T) (hc : ∀ x, sE (L k).1 i x = c) {D : Nat} (hD : T ≤ D) : rD L i R (k + 1) D = rD L i R k T + (if rS R c = true then cN wk D - cN wk T else 0) := by
  have h1 := cN_add (P := fun j => wk j && rS R (sD L i j (k + 1))) (Q := fun j => wk j && rS R c) (t := T) D hD (fun j j1 j2 => by
    show (wk j && rS R (if (L k).2.1 ≤ j then sE (L k).1 i (sD L i j k) else sD L i j k)) = _
    rw [if_pos (by omega), hc])
  have h2 : cN (fun j => wk j && rS R (sD L i j (k + 1))) T = rD L i R k T := cN_congr T (fun j hj => by
    show (wk j && rS R (if (L k).2.1 ≤ j then sE (L k).1 i (sD L i j k) else sD L i j k)) = _
    rw [if_neg (by omega)])
  rw [h2] at h1
  show cN (fun j => wk j && rS R (sD L i j (k + 1))) D = _
  cases q : rS R c
  · rw [q] at h1
    have e : (fun j => wk j && false) = fun _ => false := funext fun j => by simp
    rw [e, cN_false, cN_false] at h1
    simp; omega
  · rw [q] at h1
    have e : (fun j => wk j && true) = wk := funext fun j => by simp
    rw [e] at h1
    have := cN_add (P := wk) (Q := fun _ => false) (t := T) 
    have hm : cN wk T ≤ cN wk D := by
      have : ∀ m, cN wk T ≤ cN wk (T + m) := by
        intro m
        induction m with
        | zero => exact Nat.le_refl _
        | succ m ih => show _ ≤ cN wk (T + m) + _; omega
      have := this (D - T)
      rw [show T + (D - T) = D by omega] at this
      exact this
    simp; omega
theorem rD_same {L : zLg} {i k : Nat} {R : Int32} (hc : ∀ x, sE (L k).1 i x = x) (D : Nat) : rD L i R (k + 1) D = rD L i R k D := cN_congr D (fun j hj => by
  show (wk j && rS R (if (L k).2.1 ≤ j then sE (L k).1 i (sD L i j k) else sD L i j k)) = _
  rw [hc, ite_self])
def spI (L : zLg) (i : Nat) (R : Int32) (k t s : Nat) : Prop := ∀ D, t ≤ D → (∀ j, j < k → (L j).2.1 ≤ D) → s + (if rS R (sF L i k) = true then cN wk D - cN wk t else 0) = rD L i R k D
/-- what the class has spent after k entries, said of any later day -/
theorem T_spent_L {S : Nat → Nat → Int32} {L : zLg} {n i d : Nat} {R : Int32} (hL : zLgC L n S) (hW : zLgW L n) (hV : zLgV L n) (hDs : zLgD L n d) (hn : n ≤ 900) (hi : i < 30) (hd4 : d ≤ 400) : ∀ (m k f t s : Nat), m + k = n → m < f → (t = 0 ∨ ∃ j, j < k ∧ t = (L j).2.1) → s ≤ 400 → spI L i R k t s →
    ∃ t' s', F_T_spentDays_L32 S (zI i) R f (sF L i k) (zI t) (zI s) (zI k) = (sF L i n, zI t', zI s') ∧ Sf_T_spentDays_L32 S (zI i) R f (sF L i k) (zI t) (zI s) (zI k) ∧ t' ≤ d ∧ s' ≤ 400 ∧ spI L i R n t' s' := by
  intro m
  induction m with
  | zero =>
    intro k f t s hk hf ht hs h4
    obtain ⟨f, rfl⟩ : ∃ q, f = q + 1 := ⟨f - 1, by omega⟩
    have e : k = n := by omega
    subst e
    have hl : zI k ≤ zI k := by rw [zI_le (by omega) (by omega)]; omega
    refine ⟨t, s, ?_, ?_, ?_, hs, h4⟩
    · unfold F_T_spentDays_L32; rw [hL.size, if_pos hl]
    · unfold Sf_T_spentDays_L32; rw [hL.size, if_pos hl]; trivial
    · rcases ht with q | ⟨j, hj, q⟩
      · omega
      · have := hDs.1 j hj; omega
  | succ m ih =>
    intro k f t s hk hf ht hs h4
    obtain ⟨f, rfl⟩ : ∃ q, f = q + 1 := ⟨f - 1, by omega⟩
    have hl : ¬ zI n ≤ zI k := by rw [zI_le (by omega) (by omega)]; omega
    have hkn : k < n := by omega
    obtain ⟨he, -, -, hd, -⟩ := hW k hkn
    obtain ⟨c4, c5, -, -, c8⟩ := hL.ent k hkn
    have c2 : S 2 k = zI (L k).2.1 := (hL.2 k hkn).2.1
    have hsF : sF L i (k + 1) = sE (L k).1 i (sF L i k) := rfl
    have htk : t ≤ (L k).2.1 := by
      rcases ht with q | ⟨j, hj, q⟩
      · omega
      · have := hDs.2 j k hj hkn; omega
    have hkd := hDs.1 k hkn
    have hokS := sF_ok hW hV hi k (by omega)
    -- the same state goes on
    have same : (∀ x, sE (L k).1 i x = x) → ∃ t' s', F_T_spentDays_L32 S (zI i) R f (sF L i k) (zI t) (zI s) (zI (k + 1)) = (sF L i n, zI t', zI s') ∧ Sf_T_spentDays_L32 S (zI i) R f (sF L i k) (zI t) (zI s) (zI (k + 1)) ∧ t' ≤ d ∧ s' ≤ 400 ∧ spI L i R n t' s' := by
      intro e
      rw [e] at hsF
      rw [← hsF]
      refine ih (k + 1) f t s (by omega) (by omega) (ht.imp id fun ⟨j, hj, q⟩ => ⟨j, by omega, q⟩) hs (fun D hD1 hD2 => ?_)
      rw [hsF, rD_same e]
      exact h4 D hD1 (fun j hj => hD2 j (by omega))
    -- a new state
    have other : ∀ c, (∀ x, sE (L k).1 i x = c) → ∃ t' s', F_T_spentDays_L32 S (zI i) R f c (zI (L k).2.1) (zI (rD L i R k (L k).2.1)) (zI (k + 1)) = (sF L i n, zI t', zI s') ∧ Sf_T_spentDays_L32 S (zI i) R f c (zI (L k).2.1) (zI (rD L i R k (L k).2.1)) (zI (k + 1)) ∧ t' ≤ d ∧ s' ≤ 400 ∧ spI L i R n t' s' := by
      intro c e
      rw [e] at hsF
      rw [← hsF]
      refine ih (k + 1) f (L k).2.1 (rD L i R k (L k).2.1) (by omega) (by omega) (Or.inr ⟨k, by omega, rfl⟩) (Nat.le_trans rD_mono (by omega)) (fun D hD1 hD2 => ?_)
      rw [hsF, rD_split rfl e hD1]
    -- what has been spent until then
    have h5 := h4 (L k).2.1 htk (fun j hj => hDs.2 j k hj hkn)
    have hm : cN wk t ≤ cN wk (L k).2.1 := by
      have : ∀ q, cN wk t ≤ cN wk (t + q) := by
        intro q
        induction q with
        | zero => exact Nat.le_refl _
        | succ q ih => show _ ≤ cN wk (t + q) + _; omega
      have := this ((L k).2.1 - t)
      rw [show t + ((L k).2.1 - t) = (L k).2.1 by omega] at this
      exact this
    have hlk := cN_le wk (L k).2.1
    have h6 : (if rS R (sF L i k) = true then zI s + (zI (cN wk (L k).2.1) - zI (cN wk t)) else zI s + 0) = zI (rD L i R k (L k).2.1) := by
      rw [← h5]
      cases rS R (sF L i k)
      · simp
      · simp only [if_true]
        rw [zI_sub hm (by omega), zI_add]
    unfold F_T_spentDays_L32 Sf_T_spentDays_L32 F_T_spentDays_l32_86 Sf_T_spentDays_l32_86 F_T_spentDays_l32_121 Sf_T_spentDays_l32_121 F_T_spentDays_l32_147 Sf_T_spentDays_l32_147
    rw [hL.size, if_neg hl, if_neg hl]
    simp only [zAt_I (show k < 900 by omega) (show 900 ≤ 2147483648 by omega), c2, c4, c5, c8, zI_succ, T_work_eq, wB_I t (by omega), wB_I (L k).2.1 (by omega), T_isIn_rS S hokS]
    by_cases q0 : (L k).1.1 ≠ 0 ∧ (L k).1.2.1 = i
    · have b0 := (e_item he hi).mpr q0
      simp only [if_pos b0]
      by_cases q2 : (L k).1.1 = 1
      · have b := (e_born he).mpr q2
        have oc := other 0 (fun x => by unfold sE; rw [if_pos ⟨q2, q0.2⟩])
        simp only [b, if_true]
        rw [← h6] at oc
        cases q9 : rS R (sF L i k)
        · rw [q9] at oc; simp only [Bool.false_eq_true, if_false, if_true] at oc ⊢; exact oc
        · rw [q9] at oc; simp only [if_true, if_neg ne_10] at oc ⊢; exact oc
      · have b : ¬ eW (L k).1 = 13 := fun h => q2 ((e_born he).mp h)
        simp only [if_neg b]
        by_cases q3 : (L k).1.1 = 2 ∧ (L k).1.2.2.1 = 0
        · have b2 := (e_state he).mpr q3
          have eN : eA (L k).1 = (L k).1.2.2.2.2.2 := by unfold eA; rw [if_neg q2]
          have oc := other (L k).1.2.2.2.2.2 (fun x => by unfold sE; rw [if_neg (fun h => q2 h.1), if_pos ⟨q3.1, q0.2, q3.2⟩])
          rw [← h6] at oc
          have n13 : ¬ (0 : Int32) = 13 := by decide
          simp only [b2, if_true, eN, if_neg n13]
          cases q9 : rS R (sF L i k)
          · rw [q9] at oc; simp only [Bool.false_eq_true, if_false, if_true] at oc ⊢; exact oc
          · rw [q9] at oc; simp only [if_true, if_neg ne_10] at oc ⊢; exact oc
        · have b2 : ¬ eW (L k).1 = 0 := fun h => q3 ((e_state he).mp h)
          simp only [if_neg b2]
          exact same (fun x => by unfold sE; rw [if_neg (fun h => q2 h.1), if_neg (fun h => q3 ⟨h.1, h.2.2⟩)])
    · have b0 : ¬ eI (L k).1 = zI i := fun h => q0 ((e_item he hi).mp h)
      simp only [if_neg b0]
      exact same (fun x => by unfold sE; rw [if_neg (fun h => q0 ⟨by omega, h.2⟩), if_neg (fun h => q0 ⟨by omega, h.2.1⟩)])
/-- the working days that an item spent -/
theorem T_spentDays_I {S : Nat → Nat → Int32} {d k i : Nat} {A : zA} {R : Int32} (hd : S 0 14 = zI d) (hC : zRC S A) (hA : zOk d A) (hn : A.2.1 ≤ 900) (hi : i < 30) (hk : k < 3) (hw : wC A.2.2 i 9 = zI k) (hR : S 48 k = R) : F_T_spentDays S (zI i) = zI (rD A.1 i R A.2.1 d) ∧ Sf_T_spentDays S (zI i) := by
  have hd4 : d ≤ 400 := hA.2.2.2.2
  obtain ⟨t', s', l1, l2, l3, l4, l5⟩ := T_spent_L (R := R) (i := i) hC.1 hA.w hA.v hA.d hn hi hd4 A.2.1 0 1300 0 0 rfl (by omega) (Or.inl rfl) (by omega) (fun D _ _ => by
    show 0 + (if rS R (-1) = true then _ else 0) = rD A.1 i R 0 D
    have e : rS R (-1) = false := rfl
    rw [e]
    have : (fun j => wk j && rS R (sD A.1 i j 0)) = fun _ => false := funext fun j => by show (wk j && rS R (-1)) = false; rw [e]; simp
    show 0 + 0 = cN _ D
    rw [this, cN_false])
  have l1' : F_T_spentDays_L32 S (zI i) R 1300 (-1) 0 0 0 = (sF A.1 i A.2.1, zI t', zI s') := l1
  have l2' : Sf_T_spentDays_L32 S (zI i) R 1300 (-1) 0 0 0 := l2
  obtain ⟨c1, c2⟩ := hC.2.cell hi (show 9 < 10 by omega)
  have c1' : F_World_cell 9 S (zI i) 9 = zI k := c1.trans hw
  have c2' : Sf_World_cell 9 S (zI i) 9 := c2
  have h5 := l5 d l3 (fun j hj => hA.d.1 j hj)
  have hm : cN wk t' ≤ cN wk d := by
    have : ∀ q, cN wk t' ≤ cN wk (t' + q) := by
      intro q
      induction q with
      | zero => exact Nat.le_refl _
      | succ q ih => show _ ≤ cN wk (t' + q) + _; omega
    have := this (d - t')
    rw [show t' + (d - t') = d by omega] at this
    exact this
  have hld := cN_le wk d
  unfold F_T_spentDays Sf_T_spentDays
  rw [c1', zAt_I hk (by omega), hR, l1']
  simp only [T_isIn_rS S (sF_ok hA.w hA.v hi A.2.1 (Nat.le_refl _)), T_work_eq, hd, wB_I d (by omega), wB_I t' (by omega)]
  refine ⟨?_, c2', l2', trivial⟩
  rw [← h5]
  cases rS R (sF A.1 i A.2.1)
  · simp
  · simp only [if_true, if_neg ne_10]
    rw [zI_sub hm (by omega), zI_add]
/-- the reference counts day by day -/
theorem M_leftOf_L {U : Nat → Nat → Int32} {d k i : Nat} {A : zA} {R : Int32} (hd : U 78 1 = zI d) (hC : zRM 86 U A) (hA : zOk d A) (hn : A.2.1 ≤ 900) (hi : i < 30) (hk : k < 3) (h88 : U 88 i = zI k) (hR : U 165 k = R) : ∀ (m D f : Nat), m + D = d → m < f →
    F_M_leftOf_L4 U (zI i) f (zI (rD A.1 i R A.2.1 D)) (zI D) = zI (rD A.1 i R A.2.1 d) ∧ Sf_M_leftOf_L4 U (zI i) f (zI (rD A.1 i R A.2.1 D)) (zI D) := by
  have hd4 : d ≤ 400 := hA.2.2.2.2
  intro m
  induction m with
  | zero =>
    intro D f hD hf
    obtain ⟨f, rfl⟩ : ∃ q, f = q + 1 := ⟨f - 1, by omega⟩
    have e : D = d := by omega
    subst e
    have hl : zI D ≤ zI D := by rw [zI_le (by omega) (by omega)]; omega
    unfold F_M_leftOf_L4 Sf_M_leftOf_L4
    rw [hd, if_pos hl, if_pos hl]
    exact ⟨rfl, trivial⟩
  | succ m ih =>
    intro D f hD hf
    obtain ⟨f, rfl⟩ : ∃ q, f = q + 1 := ⟨f - 1, by omega⟩
    have hl : ¬ zI d ≤ zI D := by rw [zI_le (by omega) (by omega)]; omega
    obtain ⟨i1, i2⟩ := ih (D + 1) f (by omega) (by omega)
    obtain ⟨s1, s2⟩ := M_stateAt_I hC.1 hA.w (by omega) hi (show D ≤ 1000 by omega)
    have hokS : okS (sD A.1 i D A.2.1) := by
      have key : ∀ q, q ≤ A.2.1 → okS (sD A.1 i D q) := by
        intro q
        induction q with
        | zero => intro _; exact Or.inl rfl
        | succ q ihq =>
          intro hq
          show okS (if (A.1 q).2.1 ≤ D then sE (A.1 q).1 i (sD A.1 i D q) else sD A.1 i D q)
          have hv := hA.v q (by omega)
          split
          · unfold sE
            split
            · exact Or.inr ⟨0, by omega, rfl⟩
            · split
              · rename_i g
                have := hv.2.1 g.1
                rw [g.2.2] at this
                obtain ⟨g1, g2⟩ := this
                exact Or.inr (zI_ex g1 (by have e5 : hi_c 0 = 5 := rfl; rw [e5] at g2; show _ < ((6 : Nat) : Int); omega) (by omega))
              · exact ihq (by omega)
          · exact ihq (by omega)
      exact key A.2.1 (Nat.le_refl _)
    have hruns : F_M_runs U (zI i) (sD A.1 i D A.2.1) = (if rS R (sD A.1 i D A.2.1) = true then 1 else 0) ∧ Sf_M_runs U (zI i) (sD A.1 i D A.2.1) := by
      unfold F_M_runs Sf_M_runs rS
      rw [zI_clamp (show i < 2147483648 by omega), h88, zI_clamp (show k < 2147483648 by omega), hR]
      rcases hokS with e | ⟨q, hq, e⟩
      · rw [e]; simp
      · rw [e, if_neg (m1_ne q (by omega)), if_neg (m1_ne q (by omega)), if_neg (m1_ne q (by omega)), zI_clamp (show q < 2147483648 by omega)]
        refine ⟨?_, vp_in_I hi (by omega), vp_in_I hk (by omega), trivial⟩
        by_cases hb : zB R q = true
        · rw [if_pos hb, if_pos ((zB_shr (by omega)).mpr hb)]
        · rw [if_neg hb, if_neg (fun e => hb ((zB_shr (by omega)).mp e))]
    have hstep : rD A.1 i R A.2.1 (D + 1) = rD A.1 i R A.2.1 D + (if (wk D && rS R (sD A.1 i D A.2.1)) = true then 1 else 0) := rfl
    have x0 : zI (rD A.1 i R A.2.1 D) + 0 = zI (rD A.1 i R A.2.1 D) := Int32.add_zero _
    unfold F_M_leftOf_L4 Sf_M_leftOf_L4 F_M_leftOf_l4_38 Sf_M_leftOf_l4_38
    rw [hd, if_neg hl, if_neg hl]
    simp only [M_isWorking_eq, wN_I D (by omega), s1, hruns.1, zI_succ, x0]
    cases q1 : wk D
    · rw [q1] at hstep
      simp only [Bool.false_and, Bool.false_eq_true, if_false, Nat.add_zero] at hstep
      rw [hstep] at i1 i2
      simp only [Bool.false_eq_true, if_false, if_true]
      exact ⟨i1, i2⟩
    · cases q2 : rS R (sD A.1 i D A.2.1)
      · rw [q1, q2] at hstep
        simp only [Bool.and_false, Bool.false_eq_true, if_false, Nat.add_zero] at hstep
        rw [hstep] at i1 i2
        simp only [if_true, if_neg ne_10, Bool.false_eq_true, if_false]
        exact ⟨i1, s2, hruns.2, i2⟩
      · rw [q1, q2] at hstep
        simp only [Bool.and_true, if_true] at hstep
        rw [hstep] at i1 i2
        simp only [if_true, if_neg ne_10]
        exact ⟨i1, s2, hruns.2, i2⟩
