/-! PURE: computed fields, both -/
def cC (E : Nat → Nat → Int32) (w : zWd) (p i o j : Nat) : Bool := vTold E w p j o && decide (wC w j 5 = zI i)
def cA (v : Int32) (a : Int32 × Int32 × Int32 × Int32) : Int32 × Int32 × Int32 × Int32 := (a.1 + 1, a.2.1 + v, (if a.2.2.1 = -1 ∨ v < a.2.2.1 then v else a.2.2.1), if a.2.2.2 < v then v else a.2.2.2)
def cF (E : Nat → Nat → Int32) (w : zWd) (p i o : Nat) : Nat → Nat → Int32 × Int32 × Int32 × Int32 → Int32 × Int32 × Int32 × Int32
  | 0, _, a => a
  | n + 1, j, a => cF E w p i o n (j + 1) (if cC E w p i o j = true then cA (wC w j (1 + o)) a else a)
def vComp (E : Nat → Nat → Int32) (w : zWd) (p i : Nat) : Int32 :=
  if E 45 (wC w i 9).toNatClampNeg = 0 then (cF E w p i (E 46 (wC w i 9).toNatClampNeg).toNatClampNeg 30 0 (0, 0, -1, -1)).1
  else if E 45 (wC w i 9).toNatClampNeg = 1 then (cF E w p i (E 46 (wC w i 9).toNatClampNeg).toNatClampNeg 30 0 (0, 0, -1, -1)).2.1
  else if E 45 (wC w i 9).toNatClampNeg = 2 then (cF E w p i (E 46 (wC w i 9).toNatClampNeg).toNatClampNeg 30 0 (0, 0, -1, -1)).2.2.1
  else if E 45 (wC w i 9).toNatClampNeg = 3 then (cF E w p i (E 46 (wC w i 9).toNatClampNeg).toNatClampNeg 30 0 (0, 0, -1, -1)).2.2.2 else -1
def vVal (E : Nat → Nat → Int32) (w : zWd) (p i f : Nat) : Int32 := if f = 3 then (if vRead E w p i 3 = true then vComp E w p i else -1) else if vTold E w p i f = true then wC w i (1 + f) else -1
/-- what kinds may say -/
def eK (E : Nat → Nat → Int32) : Prop := ∀ k, k < 3 → (-1 ≤ (E 45 k).toInt ∧ (E 45 k).toInt ≤ 3) ∧ 0 ≤ (E 46 k).toInt ∧ (E 46 k).toInt ≤ 2
theorem Sight_computed_L_I {r : Nat} {E V : Nat → Nat → Int32} {w : zWd} {p i o : Nat} {x2 : Int32} (hst : zSt E w p 30 V) (hC : zWC r V w) (hi : i < 30) (ho : o < 3) : ∀ (n j f : Nat) (a : Int32 × Int32 × Int32 × Int32), n + j = 30 → n < f →
    F_Sight_computed_L38 r V (zI i) x2 (zI o) f a.1 a.2.1 a.2.2.1 a.2.2.2 (zI j) = cF E w p i o n j a ∧ Sf_Sight_computed_L38 r V (zI i) x2 (zI o) f a.1 a.2.1 a.2.2.1 a.2.2.2 (zI j) := by
  intro n
  induction n with
  | zero =>
    intro j f a hj hf
    obtain ⟨f, rfl⟩ : ∃ g, f = g + 1 := ⟨f - 1, by omega⟩
    have hl : (30 : Int32) ≤ zI j := by rw [show (30 : Int32) = zI 30 from rfl, zI_le (by omega) (by omega)]; omega
    unfold F_Sight_computed_L38 Sf_Sight_computed_L38 cF
    rw [if_pos hl, if_pos hl]
    exact ⟨rfl, trivial⟩
  | succ n ih =>
    intro j f a hj hf
    obtain ⟨f, rfl⟩ : ∃ g, f = g + 1 := ⟨f - 1, by omega⟩
    have hl : ¬ (30 : Int32) ≤ zI j := by rw [show (30 : Int32) = zI 30 from rfl, zI_le (by omega) (by omega)]; omega
    have e1 : (1 : Int32) + zI o = zI (1 + o) := by rw [show (1 : Int32) = zI 1 from rfl, zI_add]
    obtain ⟨c1, c2⟩ := hC.cell (show j < 30 by omega) (show 5 < 10 by omega)
    have c1' : F_World_cell r V (zI j) 5 = wC w j 5 := c1
    have c2' : Sf_World_cell r V (zI j) 5 := c2
    obtain ⟨v1, v2⟩ := hC.cell (show j < 30 by omega) (show 1 + o < 10 by omega)
    unfold F_Sight_computed_L38 Sf_Sight_computed_L38 cF cC
    unfold F_Sight_computed_l38_112 Sf_Sight_computed_l38_112 F_Sight_computed_l38_119 Sf_Sight_computed_l38_119 F_Math_max
    simp only [if_neg hl, zAt_I ho (show 3 ≤ 2147483648 by omega), T_isIn_I V (show j < 31 by omega), hst.told (show j < 30 by omega) ho, c1', e1, v1, zI_succ]
    by_cases q1 : vTold E w p j o = true
    · simp only [q1, if_true, if_neg (show ¬ ((1 : Int32) = 0) by decide), Bool.true_and]
      by_cases q2 : wC w j 5 = zI i
      · simp only [q2, if_true, decide_true]
        obtain ⟨i1, i2⟩ := ih (j + 1) f (cA (wC w j (1 + o)) a) (by omega) (by omega)
        unfold cA at i1 i2 ⊢
        dsimp only at i1 i2
        by_cases q3 : a.2.2.1 = -1
        · rw [if_pos (Or.inl q3)] at i1 i2
          simp only [if_pos q3, if_pos (Or.inl q3 : a.2.2.1 = -1 ∨ wC w j (1 + o) < a.2.2.1)]
          exact ⟨i1, c2', v2, i2⟩
        · simp only [if_neg q3]
          by_cases q4 : a.2.2.1 ≤ wC w j (1 + o)
          · have q5 : ¬ wC w j (1 + o) < a.2.2.1 := by rw [T_le] at q4; rw [T_lt]; omega
            have q6 : ¬ (a.2.2.1 = -1 ∨ wC w j (1 + o) < a.2.2.1) := fun h => h.elim q3 q5
            rw [if_neg q6] at i1 i2
            simp only [if_pos q4, if_neg q6]
            exact ⟨i1, c2', v2, i2⟩
          · have q5 : wC w j (1 + o) < a.2.2.1 := by rw [T_le] at q4; rw [T_lt]; omega
            rw [if_pos (Or.inr q5)] at i1 i2
            simp only [if_neg q4, if_pos (Or.inr q5 : a.2.2.1 = -1 ∨ wC w j (1 + o) < a.2.2.1)]
            exact ⟨i1, c2', v2, i2⟩
      · simp only [q2, if_false, decide_false, Bool.false_eq_true]
        obtain ⟨i1, i2⟩ := ih (j + 1) f a (by omega) (by omega)
        exact ⟨i1, c2', i2⟩
    · have q1' : vTold E w p j o = false := by simpa using q1
      simp only [q1', Bool.false_eq_true, if_false, if_true, Bool.false_and]
      exact ih (j + 1) f a (by omega) (by omega)
theorem Sight_value_I {r : Nat} {E V : Nat → Nat → Int32} {w : zWd} {p i f : Nat} (hE : eV E V) (hK : eK E) (hst : zSt E w p 30 V) (hC : zWC r V w) (hg : zRg w) (hi : i < 30) (hf : f < 4) : F_Sight_value r V (zI i) (zI f) = vVal E w p i f ∧ Sf_Sight_value r V (zI i) (zI f) := by
  unfold F_Sight_value Sf_Sight_value vVal
  by_cases f3 : f = 3
  · subst f3
    have e3 : zI 3 = 3 := rfl
    have hr := Sight_canRead_I hst hi (show 3 < 4 by omega)
    rw [e3] at hr
    rw [if_pos e3, if_pos e3, if_pos rfl, e3, hr]
    by_cases q : vRead E w p i 3 = true
    · simp only [q, if_true, if_neg (show ¬ ((1 : Int32) = 0) by decide)]
      have hw := vSee_there (Bool.and_eq_true_iff.mp q).1
      obtain ⟨k, hk, ek⟩ := hg.kind hi hw
      obtain ⟨c1, c2⟩ := hC.cell hi (show 9 < 10 by omega)
      have c1' : F_World_cell r V (zI i) 9 = zI k := c1.trans ek
      have c2' : Sf_World_cell r V (zI i) 9 := c2
      obtain ⟨⟨w0, w1⟩, o0, o1⟩ := hK k hk
      obtain ⟨o, ho, eo⟩ := zI_ex (n := 3) o0 (by omega) (by omega)
      obtain ⟨l1, l2⟩ := Sight_computed_L_I (x2 := zI k) hst hC hi ho 30 0 1300 (0, 0, -1, -1) rfl (by omega)
      rw [zI_0] at l1 l2
      dsimp only at l1 l2
      unfold F_Sight_computed Sf_Sight_computed vComp
      rw [c1', zAt_I hk (by omega), zAt_I hk (by omega), hE 45 (by omega), hE 46 (by omega), eo, l1, ek, zI_clamp (show k < 2147483648 by omega), eo, zI_clamp (show o < 2147483648 by omega)]
      refine ⟨?_, Sf_canRead_I _ _ _, ⟨c2', l2, trivial⟩, trivial⟩
      rfl
    · have q' : vRead E w p i 3 = false := by simpa using q
      simp only [q', Bool.false_eq_true, if_false, if_true]
      exact ⟨trivial, Sf_canRead_I _ _ _, trivial⟩
  · have n3 : ¬ zI f = 3 := by rw [show (3 : Int32) = zI 3 from rfl, zI_inj (by omega) (by omega)]; exact f3
    have e1 : (1 : Int32) + zI f = zI (1 + f) := by rw [show (1 : Int32) = zI 1 from rfl, zI_add]
    obtain ⟨v1, v2⟩ := hC.cell hi (show 1 + f < 10 by omega)
    rw [if_neg n3, if_neg n3, if_neg f3, zAt_I (show f < 3 by omega) (by omega), T_isIn_I V (by omega), hst.told hi (by omega), e1, v1]
    cases vTold E w p i f
    · simp
    · simp only [if_true, if_neg (show ¬ ((1 : Int32) = 0) by decide)]
      exact ⟨trivial, v2, trivial⟩
/-! the reference -/
def cR (a : Int32 × Int32 × Int32 × Int32) (l' : Int32) (n : Nat) : Prop := ∃ c : Nat, c ≤ n ∧ a.1 = zI c ∧ ((c = 0 ∧ a.2.2.1 = -1 ∧ a.2.2.2 = -1 ∧ l' = 1000) ∨ (0 < c ∧ a.2.2.1 = l' ∧ 0 ≤ l'.toInt ∧ l'.toInt ≤ 99))
theorem cR.add {a : Int32 × Int32 × Int32 × Int32} {l' v : Int32} {n : Nat} (h : cR a l' n) (h0 : 0 ≤ v.toInt) (h1 : v.toInt ≤ 99) : cR (cA v a) (if l' ≤ v then l' else v) (n + 1) := by
  obtain ⟨c, hc, e1, h⟩ := h
  have e : (cA v a).1 = zI (c + 1) := by show a.1 + 1 = _; rw [e1, zI_succ]
  refine ⟨c + 1, by omega, e, Or.inr ⟨by omega, ?_⟩⟩
  show (if a.2.2.1 = -1 ∨ v < a.2.2.1 then v else a.2.2.1) = _ ∧ _
  rcases h with ⟨p0, p1, p2, p3⟩ | ⟨p0, p1, p2, p3⟩
  · rw [if_pos (Or.inl p1), p3]
    have : ¬ (1000 : Int32) ≤ v := by rw [T_le]; show ¬ (1000 : Int) ≤ v.toInt; omega
    rw [if_neg this]; exact ⟨rfl, h0, h1⟩
  · have n1 : ¬ a.2.2.1 = -1 := by rw [i_m1, p1]; omega
    by_cases q : l' ≤ v
    · have q2 : ¬ v < a.2.2.1 := by rw [p1, T_lt]; rw [T_le] at q; omega
      rw [if_neg (fun h => h.elim n1 q2), if_pos q]; exact ⟨p1, p2, p3⟩
    · have q2 : v < a.2.2.1 := by rw [p1, T_lt]; rw [T_le] at q; omega
      rw [if_pos (Or.inr q2), if_neg q]; exact ⟨rfl, h0, h1⟩
theorem cR.mono {a : Int32 × Int32 × Int32 × Int32} {l' : Int32} {n m : Nat} (h : cR a l' n) (hm : n ≤ m) : cR a l' m := by
  obtain ⟨c, hc, h⟩ := h
  exact ⟨c, by omega, h⟩
theorem M_computed_L_I {b : Nat} {E U : Nat → Nat → Int32} {w : zWd} {p i o : Nat} {x4 : Int32} (hE : eY E U) (hC : zWM b U w) (hg : zRg w) (hp : p < 8) (hi : i < 30) (ho : o < 3) : ∀ (n j f : Nat) (a : Int32 × Int32 × Int32 × Int32) (l' : Int32), n + j = 30 → n < f → cR a l' j →
    ∃ l2, F_M_computed_L43 b U (zI p) (zI i) x4 (zI o) f a.1 a.2.1 l' a.2.2.2 (zI j) = ((cF E w p i o n j a).1, (cF E w p i o n j a).2.1, l2, (cF E w p i o n j a).2.2.2) ∧ Sf_M_computed_L43 b U (zI p) (zI i) x4 (zI o) f a.1 a.2.1 l' a.2.2.2 (zI j) ∧ cR (cF E w p i o n j a) l2 30 := by
  intro n
  induction n with
  | zero =>
    intro j f a l' hj hf hr
    obtain ⟨f, rfl⟩ : ∃ g, f = g + 1 := ⟨f - 1, by omega⟩
    have hl : (30 : Int32) ≤ zI j := by rw [show (30 : Int32) = zI 30 from rfl, zI_le (by omega) (by omega)]; omega
    unfold F_M_computed_L43 Sf_M_computed_L43 cF
    rw [if_pos hl, if_pos hl]
    exact ⟨l', rfl, trivial, hr.mono (by omega)⟩
  | succ n ih =>
    intro j f a l' hj hf hr
    obtain ⟨f, rfl⟩ : ∃ g, f = g + 1 := ⟨f - 1, by omega⟩
    have hj30 : j < 30 := by omega
    have hl : ¬ (30 : Int32) ≤ zI j := by rw [show (30 : Int32) = zI 30 from rfl, zI_le (by omega) (by omega)]; omega
    have vj : vp_in (zI j) 30 := vp_in_I hj30 (by omega)
    have z0 : ∀ x : Int32, x + 0 = x := fun x => Int32.add_zero x
    -- not one
    have skip : cC E w p i o j = false → ∃ l2, F_M_computed_l43_101 b (F_M_computed_L43 b U (zI p) (zI i) x4 (zI o) f) U (zI p) (zI i) x4 (zI o) a.1 a.2.1 l' a.2.2.2 (zI j) = ((cF E w p i o (n + 1) j a).1, (cF E w p i o (n + 1) j a).2.1, l2, (cF E w p i o (n + 1) j a).2.2.2) ∧ Sf_M_computed_l43_101 b (F_M_computed_L43 b U (zI p) (zI i) x4 (zI o) f) (Sf_M_computed_L43 b U (zI p) (zI i) x4 (zI o) f) U (zI p) (zI i) x4 (zI o) a.1 a.2.1 l' a.2.2.2 (zI j) ∧ cR (cF E w p i o (n + 1) j a) l2 30 := by
      intro g
      obtain ⟨l2, i1, i2, i3⟩ := ih (j + 1) f a l' (by omega) (by omega) (hr.mono (by omega))
      have ec : cF E w p i o (n + 1) j a = cF E w p i o n (j + 1) a := by
        show cF E w p i o n (j + 1) (if cC E w p i o j = true then _ else a) = _
        rw [g]; rfl
      rw [ec]
      unfold F_M_computed_l43_101 Sf_M_computed_l43_101 F_M_computed_l43_102 Sf_M_computed_l43_102 F_M_computed_l43_122 Sf_M_computed_l43_122 F_M_computed_l43_136 Sf_M_computed_l43_136 F_M_computed_l43_163 Sf_M_computed_l43_163 F_M_computed_l43_165 Sf_M_computed_l43_165
      simp only [if_true, z0, zI_succ]
      exact ⟨l2, i1, i2, i3⟩
    unfold F_M_computed_L43 Sf_M_computed_L43
    simp only [if_neg hl, zI_clamp (show j < 2147483648 by omega), hC.has j hj30]
    by_cases hw : w.1 j = true
    · simp only [hw, if_true, if_neg (show ¬ ((1 : Int32) = 0) by decide)]
      have c6 : U (b + 6) j = wC w j 5 := hC.cell hj30 (show 5 < 10 by omega) hw
      obtain ⟨r1, r2⟩ := M_readsIt_I hE hC hg hp hj30 (show o < 4 by omega)
      obtain ⟨v1, v2⟩ := M_valueOf_J (E := E) (fun k hk => (hE.1 k hk).2.2.2.1) hC hg hj30 hw ho
      simp only [c6]
      by_cases q2 : wC w j 5 = zI i
      · simp only [q2, if_true, r1]
        by_cases q1 : vRead E w p j o = true
        · simp only [q1, if_true, if_neg (show ¬ ((1 : Int32) = 0) by decide), v1]
          by_cases q3 : vHas E w j o = true
          · have h4 := Bool.and_eq_true_iff.mp q3
            have n1 : ¬ wC w j (1 + o) = -1 := by have := h4.2; simpa using this
            have hv := hg.value hj30 hw ho
            have hv0 : 0 ≤ (wC w j (1 + o)).toInt := by
              have : ¬ (wC w j (1 + o)).toInt = -1 := fun e => n1 (i_m1.mpr e)
              omega
            have hc : cC E w p i o j = true := by unfold cC vTold; rw [q1, q3, decide_eq_true q2]; rfl
            have ec : cF E w p i o (n + 1) j a = cF E w p i o n (j + 1) (cA (wC w j (1 + o)) a) := by
              show cF E w p i o n (j + 1) (if cC E w p i o j = true then _ else a) = _
              rw [hc]; rfl
            obtain ⟨l2, i1, i2, i3⟩ := ih (j + 1) f (cA (wC w j (1 + o)) a) (if l' ≤ wC w j (1 + o) then l' else wC w j (1 + o)) (by omega) (by omega) (hr.add hv0 hv.2)
            rw [ec]
            have k1 : (cA (wC w j (1 + o)) a).1 = a.1 + 1 := rfl
            have k2 : (cA (wC w j (1 + o)) a).2.1 = a.2.1 + wC w j (1 + o) := rfl
            have k4 : (cA (wC w j (1 + o)) a).2.2.2 = if a.2.2.2 < wC w j (1 + o) then wC w j (1 + o) else a.2.2.2 := rfl
            rw [k1, k2, k4] at i1 i2
            simp only [h4.1, if_true, if_neg n1]
            unfold F_M_computed_l43_102 Sf_M_computed_l43_102 F_M_computed_l43_122 Sf_M_computed_l43_122 F_M_computed_l43_136 Sf_M_computed_l43_136 F_M_computed_l43_163 Sf_M_computed_l43_163 F_M_computed_l43_165 Sf_M_computed_l43_165
            simp only [if_neg (show ¬ ((1 : Int32) = 0) by decide), v1, h4.1, if_true, zI_succ]
            have fin : ∀ (x : Int32), x = (if l' ≤ wC w j (1 + o) then l' else wC w j (1 + o)) → (if wC w j (1 + o) ≤ a.2.2.2 then F_M_computed_L43 b U (zI p) (zI i) x4 (zI o) f (a.1 + 1) (a.2.1 + wC w j (1 + o)) x a.2.2.2 (zI (j + 1)) else F_M_computed_L43 b U (zI p) (zI i) x4 (zI o) f (a.1 + 1) (a.2.1 + wC w j (1 + o)) x (wC w j (1 + o)) (zI (j + 1))) = ((cF E w p i o n (j + 1) (cA (wC w j (1 + o)) a)).1, (cF E w p i o n (j + 1) (cA (wC w j (1 + o)) a)).2.1, l2, (cF E w p i o n (j + 1) (cA (wC w j (1 + o)) a)).2.2.2) ∧ (if wC w j (1 + o) ≤ a.2.2.2 then Sf_M_computed_L43 b U (zI p) (zI i) x4 (zI o) f (a.1 + 1) (a.2.1 + wC w j (1 + o)) x a.2.2.2 (zI (j + 1)) else Sf_M_computed_L43 b U (zI p) (zI i) x4 (zI o) f (a.1 + 1) (a.2.1 + wC w j (1 + o)) x (wC w j (1 + o)) (zI (j + 1))) := by
              intro x hx
              rw [← hx] at i1 i2
              by_cases q4 : wC w j (1 + o) ≤ a.2.2.2
              · have q5 : ¬ a.2.2.2 < wC w j (1 + o) := by rw [T_le] at q4; rw [T_lt]; omega
                rw [if_neg q5] at i1 i2
                rw [if_pos q4, if_pos q4]; exact ⟨i1, i2⟩
              · have q5 : a.2.2.2 < wC w j (1 + o) := by rw [T_le] at q4; rw [T_lt]; omega
                rw [if_pos q5] at i1 i2
                rw [if_neg q4, if_neg q4]; exact ⟨i1, i2⟩
            by_cases q6 : l' ≤ wC w j (1 + o)
            · obtain ⟨k1, k2⟩ := fin l' (by rw [if_pos q6])
              simp only [if_pos q6]
              exact ⟨l2, k1, ⟨vj, vj, r2, v2, v2, k2⟩, i3⟩
            · obtain ⟨k1, k2⟩ := fin (wC w j (1 + o)) (by rw [if_neg q6])
              simp only [if_neg q6]
              exact ⟨l2, k1, ⟨vj, vj, r2, v2, v2, k2⟩, i3⟩
          · have q3' : vHas E w j o = false := by simpa using q3
            have em : (if eH E (wC w j 9) o = true then wC w j (1 + o) else -1) = -1 := by
              cases q5 : eH E (wC w j 9) o
              · rfl
              · rw [if_pos rfl]
                unfold vHas at q3'; rw [q5] at q3'
                simpa using q3'
            obtain ⟨l2, k1, k2, k3⟩ := skip (by unfold cC vTold; rw [q3']; simp)
            simp only [em, if_true]
            exact ⟨l2, k1, ⟨vj, vj, r2, v2, k2⟩, k3⟩
        · have q1' : vRead E w p j o = false := by simpa using q1
          obtain ⟨l2, k1, k2, k3⟩ := skip (by unfold cC vTold; rw [q1']; simp)
          simp only [q1', Bool.false_eq_true, if_false, if_true]
          exact ⟨l2, k1, ⟨vj, vj, r2, k2⟩, k3⟩
      · obtain ⟨l2, k1, k2, k3⟩ := skip (by unfold cC; rw [decide_eq_false q2]; simp)
        simp only [q2, if_false]
        exact ⟨l2, k1, ⟨vj, vj, k2⟩, k3⟩
    · have hw' : w.1 j = false := by simpa using hw
      obtain ⟨l2, k1, k2, k3⟩ := skip (by unfold cC vTold vRead vSee; rw [hw']; simp)
      simp only [hw', Bool.false_eq_true, if_false, if_true]
      exact ⟨l2, k1, ⟨vj, k2⟩, k3⟩
theorem M_computed_I {b : Nat} {E U : Nat → Nat → Int32} {w : zWd} {p i : Nat} (hE : eY E U) (hK : eK E) (hC : zWM b U w) (hg : zRg w) (hp : p < 8) (hi : i < 30) (hw : w.1 i = true) : F_M_computed b U (zI p) (zI i) = vComp E w p i ∧ Sf_M_computed b U (zI p) (zI i) := by
  obtain ⟨k, hk, ek⟩ := hg.kind hi hw
  have c2 : U (b + 2) i = zI k := (hC.cell hi (show 9 < 10 by omega) hw).trans ek
  obtain ⟨⟨w0, w1⟩, o0, o1⟩ := hK k hk
  obtain ⟨o, ho, eo⟩ := zI_ex (n := 3) o0 (by omega) (by omega)
  have vi : vp_in (zI i) 30 := vp_in_I hi (by omega)
  have vk : vp_in (zI k) 3 := vp_in_I hk (by omega)
  obtain ⟨l2, l1, l3, l4⟩ := M_computed_L_I (x4 := E 45 k) hE hC hg hp hi ho 30 0 1300 (0, 0, -1, -1) 1000 rfl (by omega) ⟨0, by omega, rfl, Or.inl ⟨rfl, rfl, rfl, rfl⟩⟩
  rw [zI_0] at l1 l3
  dsimp only at l1 l3
  unfold F_M_computed Sf_M_computed vComp
  simp only [zI_clamp (show i < 2147483648 by omega), c2, zI_clamp (show k < 2147483648 by omega), (hE.1 k hk).2.2.2.2.1, (hE.1 k hk).2.2.2.2.2, eo, ek, l1, zI_clamp (show o < 2147483648 by omega)]
  generalize hF : cF E w p i o 30 0 (0, 0, -1, -1) = F at *
  refine ⟨?_, vi, vk, vi, vk, l3, trivial⟩
  obtain ⟨c, hc, e1, h⟩ := l4
  have hway : E 45 k = -1 ∨ E 45 k = 0 ∨ E 45 k = 1 ∨ E 45 k = 2 ∨ E 45 k = 3 := by
    have : (E 45 k).toInt = -1 ∨ (E 45 k).toInt = 0 ∨ (E 45 k).toInt = 1 ∨ (E 45 k).toInt = 2 ∨ (E 45 k).toInt = 3 := by omega
    rcases this with t | t | t | t | t
    · exact Or.inl (Int32.toInt_inj.mp (t.trans rfl))
    · exact Or.inr (Or.inl (Int32.toInt_inj.mp (t.trans rfl)))
    · exact Or.inr (Or.inr (Or.inl (Int32.toInt_inj.mp (t.trans rfl))))
    · exact Or.inr (Or.inr (Or.inr (Or.inl (Int32.toInt_inj.mp (t.trans rfl)))))
    · exact Or.inr (Or.inr (Or.inr (Or.inr (Int32.toInt_inj.mp (t.trans rfl)))))
  have hc0 : F.1 = 0 ↔ c = 0 := by rw [e1, show (0 : Int32) = zI 0 from rfl, zI_inj (by omega) (by omega)]
  rcases hway with t | t | t | t | t <;> rw [t]
  · rfl
  · rfl
  · rfl
  · rw [if_neg (show ¬ ((2 : Int32) = -1) by decide), if_neg (show ¬ ((2 : Int32) = 0) by decide), if_neg (show ¬ ((2 : Int32) = 1) by decide), if_pos (show (2 : Int32) = 2 from rfl), if_neg (show ¬ ((2 : Int32) = 0) by decide), if_neg (show ¬ ((2 : Int32) = 1) by decide), if_pos (show (2 : Int32) = 2 from rfl)]
    rcases h with ⟨p0, p1, p2, p3⟩ | ⟨p0, p1, p2, p3⟩
    · rw [if_pos (hc0.mpr p0)]; exact p1.symm
    · rw [if_neg (fun q => by have := hc0.mp q; omega)]; exact p1.symm
  · rw [if_neg (show ¬ ((3 : Int32) = -1) by decide), if_neg (show ¬ ((3 : Int32) = 0) by decide), if_neg (show ¬ ((3 : Int32) = 1) by decide), if_neg (show ¬ ((3 : Int32) = 2) by decide), if_neg (show ¬ ((3 : Int32) = 0) by decide), if_neg (show ¬ ((3 : Int32) = 1) by decide), if_neg (show ¬ ((3 : Int32) = 2) by decide), if_pos (show (3 : Int32) = 3 from rfl)]
    rcases h with ⟨p0, p1, p2, p3⟩ | ⟨p0, p1, p2, p3⟩
    · rw [if_pos (hc0.mpr p0)]; exact p2.symm
    · rw [if_neg (fun q => by have := hc0.mp q; omega)]
theorem M_valueFor_I {b : Nat} {E U : Nat → Nat → Int32} {w : zWd} {p i f : Nat} (hE : eY E U) (hK : eK E) (hC : zWM b U w) (hg : zRg w) (hp : p < 8) (hi : i < 30) (hf : f < 4) : F_M_valueFor b U (zI p) (zI i) (zI f) = vVal E w p i f ∧ Sf_M_valueFor b U (zI p) (zI i) (zI f) := by
  obtain ⟨r1, r2⟩ := M_readsIt_I hE hC hg hp hi hf
  unfold F_M_valueFor Sf_M_valueFor vVal
  rw [r1]
  by_cases q : vRead E w p i f = true
  · have hw := vSee_there (Bool.and_eq_true_iff.mp q).1
    simp only [q, if_true, if_neg (show ¬ ((1 : Int32) = 0) by decide)]
    by_cases f3 : f = 3
    · subst f3
      obtain ⟨c1, c2⟩ := M_computed_I hE hK hC hg hp hi hw
      simp only [show zI 3 = 3 from rfl, if_true, q]
      exact ⟨c1, r2, c2, trivial⟩
    · have n3 : ¬ zI f = 3 := by rw [show (3 : Int32) = zI 3 from rfl, zI_inj (by omega) (by omega)]; exact f3
      obtain ⟨v1, v2⟩ := M_valueOf_J (E := E) (fun k hk => (hE.1 k hk).2.2.2.1) hC hg hi hw (show f < 3 by omega)
      simp only [if_neg n3, if_neg f3, v1]
      refine ⟨?_, r2, v2, trivial⟩
      unfold vTold vHas
      rw [q]
      cases eH E (wC w i 9) f
      · simp
      · by_cases q5 : wC w i (1 + f) = -1 <;> simp [q5]
  · have q' : vRead E w p i f = false := by simpa using q
    simp only [q', Bool.false_eq_true, if_false, if_true]
    refine ⟨?_, r2, trivial⟩
    by_cases f3 : f = 3
    · subst f3; rw [if_pos rfl, q']; rfl
    · rw [if_neg f3]; unfold vTold; rw [q']; rfl
