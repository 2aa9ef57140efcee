/-! PURE: what a person sees, edits, reads -/
def vR (w : zWd) (p i : Nat) : Int32 := w.2.2.2 (3 * p + (wC w i 8).toNatClampNeg)
def vSee (E : Nat → Nat → Int32) (w : zWd) (p i : Nat) : Bool := w.1 i && ((decide (wC w i 6 = 0) || !decide (vR w p i &&& E 39 (wC w i 6).toNatClampNeg = 0)) && !decide (vR w p i &&& E 37 (wC w i 8).toNatClampNeg = 0))
def vEdit (E : Nat → Nat → Int32) (w : zWd) (p i : Nat) : Bool := vSee E w p i && !decide (vR w p i &&& E 38 (wC w i 8).toNatClampNeg = 0)
def vRead (E : Nat → Nat → Int32) (w : zWd) (p i f : Nat) : Bool := vSee E w p i && !decide (vR w p i &&& E 40 f = 0)
def vHas (E : Nat → Nat → Int32) (w : zWd) (i f : Nat) : Bool := eH E (wC w i 9) f && !decide (wC w i (1 + f) = -1)
def vTold (E : Nat → Nat → Int32) (w : zWd) (p i f : Nat) : Bool := vRead E w p i f && vHas E w i f
/-- the class's rows of schemes and kinds -/
def eV (E S : Nat → Nat → Int32) : Prop := ∀ k, 37 ≤ k ∧ k ≤ 40 ∨ 44 ≤ k ∧ k ≤ 49 → S k = E k
/-- what looking writes -/
def zFL (S V : Nat → Nat → Int32) : Prop := (∀ k, k ≠ 36 → k ≠ 41 → k ≠ 42 → V k = S k) ∧ ∀ j, j ≠ 8 → j ≠ 9 → V 36 j = S 36 j
theorem zFL.rfl {S : Nat → Nat → Int32} : zFL S S := ⟨fun _ _ _ _ => Eq.refl _, fun _ _ _ => Eq.refl _⟩
theorem zFL.trans {S V W : Nat → Nat → Int32} (h : zFL S V) (g : zFL V W) : zFL S W := ⟨fun k h1 h2 h3 => (g.1 k h1 h2 h3).trans (h.1 k h1 h2 h3), fun j h1 h2 => (g.2 j h1 h2).trans (h.2 j h1 h2)⟩
theorem eV.fl {E S V : Nat → Nat → Int32} (h : eV E S) (g : zFL S V) : eV E V := fun k hk => by rw [g.1 k (by omega) (by omega) (by omega)]; exact h k hk
theorem zWC.fl {r : Nat} {S V : Nat → Nat → Int32} {w : zWd} (h : zWC r S w) (hr : r + 3 < 36) (g : zFL S V) : zWC r V w := h.ag (by rw [g.1 r (by omega) (by omega) (by omega)]) (g.1 _ (by omega) (by omega) (by omega)) (g.1 _ (by omega) (by omega) (by omega)) (g.1 _ (by omega) (by omega) (by omega))
theorem Sight_tell_I {r : Nat} {E S : Nat → Nat → Int32} {w : zWd} (hE : eV E S) (hC : zWC r S w) (hg : zRg w) {i f : Nat} (hi : i < 30) (hw : w.1 i = true) (hf : f < 4) :
    F_Sight_tell r S (zI i) (zI f) = (if f < 3 ∧ vHas E w i f = true then z_uS S 42 f (S 42 f ||| F_T_bit S (zI i)) else S) ∧ Sf_Sight_tell r S (zI i) (zI f) := by
  obtain ⟨k, hk, ek⟩ := hg.kind hi hw
  obtain ⟨c1, c2⟩ := hC.cell hi (show 9 < 10 by omega)
  have c1' : F_World_cell r S (zI i) 9 = zI k := c1.trans ek
  have c2' : Sf_World_cell r S (zI i) 9 := c2
  obtain ⟨v1, v2⟩ := hC.cell hi (show 1 + f < 10 by omega)
  have e1 : (1 : Int32) + zI f = zI (1 + f) := by rw [show (1 : Int32) = zI 1 from rfl, zI_add]
  unfold F_Sight_tell Sf_Sight_tell vHas eH
  rw [c1', e1, v1, ek, zI_clamp (show k < 2147483648 by omega)]
  by_cases h3 : f < 3
  · obtain ⟨k1, k2⟩ := Kinds_has_I S hk h3
    rw [k1, hE 44 (by omega), zAt_I h3 (by omega), zPut_I h3 (by omega)]
    refine ⟨?_, c2', k2, ?_⟩
    · cases zB (E 44 k) f
      · simp [h3]
      · simp only [if_true, if_neg (show ¬ ((1 : Int32) = 0) by decide), Bool.true_and]
        by_cases q : wC w i (1 + f) = -1
        · simp [q]
        · simp [q, h3]
    · cases zB (E 44 k) f
      · simp
      · simp only [if_true, if_neg (show ¬ ((1 : Int32) = 0) by decide)]; exact ⟨v2, trivial⟩
  · have e3 : f = 3 := by omega
    subst e3
    have k1 : F_Kinds_has S (zI k) (zI 3) = 0 ∧ Sf_Kinds_has S (zI k) (zI 3) := by
      unfold F_Kinds_has Sf_Kinds_has F_Kinds_has_j36
      have a1 : ¬ (3 : Int32) ≤ zI k := by rw [show (3 : Int32) = zI 3 from rfl, zI_le (by omega) (by omega)]; omega
      rw [if_neg (zI_n0 (by omega)), if_neg a1, if_neg (zI_n0 (by omega)), if_pos (show (3 : Int32) ≤ zI 3 by decide), if_neg (zI_n0 (by omega)), if_neg a1, if_neg (zI_n0 (by omega)), if_pos (show (3 : Int32) ≤ zI 3 by decide)]
      exact ⟨rfl, trivial⟩
    rw [k1.1, if_pos rfl, if_pos rfl, if_neg (by omega)]
    exact ⟨rfl, c2', k1.2, trivial⟩
theorem Sight_lookAt_L114_I {r : Nat} {E : Nat → Nat → Int32} {w : zWd} (hr : r + 3 < 36) (hg : zRg w) {i : Nat} {R : Int32} (hi : i < 30) (hw : w.1 i = true) : ∀ (n g f : Nat) (S : Nat → Nat → Int32), n + g = 4 → n < f → eV E S → zWC r S w →
    ∃ V, F_Sight_lookAt_L114 r (zI i) R f S (zI g) = V ∧ Sf_Sight_lookAt_L114 r (zI i) R f S (zI g) ∧ (∀ k, k ≠ 41 → k ≠ 42 → V k = S k) ∧ (∀ q, V 41 q = if g ≤ q ∧ q < 4 ∧ ¬ (R &&& E 40 q = 0) then S 41 q ||| F_T_bit S (zI i) else S 41 q) ∧ ∀ q, V 42 q = if g ≤ q ∧ q < 3 ∧ ¬ (R &&& E 40 q = 0) ∧ vHas E w i q = true then S 42 q ||| F_T_bit S (zI i) else S 42 q := by
  intro n
  induction n with
  | zero =>
    intro g f S hgf hf hE hC
    obtain ⟨f, rfl⟩ : ∃ h, f = h + 1 := ⟨f - 1, by omega⟩
    have hl : (3 : Int32) < zI g := by rw [show (3 : Int32) = zI 3 from rfl, zI_lt (by omega) (by omega)]; omega
    refine ⟨S, ?_, ?_, fun _ _ _ => rfl, fun q => by rw [if_neg (by omega)], fun q => by rw [if_neg (by omega)]⟩
    · unfold F_Sight_lookAt_L114; rw [if_pos hl]
    · unfold Sf_Sight_lookAt_L114; rw [if_pos hl]; trivial
  | succ n ih =>
    intro g f S hgf hf hE hC
    obtain ⟨f, rfl⟩ : ∃ h, f = h + 1 := ⟨f - 1, by omega⟩
    have hl : ¬ (3 : Int32) < zI g := by rw [show (3 : Int32) = zI 3 from rfl, zI_lt (by omega) (by omega)]; omega
    have bit : ∀ T : Nat → Nat → Int32, F_T_bit T (zI i) = F_T_bit S (zI i) := fun T => by rw [T_bit_I T (by omega), T_bit_I S (by omega)]
    unfold F_Sight_lookAt_L114 Sf_Sight_lookAt_L114
    simp only [if_neg hl, zAt_I (show g < 4 by omega) (show 4 ≤ 2147483648 by omega), zPut_I (show g < 4 by omega) (show 4 ≤ 2147483648 by omega), hE 40 (by omega), zI_succ, z_let]
    by_cases q0 : R &&& E 40 g = 0
    · simp only [if_pos q0]
      obtain ⟨V, v1, v2, v3, v4, v5⟩ := ih (g + 1) f S (by omega) (by omega) hE hC
      refine ⟨V, v1, v2, v3, fun q => ?_, fun q => ?_⟩
      · rw [v4 q]
        by_cases e : q = g
        · subst e; rw [if_neg (by omega), if_neg (fun h => h.2.2 q0)]
        · by_cases h : g + 1 ≤ q ∧ q < 4 ∧ ¬ (R &&& E 40 q = 0)
          · rw [if_pos h, if_pos ⟨by omega, h.2⟩]
          · rw [if_neg h, if_neg (fun x => h ⟨by omega, x.2⟩)]
      · rw [v5 q]
        by_cases e : q = g
        · subst e; rw [if_neg (by omega), if_neg (fun h => h.2.2.1 q0)]
        · by_cases h : g + 1 ≤ q ∧ q < 3 ∧ ¬ (R &&& E 40 q = 0) ∧ vHas E w i q = true
          · rw [if_pos h, if_pos ⟨by omega, h.2⟩]
          · rw [if_neg h, if_neg (fun x => h ⟨by omega, x.2⟩)]
    · simp only [if_neg q0]
      have hfl1 : zFL S (z_uS S 41 g (S 41 g ||| F_T_bit S (zI i))) := ⟨fun k _ h2 _ => z_uS_ne _ _ _ h2, fun j _ _ => by rw [z_uS_ne _ _ _ (by omega)]⟩
      obtain ⟨t1, t2⟩ := Sight_tell_I (hE.fl hfl1) (hC.fl hr hfl1) hg hi hw (show g < 4 by omega)
      rw [t1, bit (z_uS _ _ _ _), z_uS_ne (k' := 42) _ _ _ (by omega)]
      by_cases hh : g < 3 ∧ vHas E w i g = true
      · simp only [if_pos hh]
        have hfl2 : zFL S (z_uS (z_uS S 41 g (S 41 g ||| F_T_bit S (zI i))) 42 g (S 42 g ||| F_T_bit S (zI i))) := hfl1.trans ⟨fun k _ _ h3 => z_uS_ne _ _ _ h3, fun j _ _ => by rw [z_uS_ne _ _ _ (by omega)]⟩
        obtain ⟨V, v1, v2, v3, v4, v5⟩ := ih (g + 1) f (z_uS (z_uS S 41 g (S 41 g ||| F_T_bit S (zI i))) 42 g (S 42 g ||| F_T_bit S (zI i))) (by omega) (by omega) (hE.fl hfl2) (hC.fl hr hfl2)
        refine ⟨V, v1, ⟨t2, v2⟩, fun k h1 h2 => by rw [v3 k h1 h2, z_uS_ne _ _ _ h2, z_uS_ne _ _ _ h1], fun q => ?_, fun q => ?_⟩
        · rw [v4 q, bit (z_uS _ _ _ _), z_uS_ne (k' := 41) _ _ _ (by omega)]
          by_cases e : q = g
          · subst e; rw [if_neg (by omega), if_pos ⟨by omega, by omega, q0⟩, uS_at]
          · rw [uS_nj _ _ _ e]
            by_cases h : g + 1 ≤ q ∧ q < 4 ∧ ¬ (R &&& E 40 q = 0)
            · rw [if_pos h, if_pos ⟨by omega, h.2⟩]
            · rw [if_neg h, if_neg (fun x => h ⟨by omega, x.2⟩)]
        · rw [v5 q, bit (z_uS _ _ _ _)]
          by_cases e : q = g
          · subst e; rw [if_neg (by omega), if_pos ⟨by omega, hh.1, q0, hh.2⟩, uS_at]
          · rw [uS_nj _ _ _ e, z_uS_ne (k' := 42) _ _ _ (by omega)]
            by_cases h : g + 1 ≤ q ∧ q < 3 ∧ ¬ (R &&& E 40 q = 0) ∧ vHas E w i q = true
            · rw [if_pos h, if_pos ⟨by omega, h.2⟩]
            · rw [if_neg h, if_neg (fun x => h ⟨by omega, x.2⟩)]
      · simp only [if_neg hh]
        obtain ⟨V, v1, v2, v3, v4, v5⟩ := ih (g + 1) f (z_uS S 41 g (S 41 g ||| F_T_bit S (zI i))) (by omega) (by omega) (hE.fl hfl1) (hC.fl hr hfl1)
        refine ⟨V, v1, ⟨t2, v2⟩, fun k h1 h2 => by rw [v3 k h1 h2, z_uS_ne _ _ _ h1], fun q => ?_, fun q => ?_⟩
        · rw [v4 q, bit (z_uS _ _ _ _)]
          by_cases e : q = g
          · subst e; rw [if_neg (by omega), if_pos ⟨by omega, by omega, q0⟩, uS_at]
          · rw [uS_nj _ _ _ e]
            by_cases h : g + 1 ≤ q ∧ q < 4 ∧ ¬ (R &&& E 40 q = 0)
            · rw [if_pos h, if_pos ⟨by omega, h.2⟩]
            · rw [if_neg h, if_neg (fun x => h ⟨by omega, x.2⟩)]
        · rw [v5 q, bit (z_uS _ _ _ _), z_uS_ne (k' := 42) _ _ _ (by omega)]
          by_cases e : q = g
          · subst e; rw [if_neg (by omega), if_neg (fun x => hh ⟨x.2.1, x.2.2.2⟩)]
          · by_cases h : g + 1 ≤ q ∧ q < 3 ∧ ¬ (R &&& E 40 q = 0) ∧ vHas E w i q = true
            · rw [if_pos h, if_pos ⟨by omega, h.2⟩]
            · rw [if_neg h, if_neg (fun x => h ⟨by omega, x.2⟩)]
/-- the sets after the first n items -/
def zSt (E : Nat → Nat → Int32) (w : zWd) (p n : Nat) (V : Nat → Nat → Int32) : Prop := ∀ q, q < 32 → zB (V 36 8) q = (decide (q < n) && vSee E w p q) ∧ zB (V 36 9) q = (decide (q < n) && vEdit E w p q) ∧ (∀ f, f < 4 → zB (V 41 f) q = (decide (q < n) && vRead E w p q f)) ∧ ∀ f, f < 3 → zB (V 42 f) q = (decide (q < n) && vTold E w p q f)
theorem dec_succ (q n : Nat) : decide (q < n + 1) = (decide (q < n) || decide (q = n)) := by
  by_cases h : q = n
  · simp [h]
  · simp [h]; omega
theorem zSt.skip {E : Nat → Nat → Int32} {w : zWd} {p n : Nat} {V : Nat → Nat → Int32} (h : zSt E w p n V) (hs : vSee E w p n = false) : zSt E w p (n + 1) V := by
  intro q hq
  obtain ⟨h1, h2, h3, h4⟩ := h q hq
  have x : ∀ P : Bool, (q = n → P = false) → (decide (q < n + 1) && P) = (decide (q < n) && P) := fun P hP => by
    rw [dec_succ]
    by_cases e : q = n
    · rw [hP e]; simp
    · simp [e]
  refine ⟨by rw [h1, x _ (fun e => by rw [e]; exact hs)], by rw [h2, x _ (fun e => by unfold vEdit; rw [e, hs]; rfl)], fun f hf => by rw [h3 f hf, x _ (fun e => by unfold vRead; rw [e, hs]; rfl)], fun f hf => by rw [h4 f hf, x _ (fun e => by unfold vTold vRead; rw [e, hs]; rfl)]⟩
theorem Sight_lookAt_I {r : Nat} {E S : Nat → Nat → Int32} {w : zWd} (hr : r + 3 < 36) (hE : eV E S) (hC : zWC r S w) (hg : zRg w) {p i : Nat} (hi : i < 30) (hw : w.1 i = true) (hst : zSt E w p i S) :
    ∃ V, F_Sight_lookAt r S (zI i) (vR w p i) = V ∧ Sf_Sight_lookAt r S (zI i) (vR w p i) ∧ zFL S V ∧ zSt E w p (i + 1) V := by
  obtain ⟨l, hl, el⟩ := hg.level hi hw
  obtain ⟨k, hk, ek⟩ := hg.project hi hw
  obtain ⟨c1, c2⟩ := hC.cell hi (show 6 < 10 by omega)
  obtain ⟨d1, d2⟩ := hC.cell hi (show 8 < 10 by omega)
  have c1' : F_World_cell r S (zI i) 6 = zI l := c1.trans el
  have c2' : Sf_World_cell r S (zI i) 6 := c2
  have d1' : F_World_cell r S (zI i) 8 = zI k := d1.trans ek
  have d2' : Sf_World_cell r S (zI i) 8 := d2
  have hsee : vSee E w p i = ((decide (zI l = 0) || !decide (vR w p i &&& E 39 l = 0)) && !decide (vR w p i &&& E 37 k = 0)) := by
    unfold vSee; rw [hw, el, ek, zI_clamp (by omega), zI_clamp (by omega)]; simp
  have hedit : vEdit E w p i = (vSee E w p i && !decide (vR w p i &&& E 38 k = 0)) := by unfold vEdit; rw [ek, zI_clamp (by omega)]
  have bit : ∀ T : Nat → Nat → Int32, F_T_bit T (zI i) = F_T_bit S (zI i) := fun T => by rw [T_bit_I T (by omega), T_bit_I S (by omega)]
  -- seen
  have seen : ∀ s0 : Int32, vSee E w p i = true → (s0 = if vR w p i &&& E 38 k = 0 then 0 else F_T_bit S (zI i)) → ∃ V, F_Sight_lookAt_j107 r (z_uS S 36 8 (S 36 8 ||| F_T_bit S (zI i))) (zI i) (vR w p i) s0 (S 36 9) = V ∧ Sf_Sight_lookAt_j107 r (z_uS S 36 8 (S 36 8 ||| F_T_bit S (zI i))) (zI i) (vR w p i) s0 (S 36 9) ∧ zFL S V ∧ zSt E w p (i + 1) V := by
    intro s0 hs hs0
    have hfl : zFL S (z_uS (z_uS S 36 8 (S 36 8 ||| F_T_bit S (zI i))) 36 9 (S 36 9 ||| s0)) := ⟨fun q h1 _ _ => by rw [z_uS_ne _ _ _ h1, z_uS_ne _ _ _ h1], fun j h1 h2 => by rw [uS_nj _ _ _ h2, uS_nj _ _ _ h1]⟩
    obtain ⟨V, v1, v2, v3, v4, v5⟩ := Sight_lookAt_L114_I (E := E) (R := vR w p i) hr hg hi hw 4 0 1300 (z_uS (z_uS S 36 8 (S 36 8 ||| F_T_bit S (zI i))) 36 9 (S 36 9 ||| s0)) rfl (by omega) (hE.fl hfl) (hC.fl hr hfl)
    rw [zI_0] at v1 v2
    refine ⟨V, ?_, ?_, ?_, ?_⟩
    · unfold F_Sight_lookAt_j107; rw [v1]
    · unfold Sf_Sight_lookAt_j107; exact ⟨v2, trivial⟩
    · exact ⟨fun q h1 h2 h3 => by rw [v3 q h2 h3]; exact hfl.1 q h1 h2 h3, fun j h1 h2 => by rw [v3 36 (by omega) (by omega)]; exact hfl.2 j h1 h2⟩
    · intro q hq
      obtain ⟨h1, h2, h3, h4⟩ := hst q hq
      have hb : zB (F_T_bit S (zI i)) q = decide (q = i) := T_bit_B S (by omega) hq
      have x : ∀ P : Bool, (q = i → P = true) → (decide (q < i + 1) && P) = (decide (q < i) && P || decide (q = i)) := fun P hP => by
        rw [dec_succ]
        by_cases e : q = i
        · rw [hP e]; simp [e]
        · simp [e]
      have y : ∀ P : Bool, (q = i → P = false) → (decide (q < i + 1) && P) = (decide (q < i) && P) := fun P hP => by
        rw [dec_succ]
        by_cases e : q = i
        · rw [hP e]; simp
        · simp [e]
      refine ⟨?_, ?_, fun f hf => ?_, fun f hf => ?_⟩
      · rw [v3 36 (by omega) (by omega), uS_nj _ _ _ (by omega), uS_at, zB_or, h1, hb, x _ (fun e => by rw [e]; exact hs)]
      · rw [v3 36 (by omega) (by omega), uS_at, zB_or, h2, hs0]
        by_cases q0 : vR w p i &&& E 38 k = 0
        · rw [if_pos q0, zB_0, Bool.or_false, y _ (fun e => by rw [e, hedit, decide_eq_true q0]; simp)]
        · rw [if_neg q0, hb, x _ (fun e => by rw [e, hedit, hs, decide_eq_false q0]; rfl)]
      · rw [v4 f, z_uS_ne (k' := 41) _ _ _ (by omega), z_uS_ne (k' := 41) _ _ _ (by omega), bit (z_uS _ _ _ _)]
        by_cases q0 : vR w p i &&& E 40 f = 0
        · rw [if_neg (fun h => h.2.2 q0), h3 f hf, y _ (fun e => by unfold vRead; rw [e, decide_eq_true q0]; simp)]
        · rw [if_pos ⟨by omega, hf, q0⟩, zB_or, h3 f hf, hb, x _ (fun e => by unfold vRead; rw [e, hs, decide_eq_false q0]; rfl)]
      · rw [v5 f, z_uS_ne (k' := 42) _ _ _ (by omega), z_uS_ne (k' := 42) _ _ _ (by omega), bit (z_uS _ _ _ _)]
        by_cases q0 : ¬ (vR w p i &&& E 40 f = 0) ∧ vHas E w i f = true
        · rw [if_pos ⟨by omega, hf, q0⟩, zB_or, h4 f hf, hb, x _ (fun e => by unfold vTold vRead; rw [e, hs, decide_eq_false q0.1, q0.2]; rfl)]
        · rw [if_neg (fun h => q0 h.2.2), h4 f hf, y _ (fun e => by
            unfold vTold vRead
            rw [e]
            by_cases q1 : vR w p i &&& E 40 f = 0
            · rw [decide_eq_true q1]; simp
            · have : vHas E w i f = false := by cases hh : vHas E w i f with | false => rfl | true => exact absurd ⟨q1, hh⟩ q0
              rw [this]; simp)]
  have j47 : ∀ s0 : Int32, (s0 = 0 ∨ s0 = 1) → vSee E w p i = (!decide (s0 = 0) && !decide (vR w p i &&& E 37 k = 0)) → ∃ V, F_Sight_lookAt_j47 r S (zI i) (vR w p i) (zI k) s0 = V ∧ Sf_Sight_lookAt_j47 r S (zI i) (vR w p i) (zI k) s0 ∧ zFL S V ∧ zSt E w p (i + 1) V := by
    intro s0 hs0 hs
    unfold F_Sight_lookAt_j47 Sf_Sight_lookAt_j47
    rw [zAt_I hk (by omega), zAt_I hk (by omega), hE 37 (by omega), hE 38 (by omega), bit (z_uS _ _ _ _)]
    by_cases q0 : s0 = 0
    · simp only [if_pos q0]
      exact ⟨S, rfl, trivial, zFL.rfl, hst.skip (by rw [hs, decide_eq_true q0]; rfl)⟩
    · simp only [if_neg q0]
      by_cases q1 : vR w p i &&& E 37 k = 0
      · simp only [if_pos q1]
        exact ⟨S, rfl, trivial, zFL.rfl, hst.skip (by rw [hs, decide_eq_true q1]; simp)⟩
      · simp only [if_neg q1]
        have hs' : vSee E w p i = true := by rw [hs, decide_eq_false q0, decide_eq_false q1]; rfl
        by_cases q2 : vR w p i &&& E 38 k = 0
        · simp only [if_pos q2]
          exact seen 0 hs' (by rw [if_pos q2])
        · simp only [if_neg q2]
          exact seen _ hs' (by rw [if_neg q2])
  unfold F_Sight_lookAt Sf_Sight_lookAt F_Sight_lookAt_j42 Sf_Sight_lookAt_j42
  rw [c1', d1', zAt_I hl (by omega), hE 39 (by omega)]
  by_cases q0 : zI l = 0
  · obtain ⟨V, v1, v2, v3⟩ := j47 1 (Or.inr rfl) (by rw [hsee, decide_eq_true q0]; rfl)
    simp only [if_pos q0]
    exact ⟨V, v1, ⟨d2', c2', v2⟩, v3⟩
  · simp only [if_neg q0]
    by_cases q1 : vR w p i &&& E 39 l = 0
    · obtain ⟨V, v1, v2, v3⟩ := j47 0 (Or.inl rfl) (by rw [hsee, decide_eq_false q0, decide_eq_true q1]; rfl)
      simp only [if_pos q1]
      exact ⟨V, v1, ⟨d2', c2', v2⟩, v3⟩
    · obtain ⟨V, v1, v2, v3⟩ := j47 1 (Or.inr rfl) (by rw [hsee, decide_eq_false q0, decide_eq_false q1]; rfl)
      simp only [if_neg q1]
      exact ⟨V, v1, ⟨d2', c2', v2⟩, v3⟩
theorem Sight_look_L33_I {r : Nat} {E : Nat → Nat → Int32} {w : zWd} (hr : r + 3 < 36) (hg : zRg w) {p : Nat} (hp : p < 8) : ∀ (n i f : Nat) (S : Nat → Nat → Int32), n + i = 30 → n < f → eV E S → zWC r S w → zSt E w p i S →
    ∃ V, F_Sight_look_L33 r (zI p) f S (zI i) = V ∧ Sf_Sight_look_L33 r (zI p) f S (zI i) ∧ zFL S V ∧ zSt E w p 30 V := by
  intro n
  induction n with
  | zero =>
    intro i f S hi hf hE hC hst
    obtain ⟨f, rfl⟩ : ∃ h, f = h + 1 := ⟨f - 1, by omega⟩
    have hl : (30 : Int32) ≤ zI i := by rw [show (30 : Int32) = zI 30 from rfl, zI_le (by omega) (by omega)]; omega
    refine ⟨S, ?_, ?_, zFL.rfl, by rw [show 30 = i by omega]; exact hst⟩
    · unfold F_Sight_look_L33; rw [if_pos hl]
    · unfold Sf_Sight_look_L33; rw [if_pos hl]; trivial
  | succ n ih =>
    intro i f S hi hf hE hC hst
    obtain ⟨f, rfl⟩ : ∃ h, f = h + 1 := ⟨f - 1, by omega⟩
    have hl : ¬ (30 : Int32) ≤ zI i := by rw [show (30 : Int32) = zI 30 from rfl, zI_le (by omega) (by omega)]; omega
    unfold F_Sight_look_L33 Sf_Sight_look_L33
    rw [if_neg hl, if_neg hl, World_has_I (show i < 30 by omega), hC.has i (by omega), zI_succ]
    by_cases hw : w.1 i = true
    · obtain ⟨k, hk, ek⟩ := hg.project (show i < 30 by omega) hw
      obtain ⟨d1, d2⟩ := hC.cell (show i < 30 by omega) (show 8 < 10 by omega)
      have d1' : F_World_cell r S (zI i) 8 = zI k := d1.trans ek
      have eR : F_World_rolesOf r S (zI p) (zI k) = vR w p i := by
        rw [World_rolesOf_I hp hk, hC.role _ (by omega)]
        unfold vR; rw [ek, zI_clamp (by omega)]
      obtain ⟨B, b1, b2, b3, b4⟩ := Sight_lookAt_I hr hE hC hg (show i < 30 by omega) hw hst
      simp only [hw, if_true, if_neg (show ¬ ((1 : Int32) = 0) by decide), d1', eR, z_let, b1]
      obtain ⟨V, v1, v2, v3, v4⟩ := ih (i + 1) f B (by omega) (by omega) (hE.fl b3) (hC.fl hr b3) b4
      exact ⟨V, v1, ⟨d2, b2, v2⟩, b3.trans v3, v4⟩
    · have hw' : w.1 i = false := by simpa using hw
      simp only [hw', Bool.false_eq_true, if_false, if_true]
      exact ih (i + 1) f S (by omega) (by omega) hE hC (hst.skip (by unfold vSee; rw [hw']; rfl))
