/-! PURE: queries: the class reads entries -/
/-- the class's view -/
def vC (V : Nat → Nat → Int32) (L : zLg) (Q : zVq) : Prop := zWC 28 V Q.1 ∧ ∀ i, i < 30 → Q.1.1 i = true → (∀ s, s < 31 → zB (V 32 i) s = qWas L Q i s) ∧ (∀ fr, fr < 6 → ∀ to, to < 31 → zB (V 33 (6 * i + fr)) to = qCam L Q i fr to) ∧ V 34 i = qBy L Q i ∧ V 35 i = qDay L Q i
theorem vC.ag {V W : Nat → Nat → Int32} {L : zLg} {Q : zVq} (h : vC V L Q) (e : ∀ k, 28 ≤ k → k ≤ 35 → W k = V k) : vC W L Q := by
  refine ⟨h.1.ag (by rw [e 28 (by omega) (by omega)]) (e _ (by omega) (by omega)) (e _ (by omega) (by omega)) (e _ (by omega) (by omega)), fun i hi hw => ?_⟩
  rw [e 32 (by omega) (by omega), e 33 (by omega) (by omega), e 34 (by omega) (by omega), e 35 (by omega) (by omega)]
  exact h.2 i hi hw
/-- what reading writes -/
def zFv (V W : Nat → Nat → Int32) : Prop := (∀ k, k < 28 ∨ 35 < k → W k = V k) ∧ ∀ j, j ≠ 3 → W 28 j = V 28 j
theorem zFv.rfl {V : Nat → Nat → Int32} : zFv V V := ⟨fun _ _ => Eq.refl _, fun _ _ => Eq.refl _⟩
theorem zFv.trans {V W X : Nat → Nat → Int32} (h : zFv V W) (g : zFv W X) : zFv V X := ⟨fun k hk => (g.1 k hk).trans (h.1 k hk), fun j hj => (g.2 j hj).trans (h.2 j hj)⟩
theorem zFv.s {k j : Nat} (hk : 29 ≤ k ∧ k ≤ 35) (V : Nat → Nat → Int32) (v : Int32) : zFv V (z_uS V k j v) := ⟨fun q hq => z_uS_ne _ _ _ (by omega), fun i _ => by rw [z_uS_ne _ _ _ (by omega)]⟩
theorem zWC.fv {V W : Nat → Nat → Int32} {w : zWd} (h : zWC 28 V w) (e : ∀ k, k < 32 → W k = V k) : zWC 28 W w := h.ag (by rw [e 28 (by omega)]) (e _ (by omega)) (e _ (by omega)) (e _ (by omega))
theorem read_L {x2 : Int32} {a : Nat} (ha : a < 30) : ∀ (n c f : Nat) (S : Nat → Nat → Int32), c + n = 6 → n < f → ∃ V, F_View_read_L78 x2 (zI a) f S (zI c) = V ∧ Sf_View_read_L78 x2 (zI a) f S (zI c) ∧ (∀ k, k ≠ 33 → V k = S k) ∧ ∀ j, V 33 j = if 6 * a + c ≤ j ∧ j < 6 * a + 6 then 0 else S 33 j := by
  intro n
  induction n with
  | zero =>
    intro c f S hc hf
    obtain ⟨f, rfl⟩ : ∃ g, f = g + 1 := ⟨f - 1, by omega⟩
    have hl : (6 : Int32) ≤ zI c := by rw [show (6 : Int32) = zI 6 from rfl, zI_le (by omega) (by omega)]; omega
    refine ⟨S, ?_, ?_, fun _ _ => rfl, fun j => by rw [if_neg (by omega)]⟩
    · unfold F_View_read_L78; rw [if_pos hl]
    · unfold Sf_View_read_L78; rw [if_pos hl]; trivial
  | succ n ih =>
    intro c f S hc hf
    obtain ⟨f, rfl⟩ : ∃ g, f = g + 1 := ⟨f - 1, by omega⟩
    have hl : ¬ (6 : Int32) ≤ zI c := by rw [show (6 : Int32) = zI 6 from rfl, zI_le (by omega) (by omega)]; omega
    have e : zPut S 33 180 ((zI a * 6) + zI c) 0 = z_uS S 33 (a * 6 + c) 0 := by rw [show (6 : Int32) = zI 6 from rfl, zI_mul, zI_add, zPut_I (by omega) (by omega)]
    obtain ⟨V, v1, v2, v3, v4⟩ := ih (c + 1) f (z_uS S 33 (a * 6 + c) 0) (by omega) (by omega)
    refine ⟨V, ?_, ?_, fun k hk => by rw [v3 k hk, z_uS_ne _ _ _ hk], fun j => ?_⟩
    · unfold F_View_read_L78; simp only [if_neg hl, e, z_let, zI_succ]; exact v1
    · unfold Sf_View_read_L78; simp only [if_neg hl, e, z_let, zI_succ]; exact v2
    · rw [v4 j]
      by_cases q : 6 * a + (c + 1) ≤ j ∧ j < 6 * a + 6
      · rw [if_pos q, if_pos (by omega)]
      · rw [if_neg q]
        by_cases q2 : j = a * 6 + c
        · rw [q2, uS_at, if_pos (by omega)]
        · rw [uS_nj _ _ _ q2, if_neg (by omega)]
theorem ab_f0 {L : zLg} {k i : Nat} (h : (L k).1.1 = 0) : ab L k i = false := decide_eq_false fun z => z.1 h
theorem zB_bit {S : Nat → Nat → Int32} {s q : Nat} (hs : s < 31) (hq : q < 31) (x : Int32) : zB (x ||| F_T_bit S (zI s)) q = (zB x q || decide (q = s)) := by rw [zB_or, T_bit_B S hs (by omega)]
theorem View_read_I {V : Nat → Nat → Int32} {L : zLg} {Q : zVq} {k n : Nat} (h : vC V L Q) (hI : vI L k Q) (hn : n ≤ 900) (hk : k < n) (hL : zLgC L n V) (hW : zLgW L n) (hE : zEv (L k).1 (zRep L k)) (hKn : (L k).1.1 = 2 ∨ (L k).1.1 = 3 → Q.1.1 (L k).1.2.1 = true) : ∃ W, F_View_read V (zI k) = W ∧ Sf_View_read V (zI k) ∧ vC W L (vNx L k Q) ∧ zFv V W := by
  obtain ⟨hl, hday, hby⟩ := hL.2 k hk
  obtain ⟨he, hold, hborn, -, -⟩ := hW k hk
  obtain ⟨l4, l5, l6, l7, l8⟩ := id hl
  have hk9 : k < 900 := by omega
  have c4 : zAt (V 4) 900 (zI k) = eI (L k).1 := by rw [zAt_I hk9 (by omega)]; exact l4
  have c5 : zAt (V 5) 900 (zI k) = eW (L k).1 := by rw [zAt_I hk9 (by omega)]; exact l5
  have c3 : zAt (V 3) 900 (zI k) = zI (L k).2.2 := by rw [zAt_I hk9 (by omega)]; exact hby
  have hth : ∀ q, (vNx L k Q).1.1 q = if (L k).1.1 = 1 ∧ q = (L k).1.2.1 then true else Q.1.1 q := fun q => zApp_there
  have hsc : zLC V k (L k).1 := hl
  -- the world's step at the end
  have redo : ∀ S, (∀ c, c < 32 → S c = V c) → ∃ W, F_World_redo 28 S (zI k) = W ∧ Sf_World_redo 28 S (zI k) ∧ zWC 28 W (vNx L k Q).1 ∧ (∀ c, (c < 28 ∨ 31 < c) → W c = S c) ∧ ∀ j, j ≠ 3 → W 28 j = S 28 j := by
    intro S hS
    exact World_redo_I (h.1.fv hS) hk9 (by unfold zLC at hsc ⊢; rw [hS 4 (by omega), hS 5 (by omega), hS 6 (by omega), hS 7 (by omega), hS 8 (by omega)]; exact hsc) he
  rcases id he with ⟨t, ha, hb⟩ | ⟨t, ha, hb, hcc⟩ | ⟨t, ha, hb⟩ | ⟨t, ha, hb, hcc, hne, -⟩
  · -- roles
    have e4 : eI (L k).1 = -1 := by unfold eI; rw [if_pos t]
    have e5 : eW (L k).1 = 14 := by unfold eW; rw [if_pos t]
    obtain ⟨W, w1, w2, w3, w4, w5⟩ := redo V (fun _ _ => rfl)
    refine ⟨W, ?_, ?_, ⟨w3, fun i hi hw => ?_⟩, ⟨fun c hc => w4 c (by omega), w5⟩⟩
    · unfold F_View_read F_View_read_j56 F_View_read_j188
      rw [c4, e4, if_pos rfl, c5, e5, if_neg (by decide), if_neg (by decide)]
      exact w1
    · unfold Sf_View_read Sf_View_read_j56 Sf_View_read_j188
      rw [c4, e4, if_pos rfl, c5, e5, if_neg (by decide), if_neg (by decide)]
      exact ⟨w2, trivial⟩
    · rw [hth, if_neg (by omega)] at hw
      obtain ⟨h1, h2, h3, h4⟩ := h.2 i hi hw
      have ab0 : ab L k i = false := ab_f0 t
      refine ⟨fun s hs => ?_, fun fr hf to ht => ?_, ?_, ?_⟩
      · rw [w4 32 (by omega), h1 s hs, qWas_nx]; unfold sWas; rw [ab0]; simp
      · rw [w4 33 (by omega), h2 fr hf to ht, qCam_nx]; unfold sCam; rw [ab0]; simp
      · rw [w4 34 (by omega), h3, qBy_nx, ab0]; rfl
      · rw [w4 35 (by omega), h4, qDay_nx, ab0]; rfl
  all_goals
    generalize hX : (L k).1.2.1 = x at *
    have t0 : ¬ (L k).1.1 = 0 := by omega
    have e4 : eI (L k).1 = zI x := by unfold eI; rw [if_neg t0, hX]
    have n4 : ¬ zI x = -1 := m1_ne x (by omega)
    have p34 : zPut V 34 30 (zI x) (zI (L k).2.2) = z_uS V 34 x (zI (L k).2.2) := zPut_I ha (by omega)
    have c2 : zAt ((z_uS V 34 x (zI (L k).2.2)) 2) 900 (zI k) = zI (L k).2.1 := by rw [z_uS_ne _ _ _ (by omega), zAt_I hk9 (by omega)]; exact hday
    have p35 : zPut (z_uS V 34 x (zI (L k).2.2)) 35 30 (zI x) (zI (L k).2.1) = z_uS (z_uS V 34 x (zI (L k).2.2)) 35 x (zI (L k).2.1) := zPut_I ha (by omega)
    generalize hA : z_uS (z_uS V 34 x (zI (L k).2.2)) 35 x (zI (L k).2.1) = A
    rw [hA] at p35
    have An : ∀ c, c ≠ 34 → c ≠ 35 → A c = V c := fun c a b => by rw [← hA, z_uS_ne _ _ _ b, z_uS_ne _ _ _ a]
    have A34 : ∀ i, A 34 i = if i = x then zI (L k).2.2 else V 34 i := fun i => by rw [← hA, z_uS_ne _ _ _ (by omega), z_uS_self]; rfl
    have A35 : ∀ i, A 35 i = if i = x then zI (L k).2.1 else V 35 i := fun i => by rw [← hA, z_uS_self]; show (if i = x then _ else z_uS V 34 x _ 35 i) = _; rw [z_uS_ne _ _ _ (by omega)]
    have hFA : zFv V A := by rw [← hA]; exact (zFv.s (by omega) V _).trans (zFv.s (by omega) _ _)
    have abi : ∀ i, ab L k i = decide (i = x) := fun i => by
      unfold ab
      rw [hX]
      by_cases q : i = x
      · rw [decide_eq_true ⟨t0, q.symm⟩, decide_eq_true q]
      · rw [decide_eq_false fun z => q z.2.symm, decide_eq_false q]
    have hby' : ∀ i, (A 34 i = qBy L (vNx L k Q) i ↔ (i = x ∨ V 34 i = qBy L Q i)) := fun i => by
      rw [A34, qBy_nx, abi]
      by_cases q : i = x
      · simp [q]
      · simp [q]
    have hday' : ∀ i, (A 35 i = qDay L (vNx L k Q) i ↔ (i = x ∨ V 35 i = qDay L Q i)) := fun i => by
      rw [A35, qDay_nx, abi]
      by_cases q : i = x
      · simp [q]
      · simp [q]
  · -- born
    have e5 : eW (L k).1 = 13 := by unfold eW; rw [if_neg t0, if_pos t]
    have hQx : Q.1.1 x = false := by
      cases q : Q.1.1 x
      · rfl
      · have := hI.1 x q
        have hq := hold.2.1 t
        rw [hX] at hq; rw [hq] at this; cases this
    have hno := hI.no hQx
    have p32 : zPut A 32 30 (zI x) (F_T_bit A 0) = z_uS A 32 x (F_T_bit A 0) := zPut_I ha (by omega)
    obtain ⟨B, b1, b2, b3, b4⟩ := read_L (x2 := zI k) ha 6 0 1300 (z_uS A 32 x (F_T_bit A 0)) (by omega) (by omega)
    rw [zI_0] at b1 b2
    have Bn : ∀ c, c < 32 → B c = V c := fun c hc => by rw [b3 c (by omega), z_uS_ne _ _ _ (by omega)]; exact An c (by omega) (by omega)
    obtain ⟨W, w1, w2, w3, w4, w5⟩ := redo B Bn
    have hFB : zFv A B := ⟨fun c hc => by rw [b3 c (by omega), z_uS_ne _ _ _ (by omega)], fun j _ => by rw [b3 28 (by omega), z_uS_ne _ _ _ (by omega)]⟩
    refine ⟨W, ?_, ?_, ⟨w3, fun i hi hw => ?_⟩, (hFA.trans hFB).trans ⟨fun c hc => w4 c (by omega), w5⟩⟩
    · unfold F_View_read F_View_read_j188
      rw [c4, e4, if_neg n4, c3, p34]
      simp only [z_let, c2, p35, c5, e5, if_true, p32, b1]
      exact w1
    · unfold Sf_View_read Sf_View_read_j188
      rw [c4, e4, if_neg n4, c3, p34]
      simp only [z_let, c2, p35, c5, e5, if_true, p32, b1]
      exact ⟨b2, w2, trivial⟩
    · have e34 : W 34 = A 34 := by rw [w4 34 (by omega), b3 34 (by omega), z_uS_ne _ _ _ (by omega)]
      have e35 : W 35 = A 35 := by rw [w4 35 (by omega), b3 35 (by omega), z_uS_ne _ _ _ (by omega)]
      have e32 : W 32 = upd (A 32) x (F_T_bit A 0) := by rw [w4 32 (by omega), b3 32 (by omega), z_uS_self]
      have e33 : W 33 = B 33 := w4 33 (by omega)
      have hst : isSt (L k).1 = false := decide_eq_false (by omega)
      by_cases q : i = x
      · subst q
        refine ⟨fun s hs => ?_, fun fr hf to hto => ?_, ?_, ?_⟩
        · rw [e32, qWas_nx, hno.was]
          show zB (if i = i then F_T_bit A 0 else A 32 i) s = _
          rw [if_pos rfl, ← zI_0, T_bit_B A (by omega) (by omega)]
          unfold sWas
          rw [abi, hst, decide_eq_true rfl]
          simp [t]
        · rw [e33, b4, if_pos (by omega), zB_0, qCam_nx, hno.cam]
          unfold sCam
          rw [hst]; simp
        · rw [e34]; exact (hby' i).mpr (Or.inl rfl)
        · rw [e35]; exact (hday' i).mpr (Or.inl rfl)
      · rw [hth, if_neg (fun z => q z.2)] at hw
        obtain ⟨h1, h2, h3, h4⟩ := h.2 i hi hw
        have ab0 : ab L k i = false := by rw [abi]; exact decide_eq_false q
        refine ⟨fun s hs => ?_, fun fr hf to hto => ?_, ?_, ?_⟩
        · rw [e32, qWas_nx]
          show zB (if i = x then F_T_bit A 0 else A 32 i) s = _
          rw [if_neg q, An 32 (by omega) (by omega), h1 s hs]; unfold sWas; rw [ab0]; simp
        · rw [e33, b4, if_neg (by omega), z_uS_ne _ _ _ (by omega), An 33 (by omega) (by omega), h2 fr hf to hto, qCam_nx]; unfold sCam; rw [ab0]; simp
        · rw [e34]; exact (hby' i).mpr (Or.inr h3)
        · rw [e35]; exact (hday' i).mpr (Or.inr h4)
  · -- a column
    have hQx : Q.1.1 x = true := hKn (Or.inl t)
    have e5 : eW (L k).1 = zI (L k).1.2.2.1 := by unfold eW; rw [if_neg t0, if_neg (by omega), if_pos t]
    have n13 : ¬ zI (L k).1.2.2.1 = 13 := by rw [show (13 : Int32) = zI 13 from rfl, zI_inj (by omega) (by omega)]; omega
    by_cases hc0 : (L k).1.2.2.1 = 0
    · have hst : isSt (L k).1 = true := decide_eq_true ⟨t, hc0⟩
      obtain ⟨v0, v1⟩ := hE.2.1 t
      rw [hc0] at v0 v1
      have v0' : (0 : Int) ≤ (L k).1.2.2.2.2.2.toInt := v0
      have v1' : (L k).1.2.2.2.2.2.toInt ≤ (5 : Int) := v1
      obtain ⟨sv, hsv, ev⟩ := zI_ex (n := 6) v0' (by omega) (by omega)
      have c8 : ∀ S : Nat → Nat → Int32, S 8 = V 8 → zAt (S 8) 900 (zI k) = zI sv := fun S hS => by
        rw [hS, zAt_I hk9 (by omega), l8]
        unfold eA
        rw [if_neg (by omega)]; exact ev
      have p32 : zPut A 32 30 (zI x) ((zAt (A 32) 30 (zI x)) ||| (F_T_bit A (zI sv))) = z_uS A 32 x (V 32 x ||| F_T_bit A (zI sv)) := by
        rw [zPut_I ha (by omega), zAt_I ha (by omega), An 32 (by omega) (by omega)]
      have hWA : zWC 28 A Q.1 := h.1.fv fun c hc => An c (by omega) (by omega)
      obtain ⟨g1, g2⟩ := hWA.cell ha (show 0 < 10 by omega)
      obtain ⟨s0, hs0, es0⟩ := hI.2.2.2.1.state ha hQx
      change F_World_cell 28 A (zI x) 0 = _ at g1
      rw [es0] at g1
      have hcol : Q.1.2.1 x 0 = zI s0 := by rw [← es0]; unfold wC; rw [if_pos hQx]
      generalize hA2 : z_uS A 32 x (V 32 x ||| F_T_bit A (zI sv)) = A2
      have A2n : ∀ c, c ≠ 32 → A2 c = A c := fun c hc => by rw [← hA2, z_uS_ne _ _ _ hc]
      have p33 : zPut A2 33 180 ((zI x * 6) + zI s0) ((zAt (A2 33) 180 ((zI x * 6) + zI s0)) ||| (F_T_bit A2 (zI sv))) = z_uS A2 33 (x * 6 + s0) (V 33 (x * 6 + s0) ||| F_T_bit A2 (zI sv)) := by
        rw [show (6 : Int32) = zI 6 from rfl, zI_mul, zI_add, zPut_I (by omega) (by omega), zAt_I (by omega) (by omega), A2n 33 (by omega), An 33 (by omega) (by omega)]
      generalize hB : z_uS A2 33 (x * 6 + s0) (V 33 (x * 6 + s0) ||| F_T_bit A2 (zI sv)) = B
      have Bn : ∀ c, c < 32 → B c = V c := fun c hc => by rw [← hB, z_uS_ne _ _ _ (by omega), A2n c (by omega)]; exact An c (by omega) (by omega)
      obtain ⟨W, w1, w2, w3, w4, w5⟩ := redo B Bn
      have hFB : zFv A B := by rw [← hB, ← hA2]; exact (zFv.s (by omega) A _).trans (zFv.s (by omega) _ _)
      have d8 := c8 A (An 8 (by omega) (by omega))
      have d8' := c8 A2 (by rw [A2n 8 (by omega)]; exact An 8 (by omega) (by omega))
      refine ⟨W, ?_, ?_, ⟨w3, fun i hi hw => ?_⟩, (hFA.trans hFB).trans ⟨fun c hc => w4 c (by omega), w5⟩⟩
      · unfold F_View_read F_View_read_j188
        rw [c4, e4, if_neg n4, c3, p34]
        simp only [z_let, c2, p35, c5, e5]
        rw [if_neg n13, hc0, if_pos zI_0]
        simp only [d8, p32, hA2, g1, d8', p33, hB]
        exact w1
      · unfold Sf_View_read Sf_View_read_j188
        rw [c4, e4, if_neg n4, c3, p34]
        simp only [z_let, c2, p35, c5, e5]
        rw [if_neg n13, hc0, if_pos zI_0]
        simp only [d8, p32, hA2, g1, d8', p33, hB]
        exact ⟨g2, w2, trivial⟩
      · rw [hth, if_neg (by omega)] at hw
        obtain ⟨h1, h2, h3, h4⟩ := h.2 i hi hw
        have e34 : W 34 = A 34 := by rw [w4 34 (by omega), ← hB, z_uS_ne _ _ _ (by omega), A2n 34 (by omega)]
        have e35 : W 35 = A 35 := by rw [w4 35 (by omega), ← hB, z_uS_ne _ _ _ (by omega), A2n 35 (by omega)]
        have e32 : ∀ j, W 32 j = if j = x then V 32 x ||| F_T_bit A (zI sv) else V 32 j := fun j => by
          rw [w4 32 (by omega), ← hB, z_uS_ne _ _ _ (by omega), ← hA2, z_uS_self]
          show (if j = x then _ else A 32 j) = _
          rw [An 32 (by omega) (by omega)]
        have e33 : ∀ j, W 33 j = if j = x * 6 + s0 then V 33 (x * 6 + s0) ||| F_T_bit A2 (zI sv) else V 33 j := fun j => by
          rw [w4 33 (by omega), ← hB, z_uS_self]
          show (if j = x * 6 + s0 then _ else A2 33 j) = _
          rw [A2n 33 (by omega), An 33 (by omega) (by omega)]
        have hcm : (if (L k).1.1 = 2 ∧ (L k).1.2.2.1 = 0 then Q.1.2.1 (L k).1.2.1 0 else -1) = zI s0 := by rw [if_pos ⟨t, hc0⟩, hX]; exact hcol
        refine ⟨fun s hs => ?_, fun fr hf to hto => ?_, ?_, ?_⟩
        · rw [e32, qWas_nx]
          unfold sWas
          rw [abi, hst, ev]
          by_cases q : i = x
          · rw [if_pos q, decide_eq_true q, zB_bit (by omega) hs, ← q, h1 s hs, decide_eq_false (show ¬ ((L k).1.1 = 1 ∧ s = 0) by omega)]
            congr 1
            simp only [Bool.true_and, Bool.false_or]
            by_cases e : s = sv
            · rw [decide_eq_true e, decide_eq_true (by rw [e])]
            · rw [decide_eq_false e, decide_eq_false fun z => e ((zI_inj (by omega) (by omega)).mp z).symm]
          · rw [if_neg q, h1 s hs, decide_eq_false q]; simp
        · rw [e33, qCam_nx, hcm]
          unfold sCam
          rw [abi, hst, ev]
          by_cases q : i = x
          · subst q
            rw [decide_eq_true rfl]
            by_cases q2 : fr = s0
            · subst q2
              rw [if_pos (by omega), zB_bit (by omega) hto, show i * 6 + fr = 6 * i + fr by omega, h2 fr hf to hto, decide_eq_true rfl]
              congr 1
              simp only [Bool.true_and]
              by_cases e : to = sv
              · rw [decide_eq_true e, decide_eq_true (by rw [e])]
              · rw [decide_eq_false e, decide_eq_false fun z => e ((zI_inj (by omega) (by omega)).mp z).symm]
            · rw [if_neg (by omega), h2 fr hf to hto, decide_eq_false (show ¬ zI s0 = zI fr from fun z => q2 ((zI_inj (by omega) (by omega)).mp z).symm)]; simp
          · rw [if_neg (by omega), h2 fr hf to hto, decide_eq_false q]; simp
        · rw [e34]; exact (hby' i).mpr (Or.inr h3)
        · rw [e35]; exact (hday' i).mpr (Or.inr h4)
    · have hst : isSt (L k).1 = false := decide_eq_false fun z => hc0 z.2
      have n0 : ¬ zI (L k).1.2.2.1 = 0 := by rw [show (0 : Int32) = zI 0 from rfl, zI_inj (by omega) (by omega)]; exact hc0
      obtain ⟨W, w1, w2, w3, w4, w5⟩ := redo A fun c hc => An c (by omega) (by omega)
      refine ⟨W, ?_, ?_, ⟨w3, fun i hi hw => ?_⟩, hFA.trans ⟨fun c hc => w4 c (by omega), w5⟩⟩
      · unfold F_View_read F_View_read_j188
        rw [c4, e4, if_neg n4, c3, p34]
        simp only [z_let, c2, p35, c5, e5]
        rw [if_neg n13, if_neg n0]
        exact w1
      · unfold Sf_View_read Sf_View_read_j188
        rw [c4, e4, if_neg n4, c3, p34]
        simp only [z_let, c2, p35, c5, e5]
        rw [if_neg n13, if_neg n0]
        exact ⟨w2, trivial⟩
      · rw [hth, if_neg (by omega)] at hw
        obtain ⟨h1, h2, h3, h4⟩ := h.2 i hi hw
        refine ⟨fun s hs => ?_, fun fr hf to hto => ?_, ?_, ?_⟩
        · rw [w4 32 (by omega), An 32 (by omega) (by omega), h1 s hs, qWas_nx]
          unfold sWas
          rw [hst, decide_eq_false (show ¬ ((L k).1.1 = 1 ∧ s = 0) by omega)]; simp
        · rw [w4 33 (by omega), An 33 (by omega) (by omega), h2 fr hf to hto, qCam_nx]
          unfold sCam
          rw [hst]; simp
        · rw [w4 34 (by omega)]; exact (hby' i).mpr (Or.inr h3)
        · rw [w4 35 (by omega)]; exact (hday' i).mpr (Or.inr h4)
  · -- a link
    have e5 : eW (L k).1 = zI (10 + (L k).1.2.2.1) := by unfold eW; rw [if_neg t0, if_neg (by omega), if_neg (by omega)]
    have n13 : ¬ zI (10 + (L k).1.2.2.1) = 13 := by rw [show (13 : Int32) = zI 13 from rfl, zI_inj (by omega) (by omega)]; omega
    have n0 : ¬ zI (10 + (L k).1.2.2.1) = 0 := by rw [show (0 : Int32) = zI 0 from rfl, zI_inj (by omega) (by omega)]; omega
    have hst : isSt (L k).1 = false := decide_eq_false fun z => by have := z.1; omega
    obtain ⟨W, w1, w2, w3, w4, w5⟩ := redo A fun c hc => An c (by omega) (by omega)
    refine ⟨W, ?_, ?_, ⟨w3, fun i hi hw => ?_⟩, hFA.trans ⟨fun c hc => w4 c (by omega), w5⟩⟩
    · unfold F_View_read F_View_read_j188
      rw [c4, e4, if_neg n4, c3, p34]
      simp only [z_let, c2, p35, c5, e5]
      rw [if_neg n13, if_neg n0]
      exact w1
    · unfold Sf_View_read Sf_View_read_j188
      rw [c4, e4, if_neg n4, c3, p34]
      simp only [z_let, c2, p35, c5, e5]
      rw [if_neg n13, if_neg n0]
      exact ⟨w2, trivial⟩
    · rw [hth, if_neg (by omega)] at hw
      obtain ⟨h1, h2, h3, h4⟩ := h.2 i hi hw
      refine ⟨fun s hs => ?_, fun fr hf to hto => ?_, ?_, ?_⟩
      · rw [w4 32 (by omega), An 32 (by omega) (by omega), h1 s hs, qWas_nx]
        unfold sWas
        rw [hst, decide_eq_false (show ¬ ((L k).1.1 = 1 ∧ s = 0) by omega)]; simp
      · rw [w4 33 (by omega), An 33 (by omega) (by omega), h2 fr hf to hto, qCam_nx]
        unfold sCam
        rw [hst]; simp
      · rw [w4 34 (by omega)]; exact (hby' i).mpr (Or.inr h3)
      · rw [w4 35 (by omega)]; exact (hday' i).mpr (Or.inr h4)
