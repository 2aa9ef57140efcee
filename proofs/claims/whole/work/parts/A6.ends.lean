/-! PURE: queries: the class's steps -/
theorem zLf.mono {X : zTx} {T : Nat → Nat → Int32} {p : Nat} {c : Int32} {F F' : Int32 × (Nat → Nat → Int32)} {s s' : Prop} (h : zLf X T p c F s) (e : F' = F) (hs : s → s') : zLf X T p c F' s' := ⟨fun x hx => by rw [e]; exact ⟨(h.1 x hx).1, hs (h.1 x hx).2⟩, fun q a b d g W h1 h2 h3 => by rw [e]; exact ⟨(h.2 q a b d g W h1 h2 h3).1, hs (h.2 q a b d g W h1 h2 h3).2⟩⟩
theorem T_leaf_I {X : zTx} {T : Nat → Nat → Int32} {p : Nat} {c : Int32} (h : zSc X T p) (hc : sgn X p = c) (hk : kd c = 4) : zLf X T p c (F_Query_beginsWell T) (Sf_Query_beginsWell T) := by
  obtain ⟨s1, s2⟩ := T_sign_I h
  have hc0 : c ≠ 0 := by intro e; rw [e] at hk; exact absurd hk (by decide)
  have hp := sgn_lt hc hc0
  obtain ⟨t1, t2⟩ := T_takes_I h c
  rw [if_pos hc] at t1
  rw [hc] at s1
  have h1 := h.to (q := p + 1) (by omega)
  have hk' : isSm c = true ∨ c = 97 ∨ c = 102 ∨ c = 88 ∨ c = 68 := by
    unfold kd at hk
    split at hk
    · omega
    split at hk
    · omega
    split at hk
    · omega
    split at hk
    · omega
    split at hk
    · assumption
    · omega
  have hu : F_Query_beginsWell T = F_Query_beginsWell T := rfl
  rcases hk' with k | k | k | k
  · have L := leaf_sm h1 k
    refine L.mono ?_ (fun z => ?_)
    · unfold F_Query_beginsWell F_Query_beginsWell_j254
      rw [s1]
      rcases isSm_cases k with e | e | e | e | e | e <;> subst e <;> simp (decide := true) only [t1, if_false, if_true]
    · unfold Sf_Query_beginsWell
      rw [s1]
      rcases isSm_cases k with e | e | e | e | e | e <;> subst e <;> simp (decide := true) only [t1, if_false, if_true] <;> exact ⟨s2, t2, z⟩
  · subst k
    have L := leaf_a h1
    refine L.mono ?_ (fun z => ?_)
    · unfold F_Query_beginsWell F_Query_beginsWell_j308 F_Query_beginsWell_j304
      rw [s1]
      simp (decide := true) only [t1, if_false, if_true]
    · unfold Sf_Query_beginsWell
      rw [s1]
      simp (decide := true) only [t1, if_false, if_true]
      obtain ⟨u1, u2⟩ := T_takes_I h1 120
      obtain ⟨v1, v2⟩ := T_digit_I h1 9
      rw [atP_atP] at u1 v1
      by_cases q0 : sgn X (p + 1) = 120
      · rw [if_pos q0] at u1
        simp only [u1, if_neg ne_10] at z ⊢
        exact ⟨s2, t2, z⟩
      · rw [if_neg q0] at u1
        simp only [u1, if_true] at z ⊢
        by_cases q : isD X 9 (p + 1) = true
        · rw [if_pos q] at v1
          simp only [v1] at z ⊢
          exact ⟨s2, t2, z⟩
        · rw [if_neg q] at v1
          simp only [v1] at z ⊢
          exact ⟨s2, t2, z⟩
  · subst k
    have L := leaf_f h1
    refine L.mono ?_ (fun z => ?_)
    · unfold F_Query_beginsWell F_Query_beginsWell_j362
      rw [s1]
      simp (decide := true) only [t1, if_false, if_true]
    · unfold Sf_Query_beginsWell
      rw [s1]
      simp (decide := true) only [t1, if_false, if_true]
      exact ⟨s2, t2, z⟩
  · have L := leaf_2 h1 k
    refine L.mono ?_ (fun z => ?_)
    · unfold F_Query_beginsWell F_Query_beginsWell_j336
      rw [s1]
      rcases k with e | e <;> subst e <;> simp (decide := true) only [t1, if_false, if_true]
    · unfold Sf_Query_beginsWell
      rw [s1]
      rcases k with e | e <;> subst e <;> simp (decide := true) only [t1, if_false, if_true] <;> exact ⟨s2, t2, z⟩
/-- the class while it reads: its place, its steps, its open parts, whether one is due -/
def zQs (X : zTx) (T : Nat → Nat → Int32) (p z dep : Nat) (due : Bool) : Prop := zSc X T p ∧ T 19 8 = zI z ∧ T 19 9 = zI dep ∧ T 19 11 = bI due ∧ z + dep ≤ p
def zFq (z d : Nat) (T V : Nat → Nat → Int32) : Prop := (∀ k, k ≠ 19 → ¬ (21 ≤ k ∧ k ≤ 26) → V k = T k) ∧ (∀ j, ¬ (8 ≤ j ∧ j ≤ 11) → V 19 j = T 19 j) ∧ (∀ k, 21 ≤ k ∧ k ≤ 24 → ∀ j, j < z → V k j = T k j) ∧ ∀ k, 25 ≤ k ∧ k ≤ 26 → ∀ j, j < d → V k j = T k j
theorem zFq.rfl {z d : Nat} {T : Nat → Nat → Int32} : zFq z d T T := ⟨fun _ _ _ => Eq.refl _, fun _ _ => Eq.refl _, fun _ _ _ _ => Eq.refl _, fun _ _ _ _ => Eq.refl _⟩
theorem zFq.trans {z d z' d' : Nat} {T V W : Nat → Nat → Int32} (h : zFq z d T V) (g : zFq z' d' V W) (hz : z ≤ z') (hd : d ≤ d') : zFq z d T W :=
  ⟨fun k h1 h2 => (g.1 k h1 h2).trans (h.1 k h1 h2), fun j hj => (g.2.1 j hj).trans (h.2.1 j hj), fun k hk j hj => (g.2.2.1 k hk j (by omega)).trans (h.2.2.1 k hk j hj), fun k hk j hj => (g.2.2.2 k hk j (by omega)).trans (h.2.2.2 k hk j hj)⟩
theorem zFq.f {z d j : Nat} (hj : 8 ≤ j ∧ j ≤ 11) (T : Nat → Nat → Int32) (v : Int32) : zFq z d T (z_uS T 19 j v) := ⟨fun k h1 _ => z_uS_ne _ _ _ h1, fun i hi => uS_nj _ _ _ (by omega), fun k hk i _ => by rw [z_uS_ne _ _ _ (by omega)], fun k hk i _ => by rw [z_uS_ne _ _ _ (by omega)]⟩
theorem zFq.s {z d k j : Nat} (hk : 21 ≤ k ∧ k ≤ 24) (hj : z ≤ j) (T : Nat → Nat → Int32) (v : Int32) : zFq z d T (z_uS T k j v) := ⟨fun q h1 h2 => z_uS_ne _ _ _ (by omega), fun i hi => by rw [z_uS_ne _ _ _ (by omega)], fun q hq i hi => (by
    by_cases e : q = k
    · subst e; exact uS_nj _ _ _ (by omega)
    · rw [z_uS_ne _ _ _ e]), fun q hq i hi => by rw [z_uS_ne _ _ _ (by omega)]⟩
theorem zFq.o {z d k j : Nat} (hk : 25 ≤ k ∧ k ≤ 26) (hj : d ≤ j) (T : Nat → Nat → Int32) (v : Int32) : zFq z d T (z_uS T k j v) := ⟨fun q h1 h2 => z_uS_ne _ _ _ (by omega), fun i hi => by rw [z_uS_ne _ _ _ (by omega)], fun q hq i hi => by rw [z_uS_ne _ _ _ (by omega)], fun q hq i hi => (by
    by_cases e : q = k
    · subst e; exact uS_nj _ _ _ (by omega)
    · rw [z_uS_ne _ _ _ e])⟩
theorem zSc.fq {X : zTx} {T V : Nat → Nat → Int32} {p q z d : Nat} (h : zSc X T p) (g : zFq z d T V) (e : V 19 10 = zI q) (hq : q ≤ X.2) : zSc X V q := ⟨by rw [g.2.1 7 (by omega)]; exact h.1, e, by rw [g.1 20 (by omega) (by omega)]; exact h.2.2.1, h.2.2.2.1, hq⟩
/-- one more step -/
def addS (T : Nat → Nat → Int32) (z : Nat) (a b d g : Int32) : Nat → Nat → Int32 := z_uS (z_uS (z_uS (z_uS (z_uS T 21 z a) 22 z b) 23 z d) 24 z g) 19 8 (zI (z + 1))
theorem addS_fq (T : Nat → Nat → Int32) (z dep : Nat) (a b d g : Int32) : zFq z dep T (addS T z a b d g) :=
  (((((zFq.s (by omega) (Nat.le_refl _) T a).trans (zFq.s (by omega) (Nat.le_refl _) _ b) (Nat.le_refl _) (Nat.le_refl _)).trans (zFq.s (by omega) (Nat.le_refl _) _ d) (Nat.le_refl _) (Nat.le_refl _)).trans (zFq.s (by omega) (Nat.le_refl _) _ g) (Nat.le_refl _) (Nat.le_refl _)).trans (zFq.f (by omega) _ _) (Nat.le_refl _) (Nat.le_refl _))
theorem addS_19 (T : Nat → Nat → Int32) (z : Nat) (a b d g : Int32) {j : Nat} (hj : j ≠ 8) : addS T z a b d g 19 j = T 19 j := by
  unfold addS
  rw [uS_nj _ _ _ hj, z_uS_ne _ _ _ (by omega), z_uS_ne _ _ _ (by omega), z_uS_ne _ _ _ (by omega), z_uS_ne _ _ _ (by omega)]
theorem addS_8 (T : Nat → Nat → Int32) (z : Nat) (a b d g : Int32) : addS T z a b d g 19 8 = zI (z + 1) := uS_at _ _ _ _
theorem addS_o (T : Nat → Nat → Int32) (z : Nat) (a b d g : Int32) {k : Nat} (hk : 25 ≤ k) : addS T z a b d g k = T k := by
  unfold addS
  rw [z_uS_ne _ _ _ (by omega), z_uS_ne _ _ _ (by omega), z_uS_ne _ _ _ (by omega), z_uS_ne _ _ _ (by omega), z_uS_ne _ _ _ (by omega)]
theorem addS_at (T : Nat → Nat → Int32) (z : Nat) (a b d g : Int32) : addS T z a b d g 21 z = a ∧ addS T z a b d g 22 z = b ∧ addS T z a b d g 23 z = d ∧ addS T z a b d g 24 z = g := by
  unfold addS
  refine ⟨?_, ?_, ?_, ?_⟩
  · rw [z_uS_ne _ _ _ (by omega), z_uS_ne _ _ _ (by omega), z_uS_ne _ _ _ (by omega), z_uS_ne _ _ _ (by omega), uS_at]
  · rw [z_uS_ne _ _ _ (by omega), z_uS_ne _ _ _ (by omega), z_uS_ne _ _ _ (by omega), uS_at]
  · rw [z_uS_ne _ _ _ (by omega), z_uS_ne _ _ _ (by omega), uS_at]
  · rw [z_uS_ne _ _ _ (by omega), uS_at]
theorem add_I {T : Nat → Nat → Int32} {z : Nat} (h : T 19 8 = zI z) (hz : z < 30) (a b d g : Int32) : F_Query_add T a b d g = addS T z a b d g := by
  unfold F_Query_add addS
  have n : ∀ (S : Nat → Nat → Int32) (k j : Nat) (v : Int32), k ≠ 19 → z_uS S k j v 19 = S 19 := fun S k j v hk => z_uS_ne _ _ _ (by omega)
  simp only [z_let, h, zPut_I hz (show 30 ≤ 2147483648 by omega), n _ 21 _ _ (by omega), n _ 22 _ _ (by omega), n _ 23 _ _ (by omega), n _ 24 _ _ (by omega), zI_succ]
theorem ends_L {X : zTx} {p : Nat} : ∀ (b z dep n f : Nat) (T : Nat → Nat → Int32), b ≤ dep → n + b ≤ 30 → 31 ≤ f + n → (∀ j, dep - b ≤ j → j < dep → T 25 j = 33) → (dep = b ∨ T 25 (dep - b - 1) ≠ 33) → zQs X T p z dep false →
    ∃ V, F_Query_ends_L29 f T (zI n) = V ∧ Sf_Query_ends_L29 f T (zI n) ∧ zQs X V p (z + b) (dep - b) false ∧ (∀ d, zFq z d T V) ∧ ∀ j, z ≤ j → j < z + b → V 21 j = 33 ∧ V 22 j = 0 := by
  intro b
  induction b with
  | zero =>
    intro z dep n f T hb hn hf h1 h2 hQ
    obtain ⟨f, rfl⟩ : ∃ g, f = g + 1 := ⟨f - 1, by omega⟩
    have e : F_Query_ends_L29 (f + 1) T (zI n) = T ∧ Sf_Query_ends_L29 (f + 1) T (zI n) := by
      unfold F_Query_ends_L29 Sf_Query_ends_L29
      by_cases q : (30 : Int32) ≤ zI n
      · rw [if_pos q, if_pos q]; exact ⟨rfl, trivial⟩
      · rw [if_neg q, if_neg q, hQ.2.2.1]
        have hd30 : dep ≤ 30 := by have := hQ.2.2.2.2; have := hQ.1.2.2.2; omega
        by_cases q0 : dep = 0
        · have : zI dep ≤ 0 := by rw [show (0 : Int32) = zI 0 from rfl, zI_le (by omega) (by omega)]; omega
          rw [if_pos this, if_pos this]; exact ⟨rfl, trivial⟩
        · have : ¬ zI dep ≤ 0 := by rw [show (0 : Int32) = zI 0 from rfl, zI_le (by omega) (by omega)]; omega
          rw [if_neg this, if_neg this]
          have e1 : zI dep - 1 = zI (dep - 1) := by rw [show (1 : Int32) = zI 1 from rfl, zI_sub (by omega) (by omega)]
          rw [e1, zAt_I (by omega) (by omega)]
          have n33 : ¬ T 25 (dep - 1) = 33 := by
            rcases h2 with h2 | h2
            · omega
            · exact h2
          rw [if_neg n33, if_neg n33]; exact ⟨rfl, trivial⟩
    exact ⟨T, e.1, e.2, hQ, fun d => zFq.rfl, fun j h1 h2 => by omega⟩
  | succ b ih =>
    intro z dep n f T hb hn hf h1 h2 hQ
    obtain ⟨f, rfl⟩ : ∃ g, f = g + 1 := ⟨f - 1, by omega⟩
    obtain ⟨hS, h8, h9, h11, hzd⟩ := hQ
    have hp30 : p ≤ 30 := by have := hS.2.2.2; omega
    have n30 : ¬ (30 : Int32) ≤ zI n := by rw [show (30 : Int32) = zI 30 from rfl, zI_le (by omega) (by omega)]; omega
    have nd : ¬ zI dep ≤ 0 := by rw [show (0 : Int32) = zI 0 from rfl, zI_le (by omega) (by omega)]; omega
    have e1 : zI dep - 1 = zI (dep - 1) := by rw [show (1 : Int32) = zI 1 from rfl, zI_sub (by omega) (by omega)]
    have e33 : zAt (T 25) 30 (zI dep - 1) = 33 := by rw [e1, zAt_I (by omega) (by omega)]; exact h1 (dep - 1) (by omega) (by omega)
    have ea := add_I h8 (show z < 30 by omega) 33 0 0 0
    have f9 : addS T z 33 0 0 0 19 9 = zI dep := by rw [addS_19 _ _ _ _ _ _ (by omega)]; exact h9
    generalize hV : z_uS (addS T z 33 0 0 0) 19 9 (zI (dep - 1)) = V
    have hfq : ∀ d, zFq z d T V := fun d => by rw [← hV]; exact (addS_fq T z d 33 0 0 0).trans (zFq.f (by omega) _ _) (Nat.le_refl _) (Nat.le_refl _)
    have hV19 : ∀ j, j ≠ 8 → j ≠ 9 → V 19 j = T 19 j := fun j a b => by rw [← hV, uS_nj _ _ _ b, addS_19 _ _ _ _ _ _ a]
    have hV25 : V 25 = T 25 := by rw [← hV, z_uS_ne _ _ _ (by omega), addS_o _ _ _ _ _ _ (by omega)]
    have hQ2 : zQs X V p (z + 1) (dep - 1) false := ⟨hS.fq (hfq 0) (by rw [hV19 10 (by omega) (by omega)]; exact hS.2.1) hS.2.2.2.2, by rw [← hV, uS_nj _ _ _ (by omega), addS_8], by rw [← hV, uS_at], by rw [hV19 11 (by omega) (by omega)]; exact h11, by omega⟩
    obtain ⟨W, w1, w2, w3, w4, w5⟩ := ih (z + 1) (dep - 1) (n + 1) f V (by omega) (by omega) (by omega) (fun j j1 j2 => by rw [hV25]; exact h1 j (by omega) (by omega)) (by
      rcases h2 with h2 | h2
      · exact Or.inl (by omega)
      · refine Or.inr ?_
        rw [hV25, show dep - 1 - b - 1 = dep - (b + 1) - 1 by omega]; exact h2) hQ2
    refine ⟨W, ?_, ?_, ?_, fun d => (hfq d).trans (w4 d) (by omega) (Nat.le_refl _), fun j j1 j2 => ?_⟩
    · unfold F_Query_ends_L29
      rw [if_neg n30, h9, if_neg nd, if_pos e33]
      simp only [z_let, ea, f9, e1, hV, zI_succ]
      exact w1
    · unfold Sf_Query_ends_L29
      rw [if_neg n30, h9, if_neg nd, if_pos e33]
      simp only [z_let, ea, f9, e1, hV, zI_succ]
      exact w2
    · rw [show z + (b + 1) = z + 1 + b by omega, show dep - (b + 1) = dep - 1 - b by omega]; exact w3
    · by_cases q : j = z
      · subst q
        rw [(w4 0).2.2.1 21 (by omega) j (by omega), (w4 0).2.2.1 22 (by omega) j (by omega), ← hV, z_uS_ne _ _ _ (by omega), z_uS_ne _ _ _ (by omega)]
        exact ⟨(addS_at T j 33 0 0 0).1, (addS_at T j 33 0 0 0).2.1⟩
      · exact w5 j (by omega) (by omega)
/-- a part ends, and with it those that only deny it -/
theorem T_ends_I {X : zTx} {T : Nat → Nat → Int32} {p z dep nb : Nat} (hS : zSc X T p) (h8 : T 19 8 = zI z) (h9 : T 19 9 = zI dep) (hzd : z + 1 + dep ≤ p) (hnb : nb ≤ dep) (h1 : ∀ j, dep - nb ≤ j → j < dep → T 25 j = 33) (h2 : dep = nb ∨ T 25 (dep - nb - 1) ≠ 33) {a b d g : Int32} (hb : b ≠ -1) (hd : d ≠ -1) :
    ∃ V, F_Query_ends T a b d g = (1, V) ∧ Sf_Query_ends T a b d g ∧ zQs X V p (z + 1 + nb) (dep - nb) false ∧ (∀ d, zFq z d T V) ∧ (V 21 z = a ∧ V 22 z = b ∧ V 23 z = d ∧ V 24 z = g) ∧ ∀ j, z < j → j < z + 1 + nb → V 21 j = 33 ∧ V 22 j = 0 := by
  have hp30 : p ≤ 30 := by have := hS.2.2.2; omega
  have ea := add_I h8 (show z < 30 by omega) a b d g
  generalize hV : z_uS (addS T z a b d g) 19 11 0 = V
  have hfq : ∀ e, zFq z e T V := fun e => by rw [← hV]; exact (addS_fq T z e a b d g).trans (zFq.f (by omega) _ _) (Nat.le_refl _) (Nat.le_refl _)
  have hV19 : ∀ j, j ≠ 8 → j ≠ 11 → V 19 j = T 19 j := fun j a b => by rw [← hV, uS_nj _ _ _ b, addS_19 _ _ _ _ _ _ a]
  have hV25 : V 25 = T 25 := by rw [← hV, z_uS_ne _ _ _ (by omega), addS_o _ _ _ _ _ _ (by omega)]
  have hQ2 : zQs X V p (z + 1) dep false := ⟨hS.fq (hfq 0) (by rw [hV19 10 (by omega) (by omega)]; exact hS.2.1) hS.2.2.2.2, by rw [← hV, uS_nj _ _ _ (by omega), addS_8], by rw [hV19 9 (by omega) (by omega)]; exact h9, by rw [← hV, uS_at]; rfl, hzd⟩
  obtain ⟨W, w1, w2, w3, w4, w5⟩ := ends_L nb (z + 1) dep 0 1300 V hnb (by omega) (by omega) (by rw [hV25]; exact h1) (by rw [hV25]; exact h2) hQ2
  rw [zI_0] at w1 w2
  have at4 : ∀ k, 21 ≤ k ∧ k ≤ 24 → W k z = addS T z a b d g k z := fun k hk => by rw [(w4 0).2.2.1 k hk z (by omega), ← hV, z_uS_ne _ _ _ (by omega)]
  obtain ⟨a1, a2, a3, a4⟩ := addS_at T z a b d g
  refine ⟨W, ?_, ?_, w3, fun e => (hfq e).trans (w4 e) (by omega) (Nat.le_refl _), ⟨by rw [at4 21 (by omega)]; exact a1, by rw [at4 22 (by omega)]; exact a2, by rw [at4 23 (by omega)]; exact a3, by rw [at4 24 (by omega)]; exact a4⟩, fun j j1 j2 => w5 j (by omega) (by omega)⟩
  · unfold F_Query_ends
    rw [if_neg hb, if_neg hd]
    simp only [z_let, ea, hV, w1]
  · unfold Sf_Query_ends
    rw [if_neg hb, if_neg hd]
    simp only [z_let, ea, hV]
    exact ⟨w2, trivial⟩
