/-! PURE: logs, and the worlds that they make -/
theorem zUnd_cong {w w' : zWd} (h : zSame w w') (e : zEnt) : zSame (zUnd e w) (zUnd e w') := by
  obtain ⟨h1, h2, h3, h4⟩ := h
  have con : ∀ (w w' : zWd), (∀ t, t < 3 → ∀ i, i < 30 → ∀ j, j < 30 → w'.2.2.1 t i j = w.2.2.1 t i j) → ∀ t0 i0 j0 b, ∀ t, t < 3 → ∀ i, i < 30 → ∀ j, j < 30 → (zCon w' t0 i0 j0 b).2.2.1 t i j = (zCon w t0 i0 j0 b).2.2.1 t i j := by
    intro w w' hh t0 i0 j0 b t ht i hi j hj
    show (if t = t0 ∧ i = i0 ∧ j = j0 then b else w'.2.2.1 t i j) = (if t = t0 ∧ i = i0 ∧ j = j0 then b else w.2.2.1 t i j)
    rw [hh t ht i hi j hj]
  unfold zUnd
  by_cases t0 : e.1 = 0
  · simp only [if_pos t0]
    refine ⟨h1, h2, h3, fun k hk => ?_⟩
    show (if k = _ then _ else w'.2.2.2 k) = (if k = _ then _ else w.2.2.2 k)
    rw [h4 k hk]
  by_cases t1 : e.1 = 1
  · simp only [if_neg t0, if_pos t1]
    refine ⟨fun i hi => ?_, fun i hi hw c hc => ?_, h3, h4⟩
    · show (if i = _ then false else w'.1 i) = (if i = _ then false else w.1 i)
      rw [h1 i hi]
    · have hw' : (if i = e.2.1 then false else w.1 i) = true := hw
      by_cases q : i = e.2.1
      · rw [if_pos q] at hw'; cases hw'
      · rw [if_neg q] at hw'
        exact h2 i hi hw' c hc
  by_cases t2 : e.1 = 2
  · simp only [if_neg t0, if_neg t1, if_pos t2]
    refine ⟨h1, fun i hi hw c hc => ?_, h3, h4⟩
    show (if _ then _ else w'.2.1 i c) = (if _ then _ else w.2.1 i c)
    rw [h2 i hi hw c hc]
  · simp only [if_neg t0, if_neg t1, if_neg t2]
    unfold zSetL
    by_cases b1 : e.2.2.1 = 1
    · simp only [if_pos b1]
      exact ⟨h1, h2, con _ _ (con _ _ h3 _ _ _ _) _ _ _ _, h4⟩
    · simp only [if_neg b1]
      exact ⟨h1, h2, con _ _ h3 _ _ _ _, h4⟩
theorem zOld_same {e : zEnt} {w w' : zWd} (he : zEok e) (h : zSame w w') (ho : zOld e w) : zOld e w' := by
  obtain ⟨h1, h2, h3, h4⟩ := h
  obtain ⟨o0, o1, o2, o3⟩ := ho
  rcases he with ⟨t0, ha, hb⟩ | ⟨t0, ha, hb, hcc⟩ | ⟨t0, ha, hb⟩ | ⟨t0, ha, hb, hcc, hne, ⟨ob, ho⟩, ⟨nb, hn⟩⟩
  · refine ⟨fun t => ?_, fun t => by omega, fun t => by omega, fun t => by omega⟩
    rw [h4 _ (by omega)]; exact o0 t
  · refine ⟨fun t => by omega, fun t => ?_, fun t => by omega, fun t => by omega⟩
    rw [h1 _ (by omega)]; exact o1 t
  · refine ⟨fun t => by omega, fun t => by omega, fun t => ?_, fun t => by omega⟩
    obtain ⟨q1, q2⟩ := o2 t
    exact ⟨by rw [h1 _ (by omega)]; exact q1, by rw [h2 _ (by omega) q1 _ (by omega)]; exact q2⟩
  · refine ⟨fun t => by omega, fun t => by omega, fun t => by omega, fun t => ?_⟩
    obtain ⟨q1, q2⟩ := o3 t
    exact ⟨by rw [h3 _ (by omega) _ (by omega) _ (by omega)]; exact q1, fun b => by rw [h3 _ (by omega) _ (by omega) _ (by omega), h3 _ (by omega) _ (by omega) _ (by omega)]; exact q2 b⟩
/-- entries, their days, by whom -/
abbrev zLg := Nat → zEnt × Nat × Nat
def zRep (L : zLg) : Nat → zWd
  | 0 => zEmpty
  | n + 1 => zApp (L n).1 (zRep L n)
/-- how many items were made -/
def zCnt (L : zLg) : Nat → Nat
  | 0 => 0
  | n + 1 => if (L n).1.1 = 1 then (L n).1.2.1 + 1 else zCnt L n
theorem zCnt_s (L : zLg) (n : Nat) : zCnt L (n + 1) = if (L n).1.1 = 1 then (L n).1.2.1 + 1 else zCnt L n := rfl
def zLgC (L : zLg) (n : Nat) (S : Nat → Nat → Int32) : Prop := S 1 7 = zI n ∧ ∀ i, i < n → zLC S i (L i).1 ∧ S 2 i = zI (L i).2.1 ∧ S 3 i = zI (L i).2.2
theorem zLgC.size {L : zLg} {n : Nat} {S : Nat → Nat → Int32} (h : zLgC L n S) : S 1 7 = zI n := h.1
theorem zLgC.ent {L : zLg} {n : Nat} {S : Nat → Nat → Int32} (h : zLgC L n S) : ∀ i, i < n → zLC S i (L i).1 := fun i hi => (h.2 i hi).1
def zLgM (L : zLg) (n : Nat) (U : Nat → Nat → Int32) : Prop := U 78 2 = zI n ∧ ∀ i, i < n → zLM U i (L i).1 ∧ U 80 i = zI (L i).2.1 ∧ U 81 i = zI (L i).2.2
theorem zLgM.size {L : zLg} {n : Nat} {U : Nat → Nat → Int32} (h : zLgM L n U) : U 78 2 = zI n := h.1
theorem zLgM.ent {L : zLg} {n : Nat} {U : Nat → Nat → Int32} (h : zLgM L n U) : ∀ i, i < n → zLM U i (L i).1 := fun i hi => (h.2 i hi).1
def zLgW (L : zLg) (n : Nat) : Prop := ∀ i, i < n → zEok (L i).1 ∧ zOld (L i).1 (zRep L i) ∧ ((L i).1.1 = 1 → (L i).1.2.1 = zCnt L i) ∧ (L i).2.1 ≤ 400 ∧ (L i).2.2 < 8
theorem zLgC.ag {L : zLg} {n : Nat} {S S' : Nat → Nat → Int32} (h : zLgC L n S) (e1 : S' 1 7 = S 1 7) (e : ∀ k, 2 ≤ k → k ≤ 8 → S' k = S k) : zLgC L n S' := by
  refine ⟨by rw [e1]; exact h.1, fun i hi => ?_⟩
  unfold zLC
  rw [e 2 (by omega) (by omega), e 3 (by omega) (by omega), e 4 (by omega) (by omega), e 5 (by omega) (by omega), e 6 (by omega) (by omega), e 7 (by omega) (by omega), e 8 (by omega) (by omega)]
  exact h.2 i hi
theorem zLgM.ag {L : zLg} {n : Nat} {S S' : Nat → Nat → Int32} (h : zLgM L n S) (e1 : S' 78 2 = S 78 2) (e : ∀ k, 79 ≤ k → k ≤ 85 → S' k = S k) : zLgM L n S' := by
  refine ⟨by rw [e1]; exact h.1, fun i hi => ?_⟩
  unfold zLM
  rw [e 79 (by omega) (by omega), e 80 (by omega) (by omega), e 81 (by omega) (by omega), e 82 (by omega) (by omega), e 83 (by omega) (by omega), e 84 (by omega) (by omega), e 85 (by omega) (by omega)]
  exact h.2 i hi
theorem zLgW.le {L : zLg} {n m : Nat} (h : zLgW L n) (hm : m ≤ n) : zLgW L m := fun i hi => h i (by omega)
theorem zApp_there {e : zEnt} {w : zWd} {q : Nat} : (zApp e w).1 q = if e.1 = 1 ∧ q = e.2.1 then true else w.1 q := by
  unfold zApp
  by_cases t0 : e.1 = 0
  · rw [if_pos t0, if_neg (by omega)]; rfl
  by_cases t1 : e.1 = 1
  · rw [if_neg t0, if_pos t1]
    show (if q = e.2.1 then true else w.1 q) = _
    by_cases h : q = e.2.1
    · rw [if_pos h, if_pos ⟨t1, h⟩]
    · rw [if_neg h, if_neg (fun g => h g.2)]
  by_cases t2 : e.1 = 2
  · rw [if_neg t0, if_neg t1, if_pos t2, if_neg (by omega)]; rfl
  · rw [if_neg t0, if_neg t1, if_neg t2, if_neg (by omega)]
    unfold zSetL
    split <;> rfl
theorem zRep_there {L : zLg} {n : Nat} (h : zLgW L n) : ∀ m, m ≤ n → (∀ q, (zRep L m).1 q = decide (q < zCnt L m)) ∧ zCnt L m ≤ 30 := by
  intro m
  induction m with
  | zero => intro _; exact ⟨fun q => by simp [zRep, zEmpty, zCnt], by simp [zCnt]⟩
  | succ m ih =>
    intro hm
    obtain ⟨i1, i2⟩ := ih (by omega)
    obtain ⟨g1, g2, g3, g4⟩ := h m (by omega)
    constructor
    · intro q
      show (zApp (L m).1 (zRep L m)).1 q = _
      rw [zApp_there, i1 q, zCnt_s]
      by_cases t1 : (L m).1.1 = 1
      · have ha := g3 t1
        rw [if_pos t1]
        by_cases hq : q = (L m).1.2.1
        · rw [if_pos ⟨t1, hq⟩]; simp; omega
        · rw [if_neg (fun g => hq g.2)]
          simp only [decide_eq_decide]
          omega
      · rw [if_neg (fun g => t1 g.1), if_neg t1]
    · rw [zCnt_s]
      split
      · rcases g1 with g | g | g | g <;> omega
      · exact i2
/-! the reference makes a world anew -/
theorem MW_empty_L7' {w : Nat} : ∀ (n i f : Nat) (S : Nat → Nat → Int32), i + n = 30 → n < f →
    ∃ V, F_MW_empty_L7 w f S (zI i) = V ∧ Sf_MW_empty_L7 w f S (zI i) ∧ (∀ k, k ≠ w + 9 → V k = S k) ∧ ∀ j, V (w + 9) j = if i ≤ j ∧ j < 30 then 0 else S (w + 9) j := by
  intro n
  induction n with
  | zero =>
    intro i f S hi hf
    obtain ⟨f, rfl⟩ : ∃ g, f = g + 1 := ⟨f - 1, by omega⟩
    have hl : (30 : Int32) ≤ zI i := by rw [show (30 : Int32) = zI 30 from rfl, zI_le (by omega) (by omega)]; omega
    refine ⟨S, ?_, ?_, fun _ _ => rfl, fun j => by rw [if_neg (by omega)]⟩
    · unfold F_MW_empty_L7; rw [if_pos hl]
    · unfold Sf_MW_empty_L7; rw [if_pos hl]; trivial
  | succ n ih =>
    intro i f S hi hf
    obtain ⟨f, rfl⟩ : ∃ g, f = g + 1 := ⟨f - 1, by omega⟩
    have hl : ¬ (30 : Int32) ≤ zI i := by rw [show (30 : Int32) = zI 30 from rfl, zI_le (by omega) (by omega)]; omega
    obtain ⟨V, v1, v2, v3, v4⟩ := ih (i + 1) f (z_uS S (w + 9) i 0) (by omega) (by omega)
    refine ⟨V, ?_, ?_, fun k hk => by rw [v3 k hk, z_uS_ne _ _ _ hk], fun j => ?_⟩
    · unfold F_MW_empty_L7; rw [if_neg hl, zI_succ, zI_clamp (by omega), nar_0]; exact v1
    · unfold Sf_MW_empty_L7; rw [if_neg hl, zI_succ, zI_clamp (by omega), nar_0]; exact ⟨vp_in_I (by omega) (by omega), v2⟩
    · rw [v4 j]
      by_cases hj : j = i
      · subst hj; rw [if_neg (by omega), if_pos (by omega), uS_at]
      · rw [uS_nj _ _ _ hj]
        by_cases hj2 : i + 1 ≤ j ∧ j < 30
        · rw [if_pos hj2, if_pos (by omega)]
        · rw [if_neg hj2, if_neg (by omega)]
theorem MW_empty_L28' {w : Nat} : ∀ (n i f : Nat) (S : Nat → Nat → Int32), i + n = 2700 → n < f →
    ∃ V, F_MW_empty_L28 w f S (zI i) = V ∧ Sf_MW_empty_L28 w f S (zI i) ∧ (∀ k, k ≠ w + 10 → V k = S k) ∧ ∀ j, V (w + 10) j = if i ≤ j ∧ j < 2700 then 0 else S (w + 10) j := by
  intro n
  induction n with
  | zero =>
    intro i f S hi hf
    obtain ⟨f, rfl⟩ : ∃ g, f = g + 1 := ⟨f - 1, by omega⟩
    have hl : (2700 : Int32) ≤ zI i := by rw [show (2700 : Int32) = zI 2700 from rfl, zI_le (by omega) (by omega)]; omega
    refine ⟨S, ?_, ?_, fun _ _ => rfl, fun j => by rw [if_neg (by omega)]⟩
    · unfold F_MW_empty_L28; rw [if_pos hl]
    · unfold Sf_MW_empty_L28; rw [if_pos hl]; trivial
  | succ n ih =>
    intro i f S hi hf
    obtain ⟨f, rfl⟩ : ∃ g, f = g + 1 := ⟨f - 1, by omega⟩
    have hl : ¬ (2700 : Int32) ≤ zI i := by rw [show (2700 : Int32) = zI 2700 from rfl, zI_le (by omega) (by omega)]; omega
    obtain ⟨V, v1, v2, v3, v4⟩ := ih (i + 1) f (z_uS S (w + 10) i 0) (by omega) (by omega)
    refine ⟨V, ?_, ?_, fun k hk => by rw [v3 k hk, z_uS_ne _ _ _ hk], fun j => ?_⟩
    · unfold F_MW_empty_L28; rw [if_neg hl, zI_succ, zI_clamp (by omega), nar_0]; exact v1
    · unfold Sf_MW_empty_L28; rw [if_neg hl, zI_succ, zI_clamp (by omega), nar_0]; exact ⟨vp_in_I (by omega) (by omega), v2⟩
    · rw [v4 j]
      by_cases hj : j = i
      · subst hj; rw [if_neg (by omega), if_pos (by omega), uS_at]
      · rw [uS_nj _ _ _ hj]
        by_cases hj2 : i + 1 ≤ j ∧ j < 2700
        · rw [if_pos hj2, if_pos (by omega)]
        · rw [if_neg hj2, if_neg (by omega)]
theorem MW_empty_L50' {w : Nat} : ∀ (n i f : Nat) (S : Nat → Nat → Int32), i + n = 24 → n < f →
    ∃ V, F_MW_empty_L50 w f S (zI i) = V ∧ Sf_MW_empty_L50 w f S (zI i) ∧ (∀ k, k ≠ w + 11 → V k = S k) ∧ ∀ j, V (w + 11) j = if i ≤ j ∧ j < 24 then 0 else S (w + 11) j := by
  intro n
  induction n with
  | zero =>
    intro i f S hi hf
    obtain ⟨f, rfl⟩ : ∃ g, f = g + 1 := ⟨f - 1, by omega⟩
    have hl : (24 : Int32) ≤ zI i := by rw [show (24 : Int32) = zI 24 from rfl, zI_le (by omega) (by omega)]; omega
    refine ⟨S, ?_, ?_, fun _ _ => rfl, fun j => by rw [if_neg (by omega)]⟩
    · unfold F_MW_empty_L50; rw [if_pos hl]
    · unfold Sf_MW_empty_L50; rw [if_pos hl]; trivial
  | succ n ih =>
    intro i f S hi hf
    obtain ⟨f, rfl⟩ : ∃ g, f = g + 1 := ⟨f - 1, by omega⟩
    have hl : ¬ (24 : Int32) ≤ zI i := by rw [show (24 : Int32) = zI 24 from rfl, zI_le (by omega) (by omega)]; omega
    obtain ⟨V, v1, v2, v3, v4⟩ := ih (i + 1) f (z_uS S (w + 11) i 0) (by omega) (by omega)
    refine ⟨V, ?_, ?_, fun k hk => by rw [v3 k hk, z_uS_ne _ _ _ hk], fun j => ?_⟩
    · unfold F_MW_empty_L50; rw [if_neg hl, zI_succ, zI_clamp (by omega)]; exact v1
    · unfold Sf_MW_empty_L50; rw [if_neg hl, zI_succ, zI_clamp (by omega)]; exact ⟨vp_in_I (by omega) (by omega), v2⟩
    · rw [v4 j]
      by_cases hj : j = i
      · subst hj; rw [if_neg (by omega), if_pos (by omega), uS_at]
      · rw [uS_nj _ _ _ hj]
        by_cases hj2 : i + 1 ≤ j ∧ j < 24
        · rw [if_pos hj2, if_pos (by omega)]
        · rw [if_neg hj2, if_neg (by omega)]
theorem MW_empty_I {b : Nat} (U : Nat → Nat → Int32) : ∃ V, F_MW_empty b U = V ∧ Sf_MW_empty b U ∧ zWM b V zEmpty ∧ (∀ k, (k < b ∨ b + 11 < k) → V k = U k) ∧ (∀ j, j ≠ 0 → V b j = U b j) ∧ V b 0 = zI 0 := by
  obtain ⟨A, a1, a2, a3, a4⟩ := MW_empty_L7' (w := b) 30 0 3000 (z_uS U b 0 0) (by omega) (by omega)
  obtain ⟨B, b1, b2, b3, b4⟩ := MW_empty_L28' (w := b) 2700 0 3000 A (by omega) (by omega)
  obtain ⟨C, c1, c2, c3, c4⟩ := MW_empty_L50' (w := b) 24 0 3000 B (by omega) (by omega)
  rw [zI_0] at a1 a2 b1 b2 c1 c2
  refine ⟨C, ?_, ?_, ⟨fun i hi => ?_, fun i hi hw => absurd hw (by simp [zEmpty]), fun t ht i hi j hj => ?_, fun k hk => ?_⟩, fun k hk => ?_, fun j hj => ?_, ?_⟩
  · unfold F_MW_empty; simp only [a1, b1, c1]
  · unfold Sf_MW_empty; simp only [a1, b1]; exact ⟨a2, b2, c2, trivial⟩
  · rw [c3 _ (by omega), b3 _ (by omega), a4, if_pos (by omega)]; rfl
  · rw [c3 _ (by omega), b4, if_pos (by omega)]; rfl
  · rw [c4, if_pos (by omega)]; rfl
  · rw [c3 _ (by omega), b3 _ (by omega), a3 _ (by omega), z_uS_ne _ _ _ (by omega)]
  · rw [c3 _ (by omega), b3 _ (by omega), a3 _ (by omega), uS_nj _ _ _ hj]
  · rw [c3 _ (by omega), b3 _ (by omega), a3 _ (by omega), uS_at]; rfl
theorem M_does_I {b i : Nat} {U : Nat → Nat → Int32} {w : zWd} (h : zWM b U w) (hi : i < 1200) {e : zEnt} (hl : zLM U i e) (he : zEok e) : ∃ V, F_M_does b U (zI i) = V ∧ Sf_M_does b U (zI i) ∧ zWM b V (zApp e w) ∧ (∀ k, (k < b ∨ b + 11 < k) → V k = U k) ∧ (∀ j, j ≠ 0 → V b j = U b j) ∧ V b 0 = if e.1 = 1 then (if zI e.2.1 < U b 0 then U b 0 else zI (e.2.1 + 1)) else U b 0 := by
  obtain ⟨l1, l2, l3, l4, l5⟩ := hl
  obtain ⟨V, v1, v2, v3⟩ := MW_does_I h he
  have vin : vp_in (zI i) 1200 := vp_in_I hi (by omega)
  refine ⟨V, ?_, ?_, v3⟩
  · unfold F_M_does; simp only [z_let, zI_clamp (show i < 2147483648 by omega), l1, l2, l3, l4, l5]; exact v1
  · unfold Sf_M_does; simp only [zI_clamp (show i < 2147483648 by omega), l1, l2, l3, l4, l5]; exact ⟨vin, vin, vin, vin, vin, v2, trivial⟩
theorem M_remake_L {b m : Nat} {L : zLg} (hb : 86 ≤ b) (hW : zLgW L m) (hm : m ≤ 1200) : ∀ (n i f : Nat) (U : Nat → Nat → Int32), i + n = m → n < f → zWM b U (zRep L i) → U b 0 = zI (zCnt L i) → (∀ j, j < m → zLM U j (L j).1) →
    ∃ V, F_M_remake_L6 b (zI m) f U (zI i) = V ∧ Sf_M_remake_L6 b (zI m) f U (zI i) ∧ zWM b V (zRep L m) ∧ V b 0 = zI (zCnt L m) ∧ (∀ k, (k < b ∨ b + 11 < k) → V k = U k) ∧ ∀ j, j ≠ 0 → V b j = U b j := by
  intro n
  induction n with
  | zero =>
    intro i f U hi hf hw hc hL
    obtain ⟨f, rfl⟩ : ∃ g, f = g + 1 := ⟨f - 1, by omega⟩
    have e : i = m := by omega
    subst e
    have hl : zI i ≤ zI i := by rw [zI_le (by omega) (by omega)]; omega
    refine ⟨U, ?_, ?_, hw, hc, fun _ _ => rfl, fun _ _ => rfl⟩
    · unfold F_M_remake_L6; rw [if_pos hl]
    · unfold Sf_M_remake_L6; rw [if_pos hl]; trivial
  | succ n ih =>
    intro i f U hi hf hw hc hL
    obtain ⟨f, rfl⟩ : ∃ g, f = g + 1 := ⟨f - 1, by omega⟩
    have hl : ¬ zI m ≤ zI i := by rw [zI_le (by omega) (by omega)]; omega
    obtain ⟨g1, g2, g3, g4⟩ := hW i (by omega)
    obtain ⟨A, a1, a2, a3, a4, a5, a6⟩ := M_does_I hw (by omega) (hL i (by omega)) g1
    have hcn : A b 0 = zI (zCnt L (i + 1)) := by
      rw [a6, hc, zCnt_s]
      by_cases t1 : (L i).1.1 = 1
      · have := g3 t1
        have := (zRep_there hW i (by omega)).2
        rw [if_pos t1, if_pos t1, if_neg]
        rw [zI_lt (by omega) (by omega)]; omega
      · rw [if_neg t1, if_neg t1]
    obtain ⟨V, v1, v2, v3, v4, v5, v6⟩ := ih (i + 1) f A (by omega) (by omega) a3 hcn (fun j hj => by
      have := hL j hj
      unfold zLM at this ⊢
      rw [a4 _ (by omega), a4 _ (by omega), a4 _ (by omega), a4 _ (by omega), a4 _ (by omega)]
      exact this)
    refine ⟨V, ?_, ?_, v3, v4, fun k hk => by rw [v5 k hk, a4 k hk], fun j hj => by rw [v6 j hj, a5 j hj]⟩
    · unfold F_M_remake_L6; simp only [if_neg hl, z_let, a1, zI_succ]; exact v1
    · unfold Sf_M_remake_L6; simp only [if_neg hl, z_let, a1, zI_succ]; exact ⟨a2, v2⟩
theorem M_remake_I {b m : Nat} {L : zLg} (hb : 86 ≤ b) (hW : zLgW L m) (hm : m ≤ 1200) {U : Nat → Nat → Int32} (hL : ∀ j, j < m → zLM U j (L j).1) : ∃ V, F_M_remake b U (zI m) = V ∧ Sf_M_remake b U (zI m) ∧ zWM b V (zRep L m) ∧ V b 0 = zI (zCnt L m) ∧ (∀ k, (k < b ∨ b + 11 < k) → V k = U k) ∧ ∀ j, j ≠ 0 → V b j = U b j := by
  obtain ⟨A, a1, a2, a3, a4, a5, a6⟩ := MW_empty_I (b := b) U
  obtain ⟨V, v1, v2, v3, v4, v5, v6⟩ := M_remake_L hb hW hm m 0 1300 A (by omega) (by omega) a3 a6 (fun j hj => by
      have := hL j hj
      unfold zLM at this ⊢
      rw [a4 _ (by omega), a4 _ (by omega), a4 _ (by omega), a4 _ (by omega), a4 _ (by omega)]
      exact this)
  rw [zI_0] at v1 v2
  refine ⟨V, ?_, ?_, v3, v4, fun k hk => by rw [v5 k hk, a4 k hk], fun j hj => by rw [v6 j hj, a5 j hj]⟩
  · unfold F_M_remake; simp only [z_let, a1, v1]
  · unfold Sf_M_remake; simp only [z_let, a1]; exact ⟨a2, v2, trivial⟩
