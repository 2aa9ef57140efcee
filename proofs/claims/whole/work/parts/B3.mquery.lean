/-! PURE: queries: the reference reads a query -/
def isUn (c : Int32) : Prop := c = 33 ∨ c = 67 ∨ c = 85 ∨ c = 76 ∨ c = 73
def nCh (V : Nat → Nat → Int32) (j r1 : Nat) : Prop := (isUn (V 186 j) → ∃ l, V 189 j = zI l ∧ j < l ∧ l < r1) ∧ (V 186 j = 40 → (∃ l, V 189 j = zI l ∧ j < l ∧ l < r1) ∧ ∃ l, V 190 j = zI l ∧ j < l ∧ l < r1) ∧ (V 186 j = 102 → (∃ f, f < 4 ∧ V 187 j = zI f) ∧ (V 189 j = 120 ∨ V 189 j = 60 ∨ V 189 j = 61 ∨ V 189 j = 62)) ∧ (V 186 j = 76 ∨ V 186 j = 73 → ∃ t, t < 3 ∧ V 187 j = zI t) ∧ (isUn (V 186 j) ∨ V 186 j = 40 ∨ kd (V 186 j) = 4)
theorem isUn_dec (c : Int32) : isUn c ∨ ¬ isUn c := Classical.em _
/-- what a node says, by what its parts say -/
noncomputable def nLoc (M : zKm) (V : Nat → Nat → Int32) (H : Nat → Nat → Bool) (j : Nat) : Nat → Bool :=
  @ite _ (isUn (V 186 j)) (Classical.propDecidable _) (M.2.1 (V 186 j) (V 187 j) (H (V 189 j).toNatClampNeg)) (if V 186 j = 40 then M.2.2 (V 187 j) (H (V 189 j).toNatClampNeg) (H (V 190 j).toNatClampNeg) else M.1 (V 186 j) (V 187 j) (V 188 j) (V 189 j))
theorem nLoc_un {M : zKm} {V : Nat → Nat → Int32} {H : Nat → Nat → Bool} {j : Nat} (h : isUn (V 186 j)) : nLoc M V H j = M.2.1 (V 186 j) (V 187 j) (H (V 189 j).toNatClampNeg) := by
  unfold nLoc; exact if_pos h
theorem nLoc_pr {M : zKm} {V : Nat → Nat → Int32} {H : Nat → Nat → Bool} {j : Nat} (h : V 186 j = 40) : nLoc M V H j = M.2.2 (V 187 j) (H (V 189 j).toNatClampNeg) (H (V 190 j).toNatClampNeg) := by
  have n : ¬ isUn (V 186 j) := by rw [h]; unfold isUn; decide
  unfold nLoc; rw [if_neg n, if_pos h]
theorem nLoc_lf {M : zKm} {V : Nat → Nat → Int32} {H : Nat → Nat → Bool} {j : Nat} (h : ¬ isUn (V 186 j)) (h2 : V 186 j ≠ 40) : nLoc M V H j = M.1 (V 186 j) (V 187 j) (V 188 j) (V 189 j) := by
  unfold nLoc; rw [if_neg h, if_neg h2]
/-- nodes that say a meaning -/
def zTr (M : zKm) (V : Nat → Nat → Int32) (r r1 : Nat) (m : Nat → Bool) : Prop := (∀ j, r ≤ j → j < r1 → nCh V j r1) ∧ ∀ H : Nat → Nat → Bool, (∀ j, r ≤ j → j < r1 → H j = nLoc M V H j) → H r = m
theorem nCh.eq {V W : Nat → Nat → Int32} {j r1 : Nat} (h : nCh V j r1) (e : ∀ k, 186 ≤ k ∧ k ≤ 190 → W k j = V k j) : nCh W j r1 := by
  unfold nCh
  rw [e 186 (by omega), e 187 (by omega), e 189 (by omega), e 190 (by omega)]; exact h
theorem nCh.le {V : Nat → Nat → Int32} {j r1 r2 : Nat} (h : nCh V j r1) (hr : r1 ≤ r2) : nCh V j r2 := by
  refine ⟨fun z => ?_, fun z => ⟨?_, ?_⟩, h.2.2.1, h.2.2.2⟩
  · obtain ⟨l, a, b, c⟩ := h.1 z; exact ⟨l, a, b, by omega⟩
  · obtain ⟨l, a, b, c⟩ := (h.2.1 z).1; exact ⟨l, a, b, by omega⟩
  · obtain ⟨l, a, b, c⟩ := (h.2.1 z).2; exact ⟨l, a, b, by omega⟩
theorem nLoc_eq {M : zKm} {V W : Nat → Nat → Int32} {H : Nat → Nat → Bool} {j : Nat} (e : ∀ k, 186 ≤ k ∧ k ≤ 190 → W k j = V k j) : nLoc M W H j = nLoc M V H j := by
  unfold nLoc
  rw [e 186 (by omega), e 187 (by omega), e 188 (by omega), e 189 (by omega), e 190 (by omega)]
theorem zTr.eq {M : zKm} {V W : Nat → Nat → Int32} {r r1 : Nat} {m : Nat → Bool} (h : zTr M V r r1 m) (e : ∀ k, 186 ≤ k ∧ k ≤ 190 → ∀ j, r ≤ j → j < r1 → W k j = V k j) : zTr M W r r1 m :=
  ⟨fun j a b => (h.1 j a b).eq fun k hk => e k hk j a b, fun H hH => h.2 H fun j a b => (hH j a b).trans (nLoc_eq fun k hk => e k hk j a b)⟩
theorem zTr.un {M : zKm} {V : Nat → Nat → Int32} {r r1 : Nat} {m : Nat → Bool} {c : Int32} (h : zTr M V (r + 1) r1 m) (hr : r + 1 < r1) (hb : r1 ≤ 31) (hc : V 186 r = c) (hu : isUn c) (hl : V 189 r = zI (r + 1)) (ht : c = 76 ∨ c = 73 → ∃ t, t < 3 ∧ V 187 r = zI t) : zTr M V r r1 (M.2.1 c (V 187 r) m) := by
  refine ⟨fun j a b => ?_, fun H hH => ?_⟩
  · by_cases q : j = r
    · subst q
      refine ⟨fun _ => ⟨_, hl, by omega, by omega⟩, fun z => ?_, fun z => ?_, fun z => ht (by rw [← hc]; exact z), Or.inl (by rw [hc]; exact hu)⟩
      · rw [hc] at z; subst z; exact absurd hu (by unfold isUn; decide)
      · rw [hc] at z; subst z; exact absurd hu (by unfold isUn; decide)
    · exact h.1 j (by omega) b
  · have e1 := hH r (Nat.le_refl _) (by omega)
    rw [nLoc_un (by rw [hc]; exact hu), hc, hl, zI_clamp (by omega)] at e1
    rw [e1, h.2 H fun j a b => hH j (by omega) b]
theorem zTr.pr {M : zKm} {V : Nat → Nat → Int32} {r r0 r1 : Nat} {m m2 : Nat → Bool} {s : Int32} (h : zTr M V (r + 1) r0 m) (g : zTr M V r0 r1 m2) (hr : r + 1 < r0) (hr0 : r0 < r1) (hb : r1 ≤ 31) (hc : V 186 r = 40) (hs : V 187 r = s) (hl : V 189 r = zI (r + 1)) (hg : V 190 r = zI r0) : zTr M V r r1 (M.2.2 s m m2) := by
  refine ⟨fun j a b => ?_, fun H hH => ?_⟩
  · by_cases q : j = r
    · subst q
      refine ⟨fun z => ?_, fun _ => ⟨⟨_, hl, by omega, by omega⟩, ⟨_, hg, by omega, by omega⟩⟩, fun z => ?_, fun z => ?_, Or.inr (Or.inl hc)⟩
      · rw [hc] at z; exact absurd z (by unfold isUn; decide)
      · rw [hc] at z; exact absurd z (by decide)
      · rw [hc] at z; exact absurd z (by decide)
    · by_cases q2 : j < r0
      · exact (h.1 j (by omega) q2).le (by omega)
      · exact g.1 j (by omega) b
  · have e1 := hH r (Nat.le_refl _) (by omega)
    rw [nLoc_pr hc, hl, hg, hs, zI_clamp (by omega), zI_clamp (by omega)] at e1
    rw [e1, h.2 H fun j a b => hH j (by omega) (by omega), g.2 H fun j a b => hH j (by omega) b]
theorem zTr.lf {M : zKm} {V : Nat → Nat → Int32} {r : Nat} {m : Nat → Bool} {c : Int32} (hc : V 186 r = c) (hk : kd c = 4) (hm : M.1 c (V 187 r) (V 188 r) (V 189 r) = m) (hf : c = 102 → (∃ f, f < 4 ∧ V 187 r = zI f) ∧ (V 189 r = 120 ∨ V 189 r = 60 ∨ V 189 r = 61 ∨ V 189 r = 62)) : zTr M V r (r + 1) m := by
  have hu : ¬ isUn c := by
    intro z
    rcases z with e | e | e | e | e <;> subst e <;> exact absurd hk (by decide)
  have h40 : c ≠ 40 := by intro e; subst e; exact absurd hk (by decide)
  refine ⟨fun j a b => ?_, fun H hH => ?_⟩
  · have q : j = r := by omega
    subst q
    refine ⟨fun z => absurd (by rw [← hc]; exact z) hu, fun z => absurd (hc.symm.trans z) h40, fun z => hf (hc.symm.trans z), fun z => ?_, Or.inr (Or.inr (by rw [hc]; exact hk))⟩
    rw [hc] at z
    rcases z with e | e <;> subst e <;> exact absurd hk (by decide)
  · have e1 := hH r (Nat.le_refl _) (by omega)
    rw [nLoc_lf (by rw [hc]; exact hu) (by rw [hc]; exact h40), hc, hm] at e1
    exact e1
/-- how the reference goes on -/
def zMr (X : zTx) (M : zKm) (U : Nat → Nat → Int32) (r : Nat) (F : Int32 × (Nat → Nat → Int32)) (sF : Prop) (res : zRs) : Prop := match res with
  | .inl e => ∃ x V, F = (x, V) ∧ sF ∧ V 78 53 = zI e ∧ e ≤ X.2 ∧ (∃ p', zMs X V p') ∧ zFm r U V
  | .inr (q, m) => ∃ V r1, F = (zI r, V) ∧ sF ∧ zMq X V q r1 ∧ r < r1 ∧ zFm r U V ∧ zTr M V r r1 m
theorem zMe_w {X : zTx} {V : Nat → Nat → Int32} {p e : Nat} (h : zMs X V p) (h1 : V 78 53 = zI e) (h2 : e ≤ X.2) : V 78 53 ≠ -1 := by
  rw [h1]; exact mE_ne (by have := h.2.2.2.1; omega)
theorem zMq.r {X : zTx} {V : Nat → Nat → Int32} {p r : Nat} (h : zMq X V p r) : r ≤ 30 := by
  have := h.2.2.2; have := h.1.2.2.2; omega
/-- in brackets -/
theorem M_within_I {X : zTx} {M : zKm} {rq : (Nat → Nat → Int32) → Int32 × (Nat → Nat → Int32)} {sq : (Nat → Nat → Int32) → Prop} {res : zRs} {S : Nat → Nat → Int32} {q r : Nat} (hQ : zMq X S q r) (hI : sgn X q = 91 → zMr X M (mP S (q + 1)) r (rq (mP S (q + 1))) (sq (mP S (q + 1))) res) :
    zMr X M S r (F_M_within rq S) (Sf_M_within rq sq S) (if sgn X q = 91 then qThen res (fun q2 m => if sgn X q2 = 93 then .inr (q2 + 1, m) else .inl q2) else .inl q) := by
  obtain ⟨t1, t2⟩ := M_takes_I hQ.1 hQ.2.1 91
  have hX := hQ.1.2.2.2
  by_cases hs : sgn X q = 91
  · rw [if_pos hs] at t1 ⊢
    have hl := sgn_lt hs (by decide)
    have hQ1 := hQ.p (q := q + 1) (by omega) (by omega)
    have hF1 : zFm r S (mP S (q + 1)) := zFm.f (by omega) _ _
    have I := hI hs
    cases res with
    | inl e =>
      obtain ⟨x, V, i1, i2, i3, i4, ⟨p', i5⟩, i6⟩ := I
      obtain ⟨u1, u2⟩ := M_takes_E (zMe_w i5 i3 i4) 93
      refine ⟨x, V, ?_, ?_, i3, i4, ⟨p', i5⟩, hF1.trans i6 (Nat.le_refl _)⟩
      · unfold F_M_within F_M_within_j23
        simp only [t1, if_pos hQ1.2.1, i1, u1]
      · unfold Sf_M_within Sf_M_within_j23
        simp only [t1, if_pos hQ1.2.1, i1]
        exact ⟨t2, i2, u2, trivial⟩
    | inr y =>
      obtain ⟨q2, m⟩ := y
      obtain ⟨V, r1, i1, i2, i3, i4, i5, i6⟩ := I
      obtain ⟨u1, u2⟩ := M_takes_I i3.1 i3.2.1 93
      show zMr X M S r _ _ (if sgn X q2 = 93 then .inr (q2 + 1, m) else .inl q2)
      by_cases hs2 : sgn X q2 = 93
      · rw [if_pos hs2] at u1 ⊢
        have hl2 := sgn_lt hs2 (by decide)
        refine ⟨mP V (q2 + 1), r1, ?_, ?_, i3.p hl2 (by omega), i4, (hF1.trans i5 (Nat.le_refl _)).tf (by omega) _, i6.eq fun k hk j a b => by unfold mP; rw [z_uS_ne _ _ _ (by omega)]⟩
        · unfold F_M_within F_M_within_j23
          simp only [t1, if_pos hQ1.2.1, i1, u1]
        · unfold Sf_M_within Sf_M_within_j23
          simp only [t1, if_pos hQ1.2.1, i1]
          exact ⟨t2, i2, u2, trivial⟩
      · rw [if_neg hs2] at u1 ⊢
        refine ⟨zI r, mE V q2, ?_, ?_, uS_at _ _ _ _, i3.1.2.2.2.2, ⟨q2, i3.1.e _⟩, (hF1.trans i5 (Nat.le_refl _)).tf (by omega) _⟩
        · unfold F_M_within F_M_within_j23
          simp only [t1, if_pos hQ1.2.1, i1, u1]
        · unfold Sf_M_within Sf_M_within_j23
          simp only [t1, if_pos hQ1.2.1, i1]
          exact ⟨t2, i2, u2, trivial⟩
  · rw [if_neg hs] at t1 ⊢
    have w := mE_w S (e := q) (by omega)
    obtain ⟨u1, u2⟩ := M_takes_E w 93
    refine ⟨0, mE S q, ?_, ?_, uS_at _ _ _ _, by omega, ⟨q, hQ.1.e _⟩, zFm.f (by omega) _ _⟩
    · unfold F_M_within F_M_within_j23
      simp only [t1, if_neg w, u1]
    · unfold Sf_M_within Sf_M_within_j23
      simp only [t1, if_neg w]
      exact ⟨t2, u2, trivial⟩
/-- a node about another, from what that one came to -/
theorem zMr.un {X : zTx} {M : zKm} {U S : Nat → Nat → Int32} {r : Nat} {c : Int32} {G : Int32 × (Nat → Nat → Int32)} {sG sF : Prop} {F : Int32 × (Nat → Nat → Int32)} {res : zRs} {f : (Nat → Bool) → Nat → Bool} (I : zMr X M S (r + 1) G sG res) (hF : zFm r U S) (hc : S 186 r = c) (hu : isUn c) (ht : c = 76 ∨ c = 73 → ∃ t, t < 3 ∧ S 187 r = zI t) (hf : ∀ m, M.2.1 c (S 187 r) m = f m) (e : ∀ x V, G = (x, V) → F = (zI r, z_uS V 189 r x)) (es : sG → sF) : zMr X M U r F sF (qThen res (fun q m => .inr (q, f m))) := by
  cases res with
  | inl e' =>
    obtain ⟨x, V, i1, i2, i3, i4, ⟨p', i5⟩, i6⟩ := I
    exact ⟨zI r, z_uS V 189 r x, e x V i1, es i2, by rw [z_uS_ne _ _ _ (by omega)]; exact i3, i4, ⟨p', i5.n (by omega)⟩, (hF.trans i6 (by omega)).ts (by omega) (Nat.le_refl _) _⟩
  | inr y =>
    obtain ⟨q, m⟩ := y
    obtain ⟨V, r1, i1, i2, i3, i4, i5, i6⟩ := I
    have hb := i3.r
    have g := i6.eq (W := z_uS V 189 r (zI (r + 1))) fun k hk j a b => by
      by_cases q : k = 189
      · subst q; exact uS_nj _ _ _ (by omega)
      · rw [z_uS_ne _ _ _ q]
    have e186 : (z_uS V 189 r (zI (r + 1))) 186 r = c := by rw [z_uS_ne _ _ _ (by omega), i5.2.2 186 (by omega) r (by omega)]; exact hc
    have e187 : (z_uS V 189 r (zI (r + 1))) 187 r = S 187 r := by rw [z_uS_ne _ _ _ (by omega), i5.2.2 187 (by omega) r (by omega)]
    have t := g.un i4 (by omega) e186 hu (uS_at _ _ _ _) (by rw [e187]; exact ht)
    rw [e187, hf m] at t
    exact ⟨_, r1, e _ V i1, es i2, i3.n (by omega), by omega, (hF.trans i5 (by omega)).ts (by omega) (Nat.le_refl _) _, t⟩
