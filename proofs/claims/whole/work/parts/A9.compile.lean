/-! PURE: queries: the class's compile -/
/-- from where the loop was to where it is -/
def zLk (T : Nat → Nat → Int32) (f cnt : Nat) (V : Nat → Nat → Int32) (f' cnt' : Nat) : Prop := F_Query_compile_L24 f T 1 (zI cnt) = F_Query_compile_L24 f' V 1 (zI cnt') ∧ (Sf_Query_compile_L24 f' V 1 (zI cnt') → Sf_Query_compile_L24 f T 1 (zI cnt))
theorem zLk.trans {T V W : Nat → Nat → Int32} {f cnt f' cnt' f2 cnt2 : Nat} (h : zLk T f cnt V f' cnt') (g : zLk V f' cnt' W f2 cnt2) : zLk T f cnt W f2 cnt2 := ⟨h.1.trans g.1, fun z => h.2 (g.2 z)⟩
theorem zCc.err {X : zTx} {K : zKm} {p : Nat} {T V : Nat → Nat → Int32} {f cnt z dr nb e : Nat} {w : Int32} (h1 : F_Query_compile_L24 f T 1 (zI cnt) = (w, V)) (h2 : Sf_Query_compile_L24 f T 1 (zI cnt)) (h3 : V 19 10 = zI e) (h4 : e ≤ X.2) (h5 : w = 0 ∨ V 19 11 ≠ 0 ∨ V 19 9 ≠ 0) (h6 : zFq 0 0 T V) : zCc X K p T f cnt z dr nb (.inl e) := ⟨w, V, h1, h2, h3, h4, h5, h6⟩
/-- goes wrong from where the loop is -/
theorem zCc.bad {X : zTx} {K : zKm} {p p2 : Nat} {T V : Nat → Nat → Int32} {f cnt z dr nb f' cnt' z2 dr2 nb2 e : Nat} (L : zLk T f cnt V f' cnt') (g : zFq 0 0 T V) (h : zCc X K p2 V f' cnt' z2 dr2 nb2 (.inl e)) : zCc X K p T f cnt z dr nb (.inl e) := by
  obtain ⟨w, W, h1, h2, h3, h4, h5, h6⟩ := h
  exact ⟨w, W, L.1.trans h1, L.2 h2, h3, h4, h5, g.trans h6 (Nat.le_refl _) (Nat.le_refl _)⟩
theorem cc_close {X : zTx} {K : zKm} {p q : Nat} {T V : Nat → Nat → Int32} {f cnt f' cnt' z z2 dep nb : Nat} {c ty cl : Int32} {m' : Nat → Bool} {sx : List (Nat → Bool) → List (Nat → Bool)} (L : zLk T f cnt V f' cnt') (hQ : zQs X V q z2 (dep + 1) false) (hF : zFq z dep T V) (hc : V 25 dep = c) (hty : V 26 dep = ty) (ht1 : ty ≠ -1) (hcl : (c = 38 ∨ c = 124) ∧ cl = 41 ∨ (c ≠ -1 ∧ c ≠ 38 ∧ c ≠ 40 ∧ c ≠ 124) ∧ cl = 93) (hnb : nb ≤ dep) (h1 : ∀ j, dep - nb ≤ j → j < dep → T 25 j = 33) (h2 : dep = nb ∨ T 25 (dep - nb - 1) ≠ 33) (hz : z ≤ z2) (hpq : p < q) (hcq : cnt' ≤ q) (hff : f' + cnt' = 1300)
    (hok : sOk V z z2) (hc2 : c ≠ 102) (htr : c = 76 ∨ c = 73 → ∃ t, t < 3 ∧ ty = zI t) (hr : ∀ st, xRun K V (z2 - z) z (some st) = some (sx st)) (hx : ∀ st, xStep K c ty 0 0 (sx st) = some (m' :: st)) : zCc X K p T f cnt z (dep - nb) nb (if sgn X q = cl then .inr (q + 1, m') else .inl q) := by
  have hcl0 : cl ≠ 0 := by rcases hcl with ⟨-, e⟩ | ⟨-, e⟩ <;> rw [e] <;> decide
  have h30 := hQ.1.2.2.2
  have hV1 : ∀ j, dep - nb ≤ j → j < dep → V 25 j = 33 := fun j a b => by rw [hF.2.2.2 25 (by omega) j (by omega)]; exact h1 j a b
  have hV2 : dep = nb ∨ V 25 (dep - nb - 1) ≠ 33 := by
    rcases h2 with e | e
    · exact Or.inl e
    · by_cases q : dep = nb
      · exact Or.inl q
      · refine Or.inr ?_
        rw [hF.2.2.2 25 (by omega) _ (by omega)]; exact e
  obtain ⟨g1, g2⟩ := goes_close hQ hc hty ht1 hcl hnb hV1 hV2
  by_cases hq : X.2 ≤ q
  · have hs : ¬ sgn X q = cl := fun e => by have := sgn_lt e hcl0; omega
    rw [if_neg hs]
    obtain ⟨e1, e2⟩ := L24_end hQ.1 hq (show 1 ≤ f' by omega) (zI cnt')
    refine zCc.err (w := 1) (V := V) (L.1.trans e1) (L.2 e2) hQ.1.2.1 hQ.1.2.2.2.2 (Or.inr (Or.inr ?_)) (hF.w (Nat.zero_le _) (Nat.zero_le _))
    rw [hQ.2.2.1]
    intro e
    rw [show (0 : Int32) = zI 0 from rfl, zI_inj (by have := hQ.2.2.2.2; omega) (by omega)] at e
    omega
  · obtain ⟨f1, rfl⟩ : ∃ g, f' = g + 1 := ⟨f' - 1, by omega⟩
    by_cases hs : sgn X q = cl
    · rw [if_pos hs]
      obtain ⟨W, w1, w2, w3, w4, w5, w6⟩ := g2 hs
      obtain ⟨l1, l2⟩ := L24_on (f := f1) (cnt := cnt') hQ.1 hQ.2.2.2.1 (by omega) hcq w1 w2
      have ez : z2 + 1 + nb - z = (z2 - z) + 1 + nb := by omega
      have ez2 : z + (z2 - z) = z2 := by omega
      refine ⟨W, f1, cnt' + 1, z2 + 1 + nb, L.1.trans l1, fun y => L.2 (l2 y), w3, ?_, by omega, by omega, by omega, by omega, (hok.eq fun k hk i i1 => w4.2.2.1 k hk i i1).app (sOk.end w5.1 w5.2.1 w6 (fun e => absurd e hc2) htr), fun st => ?_⟩
      · exact (hF.trans w4 hz (Nat.le_refl _)).w (Nat.le_refl _) (by omega)
      · rw [ez]
        refine xRun_end K (st' := sx st) (c := c) (a := ty) (b := 0) (g := 0) (m := m') ?_ ?_ ?_ ?_
        · rw [ez2]; exact w5
        · rw [ez2]; exact w6
        · rw [xRun_eq K (T := V) _ _ _ (fun k hk i i1 i2 => w4.2.2.1 k hk i (by omega))]; exact hr st
        · intro s hs2; rw [hs2]; exact hx st
    · rw [if_neg hs]
      obtain ⟨w1, w2⟩ := g1 hs
      obtain ⟨l1, l2⟩ := L24_on (f := f1) (cnt := cnt') hQ.1 hQ.2.2.2.1 (by omega) hcq w1 w2
      obtain ⟨e1, e2⟩ := L24_0 (show 1 ≤ f1 by omega) V (zI (cnt' + 1))
      exact zCc.err (w := 0) (V := V) (L.1.trans (l1.trans e1)) (L.2 (l2 e2)) hQ.1.2.1 hQ.1.2.2.2.2 (Or.inl rfl) (hF.w (Nat.zero_le _) (Nat.zero_le _))
theorem itr_s (f : (Nat → Bool) → Nat → Bool) (n : Nat) (m : Nat → Bool) : itr f (n + 1) m = itr f n (f m) := rfl
theorem xStep_in (K : zKm) {c ty : Int32} (hc : c = 67 ∨ c = 85 ∨ c = 76 ∨ c = 73) (m : Nat → Bool) (st : List (Nat → Bool)) : xStep K c ty 0 0 (m :: st) = some (K.2.1 c ty m :: st) := by
  unfold xStep
  rw [if_neg (by rcases hc with e | e | e | e <;> rw [e] <;> decide), if_pos (Or.inr hc)]
theorem xStep_pr (K : zKm) {c : Int32} (hc : c = 38 ∨ c = 124) (m m2 : Nat → Bool) (st : List (Nat → Bool)) : xStep K c 0 0 0 (m2 :: m :: st) = some (K.2.2 c m m2 :: st) := by
  unfold xStep
  rw [if_pos hc]
/-- a leaf is neither joined nor about another -/
theorem lfS_code {X : zTx} {c : Int32} {p q : Nat} {a b d g : Int32} (hk : kd c = 4) (h : lfS X c p = .inr (q, a, b, d, g)) : ¬ (a = 38 ∨ a = 124) ∧ ¬ (a = 33 ∨ a = 67 ∨ a = 85 ∨ a = 76 ∨ a = 73) := by
  have ha : a = c ∨ a = 120 := by
    unfold lfS at h
    by_cases k1 : isSm c = true
    · rw [if_pos k1] at h
      split at h
      · cases h; exact Or.inl rfl
      · cases h
    rw [if_neg k1] at h
    by_cases k2 : c = 97
    · rw [if_pos k2] at h
      split at h
      · cases h; exact Or.inr rfl
      split at h
      · cases h; exact Or.inl k2.symm
      · cases h
    rw [if_neg k2] at h
    by_cases k3 : c = 102
    · rw [if_pos k3] at h
      split at h
      · split at h
        · cases h; exact Or.inl k3.symm
        split at h
        · split at h
          · split at h
            · cases h; exact Or.inl k3.symm
            · cases h
          · cases h
        · cases h
      · cases h
    rw [if_neg k3] at h
    split at h
    · split at h
      · cases h; exact Or.inl rfl
      · cases h
    · cases h
  rcases ha with e | e
  · subst e
    constructor
    · rintro (e | e) <;> subst e <;> exact absurd hk (by decide)
    · rintro (e | e | e | e | e) <;> subst e <;> exact absurd hk (by decide)
  · subst e; decide
theorem isD_ex {X : zTx} {p n : Nat} {mx : Int32} (h : isD X mx p = true) (hm : mx.toInt + 1 = n) : ∃ t, t < n ∧ dv X p = zI t := by
  obtain ⟨h1, h2⟩ := of_decide_eq_true h
  have := Int32.toInt_lt mx
  exact zI_ex h1 (by omega) (by omega)
theorem lfS_f {X : zTx} {c : Int32} {p q : Nat} {a b d g : Int32} (ha : a = 102) (h : lfS X c p = .inr (q, a, b, d, g)) : (∃ f, f < 4 ∧ b = zI f) ∧ g ≠ -1 := by
  unfold lfS at h
  by_cases k1 : isSm c = true
  · rw [if_pos k1] at h
    split at h
    · cases h; subst ha; exact absurd k1 (by decide)
    · cases h
  rw [if_neg k1] at h
  by_cases k2 : c = 97
  · rw [if_pos k2] at h
    split at h
    · cases h; exact absurd ha (by decide)
    split at h
    · cases h; exact absurd ha (by decide)
    · cases h
  rw [if_neg k2] at h
  by_cases k3 : c = 102
  · rw [if_pos k3] at h
    by_cases d1 : isD X 3 p = true
    · rw [if_pos d1] at h
      have := isD_ex (n := 4) d1 (by decide)
      split at h
      · cases h; exact ⟨this, show (0 : Int32) ≠ -1 by decide⟩
      split at h
      · split at h
        · next d2 =>
          split at h
          · next d3 =>
            cases h
            refine ⟨this, ?_⟩
            obtain ⟨t, ht, e1⟩ := isD_ex (n := 10) d2 (by decide)
            obtain ⟨u, hu, e2⟩ := isD_ex (n := 10) d3 (by decide)
            rw [e1, e2, show (10 : Int32) = zI 10 from rfl, zI_mul, zI_add]
            exact m1_ne _ (by omega)
          · cases h
        · cases h
      · cases h
    · rw [if_neg d1] at h; cases h
  rw [if_neg k3] at h
  split at h
  · split at h
    · cases h; exact absurd ha k3
    · cases h
  · cases h
theorem T_query {X : zTx} {K : zKm} : ∀ (n p : Nat) (T : Nat → Nat → Int32) (f cnt nb z dep : Nat), X.2 < n + p → zQs X T p z dep true → cnt ≤ p → f + cnt = 1300 → nb ≤ dep → (∀ j, dep - nb ≤ j → j < dep → T 25 j = 33) → (dep = nb ∨ T 25 (dep - nb - 1) ≠ 33) → zCc X K p T f cnt z (dep - nb) nb (qD X K n p) := by
  intro n
  induction n with
  | zero =>
    intro p T f cnt nb z dep hn hQ
    have := hQ.1.2.2.2.2
    omega
  | succ n ih =>
    intro p T f cnt nb z dep hn hQ hcp hff hnb hs1 hs2
    have h30 := hQ.1.2.2.2
    unfold qD
    by_cases hp : X.2 ≤ p
    · rw [if_pos hp]
      obtain ⟨e1, e2⟩ := L24_end hQ.1 hp (show 1 ≤ f by omega) (zI cnt)
      exact zCc.err (w := 1) (V := T) e1 e2 hQ.1.2.1 hQ.1.2.2.2.2 (Or.inr (Or.inl (by rw [hQ.2.2.2.1]; decide))) zFq.rfl
    rw [if_neg hp]
    obtain ⟨f1, rfl⟩ : ∃ g, f = g + 1 := ⟨f - 1, by omega⟩
    have hsg : sgn X p = X.1 p := by unfold sgn; rw [if_neg hp]
    have hpl : p < X.2 := by omega
    generalize hc : X.1 p = c at hsg ⊢
    -- a step of the loop that goes wrong
    have bad : ∀ V e, F_Query_beginsWell T = (0, V) → Sf_Query_beginsWell T → V 19 10 = zI e → e ≤ X.2 → zFq 0 0 T V → zCc X K p T (f1 + 1) cnt z (dep - nb) nb (.inl e) := by
      intro V e b1 b2 b3 b4 b5
      obtain ⟨l1, l2⟩ := L24_due (f := f1) (cnt := cnt) hQ.1 hQ.2.2.2.1 hpl hcp b1 b2
      obtain ⟨e1, e2⟩ := L24_0 (show 1 ≤ f1 by omega) V (zI (cnt + 1))
      exact zCc.err (w := 0) (V := V) (l1.trans e1) (l2 e2) b3 b4 (Or.inl rfl) b5
    have badAt : ∀ e, F_Query_beginsWell T = (0, atP T e) → Sf_Query_beginsWell T → e ≤ X.2 → zCc X K p T (f1 + 1) cnt z (dep - nb) nb (.inl e) := fun e b1 b2 b3 => bad _ e b1 b2 (atP_p _ _) b3 (zFq.f (by omega) _ _)
    -- about another part, in brackets
    have inn : ∀ (q : Nat) (c ty : Int32), p < q → (c = 67 ∨ c = 85 ∨ c = 76 ∨ c = 73) → ty ≠ -1 → (c = 76 ∨ c = 73 → ∃ t, t < 3 ∧ ty = zI t) → (sgn X q = 91 → F_Query_beginsWell T = (1, opS (atP T (q + 1)) dep c ty)) → (sgn X q ≠ 91 → F_Query_beginsWell T = (0, atP T q)) → Sf_Query_beginsWell T → q ≤ X.2 → zCc X K p T (f1 + 1) cnt z (dep - nb) nb (qIn X K c ty (qD X K n) q) := by
      intro q c ty hpq hck hty htr g1 g2 g3 hq
      unfold qIn
      by_cases hs : sgn X q = 91
      · rw [if_pos hs]
        have hql := sgn_lt hs (by decide)
        obtain ⟨o1, o2, o3, o4, o5⟩ := opS_I hQ (q := q + 1) (by omega) hql c ty
        generalize opS (atP T (q + 1)) dep c ty = V at *
        obtain ⟨l1, l2⟩ := L24_due (f := f1) (cnt := cnt) hQ.1 hQ.2.2.2.1 hpl hcp (g1 hs) g3
        have L : zLk T (f1 + 1) cnt V f1 (cnt + 1) := ⟨l1, l2⟩
        have I := ih (q + 1) V f1 (cnt + 1) 0 z (dep + 1) (by omega) o2 (by omega) (by omega) (by omega) (fun j a b => by omega) (Or.inr (by
          rw [show dep + 1 - 0 - 1 = dep by omega, o4]
          rcases hck with e | e | e | e <;> rw [e] <;> decide))
        generalize qD X K n (q + 1) = r at I ⊢
        cases r with
        | inl e => exact I.bad L (o3.w (Nat.zero_le _) (Nat.zero_le _))
        | inr y =>
          obtain ⟨q2, m⟩ := y
          obtain ⟨V2, f2, cnt2, z2, i1, i2, i3, i4, i5, i6, i7, i8, i10, i9⟩ := I
          rw [show dep + 1 - 0 = dep + 1 by omega] at i3 i4
          refine cc_close (V := V2) (f' := f2) (cnt' := cnt2) (z2 := z2) (c := c) (ty := ty) (sx := fun st => m :: st) (L.trans ⟨i1, i2⟩) i3 ((o3.trans (i4.w (Nat.le_refl _) (Nat.le_succ _)) (Nat.le_refl _) (Nat.le_refl _))) (by rw [i4.2.2.2 25 (by omega) dep (by omega)]; exact o4) (by rw [i4.2.2.2 26 (by omega) dep (by omega)]; exact o5) hty (Or.inr ⟨?_, rfl⟩) hnb hs1 hs2 (by omega) (by omega) i7 i8 i10 (by rcases hck with e | e | e | e <;> rw [e] <;> decide) htr i9 (fun st => xStep_in K hck m st)
          rcases hck with e | e | e | e <;> rw [e] <;> decide
      · rw [if_neg hs]
        exact badAt q (g2 hs) g3 hq
    by_cases k0 : kd c = 0
    · rw [if_pos k0]
      have ec := kd_0 k0
      obtain ⟨b1, b2⟩ := begins_open hQ (hsg.trans ec) (Or.inl rfl)
      obtain ⟨o1, o2, o3, o4, o5⟩ := opS_I hQ (q := p + 1) (by omega) (by omega) 33 0
      generalize opS (atP T (p + 1)) dep 33 0 = V at *
      obtain ⟨l1, l2⟩ := L24_due (f := f1) (cnt := cnt) hQ.1 hQ.2.2.2.1 hpl hcp b1 b2
      have L : zLk T (f1 + 1) cnt V f1 (cnt + 1) := ⟨l1, l2⟩
      have I := ih (p + 1) V f1 (cnt + 1) (nb + 1) z (dep + 1) (by omega) o2 (by omega) (by omega) (by omega) (fun j a b => by
        by_cases e : j = dep
        · rw [e]; exact o4
        · rw [o3.2.2.2 25 (by omega) j (by omega)]; exact hs1 j (by omega) (by omega)) (by
        rcases hs2 with e | e
        · exact Or.inl (by omega)
        · by_cases q : dep = nb
          · exact Or.inl (by omega)
          · refine Or.inr ?_
            rw [show dep + 1 - (nb + 1) - 1 = dep - nb - 1 by omega, o3.2.2.2 25 (by omega) _ (by omega)]; exact e)
      rw [show dep + 1 - (nb + 1) = dep - nb by omega] at I
      generalize qD X K n (p + 1) = r at I ⊢
      cases r with
      | inl e => exact I.bad L (o3.w (Nat.zero_le _) (Nat.zero_le _))
      | inr y =>
        obtain ⟨q, m⟩ := y
        obtain ⟨V2, f2, cnt2, z2, i1, i2, i3, i4, i5, i6, i7, i8, i10, i9⟩ := I
        exact ⟨V2, f2, cnt2, z2, l1.trans i1, fun y => l2 (i2 y), i3, (o3.w (Nat.le_refl _) (by omega)).trans i4 (Nat.le_refl _) (Nat.le_refl _), i5, by omega, i7, i8, i10, i9⟩
    rw [if_neg k0]
    by_cases k1 : kd c = 1
    · rw [if_pos k1]
      have ec := kd_1 k1
      obtain ⟨b1, b2⟩ := begins_open hQ (hsg.trans ec) (Or.inr rfl)
      obtain ⟨o1, o2, o3, o4, o5⟩ := opS_I hQ (q := p + 1) (by omega) (by omega) 40 0
      generalize opS (atP T (p + 1)) dep 40 0 = V at *
      obtain ⟨l1, l2⟩ := L24_due (f := f1) (cnt := cnt) hQ.1 hQ.2.2.2.1 hpl hcp b1 b2
      have L : zLk T (f1 + 1) cnt V f1 (cnt + 1) := ⟨l1, l2⟩
      have I := ih (p + 1) V f1 (cnt + 1) 0 z (dep + 1) (by omega) o2 (by omega) (by omega) (by omega) (fun j a b => by omega) (Or.inr (by rw [show dep + 1 - 0 - 1 = dep by omega, o4]; decide))
      unfold qPr
      generalize qD X K n (p + 1) = r at I ⊢
      cases r with
      | inl e => exact I.bad L (o3.w (Nat.zero_le _) (Nat.zero_le _))
      | inr y =>
        obtain ⟨q, m⟩ := y
        obtain ⟨V2, f2, cnt2, z2, i1, i2, i3, i4, i5, i6, i7, i8, i10, i9⟩ := I
        rw [show dep + 1 - 0 = dep + 1 by omega] at i3 i4
        have hqX := i3.1.2.2.2.2
        have L2 : zLk T (f1 + 1) cnt V2 f2 cnt2 := L.trans ⟨i1, i2⟩
        have F2 : zFq z dep T V2 := o3.trans (i4.w (Nat.le_refl _) (Nat.le_succ _)) (Nat.le_refl _) (Nat.le_refl _)
        have v25 : V2 25 dep = 40 := by rw [i4.2.2.2 25 (by omega) dep (by omega)]; exact o4
        have v26 : V2 26 dep = 0 := by rw [i4.2.2.2 26 (by omega) dep (by omega)]; exact o5
        show zCc X K p T (f1 + 1) cnt z (dep - nb) nb (if sgn X q = 38 ∨ sgn X q = 124 then qThen (qD X K n (q + 1)) (fun q2 m2 => if sgn X q2 = 41 then .inr (q2 + 1, K.2.2 (sgn X q) m m2) else .inl q2) else .inl q)
        by_cases hq : X.2 ≤ q
        · have hz0 : sgn X q = 0 := by unfold sgn; rw [if_pos hq]
          rw [if_neg (by rw [hz0]; decide)]
          obtain ⟨e1, e2⟩ := L24_end i3.1 hq (show 1 ≤ f2 by omega) (zI cnt2)
          refine zCc.err (w := 1) (V := V2) (L2.1.trans e1) (L2.2 e2) i3.1.2.1 i3.1.2.2.2.2 (Or.inr (Or.inr ?_)) (F2.w (Nat.zero_le _) (Nat.zero_le _))
          rw [i3.2.2.1]
          intro e
          rw [show (0 : Int32) = zI 0 from rfl, zI_inj (by have := i3.2.2.2.2; omega) (by omega)] at e
          omega
        obtain ⟨f3, rfl⟩ : ∃ g, f2 = g + 1 := ⟨f2 - 1, by omega⟩
        obtain ⟨g1, g2, g3, g4, g5, g6⟩ := goes_mid i3 v25
        by_cases hs : sgn X q = 38 ∨ sgn X q = 124
        · rw [if_pos hs]
          rw [if_pos hs] at g1
          generalize hV3 : atP (midS V2 dep (sgn X q)) (q + 1) = V3 at g1
          have n5 : ∀ j, j ≠ 10 → V3 19 j = midS V2 dep (sgn X q) 19 j := fun j hj => by rw [← hV3]; exact atP_nj _ _ hj
          have n6 : ∀ k, k ≠ 19 → V3 k = midS V2 dep (sgn X q) k := fun k hk => by rw [← hV3]; exact atP_ne _ _ hk
          have F3 : zFq z2 dep V2 V3 := by rw [← hV3]; exact g3.trans (zFq.f (by omega) _ _) (Nat.le_refl _) (Nat.le_refl _)
          have Q3 : zQs X V3 (q + 1) z2 (dep + 1) true := ⟨i3.1.fq F3 (by rw [← hV3]; exact atP_p _ _) (by omega), by rw [n5 8 (by omega), g6 8 (by omega)]; exact i3.2.1, by rw [n5 9 (by omega), g6 9 (by omega)]; exact i3.2.2.1, by rw [n5 11 (by omega)]; unfold midS; rw [uS_at]; rfl, by have := i3.2.2.2.2; omega⟩
          obtain ⟨l3, l4⟩ := L24_on (f := f3) (cnt := cnt2) i3.1 i3.2.2.2.1 (by omega) i7 g1 g2
          have L3 : zLk T (f1 + 1) cnt V3 f3 (cnt2 + 1) := L2.trans ⟨l3, l4⟩
          have w25 : V3 25 dep = sgn X q := by rw [n6 25 (by omega)]; exact g4
          have w26 : V3 26 dep = 0 := by rw [n6 26 (by omega), g5]; exact v26
          have J := ih (q + 1) V3 f3 (cnt2 + 1) 0 z2 (dep + 1) (by omega) Q3 (by omega) (by omega) (by omega) (fun j a b => by omega) (Or.inr (by
            rw [show dep + 1 - 0 - 1 = dep by omega, w25]
            rcases hs with e | e <;> rw [e] <;> decide))
          generalize qD X K n (q + 1) = r at J ⊢
          cases r with
          | inl e => exact J.bad L3 ((F2.trans F3 (by omega) (Nat.le_refl _)).w (Nat.zero_le _) (Nat.zero_le _))
          | inr y =>
            obtain ⟨q2, m2⟩ := y
            obtain ⟨V4, f4, cnt4, z4, j1, j2, j3, j4, j5, j6, j7, j8, j10, j9⟩ := J
            rw [show dep + 1 - 0 = dep + 1 by omega] at j3 j4
            refine cc_close (V := V4) (f' := f4) (cnt' := cnt4) (z2 := z4) (c := sgn X q) (ty := 0) (cl := 41) (sx := fun st => m2 :: m :: st) (L3.trans ⟨j1, j2⟩) j3 ((F2.trans F3 (by omega) (Nat.le_refl _)).trans (j4.w (show z ≤ z2 by omega) (Nat.le_succ _)) (Nat.le_refl _) (Nat.le_refl _)) (by rw [j4.2.2.2 25 (by omega) dep (by omega)]; exact w25) (by rw [j4.2.2.2 26 (by omega) dep (by omega)]; exact w26) (by decide) (Or.inl ⟨hs, rfl⟩) hnb hs1 hs2 (by omega) (by omega) j7 j8 ((i10.eq fun k hk i a => by rw [j4.2.2.1 k hk i (by omega), F3.2.2.1 k hk i (by omega)]).app j10) (by rcases hs with e | e <;> rw [e] <;> decide) (fun e => by rcases hs with g | g <;> rw [g] at e <;> exact absurd e (by decide)) (fun st => ?_) (fun st => xStep_pr K hs m m2 st)
            rw [show z4 - z = (z2 - z) + (z4 - z2) by omega, xRun_add, show z + (z2 - z) = z2 by omega]
            have e1 : xRun K V4 (z2 - z) z (some st) = some (m :: st) := by
              rw [xRun_eq K (T := V2) _ _ _ (fun k hk i a b => by rw [j4.2.2.1 k hk i (by omega), F3.2.2.1 k hk i (by omega)])]
              exact i9 st
            rw [e1]
            exact j9 (m :: st)
        · rw [if_neg hs]
          rw [if_neg hs] at g1
          obtain ⟨l3, l4⟩ := L24_on (f := f3) (cnt := cnt2) i3.1 i3.2.2.2.1 (by omega) i7 g1 g2
          obtain ⟨e1, e2⟩ := L24_0 (show 1 ≤ f3 by omega) (midS V2 dep (sgn X q)) (zI (cnt2 + 1))
          exact zCc.err (w := 0) (V := midS V2 dep (sgn X q)) (L2.1.trans (l3.trans e1)) (L2.2 (l4 e2)) (by rw [g6 10 (by omega)]; exact i3.1.2.1) i3.1.2.2.2.2 (Or.inl rfl) ((F2.trans g3 (by omega) (Nat.le_refl _)).w (Nat.zero_le _) (Nat.zero_le _))
    rw [if_neg k1]
    by_cases k2 : kd c = 2
    · rw [if_pos k2]
      have ec := kd_2 k2
      obtain ⟨b1, b2⟩ := begins_in2 hQ hsg ec
      exact inn (p + 1) c 0 (by omega) (by rcases ec with e | e <;> simp [e]) (by decide) (fun e => by rcases ec with g | g <;> rw [g] at e <;> exact absurd e (by decide)) (fun e => by rw [if_pos e] at b1; exact b1) (fun e => by rw [if_neg e] at b1; exact b1) b2 (by omega)
    rw [if_neg k2]
    by_cases k3 : kd c = 3
    · rw [if_pos k3]
      have ec := kd_3 k3
      obtain ⟨b1, b2⟩ := begins_in3 hQ hsg ec
      by_cases hd : isD X 2 (p + 1) = true
      · rw [if_pos hd] at b1 ⊢
        exact inn (p + 2) c (dv X (p + 1)) (by omega) (by rcases ec with e | e <;> simp [e]) (isD_ne hd) (fun _ => isD_ex hd (by decide)) (fun e => by rw [if_pos e] at b1; exact b1) (fun e => by rw [if_neg e] at b1; exact b1) b2 (isD_lt hd)
      · rw [if_neg hd] at b1 ⊢
        exact badAt (p + 1) b1 b2 (by omega)
    rw [if_neg k3]
    by_cases k4 : kd c = 4
    · rw [if_pos k4]
      obtain ⟨t1, t2⟩ := T_leaf_I hQ.1 hsg k4
      unfold qLf
      generalize hr : lfS X c (p + 1) = r at t1 t2
      cases r with
      | inl e =>
        obtain ⟨b1, b2⟩ := t1 e rfl
        have := lfS_er (by omega) hr
        exact badAt e b1 b2 this.2
      | inr y =>
        obtain ⟨q, a, b, d, g⟩ := y
        obtain ⟨q1, q2, q3, q4⟩ := lfS_ok hr
        have hzd := hQ.2.2.2.2
        obtain ⟨W, w1, w2, w3, w4, w5, w6⟩ := T_ends_I (T := atP T q) (z := z) (dep := dep) (nb := nb) (hQ.1.to q2) (by rw [atP_nj _ _ (by omega)]; exact hQ.2.1) (by rw [atP_nj _ _ (by omega)]; exact hQ.2.2.1) (by omega) hnb (by rw [atP_ne _ _ (by omega)]; exact hs1) (by rw [atP_ne _ _ (by omega)]; exact hs2) (a := a) (b := b) (d := d) (g := g) q3 q4
        obtain ⟨b1, b2⟩ := t2 q a b d g W rfl w1 w2
        obtain ⟨l1, l2⟩ := L24_due (f := f1) (cnt := cnt) hQ.1 hQ.2.2.2.1 hpl hcp b1 b2
        have hF : zFq z dep T W := (zFq.f (by omega) T _).trans (w4 dep) (Nat.le_refl _) (Nat.le_refl _)
        obtain ⟨c1, c2⟩ := lfS_code k4 hr
        refine ⟨W, f1, cnt + 1, z + 1 + nb, l1, l2, w3, hF.w (Nat.le_refl _) (by omega), by omega, by omega, by omega, by omega, sOk.end w5.1 w5.2.1 w6 (fun e => by rw [w5.2.2.2]; exact lfS_f e hr) (fun e => absurd (e.elim (fun z => Or.inr (Or.inr (Or.inr (Or.inl z)))) (fun z => Or.inr (Or.inr (Or.inr (Or.inr z))))) c2), fun st => ?_⟩
        rw [show z + 1 + nb - z = 0 + 1 + nb by omega]
        refine xRun_end K (st' := st) (c := a) (a := b) (b := d) (g := g) (m := K.1 a b d g) w5 w6 rfl ?_
        intro s hs; rw [hs]; unfold xStep; rw [if_neg c1, if_neg c2]
    rw [if_neg k4]
    obtain ⟨b1, b2⟩ := begins_no hQ.1 hsg (kd_5 k0 k1 k2 k3 k4)
    exact bad T p b1 b2 hQ.1.2.1 hQ.1.2.2.2.2 zFq.rfl
