/-! PURE: bulk: which are changed; the class's loop -/
/-- the same world but for one column -/
def zSm (f : Nat) (w w' : zWd) : Prop := (∀ k, k < 30 → w'.1 k = w.1 k) ∧ (∀ k, k < 30 → ∀ c, c < 10 → c ≠ 1 + f → wC w' k c = wC w k c) ∧ ∀ q, q < 24 → w'.2.2.2 q = w.2.2.2 q
theorem zSm.rfl {f : Nat} {w : zWd} : zSm f w w := ⟨fun _ _ => Eq.refl _, fun _ _ _ _ _ => Eq.refl _, fun _ _ => Eq.refl _⟩
theorem zSm.trans {f : Nat} {w w' w2 : zWd} (h : zSm f w w') (g : zSm f w' w2) : zSm f w w2 := ⟨fun k a => (g.1 k a).trans (h.1 k a), fun k a c b e => (g.2.1 k a c b e).trans (h.2.1 k a c b e), fun q a => (g.2.2 q a).trans (h.2.2 q a)⟩
theorem zSame.sm {f : Nat} {w w' : zWd} (h : zSame w w') : zSm f w w' := ⟨h.1, fun k a c b _ => by
  unfold wC
  rw [h.1 k a]
  cases q : w.1 k
  · rfl
  · rw [if_pos (Eq.refl _), if_pos (Eq.refl _)]; exact h.2.1 k a q c b, h.2.2.2⟩
theorem see_sm {E : Nat → Nat → Int32} {f : Nat} {w w' : zWd} (g : zSm f w w') (hg : zRg w) (hf : f < 3) {p k : Nat} (hp : p < 8) (hk : k < 30) : vSee E w' p k = vSee E w p k ∧ vEdit E w' p k = vEdit E w p k ∧ ∀ q, vRead E w' p k q = vRead E w p k q := by
  have h6 := g.2.1 k hk 6 (by omega) (by omega)
  have h8 := g.2.1 k hk 8 (by omega) (by omega)
  have hs : vSee E w' p k = vSee E w p k ∧ (w.1 k = true → vR w' p k = vR w p k) := by
    unfold vSee
    rw [g.1 k hk, h6, h8]
    cases q : w.1 k
    · exact ⟨Eq.refl _, fun z => by cases z⟩
    · obtain ⟨t, t3, et⟩ := hg.project hk q
      have e : vR w' p k = vR w p k := by
        unfold vR; rw [h8, et, zI_clamp (by omega)]; exact g.2.2 _ (by omega)
      rw [e]
      exact ⟨Eq.refl _, fun _ => Eq.refl _⟩
  refine ⟨hs.1, ?_, fun q => ?_⟩
  · unfold vEdit
    rw [hs.1, h8]
    cases z : vSee E w p k
    · rfl
    · rw [hs.2 (vSee_there z)]
  · unfold vRead
    rw [hs.1]
    cases z : vSee E w p k
    · rfl
    · rw [hs.2 (vSee_there z)]
theorem can_sm {E : Nat → Nat → Int32} {f : Nat} {w w' : zWd} (g : zSm f w w') (hg : zRg w) (hf : f < 3) {p k : Nat} (hp : p < 8) (hk : k < 30) : vCan E w' p k f = vCan E w p k f := by
  obtain ⟨h1, h2, h3⟩ := see_sm (E := E) g hg hf hp hk
  unfold vCan
  rw [h2, h3, g.2.1 k hk 9 (by omega) (by omega)]
theorem aC_sm {d p i f : Nat} {v : Int32} {A : zA} : zSm f A.2.2 (aC d p i (1 + f) v A).2.2 := by
  refine ⟨fun k _ => ?_, fun k _ c _ hc => aC_other hc, fun q _ => ?_⟩
  · rcases aC_cases (d := d) (p := p) (i := i) (c := 1 + f) (v := v) (A := A) with e | e <;> rw [e] <;> rfl
  · rcases aC_cases (d := d) (p := p) (i := i) (c := 1 + f) (v := v) (A := A) with e | e <;> rw [e] <;> rfl
/-- the changes; how many are refused -/
def aBu (d p f : Nat) (v : Int32) (P C : Nat → Bool) : Nat → Nat → zA → zA
  | 0, _, A => A
  | n + 1, k, A => aBu d p f v P C n (k + 1) (if (P k && C k) = true then aC d p k (1 + f) v A else A)
def rF (P C : Nat → Bool) : Nat → Nat → Int32 → Int32
  | 0, _, x => x
  | n + 1, k, x => rF P C n (k + 1) (if (P k && !C k) = true then x + 1 else x)
def zBi (d p f : Nat) (A0 : zA) (N : Nat) (A : zA) : Prop := zUi d A0 N A ∧ zSm f A0.2.2 A.2.2 ∧ aBy p A0.2.1 A
theorem zBi.up {d p f : Nat} {A0 : zA} {N M : Nat} {A : zA} (h : zBi d p f A0 N A) (hN : N ≤ M) : zBi d p f A0 M A := ⟨⟨h.1.1, by have := h.1.2.1; omega, h.1.2.2⟩, h.2⟩
theorem zBi.in {E : Nat → Nat → Int32} {d p f k : Nat} {v : Int32} {A0 A : zA} {N : Nat} (h : zBi d p f A0 N A) (hp : p < 8) (hf : f < 3) (hk : k < 30) (hrg : rgC (1 + f) v) (hC : vCan E A0.2.2 p k f = true) : zBi d p f A0 (N + 1) (aC d p k (1 + f) v A) ∧ A.2.2.1 k = true := by
  obtain ⟨⟨hA, hn, hnb⟩, hs, hby⟩ := h
  have hw0 : A0.2.2.1 k = true := vSee_there (Bool.and_eq_true_iff.mp (Bool.and_eq_true_iff.mp (Bool.and_eq_true_iff.mp hC).1).1).1
  have hw : A.2.2.1 k = true := by rw [hs.1 k hk]; exact hw0
  obtain ⟨o1, o2, -⟩ := aC_ok (p := p) hA hk (show 1 + f < 9 by omega) hw hrg (by omega) hp
  exact ⟨⟨⟨o1, by omega, hnb.aC⟩, hs.trans aC_sm, hby.aC⟩, hw⟩
theorem zBi.all {E : Nat → Nat → Int32} {d p f : Nat} {v : Int32} {A0 : zA} {P : Nat → Bool} (hp : p < 8) (hf : f < 3) (hrg : rgC (1 + f) v) : ∀ (n k N : Nat) (A : zA), k + n = 30 → zBi d p f A0 N A → zBi d p f A0 (N + n) (aBu d p f v P (fun q => vCan E A0.2.2 p q f) n k A) := by
  intro n
  induction n with
  | zero => intro k N A _ h; exact h
  | succ n ih =>
    intro k N A hk h
    unfold aBu
    rw [show N + (n + 1) = N + 1 + n by omega]
    cases q : (P k && vCan E A0.2.2 p k f)
    · rw [if_neg (by decide)]; exact ih (k + 1) (N + 1) A (by omega) (h.up (by omega))
    · rw [if_pos (Eq.refl _)]
      exact ih (k + 1) (N + 1) _ (by omega) (h.in hp hf (by omega) hrg (Bool.and_eq_true_iff.mp q).2).1
/-- whether the class may write: sight of the view, kinds of the world -/
theorem canW_I {E V : Nat → Nat → Int32} {w : zWd} {A0 A : zA} {p k f : Nat} (hE : V 44 = E 44) (hst : zSt E w p 30 V) (hC : zWC 9 V A.2.2) (hg0 : zRg A0.2.2) (hw : zSm f A0.2.2 w) (hs : zSm f A0.2.2 A.2.2) (hp : p < 8) (hk : k < 30) (hf : f < 3) : F_T_canWrite V (zI k) (zI f) = (if vCan E A0.2.2 p k f = true then 1 else 0) ∧ Sf_T_canWrite V (zI k) (zI f) := by
  obtain ⟨e1, e2, e3⟩ := see_sm (E := E) hw hg0 hf hp hk
  have h1 := Sight_canEdit_I hst hk
  have h2 := Sight_canRead_I hst hk (show f < 4 by omega)
  rw [e2] at h1
  rw [e3] at h2
  have s1 := Sf_canEdit_I V (zI k)
  have s2 := Sf_canRead_I V (zI k) (zI f)
  unfold F_T_canWrite Sf_T_canWrite F_T_canWrite_j48 vCan
  rw [h1, h2]
  cases q1 : vEdit E A0.2.2 p k
  · simp [s1]
  · simp only [if_true, if_neg ne_10, Bool.true_and]
    cases q2 : vRead E A0.2.2 p k f
    · simp [s1, s2]
    · simp only [if_true, if_neg ne_10, Bool.true_and]
      have hw0 : A0.2.2.1 k = true := vSee_there (Bool.and_eq_true_iff.mp q1).1
      obtain ⟨kd, hkd, ek⟩ := hg0.kind hk hw0
      obtain ⟨c1, c2⟩ := hC.cell hk (show 9 < 10 by omega)
      have e9 : wC A.2.2 k 9 = zI kd := (hs.2.1 k hk 9 (by omega) (by omega)).trans ek
      have c1' : F_World_cell 9 V (zI k) 9 = zI kd := c1.trans e9
      have c2' : Sf_World_cell 9 V (zI k) 9 := c2
      obtain ⟨k1, k2⟩ := Kinds_has_I V hkd hf
      rw [c1', k1]
      unfold eH
      rw [ek, zI_clamp (show kd < 2147483648 by omega), hE]
      refine ⟨?_, s1, s2, c2', k2, trivial⟩
      cases zB (E 44 kd) f <;> simp
theorem zSt.fc {E S V : Nat → Nat → Int32} {w : zWd} {p : Nat} (h : zSt E w p 30 S) (g : zFC S V) : zSt E w p 30 V := fun j hj => by
  rw [g.1 36 (by omega), g.1 41 (by omega), g.1 42 (by omega)]; exact h j hj
theorem T_bu_L {E : Nat → Nat → Int32} {d p f : Nat} {v x4 x6 : Int32} {A0 : zA} {w : zWd} {P : Nat → Bool} (hp : p < 8) (hf : f < 3) (hrg : rgC (1 + f) v) (hg0 : zRg A0.2.2) (hw : zSm f A0.2.2 w) (hx : ∀ k, k < 30 → zB x4 k = P k) : ∀ (n k g N : Nat) (S : Nat → Nat → Int32) (A : zA) (x : Int32), k + n = 30 → n < g → N + n ≤ 870 → zCX E S d → zSt E w p 30 S → zRC S A → zBi d p f A0 N A → ∃ V, F_T_bulk_L102 (zI p) (zI f) v x4 x6 g S x (zI k) = (rF P (fun q => vCan E A0.2.2 p q f) n k x, V) ∧ Sf_T_bulk_L102 (zI p) (zI f) v x4 x6 g S x (zI k) ∧ zFC S V ∧ zRC V (aBu d p f v P (fun q => vCan E A0.2.2 p q f) n k A) := by
  intro n
  induction n with
  | zero =>
    intro k g N S A x hk hg hN hX hst hC hI
    obtain ⟨g, rfl⟩ : ∃ q, g = q + 1 := ⟨g - 1, by omega⟩
    obtain rfl : k = 30 := by omega
    unfold F_T_bulk_L102 Sf_T_bulk_L102 aBu rF
    rw [if_pos le30', if_pos le30']
    exact ⟨S, Eq.refl _, trivial, zFC.rfl, hC⟩
  | succ n ih =>
    intro k g N S A x hk hg hN hX hst hC hI
    obtain ⟨g, rfl⟩ : ∃ q, g = q + 1 := ⟨g - 1, by omega⟩
    have hk30 : k < 30 := by omega
    obtain ⟨c1, c2⟩ := canW_I (hX.1 44 (by omega)) hst hC.2 hg0 hw hI.2.1 hp hk30 hf
    have e1 : (1 : Int32) + zI f = zI (1 + f) := by rw [show (1 : Int32) = zI 1 from rfl, zI_add]
    unfold F_T_bulk_L102 Sf_T_bulk_L102 F_T_bulk_l102_144 Sf_T_bulk_l102_144 aBu rF
    rw [if_neg (le30 hk30), if_neg (le30 hk30), T_isIn_I S (by omega), hx k hk30, c1, e1, zI_succ]
    cases q1 : P k
    · obtain ⟨V, v1, v2, v3, v4⟩ := ih (k + 1) g (N + 1) S A x (by omega) (by omega) (by omega) hX hst hC (hI.up (by omega))
      simp only [Bool.false_eq_true, if_false, if_true, Bool.false_and]
      exact ⟨V, v1, v2, v3, v4⟩
    · cases q2 : vCan E A0.2.2 p k f
      · obtain ⟨V, v1, v2, v3, v4⟩ := ih (k + 1) g (N + 1) S A (x + 1) (by omega) (by omega) (by omega) hX hst hC (hI.up (by omega))
        simp only [Bool.false_eq_true, if_false, if_true, if_neg ne_10, Bool.and_false, Bool.not_false, Bool.and_true]
        exact ⟨V, v1, ⟨c2, v2⟩, v3, v4⟩
      · have hn : A.2.1 ≤ N := hI.1.2.1
        obtain ⟨V, v1, v2, v3, v4⟩ := T_change_C (p := p) hC (by omega) hX.2.2 hk30 (show 1 + f < 9 by omega) v
        obtain ⟨W, x1, x2, x3, x4⟩ := ih (k + 1) g (N + 1) V _ x (by omega) (by omega) (by omega) (hX.cx v4.cx) (hst.fc v4) v3 (hI.in hp hf hk30 hrg q2).1
        simp only [Bool.false_eq_true, if_false, if_true, if_neg ne_10, Bool.and_true, Bool.not_true, Bool.and_false, z_let, v1]
        exact ⟨W, x1, ⟨c2, v2, x2⟩, v4.trans x3, x4⟩
