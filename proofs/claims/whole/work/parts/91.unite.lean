/-! PURE: unite -/
def uG (d b : Nat) (A0 : zA) (N : Nat) (A : zA) : Prop := zOk d A ∧ A.2.1 ≤ N ∧ zNb A0 A ∧ aBy b A0.2.1 A ∧ aQuiet A0.2.1 A
theorem uG.r {d b : Nat} {m0 : zA} {N a c : Nat} {v : Int32} {A : zA} (h : uG d b m0 N A) (ha : a < 8) (hc : c < 3) (hb : b < 8) (h0 : 0 ≤ v.toInt) (h1 : v.toInt ≤ 15) : uG d b m0 (N + 1) (aR d b a c v A) := by
  obtain ⟨h2, h3, h4, h5, h6⟩ := h
  have := aR_n (d := d) (p := b) (a := a) (b := c) (v := v) (A := A)
  exact ⟨aR_ok h2 ha hc h0 h1 hb, by omega, h4.aR, aR_by h5, aR_quiet h6⟩
theorem uG.c {d b : Nat} {m0 : zA} {N i : Nat} {A : zA} (h : uG d b m0 N A) (hi : i < 30) (hw : A.2.2.1 i = true) (hb : b < 8) : uG d b m0 (N + 1) (aC d b i 4 (zI b) A) := by
  obtain ⟨h2, h3, h4, h5, h6⟩ := h
  have := aC_n (d := d) (p := b) (i := i) (c := 4) (v := zI b) (A := A)
  have hr : rgC 4 (zI b) := by
    unfold rgC; rw [zI_toInt (by omega)]
    exact ⟨show (-1 : Int) ≤ _ by omega, show _ ≤ (7 : Int) by omega⟩
  obtain ⟨o1, -, -⟩ := aC_ok (p := b) h2 hi (show 4 < 9 by omega) hw hr (by omega) hb
  exact ⟨o1, by omega, h4.aC, h5.aC, aC_quiet h6 (Nat.le_refl _)⟩
theorem or15 : ∀ m, m < 16 → ∀ n, n < 16 → 0 ≤ (zI m ||| zI n).toInt ∧ (zI m ||| zI n).toInt ≤ 15 := by decide +kernel
theorem uG.rng {d b : Nat} {m0 : zA} {N : Nat} {A : zA} (h : uG d b m0 N A) {k l : Nat} (hk : k < 24) (hl : l < 24) : 0 ≤ (A.2.2.2.2.2 k ||| A.2.2.2.2.2 l).toInt ∧ (A.2.2.2.2.2 k ||| A.2.2.2.2.2 l).toInt ≤ 15 := by
  obtain ⟨a1, a2⟩ := h.1.rg.2 k hk
  obtain ⟨b1, b2⟩ := h.1.rg.2 l hl
  obtain ⟨x, hx, ex⟩ := zI_ex (n := 16) a1 (by omega) (by omega)
  obtain ⟨y, hy, ey⟩ := zI_ex (n := 16) b1 (by omega) (by omega)
  rw [ex, ey]; exact or15 x hx y hy
def u1 (d a b : Nat) : Nat → Nat → zA → zA
  | 0, _, A => A
  | n + 1, c, A => u1 d a b n (c + 1) (aR d b b c (A.2.2.2.2.2 (3 * a + c) ||| A.2.2.2.2.2 (3 * b + c)) A)
def u2 (d a b : Nat) : Nat → Nat → zA → Nat → zA × Nat
  | 0, _, A, k => (A, k)
  | n + 1, i, A, k => if wC A.2.2 i 4 = zI a then u2 d a b n (i + 1) (aC d b i 4 (zI b) A) (k + 1) else u2 d a b n (i + 1) A k
def u3 (d a b : Nat) : Nat → Nat → zA → zA
  | 0, _, A => A
  | n + 1, c, A => u3 d a b n (c + 1) (aR d b a c 0 A)
theorem ek3 (b c : Nat) : zI b * 3 + zI c = zI (3 * b + c) := by rw [show (3 : Int32) = zI 3 from rfl, zI_mul, zI_add, Nat.mul_comm]
theorem ek3' (b c : Nat) : (3 : Int32) * zI b + zI c = zI (3 * b + c) := by rw [show (3 : Int32) = zI 3 from rfl, zI_mul, zI_add]
theorem T_u1 {E : Nat → Nat → Int32} {d a b : Nat} {m0 : zA} (ha : a < 8) (hb : b < 8) (x3 : Int32) : ∀ (n c f N : Nat) (S : Nat → Nat → Int32) (A : zA), n + c = 3 → n < f → N + n ≤ 870 → zCX E S d → zRC S A → uG d b m0 N A → ∃ V, F_T_unite_L46 (zI a) (zI b) x3 f S (zI c) = V ∧ Sf_T_unite_L46 (zI a) (zI b) x3 f S (zI c) ∧ zFCX S V ∧ zRC V (u1 d a b n c A) ∧ uG d b m0 (N + n) (u1 d a b n c A) := by
  intro n
  induction n with
  | zero =>
    intro c f N S A hc hf hN hX hC hG
    obtain ⟨f, rfl⟩ : ∃ q, f = q + 1 := ⟨f - 1, by omega⟩
    have hl : (3 : Int32) ≤ zI c := by rw [show (3 : Int32) = zI 3 from rfl, zI_le (by omega) (by omega)]; omega
    unfold F_T_unite_L46 Sf_T_unite_L46 u1
    rw [if_pos hl, if_pos hl]
    exact ⟨S, rfl, trivial, zFCX.rfl, hC, hG⟩
  | succ n ih =>
    intro c f N S A hc hf hN hX hC hG
    obtain ⟨f, rfl⟩ : ∃ q, f = q + 1 := ⟨f - 1, by omega⟩
    have hl : ¬ (3 : Int32) ≤ zI c := by rw [show (3 : Int32) = zI 3 from rfl, zI_le (by omega) (by omega)]; omega
    have r1 : F_World_rolesOf 9 S (zI a) (zI c) = A.2.2.2.2.2 (3 * a + c) := by rw [World_rolesOf_I ha (by omega)]; exact hC.2.role _ (by omega)
    have r2 : F_World_rolesOf 9 S (zI b) (zI c) = A.2.2.2.2.2 (3 * b + c) := by rw [World_rolesOf_I hb (by omega)]; exact hC.2.role _ (by omega)
    obtain ⟨V, v1, v2, v3, v4⟩ := T_chgR (p := b) hX.2.2 hC (by have := hG.2.1; omega) hb (show c < 3 by omega) (A.2.2.2.2.2 (3 * a + c) ||| A.2.2.2.2.2 (3 * b + c))
    obtain ⟨q1, q2⟩ := hG.rng (k := 3 * a + c) (l := 3 * b + c) (by omega) (by omega)
    obtain ⟨W, w1, w2, w3, w4, w5⟩ := ih (c + 1) f (N + 1) V _ (by omega) (by omega) (by omega) (hX.cx v3.cx) v4 (hG.r hb (by omega) hb q1 q2)
    unfold F_T_unite_L46 Sf_T_unite_L46 u1
    rw [if_neg hl, if_neg hl, r1, r2, ek3, zI_succ]
    simp only [v1, z_let]
    exact ⟨W, w1, ⟨v2, w2⟩, v3.cx.trans w3, w4, by rw [show N + (n + 1) = N + 1 + n by omega]; exact w5⟩
theorem T_u3 {E : Nat → Nat → Int32} {d a b : Nat} {m0 : zA} (ha : a < 8) (hb : b < 8) (x3 x4 : Int32) : ∀ (n c f N : Nat) (S : Nat → Nat → Int32) (A : zA), n + c = 3 → n < f → N + n ≤ 870 → zCX E S d → zRC S A → uG d b m0 N A → ∃ V, F_T_unite_L158 (zI a) (zI b) x3 x4 f S (zI c) = V ∧ Sf_T_unite_L158 (zI a) (zI b) x3 x4 f S (zI c) ∧ zFCX S V ∧ zRC V (u3 d a b n c A) ∧ uG d b m0 (N + n) (u3 d a b n c A) := by
  intro n
  induction n with
  | zero =>
    intro c f N S A hc hf hN hX hC hG
    obtain ⟨f, rfl⟩ : ∃ q, f = q + 1 := ⟨f - 1, by omega⟩
    have hl : (3 : Int32) ≤ zI c := by rw [show (3 : Int32) = zI 3 from rfl, zI_le (by omega) (by omega)]; omega
    unfold F_T_unite_L158 Sf_T_unite_L158 u3
    rw [if_pos hl, if_pos hl]
    exact ⟨S, rfl, trivial, zFCX.rfl, hC, hG⟩
  | succ n ih =>
    intro c f N S A hc hf hN hX hC hG
    obtain ⟨f, rfl⟩ : ∃ q, f = q + 1 := ⟨f - 1, by omega⟩
    have hl : ¬ (3 : Int32) ≤ zI c := by rw [show (3 : Int32) = zI 3 from rfl, zI_le (by omega) (by omega)]; omega
    obtain ⟨V, v1, v2, v3, v4⟩ := T_chgR (p := b) hX.2.2 hC (by have := hG.2.1; omega) ha (show c < 3 by omega) 0
    obtain ⟨W, w1, w2, w3, w4, w5⟩ := ih (c + 1) f (N + 1) V _ (by omega) (by omega) (by omega) (hX.cx v3.cx) v4 (hG.r ha (by omega) hb (by decide) (by decide))
    unfold F_T_unite_L158 Sf_T_unite_L158 u3
    rw [if_neg hl, if_neg hl, ek3, zI_succ]
    simp only [v1, z_let]
    exact ⟨W, w1, ⟨v2, w2⟩, v3.cx.trans w3, w4, by rw [show N + (n + 1) = N + 1 + n by omega]; exact w5⟩
theorem M_u1 {fl : Nat → Nat} {E : Nat → Nat → Int32} {d rn a b : Nat} {m0 : zA} (ha : a < 8) (hb : b < 8) (x3 : Int32) : ∀ (n c f N : Nat) (U : Nat → Nat → Int32) (A : zA), n + c = 3 → n < f → N + n ≤ 870 → zBX fl E U d rn → zRM 86 U A → uG d b m0 N A → ∃ V, F_M_unite_L49 fl (zI a) (zI b) x3 f U (zI c) = V ∧ Sf_M_unite_L49 fl (zI a) (zI b) x3 f U (zI c) ∧ zFMX U V ∧ zRM 86 V (u1 d a b n c A) := by
  intro n
  induction n with
  | zero =>
    intro c f N U A hc hf hN hX hC hG
    obtain ⟨f, rfl⟩ : ∃ q, f = q + 1 := ⟨f - 1, by omega⟩
    have hl : (3 : Int32) ≤ zI c := by rw [show (3 : Int32) = zI 3 from rfl, zI_le (by omega) (by omega)]; omega
    unfold F_M_unite_L49 Sf_M_unite_L49 u1
    rw [if_pos hl, if_pos hl]
    exact ⟨U, rfl, trivial, zFMX.rfl, hC⟩
  | succ n ih =>
    intro c f N U A hc hf hN hX hC hG
    obtain ⟨f, rfl⟩ : ∃ q, f = q + 1 := ⟨f - 1, by omega⟩
    have hl : ¬ (3 : Int32) ≤ zI c := by rw [show (3 : Int32) = zI 3 from rfl, zI_le (by omega) (by omega)]; omega
    have r1 : U 97 (3 * a + c) = A.2.2.2.2.2 (3 * a + c) := hC.2.1.role _ (by omega)
    have r2 : U 97 (3 * b + c) = A.2.2.2.2.2 (3 * b + c) := hC.2.1.role _ (by omega)
    obtain ⟨V, v1, v2, v3, v4⟩ := M_roles_I hX hC hG.1 (by have := hG.2.1; omega) b hb (show c < 3 by omega) (A.2.2.2.2.2 (3 * a + c) ||| A.2.2.2.2.2 (3 * b + c))
    obtain ⟨q1, q2⟩ := hG.rng (k := 3 * a + c) (l := 3 * b + c) (by omega) (by omega)
    obtain ⟨W, w1, w2, w3, w4⟩ := ih (c + 1) f (N + 1) V _ (by omega) (by omega) (by omega) (hX.mx v3) v4 (hG.r hb (by omega) hb q1 q2)
    unfold F_M_unite_L49 Sf_M_unite_L49 u1
    rw [if_neg hl, if_neg hl, ek3', ek3', zI_clamp (show 3 * b + c < 2147483648 by omega), zI_clamp (show 3 * a + c < 2147483648 by omega), r1, r2, Int32.or_comm (A.2.2.2.2.2 (3 * b + c)), zI_succ]
    simp only [v1, z_let]
    exact ⟨W, w1, ⟨vp_in_I (by omega) (by omega), vp_in_I (by omega) (by omega), v2, w2⟩, v3.trans w3, w4⟩
theorem M_u3 {fl : Nat → Nat} {E : Nat → Nat → Int32} {d rn a b : Nat} {m0 : zA} (ha : a < 8) (hb : b < 8) (x3 x4 : Int32) : ∀ (n c f N : Nat) (U : Nat → Nat → Int32) (A : zA), n + c = 3 → n < f → N + n ≤ 870 → zBX fl E U d rn → zRM 86 U A → uG d b m0 N A → ∃ V, F_M_unite_L180 fl (zI a) (zI b) x3 x4 f U (zI c) = V ∧ Sf_M_unite_L180 fl (zI a) (zI b) x3 x4 f U (zI c) ∧ zFMX U V ∧ zRM 86 V (u3 d a b n c A) := by
  intro n
  induction n with
  | zero =>
    intro c f N U A hc hf hN hX hC hG
    obtain ⟨f, rfl⟩ : ∃ q, f = q + 1 := ⟨f - 1, by omega⟩
    have hl : (3 : Int32) ≤ zI c := by rw [show (3 : Int32) = zI 3 from rfl, zI_le (by omega) (by omega)]; omega
    unfold F_M_unite_L180 Sf_M_unite_L180 u3
    rw [if_pos hl, if_pos hl]
    exact ⟨U, rfl, trivial, zFMX.rfl, hC⟩
  | succ n ih =>
    intro c f N U A hc hf hN hX hC hG
    obtain ⟨f, rfl⟩ : ∃ q, f = q + 1 := ⟨f - 1, by omega⟩
    have hl : ¬ (3 : Int32) ≤ zI c := by rw [show (3 : Int32) = zI 3 from rfl, zI_le (by omega) (by omega)]; omega
    obtain ⟨V, v1, v2, v3, v4⟩ := M_roles_I hX hC hG.1 (by have := hG.2.1; omega) b ha (show c < 3 by omega) 0
    obtain ⟨W, w1, w2, w3, w4⟩ := ih (c + 1) f (N + 1) V _ (by omega) (by omega) (by omega) (hX.mx v3) v4 (hG.r ha (by omega) hb (by decide) (by decide))
    unfold F_M_unite_L180 Sf_M_unite_L180 u3
    rw [if_neg hl, if_neg hl, zI_succ]
    simp only [v1, z_let]
    exact ⟨W, w1, ⟨v2, w2⟩, v3.trans w3, w4⟩
theorem wC_out {w : zWd} {i c : Nat} (h : w.1 i = false) : wC w i c = -1 := by unfold wC; rw [h]; rfl
theorem T_u2 {E : Nat → Nat → Int32} {d a b : Nat} {m0 : zA} (ha : a < 8) (hb : b < 8) (x3 : Int32) : ∀ (n i f N k : Nat) (S : Nat → Nat → Int32) (A : zA), n + i = 30 → n < f → N + n ≤ 870 → zCX E S d → zRC S A → uG d b m0 N A → ∃ V, F_T_unite_L103 (zI a) (zI b) x3 f S (zI k) (zI i) = (zI (u2 d a b n i A k).2, V) ∧ Sf_T_unite_L103 (zI a) (zI b) x3 f S (zI k) (zI i) ∧ zFCX S V ∧ zRC V (u2 d a b n i A k).1 ∧ uG d b m0 (N + n) (u2 d a b n i A k).1 := by
  intro n
  induction n with
  | zero =>
    intro i f N k S A hc hf hN hX hC hG
    obtain ⟨f, rfl⟩ : ∃ q, f = q + 1 := ⟨f - 1, by omega⟩
    have hl : (30 : Int32) ≤ zI i := by rw [show (30 : Int32) = zI 30 from rfl, zI_le (by omega) (by omega)]; omega
    unfold F_T_unite_L103 Sf_T_unite_L103 u2
    rw [if_pos hl, if_pos hl]
    exact ⟨S, rfl, trivial, zFCX.rfl, hC, hG⟩
  | succ n ih =>
    intro i f N k S A hc hf hN hX hC hG
    obtain ⟨f, rfl⟩ : ∃ q, f = q + 1 := ⟨f - 1, by omega⟩
    have hi : i < 30 := by omega
    have hl : ¬ (30 : Int32) ≤ zI i := by rw [show (30 : Int32) = zI 30 from rfl, zI_le (by omega) (by omega)]; omega
    have hh : F_World_has 9 S (zI i) = if A.2.2.1 i = true then 1 else 0 := by rw [World_has_I hi, hC.2.has i hi]
    obtain ⟨c1, c2⟩ := hC.2.cell hi (show 4 < 10 by omega)
    have c1' : F_World_cell 9 S (zI i) 4 = wC A.2.2 i 4 := c1
    have c2' : Sf_World_cell 9 S (zI i) 4 := c2
    have skip : ∃ V, F_T_unite_L103 (zI a) (zI b) x3 f S (zI k) (zI (i + 1)) = (zI (u2 d a b n (i + 1) A k).2, V) ∧ Sf_T_unite_L103 (zI a) (zI b) x3 f S (zI k) (zI (i + 1)) ∧ zFCX S V ∧ zRC V (u2 d a b n (i + 1) A k).1 ∧ uG d b m0 (N + (n + 1)) (u2 d a b n (i + 1) A k).1 := by
      obtain ⟨W, w1, w2, w3, w4, w5⟩ := ih (i + 1) f (N + 1) k S A (by omega) (by omega) (by omega) hX hC ⟨hG.1, by have := hG.2.1; omega, hG.2.2⟩
      exact ⟨W, w1, w2, w3, w4, by rw [show N + (n + 1) = N + 1 + n by omega]; exact w5⟩
    unfold F_T_unite_L103 Sf_T_unite_L103 u2
    rw [if_neg hl, if_neg hl, hh, c1', zI_succ]
    cases hw : A.2.2.1 i
    · have e : ¬ wC A.2.2 i 4 = zI a := by rw [wC_out hw]; exact fun z => m1_ne a (by omega) z.symm
      simp only [Bool.false_eq_true, if_false, if_true, if_neg e]
      exact skip
    · simp only [if_true, if_neg ne_10]
      by_cases q : wC A.2.2 i 4 = zI a
      · simp only [if_pos q]
        obtain ⟨V, v1, v2, v3, v4⟩ := T_chg hX hC (by have := hG.2.1; omega) b hi (show 4 < 9 by omega) (zI b)
        have v1' : F_T_change S (zI b) (zI i) 4 0 (zI b) = V := v1
        have v2' : Sf_T_change S (zI b) (zI i) 4 0 (zI b) := v2
        obtain ⟨W, w1, w2, w3, w4, w5⟩ := ih (i + 1) f (N + 1) (k + 1) V _ (by omega) (by omega) (by omega) (hX.cx v3) v4 (hG.c hi hw hb)
        simp only [v1', z_let, zI_succ]
        exact ⟨W, w1, ⟨c2', v2', w2⟩, v3.trans w3, w4, by rw [show N + (n + 1) = N + 1 + n by omega]; exact w5⟩
      · simp only [if_neg q]
        obtain ⟨W, w1, w2, w3⟩ := skip
        exact ⟨W, w1, ⟨c2', w2⟩, w3⟩
theorem u2_stop {d a b : Nat} {A : zA} (ha : a < 8) : ∀ (n i k : Nat), n + i = 30 → (∀ j, i ≤ j → j < 30 → A.2.2.1 j = false) → u2 d a b n i A k = (A, k) := by
  intro n
  induction n with
  | zero => intro i k _ _; rfl
  | succ n ih =>
    intro i k hn h
    unfold u2
    rw [wC_out (h i (Nat.le_refl _) (by omega)), if_neg (fun z => m1_ne a (by omega) z.symm)]
    exact ih (i + 1) k (by omega) fun j h1 h2 => h j (by omega) h2
theorem M_u2 {fl : Nat → Nat} {E : Nat → Nat → Int32} {d rn a b : Nat} {m0 : zA} (ha : a < 8) (hb : b < 8) (x3 : Int32) : ∀ (n i f N k : Nat) (U : Nat → Nat → Int32) (A : zA), n + i = 30 → n < f → N + n ≤ 870 → zBX fl E U d rn → zRM 86 U A → uG d b m0 N A → ∃ V, F_M_unite_L104 fl (zI a) (zI b) x3 f U (zI k) (zI i) = (zI (u2 d a b n i A k).2, V) ∧ Sf_M_unite_L104 fl (zI a) (zI b) x3 f U (zI k) (zI i) ∧ zFMX U V ∧ zRM 86 V (u2 d a b n i A k).1 := by
  intro n
  induction n with
  | zero =>
    intro i f N k U A hc hf hN hX hC hG
    obtain ⟨f, rfl⟩ : ∃ q, f = q + 1 := ⟨f - 1, by omega⟩
    have h30 := hG.1.cnt
    have hl : U 86 0 ≤ zI i := by rw [hC.2.2, zI_le (by omega) (by omega)]; omega
    unfold F_M_unite_L104 Sf_M_unite_L104 u2
    rw [if_pos hl, if_pos hl]
    exact ⟨U, rfl, trivial, zFMX.rfl, hC⟩
  | succ n ih =>
    intro i f N k U A hc hf hN hX hC hG
    obtain ⟨f, rfl⟩ : ∃ q, f = q + 1 := ⟨f - 1, by omega⟩
    have hi : i < 30 := by omega
    have h30 := hG.1.cnt
    by_cases hlt : i < zCnt A.1 A.2.1
    · have hw : A.2.2.1 i = true := by rw [hG.1.there i hi]; exact decide_eq_true hlt
      have hl : ¬ U 86 0 ≤ zI i := by rw [hC.2.2, zI_le (by omega) (by omega)]; omega
      have c91 : U 91 i = wC A.2.2 i 4 := hC.2.1.cell hi (show 4 < 10 by omega) hw
      have vi : vp_in (zI i) 30 := vp_in_I hi (by omega)
      unfold F_M_unite_L104 Sf_M_unite_L104 u2 F_M_unite_l104_135 Sf_M_unite_l104_135 F_M_unite_l104_149 Sf_M_unite_l104_149
      rw [if_neg hl, if_neg hl, zI_clamp (show i < 2147483648 by omega), c91]
      simp only [if_true, if_neg ne_10, zI_succ]
      by_cases q : wC A.2.2 i 4 = zI a
      · simp only [if_pos q]
        obtain ⟨V, v1, v2, v3, v4⟩ := M_chg hX hC hG.1 (by have := hG.2.1; omega) b hi (show 4 < 9 by omega) hw (zI b)
        have v1' : F_M_change 86 U 4 (zI b) (zI i) 0 (zI b) = V := v1
        have v2' : Sf_M_change 86 U 4 (zI b) (zI i) 0 (zI b) := v2
        obtain ⟨W, w1, w2, w3, w4⟩ := ih (i + 1) f (N + 1) (k + 1) V _ (by omega) (by omega) (by omega) (hX.mx v3) v4 (hG.c hi hw hb)
        simp only [v1', z_let, zI_succ]
        exact ⟨W, w1, ⟨vi, v2', w2⟩, v3.trans w3, w4⟩
      · simp only [if_neg q, Int32.add_zero]
        obtain ⟨W, w1, w2, w3⟩ := ih (i + 1) f (N + 1) k U A (by omega) (by omega) (by omega) hX hC ⟨hG.1, by have := hG.2.1; omega, hG.2.2⟩
        exact ⟨W, w1, ⟨vi, w2⟩, w3⟩
    · have hl : U 86 0 ≤ zI i := by rw [hC.2.2, zI_le (by omega) (by omega)]; omega
      rw [u2_stop ha (n + 1) i k hc fun j h1 h2 => by rw [hG.1.there j h2]; exact decide_eq_false (by omega)]
      unfold F_M_unite_L104 Sf_M_unite_L104
      rw [if_pos hl, if_pos hl]
      exact ⟨U, rfl, trivial, zFMX.rfl, hC⟩
theorem M_wch {fl : Nat → Nat} {a b : Nat} (ha : a < 8) (hb : b < 8) (hab : a ≠ b) {X Y : Nat → Bool} (x4 : Int32) : ∀ (n i f : Nat) (U : Nat → Nat → Int32), n + i = 30 → n < f → (∀ j, j < 30 → U 183 (30 * a + j) = bI (Y j)) → (∀ j, j < 30 → U 183 (30 * b + j) = bI (if j < i then X j || Y j else X j)) →
    ∃ V, F_M_unite_L231 fl (zI a) (zI b) x4 f U (zI i) = V ∧ Sf_M_unite_L231 fl (zI a) (zI b) x4 f U (zI i) ∧ (∀ k, k ≠ 183 → V k = U k) ∧ (∀ q, (∀ j, j < 30 → q ≠ 30 * b + j) → V 183 q = U 183 q) ∧ ∀ j, j < 30 → V 183 (30 * b + j) = bI (X j || Y j) := by
  intro n
  induction n with
  | zero =>
    intro i f U hc hf hY hX
    obtain ⟨f, rfl⟩ : ∃ q, f = q + 1 := ⟨f - 1, by omega⟩
    have hl : (30 : Int32) ≤ zI i := by rw [show (30 : Int32) = zI 30 from rfl, zI_le (by omega) (by omega)]; omega
    unfold F_M_unite_L231 Sf_M_unite_L231
    rw [if_pos hl, if_pos hl]
    exact ⟨U, rfl, trivial, fun k _ => rfl, fun q _ => rfl, fun j hj => by rw [hX j hj, if_pos (by omega)]⟩
  | succ n ih =>
    intro i f U hc hf hY hX
    obtain ⟨f, rfl⟩ : ∃ q, f = q + 1 := ⟨f - 1, by omega⟩
    have hi : i < 30 := by omega
    have hl : ¬ (30 : Int32) ≤ zI i := by rw [show (30 : Int32) = zI 30 from rfl, zI_le (by omega) (by omega)]; omega
    have eb : (30 : Int32) * zI b + zI i = zI (30 * b + i) := by rw [show (30 : Int32) = zI 30 from rfl, zI_mul, zI_add]
    have ea : (30 : Int32) * zI a + zI i = zI (30 * a + i) := by rw [show (30 : Int32) = zI 30 from rfl, zI_mul, zI_add]
    have en : vp_nar .boolean (bI (X i) ||| bI (Y i)) = bI (X i || Y i) := by cases X i <;> cases Y i <;> decide
    unfold F_M_unite_L231 Sf_M_unite_L231
    rw [if_neg hl, if_neg hl, eb, ea, zI_clamp (show 30 * b + i < 2147483648 by omega), zI_clamp (show 30 * a + i < 2147483648 by omega), hX i hi, hY i hi, if_neg (Nat.lt_irrefl i), en, zI_succ]
    obtain ⟨V, v1, v2, v3, v4, v5⟩ := ih (i + 1) f (z_uS U 183 (30 * b + i) (bI (X i || Y i))) (by omega) (by omega) (fun j hj => by rw [uS_nj _ _ _ (by omega)]; exact hY j hj) (fun j hj => by
      by_cases e : j = i
      · rw [e, uS_at, if_pos (by omega)]
      · rw [uS_nj _ _ _ (by omega), hX j hj]
        by_cases e2 : j < i
        · rw [if_pos e2, if_pos (by omega)]
        · rw [if_neg e2, if_neg (by omega)])
    exact ⟨V, v1, ⟨vp_in_I (by omega) (by omega), vp_in_I (by omega) (by omega), vp_in_I (by omega) (by omega), v2⟩, fun k hk => by rw [v3 k hk, z_uS_ne _ _ _ hk], fun q hq => by rw [v4 q hq, uS_nj _ _ _ (hq i hi)], v5⟩
theorem zFCX.wr {S V : Nat → Nat → Int32} (h : zFCX S V) : zWr zWI S V := zWI_fr (fun k hk => h.1 k (by omega)) h.2.1 h.2.2 (fun j _ _ => by rw [h.1 78 (by omega)])
theorem zFMX.wr {S V : Nat → Nat → Int32} (h : zFMX S V) : zWr zWI S V := zWI_fr (fun k hk => h.1 k (by omega)) (fun j _ => by rw [h.1 1 (by omega)]) (fun j _ _ => by rw [h.1 36 (by omega)]) h.2
def zW42 : List zLoc := (76, none) :: (183, none) :: zWI
theorem zW42_in : ∀ q ∈ zWI, q ∈ zW42 := fun q h => List.mem_cons_of_mem _ (List.mem_cons_of_mem _ h)
def zEndW (S F : Nat → Nat → Int32) (d : Nat) : Prop := zWr zW42 S F ∧ (∃ B, zOk d B ∧ B.2.1 ≤ 800 ∧ zRC F B ∧ zRM 86 F B ∧ zCN S B) ∧ zCW F
theorem zEnd.w {S F : Nat → Nat → Int32} {d : Nat} (h : zEnd S F d) (g : zCW S) : zEndW S F d := ⟨h.1.mono zW42_in, h.2, g.ag (h.1.ag (by decide +kernel))⟩
theorem o_42 {fl : Nat → Nat} {S : Nat → Nat → Int32} {d : Nat} {A : zA} {rn : Nat} (h : zB0 fl S d A rn) (hW : zCW S) (a1 a2 a3 a4 a5 a6 : Int32) : Sl_42 fl S a1 a2 a3 a4 a5 a6 ∧ zEndW S (Fl_42 fl S a1 a2 a3 a4 a5 a6) d := by
  suffices g : zOpQ (fun E => (if E = "java/lang/IndexOutOfBoundsException" then 1 else (if E = "java/lang/IllegalArgumentException" then 2 else (if E = "java/lang/IllegalStateException" then 3 else 0)))) (fun E => E = "java/lang/IndexOutOfBoundsException" ∨ E = "java/lang/IllegalArgumentException" ∨ E = "java/lang/IllegalStateException") (fun x => x) (F_T_unite S a1 a2) (Sf_T_unite S a1 a2) (fun U => F_M_unite fl U a1 a2) (fun U => Sf_M_unite fl U a1 a2) (fun W => zEndW S W d) from g
  have hbm0 := h.bm (zFX.rfl (S := S))
  have e0 : ∀ x, zEndW S (z_uS S 78 0 x) d := fun x => (zEnd_of (Or.inl zFCX.rfl) (zFMX.thr _ _) h.ok h.ns h.c (hbm0.m.thr _)).w hW
  by_cases hp : (0 ≤ a1.toInt ∧ a1.toInt < 8) ∧ 0 ≤ a2.toInt ∧ a2.toInt < 8
  case neg =>
    obtain ⟨p1, p2⟩ := M_isPerson_I S a1
    obtain ⟨p3, p4⟩ := M_isPerson_I S a2
    refine zOpQ_err (E := "java/lang/IndexOutOfBoundsException") (V := S) (x := 0) (W := z_uS S 78 0 1) ?_ ?_ (Or.inl rfl) (by decide) ?_ ?_ (by rw [uS_at]; rfl) (e0 1)
    · unfold F_T_unite; rw [T_isPerson_eq, T_isPerson_eq]
      by_cases q : 0 ≤ a1.toInt ∧ a1.toInt < 8
      · simp only [if_pos q, if_neg ne_10, if_neg (fun z => hp ⟨q, z⟩), if_true]
      · simp only [if_neg q, if_true]
    · unfold Sf_T_unite; rw [T_isPerson_eq, T_isPerson_eq]
      by_cases q : 0 ≤ a1.toInt ∧ a1.toInt < 8
      · simp only [if_pos q, if_neg ne_10, if_neg (fun z => hp ⟨q, z⟩), if_true]
      · simp only [if_neg q, if_true]
    · show F_M_unite fl S a1 a2 = _
      unfold F_M_unite F_M_unite_j15 F_M_unite_j29
      rw [p1, p3]
      by_cases q : 0 ≤ a1.toInt ∧ a1.toInt < 8
      · simp only [if_pos q, if_neg ne_10, if_neg (fun z => hp ⟨q, z⟩), if_true, if_neg le_10]
      · simp only [if_neg q, if_true, if_neg le_10]
    · show Sf_M_unite fl S a1 a2
      unfold Sf_M_unite Sf_M_unite_j15 Sf_M_unite_j29
      rw [p1, p3]
      by_cases q : 0 ≤ a1.toInt ∧ a1.toInt < 8
      · simp only [if_pos q, if_neg ne_10, if_neg (fun z => hp ⟨q, z⟩), if_true, if_neg le_10]; exact ⟨p2, p4, trivial⟩
      · simp only [if_neg q, if_true, if_neg le_10]; exact ⟨p2, trivial⟩
  obtain ⟨⟨pa, pb⟩, pc, pd⟩ := hp
  obtain ⟨a, ha, rfl⟩ := zI_ex (n := 8) pa (by omega) (by omega)
  obtain ⟨b, hb, rfl⟩ := zI_ex (n := 8) pc (by omega) (by omega)
  have t1 := T_isPerson_I S ha
  have t2 := T_isPerson_I S hb
  have hMp : ∀ U : Nat → Nat → Int32, F_M_isPerson U (zI a) = 1 ∧ Sf_M_isPerson U (zI a) ∧ F_M_isPerson U (zI b) = 1 ∧ Sf_M_isPerson U (zI b) := by
    intro U
    obtain ⟨p1, p2⟩ := M_isPerson_I U (zI a)
    obtain ⟨p3, p4⟩ := M_isPerson_I U (zI b)
    rw [if_pos ⟨pa, pb⟩] at p1
    rw [if_pos ⟨pc, pd⟩] at p3
    exact ⟨p1, p2, p3, p4⟩
  by_cases hab : zI a = zI b
  · obtain ⟨p1, p2, p3, p4⟩ := hMp S
    refine zOpQ_err (E := "java/lang/IllegalArgumentException") (V := S) (x := 0) (W := z_uS S 78 0 2) ?_ ?_ (Or.inr (Or.inl rfl)) (by decide) ?_ ?_ (by rw [uS_at]; rfl) (e0 2)
    · unfold F_T_unite; simp only [t1, t2, if_neg ne_10, if_pos hab]
    · unfold Sf_T_unite; simp only [t1, t2, if_neg ne_10, if_pos hab]
    · show F_M_unite fl S (zI a) (zI b) = _
      unfold F_M_unite F_M_unite_j15 F_M_unite_j29
      simp only [p1, p3, if_neg ne_10, if_pos hab, if_neg le_20]
    · show Sf_M_unite fl S (zI a) (zI b)
      unfold Sf_M_unite Sf_M_unite_j15 Sf_M_unite_j29
      simp only [p1, p3, if_neg ne_10, if_pos hab, if_neg le_20]; exact ⟨p2, p4, trivial⟩
  have hne : a ≠ b := fun e => hab (by rw [e])
  have hn := h.n
  have hG : uG d b A 800 A := ⟨h.ok, hn, zNb.rfl, aBy_0 (Nat.le_refl _), aQuiet_0 (Nat.le_refl _)⟩
  have h17 : S 1 7 = zI A.2.1 := h.c.1.size
  have hCX : zCX S S d := ⟨fun k hk => rfl, fun k hk => rfl, h.d⟩
  obtain ⟨V1, v1, v2, v3, v4, v5⟩ := T_u1 ha hb (zI A.2.1) 3 0 1300 800 S A (by omega) (by omega) (by omega) hCX h.c hG
  generalize hB1 : u1 d a b 3 0 A = B1 at v4 v5
  obtain ⟨V2, x1, x2, x3, x4, x5⟩ := T_u2 ha hb (zI A.2.1) 30 0 1300 803 0 V1 B1 (by omega) (by omega) (by omega) (hCX.cx v3) v4 v5
  generalize hB2 : u2 d a b 30 0 B1 0 = B2 at x1 x4 x5
  obtain ⟨V3, y1, y2, y3, y4, y5⟩ := T_u3 ha hb (zI A.2.1) (zI B2.2) 3 0 1300 833 V2 B2.1 (by omega) (by omega) (by omega) ((hCX.cx v3).cx x3) x4 x5
  generalize hB3 : u3 d a b 3 0 B2.1 = B at y4 y5
  obtain ⟨hO, hN, hnb, hby, hq⟩ := y5
  have hm := hnb.1.1
  obtain ⟨D, d1, d2, d3, d4⟩ := T_lim (m := A.2.1) y4 hO (by omega) hm
  obtain ⟨r1, r2⟩ := aLim_ok (m := A.2.1) hO hm hn
  have hfcx : zFCX S D := ((v3.trans x3).trans y3).trans d3
  have v1' : F_T_unite_L46 (zI a) (zI b) (zI A.2.1) 1300 S 0 = V1 := v1
  have v2' : Sf_T_unite_L46 (zI a) (zI b) (zI A.2.1) 1300 S 0 := v2
  have x1' : F_T_unite_L103 (zI a) (zI b) (zI A.2.1) 1300 V1 0 0 = (zI B2.2, V2) := x1
  have x2' : Sf_T_unite_L103 (zI a) (zI b) (zI A.2.1) 1300 V1 0 0 := x2
  have y1' : F_T_unite_L158 (zI a) (zI b) (zI A.2.1) (zI B2.2) 1300 V2 0 = V3 := y1
  have y2' : Sf_T_unite_L158 (zI a) (zI b) (zI A.2.1) (zI B2.2) 1300 V2 0 := y2
  have e76 : D 76 = S 76 := hfcx.1 76 (by omega)
  have hM : ∀ U, zBM fl S U d A rn → ∃ W, F_M_unite fl U (zI a) (zI b) = (if B.2.1 ≤ 800 then F_M_unite_j216 fl W (zI a) (zI b) (zI B2.2) 0 else F_M_unite_j216 fl W (zI a) (zI b) (zI B2.2) 3) ∧ ((if B.2.1 ≤ 800 then Sf_M_unite_j216 fl W (zI a) (zI b) (zI B2.2) 0 else Sf_M_unite_j216 fl W (zI a) (zI b) (zI B2.2) 3) → Sf_M_unite fl U (zI a) (zI b)) ∧ zFMX U W ∧ zRM 86 W (aLim A.2.1 B) := by
    intro U hu
    obtain ⟨p1, p2, p3, p4⟩ := hMp U
    have h0 := hu.thr 0
    have hsz : U 78 2 = zI A.2.1 := hu.m.1.size
    obtain ⟨U1, k1, k2, k3, k4⟩ := M_u1 ha hb (zI A.2.1) 3 0 1300 800 _ A (by omega) (by omega) (by omega) h0.bx h0.m hG
    rw [hB1] at k4
    obtain ⟨U2, l1, l2, l3, l4⟩ := M_u2 ha hb (zI A.2.1) 30 0 1300 803 0 U1 B1 (by omega) (by omega) (by omega) (h0.bx.mx k3) k4 v5
    rw [hB2] at l1 l4
    obtain ⟨U3, n1, n2, n3, n4⟩ := M_u3 ha hb (zI A.2.1) (zI B2.2) 3 0 1300 833 U2 B2.1 (by omega) (by omega) (by omega) ((h0.bx.mx k3).mx l3) l4 x5
    rw [hB3] at n4
    obtain ⟨W, s1, s2, s3, s4⟩ := M_lim (p := b) (((h0.bx.mx k3).mx l3).mx n3) hb n4 hO (by omega) hm hby hq
    have k1' : F_M_unite_L49 fl (zI a) (zI b) (zI A.2.1) 1300 (z_uS U 78 0 0) 0 = U1 := k1
    have k2' : Sf_M_unite_L49 fl (zI a) (zI b) (zI A.2.1) 1300 (z_uS U 78 0 0) 0 := k2
    have l1' : F_M_unite_L104 fl (zI a) (zI b) (zI A.2.1) 1300 U1 0 0 = (zI B2.2, U2) := l1
    have l2' : Sf_M_unite_L104 fl (zI a) (zI b) (zI A.2.1) 1300 U1 0 0 := l2
    have n1' : F_M_unite_L180 fl (zI a) (zI b) (zI A.2.1) (zI B2.2) 1300 U2 0 = U3 := n1
    have n2' : Sf_M_unite_L180 fl (zI a) (zI b) (zI A.2.1) (zI B2.2) 1300 U2 0 := n2
    refine ⟨W, ?_, ?_, ((((zFMX.thr U 0).trans k3).trans l3).trans n3).trans s3, s4⟩
    · unfold F_M_unite F_M_unite_j29
      simp only [p1, p3, if_neg ne_10, if_neg hab, if_pos le_00, hsz, k1', l1', n1', s1]
      by_cases r8 : B.2.1 ≤ 800
      · simp only [if_pos r8, if_neg ne_10]
      · simp only [if_neg r8, if_true]
    · intro z
      unfold Sf_M_unite Sf_M_unite_j29
      simp only [p1, p3, if_neg ne_10, if_neg hab, if_pos le_00, hsz, k1', l1', n1', s1]
      refine ⟨p2, p4, k2', l2', n2', s2, ?_⟩
      by_cases r8 : B.2.1 ≤ 800
      · simp only [if_pos r8, if_neg ne_10] at z ⊢; exact z
      · simp only [if_neg r8, if_true] at z ⊢; exact z
  by_cases r8 : B.2.1 ≤ 800
  · rw [if_pos r8] at d1
    have eP : zPut D 76 8 (zI b) (zAt (D 76) 8 (zI b) ||| zAt (D 76) 8 (zI a)) = z_uS D 76 b (S 76 b ||| S 76 a) := by rw [zPut_I hb (by omega), zAt_I hb (by omega), zAt_I ha (by omega), e76]
    have hx : zFX S (z_uS (z_uS D 76 b (S 76 b ||| S 76 a)) 193 0 (zI B2.2)) := fun k k1 k2 => by rw [z_uS_ne _ _ _ k2, z_uS_ne _ _ _ (by omega)]; exact hfcx.x k k1 k2
    obtain ⟨W, m1, m2, m3, m4⟩ := hM _ (h.bm hx)
    rw [if_pos r8] at m1 m2
    have w183 : (z_uS W 78 0 0) 183 = S 183 := by rw [z_uS_ne _ _ _ (by omega), m3.1 183 (by omega)]; exact hx 183 (by omega) (by omega)
    obtain ⟨F, f1, f2, f3, f4, f5⟩ := M_wch (fl := fl) ha hb hne (X := fun i => zB (S 76 b) i) (Y := fun i => zB (S 76 a) i) (zI B2.2) 30 0 1300 (z_uS W 78 0 0) (by omega) (by omega) (fun j hj => by rw [w183]; exact hW.1 a ha j hj) (fun j hj => by rw [w183, if_neg (by omega)]; exact hW.1 b hb j hj)
    have f1' : F_M_unite_L231 fl (zI a) (zI b) (zI B2.2) 1300 (z_uS W 78 0 0) 0 = F := f1
    have f2' : Sf_M_unite_L231 fl (zI a) (zI b) (zI B2.2) 1300 (z_uS W 78 0 0) 0 := f2
    refine zOpQ_ok (V := z_uS D 76 b (S 76 b ||| S 76 a)) (v := zI B2.2) (W := F) ?_ ?_ ?_ (m2 ?_) (by rw [f3 78 (by omega), uS_at]) ?_ ⟨?_, ⟨aLim A.2.1 B, r1, r2, ?_, ?_, h.clim hnb⟩, ?_, ?_, ?_⟩
    · unfold F_T_unite
      simp only [t1, t2, if_neg ne_10, if_neg hab, h17, v1', x1', y1', d1, eP, z_let]
    · unfold Sf_T_unite
      simp only [t1, t2, if_neg ne_10, if_neg hab, h17, v1', x1', y1']
      exact ⟨v2', x2', y2', d2, trivial⟩
    · rw [m1]; unfold F_M_unite_j216
      simp only [if_pos le_00, f1']
    · unfold Sf_M_unite_j216
      simp only [if_pos le_00]
      exact ⟨f2', trivial⟩
    · rw [f3 193 (by omega), z_uS_ne _ _ _ (by omega), m3.1 193 (by omega), uS_at]
    · refine (((hfcx.wr.mono zW42_in).trans (zWr.cell (by decide) _ b _)).trans ((zWr.cell (by decide +kernel) _ 0 _).trans ((m3.wr.mono zW42_in).trans ((zFMX.thr W 0).wr.mono zW42_in)))).trans ?_
      intro k j hc
      rw [f3 k (zCov.ne hc (by decide) (by omega))]
    · refine d4.ag ?_ fun k hk => ?_
      · rw [f3 1 (by omega), z_uS_ne _ _ _ (by omega), m3.1 1 (by omega), z_uS_ne _ _ _ (by omega), z_uS_ne _ _ _ (by omega)]
      · rw [f3 k (by omega), z_uS_ne _ _ _ (by omega), m3.1 k (by omega), z_uS_ne _ _ _ (by omega), z_uS_ne _ _ _ (by omega)]
    · exact (m4.thr 0).ag (by omega) (by rw [f3 78 (by omega)]) (fun k hk => f3 k (by omega))
    · intro p hp i hi
      have eF : F 76 = (z_uS D 76 b (S 76 b ||| S 76 a)) 76 := by rw [f3 76 (by omega), z_uS_ne _ _ _ (by omega), m3.1 76 (by omega), z_uS_ne _ _ _ (by omega)]
      rw [eF]
      by_cases e : p = b
      · subst e
        rw [uS_at, f5 i hi, zB_or]; rfl
      · rw [uS_nj _ _ _ e, e76, f4 (30 * p + i) (fun j hj => by omega), w183]
        exact hW.1 p hp i hi
    · intro p hp i hi
      have eF : F 76 = (z_uS D 76 b (S 76 b ||| S 76 a)) 76 := by rw [f3 76 (by omega), z_uS_ne _ _ _ (by omega), m3.1 76 (by omega), z_uS_ne _ _ _ (by omega)]
      rw [eF]
      by_cases e : p = b
      · subst e
        rw [uS_at, zB_or, hW.2.1 p hp i hi, hW.2.1 a ha i hi]; rfl
      · rw [uS_nj _ _ _ e, e76]; exact hW.2.1 p hp i hi
    · intro p hp
      have e77 : F 77 = S 77 := by rw [f3 77 (by omega), z_uS_ne _ _ _ (by omega), m3.1 77 (by omega), z_uS_ne _ _ _ (by omega), z_uS_ne _ _ _ (by omega)]; exact hfcx.1 77 (by omega)
      have e184 : F 184 = S 184 := by rw [f3 184 (by omega), z_uS_ne _ _ _ (by omega), m3.1 184 (by omega)]; exact hx 184 (by omega) (by omega)
      rw [e77, e184]; exact hW.2.2 p hp
  · rw [if_neg r8] at d1
    obtain ⟨W, m1, m2, m3, m4⟩ := hM D (h.bm hfcx.x)
    rw [if_neg r8] at m1 m2
    refine zOpQ_err (E := "java/lang/IllegalStateException") (V := D) (x := 0) (W := z_uS W 78 0 3) ?_ ?_ (Or.inr (Or.inr rfl)) (by decide) ?_ (m2 ?_) (by rw [uS_at]; rfl) ((zEnd_of (Or.inl hfcx) (m3.trans (zFMX.thr _ _)) r1 ⟨r2, h.clim hnb⟩ d4 (m4.thr _)).w hW)
    · unfold F_T_unite
      simp only [t1, t2, if_neg ne_10, if_neg hab, h17, v1', x1', y1', d1, if_true]
    · unfold Sf_T_unite
      simp only [t1, t2, if_neg ne_10, if_neg hab, h17, v1', x1', y1']
      exact ⟨v2', x2', y2', d2, trivial⟩
    · rw [m1]; unfold F_M_unite_j216
      simp only [if_neg le_30]
    · unfold Sf_M_unite_j216
      simp only [if_neg le_30]
