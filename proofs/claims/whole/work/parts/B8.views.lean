/-! PURE: queries: the class's views; the reference's -/
theorem vGo_tail {L : zLg} {sel : zWd → Nat → Bool} {w0 : zWd} {k : Nat} : ∀ m, (∀ j, k ≤ j → j < k + m → ∀ w, sel w j = false) → vGo L sel w0 (k + m) = vGo L sel w0 k := by
  intro m
  induction m with
  | zero => intro _; rfl
  | succ m ih =>
    intro h
    show (if sel (vGo L sel w0 (k + m)).1 (k + m) = true then _ else vGo L sel w0 (k + m)) = _
    rw [h (k + m) (by omega) (by omega), if_neg (by simp)]
    exact ih fun j a b => h j a (by omega)
theorem zLgC.fv {L : zLg} {n : Nat} {V W : Nat → Nat → Int32} (h : zLgC L n V) (g : zFv V W) : zLgC L n W := h.ag (by rw [g.1 1 (by omega)]) fun k a b => g.1 k (by omega)
/-- what reading needs of the entries -/
def vLg (L : zLg) (n : Nat) : Prop := zLgW L n ∧ zLgV L n ∧ (∃ d0, d0 ≤ 400 ∧ zLgD L n d0) ∧ n ≤ 800
theorem upTo_L {L : zLg} {n : Nat} {d : Int32} {w0 : zWd} (hL : vLg L n) (h0 : w0.1 = fun _ => false) (hg : zRg w0) : ∀ (m k f : Nat) (V : Nat → Nat → Int32), k + m = n → m < f → zLgC L n V → vC V L (vGo L (selU L d) w0 k) → ∃ W, F_View_readUpTo_L14 d f V (zI k) = W ∧ Sf_View_readUpTo_L14 d f V (zI k) ∧ vC W L (vGo L (selU L d) w0 n) ∧ zFv V W := by
  obtain ⟨hW, hV, ⟨d0, hd0, hD⟩, hn⟩ := hL
  have hK := vKn_U (d := d) hW hV hD hd0 h0
  intro m
  induction m with
  | zero =>
    intro k f V hk hf hC hv
    obtain ⟨f, rfl⟩ : ∃ g, f = g + 1 := ⟨f - 1, by omega⟩
    have e : k = n := by omega
    rw [e] at hv ⊢
    have hl : V 1 7 ≤ zI n := by rw [hC.size, zI_le (by omega) (by omega)]; omega
    unfold F_View_readUpTo_L14 Sf_View_readUpTo_L14
    rw [if_pos hl, if_pos hl]
    exact ⟨V, rfl, trivial, hv, zFv.rfl⟩
  | succ m ih =>
    intro k f V hk hf hC hv
    obtain ⟨f, rfl⟩ : ∃ g, f = g + 1 := ⟨f - 1, by omega⟩
    have hl : ¬ V 1 7 ≤ zI k := by rw [hC.size, zI_le (by omega) (by omega)]; omega
    have ed : zAt (V 2) 900 (zI k) = zI (L k).2.1 := by rw [zAt_I (by omega) (by omega)]; exact (hC.2 k (by omega)).2.1
    have hdk := hD.1 k (by omega)
    unfold F_View_readUpTo_L14 Sf_View_readUpTo_L14
    rw [if_neg hl, if_neg hl, ed]
    by_cases q : d < zI (L k).2.1
    · rw [if_pos q, if_pos q]
      refine ⟨V, rfl, trivial, ?_, zFv.rfl⟩
      rw [show n = k + (m + 1) by omega, vGo_tail]
      · exact hv
      · intro j a b w
        refine decide_eq_false fun z => ?_
        rw [T_lt, zI_toInt (by omega)] at q
        have h1 := hD.1 j (by omega)
        rw [T_le, zI_toInt (by omega)] at z
        by_cases e : j = k
        · subst e; omega
        · have := hD.2 k j (by omega) (by omega); omega
    · rw [if_neg q, if_neg q]
      have hs : selU L d (vGo L (selU L d) w0 k).1 k = true := decide_eq_true (by rw [T_le]; rw [T_lt] at q; omega)
      obtain ⟨A, a1, a2, a3, a4⟩ := View_read_I hv (vI.all hW hV hK h0 hg k (by omega)) (by omega) (show k < n by omega) hC hW (hV k (by omega)) (hK k (by omega) hs)
      have ev : vGo L (selU L d) w0 (k + 1) = vNx L k (vGo L (selU L d) w0 k) := by show (if _ then _ else _) = _; rw [if_pos hs]
      obtain ⟨W, w1, w2, w3, w4⟩ := ih (k + 1) f A (by omega) (by omega) (hC.fv a4) (by rw [ev]; exact a3)
      simp only [z_let, a1, zI_succ]
      exact ⟨W, w1, ⟨a2, w2⟩, w3, a4.trans w4⟩
theorem idx_L {L : zLg} {n p : Nat} {ix : Int32} {w0 : zWd} (hL : vLg L n) (hp : p < 8) (h0 : w0.1 = fun _ => false) (hg : zRg w0) : ∀ (m k f : Nat) (V : Nat → Nat → Int32), k + m = n → m < f → zLgC L n V → vC V L (vGo L (selX L ix p) w0 k) → ∃ W, F_View_readIndexed_L16 ix (zI p) f V (zI k) = W ∧ Sf_View_readIndexed_L16 ix (zI p) f V (zI k) ∧ vC W L (vGo L (selX L ix p) w0 n) ∧ zFv V W := by
  obtain ⟨hW, hV, ⟨d0, hd0, hD⟩, hn⟩ := hL
  have hK := vKn_X (p := p) (ix := ix) (w0 := w0) hW hV (by omega) h0
  intro m
  induction m with
  | zero =>
    intro k f V hk hf hC hv
    obtain ⟨f, rfl⟩ : ∃ g, f = g + 1 := ⟨f - 1, by omega⟩
    have e : k = n := by omega
    rw [e] at hv ⊢
    have hl : V 1 7 ≤ zI n := by rw [hC.size, zI_le (by omega) (by omega)]; omega
    unfold F_View_readIndexed_L16 Sf_View_readIndexed_L16
    rw [if_pos hl, if_pos hl]
    exact ⟨V, rfl, trivial, hv, zFv.rfl⟩
  | succ m ih =>
    intro k f V hk hf hC hv
    obtain ⟨f, rfl⟩ : ∃ g, f = g + 1 := ⟨f - 1, by omega⟩
    have hl : ¬ V 1 7 ≤ zI k := by rw [hC.size, zI_le (by omega) (by omega)]; omega
    obtain ⟨hent, -, hby⟩ := hC.2 k (by omega)
    obtain ⟨l4, l5, -, -, -⟩ := hent
    have he := (hW k (by omega)).1
    have hp8 := (hW k (by omega)).2.2.2.2
    have e3 : zAt (V 3) 900 (zI k) = zI (L k).2.2 := by rw [zAt_I (by omega) (by omega)]; exact hby
    have e4 : zAt (V 4) 900 (zI k) = eI (L k).1 := by rw [zAt_I (by omega) (by omega)]; exact l4
    have e5 : zAt (V 5) 900 (zI k) = eW (L k).1 := by rw [zAt_I (by omega) (by omega)]; exact l5
    generalize hQ : vGo L (selX L ix p) w0 k = Q at *
    have ev : vGo L (selX L ix p) w0 (k + 1) = if selX L ix p Q.1 k = true then vNx L k Q else Q := by show (if selX L ix p (vGo L (selX L ix p) w0 k).1 k = true then _ else _) = _; rw [hQ]
    -- read it
    have rd : selX L ix p Q.1 k = true → ∃ W, F_View_readIndexed_l16_99 (F_View_readIndexed_L16 ix (zI p) f) V ix (zI p) (zI k) = W ∧ Sf_View_readIndexed_l16_99 (F_View_readIndexed_L16 ix (zI p) f) (Sf_View_readIndexed_L16 ix (zI p) f) V ix (zI p) (zI k) ∧ vC W L (vGo L (selX L ix p) w0 n) ∧ zFv V W := by
      intro hs
      obtain ⟨A, a1, a2, a3, a4⟩ := View_read_I hv (by rw [← hQ]; exact vI.all hW hV hK h0 hg k (by omega)) (by omega) (show k < n by omega) hC hW (hV k (by omega)) (by have := hK k (by omega); rw [hQ] at this; exact this hs)
      obtain ⟨W, w1, w2, w3, w4⟩ := ih (k + 1) f A (by omega) (by omega) (hC.fv a4) (by rw [ev, if_pos hs]; exact a3)
      unfold F_View_readIndexed_l16_99 Sf_View_readIndexed_l16_99
      simp only [z_let, a1, zI_succ]
      exact ⟨W, w1, ⟨a2, w2⟩, w3, a4.trans w4⟩
    have sk : ¬ selX L ix p Q.1 k = true → ∃ W, F_View_readIndexed_L16 ix (zI p) f V (zI k + 1) = W ∧ Sf_View_readIndexed_L16 ix (zI p) f V (zI k + 1) ∧ vC W L (vGo L (selX L ix p) w0 n) ∧ zFv V W := by
      intro hs
      rw [zI_succ]
      exact ih (k + 1) f V (by omega) (by omega) hC (by rw [ev, if_neg hs]; exact hv)
    -- the choice, by whether it is known
    have ch : ∀ b : Bool, (decide ((L k).1.1 = 0) || (decide ((L k).1.1 = 1) || Q.1.1 (L k).1.2.1)) = b → ∃ W, F_View_readIndexed_l16_73 (F_View_readIndexed_L16 ix (zI p) f) V ix (zI p) (zI k) (bI b) = W ∧ Sf_View_readIndexed_l16_73 (F_View_readIndexed_L16 ix (zI p) f) (Sf_View_readIndexed_L16 ix (zI p) f) V ix (zI p) (zI k) (bI b) ∧ vC W L (vGo L (selX L ix p) w0 n) ∧ zFv V W := by
      intro b hb
      have hsel : selX L ix p Q.1 k = (decide (zI k < ix) || (decide ((L k).2.2 = p) && b)) := by unfold selX; rw [hb]
      unfold F_View_readIndexed_l16_73 Sf_View_readIndexed_l16_73
      by_cases q1 : zI k < ix
      · rw [if_pos q1, if_pos q1]
        exact rd (by rw [hsel, decide_eq_true q1]; rfl)
      · rw [if_neg q1, if_neg q1, e3]
        by_cases q2 : (L k).2.2 = p
        · have e2 : zI (L k).2.2 = zI p := by rw [q2]
          rw [if_pos e2, if_pos e2]
          cases b
          · rw [if_pos (show bI false = 0 from rfl), if_pos (show bI false = 0 from rfl)]
            exact sk (by rw [hsel, decide_eq_false q1]; simp)
          · rw [if_neg (show ¬ bI true = 0 by decide), if_neg (show ¬ bI true = 0 by decide)]
            exact rd (by rw [hsel, decide_eq_true q2]; simp)
        · have n2 : ¬ zI (L k).2.2 = zI p := fun z => q2 ((zI_inj (by omega) (by omega)).mp z)
          rw [if_neg n2, if_neg n2]
          exact sk (by rw [hsel, decide_eq_false q1, decide_eq_false q2]; simp)
    unfold F_View_readIndexed_L16 Sf_View_readIndexed_L16
    rw [if_neg hl, if_neg hl, e4, e5]
    unfold F_View_readIndexed_l16_68 Sf_View_readIndexed_l16_68
    by_cases t0 : (L k).1.1 = 0
    · have e : eI (L k).1 = -1 := by unfold eI; rw [if_pos t0]
      rw [if_pos e, if_pos e]
      exact ch true (by rw [decide_eq_true t0]; rfl)
    · have hx : (L k).1.2.1 < 30 := by rcases he with g | g | g | g <;> omega
      have e : eI (L k).1 = zI (L k).1.2.1 := by unfold eI; rw [if_neg t0]
      have n1 : ¬ eI (L k).1 = -1 := by rw [e]; exact m1_ne _ (by omega)
      rw [if_neg n1, if_neg n1]
      by_cases t1 : (L k).1.1 = 1
      · have e13 : eW (L k).1 = 13 := by unfold eW; rw [if_neg t0, if_pos t1]
        rw [if_pos e13, if_pos e13]
        exact ch true (by rw [decide_eq_true t1]; simp)
      · have n13 : ¬ eW (L k).1 = 13 := by
          unfold eW
          rw [if_neg t0, if_neg t1]
          rcases he with g | g | g | g
          · omega
          · omega
          · rw [if_pos g.1, show (13 : Int32) = zI 13 from rfl, zI_inj (by omega) (by omega)]; omega
          · rw [if_neg (by omega), show (13 : Int32) = zI 13 from rfl, zI_inj (by omega) (by omega)]; omega
        rw [if_neg n13, if_neg n13, e, World_has_I hx, hv.1.has _ hx]
        have C := ch (Q.1.1 (L k).1.2.1) (by rw [decide_eq_false t0, decide_eq_false t1]; rfl)
        cases q : Q.1.1 (L k).1.2.1
        · rw [q] at C
          simp only [Bool.false_eq_true, if_false, if_true]
          exact C
        · rw [q] at C
          simp only [if_true, if_neg ne_10]
          exact C
/-- the world that the class's view starts from -/
def vW0 (S : Nat → Nat → Int32) : zWd := ((fun _ => false), (fun i c => S 29 (10 * i + c)), (fun _ _ _ => false), fun _ => 0)
theorem vW0_rg (S : Nat → Nat → Int32) : zRg (vW0 S) := ⟨(fun i hi hw => by cases hw), fun k hk => by show 0 ≤ (0 : Int32).toInt ∧ (0 : Int32).toInt ≤ 15; decide⟩
theorem clear_I (S : Nat → Nat → Int32) : zWC 28 (F_World_clear 28 S) (vW0 S) ∧ zFv S (F_World_clear 28 S) := by
  unfold F_World_clear
  simp only [z_let]
  have e28 : ∀ j, z_uS (zFill (zFill S (28 + 2) 90 0) (28 + 3) 24 0) 28 3 0 28 j = if j = 3 then 0 else S 28 j := fun j => by
    rw [z_uS_self]
    have e : zFill (zFill S (28 + 2) 90 0) (28 + 3) 24 0 28 j = S 28 j := by rw [zFill_at, if_neg (by omega), zFill_at, if_neg (by omega)]
    show (if j = 3 then 0 else zFill (zFill S (28 + 2) 90 0) (28 + 3) 24 0 28 j) = _
    rw [e]
  have en : ∀ k, k ≠ 28 → ∀ j, z_uS (zFill (zFill S (28 + 2) 90 0) (28 + 3) 24 0) 28 3 0 k j = if k = 31 ∧ j < 24 then 0 else if k = 30 ∧ j < 90 then 0 else S k j := fun k hk j => by
    rw [z_uS_ne _ _ _ hk, zFill_at, zFill_at]
  refine ⟨⟨fun i hi => ?_, fun i hi => ?_, fun i hi c hc => ?_, fun t ht i hi j hj => ?_, fun t ht i hi j hj => ?_, fun k hk => ?_⟩, fun k hk => ?_, fun j hj => ?_⟩
  · rw [e28, if_pos rfl, zB_0]; rfl
  · rw [e28, if_pos rfl, zB_0]
  · rw [en 29 (by omega), if_neg (by omega), if_neg (by omega)]; rfl
  · rw [en 30 (by omega), if_neg (by omega), if_pos (by omega), zB_0]; rfl
  · rw [en 30 (by omega), if_neg (by omega), if_pos (by omega), zB_0]
  · rw [en 31 (by omega), if_pos (by omega)]; rfl
  · funext j; rw [en k (by omega), if_neg (by omega), if_neg (by omega)]
  · rw [e28, if_neg hj]
/-- a view's frame, with its day -/
def zFw (V W : Nat → Nat → Int32) : Prop := (∀ k, k < 27 ∨ 35 < k → W k = V k) ∧ (∀ j, j ≠ 5 → W 27 j = V 27 j) ∧ ∀ j, j ≠ 3 → W 28 j = V 28 j
theorem zFv.w {V W : Nat → Nat → Int32} (h : zFv V W) : zFw V W := ⟨fun k hk => h.1 k (by omega), fun j _ => by rw [h.1 27 (by omega)], h.2⟩
theorem zFw.trans {V W X : Nat → Nat → Int32} (h : zFw V W) (g : zFw W X) : zFw V X := ⟨fun k hk => (g.1 k hk).trans (h.1 k hk), fun j hj => (g.2.1 j hj).trans (h.2.1 j hj), fun j hj => (g.2.2 j hj).trans (h.2.2 j hj)⟩
theorem vC.zero {V : Nat → Nat → Int32} {L : zLg} {sel : zWd → Nat → Bool} {w0 : zWd} (h : zWC 28 V w0) (h0 : w0.1 = fun _ => false) : vC V L (vGo L sel w0 0) := ⟨h, fun i hi hw => by
  have : w0.1 i = true := hw
  rw [h0] at this; cases this⟩
theorem readUpTo_I {S : Nat → Nat → Int32} {L : zLg} {n : Nat} (hL : vLg L n) (hC : zLgC L n S) (d : Int32) : ∃ W, F_View_readUpTo S d = W ∧ Sf_View_readUpTo S d ∧ vC W L (vGo L (selU L d) (vW0 S) n) ∧ zFw S W ∧ W 27 5 = d := by
  obtain ⟨c1, c2⟩ := clear_I S
  generalize hA : z_uS (F_World_clear 28 S) 27 5 d = A
  have hSA : ∀ k, k ≠ 27 → A k = F_World_clear 28 S k := fun k hk => by rw [← hA, z_uS_ne _ _ _ hk]
  have fA : zFw S A := c2.w.trans ⟨fun k hk => hSA k (by omega), fun j hj => by rw [← hA, uS_nj _ _ _ hj], fun j _ => by rw [hSA 28 (by omega)]⟩
  have h0 : (vW0 S).1 = fun _ => false := rfl
  have cA : zWC 28 A (vW0 S) := c1.ag (by rw [hSA 28 (by omega)]) (hSA _ (by omega)) (hSA _ (by omega)) (hSA _ (by omega))
  have lA : zLgC L n A := hC.ag (by rw [fA.1 1 (by omega)]) fun k a b => fA.1 k (by omega)
  obtain ⟨W, w1, w2, w3, w4⟩ := upTo_L (d := d) hL h0 (vW0_rg S) n 0 1300 A (by omega) (by have := hL.2.2.2; omega) lA (vC.zero cA h0)
  rw [zI_0] at w1 w2
  refine ⟨W, ?_, ?_, w3, fA.trans w4.w, by rw [w4.1 27 (by omega), ← hA, uS_at]⟩
  · unfold F_View_readUpTo; simp only [z_let, hA]; exact w1
  · unfold Sf_View_readUpTo; simp only [z_let, hA]; exact ⟨w2, trivial⟩
theorem readIndexed_I {S : Nat → Nat → Int32} {L : zLg} {n p : Nat} (hL : vLg L n) (hp : p < 8) (hC : zLgC L n S) (ix d : Int32) : ∃ W, F_View_readIndexed S ix (zI p) d = W ∧ Sf_View_readIndexed S ix (zI p) d ∧ vC W L (vGo L (selX L ix p) (vW0 S) n) ∧ zFw S W ∧ W 27 5 = d := by
  obtain ⟨c1, c2⟩ := clear_I S
  generalize hA : z_uS (F_World_clear 28 S) 27 5 d = A
  have hSA : ∀ k, k ≠ 27 → A k = F_World_clear 28 S k := fun k hk => by rw [← hA, z_uS_ne _ _ _ hk]
  have fA : zFw S A := c2.w.trans ⟨fun k hk => hSA k (by omega), fun j hj => by rw [← hA, uS_nj _ _ _ hj], fun j _ => by rw [hSA 28 (by omega)]⟩
  have h0 : (vW0 S).1 = fun _ => false := rfl
  have cA : zWC 28 A (vW0 S) := c1.ag (by rw [hSA 28 (by omega)]) (hSA _ (by omega)) (hSA _ (by omega)) (hSA _ (by omega))
  have lA : zLgC L n A := hC.ag (by rw [fA.1 1 (by omega)]) fun k a b => fA.1 k (by omega)
  obtain ⟨W, w1, w2, w3, w4⟩ := idx_L (ix := ix) hL hp h0 (vW0_rg S) n 0 1300 A (by omega) (by have := hL.2.2.2; omega) lA (vC.zero cA h0)
  rw [zI_0] at w1 w2
  refine ⟨W, ?_, ?_, w3, fA.trans w4.w, by rw [w4.1 27 (by omega), ← hA, uS_at]⟩
  · unfold F_View_readIndexed; simp only [z_let, hA]; exact w1
  · unfold Sf_View_readIndexed; simp only [z_let, hA]; exact ⟨w2, trivial⟩
