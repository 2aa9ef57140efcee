/-! PURE: queries: the reference asks -/
def vM (U : Nat → Nat → Int32) (Q : zVq) : Prop := zWM 98 U Q.1 ∧ U 78 13 = zI Q.2.1 ∧ ∀ i, i < Q.2.1 → U 122 i = zI (Q.2.2.1 i) ∧ U 123 i = Q.2.2.2 i
/-- what asking writes -/
def zFa (U V : Nat → Nat → Int32) : Prop := (∀ k, k ≠ 78 → ¬ (98 ≤ k ∧ k ≤ 109) → k ≠ 122 → k ≠ 123 → V k = U k) ∧ ∀ j, j ≠ 13 → V 78 j = U 78 j
theorem zFa.rfl {U : Nat → Nat → Int32} : zFa U U := ⟨fun _ _ _ _ _ => Eq.refl _, fun _ _ => Eq.refl _⟩
theorem zFa.trans {U V W : Nat → Nat → Int32} (h : zFa U V) (g : zFa V W) : zFa U W := ⟨fun k a b c d => (g.1 k a b c d).trans (h.1 k a b c d), fun j hj => (g.2 j hj).trans (h.2 j hj)⟩
theorem zLgM.fa {L : zLg} {n : Nat} {U V : Nat → Nat → Int32} (h : zLgM L n U) (g : zFa U V) : zLgM L n V := h.ag (g.2 2 (by omega)) fun k a b => g.1 k (by omega) (by omega) (by omega) (by omega)
theorem looksAt_I {U : Nat → Nat → Int32} {L : zLg} {Q : zVq} {k n : Nat} (h : vM U Q) (hI : vI L k Q) (hn : n ≤ 900) (hk : k < n) (hL : zLgM L n U) (hW : zLgW L n) (hKn : (L k).1.1 = 2 ∨ (L k).1.1 = 3 → Q.1.1 (L k).1.2.1 = true) : ∃ V, F_M_looksAt U (zI k) = V ∧ Sf_M_looksAt U (zI k) ∧ vM V (vNx L k Q) ∧ zFa U V := by
  obtain ⟨hw, h13, h122⟩ := h
  have hc := hI.2.1.1
  have he := (hW k hk).1
  have hent := (hL.2 k hk).1
  obtain ⟨l79, l82, l83, l84, l85⟩ := id hent
  have ck : (zI k).toNatClampNeg = k := zI_clamp (by omega)
  have cc : (zI Q.2.1).toNatClampNeg = Q.2.1 := zI_clamp (by omega)
  have vc : vp_in (zI Q.2.1) 1200 := vp_in_I (by omega) (by omega)
  have vk : vp_in (zI k) 1200 := vp_in_I (by omega) (by omega)
  have fin : ∀ cm : Int32, ∃ V, F_M_looksAt_j46 (z_uS U 122 Q.2.1 (zI k)) (zI k) cm (zI Q.2.1) = V ∧ Sf_M_looksAt_j46 (z_uS U 122 Q.2.1 (zI k)) (zI k) cm (zI Q.2.1) ∧ zFa U V ∧ zWM 98 V (zApp (L k).1 Q.1) ∧ V 78 13 = zI (Q.2.1 + 1) ∧ (∀ i, V 122 i = if i = Q.2.1 then zI k else U 122 i) ∧ ∀ i, V 123 i = if i = Q.2.1 then cm else U 123 i := by
    intro cm
    generalize hA : z_uS (z_uS (z_uS U 122 Q.2.1 (zI k)) 123 Q.2.1 cm) 78 13 (zI (Q.2.1 + 1)) = A
    have An : ∀ c, c ≠ 78 → c ≠ 122 → c ≠ 123 → A c = U c := fun c a b d => by rw [← hA, z_uS_ne _ _ _ a, z_uS_ne _ _ _ d, z_uS_ne _ _ _ b]
    have A78 : ∀ j, j ≠ 13 → A 78 j = U 78 j := fun j hj => by rw [← hA, uS_nj _ _ _ hj, z_uS_ne _ _ _ (by omega), z_uS_ne _ _ _ (by omega)]
    have hwA : zWM 98 A Q.1 := hw.ag fun c a b => An c (by omega) (by omega) (by omega)
    have hlA : zLM A k (L k).1 := by
      unfold zLM at hent ⊢
      rw [An 79 (by omega) (by omega) (by omega), An 82 (by omega) (by omega) (by omega), An 83 (by omega) (by omega) (by omega), An 84 (by omega) (by omega) (by omega), An 85 (by omega) (by omega) (by omega)]
      exact hent
    obtain ⟨V, v1, v2, v3, v4, v5, v6⟩ := M_does_I hwA (show k < 1200 by omega) hlA he
    have e13 : (z_uS U 122 Q.2.1 (zI k)) 78 13 = zI Q.2.1 := by rw [z_uS_ne _ _ _ (by omega)]; exact h13
    have eA : z_uS (z_uS (z_uS U 122 Q.2.1 (zI k)) 123 Q.2.1 cm) 78 13 (zI Q.2.1 + 1) = A := by rw [zI_succ]; exact hA
    refine ⟨V, ?_, ?_, ⟨fun c a b d e => ?_, fun j hj => ?_⟩, v3, ?_, fun i => ?_, fun i => ?_⟩
    · unfold F_M_looksAt_j46
      simp only [z_let, cc, e13, eA]; exact v1
    · unfold Sf_M_looksAt_j46
      simp only [cc, e13, eA]; exact ⟨vc, v2, trivial⟩
    · rw [v4 c (by omega), An c a d e]
    · rw [v4 78 (by omega), A78 j hj]
    · rw [v4 78 (by omega), ← hA, uS_at]
    · rw [v4 122 (by omega), ← hA, z_uS_ne _ _ _ (by omega), z_uS_ne _ _ _ (by omega), z_uS_self]; rfl
    · rw [v4 123 (by omega), ← hA, z_uS_ne _ _ _ (by omega), z_uS_self]
      show (if i = Q.2.1 then cm else z_uS U 122 Q.2.1 (zI k) 123 i) = _
      rw [z_uS_ne _ _ _ (by omega)]
  have done : ∀ cm V, cm = (if (L k).1.1 = 2 ∧ (L k).1.2.2.1 = 0 then Q.1.2.1 (L k).1.2.1 0 else -1) → zWM 98 V (zApp (L k).1 Q.1) → V 78 13 = zI (Q.2.1 + 1) → (∀ i, V 122 i = if i = Q.2.1 then zI k else U 122 i) → (∀ i, V 123 i = if i = Q.2.1 then cm else U 123 i) → vM V (vNx L k Q) := by
    intro cm V e g1 g2 g3 g4
    refine ⟨g1, g2, fun i hi => ?_⟩
    have hi' : i < Q.2.1 + 1 := hi
    rw [g3, g4]
    by_cases q : i = Q.2.1
    · rw [if_pos q, if_pos q, q, (vNx_at L k Q).1, (vNx_at L k Q).2, e]; exact ⟨rfl, rfl⟩
    · rw [if_neg q, if_neg q, vNx_lk L k Q i (by omega), vNx_cm L k Q i (by omega)]; exact h122 i (by omega)
  unfold F_M_looksAt Sf_M_looksAt
  rw [h13, cc, ck, l79]
  by_cases t : (L k).1.1 = 2 ∧ (L k).1.2.2.1 = 0
  · have e2 : mK (L k).1 = 2 := by unfold mK; rw [if_neg (by omega), if_neg (by omega), if_pos t.1, if_pos t.2]
    have hx : (L k).1.2.1 < 30 := by rcases he with g | g | g | g <;> omega
    have hcol : U 101 (L k).1.2.1 = Q.1.2.1 (L k).1.2.1 0 := hw.col _ hx (hKn (Or.inl t.1)) 0 (by omega)
    have em : mI (L k).1 = zI (L k).1.2.1 := rfl
    obtain ⟨V, v1, v2, v3, v4, v5, v6, v7⟩ := fin (U 101 (L k).1.2.1)
    rw [if_pos e2, if_pos e2, l82, em, zI_clamp (show (L k).1.2.1 < 2147483648 by omega)]
    exact ⟨V, v1, ⟨vc, vk, vk, vp_in_I hx (by omega), v2⟩, done _ V (by rw [if_pos t]; exact hcol) v4 v5 v6 v7, v3⟩
  · have n2 : ¬ mK (L k).1 = 2 := by
      unfold mK
      rcases he with g | g | g | g
      · rw [if_pos g.1]; decide
      · rw [if_neg (by omega), if_pos g.1]; decide
      · rw [if_neg (by omega), if_neg (by omega), if_pos g.1, if_neg (fun z => t ⟨g.1, z⟩)]
        by_cases q : (L k).1.2.2.1 < 4
        · rw [if_pos q]; decide
        · rw [if_neg q, show (2 : Int32) = zI 2 from rfl, zI_inj (by omega) (by omega)]; omega
      · rw [if_neg (by omega), if_neg (by omega), if_neg (by omega)]; decide
    obtain ⟨V, v1, v2, v3, v4, v5, v6, v7⟩ := fin (-1)
    rw [if_neg n2, if_neg n2]
    exact ⟨V, v1, ⟨vc, vk, v2⟩, done _ V (by rw [if_neg t]) v4 v5 v6 v7, v3⟩
/-- both ways to ask -/
theorem asks_L {L : zLg} {n p : Nat} {d ix : Int32} {b : Bool} {w0 : zWd} {sel : zWd → Nat → Bool} (hL : vLg L n) (hp : p < 8) (h0 : w0.1 = fun _ => false) (hg : zRg w0) (hK : vKn L sel w0 n) (hsel : ∀ w k, k < n → sel w k = (decide (zI (L k).2.1 ≤ d) && (!b || (decide (zI k < ix) || (decide ((L k).2.2 = p) && (decide ((L k).1.1 = 0) || (decide ((L k).1.1 = 1) || w.1 (L k).1.2.1))))))) : ∀ (m k f : Nat) (U : Nat → Nat → Int32), k + m = n → m < f → zLgM L n U → U 78 16 = ix → vM U (vGo L sel w0 k) → ∃ W, F_M_asks_L15 (zI p) d (bI b) f U (zI k) = W ∧ Sf_M_asks_L15 (zI p) d (bI b) f U (zI k) ∧ vM W (vGo L sel w0 n) ∧ zFa U W := by
  obtain ⟨hW, hV, ⟨d0, hd0, hD⟩, hn⟩ := hL
  intro m
  induction m with
  | zero =>
    intro k f U hk hf hC hix hv
    obtain ⟨f, rfl⟩ : ∃ g, f = g + 1 := ⟨f - 1, by omega⟩
    have e : k = n := by omega
    rw [e] at hv ⊢
    have hl : U 78 2 ≤ zI n := by rw [hC.size, zI_le (by omega) (by omega)]; omega
    unfold F_M_asks_L15 Sf_M_asks_L15
    rw [if_pos hl, if_pos hl]
    exact ⟨U, rfl, trivial, hv, zFa.rfl⟩
  | succ m ih =>
    intro k f U hk hf hC hix hv
    obtain ⟨f, rfl⟩ : ∃ g, f = g + 1 := ⟨f - 1, by omega⟩
    have hl : ¬ U 78 2 ≤ zI k := by rw [hC.size, zI_le (by omega) (by omega)]; omega
    obtain ⟨hent, hday, hby⟩ := hC.2 k (by omega)
    obtain ⟨l79, l82, -, -, -⟩ := hent
    have he := (hW k (by omega)).1
    have hp8 := (hW k (by omega)).2.2.2.2
    have ck : (zI k).toNatClampNeg = k := zI_clamp (by omega)
    have vk : vp_in (zI k) 1200 := vp_in_I (by omega) (by omega)
    have hs0 := hsel (vGo L sel w0 k).1 k (by omega)
    have hKk := hK k (by omega)
    have hIk := vI.all hW hV hK h0 hg k (by omega)
    have ev : vGo L sel w0 (k + 1) = if sel (vGo L sel w0 k).1 k = true then vNx L k (vGo L sel w0 k) else vGo L sel w0 k := rfl
    generalize vGo L sel w0 k = Q at *
    have rd : sel Q.1 k = true → ∃ W, F_M_asks_l15_110 (F_M_asks_L15 (zI p) d (bI b) f) U (zI p) d (bI b) (zI k) = W ∧ Sf_M_asks_l15_110 (F_M_asks_L15 (zI p) d (bI b) f) (Sf_M_asks_L15 (zI p) d (bI b) f) U (zI p) d (bI b) (zI k) ∧ vM W (vGo L sel w0 n) ∧ zFa U W := by
      intro hs
      obtain ⟨A, a1, a2, a3, a4⟩ := looksAt_I hv hIk (by omega) (show k < n by omega) hC hW (hKk hs)
      obtain ⟨W, w1, w2, w3, w4⟩ := ih (k + 1) f A (by omega) (by omega) (hC.fa a4) (by rw [a4.2 16 (by omega)]; exact hix) (by rw [ev, if_pos hs]; exact a3)
      unfold F_M_asks_l15_110 Sf_M_asks_l15_110
      simp only [z_let, a1, zI_succ]
      exact ⟨W, w1, ⟨a2, w2⟩, w3, a4.trans w4⟩
    have sk : ¬ sel Q.1 k = true → ∃ W, F_M_asks_L15 (zI p) d (bI b) f U (zI k + 1) = W ∧ Sf_M_asks_L15 (zI p) d (bI b) f U (zI k + 1) ∧ vM W (vGo L sel w0 n) ∧ zFa U W := by
      intro hs
      rw [zI_succ]
      exact ih (k + 1) f U (by omega) (by omega) hC hix (by rw [ev, if_neg hs]; exact hv)
    have ch : ∀ o : Bool, (decide ((L k).2.2 = p) && (decide ((L k).1.1 = 0) || (decide ((L k).1.1 = 1) || Q.1.1 (L k).1.2.1))) = o → ∃ W, F_M_asks_l15_79 (F_M_asks_L15 (zI p) d (bI b) f) U (zI p) d (bI b) (zI k) (bI o) = W ∧ Sf_M_asks_l15_79 (F_M_asks_L15 (zI p) d (bI b) f) (Sf_M_asks_L15 (zI p) d (bI b) f) U (zI p) d (bI b) (zI k) (bI o) ∧ vM W (vGo L sel w0 n) ∧ zFa U W := by
      intro o ho
      rw [ho] at hs0
      unfold F_M_asks_l15_79 Sf_M_asks_l15_79
      rw [ck, hday, hix]
      by_cases q1 : d < zI (L k).2.1
      · rw [if_pos q1, if_pos q1]
        have : ¬ zI (L k).2.1 ≤ d := by rw [T_le]; rw [T_lt] at q1; omega
        obtain ⟨W, w1, w2, w3⟩ := sk (by rw [hs0, decide_eq_false this]; simp)
        exact ⟨W, w1, ⟨vk, w2⟩, w3⟩
      · have : zI (L k).2.1 ≤ d := by rw [T_le]; rw [T_lt] at q1; omega
        rw [decide_eq_true this, Bool.true_and] at hs0
        rw [if_neg q1, if_neg q1]
        cases hb : b
        · rw [hb] at hs0 rd
          rw [if_pos (show bI false = 0 from rfl), if_pos (show bI false = 0 from rfl)]
          obtain ⟨W, w1, w2, w3⟩ := rd (by rw [hs0]; rfl)
          exact ⟨W, w1, ⟨vk, w2⟩, w3⟩
        · rw [hb] at hs0 rd sk
          rw [if_neg (show ¬ bI true = 0 by decide), if_neg (show ¬ bI true = 0 by decide)]
          by_cases q2 : zI k < ix
          · rw [if_pos q2, if_pos q2]
            obtain ⟨W, w1, w2, w3⟩ := rd (by rw [hs0, decide_eq_true q2]; rfl)
            exact ⟨W, w1, ⟨vk, w2⟩, w3⟩
          · rw [if_neg q2, if_neg q2]
            cases o
            · rw [if_pos (show bI false = 0 from rfl), if_pos (show bI false = 0 from rfl)]
              obtain ⟨W, w1, w2, w3⟩ := sk (by rw [hs0, decide_eq_false q2]; simp)
              exact ⟨W, w1, ⟨vk, w2⟩, w3⟩
            · rw [if_neg (show ¬ bI true = 0 by decide), if_neg (show ¬ bI true = 0 by decide)]
              obtain ⟨W, w1, w2, w3⟩ := rd (by rw [hs0]; simp)
              exact ⟨W, w1, ⟨vk, w2⟩, w3⟩
    unfold F_M_asks_L15 Sf_M_asks_L15
    rw [if_neg hl, if_neg hl, ck, hby, l79, l82]
    unfold F_M_asks_l15_74 Sf_M_asks_l15_74 F_M_asks_l15_78 Sf_M_asks_l15_78
    by_cases q : (L k).2.2 = p
    · have eq : zI (L k).2.2 = zI p := by rw [q]
      rw [if_pos eq, if_pos eq]
      by_cases t0 : (L k).1.1 = 0
      · have e0 : mK (L k).1 = 0 := by unfold mK; rw [if_pos t0]
        rw [if_pos e0, if_pos e0]
        obtain ⟨W, w1, w2, w3⟩ := ch true (by rw [decide_eq_true q, decide_eq_true t0]; rfl)
        exact ⟨W, w1, ⟨vk, vk, w2⟩, w3⟩
      · have n0 : ¬ mK (L k).1 = 0 := by
          unfold mK
          rw [if_neg t0]
          rcases he with g | g | g | g
          · exact absurd g.1 t0
          · rw [if_pos g.1]; decide
          · rw [if_neg (by omega), if_pos g.1]
            split
            · decide
            · split
              · decide
              · rw [show (0 : Int32) = zI 0 from rfl, zI_inj (by omega) (by omega)]; omega
          · rw [if_neg (by omega), if_neg (by omega)]; decide
        rw [if_neg n0, if_neg n0]
        by_cases t1 : (L k).1.1 = 1
        · have e1 : mK (L k).1 = 1 := by unfold mK; rw [if_neg t0, if_pos t1]
          rw [if_pos e1, if_pos e1]
          obtain ⟨W, w1, w2, w3⟩ := ch true (by rw [decide_eq_true q, decide_eq_true t1]; simp)
          exact ⟨W, w1, ⟨vk, vk, vk, w2⟩, w3⟩
        · have n1 : ¬ mK (L k).1 = 1 := by
            unfold mK
            rw [if_neg t0, if_neg t1]
            split
            · split
              · decide
              · split
                · decide
                · rcases he with g | g | g | g
                  · omega
                  · omega
                  · rw [show (1 : Int32) = zI 1 from rfl, zI_inj (by omega) (by omega)]; omega
                  · omega
            · decide
          have hx : (L k).1.2.1 < 30 := by rcases he with g | g | g | g <;> omega
          have em : mI (L k).1 = zI (L k).1.2.1 := rfl
          have e107 : U 107 (L k).1.2.1 = if Q.1.1 (L k).1.2.1 = true then 1 else 0 := hv.1.has _ hx
          rw [if_neg n1, if_neg n1, em, zI_clamp (show (L k).1.2.1 < 2147483648 by omega), e107]
          have C := ch (Q.1.1 (L k).1.2.1) (by rw [decide_eq_true q, decide_eq_false t0, decide_eq_false t1]; rfl)
          cases hq : Q.1.1 (L k).1.2.1
          · rw [hq] at C
            simp only [Bool.false_eq_true, if_false, if_true]
            obtain ⟨W, w1, w2, w3⟩ := C
            exact ⟨W, w1, ⟨vk, vk, vk, vk, vp_in_I hx (by omega), w2⟩, w3⟩
          · rw [hq] at C
            simp only [if_true, if_neg ne_10]
            obtain ⟨W, w1, w2, w3⟩ := C
            exact ⟨W, w1, ⟨vk, vk, vk, vk, vp_in_I hx (by omega), w2⟩, w3⟩
    · have n2 : ¬ zI (L k).2.2 = zI p := fun z => q ((zI_inj (by omega) (by omega)).mp z)
      rw [if_neg n2, if_neg n2]
      obtain ⟨W, w1, w2, w3⟩ := ch false (by rw [decide_eq_false q]; rfl)
      exact ⟨W, w1, ⟨vk, w2⟩, w3⟩
theorem asks_I {U : Nat → Nat → Int32} {L : zLg} {n p : Nat} {d ix : Int32} {b : Bool} {w0 : zWd} {sel : zWd → Nat → Bool} (hL : vLg L n) (hp : p < 8) (h0 : w0.1 = fun _ => false) (hl0 : w0.2.2.1 = fun _ _ _ => false) (hr0 : w0.2.2.2 = fun _ => 0) (hg : zRg w0) (hK : vKn L sel w0 n) (hsel : ∀ w k, k < n → sel w k = (decide (zI (L k).2.1 ≤ d) && (!b || (decide (zI k < ix) || (decide ((L k).2.2 = p) && (decide ((L k).1.1 = 0) || (decide ((L k).1.1 = 1) || w.1 (L k).1.2.1))))))) (hC : zLgM L n U) (hix : U 78 16 = ix) : ∃ W, F_M_asks U (zI p) d (bI b) = W ∧ Sf_M_asks U (zI p) d (bI b) ∧ vM W (vGo L sel w0 n) ∧ zFa U W := by
  obtain ⟨A, a1, a2, a3, a4, a5, a6⟩ := MW_empty_I (b := 98) U
  generalize hB : z_uS A 78 13 0 = B
  have Bn : ∀ k, k ≠ 78 → B k = A k := fun k hk => by rw [← hB, z_uS_ne _ _ _ hk]
  have fB : zFa U B := ⟨fun k a b _ _ => by rw [Bn k a, a4 k (by omega)], fun j hj => by rw [← hB, uS_nj _ _ _ hj, a4 78 (by omega)]⟩
  have hw : zWM 98 B w0 := by
    have g : zWM 98 B zEmpty := a3.ag fun k a b => Bn k (by omega)
    refine g.same ⟨fun i hi => by rw [h0]; rfl, (fun i hi hw => by cases hw), fun t ht i hi j hj => by rw [hl0]; rfl, fun k hk => by rw [hr0]; rfl⟩
  have hv : vM B (vGo L sel w0 0) := ⟨hw, by rw [← hB, uS_at]; rfl, fun i hi => by have : i < 0 := hi; omega⟩
  obtain ⟨W, w1, w2, w3, w4⟩ := asks_L (ix := ix) hL hp h0 hg hK hsel n 0 1300 B (by omega) (by have := hL.2.2.2; omega) (hC.fa fB) (by rw [fB.2 16 (by omega)]; exact hix) hv
  rw [zI_0] at w1 w2
  refine ⟨W, ?_, ?_, w3, fB.trans w4⟩
  · unfold F_M_asks; simp only [z_let, a1, hB]; exact w1
  · unfold Sf_M_asks; simp only [z_let, a1, hB]; exact ⟨a2, w2, trivial⟩
