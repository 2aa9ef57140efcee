/-! PURE: the reference does an entry -/
theorem nar_1 : vp_nar .boolean 1 = 1 := by decide
theorem nar_0 : vp_nar .boolean 0 = 0 := by decide
theorem MW_begins_L {w i : Nat} (hi : i < 30) : ∀ (n c f : Nat) (S : Nat → Nat → Int32), c + n = 3 → n < f →
    ∃ V, F_MW_begins_L53 w (zI i) f S (zI c) = V ∧ Sf_MW_begins_L53 w (zI i) f S (zI c) ∧ (∀ k, k ≠ w + 4 → V k = S k) ∧ ∀ j, V (w + 4) j = if 3 * i + c ≤ j ∧ j < 3 * i + 3 then -1 else S (w + 4) j := by
  intro n
  induction n with
  | zero =>
    intro c f S hc hf
    obtain ⟨f, rfl⟩ : ∃ g, f = g + 1 := ⟨f - 1, by omega⟩
    have hl : (3 : Int32) ≤ zI c := by rw [show (3 : Int32) = zI 3 from rfl, zI_le (by omega) (by omega)]; omega
    refine ⟨S, ?_, ?_, fun _ _ => rfl, fun j => by rw [if_neg (by omega)]⟩
    · unfold F_MW_begins_L53; rw [if_pos hl]
    · unfold Sf_MW_begins_L53; rw [if_pos hl]; trivial
  | succ n ih =>
    intro c f S hc hf
    obtain ⟨f, rfl⟩ : ∃ g, f = g + 1 := ⟨f - 1, by omega⟩
    have hl : ¬ (3 : Int32) ≤ zI c := by rw [show (3 : Int32) = zI 3 from rfl, zI_le (by omega) (by omega)]; omega
    have e : (3 : Int32) * zI i + zI c = zI (3 * i + c) := by rw [show (3 : Int32) = zI 3 from rfl, zI_mul, zI_add]
    obtain ⟨V, v1, v2, v3, v4⟩ := ih (c + 1) f (z_uS S (w + 4) (3 * i + c) (-1)) (by omega) (by omega)
    refine ⟨V, ?_, ?_, fun k hk => by rw [v3 k hk, z_uS_ne _ _ _ hk], fun j => ?_⟩
    · unfold F_MW_begins_L53; rw [if_neg hl, e, zI_succ, zI_clamp (by omega)]; exact v1
    · unfold Sf_MW_begins_L53; rw [if_neg hl, e, zI_succ, zI_clamp (by omega)]; exact ⟨vp_in_I (by omega) (by omega), v2⟩
    · rw [v4 j]
      by_cases hj : j = 3 * i + c
      · subst hj; rw [if_neg (by omega), if_pos (by omega), uS_at]
      · rw [uS_nj _ _ _ hj]
        by_cases hj2 : 3 * i + (c + 1) ≤ j ∧ j < 3 * i + 3
        · rw [if_pos hj2, if_pos (by omega)]
        · rw [if_neg hj2, if_neg (by omega)]
theorem MW_begins_I {b : Nat} {U : Nat → Nat → Int32} {w : zWd} (h : zWM b U w) {i : Nat} (hi : i < 30) (project kind : Int32) : ∃ V, F_MW_begins b U (zI i) project kind = V ∧ Sf_MW_begins b U (zI i) project kind ∧ zWM b V (zBeg w i kind project) ∧ (∀ k, (k < b ∨ b + 9 < k) → V k = U k) ∧ (∀ j, j ≠ 0 → V b j = U b j) ∧ V b 0 = if zI i < U b 0 then U b 0 else zI (i + 1) := by
  have hcl : (zI i).toNatClampNeg = i := zI_clamp (by omega)
  have vin : vp_in (zI i) 30 := vp_in_I hi (by omega)
  have key : ∀ s0 : Int32, ∃ V, F_MW_begins_j26 b (z_uS U (b + 9) i 1) (zI i) project kind s0 = V ∧ Sf_MW_begins_j26 b (z_uS U (b + 9) i 1) (zI i) project kind s0 ∧ zWM b V (zBeg w i kind project) ∧ (∀ k, (k < b ∨ b + 9 < k) → V k = U k) ∧ (∀ j, j ≠ 0 → V b j = U b j) ∧ V b 0 = s0 := by
    intro s0
    obtain ⟨V, v1, v2, v3, v4⟩ := MW_begins_L (w := b) hi 3 0 1300 (z_uS (z_uS (z_uS (z_uS (z_uS U (b + 9) i 1) b 0 s0) (b + 1) i project) (b + 2) i kind) (b + 3) i 0) (by omega) (by omega)
    have v1' : F_MW_begins_L53 b (zI i) 1300 (z_uS (z_uS (z_uS (z_uS (z_uS U (b + 9) i 1) b 0 s0) (b + 1) i project) (b + 2) i kind) (b + 3) i 0) 0 = V := v1
    have v2' : Sf_MW_begins_L53 b (zI i) 1300 (z_uS (z_uS (z_uS (z_uS (z_uS U (b + 9) i 1) b 0 s0) (b + 1) i project) (b + 2) i kind) (b + 3) i 0) 0 := v2
    generalize hY : z_uS (z_uS (z_uS (z_uS V (b + 5) i (-1)) (b + 6) i (-1)) (b + 7) i 0) (b + 8) i (-1) = Y
    have Y0 : Y b = upd (U b) 0 s0 := by rw [← hY, z_uS_ne _ _ _ (by omega), z_uS_ne _ _ _ (by omega), z_uS_ne _ _ _ (by omega), z_uS_ne _ _ _ (by omega), v3 _ (by omega), z_uS_ne _ _ _ (by omega), z_uS_ne _ _ _ (by omega), z_uS_ne _ _ _ (by omega), z_uS_self, z_uS_ne _ _ _ (by omega)]
    have Y1 : Y (b + 1) = upd (U (b + 1)) i project := by rw [← hY, z_uS_ne _ _ _ (by omega), z_uS_ne _ _ _ (by omega), z_uS_ne _ _ _ (by omega), z_uS_ne _ _ _ (by omega), v3 _ (by omega), z_uS_ne _ _ _ (by omega), z_uS_ne _ _ _ (by omega), z_uS_self, z_uS_ne _ _ _ (by omega), z_uS_ne _ _ _ (by omega)]
    have Y2 : Y (b + 2) = upd (U (b + 2)) i kind := by rw [← hY, z_uS_ne _ _ _ (by omega), z_uS_ne _ _ _ (by omega), z_uS_ne _ _ _ (by omega), z_uS_ne _ _ _ (by omega), v3 _ (by omega), z_uS_ne _ _ _ (by omega), z_uS_self, z_uS_ne _ _ _ (by omega), z_uS_ne _ _ _ (by omega), z_uS_ne _ _ _ (by omega)]
    have Y3 : Y (b + 3) = upd (U (b + 3)) i 0 := by rw [← hY, z_uS_ne _ _ _ (by omega), z_uS_ne _ _ _ (by omega), z_uS_ne _ _ _ (by omega), z_uS_ne _ _ _ (by omega), v3 _ (by omega), z_uS_self, z_uS_ne _ _ _ (by omega), z_uS_ne _ _ _ (by omega), z_uS_ne _ _ _ (by omega), z_uS_ne _ _ _ (by omega)]
    have Y4 : ∀ j, Y (b + 4) j = if 3 * i ≤ j ∧ j < 3 * i + 3 then -1 else U (b + 4) j := fun j => by rw [← hY, z_uS_ne _ _ _ (by omega), z_uS_ne _ _ _ (by omega), z_uS_ne _ _ _ (by omega), z_uS_ne _ _ _ (by omega), v4 j, z_uS_ne _ _ _ (by omega), z_uS_ne _ _ _ (by omega), z_uS_ne _ _ _ (by omega), z_uS_ne _ _ _ (by omega), z_uS_ne _ _ _ (by omega)]; rfl
    have V5 : ∀ k, b + 5 ≤ k → k ≠ b + 9 → V k = U k := fun k h1 h2 => by rw [v3 _ (by omega), z_uS_ne _ _ _ (by omega), z_uS_ne _ _ _ (by omega), z_uS_ne _ _ _ (by omega), z_uS_ne _ _ _ (by omega), z_uS_ne _ _ _ (by omega)]
    have Y5 : Y (b + 5) = upd (U (b + 5)) i (-1) := by rw [← hY, z_uS_ne _ _ _ (by omega), z_uS_ne _ _ _ (by omega), z_uS_ne _ _ _ (by omega), z_uS_self, V5 _ (by omega) (by omega)]
    have Y6 : Y (b + 6) = upd (U (b + 6)) i (-1) := by rw [← hY, z_uS_ne _ _ _ (by omega), z_uS_ne _ _ _ (by omega), z_uS_self, z_uS_ne _ _ _ (by omega), V5 _ (by omega) (by omega)]
    have Y7 : Y (b + 7) = upd (U (b + 7)) i 0 := by rw [← hY, z_uS_ne _ _ _ (by omega), z_uS_self, z_uS_ne _ _ _ (by omega), z_uS_ne _ _ _ (by omega), V5 _ (by omega) (by omega)]
    have Y8 : Y (b + 8) = upd (U (b + 8)) i (-1) := by rw [← hY, z_uS_self, z_uS_ne _ _ _ (by omega), z_uS_ne _ _ _ (by omega), z_uS_ne _ _ _ (by omega), V5 _ (by omega) (by omega)]
    have Y9 : Y (b + 9) = upd (U (b + 9)) i 1 := by rw [← hY, z_uS_ne _ _ _ (by omega), z_uS_ne _ _ _ (by omega), z_uS_ne _ _ _ (by omega), z_uS_ne _ _ _ (by omega), v3 _ (by omega), z_uS_ne _ _ _ (by omega), z_uS_ne _ _ _ (by omega), z_uS_ne _ _ _ (by omega), z_uS_ne _ _ _ (by omega), z_uS_self]
    have Yout : ∀ k, (k < b ∨ b + 9 < k) → Y k = U k := fun k hk => by rw [← hY, z_uS_ne _ _ _ (by omega), z_uS_ne _ _ _ (by omega), z_uS_ne _ _ _ (by omega), z_uS_ne _ _ _ (by omega), v3 _ (by omega), z_uS_ne _ _ _ (by omega), z_uS_ne _ _ _ (by omega), z_uS_ne _ _ _ (by omega), z_uS_ne _ _ _ (by omega), z_uS_ne _ _ _ (by omega)]
    refine ⟨Y, ?_, ?_, ⟨fun q hq => ?_, fun q hq hw c hc => ?_, fun t ht q hq j hj => ?_, fun k hk => ?_⟩, Yout, fun j hj => by rw [Y0]; simp [upd, hj], by rw [Y0]; simp [upd]⟩
    · unfold F_MW_begins_j26
      simp only [hcl, v1']
      exact hY
    · unfold Sf_MW_begins_j26
      simp only [hcl, v1']
      exact ⟨vin, vin, vin, v2', vin, vin, vin, vin, trivial⟩
    · rw [Y9]
      show (if q = i then (1 : Int32) else U (b + 9) q) = if (if q = i then true else w.1 q) = true then 1 else 0
      by_cases e : q = i
      · rw [if_pos e, if_pos e]; rfl
      · rw [if_neg e, if_neg e]; exact h.has q hq
    · show _ = if q = i then zBegC kind project c else w.2.1 q c
      have hw' : (if q = i then true else w.1 q) = true := hw
      by_cases e : q = i
      · subst e
        rw [if_pos rfl]
        unfold zMC zMJ zBegC
        by_cases c0 : c = 0
        · subst c0; simp [Y3, upd]
        by_cases c3 : c < 4
        · rw [if_neg c0, if_pos c3, if_neg c0, if_pos c3, Y4, if_pos (by omega), if_neg (by omega), if_neg (by omega), if_neg (by omega), if_neg (by omega)]
        by_cases c4 : c = 4
        · subst c4; simp [Y5, upd]
        by_cases c5 : c = 5
        · subst c5; simp [Y6, upd]
        by_cases c6 : c = 6
        · subst c6; simp [Y7, upd]
        by_cases c7 : c = 7
        · subst c7; simp [Y8, upd]
        by_cases c8 : c = 8
        · subst c8; simp [Y1, upd]
        have c9 : c = 9 := by omega
        subst c9; simp [Y2, upd]
      · rw [if_neg e] at hw'
        rw [if_neg e, ← h.col q hq hw' c hc]
        unfold zMC zMJ
        by_cases c0 : c = 0
        · subst c0; simp [Y3, upd, e]
        by_cases c3 : c < 4
        · rw [if_neg c0, if_pos c3, if_neg c0, if_pos c3, Y4, if_neg (by omega)]
        by_cases c4 : c = 4
        · subst c4; simp [Y5, upd, e]
        by_cases c5 : c = 5
        · subst c5; simp [Y6, upd, e]
        by_cases c6 : c = 6
        · subst c6; simp [Y7, upd, e]
        by_cases c7 : c = 7
        · subst c7; simp [Y8, upd, e]
        by_cases c8 : c = 8
        · subst c8; simp [Y1, upd, e]
        have c9 : c = 9 := by omega
        subst c9; simp [Y2, upd, e]
    · rw [Yout _ (by omega)]; exact h.link t ht q hq j hj
    · rw [Yout _ (by omega)]; exact h.role k hk
  unfold F_MW_begins Sf_MW_begins
  simp only [hcl, nar_1]
  by_cases hlt : zI i < U b 0
  · obtain ⟨V, v1, v2, v3, v4, v5, v6⟩ := key (U b 0)
    simp only [if_pos hlt]
    exact ⟨V, v1, ⟨vin, v2⟩, v3, v4, v5, v6⟩
  · obtain ⟨V, v1, v2, v3, v4, v5, v6⟩ := key (zI i + 1)
    simp only [if_neg hlt]
    exact ⟨V, v1, ⟨vin, v2⟩, v3, v4, v5, by rw [v6, zI_succ]⟩
theorem MW_link_I {b : Nat} {U : Nat → Nat → Int32} {w : zWd} (h : zWM b U w) {t i j : Nat} (ht : t < 3) (hi : i < 30) (hj : j < 30) (q : Bool) : ∃ V, F_MW_link b U (zI t) (zI i) (zI j) (if q = true then 1 else 0) = V ∧ Sf_MW_link b U (zI t) (zI i) (zI j) (if q = true then 1 else 0) ∧ zWM b V (zSetL w t i j q) ∧ ∀ k, k ≠ b + 10 → V k = U k := by
  have e1 : (900 : Int32) * zI t + (30 : Int32) * zI i + zI j = zI (900 * t + 30 * i + j) := by rw [show (900 : Int32) = zI 900 from rfl, show (30 : Int32) = zI 30 from rfl, zI_mul, zI_mul, zI_add, zI_add]
  have e2 : (900 : Int32) * zI t + (30 : Int32) * zI j + zI i = zI (900 * t + 30 * j + i) := by rw [show (900 : Int32) = zI 900 from rfl, show (30 : Int32) = zI 30 from rfl, zI_mul, zI_mul, zI_add, zI_add]
  have en : vp_nar .boolean (if q = true then 1 else 0) = if q = true then 1 else 0 := by cases q <;> decide
  unfold F_MW_link Sf_MW_link
  simp only [e1, e2, en, zI_clamp (show 900 * t + 30 * i + j < 2147483648 by omega), zI_clamp (show 900 * t + 30 * j + i < 2147483648 by omega)]
  have h1 := h.con (t := t) hi hj q
  by_cases t1 : t = 1
  · subst t1
    simp only [show (zI 1 = 1) from rfl, if_true]
    refine ⟨_, rfl, ⟨vp_in_I (by omega) (by omega), vp_in_I (by omega) (by omega), trivial⟩, ?_, fun k hk => by rw [z_uS_ne _ _ _ hk, z_uS_ne _ _ _ hk]⟩
    unfold zSetL; rw [if_pos rfl]
    exact h1.con (t := 1) hj hi q
  · have n1 : ¬ zI t = 1 := by rw [show (1 : Int32) = zI 1 from rfl, zI_inj (by omega) (by omega)]; exact t1
    simp only [if_neg n1]
    refine ⟨_, rfl, ⟨vp_in_I (by omega) (by omega), trivial⟩, ?_, fun k hk => z_uS_ne _ _ _ hk⟩
    unfold zSetL; rw [if_neg t1]
    exact h1
theorem MW_does_I {b : Nat} {U : Nat → Nat → Int32} {w : zWd} (h : zWM b U w) {e : zEnt} (he : zEok e) : ∃ V, F_MW_does b U (mK e) (mI e) (mW e) (mO e) (mN e) = V ∧ Sf_MW_does b U (mK e) (mI e) (mW e) (mO e) (mN e) ∧ zWM b V (zApp e w) ∧ (∀ k, (k < b ∨ b + 11 < k) → V k = U k) ∧ (∀ j, j ≠ 0 → V b j = U b j) ∧ V b 0 = if e.1 = 1 then (if zI e.2.1 < U b 0 then U b 0 else zI (e.2.1 + 1)) else U b 0 := by
  obtain ⟨t, a, b', c, o, n⟩ := e
  rcases he with ⟨t0, ha, hb⟩ | ⟨t0, ha, hb, hcc⟩ | ⟨t0, ha, hb⟩ | ⟨t0, ha, hb, hcc, hne, ⟨ob, ho⟩, ⟨nb, hn⟩⟩
  · dsimp only at t0 ha hb
    subst t0
    have e1 : (3 : Int32) * zI a + zI b' = zI (3 * a + b') := by rw [show (3 : Int32) = zI 3 from rfl, zI_mul, zI_add]
    unfold F_MW_does Sf_MW_does
    simp only [mK, mI, mW, mO, mN, if_true, if_neg (show ¬ (0 = 1) by decide), e1, zI_clamp (show 3 * a + b' < 2147483648 by omega)]
    exact ⟨_, rfl, ⟨vp_in_I (by omega) (by omega), trivial⟩, h.setR n, fun k hk => z_uS_ne _ _ _ (by omega), fun j hj => by rw [z_uS_ne _ _ _ (by omega)], by rw [z_uS_ne _ _ _ (by omega)]⟩
  · dsimp only at t0 ha hb hcc
    subst t0
    obtain ⟨V, v1, v2, v3, v4, v5, v6⟩ := MW_begins_I h ha (zI c) (zI b')
    unfold F_MW_does Sf_MW_does
    simp only [mK, mI, mW, mO, mN, if_true, if_neg (show ¬ (1 = 0) by decide), if_neg (show ¬ ((1 : Int32) = 0) by decide), z_let]
    exact ⟨V, v1, ⟨v2, trivial⟩, v3, fun k hk => v4 k (by omega), v5, v6⟩
  · dsimp only at t0 ha hb
    subst t0
    have hcl : (zI a).toNatClampNeg = a := zI_clamp (by omega)
    have vin : vp_in (zI a) 30 := vp_in_I ha (by omega)
    have hin := zMC_in b a b'
    have fin : ∀ V, V = z_uS U (zMC b a b') (zMJ a b') n → zWM b V (zApp (2, a, b', c, o, n) w) ∧ (∀ k, (k < b ∨ b + 11 < k) → V k = U k) ∧ (∀ j, j ≠ 0 → V b j = U b j) ∧ V b 0 = if (2, a, b', c, o, n).1 = 1 then (if zI (2, a, b', c, o, n).2.1 < U b 0 then U b 0 else zI ((2, a, b', c, o, n).2.1 + 1)) else U b 0 := by
      intro V hV
      subst hV
      exact ⟨h.setC (by omega) n, fun k hk => z_uS_ne _ _ _ (by omega), fun j hj => by rw [z_uS_ne _ _ _ (by omega)], by rw [z_uS_ne _ _ _ (by omega)]; rfl⟩
    unfold F_MW_does Sf_MW_does
    simp only [mK, mI, mW, mO, mN, if_true, if_neg (show ¬ (2 = 0) by decide), if_neg (show ¬ (2 = 1) by decide), if_neg (show ¬ (2 = 3) by decide)]
    by_cases c0 : b' = 0
    · subst c0
      simp only [if_true, if_neg (show ¬ ((2 : Int32) = 0) by decide), if_neg (show ¬ ((2 : Int32) = 1) by decide), hcl]
      exact ⟨_, rfl, ⟨vin, trivial⟩, fin _ rfl⟩
    by_cases c3 : b' < 4
    · have e1 : (3 : Int32) * zI a + zI (b' - 1) = zI (3 * a + (b' - 1)) := by rw [show (3 : Int32) = zI 3 from rfl, zI_mul, zI_add]
      simp only [if_neg c0, if_pos c3, if_neg (show ¬ ((3 : Int32) = 0) by decide), if_neg (show ¬ ((3 : Int32) = 1) by decide), if_neg (show ¬ ((3 : Int32) = 2) by decide), if_true, e1, zI_clamp (show 3 * a + (b' - 1) < 2147483648 by omega)]
      exact ⟨_, rfl, ⟨vp_in_I (by omega) (by omega), trivial⟩, fin _ (by unfold zMC zMJ; rw [if_neg c0, if_pos c3, if_neg c0, if_pos c3])⟩
    have q : ∀ m, m < 9 → (zI b' = zI m ↔ b' = m) := fun m hm => zI_inj (by omega) (by omega)
    simp only [if_neg c0, if_neg c3, show (0 : Int32) = zI 0 from rfl, show (1 : Int32) = zI 1 from rfl, show (2 : Int32) = zI 2 from rfl, show (3 : Int32) = zI 3 from rfl, show (4 : Int32) = zI 4 from rfl, show (5 : Int32) = zI 5 from rfl, show (6 : Int32) = zI 6 from rfl, show (7 : Int32) = zI 7 from rfl, show (8 : Int32) = zI 8 from rfl, q 0 (by omega), q 1 (by omega), q 2 (by omega), q 3 (by omega), q 4 (by omega), q 5 (by omega), q 6 (by omega), q 7 (by omega), q 8 (by omega), if_neg (show ¬ b' = 1 by omega), if_neg (show ¬ b' = 2 by omega), if_neg (show ¬ b' = 3 by omega), hcl]
    by_cases c4 : b' = 4
    · subst c4; simp only [if_true]; exact ⟨_, rfl, ⟨vin, trivial⟩, fin _ rfl⟩
    by_cases c5 : b' = 5
    · subst c5; simp only [if_neg c4, if_true]; exact ⟨_, rfl, ⟨vin, trivial⟩, fin _ rfl⟩
    by_cases c6 : b' = 6
    · subst c6; simp only [if_neg c4, if_neg c5, if_true]; exact ⟨_, rfl, ⟨vin, trivial⟩, fin _ rfl⟩
    by_cases c7 : b' = 7
    · subst c7; simp only [if_neg c4, if_neg c5, if_neg c6, if_true]; exact ⟨_, rfl, ⟨vin, trivial⟩, fin _ rfl⟩
    have c8 : b' = 8 := by omega
    subst c8
    simp only [if_neg c4, if_neg c5, if_neg c6, if_neg c7, if_true]; exact ⟨_, rfl, ⟨vin, trivial⟩, fin _ rfl⟩
  · dsimp only at t0 ha hb hcc hne ho hn
    subst t0
    obtain ⟨V, v1, v2, v3, v4⟩ := MW_link_I h hb ha hcc nb
    subst hn
    have fin : zWM b V (zApp (3, a, b', c, o, if nb = true then 1 else 0) w) := by
      unfold zApp
      simp only [if_neg (show ¬ (3 = 0) by decide), if_neg (show ¬ (3 = 1) by decide), if_neg (show ¬ (3 = 2) by decide), b01_eq]
      exact v3
    unfold F_MW_does Sf_MW_does F_MW_does_j170 Sf_MW_does_j170
    simp only [mK, mI, mW, mO, mN, if_true, if_neg (show ¬ (3 = 0) by decide), if_neg (show ¬ (3 = 1) by decide), if_neg (show ¬ (3 = 2) by decide), if_neg (show ¬ ((9 : Int32) = 0) by decide), if_neg (show ¬ ((9 : Int32) = 1) by decide), if_neg (show ¬ ((9 : Int32) = 2) by decide), if_neg (show ¬ ((9 : Int32) = 3) by decide), if_neg (show ¬ ((9 : Int32) = 4) by decide), if_neg (show ¬ ((9 : Int32) = 5) by decide), if_neg (show ¬ ((9 : Int32) = 6) by decide), if_neg (show ¬ ((9 : Int32) = 7) by decide), if_neg (show ¬ ((9 : Int32) = 8) by decide), z_let]
    refine ⟨V, ?_, ?_, fin, fun k hk => v4 k (by omega), fun j hj => by rw [v4 b (by omega)], by rw [v4 b (by omega)]⟩
    · cases nb
      · exact v1
      · exact v1
    · cases nb
      · exact ⟨v2, trivial⟩
      · exact ⟨v2, trivial⟩
