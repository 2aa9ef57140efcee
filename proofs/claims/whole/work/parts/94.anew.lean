/-! PURE: the spread, in both -/
theorem rOth_B (S : Nat → Nat → Int32) {i j : Nat} (hi : i < 30) (hj : j < 30) : zB (F_T_bit S (zI i) ^^^ (-1)) j = rOth i j := by
  rw [zB_not (by omega), T_bit_B S (by omega) (by omega)]; rfl
theorem rSp_I (R : Nat → Nat) (i n y : Nat) : (1024 : Int32) * ((1 : Int32) + zI (cN (rA (rOth i) R y) n)) = zI (rSp R i n y) := by
  rw [show (1 : Int32) = zI 1 from rfl, zI_add, show (1024 : Int32) = zI 1024 from rfl, zI_mul]; rfl
theorem T_spr_L2 {n i : Nat} {R : Nat → Nat} (hn : n ≤ 30) (hi : i < n) : ∀ (m x f : Nat) (S : Nat → Nat → Int32), m + x = n → m < f → S 68 2 = zI n → (∀ y, y < n → R y ≤ 1024 * n ∧ S 69 y = zI (R y)) → (∀ y, y < x → S 70 y = zI (rSp R i n y)) → ∃ V, F_Ranks_spread_L2 (zI i) f S (zI x) = V ∧ Sf_Ranks_spread_L2 (zI i) f S (zI x) ∧ (∀ k, k ≠ 70 → V k = S k) ∧ ∀ y, y < n → V 70 y = zI (rSp R i n y) := by
  intro m
  induction m with
  | zero =>
    intro x f S hx hf h68 hR hS
    obtain ⟨f, rfl⟩ : ∃ q, f = q + 1 := ⟨f - 1, by omega⟩
    have hl : S 68 2 ≤ zI x := by rw [h68, zI_le (by omega) (by omega)]; omega
    unfold F_Ranks_spread_L2 Sf_Ranks_spread_L2
    rw [if_pos hl, if_pos hl]
    exact ⟨S, rfl, trivial, fun _ _ => rfl, fun y hy => hS y (by omega)⟩
  | succ m ih =>
    intro x f S hx hf h68 hR hS
    obtain ⟨f, rfl⟩ : ∃ q, f = q + 1 := ⟨f - 1, by omega⟩
    have hl : ¬ S 68 2 ≤ zI x := by rw [h68, zI_le (by omega) (by omega)]; omega
    obtain ⟨a1, a2⟩ := T_aheadOf_I (X := rOth i) (P := F_T_bit S (zI i) ^^^ (-1)) hn (show x < n by omega) h68 hR (fun j hj => rOth_B S (by omega) (by omega))
    obtain ⟨V, v1, v2, v3, v4⟩ := ih (x + 1) f (z_uS S 70 x (zI (rSp R i n x))) (by omega) (by omega) (by rw [z_uS_ne _ _ _ (by omega)]; exact h68) (fun y hy => by rw [z_uS_ne _ _ _ (by omega)]; exact hR y hy) (fun y hy => by
      by_cases e : y = x
      · rw [e, uS_at]
      · rw [uS_nj _ _ _ e]; exact hS y (by omega))
    unfold F_Ranks_spread_L2 Sf_Ranks_spread_L2
    rw [if_neg hl, if_neg hl, a1, rSp_I, zPut_I (show x < 30 by omega) (by omega), zI_succ]
    simp only [z_let]
    exact ⟨V, v1, ⟨a2, v2⟩, fun k hk => by rw [v3 k hk, z_uS_ne _ _ _ hk], v4⟩
theorem T_spr_L43 {n i : Nat} {R : Nat → Nat} (hn : n ≤ 30) : ∀ (m x f : Nat) (S : Nat → Nat → Int32), m + x = n → m < f → S 68 2 = zI n → (∀ y, y < n → S 70 y = zI (rSp R i n y)) → (∀ y, y < x → S 69 y = zI (rSp R i n y)) → ∃ V, F_Ranks_spread_L43 f S (zI x) = V ∧ Sf_Ranks_spread_L43 f S (zI x) ∧ (∀ k, k ≠ 69 → V k = S k) ∧ ∀ y, y < n → V 69 y = zI (rSp R i n y) := by
  intro m
  induction m with
  | zero =>
    intro x f S hx hf h68 hR hS
    obtain ⟨f, rfl⟩ : ∃ q, f = q + 1 := ⟨f - 1, by omega⟩
    have hl : S 68 2 ≤ zI x := by rw [h68, zI_le (by omega) (by omega)]; omega
    unfold F_Ranks_spread_L43 Sf_Ranks_spread_L43
    rw [if_pos hl, if_pos hl]
    exact ⟨S, rfl, trivial, fun _ _ => rfl, fun y hy => hS y (by omega)⟩
  | succ m ih =>
    intro x f S hx hf h68 hR hS
    obtain ⟨f, rfl⟩ : ∃ q, f = q + 1 := ⟨f - 1, by omega⟩
    have hl : ¬ S 68 2 ≤ zI x := by rw [h68, zI_le (by omega) (by omega)]; omega
    obtain ⟨V, v1, v2, v3, v4⟩ := ih (x + 1) f (z_uS S 69 x (zI (rSp R i n x))) (by omega) (by omega) (by rw [z_uS_ne _ _ _ (by omega)]; exact h68) (fun y hy => by rw [z_uS_ne _ _ _ (by omega)]; exact hR y hy) (fun y hy => by
      by_cases e : y = x
      · rw [e, uS_at]
      · rw [uS_nj _ _ _ e]; exact hS y (by omega))
    unfold F_Ranks_spread_L43 Sf_Ranks_spread_L43
    rw [if_neg hl, if_neg hl, zAt_I (show x < 30 by omega) (by omega), hR x (by omega), zPut_I (show x < 30 by omega) (by omega), zI_succ]
    simp only [z_let]
    exact ⟨V, v1, v2, fun k hk => by rw [v3 k hk, z_uS_ne _ _ _ hk], v4⟩
theorem T_spr_I {n i : Nat} {R : Nat → Nat} {S : Nat → Nat → Int32} (hn : n ≤ 30) (hi : i < n) (h68 : S 68 2 = zI n) (hR : ∀ y, y < n → R y ≤ 1024 * n ∧ S 69 y = zI (R y)) : ∃ V, F_Ranks_spread S (zI i) = V ∧ Sf_Ranks_spread S (zI i) ∧ (∀ k, k ≠ 69 → k ≠ 70 → V k = S k) ∧ ∀ y, y < n → V 69 y = zI (rSp R i n y) := by
  obtain ⟨V, v1, v2, v3, v4⟩ := T_spr_L2 hn hi n 0 1300 S (by omega) (by omega) h68 hR (fun y hy => by omega)
  obtain ⟨W, w1, w2, w3, w4⟩ := T_spr_L43 (i := i) (R := R) hn n 0 1300 V (by omega) (by omega) (by rw [v3 68 (by omega)]; exact h68) v4 (fun y hy => by omega)
  rw [zI_0] at v1 v2 w1 w2
  unfold F_Ranks_spread Sf_Ranks_spread
  simp only [v1, w1]
  exact ⟨W, rfl, ⟨v2, w2, trivial⟩, fun k h1 h2 => by rw [w3 k h1, v3 k h2], w4⟩
theorem M_anw_L27 {ga n i x : Nat} {R : Nat → Nat} (hga : 194 ≤ ga) (hn : n ≤ 30) (hi : i < n) (hx : x < n) : ∀ (m y f : Nat) (U : Nat → Nat → Int32), m + y = n → m < f → U 86 0 = zI n → (∀ y, y < n → R y ≤ 1024 * n ∧ U 167 y = zI (R y)) → U ga x = zI (1024 * (1 + cN (rA (rOth i) R x) y)) → ∃ V, F_M_ranksAnew_L27 ga (zI i) (zI x) f U (zI y) = V ∧ Sf_M_ranksAnew_L27 ga (zI i) (zI x) f U (zI y) ∧ zNA ga U V ∧ (∀ j, j ≠ x → V ga j = U ga j) ∧ V ga x = zI (rSp R i n x) := by
  intro m
  induction m with
  | zero =>
    intro y f U hy hf h86 hR hU
    obtain ⟨f, rfl⟩ : ∃ q, f = q + 1 := ⟨f - 1, by omega⟩
    have hl : U 86 0 ≤ zI y := by rw [h86, zI_le (by omega) (by omega)]; omega
    unfold F_M_ranksAnew_L27 Sf_M_ranksAnew_L27
    rw [if_pos hl, if_pos hl]
    exact ⟨U, rfl, trivial, zNA.rfl, fun _ _ => rfl, by rw [hU, show y = n by omega]; rfl⟩
  | succ m ih =>
    intro y f U hy hf h86 hR hU
    obtain ⟨f, rfl⟩ : ∃ q, f = q + 1 := ⟨f - 1, by omega⟩
    have hl : ¬ U 86 0 ≤ zI y := by rw [h86, zI_le (by omega) (by omega)]; omega
    have vx : vp_in (zI x) 30 := vp_in_I (by omega) (by omega)
    have vy : vp_in (zI y) 30 := vp_in_I (by omega) (by omega)
    have cs : cN (rA (rOth i) R x) (y + 1) = cN (rA (rOth i) R x) y + (if rA (rOth i) R x y = true then 1 else 0) := rfl
    have go : ∀ v, v = zI (1024 * (1 + cN (rA (rOth i) R x) (y + 1))) → ∃ V, F_M_ranksAnew_L27 ga (zI i) (zI x) f (z_uS U ga x v) (zI (y + 1)) = V ∧ Sf_M_ranksAnew_L27 ga (zI i) (zI x) f (z_uS U ga x v) (zI (y + 1)) ∧ zNA ga U V ∧ (∀ j, j ≠ x → V ga j = U ga j) ∧ V ga x = zI (rSp R i n x) := by
      intro v hv
      obtain ⟨V, v1, v2, v3, v4, v5⟩ := ih (y + 1) f (z_uS U ga x v) (by omega) (by omega) (by rw [z_uS_ne _ _ _ (by omega)]; exact h86) (fun y hy => by rw [z_uS_ne _ _ _ (by omega)]; exact hR y hy) (by rw [uS_at]; exact hv)
      exact ⟨V, v1, v2, (zNA.cell ga U x v).trans v3, fun j hj => by rw [v4 j hj, uS_nj _ _ _ hj], v5⟩
    have b1 := hR x hx
    have b2 := hR y (by omega)
    unfold F_M_ranksAnew_L27 Sf_M_ranksAnew_L27 F_M_ranksAnew_l27_71 Sf_M_ranksAnew_l27_71
    rw [if_neg hl, if_neg hl, zI_clamp (show x < 2147483648 by omega), zI_clamp (show y < 2147483648 by omega), b1.2, b2.2, zI_succ, hU]
    by_cases e : y = i
    · have c0 : rA (rOth i) R x y = false := by unfold rA rOth; rw [decide_eq_true e]; rfl
      rw [c0] at cs
      rw [if_pos (show zI y = zI i by rw [e]), if_pos (show zI y = zI i by rw [e])]
      obtain ⟨V, v1, v2, v3⟩ := go (zI (1024 * (1 + cN (rA (rOth i) R x) y)) + 0) (by rw [Int32.add_zero, cs]; rfl)
      exact ⟨V, v1, ⟨vx, vx, v2⟩, v3⟩
    · have e' : ¬ zI y = zI i := by rw [zI_inj (by omega) (by omega)]; exact e
      rw [if_neg e', if_neg e']
      by_cases q : R x ≤ R y
      · have c0 : rA (rOth i) R x y = false := by unfold rA; rw [decide_eq_false (show ¬ R y < R x by omega), Bool.and_false]
        rw [c0] at cs
        rw [if_pos ((rk_le (by omega) (by omega)).mpr q), if_pos ((rk_le (by omega) (by omega)).mpr q)]
        obtain ⟨V, v1, v2, v3⟩ := go (zI (1024 * (1 + cN (rA (rOth i) R x) y)) + 0) (by rw [Int32.add_zero, cs]; rfl)
        exact ⟨V, v1, ⟨vx, vy, vx, vx, v2⟩, v3⟩
      · have c0 : rA (rOth i) R x y = true := by unfold rA rOth; rw [decide_eq_false e, decide_eq_true (show R y < R x by omega)]; rfl
        rw [c0] at cs
        rw [if_neg (fun z => q ((rk_le (by omega) (by omega)).mp z)), if_neg (fun z => q ((rk_le (by omega) (by omega)).mp z))]
        obtain ⟨V, v1, v2, v3⟩ := go (zI (1024 * (1 + cN (rA (rOth i) R x) y)) + 1024) (by rw [show (1024 : Int32) = zI 1024 from rfl, zI_add, cs, if_pos rfl]; congr 1)
        exact ⟨V, v1, ⟨vx, vy, vx, vx, v2⟩, v3⟩
theorem M_anw_L7 {ga n i : Nat} {R : Nat → Nat} (hga : 194 ≤ ga) (hn : n ≤ 30) (hi : i < n) : ∀ (m x f : Nat) (U : Nat → Nat → Int32), m + x = n → m < f → U 86 0 = zI n → (∀ y, y < n → R y ≤ 1024 * n ∧ U 167 y = zI (R y)) → (∀ y, y < x → U ga y = zI (rSp R i n y)) → ∃ V, F_M_ranksAnew_L7 ga (zI i) f U (zI x) = V ∧ Sf_M_ranksAnew_L7 ga (zI i) f U (zI x) ∧ zNA ga U V ∧ ∀ y, y < n → V ga y = zI (rSp R i n y) := by
  intro m
  induction m with
  | zero =>
    intro x f U hx hf h86 hR hU
    obtain ⟨f, rfl⟩ : ∃ q, f = q + 1 := ⟨f - 1, by omega⟩
    have hl : U 86 0 ≤ zI x := by rw [h86, zI_le (by omega) (by omega)]; omega
    unfold F_M_ranksAnew_L7 Sf_M_ranksAnew_L7
    rw [if_pos hl, if_pos hl]
    exact ⟨U, rfl, trivial, zNA.rfl, fun y hy => hU y (by omega)⟩
  | succ m ih =>
    intro x f U hx hf h86 hR hU
    obtain ⟨f, rfl⟩ : ∃ q, f = q + 1 := ⟨f - 1, by omega⟩
    have hl : ¬ U 86 0 ≤ zI x := by rw [h86, zI_le (by omega) (by omega)]; omega
    have vx : vp_in (zI x) 30 := vp_in_I (by omega) (by omega)
    obtain ⟨V, v1, v2, v3, v4, v5⟩ := M_anw_L27 (i := i) (R := R) hga hn hi (show x < n by omega) n 0 1300 (z_uS U ga x 1024) (by omega) (by omega) (by rw [z_uS_ne _ _ _ (by omega)]; exact h86) (fun y hy => by rw [z_uS_ne _ _ _ (by omega)]; exact hR y hy) (by rw [uS_at]; rfl)
    rw [zI_0] at v1 v2
    have g := (zNA.cell ga U x 1024).trans v3
    obtain ⟨W, w1, w2, w3, w4⟩ := ih (x + 1) f V (by omega) (by omega) (by rw [g 86 (by omega)]; exact h86) (fun y hy => by rw [g 167 (by omega)]; exact hR y hy) (fun y hy => by
      by_cases e : y = x
      · rw [e]; exact v5
      · rw [v4 y e, uS_nj _ _ _ e]; exact hU y (by omega))
    unfold F_M_ranksAnew_L7 Sf_M_ranksAnew_L7
    rw [if_neg hl, if_neg hl, zI_clamp (show x < 2147483648 by omega), zI_succ]
    simp only [v1]
    exact ⟨W, w1, ⟨vx, v2, w2⟩, g.trans w3, w4⟩
theorem M_anw_L88 {ga n i : Nat} {R : Nat → Nat} (hga : 194 ≤ ga) (hn : n ≤ 30) (hi : i < n) : ∀ (m x f : Nat) (U : Nat → Nat → Int32), m + x = n → m < f → U 86 0 = zI n → (∀ y, y < n → U ga y = zI (rSp R i n y)) → (∀ y, y < x → y ≠ i → U 167 y = zI (rSp R i n y)) → ∃ V, F_M_ranksAnew_L88 ga (zI i) f U (zI x) = V ∧ Sf_M_ranksAnew_L88 ga (zI i) f U (zI x) ∧ (∀ k, k ≠ 167 → V k = U k) ∧ ∀ y, y < n → y ≠ i → V 167 y = zI (rSp R i n y) := by
  intro m
  induction m with
  | zero =>
    intro x f U hx hf h86 hR hU
    obtain ⟨f, rfl⟩ : ∃ q, f = q + 1 := ⟨f - 1, by omega⟩
    have hl : U 86 0 ≤ zI x := by rw [h86, zI_le (by omega) (by omega)]; omega
    unfold F_M_ranksAnew_L88 Sf_M_ranksAnew_L88
    rw [if_pos hl, if_pos hl]
    exact ⟨U, rfl, trivial, fun _ _ => rfl, fun y hy => hU y (by omega)⟩
  | succ m ih =>
    intro x f U hx hf h86 hR hU
    obtain ⟨f, rfl⟩ : ∃ q, f = q + 1 := ⟨f - 1, by omega⟩
    have hl : ¬ U 86 0 ≤ zI x := by rw [h86, zI_le (by omega) (by omega)]; omega
    have vx : vp_in (zI x) 30 := vp_in_I (by omega) (by omega)
    have go : ∀ v, (x ≠ i → v = zI (rSp R i n x)) → ∃ V, F_M_ranksAnew_L88 ga (zI i) f (z_uS U 167 x v) (zI (x + 1)) = V ∧ Sf_M_ranksAnew_L88 ga (zI i) f (z_uS U 167 x v) (zI (x + 1)) ∧ (∀ k, k ≠ 167 → V k = U k) ∧ ∀ y, y < n → y ≠ i → V 167 y = zI (rSp R i n y) := by
      intro v hv
      obtain ⟨V, v1, v2, v3, v4⟩ := ih (x + 1) f (z_uS U 167 x v) (by omega) (by omega) (by rw [z_uS_ne _ _ _ (by omega)]; exact h86) (fun y hy => by rw [z_uS_ne _ _ _ (by omega)]; exact hR y hy) (fun y hy hyi => by
        by_cases e : y = x
        · subst e; rw [uS_at]; exact hv hyi
        · rw [uS_nj _ _ _ e]; exact hU y (by omega) hyi)
      exact ⟨V, v1, v2, fun k hk => by rw [v3 k hk, z_uS_ne _ _ _ hk], v4⟩
    unfold F_M_ranksAnew_L88 Sf_M_ranksAnew_L88
    rw [if_neg hl, if_neg hl, zI_clamp (show x < 2147483648 by omega), zI_succ]
    by_cases e : x = i
    · rw [if_pos (show zI x = zI i by rw [e]), if_pos (show zI x = zI i by rw [e])]
      obtain ⟨V, v1, v2, v3⟩ := go (U 167 x) (fun z => absurd e z)
      exact ⟨V, v1, ⟨vx, vx, v2⟩, v3⟩
    · have e' : ¬ zI x = zI i := by rw [zI_inj (by omega) (by omega)]; exact e
      rw [if_neg e', if_neg e']
      obtain ⟨V, v1, v2, v3⟩ := go (U ga x) (fun _ => hR x (by omega))
      exact ⟨V, v1, ⟨vx, vx, v2⟩, v3⟩
theorem M_anw_I {na n i : Nat} {R : Nat → Nat} {U : Nat → Nat → Int32} (hna : 194 ≤ na) (hn : n ≤ 30) (hi : i < n) (h86 : U 86 0 = zI n) (hR : ∀ y, y < n → R y ≤ 1024 * n ∧ U 167 y = zI (R y)) : ∃ V, F_M_ranksAnew na U (zI i) = V ∧ Sf_M_ranksAnew na U (zI i) ∧ (∀ k, k ≠ 167 → k ≠ na → V k = U k) ∧ ∀ y, y < n → y ≠ i → V 167 y = zI (rSp R i n y) := by
  have g0 : zNA na U (zSn U na) := fun k hk => by unfold zSn; rw [if_neg hk]
  obtain ⟨V, v1, v2, v3, v4⟩ := M_anw_L7 (ga := na) (i := i) hna hn hi n 0 1300 (zSn U na) (by omega) (by omega) (by rw [g0 86 (by omega)]; exact h86) (fun y hy => by rw [g0 167 (by omega)]; exact hR y hy) (fun y hy => by omega)
  have g := g0.trans v3
  obtain ⟨W, w1, w2, w3, w4⟩ := M_anw_L88 (i := i) (R := R) hna hn hi n 0 1300 V (by omega) (by omega) (by rw [g 86 (by omega)]; exact h86) v4 (fun y hy => by omega)
  rw [zI_0] at v1 v2 w1 w2
  unfold F_M_ranksAnew Sf_M_ranksAnew F_M_ranksAnew_j5 Sf_M_ranksAnew_j5
  simp only [v1, w1]
  exact ⟨W, rfl, ⟨v2, w2, trivial⟩, fun k h1 h2 => by rw [w3 k h1, g k h2], w4⟩
