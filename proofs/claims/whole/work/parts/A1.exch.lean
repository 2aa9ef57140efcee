/-! PURE: publish: workflows exchanged; items mapped, in both -/
/-- the draft's slot and a kind's, exchanged from step i on -/
def exL (k i : Nat) (S : Nat → Nat → Int32) : Nat → Nat → Int32 := fun c => if c = 57 then (fun j => if 144 + i ≤ j ∧ j < 192 then S 57 (48 * k + (j - 144)) else if 48 * k + i ≤ j ∧ j < 48 * k + 48 then S 57 (144 + (j - 48 * k)) else S 57 j) else S c
def exR (k : Nat) (f : Nat → Int32) : Nat → Int32 := fun j => if j = 3 then f k else if j = k then f 3 else f j
def exF (k : Nat) (S : Nat → Nat → Int32) : Nat → Nat → Int32 := fun c => if c = 57 then exL k 0 S 57 else if c = 55 then exR k (S 55) else if c = 56 then exR k (S 56) else S c
theorem exF_ne (k : Nat) (S : Nat → Nat → Int32) {c : Nat} (h : c < 55 ∨ 57 < c) : exF k S c = S c := by
  unfold exF
  rw [if_neg (by omega), if_neg (by omega), if_neg (by omega)]
theorem exR_exR {k : Nat} (f : Nat → Int32) : exR k (exR k f) = f := by
  funext j
  unfold exR
  by_cases h3 : j = 3
  · subst h3
    rw [if_pos rfl]
    by_cases hk : k = 3
    · rw [if_pos hk, hk]
    · rw [if_neg hk, if_pos rfl]
  · rw [if_neg h3]
    by_cases hj : j = k
    · rw [if_pos hj, if_pos rfl, hj]
    · rw [if_neg hj, if_neg h3, if_neg hj]
theorem exF_exF {k : Nat} (hk : k < 3) (S : Nat → Nat → Int32) : exF k (exF k S) = S := by
  funext c
  by_cases h7 : c = 57
  · subst h7
    funext j
    show exL k 0 (exF k S) 57 j = S 57 j
    have e : ∀ q, exF k S 57 q = if 144 + 0 ≤ q ∧ q < 192 then S 57 (48 * k + (q - 144)) else if 48 * k + 0 ≤ q ∧ q < 48 * k + 48 then S 57 (144 + (q - 48 * k)) else S 57 q := fun q => rfl
    show (if 144 + 0 ≤ j ∧ j < 192 then exF k S 57 (48 * k + (j - 144)) else if 48 * k + 0 ≤ j ∧ j < 48 * k + 48 then exF k S 57 (144 + (j - 48 * k)) else exF k S 57 j) = S 57 j
    rw [e, e, e]
    by_cases a : 144 + 0 ≤ j ∧ j < 192
    · rw [if_pos a, if_neg (by omega), if_pos (by omega)]
      exact congrArg (S 57) (by omega)
    · rw [if_neg a]
      by_cases b : 48 * k + 0 ≤ j ∧ j < 48 * k + 48
      · rw [if_pos b, if_pos (by omega)]
        exact congrArg (S 57) (by omega)
      · rw [if_neg b, if_neg a, if_neg b]
  · by_cases h5 : c = 55
    · subst h5; exact exR_exR (S 55)
    · by_cases h6 : c = 56
      · subst h6; exact exR_exR (S 56)
      · rw [exF_ne k _ (by omega), exF_ne k _ (by omega)]
theorem swap_57_I (S : Nat → Nat → Int32) {a b : Nat} (ha : a < 192) (hb : b < 192) : F_Flows_swap_57 S (zI a) (zI b) = z_uS (z_uS S 57 a (S 57 b)) 57 b (S 57 a) := by
  unfold F_Flows_swap_57
  simp only [z_let, zAt_I ha (show 192 ≤ 2147483648 by omega), zAt_I hb (show 192 ≤ 2147483648 by omega), zPut_I ha (show 192 ≤ 2147483648 by omega), zPut_I hb (show 192 ≤ 2147483648 by omega)]
theorem exch_L {k : Nat} (hk : k < 3) : ∀ (n i f : Nat) (S : Nat → Nat → Int32), i + n = 48 → n < f → F_Flows_exchange_L20 (zI k) f S (zI i) = exL k i S ∧ Sf_Flows_exchange_L20 (zI k) f S (zI i) := by
  intro n
  induction n with
  | zero =>
    intro i f S hi hf
    obtain ⟨f, rfl⟩ : ∃ g, f = g + 1 := ⟨f - 1, by omega⟩
    have hl : (48 : Int32) ≤ zI i := by rw [show (48 : Int32) = zI 48 from rfl, zI_le (by omega) (by omega)]; omega
    unfold F_Flows_exchange_L20 Sf_Flows_exchange_L20
    rw [if_pos hl, if_pos hl]
    refine ⟨?_, trivial⟩
    funext c
    unfold exL
    by_cases h7 : c = 57
    · subst h7
      rw [if_pos rfl]
      funext j
      rw [if_neg (by omega), if_neg (by omega)]
    · rw [if_neg h7]
  | succ n ih =>
    intro i f S hi hf
    obtain ⟨f, rfl⟩ : ∃ g, f = g + 1 := ⟨f - 1, by omega⟩
    have hl : ¬ (48 : Int32) ≤ zI i := by rw [show (48 : Int32) = zI 48 from rfl, zI_le (by omega) (by omega)]; omega
    have e : F_Flows_swap_57 S ((144 : Int32) + zI i) ((zI k * 8) * 6 + zI i) = z_uS (z_uS S 57 (144 + i) (S 57 (k * 8 * 6 + i))) 57 (k * 8 * 6 + i) (S 57 (144 + i)) := by
      rw [show (144 : Int32) = zI 144 from rfl, show (8 : Int32) = zI 8 from rfl, show (6 : Int32) = zI 6 from rfl, zI_mul, zI_mul, zI_add, zI_add, swap_57_I S (by omega) (by omega)]
    obtain ⟨v1, v2⟩ := ih (i + 1) f (z_uS (z_uS S 57 (144 + i) (S 57 (k * 8 * 6 + i))) 57 (k * 8 * 6 + i) (S 57 (144 + i))) (by omega) (by omega)
    unfold F_Flows_exchange_L20 Sf_Flows_exchange_L20
    simp only [if_neg hl, z_let, e, zI_succ]
    refine ⟨v1.trans ?_, v2⟩
    funext c
    unfold exL
    by_cases h7 : c = 57
    · subst h7
      rw [if_pos rfl, if_pos rfl]
      funext j
      have u : ∀ q, z_uS (z_uS S 57 (144 + i) (S 57 (k * 8 * 6 + i))) 57 (k * 8 * 6 + i) (S 57 (144 + i)) 57 q = if q = k * 8 * 6 + i then S 57 (144 + i) else if q = 144 + i then S 57 (k * 8 * 6 + i) else S 57 q := fun q => by
        rw [z_uS_self]
        show (if q = _ then _ else z_uS S 57 (144 + i) (S 57 (k * 8 * 6 + i)) 57 q) = _
        rw [z_uS_self]; rfl
      rw [u, u, u]
      by_cases a : 144 + i = j
      · rw [if_neg (show ¬ (144 + (i + 1) ≤ j ∧ j < 192) by omega), if_neg (show ¬ (48 * k + (i + 1) ≤ j ∧ j < 48 * k + 48) by omega), if_neg (show ¬ j = k * 8 * 6 + i by omega), if_pos a.symm, if_pos (show 144 + i ≤ j ∧ j < 192 by omega)]
        exact congrArg (S 57) (by omega)
      · by_cases b : 144 + (i + 1) ≤ j ∧ j < 192
        · rw [if_pos b, if_pos (show 144 + i ≤ j ∧ j < 192 by omega), if_neg (by omega), if_neg (by omega)]
        · rw [if_neg b, if_neg (show ¬ (144 + i ≤ j ∧ j < 192) by omega)]
          by_cases g : 48 * k + i = j
          · rw [if_neg (show ¬ (48 * k + (i + 1) ≤ j ∧ j < 48 * k + 48) by omega), if_pos (show j = k * 8 * 6 + i by omega), if_pos (show 48 * k + i ≤ j ∧ j < 48 * k + 48 by omega)]
            exact congrArg (S 57) (by omega)
          · by_cases g2 : 48 * k + (i + 1) ≤ j ∧ j < 48 * k + 48
            · rw [if_pos g2, if_pos (show 48 * k + i ≤ j ∧ j < 48 * k + 48 by omega), if_neg (by omega), if_neg (by omega)]
            · rw [if_neg g2, if_neg (show ¬ (48 * k + i ≤ j ∧ j < 48 * k + 48) by omega), if_neg (by omega), if_neg (by omega)]
    · rw [if_neg h7, if_neg h7, z_uS_ne _ _ _ h7, z_uS_ne _ _ _ h7]
theorem exch_I {k : Nat} (hk : k < 3) (S : Nat → Nat → Int32) : F_Flows_exchange S (zI k) = exF k S ∧ Sf_Flows_exchange S (zI k) := by
  have e5 : F_Flows_swap_55 S 3 (zI k) = z_uS (z_uS S 55 3 (S 55 k)) 55 k (S 55 3) := by
    unfold F_Flows_swap_55
    rw [show (3 : Int32) = zI 3 from rfl]
    simp only [z_let, zAt_I (show k < 4 by omega) (show 4 ≤ 2147483648 by omega), zAt_I (show 3 < 4 by omega) (show 4 ≤ 2147483648 by omega), zPut_I (show k < 4 by omega) (show 4 ≤ 2147483648 by omega), zPut_I (show 3 < 4 by omega) (show 4 ≤ 2147483648 by omega)]
  have e6 : ∀ S : Nat → Nat → Int32, F_Flows_swap_56 S 3 (zI k) = z_uS (z_uS S 56 3 (S 56 k)) 56 k (S 56 3) := fun S => by
    unfold F_Flows_swap_56
    rw [show (3 : Int32) = zI 3 from rfl]
    simp only [z_let, zAt_I (show k < 4 by omega) (show 4 ≤ 2147483648 by omega), zAt_I (show 3 < 4 by omega) (show 4 ≤ 2147483648 by omega), zPut_I (show k < 4 by omega) (show 4 ≤ 2147483648 by omega), zPut_I (show 3 < 4 by omega) (show 4 ≤ 2147483648 by omega)]
  unfold F_Flows_exchange Sf_Flows_exchange
  simp only [z_let, e5, e6]
  obtain ⟨v1, v2⟩ := exch_L hk 48 0 1300 (z_uS (z_uS (z_uS (z_uS S 55 3 (S 55 k)) 55 k (S 55 3)) 56 3 (z_uS (z_uS S 55 3 (S 55 k)) 55 k (S 55 3) 56 k)) 56 k (z_uS (z_uS S 55 3 (S 55 k)) 55 k (S 55 3) 56 3)) (by omega) (by omega)
  rw [zI_0] at v1 v2
  refine ⟨v1.trans ?_, v2, trivial⟩
  have n56 : ∀ j v, ∀ T : Nat → Nat → Int32, z_uS T 55 j v 56 = T 56 := fun j v T => z_uS_ne _ _ _ (by omega)
  funext c
  by_cases h7 : c = 57
  · subst h7
    show exL k 0 _ 57 = exL k 0 S 57
    unfold exL
    rw [if_pos rfl, if_pos rfl, z_uS_ne _ _ _ (by omega), z_uS_ne _ _ _ (by omega), z_uS_ne _ _ _ (by omega), z_uS_ne _ _ _ (by omega)]
  · have eL : ∀ T : Nat → Nat → Int32, exL k 0 T c = T c := fun T => by unfold exL; rw [if_neg h7]
    rw [eL]
    unfold exF
    rw [if_neg h7]
    by_cases h5 : c = 55
    · subst h5
      rw [if_pos rfl, z_uS_ne _ _ _ (by omega), z_uS_ne _ _ _ (by omega)]
      funext j
      unfold exR
      rw [z_uS_self]
      show (if j = k then S 55 3 else z_uS S 55 3 (S 55 k) 55 j) = _
      rw [z_uS_self]
      show (if j = k then S 55 3 else if j = 3 then S 55 k else S 55 j) = _
      by_cases a : j = 3
      · rw [if_pos a, if_neg (by omega), if_pos a]
      · rw [if_neg a, if_neg a]
    · rw [if_neg h5]
      by_cases h6 : c = 56
      · subst h6
        rw [if_pos rfl]
        funext j
        unfold exR
        rw [z_uS_self]
        show (if j = k then _ else z_uS _ 56 3 _ 56 j) = _
        rw [z_uS_self]
        show (if j = k then _ else if j = 3 then _ else z_uS (z_uS S 55 3 (S 55 k)) 55 k (S 55 3) 56 j) = _
        rw [n56, n56]
        by_cases a : j = 3
        · rw [if_pos a, if_neg (by omega), if_pos a]
        · rw [if_neg a, if_neg a]
      · rw [if_neg h6, z_uS_ne _ _ _ h6, z_uS_ne _ _ _ h6, z_uS_ne _ _ _ h5, z_uS_ne _ _ _ h5]
