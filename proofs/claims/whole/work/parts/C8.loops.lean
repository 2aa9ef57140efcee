/-! PURE: queries: the loops of what is answered -/
theorem le30 {k : Nat} (h : k < 30) : ¬ (30 : Int32) ≤ zI k := by rw [show (30 : Int32) = zI 30 from rfl, zI_le (by omega) (by omega)]; omega
theorem le30' : (30 : Int32) ≤ zI 30 := by decide
theorem cN_s (P : Nat → Bool) (k : Nat) : cN P (k + 1) = if P k = true then cN P k + 1 else cN P k := by
  show cN P k + (if P k = true then 1 else 0) = _
  cases P k <;> rfl
def zIsF (U : Nat → Nat → Int32) (p : Int32) (P : Nat → Bool) : Prop := ∀ i, i < 30 → F_M_isFound U p (zI i) = bI (P i) ∧ Sf_M_isFound U p (zI i)
theorem M_count_I {U : Nat → Nat → Int32} {p : Int32} {P : Nat → Bool} (h : zIsF U p P) : ∀ (n k f : Nat), k + n = 30 → n < f → F_M_count_L75 p f U (zI (cN P k)) (zI k) = (zI (cN P 30), U) ∧ Sf_M_count_L75 p f U (zI (cN P k)) (zI k) := by
  intro n
  induction n with
  | zero =>
    intro k f hk hf
    obtain ⟨f, rfl⟩ : ∃ q, f = q + 1 := ⟨f - 1, by omega⟩
    obtain rfl : k = 30 := by omega
    unfold F_M_count_L75 Sf_M_count_L75
    rw [if_pos le30', if_pos le30']
    exact ⟨rfl, trivial⟩
  | succ n ih =>
    intro k f hk hf
    obtain ⟨f, rfl⟩ : ∃ q, f = q + 1 := ⟨f - 1, by omega⟩
    obtain ⟨i1, i2⟩ := h k (by omega)
    obtain ⟨j1, j2⟩ := ih (k + 1) f (by omega) (by omega)
    unfold F_M_count_L75 Sf_M_count_L75
    rw [if_neg (le30 (by omega)), if_neg (le30 (by omega)), i1, zI_succ]
    rw [cN_s] at j1 j2
    cases q : P k
    · rw [q, if_neg (by decide)] at j1 j2
      simp only [bI, Bool.false_eq_true, if_false, if_true, Int32.add_zero]
      exact ⟨j1, i2, j2⟩
    · rw [q, if_pos rfl] at j1 j2
      simp only [bI, if_true, if_neg ne_10, zI_succ]
      exact ⟨j1, i2, j2⟩
/-- the t-th -/
theorem cN_nth {P : Nat → Bool} {t : Nat} : ∀ n, t < cN P n → ∃ i, i < n ∧ P i = true ∧ cN P i = t := by
  intro n
  induction n with
  | zero => intro h; exact absurd h (Nat.not_lt_zero _)
  | succ n ih =>
    intro h
    rw [cN_s] at h
    by_cases q : t < cN P n
    · obtain ⟨i, a, b, c⟩ := ih q
      exact ⟨i, by omega, b, c⟩
    · cases e : P n
      · rw [e, if_neg (by decide)] at h; exact absurd h q
      · rw [e, if_pos rfl] at h; exact ⟨n, by omega, e, by omega⟩
theorem cN_up {P : Nat → Bool} {a b : Nat} (h : a ≤ b) : cN P a ≤ cN P b := by
  induction b with
  | zero => obtain rfl : a = 0 := by omega
            exact Nat.le_refl _
  | succ b ih =>
    by_cases q : a = b + 1
    · rw [q]; exact Nat.le_refl _
    · have := ih (by omega)
      rw [cN_s]
      split <;> omega
theorem cN_at {P : Nat → Bool} {i k : Nat} (hi : P i = true) (h : i < k) : cN P i < cN P k := by
  have a := cN_up (P := P) (show i + 1 ≤ k by omega)
  rw [cN_s, hi, if_pos rfl] at a
  omega
theorem T_found_I {S : Nat → Nat → Int32} {x : Int32} {P : Nat → Bool} (hx : ∀ k, k < 30 → zB x k = P k) {i : Nat} (hi : i < 30) (hP : P i = true) : ∀ (n k f : Nat), k + n = i → n + 1 < f → F_T_found_L84 (zI (cN P i)) x f S (zI (cN P k)) (zI k) = .inr (.inr (zI i), S) ∧ Sf_T_found_L84 (zI (cN P i)) x f S (zI (cN P k)) (zI k) := by
  intro n
  induction n with
  | zero =>
    intro k f hk hf
    obtain ⟨f, rfl⟩ : ∃ q, f = q + 1 := ⟨f - 1, by omega⟩
    obtain rfl : k = i := by omega
    unfold F_T_found_L84 Sf_T_found_L84
    rw [if_neg (le30 hi), if_neg (le30 hi), T_isIn_I S (by omega), hx k hi, hP]
    simp only [if_true, if_neg ne_10]
    exact ⟨trivial, trivial⟩
  | succ n ih =>
    intro k f hk hf
    obtain ⟨f, rfl⟩ : ∃ q, f = q + 1 := ⟨f - 1, by omega⟩
    obtain ⟨j1, j2⟩ := ih (k + 1) f (by omega) (by omega)
    unfold F_T_found_L84 Sf_T_found_L84
    rw [if_neg (le30 (by omega)), if_neg (le30 (by omega)), T_isIn_I S (by omega), hx k (by omega), zI_succ]
    rw [cN_s] at j1 j2
    have hc := cN_le P 30
    have hc2 := cN_up (P := P) (show i ≤ 30 by omega)
    cases q : P k
    · rw [q, if_neg (by decide)] at j1 j2
      simp only [Bool.false_eq_true, if_false, if_true]
      exact ⟨j1, j2⟩
    · rw [q, if_pos rfl] at j1 j2
      have lt := cN_at q (show k < i by omega)
      have ne : ¬ zI (cN P k) = zI (cN P i) := by rw [zI_inj (by omega) (by omega)]; omega
      simp only [if_true, if_neg ne_10, if_neg ne, zI_succ]
      exact ⟨j1, j2⟩
/-- none is the one asked for -/
theorem M_found_none {U : Nat → Nat → Int32} {p t y : Int32} {P : Nat → Bool} (h : zIsF U p P) : ∀ (n k f : Nat), k + n = 30 → n < f → (∀ j, k ≤ j → j < 30 → P j = true → zI (cN P j) ≠ t) → F_M_found_L79 p t f U (zI (cN P k)) y (zI k) = (y, U) ∧ Sf_M_found_L79 p t f U (zI (cN P k)) y (zI k) := by
  intro n
  induction n with
  | zero =>
    intro k f hk hf _
    obtain ⟨f, rfl⟩ : ∃ q, f = q + 1 := ⟨f - 1, by omega⟩
    obtain rfl : k = 30 := by omega
    unfold F_M_found_L79 Sf_M_found_L79
    rw [if_pos le30', if_pos le30']
    exact ⟨rfl, trivial⟩
  | succ n ih =>
    intro k f hk hf hne
    obtain ⟨f, rfl⟩ : ∃ q, f = q + 1 := ⟨f - 1, by omega⟩
    obtain ⟨i1, i2⟩ := h k (by omega)
    obtain ⟨j1, j2⟩ := ih (k + 1) f (by omega) (by omega) (fun j a b => hne j (by omega) b)
    unfold F_M_found_L79 Sf_M_found_L79 F_M_found_l79_111 Sf_M_found_l79_111 F_M_found_l79_113 Sf_M_found_l79_113
    rw [if_neg (le30 (by omega)), if_neg (le30 (by omega)), i1, zI_succ]
    rw [cN_s] at j1 j2
    cases q : P k
    · rw [q, if_neg (by decide)] at j1 j2
      simp only [bI, Bool.false_eq_true, if_false, if_true, Int32.add_zero]
      exact ⟨j1, i2, j2⟩
    · rw [q, if_pos rfl] at j1 j2
      have ne := hne k (Nat.le_refl _) (by omega) q
      simp only [bI, if_true, if_neg ne_10, if_neg ne, zI_succ]
      exact ⟨j1, i2, j2⟩
theorem M_found_some {U : Nat → Nat → Int32} {p y : Int32} {P : Nat → Bool} (h : zIsF U p P) {i : Nat} (hi : i < 30) (hP : P i = true) : ∀ (n k f : Nat), k + n = i → 31 - k < f → F_M_found_L79 p (zI (cN P i)) f U (zI (cN P k)) y (zI k) = (zI i, U) ∧ Sf_M_found_L79 p (zI (cN P i)) f U (zI (cN P k)) y (zI k) := by
  intro n
  have hc := cN_le P 30
  induction n with
  | zero =>
    intro k f hk hf
    obtain ⟨f, rfl⟩ : ∃ q, f = q + 1 := ⟨f - 1, by omega⟩
    obtain rfl : k = i := by omega
    obtain ⟨i1, i2⟩ := h k hi
    obtain ⟨j1, j2⟩ := M_found_none (t := zI (cN P k)) (y := zI k) h (30 - (k + 1)) (k + 1) f (by omega) (by omega) (fun j a b e => by
      have l1 := cN_at hP (show k < j by omega)
      have l2 := cN_up (P := P) (show j ≤ 30 by omega)
      rw [Ne, zI_inj (by omega) (by omega)]; omega)
    unfold F_M_found_L79 Sf_M_found_L79 F_M_found_l79_111 Sf_M_found_l79_111 F_M_found_l79_113 Sf_M_found_l79_113
    rw [if_neg (le30 (by omega)), if_neg (le30 (by omega)), i1, zI_succ]
    rw [cN_s, hP, if_pos rfl] at j1 j2
    simp only [hP, bI, if_true, if_neg ne_10, zI_succ]
    exact ⟨j1, i2, j2⟩
  | succ n ih =>
    intro k f hk hf
    obtain ⟨f, rfl⟩ : ∃ q, f = q + 1 := ⟨f - 1, by omega⟩
    obtain ⟨i1, i2⟩ := h k (by omega)
    obtain ⟨j1, j2⟩ := ih (k + 1) f (by omega) (by omega)
    unfold F_M_found_L79 Sf_M_found_L79 F_M_found_l79_111 Sf_M_found_l79_111 F_M_found_l79_113 Sf_M_found_l79_113
    rw [if_neg (le30 (by omega)), if_neg (le30 (by omega)), i1, zI_succ]
    rw [cN_s] at j1 j2
    cases q : P k
    · rw [q, if_neg (by decide)] at j1 j2
      simp only [bI, Bool.false_eq_true, if_false, if_true, Int32.add_zero]
      exact ⟨j1, i2, j2⟩
    · rw [q, if_pos rfl] at j1 j2
      have lt := cN_at q (show k < i by omega)
      have l2 := cN_up (P := P) (show i ≤ 30 by omega)
      have ne : ¬ zI (cN P k) = zI (cN P i) := by rw [zI_inj (by omega) (by omega)]; omega
      simp only [bI, if_true, if_neg ne_10, if_neg ne, zI_succ]
      exact ⟨j1, i2, j2⟩
/-- sums -/
def sT (P : Nat → Bool) (v : Nat → Int32) : Nat → Nat → Int32 → Int32
  | 0, _, x => x
  | n + 1, k, x => sT P v n (k + 1) (if P k = true then (if v k = -1 then x else x + v k) else x)
theorem T_total_L {S : Nat → Nat → Int32} {x F : Int32} {P : Nat → Bool} {v : Nat → Int32} (hx : ∀ k, k < 30 → zB x k = P k) (hv : ∀ i, i < 30 → F_Sight_value 28 S (zI i) F = v i ∧ Sf_Sight_value 28 S (zI i) F) : ∀ (n k f : Nat) (y : Int32), k + n = 30 → n < f → F_Sight_total_L5 28 S x F f y (zI k) = sT P v n k y ∧ Sf_Sight_total_L5 28 S x F f y (zI k) := by
  intro n
  induction n with
  | zero =>
    intro k f y hk hf
    obtain ⟨f, rfl⟩ : ∃ q, f = q + 1 := ⟨f - 1, by omega⟩
    obtain rfl : k = 30 := by omega
    unfold F_Sight_total_L5 Sf_Sight_total_L5
    rw [if_pos le30', if_pos le30']
    exact ⟨rfl, trivial⟩
  | succ n ih =>
    intro k f y hk hf
    obtain ⟨f, rfl⟩ : ∃ q, f = q + 1 := ⟨f - 1, by omega⟩
    obtain ⟨v1, v2⟩ := hv k (by omega)
    obtain ⟨j1, j2⟩ := ih (k + 1) f (if P k = true then (if v k = -1 then y else y + v k) else y) (by omega) (by omega)
    unfold F_Sight_total_L5 Sf_Sight_total_L5 F_Sight_total_l5_32 Sf_Sight_total_l5_32 sT
    rw [if_neg (le30 (by omega)), if_neg (le30 (by omega)), T_isIn_I S (by omega), hx k (by omega), zI_succ, v1]
    cases q : P k
    · rw [q] at j1 j2
      simp only [Bool.false_eq_true, if_false, if_true, Int32.add_zero] at j1 j2 ⊢
      exact ⟨j1, j2⟩
    · rw [q] at j1 j2
      simp only [if_true, if_neg ne_10] at j1 j2 ⊢
      by_cases q2 : v k = -1
      · simp only [q2, if_true, Int32.add_zero] at j1 j2 ⊢
        exact ⟨j1, v2, j2⟩
      · simp only [if_neg q2] at j1 j2 ⊢
        exact ⟨j1, v2, j2⟩
theorem T_total_I {S : Nat → Nat → Int32} {x F : Int32} {P : Nat → Bool} {v : Nat → Int32} (hx : ∀ k, k < 30 → zB x k = P k) (hv : ∀ i, i < 30 → F_Sight_value 28 S (zI i) F = v i ∧ Sf_Sight_value 28 S (zI i) F) : F_Sight_total 28 S x F = sT P v 30 0 0 ∧ Sf_Sight_total 28 S x F := by
  obtain ⟨a, b⟩ := T_total_L hx hv 30 0 1300 0 rfl (by omega)
  exact ⟨a, b, trivial⟩
theorem M_sum_I {U : Nat → Nat → Int32} {p F : Int32} {P : Nat → Bool} {v : Nat → Int32} (h : zIsF U p P) (hv : ∀ i, i < 30 → F_M_valueFor 98 U p (zI i) F = v i ∧ Sf_M_valueFor 98 U p (zI i) F) : ∀ (n k f : Nat) (y : Int32), k + n = 30 → n < f → F_M_sum_L89 p F f U y (zI k) = (sT P v n k y, U) ∧ Sf_M_sum_L89 p F f U y (zI k) := by
  intro n
  induction n with
  | zero =>
    intro k f y hk hf
    obtain ⟨f, rfl⟩ : ∃ q, f = q + 1 := ⟨f - 1, by omega⟩
    obtain rfl : k = 30 := by omega
    unfold F_M_sum_L89 Sf_M_sum_L89
    rw [if_pos le30', if_pos le30']
    exact ⟨rfl, trivial⟩
  | succ n ih =>
    intro k f y hk hf
    obtain ⟨f, rfl⟩ : ∃ q, f = q + 1 := ⟨f - 1, by omega⟩
    obtain ⟨i1, i2⟩ := h k (by omega)
    obtain ⟨v1, v2⟩ := hv k (by omega)
    obtain ⟨j1, j2⟩ := ih (k + 1) f (if P k = true then (if v k = -1 then y else y + v k) else y) (by omega) (by omega)
    unfold F_M_sum_L89 Sf_M_sum_L89 F_M_sum_l89_122 Sf_M_sum_l89_122 sT
    rw [if_neg (le30 (by omega)), if_neg (le30 (by omega)), i1, zI_succ, v1]
    cases q : P k
    · rw [q] at j1 j2
      simp only [bI, Bool.false_eq_true, if_false, if_true, Int32.add_zero] at j1 j2 ⊢
      exact ⟨j1, i2, j2⟩
    · rw [q] at j1 j2
      simp only [bI, if_true, if_neg ne_10] at j1 j2 ⊢
      by_cases q2 : v k = -1
      · simp only [q2, if_true, Int32.add_zero] at j1 j2 ⊢
        exact ⟨j1, i2, v2, j2⟩
      · simp only [if_neg q2] at j1 j2 ⊢
        exact ⟨j1, i2, v2, j2⟩
