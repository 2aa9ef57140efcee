/-! PURE: the reference's worlds held against each other -/
theorem MW_isSame_L39_I {S : Nat → Nat → Int32} {i : Nat} (hi : i < 30) : ∀ (n k f : Nat), n + k = 3 → n < f → ∀ x : Int32, (x = 0 ∨ x = 1) → Sf_MW_isSame_L39 S (zI i) f x (zI k) ∧ (F_MW_isSame_L39 S (zI i) f x (zI k) = 0 ∨ F_MW_isSame_L39 S (zI i) f x (zI k) = 1) ∧ (F_MW_isSame_L39 S (zI i) f x (zI k) = 1 ↔ x = 1 ∧ ∀ q, k ≤ q → q < 3 → S 90 (3 * i + q) = S 114 (3 * i + q)) := by
  intro n
  induction n with
  | zero =>
    intro k f hk hf x hx
    obtain ⟨f, rfl⟩ : ∃ g, f = g + 1 := ⟨f - 1, by omega⟩
    have hl : (3 : Int32) ≤ zI k := by rw [show (3 : Int32) = zI 3 from rfl, zI_le (by omega) (by omega)]; omega
    unfold Sf_MW_isSame_L39 F_MW_isSame_L39
    rw [if_pos hl, if_pos hl]
    exact ⟨trivial, hx, fun h => ⟨h, fun q h1 h2 => by omega⟩, fun h => h.1⟩
  | succ n ih =>
    intro k f hk hf x hx
    obtain ⟨f, rfl⟩ : ∃ g, f = g + 1 := ⟨f - 1, by omega⟩
    have hl : ¬ (3 : Int32) ≤ zI k := by rw [show (3 : Int32) = zI 3 from rfl, zI_le (by omega) (by omega)]; omega
    have e1 : (3 : Int32) * zI i + zI k = zI (3 * i + k) := by rw [show (3 : Int32) = zI 3 from rfl, zI_mul, zI_add]
    unfold Sf_MW_isSame_L39 F_MW_isSame_L39 F_MW_isSame_l39_78 Sf_MW_isSame_l39_78
    rw [if_neg hl, if_neg hl, e1, zI_clamp (show 3 * i + k < 2147483648 by omega), zI_succ]
    obtain ⟨i1, i2, i3⟩ := ih (k + 1) f (by omega) (by omega) 0 (Or.inl rfl)
    rcases hx with rfl | rfl
    · rw [if_pos rfl, if_pos rfl]
      exact ⟨i1, i2, i3.trans ⟨fun h => absurd h.1 (by decide), fun h => absurd h.1 (by decide)⟩⟩
    · rw [if_neg (show ¬ ((1 : Int32) = 0) by decide), if_neg (show ¬ ((1 : Int32) = 0) by decide)]
      by_cases q : S 90 (3 * i + k) = S 114 (3 * i + k)
      · rw [if_pos q, if_pos q]
        obtain ⟨i1, i2, i3⟩ := ih (k + 1) f (by omega) (by omega) 1 (Or.inr rfl)
        refine ⟨⟨vp_in_I (by omega) (by omega), vp_in_I (by omega) (by omega), i1⟩, i2, i3.trans ⟨fun h => ⟨rfl, fun j h1 h2 => ?_⟩, fun h => ⟨rfl, fun j h1 h2 => h.2 j (by omega) h2⟩⟩⟩
        by_cases e : j = k
        · rw [e]; exact q
        · exact h.2 j (by omega) h2
      · rw [if_neg q, if_neg q]
        exact ⟨⟨vp_in_I (by omega) (by omega), vp_in_I (by omega) (by omega), i1⟩, i2, i3.trans ⟨fun h => absurd h.1 (by decide), fun h => absurd (h.2 k (by omega) (by omega)) q⟩⟩
theorem MW_isSame_I {S : Nat → Nat → Int32} {w w' : zWd} (h : zWM 86 S w) (g : zWM 110 S w') {i : Nat} (hi : i < 30) : Sf_MW_isSame S (zI i) ∧ (F_MW_isSame S (zI i) = 0 ∨ F_MW_isSame S (zI i) = 1) ∧ (F_MW_isSame S (zI i) = 1 ↔ w'.1 i = w.1 i ∧ (w.1 i = true → ∀ c, c < 10 → w'.2.1 i c = w.2.1 i c)) := by
  have vi : vp_in (zI i) 30 := vp_in_I hi (by omega)
  have n10 : ¬ ((1 : Int32) = 0) := by decide
  have n01 : ¬ ((0 : Int32) = 1) := by decide
  have h95 : S 95 i = if w.1 i = true then 1 else 0 := h.has i hi
  have h119 : S 119 i = if w'.1 i = true then 1 else 0 := g.has i hi
  unfold F_MW_isSame Sf_MW_isSame
  rw [zI_clamp (show i < 2147483648 by omega), h95, h119]
  by_cases e : w'.1 i = w.1 i
  · rw [e, if_pos rfl, if_pos rfl]
    unfold F_MW_isSame_j20 Sf_MW_isSame_j20
    rw [if_neg n10, if_neg n10, zI_clamp (show i < 2147483648 by omega), h95]
    by_cases hw : w.1 i = true
    · have hw' : w'.1 i = true := e.trans hw
      rw [if_pos hw, if_neg n10, if_neg n10]
      obtain ⟨l1, l2, l3⟩ := MW_isSame_L39_I (S := S) hi 3 0 1300 rfl (by omega) 1 (Or.inr rfl)
      rw [zI_0] at l1 l2 l3
      have c : ∀ c, c < 10 → S (zMC 86 i c) (zMJ i c) = w.2.1 i c := h.col i hi hw
      have c' : ∀ c, c < 10 → S (zMC 110 i c) (zMJ i c) = w'.2.1 i c := g.col i hi hw'
      have f0 : S 89 i = w.2.1 i 0 := c 0 (by omega)
      have f4 : S 91 i = w.2.1 i 4 := c 4 (by omega)
      have f5 : S 92 i = w.2.1 i 5 := c 5 (by omega)
      have f6 : S 93 i = w.2.1 i 6 := c 6 (by omega)
      have f7 : S 94 i = w.2.1 i 7 := c 7 (by omega)
      have f8 : S 87 i = w.2.1 i 8 := c 8 (by omega)
      have f9 : S 88 i = w.2.1 i 9 := c 9 (by omega)
      have ff : ∀ q, q < 3 → S 90 (3 * i + q) = w.2.1 i (1 + q) := fun q hq => by
        have := c (1 + q) (by omega)
        unfold zMC zMJ at this
        rw [if_neg (by omega), if_pos (by omega), if_neg (by omega), if_pos (by omega)] at this
        rw [← this]; congr 1; omega
      have g0 : S 113 i = w'.2.1 i 0 := c' 0 (by omega)
      have g4 : S 115 i = w'.2.1 i 4 := c' 4 (by omega)
      have g5 : S 116 i = w'.2.1 i 5 := c' 5 (by omega)
      have g6 : S 117 i = w'.2.1 i 6 := c' 6 (by omega)
      have g7 : S 118 i = w'.2.1 i 7 := c' 7 (by omega)
      have g8 : S 111 i = w'.2.1 i 8 := c' 8 (by omega)
      have g9 : S 112 i = w'.2.1 i 9 := c' 9 (by omega)
      have gf : ∀ q, q < 3 → S 114 (3 * i + q) = w'.2.1 i (1 + q) := fun q hq => by
        have := c' (1 + q) (by omega)
        unfold zMC zMJ at this
        rw [if_neg (by omega), if_pos (by omega), if_neg (by omega), if_pos (by omega)] at this
        rw [← this]; congr 1; omega
      have lf : F_MW_isSame_L39 S (zI i) 1300 1 0 = 1 ↔ ∀ q, q < 3 → w'.2.1 i (1 + q) = w.2.1 i (1 + q) := l3.trans ⟨fun k q hq => by rw [← gf q hq, ← ff q hq]; exact (k.2 q (by omega) hq).symm, fun k => ⟨rfl, fun q _ hq => by rw [gf q hq, ff q hq]; exact (k q hq).symm⟩⟩
      unfold F_MW_isSame_j139 Sf_MW_isSame_j139 F_MW_isSame_j140 Sf_MW_isSame_j140 F_MW_isSame_j209
      simp only [zI_clamp (show i < 2147483648 by omega), f0, f4, f5, f6, f7, f8, f9, g0, g4, g5, g6, g7, g8, g9, if_true, if_neg n10]
      have no : ∀ Q : Prop, ¬ Q → ((True ∨ (0 : Int32) = 1) ∧ ((0 : Int32) = 1 ↔ True ∧ Q)) := fun Q hQ => ⟨Or.inl trivial, fun h => absurd h (by decide), fun h => absurd h.2 hQ⟩
      have two : ∀ P : Prop, P → vp_in (zI i) 30 ∧ vp_in (zI i) 30 ∧ P := fun P hP => ⟨vi, vi, hP⟩
      rcases l2 with q | q
      · rw [q]; simp only [if_true]
        refine ⟨⟨vi, vi, vi, l1, trivial⟩, no _ (fun k => ?_)⟩
        have := lf.mpr (fun r hr => k hw (1 + r) (by omega))
        rw [q] at this; exact absurd this (by decide)
      · have hfs := lf.mp q
        rw [q]; simp only [if_neg n10]
        by_cases a8 : w.2.1 i 8 = w'.2.1 i 8
        case neg => simp only [if_neg a8]; exact ⟨⟨vi, vi, vi, l1, two _ trivial⟩, no _ (fun k => a8 (k hw 8 (by omega)).symm)⟩
        by_cases a9 : w.2.1 i 9 = w'.2.1 i 9
        case neg => simp only [if_pos a8, if_neg a9]; exact ⟨⟨vi, vi, vi, l1, two _ (two _ trivial)⟩, no _ (fun k => a9 (k hw 9 (by omega)).symm)⟩
        by_cases a0 : w.2.1 i 0 = w'.2.1 i 0
        case neg => simp only [if_pos a8, if_pos a9, if_neg a0]; exact ⟨⟨vi, vi, vi, l1, two _ (two _ (two _ trivial))⟩, no _ (fun k => a0 (k hw 0 (by omega)).symm)⟩
        by_cases a4 : w.2.1 i 4 = w'.2.1 i 4
        case neg => simp only [if_pos a8, if_pos a9, if_pos a0, if_neg a4]; exact ⟨⟨vi, vi, vi, l1, two _ (two _ (two _ (two _ trivial)))⟩, no _ (fun k => a4 (k hw 4 (by omega)).symm)⟩
        by_cases a5 : w.2.1 i 5 = w'.2.1 i 5
        case neg => simp only [if_pos a8, if_pos a9, if_pos a0, if_pos a4, if_neg a5]; exact ⟨⟨vi, vi, vi, l1, two _ (two _ (two _ (two _ (two _ trivial))))⟩, no _ (fun k => a5 (k hw 5 (by omega)).symm)⟩
        by_cases a6 : w.2.1 i 6 = w'.2.1 i 6
        case neg => simp only [if_pos a8, if_pos a9, if_pos a0, if_pos a4, if_pos a5, if_neg a6]; exact ⟨⟨vi, vi, vi, l1, two _ (two _ (two _ (two _ (two _ (two _ trivial)))))⟩, no _ (fun k => a6 (k hw 6 (by omega)).symm)⟩
        by_cases a7 : w.2.1 i 7 = w'.2.1 i 7
        case neg => simp only [if_pos a8, if_pos a9, if_pos a0, if_pos a4, if_pos a5, if_pos a6, if_neg a7]; exact ⟨⟨vi, vi, vi, l1, two _ (two _ (two _ (two _ (two _ (two _ (two _ trivial))))))⟩, no _ (fun k => a7 (k hw 7 (by omega)).symm)⟩
        simp only [if_pos a8, if_pos a9, if_pos a0, if_pos a4, if_pos a5, if_pos a6, if_pos a7]
        refine ⟨⟨vi, vi, vi, l1, two _ (two _ (two _ (two _ (two _ (two _ (two _ trivial))))))⟩, Or.inr (by first | rfl | trivial), fun _ => ⟨by first | exact e | trivial, fun _ c hc => ?_⟩, fun _ => by first | rfl | trivial⟩
        have h1 := hfs 0 (by omega)
        have h2 := hfs 1 (by omega)
        have h3 := hfs 2 (by omega)
        match c, hc with
        | 0, _ => exact a0.symm
        | 1, _ => exact h1
        | 2, _ => exact h2
        | 3, _ => exact h3
        | 4, _ => exact a4.symm
        | 5, _ => exact a5.symm
        | 6, _ => exact a6.symm
        | 7, _ => exact a7.symm
        | 8, _ => exact a8.symm
        | 9, _ => exact a9.symm
        | c + 10, hc => omega
    · rw [if_neg hw, if_pos rfl, if_pos rfl]
      exact ⟨⟨vi, vi, vi, rfl, trivial⟩, Or.inr rfl, fun _ => ⟨rfl, fun q => absurd q hw⟩, fun _ => rfl⟩
  · have ne : ¬ ((if w.1 i = true then (1 : Int32) else 0) = if w'.1 i = true then 1 else 0) := by
      cases h1 : w.1 i <;> cases h2 : w'.1 i <;> simp_all
    rw [if_neg ne, if_neg ne]
    unfold F_MW_isSame_j20 Sf_MW_isSame_j20
    rw [if_pos rfl, if_pos rfl]
    exact ⟨⟨vi, vi, rfl, trivial⟩, Or.inl rfl, fun q => absurd q (by decide), fun q => absurd q.1 e⟩
theorem MW_isAs_L4_I {S : Nat → Nat → Int32} {w w' : zWd} (h : zWM 86 S w) (g : zWM 110 S w') : ∀ (n k f : Nat), n + k = 30 → n < f → ∀ x : Int32, (x = 0 ∨ x = 1) → Sf_MW_isAs_L4 S f x (zI k) ∧ (F_MW_isAs_L4 S f x (zI k) = 0 ∨ F_MW_isAs_L4 S f x (zI k) = 1) ∧ (F_MW_isAs_L4 S f x (zI k) = 1 ↔ x = 1 ∧ ∀ q, k ≤ q → q < 30 → w'.1 q = w.1 q ∧ (w.1 q = true → ∀ c, c < 10 → w'.2.1 q c = w.2.1 q c)) := by
  intro n
  induction n with
  | zero =>
    intro k f hk hf x hx
    obtain ⟨f, rfl⟩ : ∃ g, f = g + 1 := ⟨f - 1, by omega⟩
    have hl : (30 : Int32) ≤ zI k := by rw [show (30 : Int32) = zI 30 from rfl, zI_le (by omega) (by omega)]; omega
    unfold Sf_MW_isAs_L4 F_MW_isAs_L4
    rw [if_pos hl, if_pos hl]
    exact ⟨trivial, hx, fun h => ⟨h, fun q h1 h2 => by omega⟩, fun h => h.1⟩
  | succ n ih =>
    intro k f hk hf x hx
    obtain ⟨f, rfl⟩ : ∃ g, f = g + 1 := ⟨f - 1, by omega⟩
    have hl : ¬ (30 : Int32) ≤ zI k := by rw [show (30 : Int32) = zI 30 from rfl, zI_le (by omega) (by omega)]; omega
    obtain ⟨s1, s2, s3⟩ := MW_isSame_I h g (show k < 30 by omega)
    unfold Sf_MW_isAs_L4 F_MW_isAs_L4 F_MW_isAs_l4_27 Sf_MW_isAs_l4_27
    rw [if_neg hl, if_neg hl, zI_succ]
    obtain ⟨i1, i2, i3⟩ := ih (k + 1) f (by omega) (by omega) 0 (Or.inl rfl)
    rcases hx with rfl | rfl
    · rw [if_pos rfl, if_pos rfl]
      exact ⟨i1, i2, i3.trans ⟨fun h => absurd h.1 (by decide), fun h => absurd h.1 (by decide)⟩⟩
    · rw [if_neg (show ¬ ((1 : Int32) = 0) by decide), if_neg (show ¬ ((1 : Int32) = 0) by decide)]
      rcases s2 with q | q
      · rw [if_pos q, if_pos q]
        exact ⟨⟨s1, i1⟩, i2, i3.trans ⟨fun h => absurd h.1 (by decide), fun h => by have := s3.mpr (h.2 k (by omega) (by omega)); rw [q] at this; exact absurd this (by decide)⟩⟩
      · have nq : ¬ F_MW_isSame S (zI k) = 0 := by rw [q]; decide
        rw [if_neg nq, if_neg nq]
        obtain ⟨i1, i2, i3⟩ := ih (k + 1) f (by omega) (by omega) 1 (Or.inr rfl)
        refine ⟨⟨s1, i1⟩, i2, i3.trans ⟨fun h => ⟨rfl, fun j h1 h2 => ?_⟩, fun h => ⟨rfl, fun j h1 h2 => h.2 j (by omega) h2⟩⟩⟩
        by_cases e : j = k
        · rw [e]; exact s3.mp q
        · exact h.2 j (by omega) h2
theorem MW_isAs_L37_I {S : Nat → Nat → Int32} : ∀ (n k f : Nat), n + k = 2700 → n < f → ∀ x : Int32, (x = 0 ∨ x = 1) → Sf_MW_isAs_L37 S f x (zI k) ∧ (F_MW_isAs_L37 S f x (zI k) = 0 ∨ F_MW_isAs_L37 S f x (zI k) = 1) ∧ (F_MW_isAs_L37 S f x (zI k) = 1 ↔ x = 1 ∧ ∀ q, k ≤ q → q < 2700 → S 96 q = S 120 q) := by
  intro n
  induction n with
  | zero =>
    intro k f hk hf x hx
    obtain ⟨f, rfl⟩ : ∃ g, f = g + 1 := ⟨f - 1, by omega⟩
    have hl : (2700 : Int32) ≤ zI k := by rw [show (2700 : Int32) = zI 2700 from rfl, zI_le (by omega) (by omega)]; omega
    unfold Sf_MW_isAs_L37 F_MW_isAs_L37
    rw [if_pos hl, if_pos hl]
    exact ⟨trivial, hx, fun h => ⟨h, fun q h1 h2 => by omega⟩, fun h => h.1⟩
  | succ n ih =>
    intro k f hk hf x hx
    obtain ⟨f, rfl⟩ : ∃ g, f = g + 1 := ⟨f - 1, by omega⟩
    have hl : ¬ (2700 : Int32) ≤ zI k := by rw [show (2700 : Int32) = zI 2700 from rfl, zI_le (by omega) (by omega)]; omega
    unfold Sf_MW_isAs_L37 F_MW_isAs_L37 F_MW_isAs_l37_67 Sf_MW_isAs_l37_67
    rw [if_neg hl, if_neg hl, zI_clamp (show k < 2147483648 by omega), zI_succ]
    obtain ⟨i1, i2, i3⟩ := ih (k + 1) f (by omega) (by omega) 0 (Or.inl rfl)
    rcases hx with rfl | rfl
    · rw [if_pos rfl, if_pos rfl]
      exact ⟨i1, i2, i3.trans ⟨fun h => absurd h.1 (by decide), fun h => absurd h.1 (by decide)⟩⟩
    · rw [if_neg (show ¬ ((1 : Int32) = 0) by decide), if_neg (show ¬ ((1 : Int32) = 0) by decide)]
      by_cases q : S 96 k = S 120 k
      · rw [if_pos q, if_pos q]
        obtain ⟨i1, i2, i3⟩ := ih (k + 1) f (by omega) (by omega) 1 (Or.inr rfl)
        refine ⟨⟨vp_in_I (by omega) (by omega), vp_in_I (by omega) (by omega), i1⟩, i2, i3.trans ⟨fun h => ⟨rfl, fun j h1 h2 => ?_⟩, fun h => ⟨rfl, fun j h1 h2 => h.2 j (by omega) h2⟩⟩⟩
        by_cases e : j = k
        · rw [e]; exact q
        · exact h.2 j (by omega) h2
      · rw [if_neg q, if_neg q]
        exact ⟨⟨vp_in_I (by omega) (by omega), vp_in_I (by omega) (by omega), i1⟩, i2, i3.trans ⟨fun h => absurd h.1 (by decide), fun h => absurd (h.2 k (by omega) (by omega)) q⟩⟩
theorem MW_isAs_L77_I {S : Nat → Nat → Int32} : ∀ (n k f : Nat), n + k = 24 → n < f → ∀ x : Int32, (x = 0 ∨ x = 1) → Sf_MW_isAs_L77 S f x (zI k) ∧ (F_MW_isAs_L77 S f x (zI k) = 0 ∨ F_MW_isAs_L77 S f x (zI k) = 1) ∧ (F_MW_isAs_L77 S f x (zI k) = 1 ↔ x = 1 ∧ ∀ q, k ≤ q → q < 24 → S 97 q = S 121 q) := by
  intro n
  induction n with
  | zero =>
    intro k f hk hf x hx
    obtain ⟨f, rfl⟩ : ∃ g, f = g + 1 := ⟨f - 1, by omega⟩
    have hl : (24 : Int32) ≤ zI k := by rw [show (24 : Int32) = zI 24 from rfl, zI_le (by omega) (by omega)]; omega
    unfold Sf_MW_isAs_L77 F_MW_isAs_L77
    rw [if_pos hl, if_pos hl]
    exact ⟨trivial, hx, fun h => ⟨h, fun q h1 h2 => by omega⟩, fun h => h.1⟩
  | succ n ih =>
    intro k f hk hf x hx
    obtain ⟨f, rfl⟩ : ∃ g, f = g + 1 := ⟨f - 1, by omega⟩
    have hl : ¬ (24 : Int32) ≤ zI k := by rw [show (24 : Int32) = zI 24 from rfl, zI_le (by omega) (by omega)]; omega
    unfold Sf_MW_isAs_L77 F_MW_isAs_L77 F_MW_isAs_l77_106 Sf_MW_isAs_l77_106
    rw [if_neg hl, if_neg hl, zI_clamp (show k < 2147483648 by omega), zI_succ]
    obtain ⟨i1, i2, i3⟩ := ih (k + 1) f (by omega) (by omega) 0 (Or.inl rfl)
    rcases hx with rfl | rfl
    · rw [if_pos rfl, if_pos rfl]
      exact ⟨i1, i2, i3.trans ⟨fun h => absurd h.1 (by decide), fun h => absurd h.1 (by decide)⟩⟩
    · rw [if_neg (show ¬ ((1 : Int32) = 0) by decide), if_neg (show ¬ ((1 : Int32) = 0) by decide)]
      by_cases q : S 97 k = S 121 k
      · rw [if_pos q, if_pos q]
        obtain ⟨i1, i2, i3⟩ := ih (k + 1) f (by omega) (by omega) 1 (Or.inr rfl)
        refine ⟨⟨vp_in_I (by omega) (by omega), vp_in_I (by omega) (by omega), i1⟩, i2, i3.trans ⟨fun h => ⟨rfl, fun j h1 h2 => ?_⟩, fun h => ⟨rfl, fun j h1 h2 => h.2 j (by omega) h2⟩⟩⟩
        by_cases e : j = k
        · rw [e]; exact q
        · exact h.2 j (by omega) h2
      · rw [if_neg q, if_neg q]
        exact ⟨⟨vp_in_I (by omega) (by omega), vp_in_I (by omega) (by omega), i1⟩, i2, i3.trans ⟨fun h => absurd h.1 (by decide), fun h => absurd (h.2 k (by omega) (by omega)) q⟩⟩
theorem MW_isAs_I {S : Nat → Nat → Int32} {w w' : zWd} (h : zWM 86 S w) (g : zWM 110 S w') : Sf_MW_isAs S ∧ (F_MW_isAs S = 0 ∨ F_MW_isAs S = 1) ∧ (F_MW_isAs S = 1 ↔ zSame w w') := by
  obtain ⟨a1, a2, a3⟩ := MW_isAs_L4_I h g 30 0 3000 (by omega) (by omega) 1 (Or.inr rfl)
  rw [zI_0] at a1 a2 a3
  generalize hA : F_MW_isAs_L4 S 3000 1 0 = a at a1 a2 a3
  obtain ⟨b1, b2, b3⟩ := MW_isAs_L37_I (S := S) 2700 0 3000 (by omega) (by omega) a a2
  rw [zI_0] at b1 b2 b3
  generalize hB : F_MW_isAs_L37 S 3000 a 0 = b at b1 b2 b3
  obtain ⟨c1, c2, c3⟩ := MW_isAs_L77_I (S := S) 24 0 3000 (by omega) (by omega) b b2
  rw [zI_0] at c1 c2 c3
  generalize hC : F_MW_isAs_L77 S 3000 b 0 = c at c1 c2 c3
  unfold F_MW_isAs Sf_MW_isAs
  simp only [hA, hB, hC]
  refine ⟨⟨a1, b1, c1, by rcases c2 with rfl | rfl <;> rfl, trivial⟩, c2, ?_⟩
  rw [c3, b3, a3]
  constructor
  · rintro ⟨⟨⟨-, p1⟩, p2⟩, p3⟩
    refine ⟨fun i hi => (p1 i (by omega) hi).1, fun i hi hw c hc => (p1 i (by omega) hi).2 hw c hc, fun t ht i hi j hj => ?_, fun k hk => ?_⟩
    · have q := p2 (900 * t + 30 * i + j) (by omega) (by omega)
      have q1 : S 96 (900 * t + 30 * i + j) = _ := h.link t ht i hi j hj
      have q2 : S 120 (900 * t + 30 * i + j) = _ := g.link t ht i hi j hj
      rw [q1, q2] at q
      cases x : w.2.2.1 t i j <;> cases y : w'.2.2.1 t i j <;> simp_all
    · have q := p3 k (by omega) hk
      have q1 : S 97 k = _ := h.role k hk
      have q2 : S 121 k = _ := g.role k hk
      rw [q1, q2] at q
      exact q.symm
  · rintro ⟨p1, p2, p3, p4⟩
    refine ⟨⟨⟨rfl, fun q _ hq => ⟨p1 q hq, fun hw c hc => p2 q hq hw c hc⟩⟩, fun q _ hq => ?_⟩, fun q _ hq => ?_⟩
    · have q1 : S 96 (900 * (q / 900) + 30 * (q % 900 / 30) + q % 30) = _ := h.link (q / 900) (by omega) (q % 900 / 30) (by omega) (q % 30) (by omega)
      have q2 : S 120 (900 * (q / 900) + 30 * (q % 900 / 30) + q % 30) = _ := g.link (q / 900) (by omega) (q % 900 / 30) (by omega) (q % 30) (by omega)
      rw [p3 _ (by omega) _ (by omega) _ (by omega)] at q2
      rw [show 900 * (q / 900) + 30 * (q % 900 / 30) + q % 30 = q by omega] at q1 q2
      rw [q1, q2]
    · have q1 : S 97 q = _ := h.role q hq
      have q2 : S 121 q = _ := g.role q hq
      rw [q1, q2, p4 q hq]
