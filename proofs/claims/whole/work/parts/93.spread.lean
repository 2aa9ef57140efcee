/-! PURE: the middle and the spread -/
theorem zI_half {c : Nat} (h : c < 2147483648) : zI c / 2 = zI (c / 2) := by
  apply Int32.toInt_inj.mp
  rw [Int32.toInt_div, zI_toInt h, zI_toInt (by omega), show (2 : Int32).toInt = 2 from rfl, Int.tdiv_eq_ediv_of_nonneg (by omega)]
  rw [Int.bmod_eq_of_le (by omega) (by omega)]
  omega
def rLo (R : Nat → Nat) (i t : Nat) : Nat → Nat
  | 0 => 0
  | x + 1 => if x ≠ i ∧ R x < R t then (if rLo R i t x < R x then R x else rLo R i t x) else rLo R i t x
theorem rLo_lt {R : Nat → Nat} {i t : Nat} (h : 1 ≤ R t) : ∀ n, rLo R i t n < R t := by
  intro n
  induction n with
  | zero => show 0 < R t; omega
  | succ n ih =>
    unfold rLo
    split
    · rename_i q; split
      · exact q.2
      · exact ih
    · exact ih
theorem rLo_ge {R : Nat → Nat} {i t : Nat} : ∀ n y, y < n → y ≠ i → R y < R t → R y ≤ rLo R i t n := by
  intro n
  induction n with
  | zero => intro y h; omega
  | succ n ih =>
    intro y hy h1 h2
    unfold rLo
    by_cases e : y = n
    · subst e
      rw [if_pos ⟨h1, h2⟩]; split <;> omega
    · have := ih y (by omega) h1 h2
      split
      · split <;> omega
      · exact this
theorem rLo_src {R : Nat → Nat} {i t : Nat} : ∀ n, rLo R i t n = 0 ∨ ∃ y, y < n ∧ y ≠ i ∧ R y < R t ∧ rLo R i t n = R y := by
  intro n
  induction n with
  | zero => exact Or.inl rfl
  | succ n ih =>
    have old : rLo R i t n = 0 ∨ ∃ y, y < n + 1 ∧ y ≠ i ∧ R y < R t ∧ rLo R i t n = R y := by
      rcases ih with q | ⟨y, h1, h2⟩
      · exact Or.inl q
      · exact Or.inr ⟨y, by omega, h2⟩
    unfold rLo
    split
    · rename_i q; split
      · exact Or.inr ⟨n, by omega, q.1, q.2, rfl⟩
      · exact old
    · exact old
theorem rLo_le {R : Nat → Nat} {i t n : Nat} (hR : ∀ x, x < n → x ≠ i → R x ≤ 1024 * n) : ∀ x, x ≤ n → rLo R i t x ≤ 1024 * n := by
  intro x hx
  rcases rLo_src (R := R) (i := i) (t := t) x with q | ⟨y, h1, h2, h3, h4⟩
  · omega
  · rw [h4]; exact hR y (by omega) h2
def rMd (R : Nat → Nat) (i t n : Nat) : Nat := (rLo R i t n + R t) / 2
def rOk (R : Nat → Nat) (i t n : Nat) : Bool := decide (rLo R i t n < rMd R i t n) && decide (rMd R i t n < R t)
theorem T_mid_L {S : Nat → Nat → Int32} {n i t : Nat} {R : Nat → Nat} (hn : n ≤ 30) (hi : i < n) (ht : t < n) (hti : t ≠ i) (h68 : S 68 2 = zI n) (hR : ∀ x, x < n → x ≠ i → R x ≤ 1024 * n ∧ S 69 x = zI (R x)) : ∀ (m x f : Nat), m + x = n → m < f → F_Ranks_middle_L15 S (zI i) (zI (R t)) f (zI (rLo R i t x)) (zI x) = zI (rLo R i t n) ∧ Sf_Ranks_middle_L15 S (zI i) (zI (R t)) f (zI (rLo R i t x)) (zI x) := by
  intro m
  induction m with
  | zero =>
    intro x f hx hf
    obtain ⟨f, rfl⟩ : ∃ q, f = q + 1 := ⟨f - 1, by omega⟩
    have hl : S 68 2 ≤ zI x := by rw [h68, zI_le (by omega) (by omega)]; omega
    unfold F_Ranks_middle_L15 Sf_Ranks_middle_L15
    rw [if_pos hl, if_pos hl, show x = n by omega]
    exact ⟨rfl, trivial⟩
  | succ m ih =>
    intro x f hx hf
    obtain ⟨f, rfl⟩ : ∃ q, f = q + 1 := ⟨f - 1, by omega⟩
    have hl : ¬ S 68 2 ≤ zI x := by rw [h68, zI_le (by omega) (by omega)]; omega
    obtain ⟨i1, i2⟩ := ih (x + 1) f (by omega) (by omega)
    have ht2 := (hR t ht hti).1
    have hlo := rLo_le (t := t) (fun x h1 h2 => (hR x h1 h2).1) x (by omega)
    have cs : rLo R i t (x + 1) = if x ≠ i ∧ R x < R t then (if rLo R i t x < R x then R x else rLo R i t x) else rLo R i t x := rfl
    unfold F_Ranks_middle_L15 Sf_Ranks_middle_L15
    rw [if_neg hl, if_neg hl, zAt_I (show x < 30 by omega) (by omega), zI_succ]
    by_cases e : x = i
    · rw [if_neg (fun z => z.1 e)] at cs
      rw [if_pos (by rw [e]), if_pos (by rw [e]), ← cs]
      exact ⟨i1, i2⟩
    · have hx2 := hR x (by omega) e
      have e' : ¬ zI x = zI i := by rw [zI_inj (by omega) (by omega)]; exact e
      rw [if_neg e', if_neg e', hx2.2]
      by_cases q : R t ≤ R x
      · rw [if_neg (fun z => by have := z.2; omega)] at cs
        rw [if_pos ((rk_le (by omega) (by omega)).mpr q), if_pos ((rk_le (by omega) (by omega)).mpr q), ← cs]
        exact ⟨i1, i2⟩
      · rw [if_pos ⟨e, by omega⟩] at cs
        have em : F_Math_max S (zI (rLo R i t x)) (zI (R x)) = zI (rLo R i t (x + 1)) := by
          unfold F_Math_max
          rw [cs]
          by_cases q3 : rLo R i t x < R x
          · rw [if_pos q3, if_pos ((zI_lt (by omega) (by omega)).mpr q3)]
          · rw [if_neg q3, if_neg (fun z => q3 ((zI_lt (by omega) (by omega)).mp z))]
        rw [if_neg (fun z => q ((rk_le (by omega) (by omega)).mp z)), if_neg (fun z => q ((rk_le (by omega) (by omega)).mp z)), em]
        exact ⟨i1, i2⟩
theorem T_mid_I {S : Nat → Nat → Int32} {n i t : Nat} {R : Nat → Nat} (hn : n ≤ 30) (hi : i < n) (ht : t < n) (hti : t ≠ i) (h68 : S 68 2 = zI n) (hR : ∀ x, x < n → x ≠ i → R x ≤ 1024 * n ∧ S 69 x = zI (R x)) : F_Ranks_middle S (zI i) (zI t) = (if rOk R i t n = true then zI (rMd R i t n) else -1) ∧ Sf_Ranks_middle S (zI i) (zI t) := by
  obtain ⟨g1, g2⟩ := T_mid_L hn hi ht hti h68 hR n 0 1300 (by omega) (by omega)
  rw [show rLo R i t 0 = 0 from rfl, zI_0] at g1 g2
  have ht2 := (hR t ht hti).1
  have hlo := rLo_le (t := t) (fun x h1 h2 => (hR x h1 h2).1) n (Nat.le_refl _)
  have hmd : rMd R i t n ≤ 30720 := by unfold rMd; omega
  unfold F_Ranks_middle Sf_Ranks_middle F_Ranks_middle_j91 rOk
  rw [zAt_I (show t < 30 by omega) (by omega), (hR t ht hti).2]
  simp only [g1, zI_add, zI_half (show rLo R i t n + R t < 2147483648 by omega)]
  refine ⟨?_, g2, trivial⟩
  show (if zI (rMd R i t n) ≤ zI (rLo R i t n) then (-1 : Int32) else if zI (R t) ≤ zI (rMd R i t n) then -1 else zI (rMd R i t n)) = _
  by_cases q1 : rMd R i t n ≤ rLo R i t n
  · rw [if_pos ((rk_le (by omega) (by omega)).mpr q1), decide_eq_false (show ¬ rLo R i t n < rMd R i t n by omega)]; rfl
  · rw [if_neg (fun z => q1 ((rk_le (by omega) (by omega)).mp z)), decide_eq_true (show rLo R i t n < rMd R i t n by omega)]
    by_cases q2 : R t ≤ rMd R i t n
    · rw [if_pos ((rk_le (by omega) (by omega)).mpr q2), decide_eq_false (show ¬ rMd R i t n < R t by omega)]; rfl
    · rw [if_neg (fun z => q2 ((rk_le (by omega) (by omega)).mp z)), decide_eq_true (show rMd R i t n < R t by omega)]; rfl
theorem M_btw_L {U : Nat → Nat → Int32} {n i t : Nat} {R : Nat → Nat} (hn : n ≤ 30) (hi : i < n) (ht : t < n) (hti : t ≠ i) (h86 : U 86 0 = zI n) (hR : ∀ x, x < n → x ≠ i → R x ≤ 1024 * n ∧ U 167 x = zI (R x)) : ∀ (m x f : Nat), m + x = n → m < f → F_M_between_L5 U (zI t) (zI i) f (zI (rLo R i t x)) (zI x) = zI (rLo R i t n) ∧ Sf_M_between_L5 U (zI t) (zI i) f (zI (rLo R i t x)) (zI x) := by
  intro m
  induction m with
  | zero =>
    intro x f hx hf
    obtain ⟨f, rfl⟩ : ∃ q, f = q + 1 := ⟨f - 1, by omega⟩
    have hl : U 86 0 ≤ zI x := by rw [h86, zI_le (by omega) (by omega)]; omega
    unfold F_M_between_L5 Sf_M_between_L5
    rw [if_pos hl, if_pos hl, show x = n by omega]
    exact ⟨rfl, trivial⟩
  | succ m ih =>
    intro x f hx hf
    obtain ⟨f, rfl⟩ : ∃ q, f = q + 1 := ⟨f - 1, by omega⟩
    have hl : ¬ U 86 0 ≤ zI x := by rw [h86, zI_le (by omega) (by omega)]; omega
    obtain ⟨i1, i2⟩ := ih (x + 1) f (by omega) (by omega)
    have ht2 := hR t ht hti
    have hlo := rLo_le (t := t) (fun x h1 h2 => (hR x h1 h2).1) x (by omega)
    have cs : rLo R i t (x + 1) = if x ≠ i ∧ R x < R t then (if rLo R i t x < R x then R x else rLo R i t x) else rLo R i t x := rfl
    have vx : vp_in (zI x) 30 := vp_in_I (by omega) (by omega)
    have vt : vp_in (zI t) 30 := vp_in_I (by omega) (by omega)
    unfold F_M_between_L5 Sf_M_between_L5 F_M_between_l5_60 Sf_M_between_l5_60
    rw [if_neg hl, if_neg hl, zI_clamp (show x < 2147483648 by omega), zI_clamp (show t < 2147483648 by omega), ht2.2, zI_succ]
    by_cases e : x = i
    · rw [if_neg (fun z => z.1 e)] at cs
      rw [if_pos (by rw [e]), if_pos (by rw [e]), ← cs]
      exact ⟨i1, i2⟩
    · have hx2 := hR x (by omega) e
      have e' : ¬ zI x = zI i := by rw [zI_inj (by omega) (by omega)]; exact e
      rw [if_neg e', if_neg e', hx2.2]
      by_cases q : R t ≤ R x
      · rw [if_neg (fun z => by have := z.2; omega)] at cs
        rw [if_pos ((rk_le (by omega) (by omega)).mpr q), if_pos ((rk_le (by omega) (by omega)).mpr q), ← cs]
        exact ⟨i1, vx, vt, i2⟩
      · rw [if_pos ⟨e, by omega⟩] at cs
        rw [if_neg (fun z => q ((rk_le (by omega) (by omega)).mp z)), if_neg (fun z => q ((rk_le (by omega) (by omega)).mp z))]
        by_cases q3 : rLo R i t x < R x
        · rw [if_pos q3] at cs
          have nl : ¬ zI (R x) ≤ zI (rLo R i t x) := fun z => by have := (rk_le (by omega) (by omega)).mp z; omega
          rw [if_neg nl, if_neg nl, ← cs]
          exact ⟨i1, vx, vt, vx, vx, i2⟩
        · rw [if_neg q3] at cs
          have yl : zI (R x) ≤ zI (rLo R i t x) := (rk_le (by omega) (by omega)).mpr (by omega)
          rw [if_pos yl, if_pos yl, ← cs]
          exact ⟨i1, vx, vt, vx, i2⟩
theorem M_btw_I {U : Nat → Nat → Int32} {n i t : Nat} {R : Nat → Nat} (hn : n ≤ 30) (hi : i < n) (ht : t < n) (hti : t ≠ i) (h86 : U 86 0 = zI n) (hR : ∀ x, x < n → x ≠ i → R x ≤ 1024 * n ∧ U 167 x = zI (R x)) : F_M_between U (zI t) (zI i) = (if rOk R i t n = true then zI (rMd R i t n) else 0) ∧ Sf_M_between U (zI t) (zI i) := by
  obtain ⟨g1, g2⟩ := M_btw_L hn hi ht hti h86 hR n 0 1300 (by omega) (by omega)
  rw [show rLo R i t 0 = 0 from rfl, zI_0] at g1 g2
  have ht2 := (hR t ht hti).1
  have hlo := rLo_le (t := t) (fun x h1 h2 => (hR x h1 h2).1) n (Nat.le_refl _)
  have hmd : rMd R i t n ≤ 30720 := by unfold rMd; omega
  have vt : vp_in (zI t) 30 := vp_in_I (by omega) (by omega)
  unfold F_M_between Sf_M_between F_M_between_j102 rOk
  rw [zI_clamp (show t < 2147483648 by omega), (hR t ht hti).2]
  simp only [g1, zI_add, zI_half (show rLo R i t n + R t < 2147483648 by omega)]
  refine ⟨?_, g2, vt, ?_⟩
  · show (if zI (rMd R i t n) ≤ zI (rLo R i t n) then (0 : Int32) else if zI (R t) ≤ zI (rMd R i t n) then 0 else zI (rMd R i t n)) = _
    by_cases q1 : rMd R i t n ≤ rLo R i t n
    · rw [if_pos ((rk_le (by omega) (by omega)).mpr q1), decide_eq_false (show ¬ rLo R i t n < rMd R i t n by omega)]; rfl
    · rw [if_neg (fun z => q1 ((rk_le (by omega) (by omega)).mp z)), decide_eq_true (show rLo R i t n < rMd R i t n by omega)]
      by_cases q2 : R t ≤ rMd R i t n
      · rw [if_pos ((rk_le (by omega) (by omega)).mpr q2), decide_eq_false (show ¬ rMd R i t n < R t by omega)]; rfl
      · rw [if_neg (fun z => q2 ((rk_le (by omega) (by omega)).mp z)), decide_eq_true (show rMd R i t n < R t by omega)]; rfl
  · split
    · trivial
    · exact ⟨vt, trivial⟩
/-- ranks spread anew, without i -/
def rOth (i : Nat) : Nat → Bool := fun j => !decide (j = i)
def rSp (R : Nat → Nat) (i n : Nat) (y : Nat) : Nat := 1024 * (1 + cN (rA (rOth i) R y) n)
theorem rSp_rng {R : Nat → Nat} {i n y : Nat} (hy : y < n) : 1 ≤ rSp R i n y ∧ rSp R i n y ≤ 1024 * n := by
  unfold rSp
  have h1 := cN_lt (P := rA (rOth i) R y) (Q := fun _ => true) (k := y) n (fun _ _ _ => rfl) hy (by unfold rA; rw [decide_eq_false (Nat.lt_irrefl _), Bool.and_false]) rfl
  have h2 := cN_le (fun _ => true) n
  omega
theorem rSp_inj {R : Nat → Nat} {i n : Nat} (hinj : ∀ x, x < n → ∀ y, y < n → R x = R y → x = y) {x y : Nat} (hx : x < n) (hy : y < n) (hxi : x ≠ i) (hyi : y ≠ i) (he : rSp R i n x = rSp R i n y) : x = y := rA_inj (X := rOth i) hinj hx hy (by unfold rOth; rw [decide_eq_false hxi]; rfl) (by unfold rOth; rw [decide_eq_false hyi]; rfl) (by unfold rSp at he; omega)
theorem rSp_ok {R : Nat → Nat} {i t n : Nat} (ht : t < n) : rOk (rSp R i n) i t n = true := by
  have h0 := rLo_lt (R := rSp R i n) (i := i) (t := t) (rSp_rng ht).1 n
  have h1 : ∃ a, rLo (rSp R i n) i t n = 1024 * a := by
    rcases rLo_src (R := rSp R i n) (i := i) (t := t) n with q | ⟨y, -, -, -, q⟩
    · exact ⟨0, q⟩
    · exact ⟨_, q⟩
  obtain ⟨a, ea⟩ := h1
  have eb : rSp R i n t = 1024 * (1 + cN (rA (rOth i) R t) n) := rfl
  unfold rOk rMd
  rw [ea] at h0 ⊢
  rw [eb] at h0 ⊢
  rw [decide_eq_true (by omega), decide_eq_true (by omega)]; rfl
