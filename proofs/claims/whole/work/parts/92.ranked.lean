/-! PURE: the ranks; ranked -/
def zRK (S : Nat → Nat → Int32) (n : Nat) : Prop := S 68 2 = zI n ∧ ∃ R : Nat → Nat, (∀ i, i < n → (1 ≤ R i ∧ R i ≤ 1024 * n) ∧ S 69 i = zI (R i) ∧ S 167 i = zI (R i)) ∧ ∀ i, i < n → ∀ j, j < n → R i = R j → i = j
def zDRk : List zLoc := [(68, some 2), (69, none), (167, none)]
theorem zRK.ag {S S' : Nat → Nat → Int32} {n : Nat} (h : zRK S n) (g : zAg zDRk S S') : zRK S' n := by
  unfold zRK
  rw [g.slot (a := 68) (j := 2) (by decide), g.cell (a := 69) (by decide), g.cell (a := 167) (by decide)]
  exact h
/-- those of X ahead of i -/
def rA (X : Nat → Bool) (R : Nat → Nat) (i : Nat) : Nat → Bool := fun j => X j && decide (R j < R i)
theorem rk_le {a b : Nat} (ha : a ≤ 30720) (hb : b ≤ 30720) : zI a ≤ zI b ↔ a ≤ b := zI_le (by omega) (by omega)
theorem T_ahead_L {S : Nat → Nat → Int32} {n i : Nat} {X : Nat → Bool} {R : Nat → Nat} {P : Int32} (hn : n ≤ 30) (hi : i < n) (h68 : S 68 2 = zI n) (hR : ∀ i, i < n → R i ≤ 1024 * n ∧ S 69 i = zI (R i)) (hP : ∀ j, j < n → zB P j = X j) : ∀ (m x f : Nat), m + x = n → m < f → F_Ranks_aheadOf_L5 S (zI i) P f (zI (cN (rA X R i) x)) (zI x) = zI (cN (rA X R i) n) ∧ Sf_Ranks_aheadOf_L5 S (zI i) P f (zI (cN (rA X R i) x)) (zI x) := by
  intro m
  induction m with
  | zero =>
    intro x f hx hf
    obtain ⟨f, rfl⟩ : ∃ q, f = q + 1 := ⟨f - 1, by omega⟩
    have hl : S 68 2 ≤ zI x := by rw [h68, zI_le (by omega) (by omega)]; omega
    unfold F_Ranks_aheadOf_L5 Sf_Ranks_aheadOf_L5
    rw [if_pos hl, if_pos hl, show x = n by omega]
    exact ⟨rfl, trivial⟩
  | succ m ih =>
    intro x f hx hf
    obtain ⟨f, rfl⟩ : ∃ q, f = q + 1 := ⟨f - 1, by omega⟩
    have hl : ¬ S 68 2 ≤ zI x := by rw [h68, zI_le (by omega) (by omega)]; omega
    obtain ⟨i1, i2⟩ := ih (x + 1) f (by omega) (by omega)
    have cs : cN (rA X R i) (x + 1) = cN (rA X R i) x + (if rA X R i x = true then 1 else 0) := rfl
    have b1 := (hR i hi).1
    have b2 := (hR x (by omega)).1
    unfold F_Ranks_aheadOf_L5 Sf_Ranks_aheadOf_L5 F_Ranks_aheadOf_l5_48 Sf_Ranks_aheadOf_l5_48
    rw [if_neg hl, if_neg hl, T_isIn_B S (by omega), hP x (by omega), zAt_I (show i < 30 by omega) (by omega), zAt_I (show x < 30 by omega) (by omega), (hR i hi).2, (hR x (by omega)).2, zI_succ, Int32.add_zero]
    cases q : X x
    · have e : rA X R i x = false := by unfold rA; rw [q]; rfl
      rw [e] at cs
      simp only [if_pos (show bI false = 0 from rfl)]
      rw [show cN (rA X R i) x = cN (rA X R i) (x + 1) by rw [cs]; rfl]
      exact ⟨i1, i2⟩
    · simp only [if_neg (show ¬ bI true = 0 by decide)]
      by_cases q2 : R i ≤ R x
      · have e : rA X R i x = false := by unfold rA; rw [q, decide_eq_false (by omega)]; rfl
        rw [e] at cs
        simp only [if_pos ((rk_le (by omega) (by omega)).mpr q2)]
        rw [show cN (rA X R i) x = cN (rA X R i) (x + 1) by rw [cs]; rfl]
        exact ⟨i1, i2⟩
      · have e : rA X R i x = true := by unfold rA; rw [q, decide_eq_true (by omega)]; rfl
        rw [e] at cs
        simp only [if_neg (fun z => q2 ((rk_le (by omega) (by omega)).mp z)), zI_succ]
        rw [show cN (rA X R i) x + 1 = cN (rA X R i) (x + 1) by rw [cs]; rfl]
        exact ⟨i1, i2⟩
theorem T_aheadOf_I {S : Nat → Nat → Int32} {n i : Nat} {X : Nat → Bool} {R : Nat → Nat} {P : Int32} (hn : n ≤ 30) (hi : i < n) (h68 : S 68 2 = zI n) (hR : ∀ i, i < n → R i ≤ 1024 * n ∧ S 69 i = zI (R i)) (hP : ∀ j, j < n → zB P j = X j) : F_Ranks_aheadOf S (zI i) P = zI (cN (rA X R i) n) ∧ Sf_Ranks_aheadOf S (zI i) P := by
  obtain ⟨g1, g2⟩ := T_ahead_L (P := P) hn hi h68 hR hP n 0 1300 (by omega) (by omega)
  rw [show cN (rA X R i) 0 = 0 from rfl, zI_0] at g1 g2
  have g1' : F_Ranks_aheadOf_L5 S (zI i) P 1300 0 0 = zI (cN (rA X R i) n) := g1
  have g2' : Sf_Ranks_aheadOf_L5 S (zI i) P 1300 0 0 := g2
  unfold F_Ranks_aheadOf Sf_Ranks_aheadOf
  exact ⟨g1', g2', trivial⟩
theorem rA_inj {X : Nat → Bool} {R : Nat → Nat} {n : Nat} (hinj : ∀ i, i < n → ∀ j, j < n → R i = R j → i = j) {x y : Nat} (hx : x < n) (hy : y < n) (xx : X x = true) (xy : X y = true) (he : cN (rA X R x) n = cN (rA X R y) n) : x = y := by
  have lt : ∀ x y, x < n → X x = true → R x < R y → cN (rA X R x) n < cN (rA X R y) n := by
    intro x y hx xx hlt
    refine cN_lt (k := x) n (fun j _ hj => ?_) hx ?_ ?_
    · unfold rA at hj ⊢
      obtain ⟨h1, h2⟩ := Bool.and_eq_true_iff.mp hj
      have h3 := of_decide_eq_true h2
      rw [h1, decide_eq_true (show R j < R y by omega)]; rfl
    · unfold rA; rw [xx, decide_eq_false (Nat.lt_irrefl _)]; rfl
    · unfold rA; rw [xx, decide_eq_true hlt]; rfl
  rcases Nat.lt_trichotomy (R x) (R y) with q | q | q
  · have := lt x y hx xx q; omega
  · exact hinj x hx y hy q
  · have := lt y x hy xy q; omega
/-- who stands at the place v -/
def rAt (X : Nat → Bool) (R : Nat → Nat) (n : Nat) (v : Int32) (x : Nat) : Prop := X x = true ∧ zI (cN (rA X R x) n) = v
theorem T_place_none {S : Nat → Nat → Int32} {n : Nat} {X : Nat → Bool} {R : Nat → Nat} {P v : Int32} (hn : n ≤ 30) (h68 : S 68 2 = zI n) (hR : ∀ i, i < n → R i ≤ 1024 * n ∧ S 69 i = zI (R i)) (hP : ∀ j, j < n → zB P j = X j) : ∀ (m x f : Nat), m + x = n → m < f → (∀ y, x ≤ y → y < n → ¬ rAt X R n v y) → F_Ranks_atPlace_L2 S P v f (zI x) = .inl () ∧ Sf_Ranks_atPlace_L2 S P v f (zI x) := by
  intro m
  induction m with
  | zero =>
    intro x f hx hf hno
    obtain ⟨f, rfl⟩ : ∃ q, f = q + 1 := ⟨f - 1, by omega⟩
    have hl : S 68 2 ≤ zI x := by rw [h68, zI_le (by omega) (by omega)]; omega
    unfold F_Ranks_atPlace_L2 Sf_Ranks_atPlace_L2
    rw [if_pos hl, if_pos hl]
    exact ⟨rfl, trivial⟩
  | succ m ih =>
    intro x f hx hf hno
    obtain ⟨f, rfl⟩ : ∃ q, f = q + 1 := ⟨f - 1, by omega⟩
    have hl : ¬ S 68 2 ≤ zI x := by rw [h68, zI_le (by omega) (by omega)]; omega
    obtain ⟨i1, i2⟩ := ih (x + 1) f (by omega) (by omega) fun y h1 h2 => hno y (by omega) h2
    obtain ⟨a1, a2⟩ := T_aheadOf_I (P := P) (X := X) hn (show x < n by omega) h68 hR hP
    unfold F_Ranks_atPlace_L2 Sf_Ranks_atPlace_L2
    rw [if_neg hl, if_neg hl, T_isIn_B S (by omega), hP x (by omega), zI_succ, a1]
    cases q : X x
    · simp only [if_pos (show bI false = 0 from rfl)]; exact ⟨i1, i2⟩
    · simp only [if_neg (show ¬ bI true = 0 by decide), if_neg (fun z => hno x (Nat.le_refl _) (by omega) ⟨q, z⟩)]; exact ⟨i1, a2, i2⟩
theorem T_place_some {S : Nat → Nat → Int32} {n : Nat} {X : Nat → Bool} {R : Nat → Nat} {P v : Int32} (hn : n ≤ 30) (h68 : S 68 2 = zI n) (hR : ∀ i, i < n → R i ≤ 1024 * n ∧ S 69 i = zI (R i)) (hP : ∀ j, j < n → zB P j = X j) {t : Nat} (ht : t < n) (hat : rAt X R n v t) (hu : ∀ y, y < n → rAt X R n v y → y = t) : ∀ (m x f : Nat), m + x = n → m < f → x ≤ t → F_Ranks_atPlace_L2 S P v f (zI x) = .inr (zI t) ∧ Sf_Ranks_atPlace_L2 S P v f (zI x) := by
  intro m
  induction m with
  | zero => intro x f hx hf h; omega
  | succ m ih =>
    intro x f hx hf hxt
    obtain ⟨f, rfl⟩ : ∃ q, f = q + 1 := ⟨f - 1, by omega⟩
    have hl : ¬ S 68 2 ≤ zI x := by rw [h68, zI_le (by omega) (by omega)]; omega
    obtain ⟨a1, a2⟩ := T_aheadOf_I (P := P) (X := X) hn (show x < n by omega) h68 hR hP
    unfold F_Ranks_atPlace_L2 Sf_Ranks_atPlace_L2
    rw [if_neg hl, if_neg hl, T_isIn_B S (by omega), hP x (by omega), zI_succ, a1]
    by_cases e : x = t
    · subst e
      simp only [hat.1, if_neg (show ¬ bI true = 0 by decide), if_pos hat.2]; exact ⟨trivial, a2, trivial⟩
    · obtain ⟨i1, i2⟩ := ih (x + 1) f (by omega) (by omega) (by omega)
      cases q : X x
      · simp only [if_pos (show bI false = 0 from rfl)]; exact ⟨i1, i2⟩
      · simp only [if_neg (show ¬ bI true = 0 by decide), if_neg (fun z => e (hu x (by omega) ⟨q, z⟩))]; exact ⟨i1, a2, i2⟩
/-! the reference's -/
theorem M_ahead_L {U : Nat → Nat → Int32} {n i : Nat} {X : Nat → Bool} {R : Nat → Nat} (x1 v w : Int32) (hn : n ≤ 30) (hi : i < n) (h86 : U 86 0 = zI n) (hR : ∀ i, i < n → R i ≤ 1024 * n ∧ U 167 i = zI (R i)) (hX : ∀ j, j < n → F_M_sees 86 U x1 (zI j) = bI (X j) ∧ Sf_M_sees 86 U x1 (zI j)) : ∀ (m x f : Nat), m + x = n → m < f → F_M_ranked_L30 x1 v w (zI i) f U (zI (cN (rA X R i) x)) (zI x) = (zI (cN (rA X R i) n), U) ∧ Sf_M_ranked_L30 x1 v w (zI i) f U (zI (cN (rA X R i) x)) (zI x) := by
  intro m
  induction m with
  | zero =>
    intro x f hx hf
    obtain ⟨f, rfl⟩ : ∃ q, f = q + 1 := ⟨f - 1, by omega⟩
    have hl : U 86 0 ≤ zI x := by rw [h86, zI_le (by omega) (by omega)]; omega
    unfold F_M_ranked_L30 Sf_M_ranked_L30
    rw [if_pos hl, if_pos hl, show x = n by omega]
    exact ⟨rfl, trivial⟩
  | succ m ih =>
    intro x f hx hf
    obtain ⟨f, rfl⟩ : ∃ q, f = q + 1 := ⟨f - 1, by omega⟩
    have hl : ¬ U 86 0 ≤ zI x := by rw [h86, zI_le (by omega) (by omega)]; omega
    obtain ⟨i1, i2⟩ := ih (x + 1) f (by omega) (by omega)
    obtain ⟨s1, s2⟩ := hX x (by omega)
    have cs : cN (rA X R i) (x + 1) = cN (rA X R i) x + (if rA X R i x = true then 1 else 0) := rfl
    have b1 := (hR i hi).1
    have b2 := (hR x (by omega)).1
    have vx : vp_in (zI x) 30 := vp_in_I (by omega) (by omega)
    have vi : vp_in (zI i) 30 := vp_in_I (by omega) (by omega)
    unfold F_M_ranked_L30 Sf_M_ranked_L30 F_M_ranked_l30_79 Sf_M_ranked_l30_79
    rw [if_neg hl, if_neg hl, s1, zI_clamp (show i < 2147483648 by omega), zI_clamp (show x < 2147483648 by omega), (hR i hi).2, (hR x (by omega)).2, zI_succ, Int32.add_zero]
    cases q : X x
    · have e : rA X R i x = false := by unfold rA; rw [q]; rfl
      rw [e] at cs
      simp only [if_pos (show bI false = 0 from rfl)]
      rw [show cN (rA X R i) x = cN (rA X R i) (x + 1) by rw [cs]; rfl]
      exact ⟨i1, s2, i2⟩
    · simp only [if_neg (show ¬ bI true = 0 by decide)]
      by_cases q2 : R i ≤ R x
      · have e : rA X R i x = false := by unfold rA; rw [q, decide_eq_false (by omega)]; rfl
        rw [e] at cs
        simp only [if_pos ((rk_le (by omega) (by omega)).mpr q2)]
        rw [show cN (rA X R i) x = cN (rA X R i) (x + 1) by rw [cs]; rfl]
        exact ⟨i1, s2, vx, vi, i2⟩
      · have e : rA X R i x = true := by unfold rA; rw [q, decide_eq_true (by omega)]; rfl
        rw [e] at cs
        simp only [if_neg (fun z => q2 ((rk_le (by omega) (by omega)).mp z)), zI_succ]
        rw [show cN (rA X R i) x + 1 = cN (rA X R i) (x + 1) by rw [cs]; rfl]
        exact ⟨i1, s2, vx, vi, i2⟩
theorem M_place_none {U : Nat → Nat → Int32} {n : Nat} {X : Nat → Bool} {R : Nat → Nat} {x1 v : Int32} (hn : n ≤ 30) (hp : F_M_isPerson U x1 = 1 ∧ Sf_M_isPerson U x1) (h86 : U 86 0 = zI n) (hR : ∀ i, i < n → R i ≤ 1024 * n ∧ U 167 i = zI (R i)) (hX : ∀ j, j < n → F_M_sees 86 U x1 (zI j) = bI (X j) ∧ Sf_M_sees 86 U x1 (zI j)) : ∀ (m x f : Nat) (w : Int32), m + x = n → m < f → (∀ y, x ≤ y → y < n → ¬ rAt X R n v y) → F_M_ranked_L5 x1 v f U w (zI x) = (w, U) ∧ Sf_M_ranked_L5 x1 v f U w (zI x) := by
  intro m
  induction m with
  | zero =>
    intro x f w hx hf hno
    obtain ⟨f, rfl⟩ : ∃ q, f = q + 1 := ⟨f - 1, by omega⟩
    have hl : U 86 0 ≤ zI x := by rw [h86, zI_le (by omega) (by omega)]; omega
    unfold F_M_ranked_L5 Sf_M_ranked_L5
    rw [if_pos hl, if_pos hl]
    exact ⟨rfl, trivial⟩
  | succ m ih =>
    intro x f w hx hf hno
    obtain ⟨f, rfl⟩ : ∃ q, f = q + 1 := ⟨f - 1, by omega⟩
    have hl : ¬ U 86 0 ≤ zI x := by rw [h86, zI_le (by omega) (by omega)]; omega
    obtain ⟨i1, i2⟩ := ih (x + 1) f w (by omega) (by omega) fun y h1 h2 => hno y (by omega) h2
    obtain ⟨a1, a2⟩ := M_ahead_L x1 v w hn (show x < n by omega) h86 hR hX n 0 1300 (by omega) (by omega)
    rw [show cN (rA X R x) 0 = 0 from rfl, zI_0] at a1 a2
    have a1' : F_M_ranked_L30 x1 v w (zI x) 1300 U 0 0 = (zI (cN (rA X R x) n), U) := a1
    have a2' : Sf_M_ranked_L30 x1 v w (zI x) 1300 U 0 0 := a2
    obtain ⟨s1, s2⟩ := hX x (by omega)
    unfold F_M_ranked_L5 Sf_M_ranked_L5 F_M_ranked_l5_114 Sf_M_ranked_l5_114
    rw [if_neg hl, if_neg hl]
    simp only [hp.1, if_neg ne_10, a1', s1, zI_succ]
    cases q : X x
    · simp only [if_pos (show bI false = 0 from rfl)]; exact ⟨i1, hp.2, a2', s2, i2⟩
    · simp only [if_neg (show ¬ bI true = 0 by decide), if_neg (fun z => hno x (Nat.le_refl _) (by omega) ⟨q, z⟩)]; exact ⟨i1, hp.2, a2', s2, i2⟩
theorem M_place_some {U : Nat → Nat → Int32} {n : Nat} {X : Nat → Bool} {R : Nat → Nat} {x1 v : Int32} (hn : n ≤ 30) (hp : F_M_isPerson U x1 = 1 ∧ Sf_M_isPerson U x1) (h86 : U 86 0 = zI n) (hR : ∀ i, i < n → R i ≤ 1024 * n ∧ U 167 i = zI (R i)) (hX : ∀ j, j < n → F_M_sees 86 U x1 (zI j) = bI (X j) ∧ Sf_M_sees 86 U x1 (zI j)) {t : Nat} (ht : t < n) (hat : rAt X R n v t) (hu : ∀ y, y < n → rAt X R n v y → y = t) : ∀ (m x f : Nat) (w : Int32), m + x = n → m < f → x ≤ t → F_M_ranked_L5 x1 v f U w (zI x) = (zI t, U) ∧ Sf_M_ranked_L5 x1 v f U w (zI x) := by
  intro m
  induction m with
  | zero => intro x f w hx hf h; omega
  | succ m ih =>
    intro x f w hx hf hxt
    obtain ⟨f, rfl⟩ : ∃ q, f = q + 1 := ⟨f - 1, by omega⟩
    have hl : ¬ U 86 0 ≤ zI x := by rw [h86, zI_le (by omega) (by omega)]; omega
    obtain ⟨a1, a2⟩ := M_ahead_L x1 v w hn (show x < n by omega) h86 hR hX n 0 1300 (by omega) (by omega)
    rw [show cN (rA X R x) 0 = 0 from rfl, zI_0] at a1 a2
    have a1' : F_M_ranked_L30 x1 v w (zI x) 1300 U 0 0 = (zI (cN (rA X R x) n), U) := a1
    have a2' : Sf_M_ranked_L30 x1 v w (zI x) 1300 U 0 0 := a2
    obtain ⟨s1, s2⟩ := hX x (by omega)
    unfold F_M_ranked_L5 Sf_M_ranked_L5 F_M_ranked_l5_114 Sf_M_ranked_l5_114
    rw [if_neg hl, if_neg hl]
    simp only [hp.1, if_neg ne_10, a1', s1, zI_succ]
    by_cases e : x = t
    · subst e
      obtain ⟨i1, i2⟩ := M_place_none (v := v) hn hp h86 hR hX m (x + 1) f (zI x) (by omega) (by omega) fun y h1 h2 h3 => by have := hu y h2 h3; omega
      simp only [hat.1, if_neg (show ¬ bI true = 0 by decide), if_pos hat.2]; exact ⟨i1, hp.2, a2', s2, i2⟩
    · obtain ⟨i1, i2⟩ := ih (x + 1) f w (by omega) (by omega) (by omega)
      cases q : X x
      · simp only [if_pos (show bI false = 0 from rfl)]; exact ⟨i1, hp.2, a2', s2, i2⟩
      · simp only [if_neg (show ¬ bI true = 0 by decide), if_neg (fun z => e (hu x (by omega) ⟨q, z⟩))]; exact ⟨i1, hp.2, a2', s2, i2⟩
def zW33 : List zLoc := [(36, some 8), (36, some 9), (41, none), (42, none), (78, some 0), (193, none)]
theorem o_33 {fl : Nat → Nat} {S : Nat → Nat → Int32} {d : Nat} {A : zA} {rn : Nat} (h : zB0 fl S d A rn) (hK : zRK S (zCnt A.1 A.2.1)) (a1 a2 a3 a4 a5 a6 : Int32) : Sl_33 fl S a1 a2 a3 a4 a5 a6 ∧ zWr zW33 S (Fl_33 fl S a1 a2 a3 a4 a5 a6) := by
  suffices g : zOpQ (fun E => (if E = "java/lang/IndexOutOfBoundsException" then 1 else 0)) (fun E => E = "java/lang/IndexOutOfBoundsException") (fun x => x) (F_T_ranked S a1 a2) (Sf_T_ranked S a1 a2) (fun U => F_M_ranked U a1 a2) (fun U => Sf_M_ranked U a1 a2) (fun F => zWr zW33 S F) from by
    have eL : F_L_ranked S a1 a2 = LQ (fun E => (if E = "java/lang/IndexOutOfBoundsException" then 1 else 0)) (fun x => x) (F_T_ranked S a1 a2) := by
      unfold F_L_ranked LQ
      generalize F_T_ranked S a1 a2 = t
      obtain ⟨r, s⟩ := t
      cases r <;> exact Eq.refl _
    have eM : ∀ Z : Nat → Nat → Int32, F_M_thrown Z = Z 78 0 := fun Z => Eq.refl _
    unfold Sl_33 Fl_33 Sf_L_ranked
    rw [eL, eM]
    unfold zOpQ at g
    dsimp only at g
    generalize F_M_ranked (LQ (fun E => (if E = "java/lang/IndexOutOfBoundsException" then 1 else 0)) (fun x => x) (F_T_ranked S a1 a2)).2 a1 a2 = r at g ⊢
    exact g
  obtain ⟨h68, R, hR, hinj⟩ := hK
  have hn30 := h.ok.cnt
  have h86 : S 86 0 = zI (zCnt A.1 A.2.1) := h.m.2.2
  generalize zCnt A.1 A.2.1 = n at *
  rcases vPer_cases a1 with ⟨p, hp, rfl⟩ | hp
  case inr =>
    obtain ⟨p1, p2⟩ := M_isPerson_I S a1
    rw [if_neg hp] at p1
    have hL : F_M_ranked_L5 a1 a2 1300 S (-1) 0 = (-1, S) ∧ Sf_M_ranked_L5 a1 a2 1300 S (-1) 0 := by
      unfold F_M_ranked_L5 Sf_M_ranked_L5
      rw [p1]
      by_cases q : S 86 0 ≤ 0
      · rw [if_pos q, if_pos q]; exact ⟨rfl, trivial⟩
      · rw [if_neg q, if_neg q]; simp only [if_true]; exact ⟨trivial, p2, trivial⟩
    refine zOpQ_err (E := "java/lang/IndexOutOfBoundsException") (V := S) (x := 0) (W := z_uS S 78 0 1) ?_ ?_ rfl (by decide) ?_ ?_ (by rw [uS_at]; rfl) (zWr.slot (by decide) _ _)
    · unfold F_T_ranked; rw [T_isPerson_eq, if_neg hp, if_pos rfl]
    · unfold Sf_T_ranked; rw [T_isPerson_eq, if_neg hp, if_pos rfl]; trivial
    · show F_M_ranked S a1 a2 = _
      unfold F_M_ranked F_M_ranked_j133
      simp only [hL.1, if_true, if_neg le_10]
    · show Sf_M_ranked S a1 a2
      unfold Sf_M_ranked
      exact ⟨hL.2, trivial⟩
  have hper := T_isPerson_I S hp
  obtain ⟨V, l1, l2, l3, l4⟩ := T_headL h hp
  have hx : zFX S V := l3.x
  have v68 : V 68 2 = zI n := by rw [l3.1 68 (by omega) (by omega) (by omega)]; exact h68
  have vR : ∀ i, i < n → R i ≤ 1024 * n ∧ V 69 i = zI (R i) := fun i hi => ⟨(hR i hi).1.2, by rw [l3.1 69 (by omega) (by omega) (by omega)]; exact (hR i hi).2.1⟩
  have vP : ∀ j, j < n → zB (V 36 8) j = vSee S A.2.2 p j := fun j hj => l4.seen (by omega)
  have wV : zWr zW33 S V := l3.wr (by decide) (by decide) (by decide) (by decide)
  have hm : ∀ U, zBM fl S U d A rn → U 86 0 = S 86 0 → U 167 = S 167 → (F_M_isPerson U (zI p) = 1 ∧ Sf_M_isPerson U (zI p)) ∧ U 86 0 = zI n ∧ (∀ i, i < n → R i ≤ 1024 * n ∧ U 167 i = zI (R i)) ∧ ∀ j, j < n → F_M_sees 86 U (zI p) (zI j) = bI (vSee S A.2.2 p j) ∧ Sf_M_sees 86 U (zI p) (zI j) := by
    intro U hu e86 e167
    obtain ⟨p1, p2⟩ := M_isPerson_I U (zI p)
    rw [zI_toInt (by omega), if_pos (by omega)] at p1
    exact ⟨⟨p1, p2⟩, e86.trans h86, fun i hi => ⟨(hR i hi).1.2, by rw [e167]; exact (hR i hi).2.2⟩, fun j hj => M_sees_I hu.y hu.m.2.1 h.ok.rg hp (by omega)⟩
  by_cases hex : ∃ t, t < n ∧ rAt (vSee S A.2.2 p) R n a2 t
  · obtain ⟨t, ht, hat⟩ := hex
    have hu : ∀ y, y < n → rAt (vSee S A.2.2 p) R n a2 y → y = t := by
      intro y hy hay
      have e : zI (cN (rA (vSee S A.2.2 p) R y) n) = zI (cN (rA (vSee S A.2.2 p) R t) n) := hay.2.trans hat.2.symm
      have c1 := cN_le (rA (vSee S A.2.2 p) R y) n
      have c2 := cN_le (rA (vSee S A.2.2 p) R t) n
      exact rA_inj hinj hy ht hay.1 hat.1 ((zI_inj (by omega) (by omega)).mp e)
    obtain ⟨t1, t2⟩ := T_place_some hn30 v68 vR vP ht hat hu n 0 1300 (by omega) (by omega) (by omega)
    have t1' : F_Ranks_atPlace_L2 V (V 36 8) a2 1300 0 = .inr (zI t) := t1
    have t2' : Sf_Ranks_atPlace_L2 V (V 36 8) a2 1300 0 := t2
    have tP : F_Ranks_atPlace V (V 36 8) a2 = zI t := by unfold F_Ranks_atPlace; rw [t1']
    have tS : Sf_Ranks_atPlace V (V 36 8) a2 := ⟨t2', trivial⟩
    have hx2 : zFX S (z_uS V 193 0 (zI t)) := hx.trans (zFX.out V _)
    obtain ⟨x1, x2, x3, x4⟩ := hm _ (h.bm hx2) (by rw [hx2 86 (by omega) (by omega)]) (hx2 167 (by omega) (by omega))
    obtain ⟨y1, y2⟩ := M_place_some hn30 x1 x2 x3 x4 ht hat hu n 0 1300 (-1) (by omega) (by omega) (by omega)
    have y1' : F_M_ranked_L5 (zI p) a2 1300 (z_uS V 193 0 (zI t)) (-1) 0 = (zI t, z_uS V 193 0 (zI t)) := y1
    have y2' : Sf_M_ranked_L5 (zI p) a2 1300 (z_uS V 193 0 (zI t)) (-1) 0 := y2
    have nt : ¬ zI t = -1 := m1_ne t (by omega)
    refine zOpQ_ok (V := V) (v := zI t) (W := z_uS (z_uS V 193 0 (zI t)) 78 0 0) ?_ ?_ ?_ ?_ (uS_at _ _ _ _) (by rw [z_uS_ne _ _ _ (by omega), uS_at]) ((wV.trans (zWr.cell (by decide) _ 0 _)).trans (zWr.slot (by decide) _ _))
    · unfold F_T_ranked; simp only [hper, if_neg ne_10, l1, z_let, tP, if_neg nt]
    · unfold Sf_T_ranked; simp only [hper, if_neg ne_10, l1, z_let]; exact ⟨l2, tS, trivial⟩
    · show F_M_ranked (z_uS V 193 0 (zI t)) (zI p) a2 = _
      unfold F_M_ranked F_M_ranked_j133
      simp only [y1', if_neg nt, if_pos le_00]
    · show Sf_M_ranked (z_uS V 193 0 (zI t)) (zI p) a2
      exact ⟨y2', trivial⟩
  · have hno : ∀ y, 0 ≤ y → y < n → ¬ rAt (vSee S A.2.2 p) R n a2 y := fun y _ hy hat => hex ⟨y, hy, hat⟩
    obtain ⟨t1, t2⟩ := T_place_none hn30 v68 vR vP n 0 1300 (by omega) (by omega) hno
    have t1' : F_Ranks_atPlace_L2 V (V 36 8) a2 1300 0 = .inl () := t1
    have t2' : Sf_Ranks_atPlace_L2 V (V 36 8) a2 1300 0 := t2
    have tP : F_Ranks_atPlace V (V 36 8) a2 = -1 := by unfold F_Ranks_atPlace; rw [t1']
    have tS : Sf_Ranks_atPlace V (V 36 8) a2 := ⟨t2', trivial⟩
    obtain ⟨x1, x2, x3, x4⟩ := hm _ (h.bm hx) (by rw [hx 86 (by omega) (by omega)]) (hx 167 (by omega) (by omega))
    obtain ⟨y1, y2⟩ := M_place_none hn30 x1 x2 x3 x4 n 0 1300 (-1) (by omega) (by omega) hno
    have y1' : F_M_ranked_L5 (zI p) a2 1300 V (-1) 0 = (-1, V) := y1
    have y2' : Sf_M_ranked_L5 (zI p) a2 1300 V (-1) 0 := y2
    refine zOpQ_err (E := "java/lang/IndexOutOfBoundsException") (V := V) (x := 0) (W := z_uS V 78 0 1) ?_ ?_ rfl (by decide) ?_ ?_ (by rw [uS_at]; rfl) (wV.trans (zWr.slot (by decide) _ _))
    · unfold F_T_ranked; simp only [hper, if_neg ne_10, l1, z_let, tP, if_true]
    · unfold Sf_T_ranked; simp only [hper, if_neg ne_10, l1, z_let]; exact ⟨l2, tS, trivial⟩
    · show F_M_ranked V (zI p) a2 = _
      unfold F_M_ranked F_M_ranked_j133
      simp only [y1', if_true, if_neg le_10]
    · show Sf_M_ranked V (zI p) a2
      exact ⟨y2', trivial⟩
