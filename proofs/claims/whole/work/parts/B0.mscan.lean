/-! PURE: queries: the reference's reading, its leaves -/
def zMs (X : zTx) (U : Nat → Nat → Int32) (p : Nat) : Prop := U 78 51 = zI X.2 ∧ U 78 52 = zI p ∧ (∀ i, i < 30 → U 185 i = X.1 i ∧ zCh (X.1 i)) ∧ X.2 ≤ 30 ∧ p ≤ X.2
def mP (U : Nat → Nat → Int32) (q : Nat) : Nat → Nat → Int32 := z_uS U 78 52 (zI q)
def mE (U : Nat → Nat → Int32) (e : Nat) : Nat → Nat → Int32 := z_uS U 78 53 (zI e)
theorem zMs.cg {X : zTx} {U V : Nat → Nat → Int32} {p q : Nat} (h : zMs X U p) (e1 : V 78 51 = U 78 51) (e2 : V 78 52 = zI q) (e3 : V 185 = U 185) (hq : q ≤ X.2) : zMs X V q := ⟨by rw [e1]; exact h.1, e2, by rw [e3]; exact h.2.2.1, h.2.2.2.1, hq⟩
theorem zMs.p {X : zTx} {U : Nat → Nat → Int32} {p q : Nat} (h : zMs X U p) (hq : q ≤ X.2) : zMs X (mP U q) q := h.cg (uS_nj _ _ _ (by omega)) (uS_at _ _ _ _) (z_uS_ne _ _ _ (by omega)) hq
theorem zMs.e {X : zTx} {U : Nat → Nat → Int32} {p : Nat} (h : zMs X U p) (e : Nat) : zMs X (mE U e) p := h.cg (uS_nj _ _ _ (by omega)) (by unfold mE; rw [uS_nj _ _ _ (by omega)]; exact h.2.1) (z_uS_ne _ _ _ (by omega)) h.2.2.2.2
theorem zMs.n {X : zTx} {U : Nat → Nat → Int32} {p k j : Nat} {v : Int32} (h : zMs X U p) (hk : 186 ≤ k) : zMs X (z_uS U k j v) p := h.cg (by rw [z_uS_ne _ _ _ (by omega)]) (by rw [z_uS_ne _ _ _ (by omega)]; exact h.2.1) (z_uS_ne _ _ _ (by omega)) h.2.2.2.2
theorem mE_ne {e : Nat} (h : e ≤ 30) : zI e ≠ -1 := m1_ne e (by omega)
theorem M_sign_I {X : zTx} {U : Nat → Nat → Int32} {p : Nat} (h : zMs X U p) : F_M_sign U = sgn X p ∧ Sf_M_sign U := by
  obtain ⟨h1, h2, h3, h4, h5⟩ := h
  unfold F_M_sign Sf_M_sign sgn
  rw [h1, h2]
  by_cases q : X.2 ≤ p
  · rw [if_pos ((zI_le (by omega) (by omega)).mpr q), if_pos ((zI_le (by omega) (by omega)).mpr q), if_pos q]
    exact ⟨rfl, rfl, trivial⟩
  · rw [if_neg (fun z => q ((zI_le (by omega) (by omega)).mp z)), if_neg (fun z => q ((zI_le (by omega) (by omega)).mp z)), if_neg q, zI_clamp (by omega)]
    obtain ⟨e1, e2⟩ := h3 p (by omega)
    rw [e1]
    exact ⟨rfl, vp_in_I (by omega) (by omega), e2, trivial⟩
theorem M_fails_I {X : zTx} {U : Nat → Nat → Int32} {p : Nat} (h : zMs X U p) (hw : U 78 53 = -1) : F_M_fails U = mE U p := by
  unfold F_M_fails mE
  rw [if_pos hw, h.2.1]
theorem M_fails_E {U : Nat → Nat → Int32} (hw : U 78 53 ≠ -1) : F_M_fails U = U := by
  unfold F_M_fails
  rw [if_neg hw, z_uS_same]
theorem M_takes_I {X : zTx} {U : Nat → Nat → Int32} {p : Nat} (h : zMs X U p) (hw : U 78 53 = -1) (c : Int32) : F_M_takes U c = (if sgn X p = c then (1, mP U (p + 1)) else (0, mE U p)) ∧ Sf_M_takes U c := by
  obtain ⟨s1, s2⟩ := M_sign_I h
  unfold F_M_takes Sf_M_takes F_M_takes_j20 Sf_M_takes_j20 F_M_takes_j21 Sf_M_takes_j21
  rw [if_pos hw, if_pos hw, s1]
  by_cases q : sgn X p = c
  · simp only [if_pos q, if_neg ne_10]
    rw [h.2.1, zI_succ]
    exact ⟨rfl, s2, rfl, trivial⟩
  · simp only [if_neg q, if_true, z_let, M_fails_I h hw]
    exact ⟨trivial, s2, rfl, trivial⟩
theorem M_takes_E {U : Nat → Nat → Int32} (hw : U 78 53 ≠ -1) (c : Int32) : F_M_takes U c = (0, U) ∧ Sf_M_takes U c := by
  unfold F_M_takes Sf_M_takes F_M_takes_j20 Sf_M_takes_j20 F_M_takes_j21 Sf_M_takes_j21
  rw [if_neg hw, if_neg hw]
  simp only [if_true, z_let, M_fails_E hw]
  exact ⟨trivial, rfl, trivial⟩
theorem M_digit_I {X : zTx} {U : Nat → Nat → Int32} {p : Nat} (h : zMs X U p) (hw : U 78 53 = -1) (mx : Int32) : F_M_digit U mx = (if isD X mx p = true then (dv X p, mP U (p + 1)) else (0, mE U p)) ∧ Sf_M_digit U mx := by
  obtain ⟨s1, s2⟩ := M_sign_I h
  unfold F_M_digit Sf_M_digit F_M_digit_j25
  rw [if_pos hw, s1, M_isIn_eq]
  refine ⟨?_, s2, trivial⟩
  show (if (if (0 : Int32).toInt ≤ (dv X p).toInt ∧ (dv X p).toInt ≤ mx.toInt then (1 : Int32) else 0) = 0 then _ else _) = _
  by_cases q : isD X mx p = true
  · rw [if_pos q, if_pos (show (0 : Int32).toInt ≤ (dv X p).toInt ∧ (dv X p).toInt ≤ mx.toInt from of_decide_eq_true q), if_neg ne_10, h.2.1, zI_succ]; rfl
  · rw [if_neg q, if_neg (show ¬ ((0 : Int32).toInt ≤ (dv X p).toInt ∧ (dv X p).toInt ≤ mx.toInt) from fun z => q (decide_eq_true z)), if_pos rfl]
    simp only [z_let, M_fails_I h hw]
theorem M_digit_E {X : zTx} {U : Nat → Nat → Int32} {p : Nat} (h : zMs X U p) (hw : U 78 53 ≠ -1) (mx : Int32) : F_M_digit U mx = (0, U) ∧ Sf_M_digit U mx := by
  obtain ⟨s1, s2⟩ := M_sign_I h
  unfold F_M_digit Sf_M_digit F_M_digit_j25
  rw [if_neg hw]
  simp only [z_let, M_fails_E hw]
  exact ⟨trivial, s2, trivial⟩
/-- what reading writes -/
def zFm (r : Nat) (U V : Nat → Nat → Int32) : Prop := (∀ k, k ≠ 78 → ¬ (186 ≤ k ∧ k ≤ 190) → V k = U k) ∧ (∀ j, ¬ (52 ≤ j ∧ j ≤ 54) → V 78 j = U 78 j) ∧ ∀ k, 186 ≤ k ∧ k ≤ 190 → ∀ j, j < r → V k j = U k j
theorem zFm.rfl {r : Nat} {U : Nat → Nat → Int32} : zFm r U U := ⟨fun _ _ _ => Eq.refl _, fun _ _ => Eq.refl _, fun _ _ _ _ => Eq.refl _⟩
theorem zFm.trans {r r' : Nat} {U V W : Nat → Nat → Int32} (h : zFm r U V) (g : zFm r' V W) (hr : r ≤ r') : zFm r U W := ⟨fun k h1 h2 => (g.1 k h1 h2).trans (h.1 k h1 h2), fun j hj => (g.2.1 j hj).trans (h.2.1 j hj), fun k hk j hj => (g.2.2 k hk j (by omega)).trans (h.2.2 k hk j hj)⟩
theorem zFm.f {r j : Nat} (hj : 52 ≤ j ∧ j ≤ 54) (U : Nat → Nat → Int32) (v : Int32) : zFm r U (z_uS U 78 j v) := ⟨fun k h1 _ => z_uS_ne _ _ _ h1, fun i hi => uS_nj _ _ _ (by omega), fun k hk i _ => by rw [z_uS_ne _ _ _ (by omega)]⟩
theorem zFm.s {r k j : Nat} (hk : 186 ≤ k ∧ k ≤ 190) (hj : r ≤ j) (U : Nat → Nat → Int32) (v : Int32) : zFm r U (z_uS U k j v) := ⟨fun q h1 h2 => z_uS_ne _ _ _ (by omega), fun i hi => by rw [z_uS_ne _ _ _ (by omega)], fun q hq i hi => (by
    by_cases e : q = k
    · subst e; exact uS_nj _ _ _ (by omega)
    · rw [z_uS_ne _ _ _ e])⟩
theorem zFm.tf {r j : Nat} {U V : Nat → Nat → Int32} (h : zFm r U V) (hj : 52 ≤ j ∧ j ≤ 54) (v : Int32) : zFm r U (z_uS V 78 j v) := h.trans (zFm.f hj V v) (Nat.le_refl _)
theorem zFm.ts {r k j : Nat} {U V : Nat → Nat → Int32} (h : zFm r U V) (hk : 186 ≤ k ∧ k ≤ 190) (hj : r ≤ j) (v : Int32) : zFm r U (z_uS V k j v) := h.trans (zFm.s hk hj V v) (Nat.le_refl _)
/-- a new node -/
def ndS (U : Nat → Nat → Int32) (r p : Nat) (c : Int32) : Nat → Nat → Int32 := z_uS (z_uS (z_uS U 78 54 (zI (r + 1))) 186 r c) 78 52 (zI (p + 1))
theorem ndS_fm (U : Nat → Nat → Int32) (r p : Nat) (c : Int32) : zFm r U (ndS U r p c) := ((zFm.f (by omega) U _).ts (by omega) (Nat.le_refl _) c).tf (by omega) _
/-- reading with no fault so far, r nodes made -/
def zMq (X : zTx) (U : Nat → Nat → Int32) (p r : Nat) : Prop := zMs X U p ∧ U 78 53 = -1 ∧ U 78 54 = zI r ∧ r ≤ p
theorem ndS_q {X : zTx} {U : Nat → Nat → Int32} {p r : Nat} (h : zMq X U p r) (hp : p < X.2) (c : Int32) : zMq X (ndS U r p c) (p + 1) (r + 1) := by
  obtain ⟨h1, h2, h3, h4⟩ := h
  unfold ndS
  refine ⟨h1.cg ?_ (uS_at _ _ _ _) ?_ (by omega), ?_, ?_, by omega⟩
  · rw [uS_nj _ _ _ (by omega), z_uS_ne _ _ _ (by omega), uS_nj _ _ _ (by omega)]
  · rw [z_uS_ne _ _ _ (by omega), z_uS_ne _ _ _ (by omega), z_uS_ne _ _ _ (by omega)]
  · rw [uS_nj _ _ _ (by omega), z_uS_ne _ _ _ (by omega), uS_nj _ _ _ (by omega)]; exact h2
  · rw [uS_nj _ _ _ (by omega), z_uS_ne _ _ _ (by omega), uS_at]
theorem ndS_k (U : Nat → Nat → Int32) (r p : Nat) (c : Int32) : ndS U r p c 186 r = c := by
  unfold ndS
  rw [z_uS_ne _ _ _ (by omega), uS_at]
/-- the reference's meaning of a node, held against the class's of a step -/
def zKl (K M : zKm) : Prop := (∀ c a x y, isSm c = true → M.1 c a x y = K.1 c a 0 0) ∧ (∀ x y, M.1 97 (-1) x y = K.1 120 0 0 0) ∧ (∀ a x y, M.1 97 a x y = K.1 97 a 0 0) ∧ (∀ a b y, M.1 88 a b y = K.1 88 a b 0) ∧ (∀ a b x y, M.1 68 (10 * a + b) x y = K.1 68 a b 0) ∧ (∀ a n s, M.1 102 a n s = K.1 102 a s n) ∧
  (∀ c x m, c = 33 ∨ c = 67 ∨ c = 85 → M.2.1 c x m = K.2.1 c 0 m) ∧ (∀ c t m, c = 76 ∨ c = 73 → M.2.1 c t m = K.2.1 c t m) ∧ ∀ s m m2, s = 38 ∨ s = 124 → M.2.2 s m m2 = K.2.2 s m m2
/-- what the reference makes of a sign that has no parts -/
def zMl (X : zTx) (K M : zKm) (U : Nat → Nat → Int32) (p r : Nat) (c : Int32) (F : Int32 × (Nat → Nat → Int32)) (sF : Prop) : Prop :=
  (∀ e, lfS X c (p + 1) = .inl e → ∃ V, F = (zI r, V) ∧ sF ∧ V 78 53 = zI e ∧ (∃ p', zMs X V p') ∧ zFm r U V) ∧
    ∀ q a b d g, lfS X c (p + 1) = .inr (q, a, b, d, g) → ∃ V, F = (zI r, V) ∧ sF ∧ zMq X V q (r + 1) ∧ zFm r U V ∧ V 186 r = c ∧ M.1 c (V 187 r) (V 188 r) (V 189 r) = K.1 a b d g ∧ (c = 102 → (∃ f, f < 4 ∧ V 187 r = zI f) ∧ (V 189 r = 120 ∨ V 189 r = 60 ∨ V 189 r = 61 ∨ V 189 r = 62))
