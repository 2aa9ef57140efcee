/-! PURE: what a call writes -/
/-- a cell, or one slot of it; 194: all cells from there on -/
abbrev zLoc := Nat × Option Nat
def zCov (W : List zLoc) (k j : Nat) : Bool := W.any fun q => q.1 == (if k < 194 then k else 194) && (match q.2 with | none => true | some s => s == j)
def zWr (W : List zLoc) (S S' : Nat → Nat → Int32) : Prop := ∀ k j, zCov W k j = false → S' k j = S k j
def zAg (D : List zLoc) (S S' : Nat → Nat → Int32) : Prop := ∀ k j, zCov D k j = true → S' k j = S k j
def zDisj (W D : List zLoc) : Bool := W.all fun a => D.all fun b => a.1 != b.1 || (match a.2, b.2 with | some x, some y => x != y | _, _ => false)
theorem zWr.ag {W D : List zLoc} {S S' : Nat → Nat → Int32} (h : zWr W S S') (hd : zDisj W D = true) : zAg D S S' := by
  intro k j hk
  refine h k j ?_
  cases hw : zCov W k j with
  | false => rfl
  | true =>
    unfold zCov at hk hw
    obtain ⟨b, hb, hb2⟩ := List.any_eq_true.mp hk
    obtain ⟨a, ha, ha2⟩ := List.any_eq_true.mp hw
    have hab := List.all_eq_true.mp (List.all_eq_true.mp hd a ha) b hb
    obtain ⟨a1, a2⟩ := a
    obtain ⟨b1, b2⟩ := b
    simp only [Bool.and_eq_true, beq_iff_eq] at ha2 hb2
    obtain ⟨e1, e2⟩ := ha2
    obtain ⟨f1, f2⟩ := hb2
    dsimp only at e1 e2 f1 f2 hab
    have h1 : (a1 != b1) = false := by rw [e1, f1]; simp
    rw [h1] at hab
    cases a2 with
    | none => simp at hab
    | some x =>
      cases b2 with
      | none => simp at hab
      | some y =>
        have e3 : x = j := by simpa using e2
        have f3 : y = j := by simpa using f2
        rw [e3, f3] at hab
        simp at hab
theorem zWr.rfl {W : List zLoc} {S : Nat → Nat → Int32} : zWr W S S := fun _ _ _ => Eq.refl _
theorem zWr.trans {W : List zLoc} {S S1 S2 : Nat → Nat → Int32} (h : zWr W S S1) (g : zWr W S1 S2) : zWr W S S2 := fun k j hc => (g k j hc).trans (h k j hc)
theorem zCov.mono {W V : List zLoc} (h : ∀ q ∈ W, q ∈ V) {k j : Nat} (hc : zCov V k j = false) : zCov W k j = false := by
  cases hw : zCov W k j with
  | false => rfl
  | true =>
    obtain ⟨a, ha, ha2⟩ := List.any_eq_true.mp hw
    have : zCov V k j = true := List.any_eq_true.mpr ⟨a, h a ha, ha2⟩
    rw [this] at hc
    cases hc
theorem zWr.mono {W V : List zLoc} {S S' : Nat → Nat → Int32} (h : zWr W S S') (hV : ∀ q ∈ W, q ∈ V) : zWr V S S' := fun k j hc => h k j (zCov.mono hV hc)
theorem zWr.cell {W : List zLoc} {a : Nat} (ha : (if a < 194 then a else 194, none) ∈ W) (S : Nat → Nat → Int32) (j : Nat) (v : Int32) : zWr W S (z_uS S a j v) := by
  intro k j' hc
  by_cases hk : k = a
  · subst hk
    have : zCov W k j' = true := List.any_eq_true.mpr ⟨_, ha, by simp⟩
    rw [this] at hc
    cases hc
  · rw [z_uS_ne _ _ _ hk]
theorem zWr.slot {W : List zLoc} {a j : Nat} (ha : (if a < 194 then a else 194, some j) ∈ W) (S : Nat → Nat → Int32) (v : Int32) : zWr W S (z_uS S a j v) := by
  intro k j' hc
  by_cases hk : k = a
  · subst hk
    by_cases hj : j' = j
    · subst hj
      have : zCov W k j' = true := List.any_eq_true.mpr ⟨_, ha, by simp⟩
      rw [this] at hc
      cases hc
    · rw [z_uS_self]; exact if_neg hj
  · rw [z_uS_ne _ _ _ hk]
theorem zWr.put {W : List zLoc} {a len : Nat} (ha : (if a < 194 then a else 194, none) ∈ W) (S : Nat → Nat → Int32) (i v : Int32) : zWr W S (zPut S a len i v) := by
  unfold zPut
  split
  · exact zWr.rfl
  · exact zWr.cell ha S _ v
/-- the same at a cell, or at a slot -/
theorem zAg.cell {D : List zLoc} {S S' : Nat → Nat → Int32} (h : zAg D S S') {a : Nat} (ha : (if a < 194 then a else 194, none) ∈ D) : S' a = S a := funext fun j => h a j (List.any_eq_true.mpr ⟨_, ha, by simp⟩)
theorem zAg.slot {D : List zLoc} {S S' : Nat → Nat → Int32} (h : zAg D S S') {a j : Nat} (ha : (if a < 194 then a else 194, some j) ∈ D) : S' a j = S a j := h a j (List.any_eq_true.mpr ⟨_, ha, by simp⟩)
/-! ranges -/
theorem T_lt {p q : Int32} : p < q ↔ p.toInt < q.toInt := Int32.lt_iff_toInt_lt
theorem T_le {p q : Int32} : p ≤ q ↔ p.toInt ≤ q.toInt := Int32.le_iff_toInt_le
theorem M_isIn_eq (S : Nat → Nat → Int32) (p a b : Int32) : F_M_isIn S p a b = if a.toInt ≤ p.toInt ∧ p.toInt ≤ b.toInt then 1 else 0 := by
  unfold F_M_isIn F_M_isIn_j14
  by_cases h1 : p < a
  · rw [if_pos h1, if_neg (by rw [T_lt] at h1; omega)]
  · by_cases h2 : b < p
    · rw [if_neg h1, if_pos h2, if_neg (by rw [T_lt] at h2; omega)]
    · rw [if_neg h1, if_neg h2, if_pos (by rw [T_lt] at h1 h2; omega)]
theorem T_range {p : Int32} {a b : Int32} {n : Int} (ha : a.toInt = 0) (hb : b.toInt = n) : (if p < a then (0 : Int32) else if b ≤ p then 0 else 1) = if 0 ≤ p.toInt ∧ p.toInt < n then 1 else 0 := by
  by_cases h1 : p < a
  · rw [if_pos h1, if_neg (by rw [T_lt] at h1; omega)]
  · by_cases h2 : b ≤ p
    · rw [if_neg h1, if_pos h2, if_neg (by rw [T_le] at h2; omega)]
    · rw [if_neg h1, if_neg h2, if_pos (by rw [T_lt] at h1; rw [T_le] at h2; omega)]
theorem T_range2 {p : Int32} {a b : Int32} {n : Int} (ha : a.toInt = 0) (hb : b.toInt = n) : (if p < a then (0 : Int32) else if b < p then 0 else 1) = if 0 ≤ p.toInt ∧ p.toInt ≤ n then 1 else 0 := by
  by_cases h1 : p < a
  · rw [if_pos h1, if_neg (by rw [T_lt] at h1; omega)]
  · by_cases h2 : b < p
    · rw [if_neg h1, if_pos h2, if_neg (by rw [T_lt] at h2; omega)]
    · rw [if_neg h1, if_neg h2, if_pos (by rw [T_lt] at h1 h2; omega)]
theorem T_isPerson_eq (S : Nat → Nat → Int32) (p : Int32) : F_T_isPerson S p = if 0 ≤ p.toInt ∧ p.toInt < 8 then 1 else 0 := T_range rfl rfl
theorem T_isProject_eq (S : Nat → Nat → Int32) (p : Int32) : F_T_isProject S p = if 0 ≤ p.toInt ∧ p.toInt < 3 then 1 else 0 := T_range rfl rfl
theorem T_isKind_eq (S : Nat → Nat → Int32) (p : Int32) : F_T_isKind S p = if 0 ≤ p.toInt ∧ p.toInt < 3 then 1 else 0 := T_range rfl rfl
theorem T_isState_eq (S : Nat → Nat → Int32) (p : Int32) : F_T_isState S p = if 0 ≤ p.toInt ∧ p.toInt < 6 then 1 else 0 := T_range rfl rfl
theorem T_isSprint_eq (S : Nat → Nat → Int32) (p : Int32) : F_T_isSprint S p = if 0 ≤ p.toInt ∧ p.toInt < 4 then 1 else 0 := T_range rfl rfl
theorem T_isField_eq (S : Nat → Nat → Int32) (p : Int32) : F_T_isField S p = if 0 ≤ p.toInt ∧ p.toInt < 3 then 1 else 0 := T_range rfl rfl
theorem T_isAnyField_eq (S : Nat → Nat → Int32) (p : Int32) : F_T_isAnyField S p = if 0 ≤ p.toInt ∧ p.toInt ≤ 3 then 1 else 0 := T_range2 rfl rfl
theorem T_isRoles_eq (S : Nat → Nat → Int32) (p : Int32) : F_T_isRoles S p = if 0 ≤ p.toInt ∧ p.toInt ≤ 15 then 1 else 0 := T_range2 rfl rfl
theorem T_isNumber_eq (S : Nat → Nat → Int32) (p : Int32) : F_T_isNumber S p = if 0 ≤ p.toInt ∧ p.toInt ≤ 99 then 1 else 0 := T_range2 rfl rfl
/-- an index of a row -/
theorem i_clamp {p : Int32} (h : 0 ≤ p.toInt) : (p.toNatClampNeg : Int) = p.toInt := by
  show ((p.toInt.toNat : Nat) : Int) = p.toInt
  omega
theorem zAt_in {f : Nat → Int32} {len : Nat} {i : Int32} (h0 : 0 ≤ i.toInt) (h1 : i.toInt < len) : zAt f len i = f i.toNatClampNeg := by
  have := i_clamp h0
  unfold zAt
  rw [if_neg]
  rw [T_lt]
  have e0 : (0 : Int32).toInt = 0 := rfl
  omega
theorem zPut_in {S : Nat → Nat → Int32} {a len : Nat} {i v : Int32} (h0 : 0 ≤ i.toInt) (h1 : i.toInt < len) : zPut S a len i v = z_uS S a i.toNatClampNeg v := by
  have := i_clamp h0
  unfold zPut
  rw [if_neg]
  rw [T_lt]
  have e0 : (0 : Int32).toInt = 0 := rfl
  omega
theorem vp_inI {i : Int32} {len : Nat} (h0 : 0 ≤ i.toInt) (h1 : i.toInt < len) : vp_in i len := by
  have := i_clamp h0
  unfold vp_in
  rw [T_lt]
  have e0 : (0 : Int32).toInt = 0 := rfl
  omega
theorem uS_at (S : Nat → Nat → Int32) (a j : Nat) (v : Int32) : z_uS S a j v a j = v := by rw [z_uS_self]; exact if_pos (Eq.refl j)
theorem uS_nj (S : Nat → Nat → Int32) (a : Nat) {j j' : Nat} (v : Int32) (h : j' ≠ j) : z_uS S a j v a j' = S a j' := by rw [z_uS_self]; exact if_neg h
/-- two rows that say the same, and keep doing so when both are written alike -/
def zEqN (n : Nat) (f g : Nat → Int32) : Prop := ∀ i, i < n → f i = g i
theorem zEqN.upd {n : Nat} {f g : Nat → Int32} (h : zEqN n f g) (j : Nat) (v : Int32) : zEqN n (upd f j v) (upd g j v) := by
  intro i hi
  show (if i = j then v else f i) = (if i = j then v else g i)
  split
  · rfl
  · exact h i hi
