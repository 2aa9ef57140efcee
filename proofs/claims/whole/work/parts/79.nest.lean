/-! PURE: nest -/
/-- how many below n have it -/
def cN (P : Nat → Bool) : Nat → Nat
  | 0 => 0
  | n + 1 => cN P n + (if P n = true then 1 else 0)
theorem cN_mono {P Q : Nat → Bool} : ∀ n, (∀ j, j < n → P j = true → Q j = true) → cN P n ≤ cN Q n := by
  intro n
  induction n with
  | zero => intro _; exact Nat.le_refl _
  | succ n ih =>
    intro h
    have := ih (fun j hj => h j (by omega))
    unfold cN
    by_cases p : P n = true
    · rw [if_pos p, if_pos (h n (by omega) p)]; omega
    · rw [if_neg p]; omega
theorem cN_lt {P Q : Nat → Bool} {k : Nat} : ∀ n, (∀ j, j < n → P j = true → Q j = true) → k < n → P k = false → Q k = true → cN P n < cN Q n := by
  intro n
  induction n with
  | zero => intro _ h; omega
  | succ n ih =>
    intro h hk hp hq
    unfold cN
    by_cases e : k = n
    · subst e
      have := cN_mono k (fun j hj => h j (by omega))
      rw [if_neg (by rw [hp]; simp), if_pos hq]; omega
    · have := ih (fun j hj => h j (by omega)) (by omega) hp hq
      by_cases p : P n = true
      · rw [if_pos p, if_pos (h n (by omega) p)]; omega
      · rw [if_neg p]; omega
theorem cN_le (P : Nat → Bool) : ∀ n, cN P n ≤ n := by
  intro n
  induction n with
  | zero => exact Nat.le_refl _
  | succ n ih => unfold cN; split <;> omega
theorem zLv.rank {w : zWd} (h : zLv w) : ∃ r : Nat → Nat, (∀ i, i < 30 → r i < 30) ∧ ∀ i, i < 30 → w.1 i = true → ∀ j, j < 30 → w.2.1 i 5 = zI j → w.1 j = true ∧ r j < r i := by
  obtain ⟨⟨r, h1⟩, -⟩ := h
  refine ⟨fun i => cN (fun j => decide (r j < r i)) 30, fun i hi => ?_, fun i hi hw j hj hp => ?_⟩
  · have := cN_lt (P := fun j => decide (r j < r i)) (Q := fun _ => true) (k := i) 30 (fun _ _ _ => rfl) hi (by simp) rfl
    have := cN_le (fun _ => true) 30
    show cN (fun j => decide (r j < r i)) 30 < 30
    omega
  · obtain ⟨g1, g2⟩ := h1 i hi hw j hj hp
    refine ⟨g1, ?_⟩
    exact cN_lt (k := j) 30 (fun q _ hq => by
      have := of_decide_eq_true hq
      exact decide_eq_true (by omega)) hj (by simp) (decide_eq_true g2)
/-- whether the way up from k comes to i -/
def aHit (w : zWd) (i : Nat) : Nat → Nat → Bool
  | 0, _ => false
  | n + 1, k => if k = i then true else if w.2.1 k 5 = -1 then false else aHit w i n (w.2.1 k 5).toNatClampNeg
theorem parent_ex {w : zWd} (hg : zRg w) {k : Nat} (hk : k < 30) (hw : w.1 k = true) (hp : ¬ w.2.1 k 5 = -1) : ∃ j, j < 30 ∧ w.2.1 k 5 = zI j ∧ (w.2.1 k 5).toNatClampNeg = j := by
  have := hg.parent hk hw
  unfold wC at this
  rw [if_pos hw] at this
  rcases this with e | ⟨j, hj, e⟩
  · exact absurd e hp
  · exact ⟨j, hj, e, by rw [e, zI_clamp (by omega)]⟩
theorem aHit_eq {w : zWd} (hg : zRg w) {r : Nat → Nat} (hr : ∀ i, i < 30 → w.1 i = true → ∀ j, j < 30 → w.2.1 i 5 = zI j → w.1 j = true ∧ r j < r i) {i : Nat} : ∀ (n m k : Nat), k < 30 → w.1 k = true → r k < n → r k < m → aHit w i n k = aHit w i m k := by
  intro n
  induction n with
  | zero => intro m k _ _ h; omega
  | succ n ih =>
    intro m k hk hw h1 h2
    obtain ⟨m, rfl⟩ : ∃ q, m = q + 1 := ⟨m - 1, by omega⟩
    unfold aHit
    split
    · rfl
    split
    · rfl
    · rename_i q1 q2
      obtain ⟨j, hj, e, ec⟩ := parent_ex hg hk hw q2
      obtain ⟨g1, g2⟩ := hr k hk hw j hj e
      rw [ec]
      exact ih m j hj g1 (by omega) (by omega)
theorem m1_ne (k : Nat) (hk : k < 2147483648) : ¬ zI k = -1 := by
  intro q
  have := congrArg Int32.toInt q
  rw [zI_toInt hk] at this
  have e1 : (-1 : Int32).toInt = -1 := rfl
  omega
theorem T_above_L {V : Nat → Nat → Int32} {w : zWd} (hC : zWC 9 V w) (hg : zRg w) {r : Nat → Nat} (hr : ∀ i, i < 30 → w.1 i = true → ∀ j, j < 30 → w.2.1 i 5 = zI j → w.1 j = true ∧ r j < r i) {i : Nat} (hi : i < 30) : ∀ (n k c f : Nat), k < 30 → w.1 k = true → r k < n → c + n ≤ 31 → n < f →
    F_T_isAtOrAbove_L5 V (zI i) f (zI k) (zI c) = (if aHit w i n k = true then .inr 1 else .inl ()) ∧ Sf_T_isAtOrAbove_L5 V (zI i) f (zI k) (zI c) := by
  intro n
  induction n with
  | zero => intro k c f _ _ h; omega
  | succ n ih =>
    intro k c f hk hw h1 h2 hf
    obtain ⟨f, rfl⟩ : ∃ q, f = q + 1 := ⟨f - 1, by omega⟩
    have hl : ¬ (30 : Int32) < zI c := by rw [show (30 : Int32) = zI 30 from rfl, zI_lt (by omega) (by omega)]; omega
    obtain ⟨c1, c2⟩ := hC.cell hk (show 5 < 10 by omega)
    have c1' : F_World_cell 9 V (zI k) 5 = w.2.1 k 5 := by have := c1; unfold wC at this; rw [if_pos hw] at this; exact this
    have c2' : Sf_World_cell 9 V (zI k) 5 := c2
    unfold F_T_isAtOrAbove_L5 Sf_T_isAtOrAbove_L5 aHit
    rw [if_neg hl, if_neg hl, if_neg (m1_ne k (by omega)), if_neg (m1_ne k (by omega)), c1', zI_succ]
    by_cases e : k = i
    · have e2 : zI k = zI i := by rw [e]
      rw [if_pos e2, if_pos e2, if_pos e]
      exact ⟨rfl, trivial⟩
    · have e2 : ¬ zI k = zI i := by rw [zI_inj (by omega) (by omega)]; exact e
      rw [if_neg e2, if_neg e2, if_neg e]
      by_cases q : w.2.1 k 5 = -1
      · rw [if_pos q, q]
        obtain ⟨f, rfl⟩ : ∃ q, f = q + 1 := ⟨f - 1, by omega⟩
        unfold F_T_isAtOrAbove_L5 Sf_T_isAtOrAbove_L5
        by_cases q2 : (30 : Int32) < zI (c + 1)
        · rw [if_pos q2, if_pos q2]; exact ⟨rfl, c2', trivial⟩
        · rw [if_neg q2, if_neg q2, if_pos rfl, if_pos rfl]; exact ⟨rfl, c2', trivial⟩
      · obtain ⟨j, hj, ej, ec⟩ := parent_ex hg hk hw q
        obtain ⟨g1, g2⟩ := hr k hk hw j hj ej
        rw [if_neg q, ec, ej]
        obtain ⟨i1, i2⟩ := ih j (c + 1) f hj g1 (by omega) (by omega) (by omega)
        exact ⟨i1, c2', i2⟩
theorem M_nest_L {fl : Nat → Nat} {U : Nat → Nat → Int32} {w : zWd} (hC : zWM 86 U w) (hg : zRg w) {r : Nat → Nat} (hr : ∀ i, i < 30 → w.1 i = true → ∀ j, j < 30 → w.2.1 i 5 = zI j → w.1 j = true ∧ r j < r i) {i : Nat} (hi : i < 30) {x1 x3 : Int32} : ∀ (n k f : Nat), k < 30 → w.1 k = true → r k < n → n < f →
    F_M_nest_L44 fl x1 (zI i) x3 f U (zI k) = (if aHit w i n k = true then zI i else -1, U) ∧ Sf_M_nest_L44 fl x1 (zI i) x3 f U (zI k) := by
  intro n
  induction n with
  | zero => intro k f _ _ h; omega
  | succ n ih =>
    intro k f hk hw h1 hf
    obtain ⟨f, rfl⟩ : ∃ q, f = q + 1 := ⟨f - 1, by omega⟩
    have c1 : U 92 k = w.2.1 k 5 := hC.col k hk hw 5 (by omega)
    unfold F_M_nest_L44 Sf_M_nest_L44 aHit
    rw [if_neg (m1_ne k (by omega)), if_neg (m1_ne k (by omega)), zI_clamp (show k < 2147483648 by omega), c1]
    by_cases e : k = i
    · have e2 : zI k = zI i := by rw [e]
      rw [if_pos e2, if_pos e2, if_pos e, if_pos rfl, e2]
      exact ⟨rfl, trivial⟩
    · have e2 : ¬ zI k = zI i := by rw [zI_inj (by omega) (by omega)]; exact e
      rw [if_neg e2, if_neg e2, if_neg e]
      by_cases q : w.2.1 k 5 = -1
      · rw [if_pos q, q]
        obtain ⟨f, rfl⟩ : ∃ q, f = q + 1 := ⟨f - 1, by omega⟩
        unfold F_M_nest_L44 Sf_M_nest_L44
        rw [if_pos rfl, if_pos rfl]
        exact ⟨rfl, vp_in_I hk (by omega), trivial⟩
      · obtain ⟨j, hj, ej, ec⟩ := parent_ex hg hk hw q
        obtain ⟨g1, g2⟩ := hr k hk hw j hj ej
        rw [if_neg q, ec, ej]
        obtain ⟨i1, i2⟩ := ih j f hj g1 (by omega) (by omega)
        exact ⟨i1, vp_in_I hk (by omega), i2⟩
/-- a parent that isn't below closes no circle -/
theorem nest_ev {w : zWd} (hg : zRg w) (hv : zLv w) {i k : Nat} (hi : i < 30) (hw : w.1 i = true) (hk : k < 30) (hwk : w.1 k = true) {r : Nat → Nat} (hb : ∀ i, i < 30 → r i < 30) (hr : ∀ i, i < 30 → w.1 i = true → ∀ j, j < 30 → w.2.1 i 5 = zI j → w.1 j = true ∧ r j < r i) (hno : aHit w i 30 k = false) :
    ∃ r : Nat → Nat, (∀ i', i' < 30 → w.1 i' = true → i' ≠ i → ∀ j, j < 30 → w.2.1 i' 5 = zI j → r j < r i') ∧ ∀ j, j < 30 → zI k = zI j → w.1 j = true ∧ r j < r i := by
  refine ⟨fun x => if aHit w i 30 x = true then r x + 30 else r x, fun i' hi' hw' hne j hj hp => ?_, fun j hj e => ?_⟩
  · obtain ⟨g1, g2⟩ := hr i' hi' hw' j hj hp
    have hb1 := hb i' hi'
    have e1 : aHit w i 30 i' = aHit w i 30 j := by
      have : aHit w i 30 i' = aHit w i 29 j := by
        show (if i' = i then true else if w.2.1 i' 5 = -1 then false else aHit w i 29 (w.2.1 i' 5).toNatClampNeg) = _
        rw [if_neg hne, hp, if_neg (m1_ne j (by omega)), zI_clamp (by omega)]
      rw [this]
      exact aHit_eq hg hr 29 30 j hj g1 (by omega) (by omega)
    show (if aHit w i 30 j = true then r j + 30 else r j) < if aHit w i 30 i' = true then r i' + 30 else r i'
    rw [e1]
    split <;> omega
  · have ej : k = j := (zI_inj (by omega) (by omega)).mp e
    subst ej
    refine ⟨hwk, ?_⟩
    show (if aHit w i 30 k = true then r k + 30 else r k) < if aHit w i 30 i = true then r i + 30 else r i
    have e2 : aHit w i 30 i = true := by
      show (if i = i then true else _) = true
      rw [if_pos rfl]
    rw [hno, e2]
    have := hb k hk
    simp; omega
/-- what nest asks of its parent -/
def nHit (w : zWd) (i : Nat) (v : Int32) : Bool := if v = -1 then false else aHit w i 30 v.toNatClampNeg
theorem nest_ok {d p i : Nat} {v : Int32} {A : zA} (h : zOk d A) (hi : i < 30) (hw : A.2.2.1 i = true) (hv : v = -1 ∨ ∃ k, k < 30 ∧ v = zI k ∧ A.2.2.1 k = true) (hno : nHit A.2.2 i v = false) (hp : p < 8) : zOk d (aC d p i 5 v A) := by
  rcases aC_cases (d := d) (p := p) (i := i) (c := 5) (v := v) (A := A) with e | e
  · rw [e]; exact h
  · rw [e]
    have hcell : wC A.2.2 i 5 = A.2.2.2.1 i 5 := by unfold wC; rw [if_pos hw]
    have he : zEok (2, i, 5, 0, wC A.2.2 i 5, v) := Or.inr (Or.inr (Or.inl ⟨rfl, hi, (by decide : 5 < 9)⟩))
    have ho : zOld (2, i, 5, 0, wC A.2.2 i 5, v) A.2.2 := ⟨fun q => absurd q (by simp), fun q => absurd q (by simp), fun _ => ⟨hw, hcell⟩, fun q => absurd q (by simp)⟩
    obtain ⟨r, r1, r2⟩ := h.lv.rank
    refine h.push he ho ⟨fun q => absurd q (by simp), fun _ => ?_, fun _ _ => ?_, fun q => absurd q (by simp)⟩ (fun q => absurd q (by simp)) hp
    · rcases hv with rfl | ⟨k, hk, rfl, hwk⟩
      · show lo_c 5 ≤ (-1 : Int32).toInt ∧ (-1 : Int32).toInt ≤ hi_c 5
        decide
      · show lo_c 5 ≤ (zI k).toInt ∧ (zI k).toInt ≤ hi_c 5
        rw [zI_toInt (by omega)]
        exact ⟨by show (-1 : Int) ≤ k; omega, by show (k : Int) ≤ 29; omega⟩
    · show ∃ r : Nat → Nat, (∀ i', i' < 30 → A.2.2.1 i' = true → i' ≠ i → ∀ j, j < 30 → A.2.2.2.1 i' 5 = zI j → r j < r i') ∧ ∀ j, j < 30 → v = zI j → A.2.2.1 j = true ∧ r j < r i
      rcases hv with rfl | ⟨k, hk, rfl, hwk⟩
      · refine ⟨r, fun i' hi' hw' _ j hj hp => (r2 i' hi' hw' j hj hp).2, fun j hj e => absurd e.symm (m1_ne j (by omega))⟩
      · unfold nHit at hno
        rw [if_neg (m1_ne k (by omega)), zI_clamp (by omega)] at hno
        exact nest_ev h.rg h.lv hi hw hk hwk r1 r2 hno
theorem T_above_I {V : Nat → Nat → Int32} {d : Nat} {A : zA} (hC : zRC V A) (hA : zOk d A) {i : Nat} (hi : i < 30) {v : Int32} (hv : v = -1 ∨ ∃ k, k < 30 ∧ v = zI k ∧ A.2.2.1 k = true) : F_T_isAtOrAbove V (zI i) v = (if nHit A.2.2 i v = true then 1 else 0) ∧ Sf_T_isAtOrAbove V (zI i) v := by
  obtain ⟨r, r1, r2⟩ := hA.lv.rank
  unfold F_T_isAtOrAbove Sf_T_isAtOrAbove nHit
  rcases hv with rfl | ⟨k, hk, rfl, hwk⟩
  · unfold F_T_isAtOrAbove_L5 Sf_T_isAtOrAbove_L5
    rw [if_neg (show ¬ (30 : Int32) < 0 by decide), if_neg (show ¬ (30 : Int32) < 0 by decide), if_pos rfl, if_pos rfl, if_pos rfl]
    exact ⟨rfl, trivial, trivial⟩
  · obtain ⟨l1, l2⟩ := T_above_L hC.2 hA.rg r2 hi 30 k 0 1300 hk hwk (r1 k hk) (by omega) (by omega)
    rw [zI_0] at l1 l2
    rw [l1, if_neg (m1_ne k (by omega)), zI_clamp (show k < 2147483648 by omega)]
    refine ⟨?_, l2, trivial⟩
    cases aHit A.2.2 i 30 k <;> rfl
theorem M_nestL_I {fl : Nat → Nat} {U : Nat → Nat → Int32} {d : Nat} {A : zA} (hC : zRM 86 U A) (hA : zOk d A) {i : Nat} (hi : i < 30) {v x1 x3 : Int32} (hv : v = -1 ∨ ∃ k, k < 30 ∧ v = zI k ∧ A.2.2.1 k = true) : F_M_nest_L44 fl x1 (zI i) x3 1300 U v = (if nHit A.2.2 i v = true then zI i else -1, U) ∧ Sf_M_nest_L44 fl x1 (zI i) x3 1300 U v := by
  obtain ⟨r, r1, r2⟩ := hA.lv.rank
  unfold nHit
  rcases hv with rfl | ⟨k, hk, rfl, hwk⟩
  · unfold F_M_nest_L44 Sf_M_nest_L44
    rw [if_pos rfl, if_pos rfl, if_pos rfl]
    exact ⟨rfl, trivial⟩
  · obtain ⟨l1, l2⟩ := M_nest_L (fl := fl) (x1 := x1) (x3 := x3) hC.2.1 hA.rg r2 hi 30 k 1300 hk hwk (r1 k hk) (by omega)
    rw [l1, if_neg (m1_ne k (by omega)), zI_clamp (show k < 2147483648 by omega)]
    exact ⟨rfl, l2⟩

theorem uS_nj2 (U : Nat → Nat → Int32) (x : Int32) (j : Nat) : z_uS U 78 0 x 92 j = U 92 j := by rw [z_uS_ne _ _ _ (by omega)]
theorem o_18 {fl : Nat → Nat} {S : Nat → Nat → Int32} {d : Nat} {A : zA} {rn : Nat} (h : zB0 fl S d A rn) (a1 a2 a3 a4 a5 a6 : Int32) : Sl_18 fl S a1 a2 a3 a4 a5 a6 ∧ zEnd S (Fl_18 fl S a1 a2 a3 a4 a5 a6) d := by
  suffices g : zOp (fun E => (if E = "java/lang/IndexOutOfBoundsException" then 1 else (if E = "java/lang/IllegalStateException" then 2 else 0))) (fun E => E = "java/lang/IndexOutOfBoundsException" ∨ E = "java/lang/IllegalStateException") S d (F_T_nest S a1 a2 a3) (Sf_T_nest S a1 a2 a3) (fun U => F_M_nest fl U a1 a2 a3) (fun U => Sf_M_nest fl U a1 a2 a3) from g
  rcases T_head h a1 a2 with ⟨V, hv, hcx, hC, m1, m2⟩ | ⟨p, i, V, hp, hi, rfl, rfl, hsee, hw, hper, v1, v2, hcx, hC, hst, hCX, hU⟩
  · refine zOp_err (E := "java/lang/IndexOutOfBoundsException") (V := V) (x := 0) (W := z_uS V 78 0 1) ?_ ?_ (Or.inl rfl) (by decide) hcx h.ok h.ns hC ?_ ?_ (by rw [uS_at]; rfl) (zFMX.thr _ _) ((h.bm hcx.x).m.thr _)
    · unfold F_T_nest
      rcases hv with ⟨g, rfl⟩ | ⟨g, v1, v2⟩
      · rw [if_pos g]
      · rw [g, v1]; rfl
    · unfold Sf_T_nest
      rcases hv with ⟨g, rfl⟩ | ⟨g, v1, v2⟩
      · rw [if_pos g]; trivial
      · rw [g, v1]; exact ⟨v2, trivial⟩
    · show F_M_nest fl V a1 a2 a3 = _
      unfold F_M_nest F_M_nest_j28 F_M_nest_j29
      simp only [m1, if_true, if_neg le_10]
    · show Sf_M_nest fl V a1 a2 a3
      unfold Sf_M_nest Sf_M_nest_j28 Sf_M_nest_j29
      simp only [m1, if_true, if_neg le_10]; exact ⟨m2, trivial⟩
  have hbm := h.bm hcx.x
  have hn := h.n
  have ep : vPer (zI p) = some p := by unfold vPer; rw [zI_clamp (by omega), if_pos]; rw [zI_toInt (by omega)]; omega
  -- the parent is seen, in any memory that holds the same
  have hS3 : ∀ U : Nat → Nat → Int32, zBM fl S U d A rn → F_M_isSeen U (zI p) a3 = (if vSeeO S A.2.2 p a3 = true then 1 else 0) ∧ Sf_M_isSeen U (zI p) a3 := by
    intro U hU2
    obtain ⟨k1, k2⟩ := M_isSeen_I hU2 (zI p) a3
    rw [ep] at k1
    exact ⟨k1, k2⟩
  have hs3 := Sight_sees_I hst a3
  by_cases hf : a3 = -1 ∨ vSeeO S A.2.2 p a3 = true
  case neg =>
    obtain ⟨n1, n2⟩ := hU V hbm
    obtain ⟨k1, k2⟩ := hS3 V hbm
    have q1 : ¬ a3 = -1 := fun e => hf (Or.inl e)
    have q2 : vSeeO S A.2.2 p a3 = false := by cases q : vSeeO S A.2.2 p a3 with | false => rfl | true => exact absurd (Or.inr q) hf
    rw [q2] at k1 hs3
    refine zOp_err (E := "java/lang/IndexOutOfBoundsException") (V := V) (x := 0) (W := z_uS V 78 0 1) ?_ ?_ (Or.inl rfl) (by decide) hcx h.ok h.ns hC ?_ ?_ (by rw [uS_at]; rfl) (zFMX.thr _ _) (hbm.m.thr _)
    · unfold F_T_nest; rw [hper, v1]; simp only [if_neg ne_10, if_neg q1, hs3, Bool.false_eq_true, if_false, if_true]
    · unfold Sf_T_nest; rw [hper, v1]; simp only [if_neg ne_10, if_neg q1, hs3, Bool.false_eq_true, if_false, if_true]; exact ⟨v2, Sf_sees_I _ _, trivial⟩
    · show F_M_nest fl V (zI p) (zI i) a3 = _
      unfold F_M_nest F_M_nest_j28 F_M_nest_j29
      simp only [n1, if_neg ne_10, if_neg q1, k1, Bool.false_eq_true, if_false, if_true, if_neg le_10]
    · show Sf_M_nest fl V (zI p) (zI i) a3
      unfold Sf_M_nest Sf_M_nest_j28 Sf_M_nest_j29
      simp only [n1, if_neg ne_10, if_neg q1, k1, Bool.false_eq_true, if_false, if_true, if_neg le_10]; exact ⟨n2, k2, trivial⟩
  have hv3 : a3 = -1 ∨ ∃ k, k < 30 ∧ a3 = zI k ∧ A.2.2.1 k = true := by
    rcases hf with e | e
    · exact Or.inl e
    · obtain ⟨k, hk, ek, hsk⟩ := vSeeO_cases e
      exact Or.inr ⟨k, hk, ek, vSee_there hsk⟩
  -- on to the rest, in both
  have hT0 : ∀ r D, F_T_nest_j32 V (zI p) (zI i) a3 = (r, D) → F_T_nest S (zI p) (zI i) a3 = (r, D) := by
    intro r D hr
    unfold F_T_nest; rw [hper, v1]; simp only [if_neg ne_10]
    by_cases q : a3 = -1
    · rw [if_pos q]; exact hr
    · have q2 := hf.resolve_left q
      rw [q2] at hs3
      simp only [if_neg q, hs3, if_true, if_neg ne_10]; exact hr
  have hTs0 : Sf_T_nest_j32 V (zI p) (zI i) a3 → Sf_T_nest S (zI p) (zI i) a3 := by
    intro hr
    unfold Sf_T_nest; rw [hper, v1]; simp only [if_neg ne_10]
    refine ⟨v2, ?_⟩
    by_cases q : a3 = -1
    · rw [if_pos q]; exact hr
    · have q2 := hf.resolve_left q
      rw [q2] at hs3
      simp only [if_neg q, hs3, if_true, if_neg ne_10]; exact ⟨Sf_sees_I _ _, hr⟩
  have hM0 : ∀ U : Nat → Nat → Int32, zBM fl S U d A rn → F_M_nest fl U (zI p) (zI i) a3 = F_M_nest_j29 fl U (zI p) (zI i) a3 0 ∧ (Sf_M_nest_j29 fl U (zI p) (zI i) a3 0 → Sf_M_nest fl U (zI p) (zI i) a3) := by
    intro U hU2
    obtain ⟨n1, n2⟩ := hU U hU2
    obtain ⟨k1, k2⟩ := hS3 U hU2
    unfold F_M_nest Sf_M_nest F_M_nest_j24 Sf_M_nest_j24
    simp only [n1, if_neg ne_10]
    by_cases q : a3 = -1
    · simp only [if_pos q]; exact ⟨trivial, fun x => ⟨n2, x⟩⟩
    · have q2 := hf.resolve_left q
      rw [q2] at k1
      simp only [if_neg q, k1, if_true, if_neg ne_10]; exact ⟨trivial, fun x => ⟨n2, k2, x⟩⟩
  obtain ⟨ab1, ab2⟩ := T_above_I hC h.ok hi hv3
  have hed := Sight_canEdit_I hst hi
  have heds := Sf_canEdit_I V (zI i)
  -- what was the parent, as it is seen
  have hold : ∀ U : Nat → Nat → Int32, zBM fl S U d A rn → U 92 i = wC A.2.2 i 5 ∧ F_M_sees 86 U (zI p) (wC A.2.2 i 5) = (if vSeeO S A.2.2 p (wC A.2.2 i 5) = true then 1 else 0) ∧ Sf_M_sees 86 U (zI p) (wC A.2.2 i 5) := fun U hU2 => ⟨hU2.m.2.1.cell hi (show 5 < 10 by omega) hw, M_sees_O hU2.y hU2.m.2.1 h.ok.rg hp _⟩
  have vi : vp_in (zI i) 30 := vp_in_I hi (by omega)
  by_cases hno : nHit A.2.2 i a3 = true
  case pos =>
    have hM : F_M_nest fl V (zI p) (zI i) a3 = (0, z_uS (z_uS V 78 0 0) 78 0 2) ∧ Sf_M_nest fl V (zI p) (zI i) a3 := by
      obtain ⟨y1, y2⟩ := hM0 V hbm
      have hbm0 := hbm.thr 0
      obtain ⟨l1, l2⟩ := M_nestL_I (fl := fl) (x1 := zI p) (x3 := a3) hbm0.m h.ok hi hv3
      rw [if_pos hno] at l1
      obtain ⟨x1, x2, x3⟩ := hold _ (hbm0.thr 2)
      rw [uS_nj2] at x1
      rw [y1]
      refine ⟨?_, y2 ?_⟩
      · unfold F_M_nest_j29 F_M_nest_j83 F_M_nest_j120
        simp only [if_pos le_00, l1, if_true, zI_clamp (show i < 2147483648 by omega), x1, uS_at, if_neg le_20, ite_self]
      · unfold Sf_M_nest_j29 Sf_M_nest_j83 Sf_M_nest_j120
        simp only [if_pos le_00, l1, if_true, zI_clamp (show i < 2147483648 by omega), x1, uS_at, if_neg le_20]
        refine ⟨l2, vi, x3, ?_⟩
        split <;> first | trivial | exact ⟨vi, trivial⟩
    refine zOp_err (E := "java/lang/IllegalStateException") (V := V) (hT0 _ _ ?_) (hTs0 ?_) (Or.inr rfl) (by decide) hcx h.ok h.ns hC hM.1 hM.2 (by rw [uS_at]; rfl) ((zFMX.thr _ _).trans (zFMX.thr _ _)) ((hbm.m.thr _).thr _)
    · unfold F_T_nest_j32
      rw [hed, ab1, hno]
      cases vEdit S A.2.2 p i <;> simp
    · unfold Sf_T_nest_j32
      rw [hed, ab1, hno]
      cases vEdit S A.2.2 p i
      · simp [heds]
      · simp [heds, ab2]
  have hno' : nHit A.2.2 i a3 = false := by simpa using hno
  have o1 := nest_ok (p := p) h.ok hi hw hv3 hno' hp
  have hb := aC_n (d := d) (p := p) (i := i) (c := 5) (v := a3) (A := A)
  obtain ⟨D, d1, d2, d3, d4⟩ := T_setCell_I hst hC h.ok hCX.2.2 hn hi (show 5 < 9 by omega) a3 o1
  have d1' : F_T_setCell V (zI p) (zI i) 5 a3 = _ := d1
  have d2' : Sf_T_setCell V (zI p) (zI i) 5 a3 := d2
  obtain ⟨q1, q2⟩ := aCell_ok (E := S) h.ok hn o1 hb.1
  have hfcx : zFCX S D := hcx.trans d3.cx
  have hseeD : F_Sight_sees D (wC A.2.2 i 5) = if vSeeO S A.2.2 p (wC A.2.2 i 5) = true then 1 else 0 := by
    rw [← Sight_sees_I hst]
    unfold F_Sight_sees F_T_isIn
    rw [d3.1 36 (by omega)]
  generalize hans : (if vSeeO S A.2.2 p (wC A.2.2 i 5) = true then wC A.2.2 i 5 else -1) = ans
  have hM : ∀ U : Nat → Nat → Int32, zBM fl S U d A rn → ∃ W, F_M_nest fl U (zI p) (zI i) a3 = (if aOk S d p i 5 a3 A = true then ans else 0, W) ∧ Sf_M_nest fl U (zI p) (zI i) a3 ∧ zFMX U W ∧ (W 78 0 = if aOk S d p i 5 a3 A = true then 0 else 2) ∧ zRM 86 W (aCell S d p i 5 a3 A) := by
    intro U hU2
    obtain ⟨y1, y2⟩ := hM0 U hU2
    have hbm0 := hU2.thr 0
    obtain ⟨l1, l2⟩ := M_nestL_I (fl := fl) (x1 := zI p) (x3 := a3) hbm0.m h.ok hi hv3
    rw [if_neg hno] at l1
    obtain ⟨x1, x2, x3⟩ := hold _ (hbm0.thr 0)
    rw [uS_nj2] at x1
    obtain ⟨W, k1, k2, k3, k4, k5⟩ := M_turns_I (hbm0.thr 0) hp hi (show 5 < 9 by omega) (by omega) a3 o1 ans le_20
    have k1' : F_M_turns fl (z_uS (z_uS U 78 0 0) 78 0 0) 5 (zI p) (zI i) a3 ans 2 = _ := k1
    have k2' : Sf_M_turns fl (z_uS (z_uS U 78 0 0) 78 0 0) 5 (zI p) (zI i) a3 ans 2 := k2
    have nmi : ¬ (-1 : Int32) = zI i := fun e => m1_ne i (by omega) e.symm
    refine ⟨W, ?_, y2 ?_, ((zFMX.thr U 0).trans (zFMX.thr _ 0)).trans k3, k4, k5⟩
    · rw [y1]
      unfold F_M_nest_j29 F_M_nest_j83 F_M_nest_j120
      simp only [if_pos le_00, l1, if_neg nmi, zI_clamp (show i < 2147483648 by omega), x1, x2, uS_at]
      cases q : vSeeO S A.2.2 p (wC A.2.2 i 5)
      · rw [q] at hans
        simp only [Bool.false_eq_true, if_false, if_true] at hans ⊢
        rw [hans, k1']
      · rw [q] at hans
        simp only [if_true] at hans
        simp only [if_true, if_neg ne_10]
        rw [hans, k1']
    · unfold Sf_M_nest_j29 Sf_M_nest_j83 Sf_M_nest_j120
      simp only [if_pos le_00, l1, if_neg nmi, zI_clamp (show i < 2147483648 by omega), x1, x2, uS_at]
      refine ⟨l2, vi, x3, ?_⟩
      cases q : vSeeO S A.2.2 p (wC A.2.2 i 5)
      · rw [q] at hans
        simp only [Bool.false_eq_true, if_false, if_true] at hans ⊢
        rw [hans]; exact ⟨k2', trivial⟩
      · rw [q] at hans
        simp only [if_true] at hans
        simp only [if_true, if_neg ne_10]
        rw [hans]; exact ⟨vi, k2', trivial⟩
  have hTs : Sf_T_nest S (zI p) (zI i) a3 := by
    refine hTs0 ?_
    unfold Sf_T_nest_j32
    rw [hed, ab1, hno', d1']
    cases q : vEdit S A.2.2 p i
    · simp [heds]
    · simp only [if_true, if_neg ne_10, Bool.false_eq_true, if_false]
      refine ⟨heds, ab2, d2', ?_⟩
      cases aOk S d p i 5 a3 A
      · simp
      · simp [Sf_sees_I]
  by_cases ho : aOk S d p i 5 a3 A = true
  · rw [if_pos ho] at d1'
    have hedt : vEdit S A.2.2 p i = true := (Bool.and_eq_true_iff.mp ho).1
    obtain ⟨W, m1, m2, m3, m4, m5⟩ := hM (z_uS D 193 0 ans) (h.bm (hfcx.out _))
    rw [if_pos ho] at m1 m4
    refine zOp_ok (V := D) (v := ans) (hT0 _ _ ?_) hTs hfcx q1 ⟨q2, h.ccell⟩ d4 m1 m2 m4 m3 m5
    unfold F_T_nest_j32
    rw [hed, ab1, hno', hedt, d1']
    simp only [if_true, if_neg ne_10, Bool.false_eq_true, if_false, hseeD]
    cases q : vSeeO S A.2.2 p (wC A.2.2 i 5)
    · rw [q] at hans; simp at hans; simp [hans]
    · rw [q] at hans; simp at hans; simp [hans]
  · rw [if_neg ho] at d1'
    obtain ⟨W, m1, m2, m3, m4, m5⟩ := hM D (h.bm hfcx.x)
    rw [if_neg ho] at m1 m4
    have hDV : vEdit S A.2.2 p i = false → V = D := by
      intro q
      unfold F_T_setCell at d1'
      rw [hed, q] at d1'
      simp at d1'
      exact d1'
    refine zOp_err (E := "java/lang/IllegalStateException") (V := D) (hT0 _ _ ?_) hTs (Or.inr rfl) (by decide) hfcx q1 ⟨q2, h.ccell⟩ d4 m1 m2 m4 m3 m5
    unfold F_T_nest_j32
    rw [hed, ab1, hno', d1']
    cases q : vEdit S A.2.2 p i
    · simp [hDV q]
    · simp
