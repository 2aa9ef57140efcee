/-! PURE: what a person reads, both -/
theorem zFill_at (S : Nat → Nat → Int32) (a len : Nat) (x : Int32) (k j : Nat) : zFill S a len x k j = if k = a ∧ j < len then x else S k j := by
  unfold zFill
  by_cases h : k = a
  · subst h
    by_cases h2 : j < len <;> simp [h2]
  · simp [h]
theorem Sight_look_I {r : Nat} {E S : Nat → Nat → Int32} {w : zWd} (hr : r + 3 < 36) (hE : eV E S) (hC : zWC r S w) (hg : zRg w) {p : Nat} (hp : p < 8) :
    ∃ V, F_Sight_look r S (zI p) = V ∧ Sf_Sight_look r S (zI p) ∧ zFL S V ∧ zSt E w p 30 V := by
  unfold F_Sight_look Sf_Sight_look
  simp only [z_let]
  generalize hA : zFill (zFill (z_uS (z_uS S 36 8 0) 36 9 0) 41 4 0) 42 3 0 = A
  have cA : ∀ k j, A k j = if k = 42 ∧ j < 3 then 0 else if k = 41 ∧ j < 4 then 0 else (z_uS (z_uS S 36 8 0) 36 9 0) k j := fun k j => by rw [← hA, zFill_at, zFill_at]
  have hfl : zFL S A := ⟨fun k h1 h2 h3 => funext fun j => by rw [cA, if_neg (fun h => h3 h.1), if_neg (fun h => h2 h.1), z_uS_ne _ _ _ h1, z_uS_ne _ _ _ h1], fun j h1 h2 => by rw [cA, if_neg (by omega), if_neg (by omega), uS_nj _ _ _ h2, uS_nj _ _ _ h1]⟩
  have hst : zSt E w p 0 A := by
    intro q hq
    refine ⟨?_, ?_, fun f hf => ?_, fun f hf => ?_⟩
    · rw [cA, if_neg (by omega), if_neg (by omega), uS_nj _ _ _ (by omega), uS_at, zB_0]; rfl
    · rw [cA, if_neg (by omega), if_neg (by omega), uS_at, zB_0]; rfl
    · rw [cA, if_neg (by omega), if_pos ⟨rfl, hf⟩, zB_0]; rfl
    · rw [cA, if_pos ⟨rfl, hf⟩, zB_0]; rfl
  obtain ⟨V, v1, v2, v3, v4⟩ := Sight_look_L33_I hr hg hp 30 0 1300 A rfl (by omega) (hE.fl hfl) (hC.fl hr hfl) hst
  rw [zI_0] at v1 v2
  exact ⟨V, v1, ⟨v2, trivial⟩, hfl.trans v3, v4⟩
theorem zSt.seen {E V : Nat → Nat → Int32} {w : zWd} {p : Nat} (h : zSt E w p 30 V) {i : Nat} (hi : i < 30) : zB (V 36 8) i = vSee E w p i := by rw [(h i (by omega)).1]; simp [hi]
theorem zSt.edit {E V : Nat → Nat → Int32} {w : zWd} {p : Nat} (h : zSt E w p 30 V) {i : Nat} (hi : i < 30) : zB (V 36 9) i = vEdit E w p i := by rw [(h i (by omega)).2.1]; simp [hi]
theorem zSt.read {E V : Nat → Nat → Int32} {w : zWd} {p : Nat} (h : zSt E w p 30 V) {i f : Nat} (hi : i < 30) (hf : f < 4) : zB (V 41 f) i = vRead E w p i f := by rw [(h i (by omega)).2.2.1 f hf]; simp [hi]
theorem zSt.told {E V : Nat → Nat → Int32} {w : zWd} {p : Nat} (h : zSt E w p 30 V) {i f : Nat} (hi : i < 30) (hf : f < 3) : zB (V 42 f) i = vTold E w p i f := by rw [(h i (by omega)).2.2.2 f hf]; simp [hi]
theorem zSt.hi {E V : Nat → Nat → Int32} {w : zWd} {p : Nat} (h : zSt E w p 30 V) {q : Nat} (hq : 30 ≤ q) : zB (V 36 8) q = false ∧ zB (V 36 9) q = false := by
  by_cases h32 : q < 32
  · obtain ⟨h1, h2, -⟩ := h q h32
    rw [h1, h2, decide_eq_false (by omega)]; exact ⟨rfl, rfl⟩
  · exact ⟨zB_ge _ (by omega), zB_ge _ (by omega)⟩
/-- any number as an item -/
def vItem (i : Int32) : Option Nat := if 0 ≤ i.toInt ∧ i.toInt < 30 then some i.toNatClampNeg else none
theorem T_isIn_any (S : Nat → Nat → Int32) {P : Int32} (h30 : ∀ q, 30 ≤ q → zB P q = false) (i : Int32) : F_T_isIn S P i = (match vItem i with | some k => if zB P k = true then 1 else 0 | none => 0) := by
  unfold vItem
  by_cases h : 0 ≤ i.toInt ∧ i.toInt < 30
  · rw [if_pos h]
    have := i_clamp h.1
    have e := zI_of h.1
    show _ = if zB P i.toNatClampNeg = true then 1 else 0
    rw [← T_isIn_I S (show i.toNatClampNeg < 31 by omega), ← e]
  · rw [if_neg h]
    show _ = 0
    by_cases h2 : i.toInt = 30
    · have e : i = zI 30 := Int32.toInt_inj.mp (by rw [h2]; rfl)
      rw [e, T_isIn_I S (by omega), h30 30 (by omega)]; rfl
    · exact T_isIn_out S (by omega)
theorem T_isIn_01 (S : Nat → Nat → Int32) (P i : Int32) : F_T_isIn S P i = 0 ∨ F_T_isIn S P i = 1 := by
  unfold F_T_isIn
  split
  · exact Or.inl rfl
  split
  · exact Or.inl rfl
  split
  · exact Or.inr rfl
  · exact Or.inl rfl
theorem nar01 {x : Int32} (h : x = 0 ∨ x = 1) : narrow .boolean (.int x) = .int x := by rcases h with rfl | rfl <;> rfl
theorem Sf_sees_I (S : Nat → Nat → Int32) (i : Int32) : Sf_Sight_sees S i := ⟨nar01 (T_isIn_01 _ _ _), trivial⟩
theorem Sf_canEdit_I (S : Nat → Nat → Int32) (i : Int32) : Sf_Sight_canEdit S i := ⟨nar01 (T_isIn_01 _ _ _), trivial⟩
theorem Sf_canRead_I (S : Nat → Nat → Int32) (i f : Int32) : Sf_Sight_canRead S i f := ⟨nar01 (T_isIn_01 _ _ _), trivial⟩
def vSeeO (E : Nat → Nat → Int32) (w : zWd) (p : Nat) (i : Int32) : Bool := match vItem i with | some k => vSee E w p k | none => false
theorem Sight_sees_I {E V : Nat → Nat → Int32} {w : zWd} {p : Nat} (h : zSt E w p 30 V) (i : Int32) : F_Sight_sees V i = if vSeeO E w p i = true then 1 else 0 := by
  unfold F_Sight_sees vSeeO
  rw [T_isIn_any V (fun q hq => (h.hi hq).1) i]
  unfold vItem
  split
  · rename_i k hk
    split at hk
    · cases hk
      rename_i hh
      have := i_clamp hh.1
      rw [h.seen (by omega)]
    · cases hk
  · rfl
theorem Sight_canEdit_I {E V : Nat → Nat → Int32} {w : zWd} {p i : Nat} (h : zSt E w p 30 V) (hi : i < 30) : F_Sight_canEdit V (zI i) = if vEdit E w p i = true then 1 else 0 := by
  unfold F_Sight_canEdit
  rw [T_isIn_I V (by omega), h.edit hi]
theorem Sight_canRead_I {E V : Nat → Nat → Int32} {w : zWd} {p i f : Nat} (h : zSt E w p 30 V) (hi : i < 30) (hf : f < 4) : F_Sight_canRead V (zI i) (zI f) = if vRead E w p i f = true then 1 else 0 := by
  unfold F_Sight_canRead
  rw [zAt_I hf (by omega), T_isIn_I V (by omega), h.read hi hf]
/-! the reference's -/
def eY (E U : Nat → Nat → Int32) : Prop := (∀ k, k < 3 → U 124 k = E 37 k ∧ U 125 k = E 38 k ∧ U 126 k = E 39 k ∧ U 128 k = E 44 k ∧ U 129 k = E 45 k ∧ U 130 k = E 46 k) ∧ ∀ k, k < 4 → U 127 k = E 40 k
theorem M_hasField_J {b : Nat} {E U : Nat → Nat → Int32} {w : zWd} (hE : ∀ k, k < 3 → U 128 k = E 44 k) (hC : zWM b U w) (hg : zRg w) {i f : Nat} (hi : i < 30) (hw : w.1 i = true) (hf : f < 3) : F_M_hasField b U (zI i) (zI f) = (if eH E (wC w i 9) f = true then 1 else 0) ∧ Sf_M_hasField b U (zI i) (zI f) := by
  obtain ⟨k, hk, ek⟩ := hg.kind hi hw
  have e2 : U (b + 2) i = zI k := (hC.cell hi (show 9 < 10 by omega) hw).trans ek
  unfold F_M_hasField Sf_M_hasField eH
  rw [zI_clamp (show i < 2147483648 by omega), e2, ek, zI_clamp (show k < 2147483648 by omega), hE k hk]
  refine ⟨?_, vp_in_I hi (by omega), vp_in_I hk (by omega), trivial⟩
  by_cases hb : zB (E 44 k) f = true
  · rw [if_pos hb, if_pos ((zB_shr (by omega)).mpr hb)]
  · rw [if_neg hb, if_neg (fun e => hb ((zB_shr (by omega)).mp e))]
theorem M_valueOf_J {b : Nat} {E U : Nat → Nat → Int32} {w : zWd} (hE : ∀ k, k < 3 → U 128 k = E 44 k) (hC : zWM b U w) (hg : zRg w) {i f : Nat} (hi : i < 30) (hw : w.1 i = true) (hf : f < 3) : F_M_valueOf b U (zI i) (zI f) = (if eH E (wC w i 9) f = true then wC w i (1 + f) else -1) ∧ Sf_M_valueOf b U (zI i) (zI f) := by
  obtain ⟨h1, h2⟩ := M_hasField_J hE hC hg hi hw hf
  have e1 : (3 : Int32) * zI i + zI f = zI (3 * i + f) := by rw [show (3 : Int32) = zI 3 from rfl, zI_mul, zI_add]
  have e4 : U (b + 4) (3 * i + f) = wC w i (1 + f) := by
    rw [← hC.cell hi (show 1 + f < 10 by omega) hw]
    unfold zMC zMJ
    rw [if_neg (by omega), if_pos (by omega), if_neg (by omega), if_pos (by omega)]
    congr 1; omega
  unfold F_M_valueOf Sf_M_valueOf
  rw [h1, e1, zI_clamp (show 3 * i + f < 2147483648 by omega), e4]
  cases eH E (wC w i 9) f
  · exact ⟨by simp, h2, by simp⟩
  · refine ⟨by simp, h2, ?_⟩
    simp only [if_true, if_neg (show ¬ ((1 : Int32) = 0) by decide)]
    exact ⟨vp_in_I (by omega) (by omega), trivial⟩
theorem M_rolesOf_I {b : Nat} {U : Nat → Nat → Int32} {w : zWd} (hC : zWM b U w) {p k : Nat} (hp : p < 8) (hk : k < 3) : F_M_rolesOf b U (zI p) (zI k) = w.2.2.2 (3 * p + k) ∧ Sf_M_rolesOf b U (zI p) (zI k) := by
  have e1 : (3 : Int32) * zI p + zI k = zI (3 * p + k) := by rw [show (3 : Int32) = zI 3 from rfl, zI_mul, zI_add]
  unfold F_M_rolesOf Sf_M_rolesOf
  rw [e1, zI_clamp (show 3 * p + k < 2147483648 by omega), hC.role _ (by omega)]
  exact ⟨rfl, vp_in_I (by omega) (by omega), trivial⟩
theorem M_sees_I {b : Nat} {E U : Nat → Nat → Int32} {w : zWd} (hE : eY E U) (hC : zWM b U w) (hg : zRg w) {p i : Nat} (hp : p < 8) (hi : i < 30) : F_M_sees b U (zI p) (zI i) = (if vSee E w p i = true then 1 else 0) ∧ Sf_M_sees b U (zI p) (zI i) := by
  have n1 : ¬ zI i = -1 := by
    intro q
    have := congrArg Int32.toInt q
    rw [zI_toInt (by omega)] at this
    have e1 : (-1 : Int32).toInt = -1 := rfl
    omega
  have n2 : ¬ (30 : Int32) ≤ zI i := by rw [show (30 : Int32) = zI 30 from rfl, zI_le (by omega) (by omega)]; omega
  have vi : vp_in (zI i) 30 := vp_in_I hi (by omega)
  unfold F_M_sees Sf_M_sees vSee
  simp only [if_neg n1, if_neg n2, if_neg (zI_n0 (show i < 2147483648 by omega)), zI_clamp (show i < 2147483648 by omega), hC.has i hi]
  by_cases hw : w.1 i = true
  · obtain ⟨l, hl, el⟩ := hg.level hi hw
    obtain ⟨k, hk, ek⟩ := hg.project hi hw
    have c1 : U (b + 1) i = zI k := (hC.cell hi (show 8 < 10 by omega) hw).trans ek
    have c7 : U (b + 7) i = zI l := (hC.cell hi (show 6 < 10 by omega) hw).trans el
    obtain ⟨r1, r2⟩ := M_rolesOf_I hC hp hk
    have eR : vR w p i = w.2.2.2 (3 * p + k) := by unfold vR; rw [ek, zI_clamp (by omega)]
    simp only [hw, if_true, if_neg (show ¬ ((1 : Int32) = 0) by decide), c1, c7, r1, zI_clamp (show k < 2147483648 by omega), zI_clamp (show l < 2147483648 by omega), (hE.1 k hk).1, (hE.1 l hl).2.2.1, el, ek, ← eR]
    have vk : vp_in (zI k) 3 := vp_in_I hk (by omega)
    have vl : vp_in (zI l) 3 := vp_in_I hl (by omega)
    by_cases q1 : vR w p i &&& E 37 k = 0
    · simp only [q1, if_true, decide_true]
      exact ⟨by simp, vi, vi, r2, vi, vk, trivial⟩
    · simp only [q1, if_false, decide_false]
      by_cases q2 : zI l = 0
      · simp only [q2, if_true, decide_true]
        exact ⟨by simp, vi, vi, r2, vi, vk, vi, trivial⟩
      · simp only [q2, if_false, decide_false]
        by_cases q3 : vR w p i &&& E 39 l = 0
        · simp only [q3, if_true, decide_true]
          exact ⟨by simp, vi, vi, r2, vi, vk, vi, vi, vl, trivial⟩
        · simp only [q3, if_false, decide_false]
          exact ⟨by simp, vi, vi, r2, vi, vk, vi, vi, vl, trivial⟩
  · have hw' : w.1 i = false := by simpa using hw
    simp only [hw', Bool.false_eq_true, if_false, if_true]
    exact ⟨by simp, vi, trivial⟩
theorem M_sees_O {b : Nat} {E U : Nat → Nat → Int32} {w : zWd} (hE : eY E U) (hC : zWM b U w) (hg : zRg w) {p : Nat} (hp : p < 8) (i : Int32) : F_M_sees b U (zI p) i = (if vSeeO E w p i = true then 1 else 0) ∧ Sf_M_sees b U (zI p) i := by
  unfold vSeeO vItem
  by_cases h : 0 ≤ i.toInt ∧ i.toInt < 30
  · rw [if_pos h]
    have := i_clamp h.1
    obtain ⟨h1, h2⟩ := M_sees_I (E := E) hE hC hg hp (i := i.toNatClampNeg) (by omega)
    rw [← zI_of h.1] at h1 h2
    exact ⟨h1, h2⟩
  · rw [if_neg h]
    unfold F_M_sees Sf_M_sees
    by_cases q1 : i = -1
    · simp [q1]
    · rw [if_neg q1, if_neg q1]
      by_cases q2 : (30 : Int32) ≤ i
      · simp [q2]
      · rw [if_neg q2, if_neg q2]
        have q3 : i < 0 := by
          rw [T_lt]; rw [T_le] at q2
          have e0 : (0 : Int32).toInt = 0 := rfl
          have e3 : (30 : Int32).toInt = 30 := rfl
          omega
        simp [q3]
theorem vSee_there {E : Nat → Nat → Int32} {w : zWd} {p i : Nat} (h : vSee E w p i = true) : w.1 i = true := by
  unfold vSee at h
  exact (Bool.and_eq_true_iff.mp h).1
theorem M_edits_I {b : Nat} {E U : Nat → Nat → Int32} {w : zWd} (hE : eY E U) (hC : zWM b U w) (hg : zRg w) {p i : Nat} (hp : p < 8) (hi : i < 30) : F_M_edits b U (zI p) (zI i) = (if vEdit E w p i = true then 1 else 0) ∧ Sf_M_edits b U (zI p) (zI i) := by
  obtain ⟨s1, s2⟩ := M_sees_I hE hC hg hp hi
  have vi : vp_in (zI i) 30 := vp_in_I hi (by omega)
  unfold F_M_edits Sf_M_edits F_M_edits_j41 vEdit
  rw [s1]
  by_cases q : vSee E w p i = true
  · have hw := vSee_there q
    obtain ⟨k, hk, ek⟩ := hg.project hi hw
    have c1 : U (b + 1) i = zI k := (hC.cell hi (show 8 < 10 by omega) hw).trans ek
    obtain ⟨r1, r2⟩ := M_rolesOf_I hC hp hk
    have eR : vR w p i = w.2.2.2 (3 * p + k) := by unfold vR; rw [ek, zI_clamp (by omega)]
    have vk : vp_in (zI k) 3 := vp_in_I hk (by omega)
    simp only [q, if_true, if_neg (show ¬ ((1 : Int32) = 0) by decide), zI_clamp (show i < 2147483648 by omega), c1, r1, zI_clamp (show k < 2147483648 by omega), (hE.1 k hk).2.1, ek, ← eR]
    refine ⟨?_, s2, vi, r2, vi, vk, trivial⟩
    by_cases q1 : vR w p i &&& E 38 k = 0 <;> simp [q1]
  · have q' : vSee E w p i = false := by simpa using q
    simp only [q', Bool.false_eq_true, if_false, if_true, Bool.false_and]
    exact ⟨trivial, s2, trivial⟩
theorem M_readsIt_I {b : Nat} {E U : Nat → Nat → Int32} {w : zWd} (hE : eY E U) (hC : zWM b U w) (hg : zRg w) {p i f : Nat} (hp : p < 8) (hi : i < 30) (hf : f < 4) : F_M_readsIt b U (zI p) (zI i) (zI f) = (if vRead E w p i f = true then 1 else 0) ∧ Sf_M_readsIt b U (zI p) (zI i) (zI f) := by
  obtain ⟨s1, s2⟩ := M_sees_I hE hC hg hp hi
  have vi : vp_in (zI i) 30 := vp_in_I hi (by omega)
  unfold F_M_readsIt Sf_M_readsIt F_M_readsIt_j37 vRead
  rw [s1]
  by_cases q : vSee E w p i = true
  · have hw := vSee_there q
    obtain ⟨k, hk, ek⟩ := hg.project hi hw
    have c1 : U (b + 1) i = zI k := (hC.cell hi (show 8 < 10 by omega) hw).trans ek
    obtain ⟨r1, r2⟩ := M_rolesOf_I hC hp hk
    have eR : vR w p i = w.2.2.2 (3 * p + k) := by unfold vR; rw [ek, zI_clamp (by omega)]
    simp only [q, if_true, if_neg (show ¬ ((1 : Int32) = 0) by decide), zI_clamp (show i < 2147483648 by omega), c1, r1, zI_clamp (show f < 2147483648 by omega), hE.2 f hf, ← eR]
    refine ⟨?_, s2, vi, r2, vp_in_I hf (by omega), trivial⟩
    by_cases q1 : vR w p i &&& E 40 f = 0 <;> simp [q1]
  · have q' : vSee E w p i = false := by simpa using q
    simp only [q', Bool.false_eq_true, if_false, if_true, Bool.false_and]
    exact ⟨trivial, s2, trivial⟩
