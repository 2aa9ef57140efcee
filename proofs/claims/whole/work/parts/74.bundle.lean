/-! PURE: what a call about items starts from -/
def zB0 (fl : Nat → Nat) (S : Nat → Nat → Int32) (d : Nat) (A : zA) (rn : Nat) : Prop :=
  (zCA S ∧ zCK S ∧ eK S) ∧ (zRuOk S rn ∧ S 78 31 = zI rn) ∧ (zFl fl ∧ ∀ k, k < 3 → S (fl k) 0 = S 55 k) ∧ (S 0 14 = zI d ∧ S 78 1 = zI d) ∧ (zOk d A ∧ A.2.1 ≤ 800) ∧ zRC S A ∧ zRM 86 S A
def zBM (fl : Nat → Nat) (E U : Nat → Nat → Int32) (d : Nat) (A : zA) (rn : Nat) : Prop :=
  (eY E U ∧ eK E ∧ eM E fl U) ∧ (zRuOk E rn ∧ E 78 31 = zI rn) ∧ zFl fl ∧ U 78 1 = zI d ∧ (zOk d A ∧ A.2.1 ≤ 800) ∧ zRM 86 U A
theorem zB0.ca {fl : Nat → Nat} {S : Nat → Nat → Int32} {d : Nat} {A : zA} {rn : Nat} (h : zB0 fl S d A rn) : zCA S := h.1.1
theorem zB0.ck {fl : Nat → Nat} {S : Nat → Nat → Int32} {d : Nat} {A : zA} {rn : Nat} (h : zB0 fl S d A rn) : zCK S := h.1.2.1
theorem zB0.k {fl : Nat → Nat} {S : Nat → Nat → Int32} {d : Nat} {A : zA} {rn : Nat} (h : zB0 fl S d A rn) : eK S := h.1.2.2
theorem zB0.ru {fl : Nat → Nat} {S : Nat → Nat → Int32} {d : Nat} {A : zA} {rn : Nat} (h : zB0 fl S d A rn) : zRuOk S rn := h.2.1.1
theorem zB0.d {fl : Nat → Nat} {S : Nat → Nat → Int32} {d : Nat} {A : zA} {rn : Nat} (h : zB0 fl S d A rn) : S 0 14 = zI d := h.2.2.2.1.1
theorem zB0.ok {fl : Nat → Nat} {S : Nat → Nat → Int32} {d : Nat} {A : zA} {rn : Nat} (h : zB0 fl S d A rn) : zOk d A := h.2.2.2.2.1.1
theorem zB0.n {fl : Nat → Nat} {S : Nat → Nat → Int32} {d : Nat} {A : zA} {rn : Nat} (h : zB0 fl S d A rn) : A.2.1 ≤ 800 := h.2.2.2.2.1.2
theorem zB0.c {fl : Nat → Nat} {S : Nat → Nat → Int32} {d : Nat} {A : zA} {rn : Nat} (h : zB0 fl S d A rn) : zRC S A := h.2.2.2.2.2.1
theorem zB0.m {fl : Nat → Nat} {S : Nat → Nat → Int32} {d : Nat} {A : zA} {rn : Nat} (h : zB0 fl S d A rn) : zRM 86 S A := h.2.2.2.2.2.2
theorem zBM.y {fl : Nat → Nat} {E U : Nat → Nat → Int32} {d : Nat} {A : zA} {rn : Nat} (h : zBM fl E U d A rn) : eY E U := h.1.1
theorem zBM.k {fl : Nat → Nat} {E U : Nat → Nat → Int32} {d : Nat} {A : zA} {rn : Nat} (h : zBM fl E U d A rn) : eK E := h.1.2.1
theorem zBM.e {fl : Nat → Nat} {E U : Nat → Nat → Int32} {d : Nat} {A : zA} {rn : Nat} (h : zBM fl E U d A rn) : eM E fl U := h.1.2.2
theorem zBM.ru {fl : Nat → Nat} {E U : Nat → Nat → Int32} {d : Nat} {A : zA} {rn : Nat} (h : zBM fl E U d A rn) : zRuOk E rn := h.2.1.1
theorem zBM.ru2 {fl : Nat → Nat} {E U : Nat → Nat → Int32} {d : Nat} {A : zA} {rn : Nat} (h : zBM fl E U d A rn) : E 78 31 = zI rn := h.2.1.2
theorem zBM.fl {fl : Nat → Nat} {E U : Nat → Nat → Int32} {d : Nat} {A : zA} {rn : Nat} (h : zBM fl E U d A rn) : zFl fl := h.2.2.1
theorem zBM.d {fl : Nat → Nat} {E U : Nat → Nat → Int32} {d : Nat} {A : zA} {rn : Nat} (h : zBM fl E U d A rn) : U 78 1 = zI d := h.2.2.2.1
theorem zBM.ok {fl : Nat → Nat} {E U : Nat → Nat → Int32} {d : Nat} {A : zA} {rn : Nat} (h : zBM fl E U d A rn) : zOk d A := h.2.2.2.2.1.1
theorem zBM.n {fl : Nat → Nat} {E U : Nat → Nat → Int32} {d : Nat} {A : zA} {rn : Nat} (h : zBM fl E U d A rn) : A.2.1 ≤ 800 := h.2.2.2.2.1.2
theorem zBM.m {fl : Nat → Nat} {E U : Nat → Nat → Int32} {d : Nat} {A : zA} {rn : Nat} (h : zBM fl E U d A rn) : zRM 86 U A := h.2.2.2.2.2
theorem zRM.ag {b : Nat} {U V : Nat → Nat → Int32} {A : zA} (h : zRM b U A) (hb : 86 ≤ b) (e1 : V 78 2 = U 78 2) (e2 : ∀ k, 79 ≤ k ∧ k ≤ 85 ∨ b ≤ k ∧ k ≤ b + 11 → V k = U k) : zRM b V A := ⟨h.1.ag e1 (fun k h1 h2 => e2 k (by omega)), h.2.1.ag (fun k h1 h2 => e2 k (by omega)), by rw [e2 b (by omega)]; exact h.2.2⟩
theorem zRC.ag {S V : Nat → Nat → Int32} {A : zA} (h : zRC S A) (e1 : V 1 7 = S 1 7) (e2 : ∀ k, 2 ≤ k ∧ k ≤ 12 → V k = S k) : zRC V A := ⟨h.1.ag e1 (fun k h1 h2 => e2 k (by omega)), h.2.ag (by rw [e2 9 (by omega)]) (e2 _ (by omega)) (e2 _ (by omega)) (e2 _ (by omega))⟩
/-- the class writes its own cells, and the answer -/
def zFX (S V : Nat → Nat → Int32) : Prop := ∀ k, 78 ≤ k → k ≠ 193 → V k = S k
theorem zFX.rfl {S : Nat → Nat → Int32} : zFX S S := fun _ _ _ => Eq.refl _
theorem zFX.trans {S V W : Nat → Nat → Int32} (h : zFX S V) (g : zFX V W) : zFX S W := fun k h1 h2 => (g k h1 h2).trans (h k h1 h2)
theorem zFS.x {S V : Nat → Nat → Int32} (h : zFS S V) : zFX S V := fun k h1 _ => h.1 k (by omega)
theorem zFL.x {S V : Nat → Nat → Int32} (h : zFL S V) : zFX S V := fun k h1 _ => h.1 k (by omega) (by omega) (by omega)
theorem zFX.out (S : Nat → Nat → Int32) (x : Int32) : zFX S (z_uS S 193 0 x) := fun k _ h2 => z_uS_ne _ _ _ h2
theorem zB0.bm {fl : Nat → Nat} {S V : Nat → Nat → Int32} {d : Nat} {A : zA} {rn : Nat} (h : zB0 fl S d A rn) (g : zFX S V) : zBM fl S V d A rn := by
  obtain ⟨⟨h1, h2, h3⟩, ⟨h4, h5⟩, ⟨h6, h7⟩, ⟨h8, h9⟩, h10, h11, h12⟩ := h
  refine ⟨⟨⟨fun k hk => ⟨?_, ?_, ?_, ?_, ?_, ?_⟩, fun k hk => ?_⟩, h3, ⟨fun k hk => ?_, fun k hk => ?_, fun k hk => g k (by omega) (by omega), by rw [g 78 (by omega) (by omega)]⟩⟩, ⟨h4, h5⟩, h6, by rw [g 78 (by omega) (by omega)]; exact h9, h10, h12.ag (by omega) (by rw [g 78 (by omega) (by omega)]) (fun k hk => g k (by omega) (by omega))⟩
  · rw [g 124 (by omega) (by omega)]; exact (h1.see k hk).symm
  · rw [g 125 (by omega) (by omega)]; exact (h1.edit k hk).symm
  · rw [g 126 (by omega) (by omega)]; exact (h1.clr k hk).symm
  · rw [g 128 (by omega) (by omega)]; exact (h2.fields k hk).symm
  · rw [g 129 (by omega) (by omega)]; exact (h2.ways k hk).symm
  · rw [g 130 (by omega) (by omega)]; exact (h2.overs k hk).symm
  · rw [g 127 (by omega) (by omega)]; exact (h1.read k hk).symm
  · rw [g 128 (by omega) (by omega)]; exact (h2.fields k hk).symm
  · have := h6.lo hk
    have := h6.off hk
    rw [g (fl k) (by omega) (by omega)]; exact h7 k hk
theorem zBM.thr {fl : Nat → Nat} {E U : Nat → Nat → Int32} {d : Nat} {A : zA} {rn : Nat} (h : zBM fl E U d A rn) (x : Int32) : zBM fl E (z_uS U 78 0 x) d A rn := by
  obtain ⟨⟨⟨h1, h1'⟩, h2, ⟨h3, h4, h5, h6⟩⟩, h7, h8, h9, h10, h11⟩ := h
  have e : ∀ k, k ≠ 78 → z_uS U 78 0 x k = U k := fun k hk => z_uS_ne _ _ _ hk
  refine ⟨⟨⟨fun k hk => by rw [e 124 (by omega), e 125 (by omega), e 126 (by omega), e 128 (by omega), e 129 (by omega), e 130 (by omega)]; exact h1 k hk, fun k hk => by rw [e 127 (by omega)]; exact h1' k hk⟩, h2, ⟨fun k hk => by rw [e 128 (by omega)]; exact h3 k hk, fun k hk => ?_, fun k hk => by rw [e k (by omega)]; exact h5 k hk, by rw [uS_nj _ _ _ (by omega)]; exact h6⟩⟩, h7, h8, by rw [uS_nj _ _ _ (by omega)]; exact h9, h10, h11.ag (by omega) (uS_nj _ _ _ (by omega)) (fun k hk => e k (by omega))⟩
  have := h8.lo hk
  rw [e _ (by omega)]; exact h4 k hk
/-! who is seen -/
def vPer (p : Int32) : Option Nat := if 0 ≤ p.toInt ∧ p.toInt < 8 then some p.toNatClampNeg else none
theorem vPer_cases (p : Int32) : (∃ q, q < 8 ∧ p = zI q) ∨ ¬ (0 ≤ p.toInt ∧ p.toInt < 8) := by
  by_cases h : 0 ≤ p.toInt ∧ p.toInt < 8
  · exact Or.inl (zI_ex h.1 (by show _ < ((8 : Nat) : Int); omega) (by omega))
  · exact Or.inr h
theorem vSeeO_cases {E : Nat → Nat → Int32} {w : zWd} {p : Nat} {i : Int32} (h : vSeeO E w p i = true) : ∃ k, k < 30 ∧ i = zI k ∧ vSee E w p k = true := by
  unfold vSeeO vItem at h
  by_cases q : 0 ≤ i.toInt ∧ i.toInt < 30
  · rw [if_pos q] at h
    have := i_clamp q.1
    exact ⟨i.toNatClampNeg, by omega, zI_of q.1, h⟩
  · rw [if_neg q] at h
    cases h
theorem vSeeO_I {E : Nat → Nat → Int32} {w : zWd} {p k : Nat} (hk : k < 30) : vSeeO E w p (zI k) = vSee E w p k := by
  unfold vSeeO vItem
  rw [if_pos ⟨by rw [zI_toInt (by omega)]; omega, by rw [zI_toInt (by omega)]; omega⟩, zI_clamp (by omega)]
theorem T_isPerson_I (S : Nat → Nat → Int32) {q : Nat} (h : q < 8) : F_T_isPerson S (zI q) = 1 := by
  rw [T_isPerson_eq, if_pos]; rw [zI_toInt (by omega)]; omega
theorem M_isPerson_I (S : Nat → Nat → Int32) (p : Int32) : F_M_isPerson S p = (if 0 ≤ p.toInt ∧ p.toInt < 8 then 1 else 0) ∧ Sf_M_isPerson S p := by
  unfold F_M_isPerson Sf_M_isPerson
  rw [M_isIn_eq]
  have e0 : (0 : Int32).toInt = 0 := rfl
  have e7 : (7 : Int32).toInt = 7 := rfl
  rw [e0, e7]
  by_cases h : 0 ≤ p.toInt ∧ p.toInt < 8
  · rw [if_pos h, if_pos (by omega)]; exact ⟨rfl, rfl, trivial⟩
  · rw [if_neg h, if_neg (by omega)]; exact ⟨rfl, rfl, trivial⟩
/-- looked at the live world -/
theorem T_isSeen_I {S : Nat → Nat → Int32} {E : Nat → Nat → Int32} {A : zA} {d : Nat} (hE : eV E S) (hC : zRC S A) (hA : zOk d A) {p : Nat} (hp : p < 8) (i : Int32) :
    ∃ V, F_T_isSeen S (zI p) i = (if vSeeO E A.2.2 p i = true then 1 else 0, V) ∧ Sf_T_isSeen S (zI p) i ∧ zFL S V ∧ zSt E A.2.2 p 30 V ∧ zRC V A := by
  obtain ⟨V, v1, v2, v3, v4⟩ := Sight_look_I (r := 9) (by omega) hE hC.2 hA.rg hp
  unfold F_T_isSeen Sf_T_isSeen
  simp only [z_let, v1]
  refine ⟨V, by rw [Sight_sees_I v4 i], ⟨v2, Sf_sees_I _ _, ?_, trivial⟩, v3, v4, hC.ag (by rw [v3.1 1 (by omega) (by omega) (by omega)]) (fun k hk => v3.1 k (by omega) (by omega) (by omega))⟩
  rw [Sight_sees_I v4 i]
  cases vSeeO E A.2.2 p i <;> rfl
theorem M_isSeen_I {fl : Nat → Nat} {E U : Nat → Nat → Int32} {A : zA} {d rn : Nat} (h : zBM fl E U d A rn) (p i : Int32) :
    F_M_isSeen U p i = (match vPer p with | some q => if vSeeO E A.2.2 q i = true then 1 else 0 | none => 0) ∧ Sf_M_isSeen U p i := by
  obtain ⟨p1, p2⟩ := M_isPerson_I U p
  unfold F_M_isSeen Sf_M_isSeen F_M_isSeen_j41 vPer
  rw [p1]
  by_cases hp : 0 ≤ p.toInt ∧ p.toInt < 8
  · simp only [if_pos hp]
    have := i_clamp hp.1
    have ep := zI_of hp.1
    show _ = (if vSeeO E A.2.2 p.toNatClampNeg i = true then (1 : Int32) else 0) ∧ _
    generalize hq : p.toNatClampNeg = q at *
    have hq8 : q < 8 := by omega
    rw [ep] at p2 ⊢
    obtain ⟨s1, s2⟩ := M_sees_O h.y h.m.2.1 h.ok.rg hq8 i
    rw [M_isIn_eq, s1]
    have e0 : (0 : Int32).toInt = 0 := rfl
    have ec : (U 86 0 - 1).toInt = (zCnt A.1 A.2.1 : Int) - 1 := by
      have hc := h.ok.cnt
      rw [h.m.2.2]
      rw [i_sub (by rw [zI_toInt (by omega)]; show _ ≤ _ - (1 : Int); omega) (by rw [zI_toInt (by omega)]; show _ - (1 : Int) < _; omega), zI_toInt (by omega)]
      rfl
    rw [e0, ec]
    simp only [if_neg (show ¬ ((1 : Int32) = 0) by decide)]
    by_cases q1 : 0 ≤ i.toInt ∧ i.toInt ≤ (zCnt A.1 A.2.1 : Int) - 1
    · rw [if_pos q1]
      simp only [if_neg (show ¬ ((1 : Int32) = 0) by decide)]
      refine ⟨?_, p2, s2, trivial⟩
      cases vSeeO E A.2.2 q i <;> simp
    · rw [if_neg q1]
      simp only [if_true]
      refine ⟨?_, p2, trivial⟩
      cases hs : vSeeO E A.2.2 q i
      · simp
      · exfalso
        obtain ⟨k, hk, ek, hsee⟩ := vSeeO_cases hs
        have := vSee_there hsee
        rw [h.ok.there k hk] at this
        have := of_decide_eq_true this
        rw [ek, zI_toInt (by omega)] at q1
        omega
  · simp only [if_neg hp, if_true]
    exact ⟨trivial, p2, trivial⟩
/-! what item calls write, and what they end with -/
def zWI : List zLoc := [(1, some 7), (2, none), (3, none), (4, none), (5, none), (6, none), (7, none), (8, none), (9, none), (10, none), (11, none), (12, none), (13, none), (14, none), (15, none), (16, none), (36, some 8), (36, some 9), (41, none), (42, none), (78, some 0), (78, some 2), (79, none), (80, none), (81, none), (82, none), (83, none), (84, none), (85, none), (86, none), (87, none), (88, none), (89, none), (90, none), (91, none), (92, none), (93, none), (94, none), (95, none), (96, none), (97, none), (110, none), (111, none), (112, none), (113, none), (114, none), (115, none), (116, none), (117, none), (118, none), (119, none), (120, none), (121, none), (192, none), (193, none)]
theorem zWI_in : ∀ k, 2 ≤ k ∧ k ≤ 16 ∨ 41 ≤ k ∧ k ≤ 42 ∨ 79 ≤ k ∧ k ≤ 97 ∨ 110 ≤ k ∧ k ≤ 121 ∨ 192 ≤ k ∧ k ≤ 193 → ((k, none) : zLoc) ∈ zWI := by
  intro k hk
  have : ∀ k, k < 194 → (2 ≤ k ∧ k ≤ 16 ∨ 41 ≤ k ∧ k ≤ 42 ∨ 79 ≤ k ∧ k ≤ 97 ∨ 110 ≤ k ∧ k ≤ 121 ∨ 192 ≤ k ∧ k ≤ 193) → ((k, none) : zLoc) ∈ zWI := by decide +kernel
  exact this k (by omega) hk
theorem zWI_fr {S V : Nat → Nat → Int32} (h1 : ∀ k, ¬ (1 ≤ k ∧ k ≤ 16 ∨ k = 36 ∨ 41 ≤ k ∧ k ≤ 42 ∨ 78 ≤ k ∧ k ≤ 97 ∨ 110 ≤ k ∧ k ≤ 121 ∨ 192 ≤ k ∧ k ≤ 193) → V k = S k) (h2 : ∀ j, j ≠ 7 → V 1 j = S 1 j) (h3 : ∀ j, j ≠ 8 → j ≠ 9 → V 36 j = S 36 j) (h4 : ∀ j, j ≠ 0 → j ≠ 2 → V 78 j = S 78 j) : zWr zWI S V := by
  intro k j hc
  by_cases q : 1 ≤ k ∧ k ≤ 16 ∨ k = 36 ∨ 41 ≤ k ∧ k ≤ 42 ∨ 78 ≤ k ∧ k ≤ 97 ∨ 110 ≤ k ∧ k ≤ 121 ∨ 192 ≤ k ∧ k ≤ 193
  · by_cases k1 : k = 1
    · subst k1; exact h2 j (zCov.nj hc (a := 1) (s := 7) (by decide) (by omega) rfl)
    by_cases k36 : k = 36
    · subst k36; exact h3 j (zCov.nj hc (a := 36) (s := 8) (by decide) (by omega) rfl) (zCov.nj hc (a := 36) (s := 9) (by decide) (by omega) rfl)
    by_cases k78 : k = 78
    · subst k78; exact h4 j (zCov.nj hc (a := 78) (s := 0) (by decide) (by omega) rfl) (zCov.nj hc (a := 78) (s := 2) (by decide) (by omega) rfl)
    · exact absurd rfl (zCov.ne hc (zWI_in k (by omega)) (by omega))
  · rw [h1 k q]
/-- as many items as there were, and the entries that were there; states that their workflows have -/
def zSo (E : Nat → Nat → Int32) (w : zWd) : Prop := ∀ i, i < 30 → w.1 i = true → eS E (wC w i 9) (wC w i 0) = true
def zSoM (S : Nat → Nat → Int32) : Prop := ∀ i, i < 30 → zB (S 9 3) i = true → eS S (S 10 (10 * i + 9)) (S 10 (10 * i)) = true
theorem zRC.so {S : Nat → Nat → Int32} {A : zA} (h : zRC S A) : zSoM S ↔ zSo S A.2.2 := by
  unfold zSoM zSo
  constructor
  · intro g i hi hw
    have := g i hi ((h.2.has i hi).trans hw)
    have e9 : S 10 (10 * i + 9) = wC A.2.2 i 9 := (h.2.col i hi 9 (by omega)).trans (by unfold wC; rw [if_pos hw])
    have e0 : S 10 (10 * i) = wC A.2.2 i 0 := (h.2.col i hi 0 (by omega)).trans (by unfold wC; rw [if_pos hw])
    rw [← e9, ← e0]; exact this
  · intro g i hi hw
    have hw' : A.2.2.1 i = true := (h.2.has i hi).symm.trans hw
    have e9 : S 10 (10 * i + 9) = wC A.2.2 i 9 := (h.2.col i hi 9 (by omega)).trans (by unfold wC; rw [if_pos hw'])
    have e0 : S 10 (10 * i) = wC A.2.2 i 0 := (h.2.col i hi 0 (by omega)).trans (by unfold wC; rw [if_pos hw'])
    rw [e9, e0]; exact g i hi hw'
theorem zSo.same {E : Nat → Nat → Int32} {w w' : zWd} (g : zSo E w) (h : zSame w w') : zSo E w' := by
  intro i hi hw
  have hw' : w.1 i = true := by rw [← h.1 i hi]; exact hw
  have e : ∀ c, c < 10 → wC w' i c = wC w i c := fun c hc => by unfold wC; rw [if_pos hw, if_pos hw', h.2.1 i hi hw' c hc]
  rw [e 9 (by omega), e 0 (by omega)]; exact g i hi hw'
theorem zSo.setC {E : Nat → Nat → Int32} {w : zWd} (g : zSo E w) {i c : Nat} (v : Int32) (hc : c ≠ 0 ∧ c ≠ 9) : zSo E (zSetC w i c v) := by
  intro j hj hw
  have hw' : w.1 j = true := hw
  have e : ∀ q, q ≠ c → wC (zSetC w i c v) j q = wC w j q := fun q hq => by
    unfold wC zSetC
    simp only [hw', if_true]
    rw [if_neg (fun z => hq z.2)]
  rw [e 9 (by omega), e 0 (by omega)]; exact g j hj hw'
theorem zSo.setS {E : Nat → Nat → Int32} {w : zWd} (g : zSo E w) {i : Nat} {v : Int32} (hv : w.1 i = true → eS E (wC w i 9) v = true) : zSo E (zSetC w i 0 v) := by
  intro j hj hw
  have hw' : w.1 j = true := hw
  have e9 : wC (zSetC w i 0 v) j 9 = wC w j 9 := by
    unfold wC zSetC
    simp only [hw', if_true]
    rw [if_neg (fun z => by have := z.2; omega)]
  by_cases q : j = i
  · have e0 : wC (zSetC w i 0 v) j 0 = v := by
      unfold wC zSetC
      simp only [hw', if_true]
      rw [if_pos ⟨q, trivial⟩]
    rw [e9, e0, q]; rw [q] at hw'; exact hv hw'
  · have e0 : wC (zSetC w i 0 v) j 0 = wC w j 0 := by
      unfold wC zSetC
      simp only [hw', if_true]
      rw [if_neg (fun z => q z.1)]
    rw [e9, e0]; exact g j hj hw'
theorem zSo.app {E : Nat → Nat → Int32} {w : zWd} (g : zSo E w) {e : zEnt} (he : e.1 = 0 ∨ e.1 = 3) : zSo E (zApp e w) := by
  unfold zApp
  by_cases t0 : e.1 = 0
  · rw [if_pos t0]; exact g
  · rw [if_neg t0, if_neg (by omega), if_neg (by omega)]
    unfold zSetL
    split
    · exact g
    · exact g
theorem zSo.chg {E : Nat → Nat → Int32} {d p i c : Nat} {v : Int32} {A : zA} (g : zSo E A.2.2) (hc : c ≠ 0 ∧ c ≠ 9 := by omega) : zSo E (aC d p i c v A).2.2 := by
  rcases aC_cases (d := d) (p := p) (i := i) (c := c) (v := v) (A := A) with e | e <;> rw [e]
  · exact g
  · exact g.setC v hc
theorem zSo.chS {E : Nat → Nat → Int32} {d p i : Nat} {v : Int32} {A : zA} (g : zSo E A.2.2) (hv : A.2.2.1 i = true → eS E (wC A.2.2 i 9) v = true) : zSo E (aC d p i 0 v A).2.2 := by
  rcases aC_cases (d := d) (p := p) (i := i) (c := 0) (v := v) (A := A) with e | e <;> rw [e]
  · exact g
  · exact g.setS hv
theorem so_act {E : Nat → Nat → Int32} {d p r j : Nat} {A : zA} (g : zSo E A.2.2) (hr : zRule E r) : zSo E (aAct E d p r j A).2.2 := by
  unfold aAct
  by_cases q : aCan E A.2.2 r j = true
  · rw [if_pos q]
    obtain ⟨c, hc, e, -⟩ := hr.col
    rw [e, zI_clamp (show c < 2147483648 by omega)]
    by_cases c0 : c = 0
    · subst c0
      refine g.chS fun _ => ?_
      unfold aCan at q
      rw [if_pos (show E 63 r = 0 from e)] at q
      exact q
    · exact g.chg
  · rw [if_neg q]; exact g
theorem so_L {E : Nat → Nat → Int32} {d p lim r : Nat} {T : Nat → Bool} (hr : zRule E r) : ∀ (n j : Nat) (A : zA), zSo E A.2.2 → zSo E (aL E d p lim r T n j A).2.2 := by
  intro n
  induction n with
  | zero => intro j A g; exact g
  | succ n ih =>
    intro j A g
    unfold aL
    split
    · exact g
    · refine ih _ _ ?_
      split
      · exact so_act g hr
      · exact g
theorem so_wake {E : Nat → Nat → Int32} {d p lim rn : Nat} {fall : Bool} {e : zEnt} (hR : zRuOk E rn) : ∀ (n : Nat) (A : zA), n ≤ rn → zSo E A.2.2 → zSo E (aWake E d p lim rn fall e n A).2.2 := by
  intro n
  induction n with
  | zero => intro A _ g; exact g
  | succ n ih =>
    intro A hn g
    unfold aWake
    refine ih _ (by omega) ?_
    unfold aRule
    exact so_L (hR.2.2 _ (by split <;> omega)) 30 0 A g
theorem so_go {E : Nat → Nat → Int32} {d p lim rn : Nat} {fall : Bool} (hR : zRuOk E rn) : ∀ (f k : Nat) (A : zA), zSo E A.2.2 → zSo E (aGo E d p lim rn fall f k A).2.2 := by
  intro f
  induction f with
  | zero => intro k A g; exact g
  | succ f ih =>
    intro k A g
    unfold aGo
    split
    · exact g
    · exact ih _ _ (so_wake hR rn A (Nat.le_refl _) g)
theorem zSo.back {E : Nat → Nat → Int32} {d d' : Nat} {A X : zA} (g : zSo E A.2.2) (hA : zOk d A) (hX : zOk d' X) (h1 : A.2.1 ≤ X.2.1) (h2 : ∀ i, i < A.2.1 → X.1 i = A.1 i) : zSo E (aBack A.2.1 X).2.2 := by
  have hb := (aBack_ok hX h1).same
  have e : zRep (aBack A.2.1 X).1 (aBack A.2.1 X).2.1 = zRep A.1 A.2.1 := (zRep_eq h2).1
  rw [e] at hb
  exact (g.same hA.same.symm).same hb
def zLp (S : Nat → Nat → Int32) (B : zA) : Prop := ∃ n L, zLgC L n S ∧ n ≤ B.2.1 ∧ ∀ i, i < n → B.1 i = L i
def zPre (S : Nat → Nat → Int32) (B : zA) : Prop := zLp S B ∧ (zSoM S → zSo S B.2.2)
def zCN (S : Nat → Nat → Int32) (B : zA) : Prop := S 86 0 = zI (zCnt B.1 B.2.1) ∧ zPre S B
theorem zB0.cn {fl : Nat → Nat} {S : Nat → Nat → Int32} {d : Nat} {A : zA} {rn : Nat} (h : zB0 fl S d A rn) : zCN S A := ⟨h.m.2.2, ⟨A.2.1, A.1, h.c.1, Nat.le_refl _, fun _ _ => Eq.refl _⟩, h.c.so.mp⟩
theorem zB0.ns {fl : Nat → Nat} {S : Nat → Nat → Int32} {d : Nat} {A : zA} {rn : Nat} (h : zB0 fl S d A rn) : A.2.1 ≤ 800 ∧ zCN S A := ⟨h.n, h.cn⟩
/-- the end of such a call: both hold the same entries -/
def zEnd (S F : Nat → Nat → Int32) (d : Nat) : Prop := zWr zWI S F ∧ ∃ B, zOk d B ∧ B.2.1 ≤ 800 ∧ zRC F B ∧ zRM 86 F B ∧ zCN S B
/-- what the class wrote; what the reference wrote -/
def zFCX (S V : Nat → Nat → Int32) : Prop := (∀ k, ¬ (1 ≤ k ∧ k ≤ 16 ∨ k = 36 ∨ 41 ≤ k ∧ k ≤ 42) → V k = S k) ∧ (∀ j, j ≠ 7 → V 1 j = S 1 j) ∧ ∀ j, j ≠ 8 → j ≠ 9 → V 36 j = S 36 j
def zFMX (U V : Nat → Nat → Int32) : Prop := (∀ k, ¬ (78 ≤ k ∧ k ≤ 97 ∨ 110 ≤ k ∧ k ≤ 121 ∨ k = 192) → V k = U k) ∧ ∀ j, j ≠ 0 → j ≠ 2 → V 78 j = U 78 j
theorem zFCX.rfl {S : Nat → Nat → Int32} : zFCX S S := ⟨fun _ _ => Eq.refl _, fun _ _ => Eq.refl _, fun _ _ _ => Eq.refl _⟩
theorem zFCX.trans {S V W : Nat → Nat → Int32} (h : zFCX S V) (g : zFCX V W) : zFCX S W := ⟨fun k hk => (g.1 k hk).trans (h.1 k hk), fun j hj => (g.2.1 j hj).trans (h.2.1 j hj), fun j h1 h2 => (g.2.2 j h1 h2).trans (h.2.2 j h1 h2)⟩
theorem zFS.cx {S V : Nat → Nat → Int32} (h : zFS S V) : zFCX S V := ⟨fun k hk => h.1 k (by omega), h.2, fun j _ _ => by rw [h.1 36 (by omega)]⟩
theorem zFC.cx {S V : Nat → Nat → Int32} (h : zFC S V) : zFCX S V := h.s.cx
theorem zFL.cx {S V : Nat → Nat → Int32} (h : zFL S V) : zFCX S V := ⟨fun k hk => h.1 k (by omega) (by omega) (by omega), fun j _ => by rw [h.1 1 (by omega) (by omega) (by omega)], h.2⟩
theorem zFCX.x {S V : Nat → Nat → Int32} (h : zFCX S V) : zFX S V := fun k h1 _ => h.1 k (by omega)
theorem zFMX.rfl {S : Nat → Nat → Int32} : zFMX S S := ⟨fun _ _ => Eq.refl _, fun _ _ _ => Eq.refl _⟩
theorem zFMX.trans {S V W : Nat → Nat → Int32} (h : zFMX S V) (g : zFMX V W) : zFMX S W := ⟨fun k hk => (g.1 k hk).trans (h.1 k hk), fun j h1 h2 => (g.2 j h1 h2).trans (h.2 j h1 h2)⟩
theorem zFMX.thr (U : Nat → Nat → Int32) (x : Int32) : zFMX U (z_uS U 78 0 x) := ⟨fun k hk => z_uS_ne _ _ _ (by omega), fun j h1 _ => uS_nj _ _ _ h1⟩
theorem zFT.mx {U V : Nat → Nat → Int32} (h : zFT U V) : zFMX U V := ⟨fun k hk => h.1 k (by omega) (by omega), fun j _ h2 => h.2 j h2⟩
theorem zFM.mx {U V : Nat → Nat → Int32} (h : zFM 86 U V) : zFMX U V := ⟨fun k hk => h.1 k (by omega), fun j _ h2 => h.2.1 j h2⟩
theorem zRC.mx {U V : Nat → Nat → Int32} {A : zA} (h : zRC U A) (g : zFMX U V) : zRC V A := h.ag (by rw [g.1 1 (by omega)]) (fun k hk => g.1 k (by omega))
theorem zRC.out {U : Nat → Nat → Int32} {A : zA} (h : zRC U A) (x : Int32) : zRC (z_uS U 193 0 x) A := h.ag (by rw [z_uS_ne _ _ _ (by omega)]) (fun k hk => z_uS_ne _ _ _ (by omega))
theorem zRM.thr {U : Nat → Nat → Int32} {A : zA} (h : zRM 86 U A) (x : Int32) : zRM 86 (z_uS U 78 0 x) A := h.ag (by omega) (uS_nj _ _ _ (by omega)) (fun k hk => z_uS_ne _ _ _ (by omega))
theorem zEnd_of {S V F : Nat → Nat → Int32} {d : Nat} {B : zA} (hc : zFCX S V ∨ ∃ T x, zFCX S T ∧ V = z_uS T 193 0 x) (hm : zFMX V F) (hB : zOk d B) (hn : B.2.1 ≤ 800 ∧ zCN S B) (h1 : zRC V B) (h2 : zRM 86 F B) : zEnd S F d := by
  refine ⟨?_, B, hB, hn.1, h1.mx hm, h2, hn.2⟩
  have hv : (∀ k, ¬ (1 ≤ k ∧ k ≤ 16 ∨ k = 36 ∨ 41 ≤ k ∧ k ≤ 42 ∨ k = 193) → V k = S k) ∧ (∀ j, j ≠ 7 → V 1 j = S 1 j) ∧ ∀ j, j ≠ 8 → j ≠ 9 → V 36 j = S 36 j := by
    rcases hc with g | ⟨T, x, g, rfl⟩
    · exact ⟨fun k hk => g.1 k (by omega), g.2.1, g.2.2⟩
    · exact ⟨fun k hk => by rw [z_uS_ne _ _ _ (by omega)]; exact g.1 k (by omega), fun j hj => by rw [z_uS_ne _ _ _ (by omega)]; exact g.2.1 j hj, fun j h1 h2 => by rw [z_uS_ne _ _ _ (by omega)]; exact g.2.2 j h1 h2⟩
  refine zWI_fr (fun k hk => ?_) (fun j hj => ?_) (fun j h1 h2 => ?_) (fun j h1 h2 => ?_)
  · rw [hm.1 k (by omega), hv.1 k (by omega)]
  · rw [hm.1 1 (by omega)]; exact hv.2.1 j hj
  · rw [hm.1 36 (by omega)]; exact hv.2.2 j h1 h2
  · rw [hm.2 j h1 h2, hv.1 78 (by omega)]
