/-! PURE: bulk, the end -/
def zQ40 (S : Nat → Nat → Int32) (d m : Nat) (F : Nat → Nat → Int32) : Prop := zWr zW40 S F ∧ ∃ B m', m' ≤ m + 1 ∧ zOk d B ∧ B.2.1 ≤ 800 ∧ zRC F B ∧ zRM 86 F B ∧ zCN S B ∧ zBK F B.2.1 m'
theorem zQ40.of {fl : Nat → Nat} {S F : Nat → Nat → Int32} {d : Nat} {A : zA} {rn m : Nat} (h : zB0 fl S d A rn) (hK : zBK S A.2.1 m) (g : zWr zWF S F) : zQ40 S d m F := by
  have o := fun {k : Nat} => zWF_out g (k := k)
  obtain ⟨g1, g2, g3, g4, g5⟩ := zWF_78 g
  refine ⟨g.mono zW40_f, A, m, by omega, h.ok, h.n, h.c.ag (by rw [o (k := 1) (by omega)]) (fun k hk => o (by omega)), h.m.ag (by omega) g2 (fun k hk => o (by omega)), h.cn, hK.go (Nat.le_refl _) (by rw [o (k := 71) (by omega)]) g4 (fun k hk => o (by omega)) (fun k _ => by rw [o (k := 4) (by omega), o (k := 5) (by omega), o (k := 7) (by omega), o (k := 8) (by omega)]; exact ⟨Eq.refl _, Eq.refl _, Eq.refl _, Eq.refl _⟩)⟩
/-- a fault, in both -/
theorem bulk_bad {fl : Nat → Nat} {S : Nat → Nat → Int32} {d : Nat} {A : zA} {rn : Nat} (_ : zB0 fl S d A rn) (a1 a2 a3 : Int32) (hb : ¬ (0 ≤ a1.toInt ∧ a1.toInt < 8) ∨ ¬ (0 ≤ a2.toInt ∧ a2.toInt < 3 ∧ -1 ≤ a3.toInt ∧ a3.toInt ≤ 99)) : ∃ E x, (E = "java/lang/IndexOutOfBoundsException" ∧ x = 1 ∨ E = "java/lang/IllegalArgumentException" ∧ x = 2) ∧ F_T_bulk S a1 a2 a3 = (.inl E, S) ∧ Sf_T_bulk S a1 a2 a3 ∧ F_M_bulk fl S a1 a2 a3 = (0, z_uS S 78 0 x) ∧ Sf_M_bulk fl S a1 a2 a3 := by
  obtain ⟨p1, p2⟩ := M_isPerson_I S a1
  have z0 : (0 : Int32).toInt = 0 := rfl
  have z2 : (2 : Int32).toInt = 2 := rfl
  have z99 : (99 : Int32).toInt = 99 := rfl
  have zm : (-1 : Int32).toInt = -1 := rfl
  have k2 : F_M_isIn S a2 0 2 = if 0 ≤ a2.toInt ∧ a2.toInt ≤ 2 then 1 else 0 := by rw [M_isIn_eq, z0, z2]
  have k3 : F_M_isIn S a3 (-1) 99 = if -1 ≤ a3.toInt ∧ a3.toInt ≤ 99 then 1 else 0 := by rw [M_isIn_eq, zm, z99]
  by_cases h1 : 0 ≤ a1.toInt ∧ a1.toInt < 8
  · have h2 := hb.resolve_left (fun z => z h1)
    rw [if_pos h1] at p1
    refine ⟨"java/lang/IllegalArgumentException", 2, Or.inr ⟨rfl, rfl⟩, ?_, ?_, ?_, ?_⟩
    · unfold F_T_bulk; rw [T_isPerson_eq, if_pos h1, if_neg ne_10, T_isField_eq, T_isValue_I]
      by_cases q : 0 ≤ a2.toInt ∧ a2.toInt < 3
      · rw [if_pos q, if_neg ne_10, if_neg (show ¬ (-1 ≤ a3.toInt ∧ a3.toInt ≤ 99) by omega), if_pos (Eq.refl _)]
      · rw [if_neg q, if_pos (Eq.refl _)]
    · unfold Sf_T_bulk; rw [T_isPerson_eq, if_pos h1, if_neg ne_10, T_isField_eq, T_isValue_I]
      by_cases q : 0 ≤ a2.toInt ∧ a2.toInt < 3
      · rw [if_pos q, if_neg ne_10, if_neg (show ¬ (-1 ≤ a3.toInt ∧ a3.toInt ≤ 99) by omega), if_pos (Eq.refl _)]; trivial
      · rw [if_neg q, if_pos (Eq.refl _)]; trivial
    · have j : F_M_bulk_j24 fl S a1 a2 a3 0 = (0, z_uS S 78 0 2) := by
        unfold F_M_bulk_j24; rw [p1, if_neg ne_10, if_pos (Eq.refl _)]; unfold F_M_bulk_j60; rw [if_neg le_20]
      unfold F_M_bulk F_M_bulk_j23; rw [k2, k3, j]
      by_cases q : 0 ≤ a2.toInt ∧ a2.toInt ≤ 2
      · rw [if_pos q, if_neg ne_10, if_neg (show ¬ (-1 ≤ a3.toInt ∧ a3.toInt ≤ 99) by omega), if_pos (Eq.refl _)]
      · rw [if_neg q, if_pos (Eq.refl _)]
    · have j : Sf_M_bulk_j24 fl S a1 a2 a3 0 := by
        unfold Sf_M_bulk_j24; rw [p1, if_neg ne_10, if_pos (Eq.refl _)]; unfold Sf_M_bulk_j60; rw [if_neg le_20]; exact ⟨p2, trivial⟩
      unfold Sf_M_bulk Sf_M_bulk_j23; rw [k2, k3]
      by_cases q : 0 ≤ a2.toInt ∧ a2.toInt ≤ 2
      · rw [if_pos q, if_neg ne_10, if_neg (show ¬ (-1 ≤ a3.toInt ∧ a3.toInt ≤ 99) by omega), if_pos (Eq.refl _)]; exact j
      · rw [if_neg q, if_pos (Eq.refl _)]; exact j
  · rw [if_neg h1] at p1
    refine ⟨"java/lang/IndexOutOfBoundsException", 1, Or.inl ⟨rfl, rfl⟩, ?_, ?_, ?_, ?_⟩
    · unfold F_T_bulk; rw [T_isPerson_eq, if_neg h1, if_pos (Eq.refl _)]
    · unfold Sf_T_bulk; rw [T_isPerson_eq, if_neg h1, if_pos (Eq.refl _)]; trivial
    · have j : ∀ s, F_M_bulk_j24 fl S a1 a2 a3 s = (0, z_uS S 78 0 1) := fun s => by
        unfold F_M_bulk_j24; rw [p1, if_pos (Eq.refl _)]; unfold F_M_bulk_j60; rw [if_neg le_10]
      unfold F_M_bulk F_M_bulk_j23; rw [j, j, ite_self, ite_self]
    · have j : ∀ s, Sf_M_bulk_j24 fl S a1 a2 a3 s := fun s => by
        unfold Sf_M_bulk_j24; rw [p1, if_pos (Eq.refl _)]; unfold Sf_M_bulk_j60; rw [if_neg le_10]; exact ⟨p2, trivial⟩
      unfold Sf_M_bulk Sf_M_bulk_j23
      split
      · exact j 0
      · split
        · exact j 0
        · exact j 1
