/-! PURE: drop -/
/-- one step copied down -/
theorem Flows_remove_L {x1 x3 : Int32} {a b : Nat} (hab : a ≤ b) (hb : b < 8) : ∀ (n i f : Nat) (S : Nat → Nat → Int32), i + n = 6 → n < f →
    ∃ V, F_Flows_remove_L80 x1 x3 (zI a) (zI b) f S (zI i) = V ∧ Sf_Flows_remove_L80 x1 x3 (zI a) (zI b) f S (zI i) ∧ (∀ c, c ≠ 57 → V c = S c) ∧ (∀ j, (j < (24 + a) * 6 + i ∨ (24 + a) * 6 + 6 ≤ j) → V 57 j = S 57 j) ∧ ∀ p, i ≤ p → p < 6 → V 57 ((24 + a) * 6 + p) = S 57 ((24 + b) * 6 + p) := by
  intro n
  induction n with
  | zero =>
    intro i f S hi hf
    obtain ⟨f, rfl⟩ : ∃ g, f = g + 1 := ⟨f - 1, by omega⟩
    have hl : (6 : Int32) ≤ zI i := by rw [show (6 : Int32) = zI 6 from rfl, zI_le (by omega) (by omega)]; omega
    refine ⟨S, ?_, ?_, fun _ _ => rfl, fun _ _ => rfl, fun p h1 h2 => by omega⟩
    · unfold F_Flows_remove_L80; rw [if_pos hl]
    · unfold Sf_Flows_remove_L80; rw [if_pos hl]; trivial
  | succ n ih =>
    intro i f S hi hf
    obtain ⟨f, rfl⟩ : ∃ g, f = g + 1 := ⟨f - 1, by omega⟩
    have hl : ¬ (6 : Int32) ≤ zI i := by rw [show (6 : Int32) = zI 6 from rfl, zI_le (by omega) (by omega)]; omega
    have e : F_Flows_setPart S (zI a) (zI i) (F_Flows_part S 3 (zI b) (zI i)) = z_uS S 57 ((24 + a) * 6 + i) (S 57 ((24 + b) * 6 + i)) := by
      rw [show (3 : Int32) = zI 3 from rfl, Flows_part_I S (by omega) (by omega) (by omega), Flows_setPart_I S (by omega) (by omega)]
    obtain ⟨V, v1, v2, v3, v4, v5⟩ := ih (i + 1) f (z_uS S 57 ((24 + a) * 6 + i) (S 57 ((24 + b) * 6 + i))) (by omega) (by omega)
    refine ⟨V, ?_, ?_, fun c hc => by rw [v3 c hc, z_uS_ne _ _ _ hc], fun j hj => by rw [v4 j (by omega), uS_nj _ _ _ (by omega)], fun p h1 h2 => ?_⟩
    · unfold F_Flows_remove_L80; rw [if_neg hl, e, zI_succ]; exact v1
    · unfold Sf_Flows_remove_L80; rw [if_neg hl, e, zI_succ]; exact v2
    · by_cases hp : p = i
      · subst hp; rw [v4 _ (by omega), uS_at]
      · rw [v5 p (by omega) h2]
        by_cases hab2 : a = b
        · subst hab2; rw [uS_nj _ _ _ (by omega)]
        · rw [uS_nj _ _ _ (by omega)]
/-- both go through the steps, and keep the same ones -/
theorem drop_joint {k : Nat} {x2 : Int32} {c : Nat} (hc : c ≤ 8) : ∀ (n i a f g : Nat) (S U : Nat → Nat → Int32), i + n = c → a ≤ i → n < f → n < g → U 156 1 = zI a →
    (∀ j, (j < a ∨ i ≤ j ∧ j < c) → ∀ p, p < 6 → S 57 ((24 + j) * 6 + p) = U (156 + 1 + p) j) →
    ∃ a' V W, a' ≤ c ∧ F_Flows_remove_L47 (zI k) (zI c) f S (zI a) (zI i) = (zI a', V) ∧ Sf_Flows_remove_L47 (zI k) (zI c) f S (zI a) (zI i) ∧ F_MF_drop_L13 156 (zI k) x2 (zI c) g U (zI i) = W ∧ Sf_MF_drop_L13 156 (zI k) x2 (zI c) g U (zI i) ∧
      (∀ m, m ≠ 57 → V m = S m) ∧ (∀ j, j < 144 → V 57 j = S 57 j) ∧ (∀ m, (m < 156 ∨ 162 < m) → W m = U m) ∧ W 156 0 = U 156 0 ∧ W 156 1 = zI a' ∧ (∀ j, j < a' → ∀ p, p < 6 → V 57 ((24 + j) * 6 + p) = W (156 + 1 + p) j) ∧
      ∀ (P : (Nat → Int32) → Prop), (∀ q q' : Nat → Int32, (∀ p, p < 6 → q' p = q p) → P q → P q') → (∀ j, j < a → P (fun p => S 57 ((24 + j) * 6 + p))) → (∀ j, i ≤ j → j < c → S 57 ((24 + j) * 6) ≠ zI k → S 57 ((24 + j) * 6 + 1) ≠ zI k → P (fun p => S 57 ((24 + j) * 6 + p))) → ∀ j, j < a' → P (fun p => V 57 ((24 + j) * 6 + p)) := by
  intro n
  induction n with
  | zero =>
    intro i a f g S U hi ha hf hg hU hR
    obtain ⟨f, rfl⟩ : ∃ g, f = g + 1 := ⟨f - 1, by omega⟩
    obtain ⟨g, rfl⟩ : ∃ f, g = f + 1 := ⟨g - 1, by omega⟩
    have hl : zI c ≤ zI i := by rw [zI_le (by omega) (by omega)]; omega
    refine ⟨a, S, U, by omega, ?_, ?_, ?_, ?_, fun _ _ => rfl, fun _ _ => rfl, fun _ _ => rfl, rfl, hU, fun j hj p hp => hR j (Or.inl hj) p hp, fun P _ h1 _ => h1⟩
    · unfold F_Flows_remove_L47; rw [if_pos hl]
    · unfold Sf_Flows_remove_L47; rw [if_pos hl]; trivial
    · unfold F_MF_drop_L13; rw [if_pos hl]
    · unfold Sf_MF_drop_L13; rw [if_pos hl]; trivial
  | succ n ih =>
    intro i a f g S U hi ha hf hg hU hR
    obtain ⟨f, rfl⟩ : ∃ g, f = g + 1 := ⟨f - 1, by omega⟩
    obtain ⟨g, rfl⟩ : ∃ f, g = f + 1 := ⟨g - 1, by omega⟩
    have hl : ¬ zI c ≤ zI i := by rw [zI_le (by omega) (by omega)]; omega
    have p0 : F_Flows_part S 3 (zI i) 0 = S 57 ((24 + i) * 6) := Flows_part_I S (s := 3) (p := 0) (by omega) (by omega) (by omega)
    have p1 : F_Flows_part S 3 (zI i) 1 = S 57 ((24 + i) * 6 + 1) := Flows_part_I S (s := 3) (p := 1) (by omega) (by omega) (by omega)
    have hcl : (zI i).toNatClampNeg = i := zI_clamp (by omega)
    have r0 : S 57 ((24 + i) * 6) = U 157 i := hR i (Or.inr ⟨by omega, by omega⟩) 0 (by omega)
    have r1 : S 57 ((24 + i) * 6 + 1) = U 158 i := hR i (Or.inr ⟨by omega, by omega⟩) 1 (by omega)
    have vin : vp_in (zI i) 8 := vp_in_I (by omega) (by omega)
    unfold F_Flows_remove_L47 Sf_Flows_remove_L47 F_MF_drop_L13 Sf_MF_drop_L13
    rw [if_neg hl, if_neg hl, if_neg hl, if_neg hl, p0, p1, hcl, show (156 : Nat) + 1 = 157 from rfl, show (156 : Nat) + 2 = 158 from rfl, ← r0, ← r1]
    by_cases h0 : S 57 ((24 + i) * 6) = zI k
    · simp only [if_pos h0, zI_succ]
      obtain ⟨a', V, W, w1, w2, w3, w4, w5, w6, w7, w8, w9, w10, w11, w12⟩ := ih (i + 1) a f g S U (by omega) (by omega) (by omega) (by omega) hU (fun j hj p hp => hR j (by omega) p hp)
      exact ⟨a', V, W, w1, w2, w3, w4, ⟨vin, w5⟩, w6, w7, w8, w9, w10, w11, fun P hP h1 h2 => w12 P hP h1 (fun j h3 h4 h5 h6 => h2 j (by omega) h4 h5 h6)⟩
    · by_cases h1 : S 57 ((24 + i) * 6 + 1) = zI k
      · simp only [if_neg h0, if_pos h1, zI_succ]
        obtain ⟨a', V, W, w1, w2, w3, w4, w5, w6, w7, w8, w9, w10, w11, w12⟩ := ih (i + 1) a f g S U (by omega) (by omega) (by omega) (by omega) hU (fun j hj p hp => hR j (by omega) p hp)
        exact ⟨a', V, W, w1, w2, w3, w4, ⟨vin, vin, w5⟩, w6, w7, w8, w9, w10, w11, fun P hP h1 h2 => w12 P hP h1 (fun j h3 h4 h5 h6 => h2 j (by omega) h4 h5 h6)⟩
      · obtain ⟨V1, b1, b2, b3, b4, b5⟩ := Flows_remove_L (x1 := zI k) (x3 := zI c) (a := a) (b := i) (by omega) (by omega) 6 0 1300 S (by omega) (by omega)
        obtain ⟨ea, sa⟩ := MF_add_eq (fa := 156) (S := U) (fun p => U (156 + 1 + p) i) hU (by omega)
        have ea' : F_MF_add 156 U (U 157 i) (U 158 i) (U 159 i) (U 160 i) (U 161 i) (U 162 i) = zAdd 156 U a (fun p => U (156 + 1 + p) i) := ea
        have sa' : Sf_MF_add 156 U (U 157 i) (U 158 i) (U 159 i) (U 160 i) (U 161 i) (U 162 i) := sa
        have hz : (0 : Int32) = zI 0 := rfl
        simp only [if_neg h0, if_neg h1, zI_succ, z_let, show (156 : Nat) + 3 = 159 from rfl, show (156 : Nat) + 4 = 160 from rfl, show (156 : Nat) + 5 = 161 from rfl, show (156 : Nat) + 6 = 162 from rfl]
        rw [r0, r1]
        rw [hz, b1, ea']
        obtain ⟨a', V, W, w1, w2, w3, w4, w5, w6, w7, w8, w9, w10, w11, w12⟩ := ih (i + 1) (a + 1) f g V1 (zAdd 156 U a (fun p => U (156 + 1 + p) i)) (by omega) (by omega) (by omega) (by omega) (zAdd_1 _ _ _ _) (fun j hj p hp => by
          rw [zAdd_row _ _ _ _ hp]
          by_cases hja : j = a
          · subst hja
            rw [if_pos rfl, b5 p (by omega) hp]
            exact hR i (Or.inr ⟨by omega, by omega⟩) p hp
          · rw [if_neg hja, b4 _ (by omega)]
            exact hR j (by omega) p hp)
        refine ⟨a', V, W, w1, w2, ⟨b2, w3⟩, w4, ⟨vin, vin, vin, vin, vin, vin, vin, vin, sa', w5⟩, fun m hm => by rw [w6 m hm, b3 m hm], fun j hj => by rw [w7 j hj, b4 j (by omega)], fun m hm => by rw [w8 m hm, zAdd_ne (by omega)], by rw [w9, zAdd_0], w10, w11, fun P hP g1 g2 => w12 P hP (fun j hj => ?_) (fun j h3 h4 h5 h6 => ?_)⟩
        · by_cases hja : j = a
          · subst hja
            exact hP _ _ (fun p hp => b5 p (by omega) hp) (g2 i (by omega) (by omega) h0 h1)
          · exact hP _ _ (fun p hp => b4 _ (by omega)) (g1 j (by omega))
        · rw [b4 _ (by omega)] at h5 h6
          exact hP _ _ (fun p hp => b4 _ (by omega)) (g2 j (by omega) h4 h5 h6)
/-- a rank for the states that were dropped, when one more is -/
def zW10 : List zLoc := [(55, some 3), (56, some 3), (57, none), (58, none), (78, some 0), (156, none), (157, none), (158, none), (159, none), (160, none), (161, none), (162, none), (163, none), (193, none)]
theorem o_10 (fl : Nat → Nat) {S : Nat → Nat → Int32} (a1 a2 a3 a4 a5 a6 : Int32) (h : zCF fl S S) : Sl_10 fl S a1 a2 a3 a4 a5 a6 ∧ zCF fl (Fl_10 fl S a1 a2 a3 a4 a5 a6) (Fl_10 fl S a1 a2 a3 a4 a5 a6) ∧ zWr zW10 S (Fl_10 fl S a1 a2 a3 a4 a5 a6) := by
  have err : ∀ c : Int32, zCF fl (z_uS S 78 0 c) (z_uS S 78 0 c) ∧ zWr zW10 S (z_uS S 78 0 c) := fun c => ⟨h.ag ((zWr.slot (W := [(78, some 0)]) (by decide) S _).ag (by decide)), zWr.slot (by decide) S _⟩
  unfold Sl_10 Fl_10 Sf_L_drop F_L_drop F_T_drop Sf_T_drop F_M_drop Sf_M_drop F_M_thrown F_M_drop_j24 F_M_drop_j58 Sf_M_drop_j24 Sf_M_drop_j58 F_M_drop_j63 Sf_M_drop_j63
  simp only [T_isState_eq, M_isIn_eq, T_le, T_lt, show (0 : Int32).toInt = 0 from rfl, show (1 : Int32).toInt = 1 from rfl, show (2 : Int32).toInt = 2 from rfl, show (5 : Int32).toInt = 5 from rfl, show (6 : Int32).toInt = 6 from rfl]
  by_cases h1 : a1.toInt < 1
  case pos =>
    have m0 : ¬ (1 ≤ a1.toInt ∧ a1.toInt ≤ 5) := by omega
    simp only [if_pos h1, if_neg m0, z_b10, z_b01, if_true, if_false, show ¬ ((1 : Int) ≤ 0) by decide]
    exact ⟨⟨⟨trivial, fun E S2 hE => by cases hE; simp⟩, trivial, by simp [uS_at], fun h0 => absurd h0 (by simp)⟩, (err 1).1, (err 1).2⟩
  by_cases h2 : 6 ≤ a1.toInt
  case pos =>
    have m0 : ¬ (1 ≤ a1.toInt ∧ a1.toInt ≤ 5) := by omega
    simp only [if_neg h1, if_pos h2, if_neg m0, z_b10, z_b01, if_true, if_false, show ¬ ((1 : Int) ≤ 0) by decide]
    exact ⟨⟨⟨trivial, fun E S2 hE => by cases hE; simp⟩, trivial, by simp [uS_at], fun h0 => absurd h0 (by simp)⟩, (err 1).1, (err 1).2⟩
  have m0 : 1 ≤ a1.toInt ∧ a1.toInt ≤ 5 := by omega
  by_cases h3 : 0 ≤ a2.toInt ∧ a2.toInt < 6
  case neg =>
    have m1 : ¬ (0 ≤ a2.toInt ∧ a2.toInt ≤ 5) := by omega
    simp only [if_neg h1, if_neg h2, if_pos m0, if_neg h3, if_neg m1, z_b10, z_b01, if_true, if_false, show ¬ ((1 : Int) ≤ 0) by decide]
    exact ⟨⟨⟨trivial, fun E S2 hE => by cases hE; simp⟩, trivial, by simp [uS_at], fun h0 => absurd h0 (by simp)⟩, (err 1).1, (err 1).2⟩
  have m1 : 0 ≤ a2.toInt ∧ a2.toInt ≤ 5 := by omega
  by_cases h4 : a1 = a2
  case pos =>
    simp only [if_neg h1, if_neg h2, if_pos m0, if_pos h3, if_pos m1, if_pos h4, z_b10, z_b01, if_true, if_false, show ¬ ((1 : Int) ≤ 0) by decide]
    exact ⟨⟨⟨trivial, fun E S2 hE => by cases hE; simp⟩, trivial, by simp [uS_at], fun h0 => absurd h0 (by simp)⟩, (err 1).1, (err 1).2⟩
  have hk1 : 1 ≤ a1.toInt := by omega
  obtain ⟨k, hk, rfl⟩ := zI_ex (n := 6) (p := a1) (by omega) (by omega) (by omega)
  obtain ⟨t, ht, rfl⟩ := zI_ex (n := 6) (p := a2) (by omega) (by omega) (by omega)
  rw [zI_toInt (by omega)] at hk1
  have hkt : t ≠ k := fun e => h4 (by rw [e])
  by_cases h5 : S 54 4 = -1
  case pos =>
    have h6 : S 78 26 = -1 := by rw [← h.of]; exact h5
    simp only [if_neg h1, if_neg h2, if_pos m0, if_pos h3, if_pos m1, if_neg h4, if_pos h5, if_pos h6, z_b10, z_b01, if_true, if_false, show ¬ ((2 : Int) ≤ 0) by decide]
    exact ⟨⟨⟨trivial, fun E S2 hE => by cases hE; simp⟩, trivial, by simp [uS_at], fun h0 => absurd h0 (by simp)⟩, (err 2).1, (err 2).2⟩
  have h6 : ¬ S 78 26 = -1 := by rw [← h.of]; exact h5
  obtain ⟨c, hr, hw⟩ := h.draft h5
  obtain ⟨g1, ⟨d, hd, hd2, hd3⟩, r, hr3⟩ := h.map h5
  have e1 : F_Flows_has S 3 (zI k) = if zB (S 55 3) k = true then 1 else 0 := Flows_has_I S (s := 3) (by omega) (by omega)
  have e2 : F_Flows_has S 3 (zI t) = if zB (S 55 3) t = true then 1 else 0 := Flows_has_I S (s := 3) (by omega) (by omega)
  have e3 : ∀ (Q : Nat → Nat → Int32) (i : Nat), i < 31 → Q 156 0 = S 55 3 → F_MF_has 156 Q (zI i) = if zB (S 55 3) i = true then 1 else 0 := fun Q i hi hQ => by rw [MF_has_I 156 Q hi, hQ]
  by_cases h7 : zB (S 55 3) k = true
  case neg =>
    simp only [if_neg h1, if_neg h2, if_pos m0, if_pos h3, if_pos m1, if_neg h4, if_neg h5, if_neg h6, e1, if_neg h7, e3 S k (by omega) hr.states.symm, z_b10, z_b01, if_true, if_false, show ¬ ((2 : Int) ≤ 0) by decide]
    exact ⟨⟨⟨⟨Sf_Flows_has_I _ _ _, trivial⟩, fun E S2 hE => by cases hE; simp⟩, trivial, by simp [uS_at], fun h0 => absurd h0 (by simp)⟩, (err 2).1, (err 2).2⟩
  by_cases h8 : zB (S 55 3) t = true
  case neg =>
    simp only [if_neg h1, if_neg h2, if_pos m0, if_pos h3, if_pos m1, if_neg h4, if_neg h5, if_neg h6, e1, e2, if_pos h7, if_neg h8, e3 S k (by omega) hr.states.symm, e3 S t (by omega) hr.states.symm, z_b10, z_b01, if_true, if_false, show ¬ ((2 : Int) ≤ 0) by decide]
    exact ⟨⟨⟨⟨Sf_Flows_has_I _ _ _, Sf_Flows_has_I _ _ _, trivial⟩, fun E S2 hE => by cases hE; simp⟩, trivial, by simp [uS_at], fun h0 => absurd h0 (by simp)⟩, (err 2).1, (err 2).2⟩
  -- both have them
  generalize hP : S 55 3 &&& (((1 : Int32) <<< (zI k &&& 31)) ^^^ (-1)) = P
  have hPB : ∀ j, j < 32 → zB P j = (zB (S 55 3) j && !decide (j = k)) := fun j hj => by rw [← hP, zB_and, zB_not hj, zB_one k (by omega) j hj]
  have hP2 : S 55 3 - ((1 : Int32) <<< (zI k &&& 31)) = P := zB_ext fun j hj => by rw [zB_sub (by omega) h7 hj, hPB j hj]
  generalize hR : z_uS (z_uS S 55 3 P) 58 k (zI t) = R
  have R57 : R 57 = S 57 := by rw [← hR]; simp [z_uS]
  have R56 : R 56 = S 56 := by rw [← hR]; simp [z_uS]
  obtain ⟨a0, V, W0, v1, v2, v3, -, -, v6, v7, -⟩ := drop_joint (k := k) (x2 := zI t) hr.le c 0 0 1300 1300 R (z_uS S 156 1 0) (by omega) (by omega) (by have := hr.le; omega) (by have := hr.le; omega) (by rw [uS_at]; rfl) (fun j hj p hp => by rw [R57, z_uS_ne _ _ _ (by omega)]; exact hr.part j (by omega) p hp)
  have eR : F_Flows_remove S (zI k) (zI t) = (zI c - zI a0, z_uS V 56 3 (zI a0)) ∧ Sf_Flows_remove S (zI k) (zI t) := by
    unfold F_Flows_remove Sf_Flows_remove
    simp only [z_let]
    have q1 : zAt (S 55) 4 (zI 3) = S 55 3 := zAt_I (by omega) (by omega)
    have q2 : ∀ v, zPut S 55 4 (zI 3) v = z_uS S 55 3 v := fun v => zPut_I (by omega) (by omega)
    have q3 : ∀ (Q : Nat → Nat → Int32) v, zPut Q 58 6 (zI k) v = z_uS Q 58 k v := fun Q v => zPut_I (by omega) (by omega)
    have q4 : ∀ (Q : Nat → Nat → Int32) v, zPut Q 56 4 (zI 3) v = z_uS Q 56 3 v := fun Q v => zPut_I (by omega) (by omega)
    have q5 : zAt (R 56) 4 (zI 3) = zI c := by rw [zAt_I (by omega) (by omega), R56]; exact hr.cnt
    simp only [show (3 : Int32) = zI 3 from rfl, T_bit_I S (show k < 31 by omega), q1, q2, q3, hP, hR, q5, show (0 : Int32) = zI 0 from rfl, v2, q4]
    exact ⟨trivial, v3, trivial⟩
  simp only [if_neg h1, if_neg h2, if_pos m0, if_pos h3, if_pos m1, if_neg h4, if_neg h5, e1, e2, if_pos h7, if_pos h8, eR.1, z_b10, z_b01, if_true, if_false, show ((0 : Int) ≤ 0) by decide]
  generalize hX : z_uS (z_uS V 56 3 (zI a0)) 193 0 (zI c - zI a0) = X
  have Xout : ∀ m, m ≠ 56 → m ≠ 57 → m ≠ 193 → X m = R m := fun m i1 i2 i3 => by rw [← hX, z_uS_ne _ _ _ i3, z_uS_ne _ _ _ i1, v6 m i2]
  have Rout : ∀ m, m ≠ 55 → m ≠ 58 → R m = S m := fun m i1 i2 => by rw [← hR, z_uS_ne _ _ _ i2, z_uS_ne _ _ _ i1]
  have XS : ∀ m, 58 < m → m ≠ 193 → X m = S m := fun m i1 i2 => by rw [Xout m (by omega) (by omega) i2, Rout m (by omega) (by omega)]
  have hc1 : (z_uS X 78 0 0) 156 1 = zI c := by rw [z_uS_ne _ _ _ (by omega), XS _ (by omega) (by omega)]; exact hr.many
  obtain ⟨a', V', W, w1, w2, -, w4, w5, -, -, w8, w9, w10, w11, w12⟩ := drop_joint (k := k) (x2 := zI t) hr.le c 0 0 1300 1300 R (z_uS (z_uS X 78 0 0) 156 1 0) (by omega) (by omega) (by have := hr.le; omega) (by have := hr.le; omega) (by rw [uS_at]; rfl) (fun j hj p hp => by rw [R57, z_uS_ne _ _ _ (by omega), z_uS_ne _ _ _ (by omega), XS _ (by omega) (by omega)]; exact hr.part j (by omega) p hp)
  rw [v2] at w2
  have hle := hr.le
  have eV : V = V' := congrArg Prod.snd w2
  have ea : a0 = a' := (zI_inj (by omega) (by omega)).mp (congrArg Prod.fst w2)
  subst eV
  subst ea
  have eD : F_MF_drop 156 (z_uS X 78 0 0) (zI k) (zI t) = (zI c - zI a0, z_uS (z_uS W 156 0 P) 163 k (zI t)) ∧ Sf_MF_drop 156 (z_uS X 78 0 0) (zI k) (zI t) := by
    unfold F_MF_drop Sf_MF_drop
    have hcl : (zI k).toNatClampNeg = k := zI_clamp (by omega)
    have hW0 : W 156 0 = S 55 3 := by rw [w9, uS_nj _ _ _ (by omega), z_uS_ne _ _ _ (by omega), XS _ (by omega) (by omega)]; exact hr.states.symm
    have w4' : F_MF_drop_L13 156 (zI k) (zI t) (zI c) 1300 (z_uS (z_uS X 78 0 0) 156 1 0) 0 = W := w4
    have w5' : Sf_MF_drop_L13 156 (zI k) (zI t) (zI c) 1300 (z_uS (z_uS X 78 0 0) 156 1 0) 0 := w5
    simp only [hc1, w4', hcl, hW0, hP2, show 156 + 7 = 163 from rfl]
    refine ⟨?_, w5', vp_in_I hk (by omega), trivial⟩
    rw [z_uS_ne _ _ _ (by omega), uS_nj _ _ _ (by omega), w10]
  have X26 : X 78 26 = S 78 26 := by rw [XS _ (by omega) (by omega)]
  have X156 : X 156 0 = S 55 3 := by rw [XS _ (by omega) (by omega)]; exact hr.states.symm
  simp only [X26, if_neg h6, e3 X k (by omega) X156, e3 X t (by omega) X156, if_pos h7, if_pos h8, z_b10, if_false, eD.1]
  generalize hY : z_uS (z_uS W 156 0 P) 163 k (zI t) = Y
  have Y193 : Y 193 0 = zI c - zI a0 := by rw [← hY, z_uS_ne _ _ _ (by omega), z_uS_ne _ _ _ (by omega), w8 _ (by omega), z_uS_ne _ _ _ (by omega), z_uS_ne _ _ _ (by omega), ← hX, uS_at]
  have YX : ∀ m, m ≠ 78 → (m < 156 ∨ 163 < m) → Y m = X m := fun m i1 i2 => by rw [← hY, z_uS_ne _ _ _ (by omega), z_uS_ne _ _ _ (by omega), w8 _ (by omega), z_uS_ne _ _ _ (by omega), z_uS_ne _ _ _ (by omega)]
  have Y78 : Y 78 = upd (S 78) 0 0 := by rw [← hY, z_uS_ne _ _ _ (by omega), z_uS_ne _ _ _ (by omega), w8 _ (by omega), z_uS_ne _ _ _ (by omega), z_uS_self, XS _ (by omega) (by omega)]
  have Y57 : Y 57 = V 57 := by rw [YX _ (by omega) (by omega), ← hX, z_uS_ne _ _ _ (by omega), z_uS_ne _ _ _ (by omega)]
  have Y56 : Y 56 = upd (S 56) 3 (zI a0) := by rw [YX _ (by omega) (by omega), ← hX, z_uS_ne _ _ _ (by omega), z_uS_self, v6 _ (by omega), R56]
  have Y55 : Y 55 = upd (S 55) 3 P := by rw [YX _ (by omega) (by omega), Xout _ (by omega) (by omega) (by omega), ← hR, z_uS_ne _ _ _ (by omega), z_uS_self]
  have Y58 : Y 58 = upd (S 58) k (zI t) := by rw [YX _ (by omega) (by omega), Xout _ (by omega) (by omega) (by omega), ← hR, z_uS_self, z_uS_ne _ _ _ (by omega)]
  have Y163 : Y 163 = upd (S 163) k (zI t) := by rw [← hY, z_uS_self, z_uS_ne _ _ _ (by omega), w8 _ (by omega), z_uS_ne _ _ _ (by omega), z_uS_ne _ _ _ (by omega), XS _ (by omega) (by omega)]
  have Yout : ∀ m, (m < 55 ∨ 58 < m ∧ m < 78 ∨ 78 < m ∧ m < 156 ∨ 163 < m ∧ m ≠ 193) → Y m = S m := fun m i => by rw [YX m (by omega) (by omega), Xout m (by omega) (by omega) (by omega), Rout m (by omega) (by omega)]
  have Y553 : Y 55 3 = P := by rw [Y55]; simp [upd]
  refine ⟨⟨⟨⟨Sf_Flows_has_I _ _ _, Sf_Flows_has_I _ _ _, eR.2, trivial⟩, fun E S2 hE => by cases hE⟩, ⟨eD.2, trivial⟩, by rw [Y78]; simp [upd], fun _ => Y193⟩, h.redraft (fun m hm => ?_) (fun m hm => ?_) (fun j hj => ?_) (fun m hm => Yout m (by omega)) ?_ (fun _ => ⟨⟨a0, ?_, ?_⟩, ?_, ⟨d, hd, by rw [Yout 54 (by omega)]; exact hd2, fun s hs hb => ?_⟩, fun y => if zB P y = true then 0 else if y = k then 1 else r y + 2, fun s hs hb hm => ?_⟩), ?_⟩
  · rw [Y55]; simp [upd, show m ≠ 3 by omega]
  · rw [Y56]; simp [upd, show m ≠ 3 by omega]
  · rw [Y57, v7 j hj, R57]
  · rw [Yout 54 (by omega), Y78]; simp [upd]; exact h.of
  · refine ⟨by omega, ?_, ?_, ?_, fun j hj p hp => ?_⟩
    · rw [Y553, ← hY, z_uS_ne _ _ _ (by omega), uS_at]
    · rw [Y56]; simp [upd]
    · rw [← hY, z_uS_ne _ _ _ (by omega), uS_nj _ _ _ (by omega)]; exact w10
    · rw [Y57, ← hY, z_uS_ne _ _ _ (by omega), z_uS_ne _ _ _ (by omega)]; exact w11 j hj p hp
  · refine ⟨?_, fun m hm => ?_, fun j hj => ?_⟩
    · rw [Y553, hPB 0 (by omega), hw.b0]; simp; omega
    · rw [Y553]
      by_cases hm2 : m < 32
      · rw [hPB m hm2, hw.hi m hm]; rfl
      · exact zB_ge _ (by omega)
    · rw [Y553, Y57]
      refine w12 (fun q => zStepOk P q) (fun q q' hq hP => hP.congr hq) (fun j hj => absurd hj (by omega)) (fun j _ hj n0 n1 => ?_) j hj
      rw [R57] at n0 n1 ⊢
      have := hw.step j hj
      obtain ⟨⟨a, ha, ha2, ha3⟩, ⟨b, hb, hb2, hb3⟩, h3⟩ := this
      refine ⟨⟨a, ha, ha2, ?_⟩, ⟨b, hb, hb2, ?_⟩, h3⟩
      · rw [hPB a (by omega), ha3]
        have : a ≠ k := fun e => n0 (by rw [e] at ha2; exact ha2)
        simp [this]
      · rw [hPB b (by omega), hb3]
        have : b ≠ k := fun e => n1 (by rw [e] at hb2; exact hb2)
        simp [this]
  · intro s hs hm
    rw [Y58] at hm ⊢
    rw [Y163]
    by_cases hsk : s = k
    · subst hsk; simp [upd]
    · have e0 : upd (S 58) k (zI t) s = S 58 s := by simp [upd, hsk]
      have e1 : upd (S 163) k (zI t) s = S 163 s := by simp [upd, hsk]
      rw [e0] at hm ⊢
      rw [e1]
      exact g1 s hs hm
  · rw [Y55] at hb ⊢
    rw [Y58]
    have e0 : upd (S 55) 3 P d = S 55 d := by simp [upd, show d ≠ 3 by omega]
    have e1 : upd (S 55) 3 P 3 = P := by simp [upd]
    rw [e0] at hb
    rw [e1, hPB s (by omega)]
    by_cases hsk : s = k
    · right
      subst hsk
      simp only [upd, if_true]
      exact fun e => absurd (congrArg Int32.toInt e) (by rw [zI_toInt (by omega)]; show ¬ (t : Int) = -1; omega)
    · rcases hd3 s hs hb with q | q
      · left; rw [q]; simp [hsk]
      · right; simpa [upd, hsk] using q
  · rw [Y553] at hb ⊢
    rw [Y58] at hm ⊢
    have tB : zB P t = true := by rw [hPB t (by omega), h8]; simp [hkt]
    by_cases hsk : s = k
    · subst hsk
      refine ⟨t, ht, by simp [upd], Or.inl tB, ?_⟩
      show (if zB P t = true then 0 else if t = s then 1 else r t + 2) < (if zB P s = true then 0 else if s = s then 1 else r s + 2)
      rw [if_pos tB, hb]; simp
    · have e0 : upd (S 58) k (zI t) s = S 58 s := by simp [upd, hsk]
      rw [e0] at hm ⊢
      rw [hPB s (by omega)] at hb
      have hb' : zB (S 55 3) s = false := by revert hb; simp [hsk]
      obtain ⟨u, hu, hu2, hu3, hu4⟩ := hr3 s hs hb' hm
      refine ⟨u, hu, hu2, ?_, ?_⟩
      · rw [hPB u (by omega)]
        by_cases huk : u = k
        · right
          subst huk
          simp only [upd, if_true]
          exact fun e => absurd (congrArg Int32.toInt e) (by rw [zI_toInt (by omega)]; show ¬ (t : Int) = -1; omega)
        · rcases hu3 with q | q
          · left; rw [q]; simp [huk]
          · right; simpa [upd, huk] using q
      · show (if zB P u = true then 0 else if u = k then 1 else r u + 2) < (if zB P s = true then 0 else if s = k then 1 else r s + 2)
        have : zB P s = false := by rw [hPB s (by omega), hb']; rfl
        rw [this, if_neg hsk]
        simp only [Bool.false_eq_true, if_false]
        split
        · omega
        · split <;> omega
  · intro m j hc
    have n57 := zCov.ne hc (a := 57) (by decide) (by omega)
    have n58 := zCov.ne hc (a := 58) (by decide) (by omega)
    have n6 := zCov.ne hc (a := 156) (by decide) (by omega)
    have n7 := zCov.ne hc (a := 157) (by decide) (by omega)
    have n8 := zCov.ne hc (a := 158) (by decide) (by omega)
    have n9 := zCov.ne hc (a := 159) (by decide) (by omega)
    have n10 := zCov.ne hc (a := 160) (by decide) (by omega)
    have n11 := zCov.ne hc (a := 161) (by decide) (by omega)
    have n12 := zCov.ne hc (a := 162) (by decide) (by omega)
    have n13 := zCov.ne hc (a := 163) (by decide) (by omega)
    have n14 := zCov.ne hc (a := 193) (by decide) (by omega)
    by_cases c55 : m = 55
    · have := zCov.nj hc (a := 55) (s := 3) (by decide) (by omega) c55
      subst c55
      rw [Y55]; simp [upd, this]
    by_cases c56 : m = 56
    · have := zCov.nj hc (a := 56) (s := 3) (by decide) (by omega) c56
      subst c56
      rw [Y56]; simp [upd, this]
    by_cases c78 : m = 78
    · have := zCov.nj hc (a := 78) (s := 0) (by decide) (by omega) c78
      subst c78
      rw [Y78]; simp [upd, this]
    · rw [Yout m (by omega)]
