/-! PURE: states as of days -/
def sE (e : zEnt) (i : Nat) (s : Int32) : Int32 := if e.1 = 1 ∧ e.2.1 = i then 0 else if e.1 = 2 ∧ e.2.1 = i ∧ e.2.2.1 = 0 then e.2.2.2.2.2 else s
def sF (L : zLg) (i : Nat) : Nat → Int32
  | 0 => -1
  | k + 1 => sE (L k).1 i (sF L i k)
def sD (L : zLg) (i D : Nat) : Nat → Int32
  | 0 => -1
  | k + 1 => if (L k).2.1 ≤ D then sE (L k).1 i (sD L i D k) else sD L i D k
theorem sD_all {L : zLg} {i D : Nat} : ∀ k, (∀ j, j < k → (L j).2.1 ≤ D) → sD L i D k = sF L i k := by
  intro k
  induction k with
  | zero => intro _; rfl
  | succ k ih => intro h; unfold sD sF; rw [if_pos (h k (by omega)), ih (fun j hj => h j (by omega))]
theorem sD_rest {L : zLg} {i D k : Nat} : ∀ m, k ≤ m → (∀ j, k ≤ j → j < m → ¬ (L j).2.1 ≤ D) → sD L i D m = sD L i D k := by
  intro m
  induction m with
  | zero => intro h _; rw [show k = 0 by omega]
  | succ m ih =>
    intro h1 h2
    by_cases e : k = m + 1
    · rw [e]
    · show (if (L m).2.1 ≤ D then _ else _) = _
      rw [if_neg (h2 m (by omega) (by omega))]
      exact ih (by omega) (fun j a b => h2 j a (by omega))
/-- it is what the world has -/
theorem sF_rep {L : zLg} {n : Nat} (hW : zLgW L n) {i : Nat} : ∀ k, k ≤ n → sF L i k = wC (zRep L k) i 0 := by
  intro k
  induction k with
  | zero => intro _; rfl
  | succ k ih =>
    intro hk
    obtain ⟨g1, g2, -⟩ := hW k (by omega)
    have ih' := ih (by omega)
    show sE (L k).1 i (sF L i k) = wC (zApp (L k).1 (zRep L k)) i 0
    rw [ih']
    unfold sE zApp wC
    rcases g1 with ⟨t0, ha, hb⟩ | ⟨t0, ha, hb, hcc⟩ | ⟨t0, ha, hb⟩ | ⟨t0, ha, hb, hcc, hne, hoo, hnn⟩
    · rw [if_neg (by omega), if_neg (by omega), if_pos t0]; rfl
    · rw [if_neg (show ¬ (L k).1.1 = 0 by omega), if_pos t0]
      show _ = if (if i = (L k).1.2.1 then true else (zRep L k).1 i) = true then (if i = (L k).1.2.1 then zBegC _ _ 0 else (zRep L k).2.1 i 0) else -1
      by_cases e : i = (L k).1.2.1
      · rw [if_pos ⟨t0, e.symm⟩, if_pos (show (if i = (L k).1.2.1 then true else (zRep L k).1 i) = true by rw [if_pos e]), if_pos e]; rfl
      · rw [if_neg (fun h => e h.2.symm), if_neg (by omega), if_neg e, if_neg e]
    · rw [if_neg (show ¬ (L k).1.1 = 0 by omega), if_neg (show ¬ (L k).1.1 = 1 by omega), if_pos t0, if_neg (by omega)]
      show _ = if (zRep L k).1 i = true then (if i = (L k).1.2.1 ∧ 0 = (L k).1.2.2.1 then (L k).1.2.2.2.2.2 else (zRep L k).2.1 i 0) else -1
      by_cases e : i = (L k).1.2.1 ∧ 0 = (L k).1.2.2.1
      · rw [if_pos ⟨t0, e.1.symm, e.2.symm⟩, if_pos e]
        have := (g2.2.2.1 t0).1
        rw [← e.1] at this
        rw [if_pos this]
      · rw [if_neg (fun h => e ⟨h.2.1.symm, h.2.2.symm⟩), if_neg e]
    · rw [if_neg (show ¬ (L k).1.1 = 0 by omega), if_neg (show ¬ (L k).1.1 = 1 by omega), if_neg (show ¬ (L k).1.1 = 2 by omega), if_neg (by omega), if_neg (by omega)]
      unfold zSetL
      by_cases b1 : (L k).1.2.2.1 = 1
      · rw [if_pos b1]; rfl
      · rw [if_neg b1]; rfl
/-- the words of an entry that the class tests -/
theorem e_born {e : zEnt} (he : zEok e) : eW e = 13 ↔ e.1 = 1 := by
  unfold eW
  rcases he with ⟨t0, ha, hb⟩ | ⟨t0, ha, hb, hcc⟩ | ⟨t0, ha, hb⟩ | ⟨t0, ha, hb, hcc, hne, hoo, hnn⟩
  · rw [t0]; simp
  · rw [t0]; simp
  · rw [t0]; simp only [if_true, if_neg (show ¬ (2 = 0) by decide), if_neg (show ¬ (2 = 1) by decide)]
    rw [show (13 : Int32) = zI 13 from rfl, zI_inj (by omega) (by omega)]; omega
  · rw [t0]; simp only [if_neg (show ¬ (3 = 0) by decide), if_neg (show ¬ (3 = 1) by decide), if_neg (show ¬ (3 = 2) by decide)]
    rw [show (13 : Int32) = zI 13 from rfl, zI_inj (by omega) (by omega)]; omega
theorem e_state {e : zEnt} (he : zEok e) : eW e = 0 ↔ e.1 = 2 ∧ e.2.2.1 = 0 := by
  unfold eW
  rcases he with ⟨t0, ha, hb⟩ | ⟨t0, ha, hb, hcc⟩ | ⟨t0, ha, hb⟩ | ⟨t0, ha, hb, hcc, hne, hoo, hnn⟩
  · rw [t0]; simp
  · rw [t0]; simp
  · rw [t0]; simp only [if_true, if_neg (show ¬ (2 = 0) by decide), if_neg (show ¬ (2 = 1) by decide), true_and]
    rw [show (0 : Int32) = zI 0 from rfl, zI_inj (by omega) (by omega)]
  · rw [t0]; simp only [if_neg (show ¬ (3 = 0) by decide), if_neg (show ¬ (3 = 1) by decide), if_neg (show ¬ (3 = 2) by decide)]
    rw [show (0 : Int32) = zI 0 from rfl, zI_inj (by omega) (by omega)]; omega
theorem e_item {e : zEnt} (he : zEok e) {i : Nat} (hi : i < 30) : eI e = zI i ↔ e.1 ≠ 0 ∧ e.2.1 = i := by
  unfold eI
  by_cases h0 : e.1 = 0
  · rw [if_pos h0]
    exact ⟨fun h => absurd h.symm (m1_ne i (by omega)), fun h => absurd h0 h.1⟩
  · have := he.item h0
    rw [if_neg h0, zI_inj (by omega) (by omega)]
    exact ⟨fun h => ⟨h0, h⟩, fun h => h.2⟩
theorem m_born {e : zEnt} (he : zEok e) : mK e = 1 ↔ e.1 = 1 := by
  unfold mK
  rcases he with ⟨t0, ha, hb⟩ | ⟨t0, ha, hb, hcc⟩ | ⟨t0, ha, hb⟩ | ⟨t0, ha, hb, hcc, hne, hoo, hnn⟩
  · rw [t0]; simp
  · rw [t0]; simp
  · rw [t0]; simp only [if_true, if_neg (show ¬ (2 = 0) by decide), if_neg (show ¬ (2 = 1) by decide)]
    split
    · simp
    · split
      · simp
      · rw [show (1 : Int32) = zI 1 from rfl, zI_inj (by omega) (by omega)]; omega
  · rw [t0]; simp
theorem m_state {e : zEnt} (he : zEok e) : mK e = 2 ↔ e.1 = 2 ∧ e.2.2.1 = 0 := by
  unfold mK
  rcases he with ⟨t0, ha, hb⟩ | ⟨t0, ha, hb, hcc⟩ | ⟨t0, ha, hb⟩ | ⟨t0, ha, hb, hcc, hne, hoo, hnn⟩
  · rw [t0]; simp
  · rw [t0]; simp
  · rw [t0]; simp only [if_true, if_neg (show ¬ (2 = 0) by decide), if_neg (show ¬ (2 = 1) by decide)]
    split
    · rename_i q; simp [q]
    · rename_i q
      split
      · simp [q]
      · rw [show (2 : Int32) = zI 2 from rfl, zI_inj (by omega) (by omega)]; omega
  · rw [t0]; simp
theorem m_role {e : zEnt} (he : zEok e) : mK e = 0 ↔ e.1 = 0 := by
  unfold mK
  rcases he with ⟨t0, ha, hb⟩ | ⟨t0, ha, hb, hcc⟩ | ⟨t0, ha, hb⟩ | ⟨t0, ha, hb, hcc, hne, hoo, hnn⟩
  · rw [t0]; simp
  · rw [t0]; simp
  · rw [t0]; simp only [if_true, if_neg (show ¬ (2 = 0) by decide), if_neg (show ¬ (2 = 1) by decide)]
    split
    · simp
    · split
      · simp
      · rw [show (0 : Int32) = zI 0 from rfl, zI_inj (by omega) (by omega)]; omega
  · rw [t0]; simp
theorem M_isAbout_I {U : Nat → Nat → Int32} {L : zLg} {n k i : Nat} (hL : zLgM L n U) (hk : k < n) (hn : n ≤ 1200) (he : zEok (L k).1) (hi : i < 30) : F_M_isAbout U (zI k) (zI i) = (if (L k).1.1 ≠ 0 ∧ (L k).1.2.1 = i then 1 else 0) ∧ Sf_M_isAbout U (zI k) (zI i) := by
  obtain ⟨c1, c2, -⟩ := hL.ent k hk
  have c2' : U 82 k = zI (L k).1.2.1 := c2
  have vk : vp_in (zI k) 1200 := vp_in_I (by omega) (by omega)
  unfold F_M_isAbout Sf_M_isAbout
  rw [zI_clamp (show k < 2147483648 by omega), c1, c2']
  by_cases h0 : (L k).1.1 = 0
  · have := (m_role he).mpr h0
    rw [if_pos this, if_pos this, if_neg (fun h => h.1 h0)]; exact ⟨rfl, vk, trivial⟩
  · have h1 : ¬ mK (L k).1 = 0 := fun h => h0 ((m_role he).mp h)
    have := he.item h0
    rw [if_neg h1, if_neg h1]
    by_cases q : (L k).1.2.1 = i
    · rw [if_pos (by rw [q]), if_pos ⟨h0, q⟩]; exact ⟨rfl, vk, vk, trivial⟩
    · rw [if_neg (by rw [zI_inj (by omega) (by omega)]; exact q), if_neg (fun h => q h.2)]; exact ⟨rfl, vk, vk, trivial⟩
/-- the reference's state as of a day -/
theorem M_stateAt_L {U : Nat → Nat → Int32} {L : zLg} {n i D : Nat} (hL : zLgM L n U) (hW : zLgW L n) (hn : n ≤ 1200) (hi : i < 30) (hD : D ≤ 1000) : ∀ (m k f : Nat), m + k = n → m < f →
    F_M_stateAt_L5 U (zI i) (zI D) f (sD L i D k) (zI k) = sD L i D n ∧ Sf_M_stateAt_L5 U (zI i) (zI D) f (sD L i D k) (zI k) := by
  intro m
  induction m with
  | zero =>
    intro k f hk hf
    obtain ⟨f, rfl⟩ : ∃ q, f = q + 1 := ⟨f - 1, by omega⟩
    have e : k = n := by omega
    subst e
    unfold F_M_stateAt_L5 Sf_M_stateAt_L5
    have hl : zI k ≤ zI k := by rw [zI_le (by omega) (by omega)]; omega
    rw [hL.size, if_pos hl, if_pos hl]
    exact ⟨rfl, trivial⟩
  | succ m ih =>
    intro k f hk hf
    obtain ⟨f, rfl⟩ : ∃ q, f = q + 1 := ⟨f - 1, by omega⟩
    have hl : ¬ zI n ≤ zI k := by rw [zI_le (by omega) (by omega)]; omega
    have hkn : k < n := by omega
    obtain ⟨he, -, -, hd, -⟩ := hW k hkn
    obtain ⟨a1, a2⟩ := M_isAbout_I hL hkn hn he hi
    obtain ⟨c1, -, -, -, c5⟩ := hL.ent k hkn
    have c80 : U 80 k = zI (L k).2.1 := (hL.2 k hkn).2.1
    have vk : vp_in (zI k) 1200 := vp_in_I (by omega) (by omega)
    obtain ⟨i1, i2⟩ := ih (k + 1) f (by omega) (by omega)
    have hs : sD L i D (k + 1) = if (L k).2.1 ≤ D then sE (L k).1 i (sD L i D k) else sD L i D k := rfl
    unfold F_M_stateAt_L5 Sf_M_stateAt_L5 F_M_stateAt_l5_39 Sf_M_stateAt_l5_39 F_M_stateAt_l5_40 Sf_M_stateAt_l5_40 F_M_stateAt_l5_62 Sf_M_stateAt_l5_62 F_M_stateAt_l5_88 Sf_M_stateAt_l5_88
    rw [hL.size, if_neg hl, if_neg hl]
    simp only [a1, zI_clamp (show k < 2147483648 by omega), c1, c5, c80, zI_succ, if_true, if_neg ne_10]
    by_cases q0 : (L k).1.1 ≠ 0 ∧ (L k).1.2.1 = i
    · simp only [if_pos q0, if_neg ne_10]
      by_cases q1 : (L k).2.1 ≤ D
      · have n1 : ¬ zI D < zI (L k).2.1 := by rw [zI_lt (by omega) (by omega)]; omega
        rw [if_pos q1] at hs
        simp only [if_neg n1]
        by_cases q2 : (L k).1.1 = 1
        · have b := (m_born he).mpr q2
          have e : sE (L k).1 i (sD L i D k) = 0 := by unfold sE; rw [if_pos ⟨q2, q0.2⟩]
          rw [e] at hs
          rw [hs] at i1 i2
          simp only [b, if_true]
          exact ⟨i1, a2, vk, vk, i2⟩
        · have b : ¬ mK (L k).1 = 1 := fun h => q2 ((m_born he).mp h)
          simp only [if_neg b]
          by_cases q3 : (L k).1.1 = 2 ∧ (L k).1.2.2.1 = 0
          · have b2 := (m_state he).mpr q3
            have eN : mN (L k).1 = (L k).1.2.2.2.2.2 := by unfold mN; rw [if_neg q2]
            have e : sE (L k).1 i (sD L i D k) = (L k).1.2.2.2.2.2 := by unfold sE; rw [if_neg (fun h => q2 h.1), if_pos ⟨q3.1, q0.2, q3.2⟩]
            rw [e] at hs
            rw [hs] at i1 i2
            simp only [b2, if_true, eN]
            exact ⟨i1, a2, vk, vk, vk, vk, i2⟩
          · have b2 : ¬ mK (L k).1 = 2 := fun h => q3 ((m_state he).mp h)
            have e : sE (L k).1 i (sD L i D k) = sD L i D k := by unfold sE; rw [if_neg (fun h => q2 h.1), if_neg (fun h => q3 ⟨h.1, h.2.2⟩)]
            rw [e] at hs
            rw [hs] at i1 i2
            simp only [if_neg b2]
            exact ⟨i1, a2, vk, vk, vk, i2⟩
      · have n1 : zI D < zI (L k).2.1 := by rw [zI_lt (by omega) (by omega)]; omega
        rw [if_neg q1] at hs
        rw [hs] at i1 i2
        simp only [if_pos n1]
        exact ⟨i1, a2, vk, i2⟩
    · have e : sE (L k).1 i (sD L i D k) = sD L i D k := by unfold sE; rw [if_neg (fun h => q0 ⟨by omega, h.2⟩), if_neg (fun h => q0 ⟨by omega, h.2.1⟩)]
      rw [e, ite_self] at hs
      rw [hs] at i1 i2
      simp only [if_neg q0, if_true]
      exact ⟨i1, a2, i2⟩
theorem M_stateAt_I {U : Nat → Nat → Int32} {L : zLg} {n i D : Nat} (hL : zLgM L n U) (hW : zLgW L n) (hn : n ≤ 1200) (hi : i < 30) (hD : D ≤ 1000) : F_M_stateAt U (zI i) (zI D) = sD L i D n ∧ Sf_M_stateAt U (zI i) (zI D) := by
  obtain ⟨l1, l2⟩ := M_stateAt_L hL hW hn hi hD n 0 1300 rfl (by omega)
  rw [zI_0] at l1 l2
  unfold F_M_stateAt Sf_M_stateAt
  exact ⟨l1, l2, trivial⟩
/-- the class's, forwards: it stops where the days pass -/
theorem T_stateOn_L {S : Nat → Nat → Int32} {L : zLg} {n i D d : Nat} (hL : zLgC L n S) (hW : zLgW L n) (hDs : zLgD L n d) (hn : n ≤ 900) (hi : i < 30) (hD : D ≤ 1000) : ∀ (m k f : Nat), m + k = n → m < f → (∀ j, j < k → (L j).2.1 ≤ D) →
    F_T_stateOn_L32 S (zI i) (zI D) f (sD L i D k) (zI k) = sD L i D n ∧ Sf_T_stateOn_L32 S (zI i) (zI D) f (sD L i D k) (zI k) := by
  intro m
  induction m with
  | zero =>
    intro k f hk hf _
    obtain ⟨f, rfl⟩ : ∃ q, f = q + 1 := ⟨f - 1, by omega⟩
    have e : k = n := by omega
    subst e
    unfold F_T_stateOn_L32 Sf_T_stateOn_L32
    have hl : zI k ≤ zI k := by rw [zI_le (by omega) (by omega)]; omega
    rw [hL.size, if_pos hl, if_pos hl]
    exact ⟨rfl, trivial⟩
  | succ m ih =>
    intro k f hk hf hb
    obtain ⟨f, rfl⟩ : ∃ q, f = q + 1 := ⟨f - 1, by omega⟩
    have hl : ¬ zI n ≤ zI k := by rw [zI_le (by omega) (by omega)]; omega
    have hkn : k < n := by omega
    obtain ⟨he, -, -, hd, -⟩ := hW k hkn
    obtain ⟨c4, c5, -, -, c8⟩ := hL.ent k hkn
    have c2 : S 2 k = zI (L k).2.1 := (hL.2 k hkn).2.1
    have hs : sD L i D (k + 1) = if (L k).2.1 ≤ D then sE (L k).1 i (sD L i D k) else sD L i D k := rfl
    unfold F_T_stateOn_L32 Sf_T_stateOn_L32 F_T_stateOn_l32_98 Sf_T_stateOn_l32_98
    rw [hL.size, if_neg hl, if_neg hl]
    simp only [zAt_I (show k < 900 by omega) (show 900 ≤ 2147483648 by omega), c2, c4, c5, c8, zI_succ]
    by_cases q1 : (L k).2.1 ≤ D
    · have n1 : ¬ zI D < zI (L k).2.1 := by rw [zI_lt (by omega) (by omega)]; omega
      obtain ⟨i1, i2⟩ := ih (k + 1) f (by omega) (by omega) (fun j hj => by
        by_cases e : j = k
        · rw [e]; exact q1
        · exact hb j (by omega))
      rw [if_pos q1] at hs
      simp only [if_neg n1]
      by_cases q0 : (L k).1.1 ≠ 0 ∧ (L k).1.2.1 = i
      · have b0 := (e_item he hi).mpr q0
        simp only [if_pos b0]
        by_cases q2 : (L k).1.1 = 1
        · have b := (e_born he).mpr q2
          have e : sE (L k).1 i (sD L i D k) = 0 := by unfold sE; rw [if_pos ⟨q2, q0.2⟩]
          rw [e] at hs
          rw [hs] at i1 i2
          simp only [b, if_true]
          exact ⟨i1, i2⟩
        · have b : ¬ eW (L k).1 = 13 := fun h => q2 ((e_born he).mp h)
          simp only [if_neg b]
          by_cases q3 : (L k).1.1 = 2 ∧ (L k).1.2.2.1 = 0
          · have b2 := (e_state he).mpr q3
            have eN : eA (L k).1 = (L k).1.2.2.2.2.2 := by unfold eA; rw [if_neg q2]
            have e : sE (L k).1 i (sD L i D k) = (L k).1.2.2.2.2.2 := by unfold sE; rw [if_neg (fun h => q2 h.1), if_pos ⟨q3.1, q0.2, q3.2⟩]
            rw [e] at hs
            rw [hs] at i1 i2
            simp only [b2, if_true, eN]
            exact ⟨i1, i2⟩
          · have b2 : ¬ eW (L k).1 = 0 := fun h => q3 ((e_state he).mp h)
            have e : sE (L k).1 i (sD L i D k) = sD L i D k := by unfold sE; rw [if_neg (fun h => q2 h.1), if_neg (fun h => q3 ⟨h.1, h.2.2⟩)]
            rw [e] at hs
            rw [hs] at i1 i2
            simp only [if_neg b2]
            exact ⟨i1, i2⟩
      · have b0 : ¬ eI (L k).1 = zI i := fun h => q0 ((e_item he hi).mp h)
        have e : sE (L k).1 i (sD L i D k) = sD L i D k := by unfold sE; rw [if_neg (fun h => q0 ⟨by omega, h.2⟩), if_neg (fun h => q0 ⟨by omega, h.2.1⟩)]
        rw [e] at hs
        rw [hs] at i1 i2
        simp only [if_neg b0]
        exact ⟨i1, i2⟩
    · have n1 : zI D < zI (L k).2.1 := by rw [zI_lt (by omega) (by omega)]; omega
      simp only [if_pos n1]
      refine ⟨(sD_rest n (by omega) (fun j j1 j2 => ?_)).symm, trivial⟩
      by_cases e : j = k
      · rw [e]; exact q1
      · have := hDs.2 k j (by omega) j2; omega
/-- the class's, backwards -/
theorem T_stateOnAnew_L {S : Nat → Nat → Int32} {L : zLg} {n i D d : Nat} (hL : zLgC L n S) (hW : zLgW L n) (hDs : zLgD L n d) (hn : n ≤ 900) (hi : i < 30) (hD : D ≤ 1000) : ∀ (k f : Nat), k ≤ n → k < f → (∀ j, k ≤ j → j < n → ¬ (L j).2.1 ≤ D) → ∀ x : Int32, x.toInt = (k : Int) - 1 →
    F_T_stateOnAnew_L48 S (zI i) (zI D) f (sF L i k) x = sD L i D n ∧ Sf_T_stateOnAnew_L48 S (zI i) (zI D) f (sF L i k) x := by
  intro k
  induction k with
  | zero =>
    intro f hk hf hb x hx
    obtain ⟨f, rfl⟩ : ∃ q, f = q + 1 := ⟨f - 1, by omega⟩
    unfold F_T_stateOnAnew_L48 Sf_T_stateOnAnew_L48
    have hl : x < 0 := by rw [T_lt, hx]; show ((0 : Nat) : Int) - 1 < 0; omega
    rw [if_pos hl, if_pos hl]
    exact ⟨(sD_rest (k := 0) n (by omega) hb).symm, trivial⟩
  | succ k ih =>
    intro f hk hf hb x hx
    obtain ⟨f, rfl⟩ : ∃ q, f = q + 1 := ⟨f - 1, by omega⟩
    have ex : x = zI k := Int32.toInt_inj.mp (by rw [zI_toInt (by omega), hx]; omega)
    have hl : ¬ x < 0 := by rw [T_lt, hx]; show ¬ ((k + 1 : Nat) : Int) - 1 < 0; omega
    have hkn : k < n := by omega
    obtain ⟨he, ho, -, hd, -⟩ := hW k hkn
    obtain ⟨c4, c5, -, c7, -⟩ := hL.ent k hkn
    have c2 : S 2 k = zI (L k).2.1 := (hL.2 k hkn).2.1
    have hxm : (x + (-1)).toInt = (k : Int) - 1 := by
      rw [i_add (by rw [hx, show ((-1 : Int32)).toInt = -1 from rfl]; omega) (by rw [hx, show ((-1 : Int32)).toInt = -1 from rfl]; omega), hx, show ((-1 : Int32)).toInt = -1 from rfl]; omega
    have hs : sF L i (k + 1) = sE (L k).1 i (sF L i k) := rfl
    have hrep := sF_rep hW (i := i) k (by omega)
    unfold F_T_stateOnAnew_L48 Sf_T_stateOnAnew_L48 F_T_stateOnAnew_l48_107 Sf_T_stateOnAnew_l48_107
    rw [if_neg hl, if_neg hl]
    subst ex
    simp only [zAt_I (show k < 900 by omega) (show 900 ≤ 2147483648 by omega), c2, c4, c5, c7]
    by_cases q1 : (L k).2.1 ≤ D
    · have n1 : zI (L k).2.1 ≤ zI D := by rw [zI_le (by omega) (by omega)]; exact q1
      rw [if_pos n1, if_pos n1]
      refine ⟨?_, trivial⟩
      rw [sD_rest n hk hb]
      exact (sD_all (k + 1) (fun j hj => by
        by_cases e : j = k
        · rw [e]; exact q1
        · have := hDs.2 j k (by omega) hkn; omega)).symm
    · have n1 : ¬ zI (L k).2.1 ≤ zI D := by rw [zI_le (by omega) (by omega)]; exact q1
      obtain ⟨i1, i2⟩ := ih f (by omega) (by omega) (fun j j1 j2 => by
        by_cases e : j = k
        · rw [e]; exact q1
        · exact hb j (by omega) j2) (zI k + (-1)) hxm
      rw [if_neg n1, if_neg n1]
      by_cases q0 : (L k).1.1 ≠ 0 ∧ (L k).1.2.1 = i
      · have b0 := (e_item he hi).mpr q0
        simp only [if_pos b0]
        by_cases q2 : (L k).1.1 = 1
        · have b := (e_born he).mpr q2
          have e : sF L i k = -1 := by
            rw [hrep]; unfold wC; rw [← q0.2, ho.2.1 q2]; rfl
          rw [e] at i1 i2
          simp only [b, if_true]
          exact ⟨i1, i2⟩
        · have b : ¬ eW (L k).1 = 13 := fun h => q2 ((e_born he).mp h)
          simp only [if_neg b]
          by_cases q3 : (L k).1.1 = 2 ∧ (L k).1.2.2.1 = 0
          · have b2 := (e_state he).mpr q3
            have eN : eB (L k).1 = sF L i k := by
              obtain ⟨o1, o2⟩ := ho.2.2.1 q3.1
              unfold eB; rw [if_neg q2, o2, hrep]; unfold wC; rw [← q0.2, if_pos o1, q3.2]
            simp only [b2, if_true, eN]
            exact ⟨i1, i2⟩
          · have b2 : ¬ eW (L k).1 = 0 := fun h => q3 ((e_state he).mp h)
            have e : sF L i (k + 1) = sF L i k := by rw [hs]; unfold sE; rw [if_neg (fun h => q2 h.1), if_neg (fun h => q3 ⟨h.1, h.2.2⟩)]
            rw [e]
            simp only [if_neg b2]
            exact ⟨i1, i2⟩
      · have b0 : ¬ eI (L k).1 = zI i := fun h => q0 ((e_item he hi).mp h)
        have e : sF L i (k + 1) = sF L i k := by rw [hs]; unfold sE; rw [if_neg (fun h => q0 ⟨by omega, h.2⟩), if_neg (fun h => q0 ⟨by omega, h.2.1⟩)]
        rw [e]
        simp only [if_neg b0]
        exact ⟨i1, i2⟩
/-! an item that is there; a day that has come -/
theorem T_isDay_I {S : Nat → Nat → Int32} {d : Nat} (hd : S 0 14 = zI d) (hd4 : d ≤ 400) (D : Int32) : F_T_isDay S D = if 0 ≤ D.toInt ∧ D.toInt ≤ d then 1 else 0 := by
  unfold F_T_isDay F_T_isDay_j16
  rw [hd]
  have e0 : (0 : Int32).toInt = 0 := rfl
  have ed := zI_toInt (show d < 2147483648 by omega)
  by_cases h1 : D < 0
  · rw [if_pos h1, if_neg (by rw [T_lt] at h1; omega)]
  · by_cases h2 : zI d < D
    · rw [if_neg h1, if_pos h2, if_neg (by rw [T_lt] at h2; omega)]
    · rw [if_neg h1, if_neg h2, if_pos (by rw [T_lt] at h1 h2; omega)]
theorem M_isDay_I {U : Nat → Nat → Int32} {d : Nat} (hd : U 78 1 = zI d) (hd4 : d ≤ 400) (D : Int32) : F_M_isDay U D = (if 0 ≤ D.toInt ∧ D.toInt ≤ d then 1 else 0) ∧ Sf_M_isDay U D := by
  unfold F_M_isDay Sf_M_isDay
  rw [M_isIn_eq, hd]
  have e0 : (0 : Int32).toInt = 0 := rfl
  have ed := zI_toInt (show d < 2147483648 by omega)
  rw [e0, ed]
  split
  · exact ⟨rfl, rfl, trivial⟩
  · exact ⟨rfl, rfl, trivial⟩
theorem M_isItem_I {fl : Nat → Nat} {E U : Nat → Nat → Int32} {A : zA} {d rn : Nat} (h : zBM fl E U d A rn) (i : Int32) : F_M_isItem U i = (match vItem i with | some k => if A.2.2.1 k = true then 1 else 0 | none => 0) ∧ Sf_M_isItem U i := by
  have hc := h.ok.cnt
  have e0 : (0 : Int32).toInt = 0 := rfl
  have ec : (U 86 0 - 1).toInt = (zCnt A.1 A.2.1 : Int) - 1 := by
    rw [h.m.2.2]
    rw [i_sub (by rw [zI_toInt (by omega)]; show _ ≤ _ - (1 : Int); omega) (by rw [zI_toInt (by omega)]; show _ - (1 : Int) < _; omega), zI_toInt (by omega)]
    rfl
  unfold F_M_isItem Sf_M_isItem vItem
  rw [M_isIn_eq, e0, ec]
  by_cases q : 0 ≤ i.toInt ∧ i.toInt < 30
  · have := i_clamp q.1
    simp only [if_pos q]
    rw [h.ok.there i.toNatClampNeg (by omega)]
    by_cases r : i.toInt ≤ (zCnt A.1 A.2.1 : Int) - 1
    · rw [if_pos (by omega), decide_eq_true (by omega)]; exact ⟨rfl, rfl, trivial⟩
    · rw [if_neg (by omega), decide_eq_false (by omega)]; exact ⟨rfl, rfl, trivial⟩
  · simp only [if_neg q]
    rw [if_neg (by omega)]; exact ⟨rfl, rfl, trivial⟩
theorem T_has_I {S : Nat → Nat → Int32} {w : zWd} (hC : zWC 9 S w) (i : Int32) : F_World_has 9 S i = (match vItem i with | some k => if w.1 k = true then 1 else 0 | none => 0) := by
  unfold vItem
  by_cases q : 0 ≤ i.toInt ∧ i.toInt < 30
  · have := i_clamp q.1
    have e := zI_of q.1
    simp only [if_pos q]
    rw [← hC.has _ (by omega), ← World_has_I (r := 9) (by omega), ← e]
  · simp only [if_neg q]
    exact World_has_out (by omega)
