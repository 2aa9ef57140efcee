/-! PURE: stateOn, stateOnAnew -/
def zW30 : List zLoc := [(78, some 0), (193, none)]
theorem zFX.o30 {S : Nat → Nat → Int32} (x y : Int32) : zWr zW30 S (z_uS (z_uS S 193 0 x) 78 0 y) := (zWr.cell (by decide) _ _ _).trans (zWr.slot (by decide) _ _)
theorem vItem_some {i : Int32} {k : Nat} (h : vItem i = some k) : k < 30 ∧ i = zI k := by
  unfold vItem at h
  split at h
  · cases h
    rename_i q
    have := i_clamp q.1
    exact ⟨by omega, zI_of q.1⟩
  · cases h
theorem vItem_I {k : Nat} (hk : k < 30) : vItem (zI k) = some k := by
  unfold vItem
  rw [if_pos ⟨by rw [zI_toInt (by omega)]; omega, by rw [zI_toInt (by omega)]; omega⟩, zI_clamp (by omega)]
/-- an item that is there -/
def vTh (w : zWd) (i : Int32) : Bool := match vItem i with
  | some k => w.1 k
  | none => false
theorem T_has_B {S : Nat → Nat → Int32} {w : zWd} (hC : zWC 9 S w) (i : Int32) : F_World_has 9 S i = if vTh w i = true then 1 else 0 := by
  rw [T_has_I hC i]
  unfold vTh
  cases vItem i <;> rfl
theorem M_isItem_B {fl : Nat → Nat} {E U : Nat → Nat → Int32} {A : zA} {d rn : Nat} (h : zBM fl E U d A rn) (i : Int32) : F_M_isItem U i = (if vTh A.2.2 i = true then 1 else 0) ∧ Sf_M_isItem U i := by
  obtain ⟨h1, h2⟩ := M_isItem_I h i
  refine ⟨?_, h2⟩
  rw [h1]
  unfold vTh
  cases vItem i <;> rfl
theorem vTh_I {w : zWd} {k : Nat} (hk : k < 30) : vTh w (zI k) = w.1 k := by unfold vTh; rw [vItem_I hk]
theorem item_cases (w : zWd) (i : Int32) : (∃ k, k < 30 ∧ i = zI k ∧ w.1 k = true) ∨ vTh w i = false := by
  cases h : vItem i with
  | none => exact Or.inr (by unfold vTh; rw [h])
  | some k =>
    obtain ⟨h1, h2⟩ := vItem_some h
    cases q : w.1 k
    · exact Or.inr (by unfold vTh; rw [h]; exact q)
    · exact Or.inl ⟨k, h1, h2, q⟩
theorem o_30 {fl : Nat → Nat} {S : Nat → Nat → Int32} {d : Nat} {A : zA} {rn : Nat} (h : zB0 fl S d A rn) (a1 a2 a3 a4 a5 a6 : Int32) : Sl_30 fl S a1 a2 a3 a4 a5 a6 ∧ zWr zW30 S (Fl_30 fl S a1 a2 a3 a4 a5 a6) := by
  suffices g : zOpQ (fun E => (if E = "java/lang/IndexOutOfBoundsException" then 1 else 0)) (fun E => E = "java/lang/IndexOutOfBoundsException") (fun x => x) (F_T_stateOn S a1 a2) (Sf_T_stateOn S a1 a2) (fun U => F_M_stateOn U a1 a2) (fun U => Sf_M_stateOn U a1 a2) (fun F => zWr zW30 S F) from g
  have hn := h.n
  have hd4 : d ≤ 400 := h.ok.2.2.2.2
  have hbm := h.bm (zFX.rfl (S := S))
  have e1 := T_has_B h.c.2 a1
  obtain ⟨e2, e2'⟩ := M_isItem_B hbm a1
  have e3 := T_isDay_I h.d hd4 a2
  obtain ⟨e4, e4'⟩ := M_isDay_I hbm.d hd4 a2
  have bad : vTh A.2.2 a1 = false ∨ ¬ (0 ≤ a2.toInt ∧ a2.toInt ≤ d) → zOpQ (fun E => (if E = "java/lang/IndexOutOfBoundsException" then 1 else 0)) (fun E => E = "java/lang/IndexOutOfBoundsException") (fun x => x) (F_T_stateOn S a1 a2) (Sf_T_stateOn S a1 a2) (fun U => F_M_stateOn U a1 a2) (fun U => Sf_M_stateOn U a1 a2) (fun F => zWr zW30 S F) := by
    intro hb
    refine zOpQ_err (E := "java/lang/IndexOutOfBoundsException") (V := S) (x := 0) (W := z_uS S 78 0 1) ?_ ?_ rfl (by decide) ?_ ?_ (by rw [uS_at]; rfl) (zWr.slot (by decide) _ _)
    · unfold F_T_stateOn; rw [e1, e3]
      rcases hb with q | q
      · simp only [q, Bool.false_eq_true, if_false, if_true]
      · simp only [if_neg q, if_true, ite_self]
    · unfold Sf_T_stateOn; rw [e1, e3]
      rcases hb with q | q
      · simp only [q, Bool.false_eq_true, if_false, if_true]
      · simp only [if_neg q, if_true, ite_self]
    · show F_M_stateOn S a1 a2 = _
      unfold F_M_stateOn F_M_stateOn_j21 F_M_stateOn_j22; rw [e2, e4]
      rcases hb with q | q
      · simp only [q, Bool.false_eq_true, if_false, if_true, if_neg le_10]
      · simp only [if_neg q, if_true, if_neg le_10, ite_self]
    · show Sf_M_stateOn S a1 a2
      unfold Sf_M_stateOn Sf_M_stateOn_j21 Sf_M_stateOn_j22; rw [e2, e4]
      rcases hb with q | q
      · simp only [q, Bool.false_eq_true, if_false, if_true, if_neg le_10]; exact ⟨e2', trivial⟩
      · simp only [if_neg q, if_true, if_neg le_10]
        refine ⟨e2', ?_⟩
        cases vTh A.2.2 a1
        · simp
        · simp [e4']
  rcases item_cases A.2.2 a1 with ⟨i, hi, rfl, hw⟩ | hb
  case inr => exact bad (Or.inl hb)
  by_cases hD : 0 ≤ a2.toInt ∧ a2.toInt ≤ d
  case neg => exact bad (Or.inr hD)
  obtain ⟨D, hD2, rfl⟩ := zI_ex (n := d + 1) hD.1 (by omega) (by omega)
  have hh : F_World_has 9 S (zI i) = 1 := by rw [e1, vTh_I hi, hw]; rfl
  have hdd : F_T_isDay S (zI D) = 1 := by rw [e3, if_pos hD]
  obtain ⟨l1, l2⟩ := T_stateOn_L h.c.1 h.ok.w h.ok.d (by omega) hi (show D ≤ 1000 by omega) A.2.1 0 1300 rfl (by omega) (fun j hj => by omega)
  rw [zI_0] at l1 l2
  have hT1 : F_T_stateOn S (zI i) (zI D) = (.inr (sD A.1 i D A.2.1), S) := by
    unfold F_T_stateOn; simp only [hh, hdd, if_neg ne_10]
    exact congrArg (fun x => ((.inr x : String ⊕ Int32), S)) l1
  have hT2 : Sf_T_stateOn S (zI i) (zI D) := by
    unfold Sf_T_stateOn; simp only [hh, hdd, if_neg ne_10]; exact ⟨l2, trivial⟩
  generalize hans : sD A.1 i D A.2.1 = ans at *
  have hbm2 := h.bm (zFX.out S ans)
  obtain ⟨f2, f2'⟩ := M_isItem_B hbm2 (zI i)
  have f2 : F_M_isItem (z_uS S 193 0 ans) (zI i) = 1 := by rw [f2, vTh_I hi, hw]; rfl
  obtain ⟨f4, f4'⟩ := M_isDay_I hbm2.d hd4 (zI D)
  rw [if_pos hD] at f4
  obtain ⟨s1, s2⟩ := M_stateAt_I (hbm2.thr 0).m.1 h.ok.w (by omega) hi (show D ≤ 1000 by omega)
  rw [hans] at s1
  refine zOpQ_ok (v := ans) (W := z_uS (z_uS S 193 0 ans) 78 0 0) hT1 hT2 ?_ ?_ (uS_at _ _ _ _) (by rw [z_uS_ne _ _ _ (by omega), uS_at]) (zFX.o30 _ _)
  · show F_M_stateOn (z_uS S 193 0 ans) (zI i) (zI D) = _
    unfold F_M_stateOn F_M_stateOn_j22; simp only [f2, f4, if_neg ne_10, if_pos le_00, s1]
  · show Sf_M_stateOn (z_uS S 193 0 ans) (zI i) (zI D)
    unfold Sf_M_stateOn Sf_M_stateOn_j22; simp only [f2, f4, if_neg ne_10, if_pos le_00]; exact ⟨f2', f4', s2, trivial⟩
theorem o_31 {fl : Nat → Nat} {S : Nat → Nat → Int32} {d : Nat} {A : zA} {rn : Nat} (h : zB0 fl S d A rn) (a1 a2 a3 a4 a5 a6 : Int32) : Sl_31 fl S a1 a2 a3 a4 a5 a6 ∧ zWr zW30 S (Fl_31 fl S a1 a2 a3 a4 a5 a6) := by
  suffices g : zOpQ (fun E => (if E = "java/lang/IndexOutOfBoundsException" then 1 else 0)) (fun E => E = "java/lang/IndexOutOfBoundsException") (fun x => x) (F_T_stateOnAnew S a1 a2) (Sf_T_stateOnAnew S a1 a2) (fun U => F_M_stateOnAnew U a1 a2) (fun U => Sf_M_stateOnAnew U a1 a2) (fun F => zWr zW30 S F) from g
  have hn := h.n
  have hd4 : d ≤ 400 := h.ok.2.2.2.2
  have hbm := h.bm (zFX.rfl (S := S))
  have e1 := T_has_B h.c.2 a1
  obtain ⟨e2, e2'⟩ := M_isItem_B hbm a1
  have e3 := T_isDay_I h.d hd4 a2
  obtain ⟨e4, e4'⟩ := M_isDay_I hbm.d hd4 a2
  have bad : vTh A.2.2 a1 = false ∨ ¬ (0 ≤ a2.toInt ∧ a2.toInt ≤ d) → zOpQ (fun E => (if E = "java/lang/IndexOutOfBoundsException" then 1 else 0)) (fun E => E = "java/lang/IndexOutOfBoundsException") (fun x => x) (F_T_stateOnAnew S a1 a2) (Sf_T_stateOnAnew S a1 a2) (fun U => F_M_stateOnAnew U a1 a2) (fun U => Sf_M_stateOnAnew U a1 a2) (fun F => zWr zW30 S F) := by
    intro hb
    refine zOpQ_err (E := "java/lang/IndexOutOfBoundsException") (V := S) (x := 0) (W := z_uS S 78 0 1) ?_ ?_ rfl (by decide) ?_ ?_ (by rw [uS_at]; rfl) (zWr.slot (by decide) _ _)
    · unfold F_T_stateOnAnew; rw [e1, e3]
      rcases hb with q | q
      · simp only [q, Bool.false_eq_true, if_false, if_true]
      · simp only [if_neg q, if_true, ite_self]
    · unfold Sf_T_stateOnAnew; rw [e1, e3]
      rcases hb with q | q
      · simp only [q, Bool.false_eq_true, if_false, if_true]
      · simp only [if_neg q, if_true, ite_self]
    · show F_M_stateOnAnew S a1 a2 = _
      unfold F_M_stateOnAnew F_M_stateOnAnew_j21 F_M_stateOnAnew_j22; rw [e2, e4]
      rcases hb with q | q
      · simp only [q, Bool.false_eq_true, if_false, if_true, if_neg le_10]
      · simp only [if_neg q, if_true, if_neg le_10, ite_self]
    · show Sf_M_stateOnAnew S a1 a2
      unfold Sf_M_stateOnAnew Sf_M_stateOnAnew_j21 Sf_M_stateOnAnew_j22; rw [e2, e4]
      rcases hb with q | q
      · simp only [q, Bool.false_eq_true, if_false, if_true, if_neg le_10]; exact ⟨e2', trivial⟩
      · simp only [if_neg q, if_true, if_neg le_10]
        refine ⟨e2', ?_⟩
        cases vTh A.2.2 a1
        · simp
        · simp [e4']
  rcases item_cases A.2.2 a1 with ⟨i, hi, rfl, hw⟩ | hb
  case inr => exact bad (Or.inl hb)
  by_cases hD : 0 ≤ a2.toInt ∧ a2.toInt ≤ d
  case neg => exact bad (Or.inr hD)
  obtain ⟨D, hD2, rfl⟩ := zI_ex (n := d + 1) hD.1 (by omega) (by omega)
  have hh : F_World_has 9 S (zI i) = 1 := by rw [e1, vTh_I hi, hw]; rfl
  have hdd : F_T_isDay S (zI D) = 1 := by rw [e3, if_pos hD]
  have hx : (zI A.2.1 - 1).toInt = (A.2.1 : Int) - 1 := by
    by_cases h0 : A.2.1 = 0
    · rw [h0]; rfl
    · rw [show (1 : Int32) = zI 1 from rfl, zI_sub (by omega) (by omega), zI_toInt (by omega)]; omega
  obtain ⟨l1, l2⟩ := T_stateOnAnew_L h.c.1 h.ok.w h.ok.d (by omega) hi (show D ≤ 1000 by omega) A.2.1 1300 (Nat.le_refl _) (by omega) (fun j j1 j2 => by omega) _ hx
  obtain ⟨c1, c2⟩ := h.c.2.cell hi (show 0 < 10 by omega)
  have c1' : F_World_cell 9 S (zI i) 0 = sF A.1 i A.2.1 := by
    rw [sF_rep h.ok.w A.2.1 (Nat.le_refl _)]
    refine c1.trans ?_
    unfold wC
    rw [h.ok.same.1 i hi]
    split
    · rename_i q; exact h.ok.same.2.1 i hi q 0 (by omega)
    · rfl
  have c2' : Sf_World_cell 9 S (zI i) 0 := c2
  have hsz : S 1 7 = zI A.2.1 := h.c.1.size
  have hT1 : F_T_stateOnAnew S (zI i) (zI D) = (.inr (sD A.1 i D A.2.1), S) := by
    unfold F_T_stateOnAnew; simp only [hh, hdd, if_neg ne_10, c1', hsz]
    exact congrArg (fun x => ((.inr x : String ⊕ Int32), S)) l1
  have hT2 : Sf_T_stateOnAnew S (zI i) (zI D) := by
    unfold Sf_T_stateOnAnew; simp only [hh, hdd, if_neg ne_10, c1', hsz]; exact ⟨c2', l2, trivial⟩
  generalize hans : sD A.1 i D A.2.1 = ans at *
  have hbm2 := h.bm (zFX.out S ans)
  obtain ⟨f2, f2'⟩ := M_isItem_B hbm2 (zI i)
  have f2 : F_M_isItem (z_uS S 193 0 ans) (zI i) = 1 := by rw [f2, vTh_I hi, hw]; rfl
  obtain ⟨f4, f4'⟩ := M_isDay_I hbm2.d hd4 (zI D)
  rw [if_pos hD] at f4
  obtain ⟨s1, s2⟩ := M_stateAt_I (hbm2.thr 0).m.1 h.ok.w (by omega) hi (show D ≤ 1000 by omega)
  rw [hans] at s1
  refine zOpQ_ok (v := ans) (W := z_uS (z_uS S 193 0 ans) 78 0 0) hT1 hT2 ?_ ?_ (uS_at _ _ _ _) (by rw [z_uS_ne _ _ _ (by omega), uS_at]) (zFX.o30 _ _)
  · show F_M_stateOnAnew (z_uS S 193 0 ans) (zI i) (zI D) = _
    unfold F_M_stateOnAnew F_M_stateOnAnew_j22; simp only [f2, f4, if_neg ne_10, if_pos le_00, s1]
  · show Sf_M_stateOnAnew (z_uS S 193 0 ans) (zI i) (zI D)
    unfold Sf_M_stateOnAnew Sf_M_stateOnAnew_j22; simp only [f2, f4, if_neg ne_10, if_pos le_00]; exact ⟨f2', f4', s2, trivial⟩
