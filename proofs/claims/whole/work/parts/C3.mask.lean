/-! PURE: queries: what the reference asks of what it read -/
/-- the log, as the reference has it, and what was read of it -/
def zLk2 (U : Nat → Nat → Int32) (L : zLg) (n : Nat) (Q : zVq) (D : Int32) : Prop := vM U Q ∧ zLgM L n U ∧ zLgW L n ∧ zLgV L n ∧ n ≤ 800 ∧ vI L n Q ∧ (∀ i, i < Q.2.1 → ((L (Q.2.2.1 i)).2.1 : Int) ≤ D.toInt) ∧ ∃ d0, d0 ≤ 400 ∧ zLgD L n d0
theorem isAbout_I {U : Nat → Nat → Int32} {L : zLg} {n k item : Nat} (hL : zLgM L n U) (hW : zLgW L n) (hn : n ≤ 800) (hk : k < n) (hi : item < 30) : F_M_isAbout U (zI k) (zI item) = bI (ab L k item) ∧ Sf_M_isAbout U (zI k) (zI item) := by
  obtain ⟨l79, l82, -, -, -⟩ := (hL.2 k hk).1
  have he := (hW k hk).1
  have ck : (zI k).toNatClampNeg = k := zI_clamp (by omega)
  have vk : vp_in (zI k) 1200 := vp_in_I (by omega) (by omega)
  unfold F_M_isAbout Sf_M_isAbout ab
  rw [ck, l79, l82]
  by_cases t0 : (L k).1.1 = 0
  · have e : mK (L k).1 = 0 := by unfold mK; rw [if_pos t0]
    rw [if_pos e, if_pos e, decide_eq_false (fun z => z.1 t0)]
    exact ⟨rfl, vk, trivial⟩
  · have e : ¬ mK (L k).1 = 0 := by
      unfold mK
      rw [if_neg t0]
      rcases he with g | g | g | g
      · exact absurd g.1 t0
      · rw [if_pos g.1]; decide
      · rw [if_neg (by omega), if_pos g.1]
        split
        · decide
        · split
          · decide
          · rw [show (0 : Int32) = zI 0 from rfl, zI_inj (by omega) (by omega)]; omega
      · rw [if_neg (by omega), if_neg (by omega)]; decide
    have hx : (L k).1.2.1 < 30 := by rcases he with g | g | g | g <;> omega
    rw [if_neg e, if_neg e]
    refine ⟨?_, vk, vk, trivial⟩
    show (if zI (L k).1.2.1 = zI item then (1 : Int32) else 0) = _
    by_cases q : (L k).1.2.1 = item
    · rw [if_pos (by rw [q]), decide_eq_true ⟨t0, q⟩]; rfl
    · rw [if_neg (fun z => q ((zI_inj (by omega) (by omega)).mp z)), decide_eq_false (fun z => q z.2)]; rfl
/-- what kind of entry it is, in the reference's numbers -/
theorem mK_1 {e : zEnt} (he : zEok e) : mK e = 1 ↔ e.1 = 1 := by
  unfold mK
  rcases he with g | g | g | g
  · rw [if_pos g.1]; constructor
    · intro h; exact absurd h (by decide)
    · omega
  · rw [if_neg (by omega), if_pos g.1]; exact ⟨fun _ => g.1, fun _ => rfl⟩
  · rw [if_neg (by omega), if_neg (by omega), if_pos g.1]
    constructor
    · intro h
      split at h
      · exact absurd h (by decide)
      · split at h
        · exact absurd h (by decide)
        · rw [show (1 : Int32) = zI 1 from rfl, zI_inj (by omega) (by omega)] at h; omega
    · omega
  · rw [if_neg (by omega), if_neg (by omega), if_neg (by omega)]; constructor
    · intro h; exact absurd h (by decide)
    · omega
theorem mK_2 {e : zEnt} (he : zEok e) : mK e = 2 ↔ isSt e = true := by
  unfold mK isSt
  rw [decide_eq_true_eq]
  rcases he with g | g | g | g
  · rw [if_pos g.1]; constructor
    · intro h; exact absurd h (by decide)
    · omega
  · rw [if_neg (by omega), if_pos g.1]; constructor
    · intro h; exact absurd h (by decide)
    · omega
  · rw [if_neg (by omega), if_neg (by omega), if_pos g.1]
    constructor
    · intro h
      split at h
      · next q => exact ⟨g.1, q⟩
      · split at h
        · exact absurd h (by decide)
        · rw [show (2 : Int32) = zI 2 from rfl, zI_inj (by omega) (by omega)] at h; omega
    · intro h; rw [if_pos h.2]
  · rw [if_neg (by omega), if_neg (by omega), if_neg (by omega)]; constructor
    · intro h; exact absurd h (by decide)
    · omega
/-- the same folds, over any numbers -/
def gWas (L : zLg) (lk : Nat → Nat) (item : Nat) (a : Int32) : Nat → Bool
  | 0 => false
  | c + 1 => gWas L lk item a c || (ab L (lk c) item && ((decide ((L (lk c)).1.1 = 1) && decide (a = 0)) || (isSt (L (lk c)).1 && decide ((L (lk c)).1.2.2.2.2.2 = a))))
def gCam (L : zLg) (lk : Nat → Nat) (cm : Nat → Int32) (item : Nat) (a b : Int32) : Nat → Bool
  | 0 => false
  | c + 1 => gCam L lk cm item a b c || (ab L (lk c) item && (isSt (L (lk c)).1 && (decide (cm c = a) && decide ((L (lk c)).1.2.2.2.2.2 = b))))
theorem mN_st {e : zEnt} (h : isSt e = true) : mN e = e.2.2.2.2.2 := by
  have := (of_decide_eq_true h).1
  unfold mN; rw [if_neg (by omega)]
theorem wasIn_I {U : Nat → Nat → Int32} {L : zLg} {n : Nat} {Q : zVq} {D : Int32} (h : zLk2 U L n Q D) {item : Nat} (hi : item < 30) (a : Int32) : F_M_wasIn U (zI item) a = bI (gWas L Q.2.2.1 item a Q.2.1) ∧ Sf_M_wasIn U (zI item) a := by
  obtain ⟨hM, hL, hW, hV, hn, hI, hd, -⟩ := h
  have hc := hI.2.1.1
  have loop : ∀ m i f, i + m = Q.2.1 → m < f → F_M_wasIn_L5 U (zI item) a f (bI (gWas L Q.2.2.1 item a i)) (zI i) = bI (gWas L Q.2.2.1 item a Q.2.1) ∧ Sf_M_wasIn_L5 U (zI item) a f (bI (gWas L Q.2.2.1 item a i)) (zI i) := by
    intro m
    induction m with
    | zero =>
      intro i f him hf
      obtain ⟨f, rfl⟩ : ∃ g, f = g + 1 := ⟨f - 1, by omega⟩
      have e : i = Q.2.1 := by omega
      subst e
      have hl : U 78 13 ≤ zI Q.2.1 := by rw [hM.2.1, zI_le (by omega) (by omega)]; omega
      unfold F_M_wasIn_L5 Sf_M_wasIn_L5
      rw [if_pos hl, if_pos hl]; exact ⟨rfl, trivial⟩
    | succ m ih =>
      intro i f him hf
      obtain ⟨f, rfl⟩ : ∃ g, f = g + 1 := ⟨f - 1, by omega⟩
      have hic : i < Q.2.1 := by omega
      have hl : ¬ U 78 13 ≤ zI i := by rw [hM.2.1, zI_le (by omega) (by omega)]; omega
      have hk := hI.2.1.2 i hic
      have ci : (zI i).toNatClampNeg = i := zI_clamp (by omega)
      have ck : (zI (Q.2.2.1 i)).toNatClampNeg = Q.2.2.1 i := zI_clamp (by omega)
      have vi : vp_in (zI i) 1200 := vp_in_I (by omega) (by omega)
      have vk : vp_in (zI (Q.2.2.1 i)) 1200 := vp_in_I (by omega) (by omega)
      have e122 := (hM.2.2 i hic).1
      obtain ⟨b1, b2⟩ := isAbout_I hL hW hn hk hi
      obtain ⟨l79, -, -, -, l85⟩ := (hL.2 _ hk).1
      have he := (hW _ hk).1
      obtain ⟨g1, g2⟩ := ih (i + 1) f (by omega) (by omega)
      have es : gWas L Q.2.2.1 item a (i + 1) = (gWas L Q.2.2.1 item a i || (ab L (Q.2.2.1 i) item && ((decide ((L (Q.2.2.1 i)).1.1 = 1) && decide (a = 0)) || (isSt (L (Q.2.2.1 i)).1 && decide ((L (Q.2.2.1 i)).1.2.2.2.2.2 = a))))) := rfl
      rw [es] at g1 g2
      generalize Q.2.2.1 i = k at *
      unfold F_M_wasIn_L5 Sf_M_wasIn_L5
      rw [if_neg hl, if_neg hl, ci, e122, ck, b1, l79]
      unfold F_M_wasIn_l5_52 Sf_M_wasIn_l5_52
      unfold F_M_wasIn_l5_78 Sf_M_wasIn_l5_78 F_M_wasIn_l5_74 Sf_M_wasIn_l5_74
      rw [ck, l79, l85, zI_succ]
      cases qa : gWas L Q.2.2.1 item a i
      · rw [qa, Bool.false_or] at g1 g2
        rw [if_pos (show bI false = 0 from rfl), if_pos (show bI false = 0 from rfl)]
        cases qb : ab L k item
        · rw [qb, Bool.false_and] at g1 g2
          rw [if_pos (show bI false = 0 from rfl), if_pos (show bI false = 0 from rfl)]
          rw [qb] at b1
          exact ⟨g1, vi, b2, g2⟩
        · rw [qb, Bool.true_and] at g1 g2
          rw [if_neg (show ¬ bI true = 0 by decide), if_neg (show ¬ bI true = 0 by decide)]
          -- by the entry's kind
          have last : ∀ v, ((isSt (L k).1 && decide ((L k).1.2.2.2.2.2 = a)) = v → F_M_wasIn_L5 U (zI item) a f (bI v) (zI (i + 1)) = bI (gWas L Q.2.2.1 item a Q.2.1) ∧ Sf_M_wasIn_L5 U (zI item) a f (bI v) (zI (i + 1))) → (isSt (L k).1 && decide ((L k).1.2.2.2.2.2 = a)) = v → (if mK (L k).1 = 2 then (if mN (L k).1 = a then F_M_wasIn_L5 U (zI item) a f 1 (zI (i + 1)) else F_M_wasIn_L5 U (zI item) a f 0 (zI (i + 1))) else F_M_wasIn_L5 U (zI item) a f 0 (zI (i + 1))) = bI (gWas L Q.2.2.1 item a Q.2.1) ∧ (vp_in (zI k) 1200 ∧ (if mK (L k).1 = 2 then (vp_in (zI k) 1200 ∧ (if mN (L k).1 = a then Sf_M_wasIn_L5 U (zI item) a f 1 (zI (i + 1)) else Sf_M_wasIn_L5 U (zI item) a f 0 (zI (i + 1)))) else Sf_M_wasIn_L5 U (zI item) a f 0 (zI (i + 1)))) := by
            intro v hv ev
            obtain ⟨w1, w2⟩ := hv ev
            by_cases q2 : mK (L k).1 = 2
            · have st := (mK_2 he).mp q2
              rw [if_pos q2, if_pos q2, mN_st st]
              rw [st, Bool.true_and] at ev
              by_cases q3 : (L k).1.2.2.2.2.2 = a
              · rw [if_pos q3, if_pos q3]
                rw [decide_eq_true q3] at ev; subst ev
                exact ⟨w1, vk, vk, w2⟩
              · rw [if_neg q3, if_neg q3]
                rw [decide_eq_false q3] at ev; subst ev
                exact ⟨w1, vk, vk, w2⟩
            · have st : isSt (L k).1 = false := by
                cases z : isSt (L k).1
                · rfl
                · exact absurd ((mK_2 he).mpr z) q2
              rw [if_neg q2, if_neg q2]
              rw [st, Bool.false_and] at ev; subst ev
              exact ⟨w1, vk, w2⟩
          by_cases q1 : mK (L k).1 = 1
          · have t1 := (mK_1 he).mp q1
            rw [if_pos q1, if_pos q1]
            rw [decide_eq_true t1, Bool.true_and] at g1 g2
            by_cases q0 : a = 0
            · rw [if_pos q0, if_pos q0]
              rw [decide_eq_true q0, Bool.true_or] at g1 g2
              exact ⟨g1, vi, b2, vk, g2⟩
            · rw [if_neg q0, if_neg q0]
              rw [decide_eq_false q0, Bool.false_or] at g1 g2
              obtain ⟨w1, w2⟩ := last _ (fun _ => ⟨g1, g2⟩) rfl
              exact ⟨w1, vi, b2, vk, w2⟩
          · have t1 : ¬ (L k).1.1 = 1 := fun z => q1 ((mK_1 he).mpr z)
            rw [if_neg q1, if_neg q1]
            rw [decide_eq_false t1, Bool.false_and, Bool.false_or] at g1 g2
            obtain ⟨w1, w2⟩ := last _ (fun _ => ⟨g1, g2⟩) rfl
            exact ⟨w1, vi, b2, vk, w2⟩
      · rw [qa, Bool.true_or] at g1 g2
        rw [if_neg (show ¬ bI true = 0 by decide), if_neg (show ¬ bI true = 0 by decide)]
        exact ⟨g1, vi, g2⟩
  obtain ⟨g1, g2⟩ := loop Q.2.1 0 1300 (by omega) (by omega)
  have e0 : bI (gWas L Q.2.2.1 item a 0) = 0 := rfl
  rw [e0, zI_0] at g1 g2
  unfold F_M_wasIn Sf_M_wasIn
  rw [g1]
  refine ⟨rfl, g2, nar01 ?_, trivial⟩
  cases gWas L Q.2.2.1 item a Q.2.1
  · exact Or.inl rfl
  · exact Or.inr rfl
theorem cameFrom_I {U : Nat → Nat → Int32} {L : zLg} {n : Nat} {Q : zVq} {D : Int32} (h : zLk2 U L n Q D) {item : Nat} (hi : item < 30) (a b : Int32) : F_M_cameFrom U (zI item) a b = bI (gCam L Q.2.2.1 Q.2.2.2 item a b Q.2.1) ∧ Sf_M_cameFrom U (zI item) a b := by
  obtain ⟨hM, hL, hW, hV, hn, hI, hd, -⟩ := h
  have hc := hI.2.1.1
  have loop : ∀ m i f, i + m = Q.2.1 → m < f → F_M_cameFrom_L6 U (zI item) a b f (bI (gCam L Q.2.2.1 Q.2.2.2 item a b i)) (zI i) = bI (gCam L Q.2.2.1 Q.2.2.2 item a b Q.2.1) ∧ Sf_M_cameFrom_L6 U (zI item) a b f (bI (gCam L Q.2.2.1 Q.2.2.2 item a b i)) (zI i) := by
    intro m
    induction m with
    | zero =>
      intro i f him hf
      obtain ⟨f, rfl⟩ : ∃ g, f = g + 1 := ⟨f - 1, by omega⟩
      have e : i = Q.2.1 := by omega
      subst e
      have hl : U 78 13 ≤ zI Q.2.1 := by rw [hM.2.1, zI_le (by omega) (by omega)]; omega
      unfold F_M_cameFrom_L6 Sf_M_cameFrom_L6
      rw [if_pos hl, if_pos hl]; exact ⟨rfl, trivial⟩
    | succ m ih =>
      intro i f him hf
      obtain ⟨f, rfl⟩ : ∃ g, f = g + 1 := ⟨f - 1, by omega⟩
      have hic : i < Q.2.1 := by omega
      have hl : ¬ U 78 13 ≤ zI i := by rw [hM.2.1, zI_le (by omega) (by omega)]; omega
      have hk := hI.2.1.2 i hic
      have ci : (zI i).toNatClampNeg = i := zI_clamp (by omega)
      have ck : (zI (Q.2.2.1 i)).toNatClampNeg = Q.2.2.1 i := zI_clamp (by omega)
      have vi : vp_in (zI i) 1200 := vp_in_I (by omega) (by omega)
      have vk : vp_in (zI (Q.2.2.1 i)) 1200 := vp_in_I (by omega) (by omega)
      obtain ⟨e122, e123⟩ := hM.2.2 i hic
      obtain ⟨b1, b2⟩ := isAbout_I hL hW hn hk hi
      obtain ⟨l79, -, -, -, l85⟩ := (hL.2 _ hk).1
      have he := (hW _ hk).1
      obtain ⟨g1, g2⟩ := ih (i + 1) f (by omega) (by omega)
      have es : gCam L Q.2.2.1 Q.2.2.2 item a b (i + 1) = (gCam L Q.2.2.1 Q.2.2.2 item a b i || (ab L (Q.2.2.1 i) item && (isSt (L (Q.2.2.1 i)).1 && (decide (Q.2.2.2 i = a) && decide ((L (Q.2.2.1 i)).1.2.2.2.2.2 = b))))) := rfl
      rw [es] at g1 g2
      generalize Q.2.2.1 i = k at *
      unfold F_M_cameFrom_L6 Sf_M_cameFrom_L6
      rw [if_neg hl, if_neg hl, ci, e122, e123, ck, b1, l79, l85]
      unfold F_M_cameFrom_l6_76 Sf_M_cameFrom_l6_76 F_M_cameFrom_l6_72 Sf_M_cameFrom_l6_72
      rw [zI_succ]
      cases qa : gCam L Q.2.2.1 Q.2.2.2 item a b i
      · rw [qa, Bool.false_or] at g1 g2
        rw [if_pos (show bI false = 0 from rfl), if_pos (show bI false = 0 from rfl)]
        cases qb : ab L k item
        · rw [qb, Bool.false_and] at g1 g2
          rw [if_pos (show bI false = 0 from rfl), if_pos (show bI false = 0 from rfl)]
          rw [qb] at b1
          exact ⟨g1, vi, b2, g2⟩
        · rw [qb, Bool.true_and] at g1 g2
          rw [if_neg (show ¬ bI true = 0 by decide), if_neg (show ¬ bI true = 0 by decide)]
          by_cases q2 : mK (L k).1 = 2
          · have st := (mK_2 he).mp q2
            rw [if_pos q2, if_pos q2]
            rw [st, Bool.true_and] at g1 g2
            by_cases q3 : Q.2.2.2 i = a
            · rw [if_pos q3, if_pos q3, mN_st st]
              rw [decide_eq_true q3, Bool.true_and] at g1 g2
              by_cases q4 : (L k).1.2.2.2.2.2 = b
              · rw [if_pos q4, if_pos q4]
                rw [decide_eq_true q4] at g1 g2
                exact ⟨g1, vi, b2, vk, vi, vk, g2⟩
              · rw [if_neg q4, if_neg q4]
                rw [decide_eq_false q4] at g1 g2
                exact ⟨g1, vi, b2, vk, vi, vk, g2⟩
            · rw [if_neg q3, if_neg q3]
              rw [decide_eq_false q3, Bool.false_and] at g1 g2
              exact ⟨g1, vi, b2, vk, vi, g2⟩
          · have st : isSt (L k).1 = false := by
              cases z : isSt (L k).1
              · rfl
              · exact absurd ((mK_2 he).mpr z) q2
            rw [if_neg q2, if_neg q2]
            rw [st, Bool.false_and] at g1 g2
            exact ⟨g1, vi, b2, vk, g2⟩
      · rw [qa, Bool.true_or] at g1 g2
        rw [if_neg (show ¬ bI true = 0 by decide), if_neg (show ¬ bI true = 0 by decide)]
        exact ⟨g1, vi, g2⟩
  obtain ⟨g1, g2⟩ := loop Q.2.1 0 1300 (by omega) (by omega)
  have e0 : bI (gCam L Q.2.2.1 Q.2.2.2 item a b 0) = 0 := rfl
  rw [e0, zI_0] at g1 g2
  unfold F_M_cameFrom Sf_M_cameFrom
  rw [g1]
  refine ⟨rfl, g2, nar01 ?_, trivial⟩
  cases gCam L Q.2.2.1 Q.2.2.2 item a b Q.2.1
  · exact Or.inl rfl
  · exact Or.inr rfl
theorem wasOf_I {U : Nat → Nat → Int32} {L : zLg} {n : Nat} {Q : zVq} {D : Int32} (h : zLk2 U L n Q D) {item : Nat} (hi : item < 30) (a b : Int32) : F_M_wasOf U (zI item) a b = bI (fOf L Q.2.2.1 item a b Q.2.1) ∧ Sf_M_wasOf U (zI item) a b := by
  obtain ⟨hM, hL, hW, hV, hn, hI, hd, -⟩ := h
  have hc := hI.2.1.1
  have loop : ∀ m i f, i + m = Q.2.1 → m < f → F_M_wasOf_L6 U (zI item) a b f (bI (fOf L Q.2.2.1 item a b i)) (zI i) = bI (fOf L Q.2.2.1 item a b Q.2.1) ∧ Sf_M_wasOf_L6 U (zI item) a b f (bI (fOf L Q.2.2.1 item a b i)) (zI i) := by
    intro m
    induction m with
    | zero =>
      intro i f him hf
      obtain ⟨f, rfl⟩ : ∃ g, f = g + 1 := ⟨f - 1, by omega⟩
      have e : i = Q.2.1 := by omega
      subst e
      have hl : U 78 13 ≤ zI Q.2.1 := by rw [hM.2.1, zI_le (by omega) (by omega)]; omega
      unfold F_M_wasOf_L6 Sf_M_wasOf_L6
      rw [if_pos hl, if_pos hl]; exact ⟨rfl, trivial⟩
    | succ m ih =>
      intro i f him hf
      obtain ⟨f, rfl⟩ : ∃ g, f = g + 1 := ⟨f - 1, by omega⟩
      have hic : i < Q.2.1 := by omega
      have hl : ¬ U 78 13 ≤ zI i := by rw [hM.2.1, zI_le (by omega) (by omega)]; omega
      have hk := hI.2.1.2 i hic
      have ci : (zI i).toNatClampNeg = i := zI_clamp (by omega)
      have ck : (zI (Q.2.2.1 i)).toNatClampNeg = Q.2.2.1 i := zI_clamp (by omega)
      have vi : vp_in (zI i) 1200 := vp_in_I (by omega) (by omega)
      have vk : vp_in (zI (Q.2.2.1 i)) 1200 := vp_in_I (by omega) (by omega)
      have e122 := (hM.2.2 i hic).1
      obtain ⟨b1, b2⟩ := isAbout_I hL hW hn hk hi
      obtain ⟨-, e80, -⟩ := hL.2 _ hk
      have hd4 := (hW _ hk).2.2.2.1
      obtain ⟨g1, g2⟩ := ih (i + 1) f (by omega) (by omega)
      have es : fOf L Q.2.2.1 item a b (i + 1) = (fOf L Q.2.2.1 item a b i || (ab L (Q.2.2.1 i) item && decide (a.toInt ≤ ((L (Q.2.2.1 i)).2.1 : Int) ∧ ((L (Q.2.2.1 i)).2.1 : Int) ≤ b.toInt))) := rfl
      rw [es] at g1 g2
      generalize Q.2.2.1 i = k at *
      unfold F_M_wasOf_L6 Sf_M_wasOf_L6
      rw [if_neg hl, if_neg hl, ci, e122, ck, b1, e80, M_isIn_eq, zI_toInt (show (L k).2.1 < 2147483648 by omega)]
      unfold F_M_wasOf_l6_59 Sf_M_wasOf_l6_59 F_M_wasOf_l6_55 Sf_M_wasOf_l6_55
      rw [zI_succ]
      cases qa : fOf L Q.2.2.1 item a b i
      · rw [qa, Bool.false_or] at g1 g2
        rw [if_pos (show bI false = 0 from rfl), if_pos (show bI false = 0 from rfl)]
        cases qb : ab L k item
        · rw [qb, Bool.false_and] at g1 g2
          rw [if_pos (show bI false = 0 from rfl), if_pos (show bI false = 0 from rfl)]
          rw [qb] at b1
          exact ⟨g1, vi, b2, g2⟩
        · rw [qb, Bool.true_and] at g1 g2
          rw [if_neg (show ¬ bI true = 0 by decide), if_neg (show ¬ bI true = 0 by decide)]
          by_cases q : a.toInt ≤ ((L k).2.1 : Int) ∧ ((L k).2.1 : Int) ≤ b.toInt
          · rw [decide_eq_true q] at g1 g2
            simp only [if_pos q, if_neg ne_10]
            exact ⟨g1, vi, b2, vi, vk, g2⟩
          · rw [decide_eq_false q] at g1 g2
            simp only [if_neg q, if_true]
            exact ⟨g1, vi, b2, vi, vk, g2⟩
      · rw [qa, Bool.true_or] at g1 g2
        rw [if_neg (show ¬ bI true = 0 by decide), if_neg (show ¬ bI true = 0 by decide)]
        exact ⟨g1, g2⟩
  obtain ⟨g1, g2⟩ := loop Q.2.1 0 1300 (by omega) (by omega)
  have e0 : bI (fOf L Q.2.2.1 item a b 0) = 0 := rfl
  rw [e0, zI_0] at g1 g2
  unfold F_M_wasOf Sf_M_wasOf
  rw [g1]
  refine ⟨rfl, g2, nar01 ?_, trivial⟩
  cases fOf L Q.2.2.1 item a b Q.2.1
  · exact Or.inl rfl
  · exact Or.inr rfl
theorem lastBy_I {U : Nat → Nat → Int32} {L : zLg} {n : Nat} {Q : zVq} {D : Int32} (h : zLk2 U L n Q D) {item : Nat} (hi : item < 30) : F_M_lastBy U (zI item) = qBy L Q item ∧ Sf_M_lastBy U (zI item) := by
  obtain ⟨hM, hL, hW, hV, hn, hI, hd, -⟩ := h
  have hc := hI.2.1.1
  have loop : ∀ m i f, i + m = Q.2.1 → m < f → F_M_lastBy_L4 U (zI item) f (fBy L Q.2.2.1 item i) (zI i) = fBy L Q.2.2.1 item Q.2.1 ∧ Sf_M_lastBy_L4 U (zI item) f (fBy L Q.2.2.1 item i) (zI i) := by
    intro m
    induction m with
    | zero =>
      intro i f him hf
      obtain ⟨f, rfl⟩ : ∃ g, f = g + 1 := ⟨f - 1, by omega⟩
      have e : i = Q.2.1 := by omega
      subst e
      have hl : U 78 13 ≤ zI Q.2.1 := by rw [hM.2.1, zI_le (by omega) (by omega)]; omega
      unfold F_M_lastBy_L4 Sf_M_lastBy_L4
      rw [if_pos hl, if_pos hl]; exact ⟨rfl, trivial⟩
    | succ m ih =>
      intro i f him hf
      obtain ⟨f, rfl⟩ : ∃ g, f = g + 1 := ⟨f - 1, by omega⟩
      have hic : i < Q.2.1 := by omega
      have hl : ¬ U 78 13 ≤ zI i := by rw [hM.2.1, zI_le (by omega) (by omega)]; omega
      have hk := hI.2.1.2 i hic
      have ci : (zI i).toNatClampNeg = i := zI_clamp (by omega)
      have ck : (zI (Q.2.2.1 i)).toNatClampNeg = Q.2.2.1 i := zI_clamp (by omega)
      have vi : vp_in (zI i) 1200 := vp_in_I (by omega) (by omega)
      have vk : vp_in (zI (Q.2.2.1 i)) 1200 := vp_in_I (by omega) (by omega)
      have e122 := (hM.2.2 i hic).1
      obtain ⟨b1, b2⟩ := isAbout_I hL hW hn hk hi
      obtain ⟨-, -, e81⟩ := hL.2 _ hk
      obtain ⟨g1, g2⟩ := ih (i + 1) f (by omega) (by omega)
      have es : fBy L Q.2.2.1 item (i + 1) = if ab L (Q.2.2.1 i) item = true then zI (L (Q.2.2.1 i)).2.2 else fBy L Q.2.2.1 item i := rfl
      rw [es] at g1 g2
      generalize Q.2.2.1 i = k at *
      unfold F_M_lastBy_L4 Sf_M_lastBy_L4
      rw [if_neg hl, if_neg hl, ci, e122, ck, b1, e81, zI_succ]
      cases qb : ab L k item
      · rw [qb, if_neg (by simp)] at g1 g2
        rw [if_pos (show bI false = 0 from rfl), if_pos (show bI false = 0 from rfl)]
        exact ⟨g1, vi, b2, g2⟩
      · rw [qb, if_pos rfl] at g1 g2
        rw [if_neg (show ¬ bI true = 0 by decide), if_neg (show ¬ bI true = 0 by decide)]
        exact ⟨g1, vi, b2, vi, vk, g2⟩
  obtain ⟨g1, g2⟩ := loop Q.2.1 0 1300 (by omega) (by omega)
  have e0 : fBy L Q.2.2.1 item 0 = -1 := rfl
  rw [e0, zI_0] at g1 g2
  unfold F_M_lastBy Sf_M_lastBy
  exact ⟨g1, g2, trivial⟩
/-- the folds over any numbers say the class's -/
theorem gWas_k {L : zLg} {n : Nat} {Q : zVq} {k : Nat} {a : Int32} (hI : vI L n Q) (hV : zLgV L n) : gWas L Q.2.2.1 k a Q.2.1 = kWas L Q k a := by
  have key : ∀ c, c ≤ Q.2.1 → gWas L Q.2.2.1 k a c = (decide (0 ≤ a.toInt ∧ a.toInt < 31) && fWas L Q.2.2.1 k a.toNatClampNeg c) := by
    intro c
    induction c with
    | zero => intro _; simp [gWas, fWas]
    | succ c ih =>
      intro hc
      unfold gWas fWas sWas
      rw [ih (by omega)]
      have hk := hI.2.1.2 c (by omega)
      have hr : isSt (L (Q.2.2.1 c)).1 = true → 0 ≤ (L (Q.2.2.1 c)).1.2.2.2.2.2.toInt ∧ (L (Q.2.2.1 c)).1.2.2.2.2.2.toInt ≤ 5 := by
        intro st
        obtain ⟨t, c0⟩ := of_decide_eq_true st
        have := (hV _ hk).2.1 t
        rw [c0] at this; exact this
      generalize Q.2.2.1 c = e at *
      by_cases q : 0 ≤ a.toInt ∧ a.toInt < 31
      · obtain ⟨s, hs, rfl⟩ := zI_ex (n := 31) q.1 (by omega) (by omega)
        rw [decide_eq_true q, Bool.true_and, Bool.true_and, zI_clamp (by omega)]
        congr 2
        congr 1
        by_cases t : (L e).1.1 = 1
        · by_cases s0 : s = 0
          · rw [decide_eq_true t, decide_eq_true (show zI s = 0 by rw [s0]; rfl), decide_eq_true ⟨t, s0⟩]; rfl
          · rw [decide_eq_true t, decide_eq_false (show ¬ zI s = 0 by rw [show (0 : Int32) = zI 0 from rfl, zI_inj (by omega) (by omega)]; exact s0), decide_eq_false (fun z => s0 z.2)]; rfl
        · rw [decide_eq_false t, decide_eq_false (show ¬ ((L e).1.1 = 1 ∧ s = 0) from fun z => t z.1), Bool.false_and]
      · rw [decide_eq_false q, Bool.false_and, Bool.false_and, Bool.false_or]
        cases st : isSt (L e).1
        · have a0 : ¬ a = 0 := fun z => q (by rw [z]; decide)
          rw [decide_eq_false a0]; simp
        · have hv := hr st
          have a0 : ¬ a = 0 := fun z => q (by rw [z]; decide)
          have av : ¬ (L e).1.2.2.2.2.2 = a := fun z => q (by rw [← z]; omega)
          rw [decide_eq_false a0, decide_eq_false av]; simp
  exact key _ (Nat.le_refl _)
theorem gCam_k {L : zLg} {n : Nat} {Q : zVq} {k : Nat} {a b : Int32} (hI : vI L n Q) (hV : zLgV L n) (hcm : ∀ i, i < Q.2.1 → isSt (L (Q.2.2.1 i)).1 = true → 0 ≤ (Q.2.2.2 i).toInt ∧ (Q.2.2.2 i).toInt ≤ 5) : gCam L Q.2.2.1 Q.2.2.2 k a b Q.2.1 = kCam L Q k a b := by
  have key : ∀ c, c ≤ Q.2.1 → gCam L Q.2.2.1 Q.2.2.2 k a b c = (decide (0 ≤ a.toInt ∧ a.toInt < 6) && (decide (0 ≤ b.toInt ∧ b.toInt < 31) && fCam L Q.2.2.1 Q.2.2.2 k a.toNatClampNeg b.toNatClampNeg c)) := by
    intro c
    induction c with
    | zero => intro _; simp [gCam, fCam]
    | succ c ih =>
      intro hc
      unfold gCam fCam sCam
      rw [ih (by omega)]
      have hk := hI.2.1.2 c (by omega)
      have hr : isSt (L (Q.2.2.1 c)).1 = true → 0 ≤ (L (Q.2.2.1 c)).1.2.2.2.2.2.toInt ∧ (L (Q.2.2.1 c)).1.2.2.2.2.2.toInt ≤ 5 := by
        intro st
        obtain ⟨t, c0⟩ := of_decide_eq_true st
        have := (hV _ hk).2.1 t
        rw [c0] at this; exact this
      have hr2 := hcm c (by omega)
      generalize Q.2.2.1 c = e at *
      generalize Q.2.2.2 c = v at *
      by_cases q : 0 ≤ a.toInt ∧ a.toInt < 6
      · obtain ⟨s, hs, rfl⟩ := zI_ex (n := 6) q.1 (by omega) (by omega)
        rw [decide_eq_true q, Bool.true_and, Bool.true_and, zI_clamp (by omega)]
        by_cases q2 : 0 ≤ b.toInt ∧ b.toInt < 31
        · obtain ⟨u, hu, rfl⟩ := zI_ex (n := 31) q2.1 (by omega) (by omega)
          rw [decide_eq_true q2, Bool.true_and, Bool.true_and, zI_clamp (show u < 2147483648 by omega)]
        · rw [decide_eq_false q2, Bool.false_and, Bool.false_and, Bool.false_or]
          cases st : isSt (L e).1
          · simp
          · have hv := hr st
            rw [decide_eq_false (show ¬ (L e).1.2.2.2.2.2 = b from fun z => q2 (by rw [← z]; omega))]; simp
      · rw [decide_eq_false q, Bool.false_and, Bool.false_and, Bool.false_or]
        cases st : isSt (L e).1
        · simp
        · have hv := hr2 st
          rw [decide_eq_false (show ¬ v = a from fun z => q (by rw [← z]; omega))]; simp
  exact key _ (Nat.le_refl _)
theorem vCm_all {L : zLg} {sel : zWd → Nat → Bool} {w0 : zWd} {n : Nat} (hW : zLgW L n) (hV : zLgV L n) (hK : vKn L sel w0 n) (h0 : w0.1 = fun _ => false) (hg : zRg w0) : ∀ k, k ≤ n → ∀ i, i < (vGo L sel w0 k).2.1 → isSt (L ((vGo L sel w0 k).2.2.1 i)).1 = true → 0 ≤ ((vGo L sel w0 k).2.2.2 i).toInt ∧ ((vGo L sel w0 k).2.2.2 i).toInt ≤ 5 := by
  intro k
  induction k with
  | zero => intro _ i hi; have : i < 0 := hi; omega
  | succ k ih =>
    intro hk i hi hst
    have I := ih (by omega)
    have hI := vI.all hW hV hK h0 hg k (by omega)
    have hKk := hK k (by omega)
    unfold vGo at hi hst ⊢
    split at hi
    · next hs =>
      rw [if_pos hs] at hst ⊢
      generalize vGo L sel w0 k = Q at *
      have hi' : i < Q.2.1 + 1 := hi
      by_cases q : i = Q.2.1
      · subst q
        rw [(vNx_at L k Q).1] at hst
        obtain ⟨t, c0⟩ := of_decide_eq_true hst
        have hw := hKk hs (Or.inl t)
        have hx : (L k).1.2.1 < 30 := by rcases (hW k (by omega)).1 with g | g | g | g <;> omega
        rw [(vNx_at L k Q).2, if_pos ⟨t, c0⟩]
        exact hI.2.2.2.1.1 _ hx hw 0 (by omega)
      · rw [vNx_lk L k Q i (by omega)] at hst
        rw [vNx_cm L k Q i (by omega)]
        exact I i (by omega) hst
    · next hs => rw [if_neg hs] at hst ⊢; exact I i hi hst
