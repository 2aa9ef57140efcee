/-! PURE: queries: the reference finds -/
def kM (E : Nat → Nat → Int32) (p : Nat) (L : zLg) (Q : zVq) (D : Int32) : zKm := (fun c a x y => if isSm c = true then (kK E p L Q D).1 c a 0 0 else if c = 97 then (kK E p L Q D).1 97 a 0 0 else if c = 88 then (kK E p L Q D).1 88 a x 0 else if c = 68 then (fun k => kTh Q.1 k && decide (D - a ≤ qDay L Q k)) else (kK E p L Q D).1 102 a y x, kRl E p Q.1, kCb)
theorem kRl_ty {E : Nat → Nat → Int32} {p : Nat} {w : zWd} {c : Int32} (h : c = 33 ∨ c = 67 ∨ c = 85) (x y : Int32) (m : Nat → Bool) : kRl E p w c x m = kRl E p w c y m := by
  funext k
  unfold kRl
  rcases h with e | e | e
  · rw [if_pos e, if_pos e]
  · subst e
    rw [if_neg (by decide), if_neg (by decide)]
    unfold kNx
    simp only [if_true]
  · subst e
    rw [if_neg (by decide), if_neg (by decide)]
    unfold kNx
    simp only [if_neg (show ¬ (85 : Int32) = 67 by decide), if_true]
theorem kK_M (E : Nat → Nat → Int32) (p : Nat) (L : zLg) (Q : zVq) (D : Int32) : zKl (kK E p L Q D) (kM E p L Q D) := by
  refine ⟨fun c a x y h => ?_, fun x y => ?_, fun a x y => ?_, fun a b y => ?_, fun a b x y => ?_, fun a n s => ?_, fun c x m h => kRl_ty h x 0 m, fun c t m _ => rfl, fun s m m2 _ => rfl⟩
  · unfold kM
    dsimp only
    rw [if_pos h]
  · unfold kM
    dsimp only
    rw [if_neg (show ¬ isSm 97 = true by decide), if_pos rfl]
    funext k
    show (kTh Q.1 k && kLe E p L Q D 97 (-1) 0 0 k) = (kTh Q.1 k && kLe E p L Q D 120 0 0 0 k)
    unfold kLe
    simp (decide := true) only [if_true, if_false]
  · unfold kM
    dsimp only
    rw [if_neg (show ¬ isSm 97 = true by decide), if_pos rfl]
  · unfold kM
    dsimp only
    rw [if_neg (show ¬ isSm 88 = true by decide), if_neg (show ¬ (88 : Int32) = 97 by decide), if_pos rfl]
  · unfold kM
    dsimp only
    rw [if_neg (show ¬ isSm 68 = true by decide), if_neg (show ¬ (68 : Int32) = 97 by decide), if_neg (show ¬ (68 : Int32) = 88 by decide), if_pos rfl]
    funext k
    show _ = (kTh Q.1 k && kLe E p L Q D 68 a b 0 k)
    unfold kLe
    simp (decide := true) only [if_true, if_false]
  · unfold kM
    dsimp only
    rw [if_neg (show ¬ isSm 102 = true by decide), if_neg (show ¬ (102 : Int32) = 97 by decide), if_neg (show ¬ (102 : Int32) = 88 by decide), if_neg (show ¬ (102 : Int32) = 68 by decide)]
/-- all that the reference looks at -/
def zRf (E U : Nat → Nat → Int32) (p : Nat) (L : zLg) (n : Nat) (Q : zVq) (D : Int32) : Prop := zLk2 U L n Q D ∧ eY E U ∧ eK E ∧ zRg Q.1 ∧ (∀ i, i < Q.2.1 → isSt (L (Q.2.2.1 i)).1 = true → 0 ≤ (Q.2.2.2 i).toInt ∧ (Q.2.2.2 i).toInt ≤ 5) ∧ p < 8
/-- what is held of each node so far -/
def Hm (U : Nat → Nat → Int32) (j k : Nat) : Bool := decide (k < 30) && decide (U 191 (30 * j + k) = 1)
def zHd (M : zKm) (U : Nat → Nat → Int32) (w : zWd) (r1 j0 : Nat) : Prop := ∀ j, j0 ≤ j → j < r1 → (∀ k, k < 30 → U 191 (30 * j + k) = bI (Hm U j k)) ∧ Hm U j = nLoc M U (Hm U) j ∧ mk w (Hm U j)
theorem th_of {w : zWd} {k : Nat} (hk : k < 30) (hw : w.1 k = true) : kTh w k = true := by unfold kTh; rw [decide_eq_true hk, hw]; rfl
theorem col98 {U : Nat → Nat → Int32} {w : zWd} (h : zWM 98 U w) {k c : Nat} (hk : k < 30) (hc : c < 10) (hw : w.1 k = true) : U (zMC 98 k c) (zMJ k c) = wC w k c := h.cell hk hc hw
theorem bI_dec (P : Prop) [Decidable P] : (if P then (1 : Int32) else 0) = bI (decide P) := by
  by_cases q : P
  · rw [if_pos q, decide_eq_true q]; rfl
  · rw [if_neg q, decide_eq_false q]; rfl
theorem bI_z (b : Bool) : bI b = 0 ∨ bI b = 1 := by cases b <;> simp [bI]
theorem compared_I {E U : Nat → Nat → Int32} {p : Nat} {L : zLg} {n : Nat} {Q : zVq} {D : Int32} (h : zRf E U p L n Q D) {j k : Nat} (hj : j < 31) (hk : k < 30) (hf : (∃ f, f < 4 ∧ U 187 j = zI f) ∧ (U 189 j = 120 ∨ U 189 j = 60 ∨ U 189 j = 61 ∨ U 189 j = 62)) : F_M_compared U (zI j) (zI p) (zI k) = bI (kCmp (vVal E Q.1 p k (U 187 j).toNatClampNeg) (U 189 j) (U 188 j)) ∧ Sf_M_compared U (zI j) (zI p) (zI k) := by
  obtain ⟨⟨f, hf4, ef⟩, hs⟩ := hf
  obtain ⟨v1, v2⟩ := M_valueFor_I h.2.1 h.2.2.1 h.1.1.1 h.2.2.2.1 h.2.2.2.2.2 hk hf4
  have cj : (zI j).toNatClampNeg = j := zI_clamp (by omega)
  have vj : vp_in (zI j) 31 := vp_in_I hj (by omega)
  unfold F_M_compared Sf_M_compared F_M_compared_j108 F_M_compared_j104
  rw [cj, ef, v1, zI_clamp (show f < 2147483648 by omega)]
  have sf : ∀ v : Int32, (vp_in (zI j) 31 ∧ (Sf_M_valueFor 98 U (zI p) (zI k) (zI f) ∧ (vp_in (zI j) 31 ∧ (if U 189 j = 120 then True else (vp_in (zI j) 31 ∧ (if v = -1 then True else (vp_in (zI j) 31 ∧ (if U 189 j = 62 then True else (vp_in (zI j) 31 ∧ True)))))))))  := by
    intro v
    refine ⟨vj, v2, vj, ?_⟩
    split
    · trivial
    · refine ⟨vj, ?_⟩
      split
      · trivial
      · refine ⟨vj, ?_⟩
        split
        · trivial
        · exact ⟨vj, trivial⟩
  refine ⟨?_, sf _⟩
  generalize vVal E Q.1 p k f = v
  unfold kCmp
  rcases hs with e | e | e | e
  · rw [e, if_pos rfl, if_neg (show ¬ (120 : Int32) = 62 by decide), if_neg (show ¬ (120 : Int32) = 60 by decide), if_neg (show ¬ (120 : Int32) = 61 by decide)]
    exact bI_dec _
  · rw [e, if_neg (show ¬ (60 : Int32) = 120 by decide), if_neg (show ¬ (60 : Int32) = 62 by decide), if_pos rfl, if_neg (show ¬ (60 : Int32) = 62 by decide), if_pos rfl]
    by_cases q : v = -1
    · rw [if_pos q, decide_eq_true q]; rfl
    · rw [if_neg q, decide_eq_false q]
      by_cases q2 : U 188 j ≤ v
      · rw [if_pos q2, decide_eq_false (by rw [T_lt]; rw [T_le] at q2; omega)]; rfl
      · rw [if_neg q2, decide_eq_true (by rw [T_lt]; rw [T_le] at q2; omega)]; rfl
  · rw [e, if_neg (show ¬ (61 : Int32) = 120 by decide), if_neg (show ¬ (61 : Int32) = 62 by decide), if_neg (show ¬ (61 : Int32) = 60 by decide), if_neg (show ¬ (61 : Int32) = 62 by decide), if_neg (show ¬ (61 : Int32) = 60 by decide), if_pos rfl]
    by_cases q : v = -1
    · rw [if_pos q, decide_eq_true q]; rfl
    · rw [if_neg q, decide_eq_false q]
      by_cases q2 : v = U 188 j
      · rw [if_pos q2, decide_eq_true q2]; rfl
      · rw [if_neg q2, decide_eq_false q2]; rfl
  · rw [e, if_neg (show ¬ (62 : Int32) = 120 by decide), if_pos (show (62 : Int32) = 62 from rfl), if_pos (show (62 : Int32) = 62 from rfl)]
    by_cases q : v = -1
    · rw [if_pos q, decide_eq_true q]; rfl
    · rw [if_neg q, decide_eq_false q]
      by_cases q2 : v ≤ U 188 j
      · rw [if_pos q2, decide_eq_false (by rw [T_lt]; rw [T_le] at q2; omega)]; rfl
      · rw [if_neg q2, decide_eq_true (by rw [T_lt]; rw [T_le] at q2; omega)]; rfl
theorem isLinked_I {U : Nat → Nat → Int32} {w : zWd} (h : zWM 98 U w) {t i j : Nat} (ht : t < 3) (hi : i < 30) (hj : j < 30) : F_MW_isLinked 98 U (zI t) (zI i) (zI j) = bI (w.2.2.1 t i j) ∧ Sf_MW_isLinked 98 U (zI t) (zI i) (zI j) := by
  unfold F_MW_isLinked Sf_MW_isLinked
  rw [show (900 : Int32) = zI 900 from rfl, show (30 : Int32) = zI 30 from rfl, zI_mul, zI_mul, zI_add, zI_add, zI_clamp (by omega), h.link t ht i hi j hj]
  have e : (if w.2.2.1 t i j = true then (1 : Int32) else 0) = bI (w.2.2.1 t i j) := rfl
  rw [e]
  exact ⟨rfl, vp_in_I (by omega) (by omega), nar01 (bI_z _), trivial⟩
theorem isNext_I {U : Nat → Nat → Int32} {w : zWd} (h : zWM 98 U w) (hg : zRg w) {j k i : Nat} {c : Int32} (hj : j < 31) (hk : k < 30) (hw : w.1 k = true) (hi : i < 30) (hc : U 186 j = c) (hu : c = 67 ∨ c = 85 ∨ c = 76 ∨ c = 73) (ht : c = 76 ∨ c = 73 → ∃ t, t < 3 ∧ U 187 j = zI t) : F_M_isNext U (zI j) (zI k) (zI i) = bI (w.1 i && kNx w c (U 187 j) k i) ∧ Sf_M_isNext U (zI j) (zI k) (zI i) := by
  have cj : (zI j).toNatClampNeg = j := zI_clamp (by omega)
  have ck : (zI k).toNatClampNeg = k := zI_clamp (by omega)
  have ci : (zI i).toNatClampNeg = i := zI_clamp (by omega)
  have vj : vp_in (zI j) 31 := vp_in_I hj (by omega)
  have vk : vp_in (zI k) 30 := vp_in_I hk (by omega)
  have vi : vp_in (zI i) 30 := vp_in_I hi (by omega)
  unfold F_M_isNext Sf_M_isNext kNx
  rw [cj, ck, ci, hc, show (107 : Nat) = 98 + 9 from rfl, h.has i hi]
  cases qi : w.1 i
  · simp only [Bool.false_eq_true, if_false, if_true, Bool.false_and]
    exact ⟨rfl, vi, trivial⟩
  · simp only [if_true, if_neg ne_10, Bool.true_and]
    rcases hu with e | e | e | e
    · subst e
      have p5 : U 104 i = wC w i 5 := col98 h hi (show 5 < 10 by omega) qi
      rw [if_pos rfl, if_pos rfl, if_pos rfl, p5]
      exact ⟨bI_dec _, vi, vj, vi, trivial⟩
    · subst e
      have p5 : U 104 k = wC w k 5 := col98 h hk (show 5 < 10 by omega) hw
      simp only [if_neg (show ¬ (85 : Int32) = 67 by decide), if_true, p5]
      exact ⟨bI_dec _, vi, vj, vk, trivial⟩
    · obtain ⟨t, ht3, et⟩ := ht (Or.inl e)
      subst e
      obtain ⟨l1, l2⟩ := isLinked_I h ht3 hk hi
      simp only [et, if_neg (show ¬ (76 : Int32) = 67 by decide), if_neg (show ¬ (76 : Int32) = 85 by decide), if_true, l1, zI_clamp (show t < 2147483648 by omega)]
      exact ⟨trivial, vi, vj, vj, l2, nar01 (bI_z _), trivial⟩
    · obtain ⟨t, ht3, et⟩ := ht (Or.inr e)
      subst e
      obtain ⟨l1, l2⟩ := isLinked_I h ht3 hi hk
      simp only [et, if_neg (show ¬ (73 : Int32) = 67 by decide), if_neg (show ¬ (73 : Int32) = 85 by decide), if_neg (show ¬ (73 : Int32) = 76 by decide), l1, zI_clamp (show t < 2147483648 by omega)]
      exact ⟨trivial, vi, vj, vj, l2, nar01 (bI_z _), trivial⟩
theorem hold_at {U : Nat → Nat → Int32} {M : zKm} {w : zWd} {r1 j0 l k : Nat} (h : zHd M U w r1 j0) (hl : j0 ≤ l) (hl1 : l < r1) (hr : r1 ≤ 31) (hk : k < 30) : U 191 ((30 : Int32) * zI l + zI k).toNatClampNeg = bI (Hm U l k) ∧ vp_in ((30 : Int32) * zI l + zI k) 930 := by
  rw [show (30 : Int32) = zI 30 from rfl, zI_mul, zI_add, zI_clamp (by omega)]
  exact ⟨(h l hl hl1).1 k hk, vp_in_I (by omega) (by omega)⟩
theorem someNext_I {E U : Nat → Nat → Int32} {p : Nat} {L : zLg} {n : Nat} {Q : zVq} {D : Int32} {M : zKm} {r1 : Nat} (h : zRf E U p L n Q D) {j k l : Nat} {c : Int32} (hj : j < 31) (hk : k < 30) (hw : Q.1.1 k = true) (hc : U 186 j = c) (hu : c = 67 ∨ c = 85 ∨ c = 76 ∨ c = 73) (ht : c = 76 ∨ c = 73 → ∃ t, t < 3 ∧ U 187 j = zI t) (hl : U 189 j = zI l) (hlj : j < l) (hl1 : l < r1) (hr : r1 ≤ 31) (hH : zHd M U Q.1 r1 (j + 1)) : F_M_someNext U (zI j) (zI p) (zI k) = bI (exN (fun i => (Hm U l i && vSee E Q.1 p i) && kNx Q.1 c (U 187 j) k i) 30 0) ∧ Sf_M_someNext U (zI j) (zI p) (zI k) := by
  have cj : (zI j).toNatClampNeg = j := zI_clamp (by omega)
  have vj : vp_in (zI j) 31 := vp_in_I hj (by omega)
  have one : ∀ i f, 1 ≤ f → F_M_someNext_L6 U (zI j) (zI p) (zI k) f 1 (zI i) = 1 ∧ Sf_M_someNext_L6 U (zI j) (zI p) (zI k) f 1 (zI i) := by
    intro i f hf
    obtain ⟨f, rfl⟩ : ∃ g, f = g + 1 := ⟨f - 1, by omega⟩
    unfold F_M_someNext_L6 Sf_M_someNext_L6
    by_cases q : (30 : Int32) ≤ zI i
    · rw [if_pos q, if_pos q]; exact ⟨rfl, trivial⟩
    · rw [if_neg q, if_neg q, if_neg ne_10, if_neg ne_10]; exact ⟨rfl, trivial⟩
  have loop : ∀ m i f, i + m = 30 → m + 1 < f → F_M_someNext_L6 U (zI j) (zI p) (zI k) f 0 (zI i) = bI (exN (fun i => (Hm U l i && vSee E Q.1 p i) && kNx Q.1 c (U 187 j) k i) m i) ∧ Sf_M_someNext_L6 U (zI j) (zI p) (zI k) f 0 (zI i) := by
    intro m
    induction m with
    | zero =>
      intro i f hi hf
      obtain ⟨f, rfl⟩ : ∃ g, f = g + 1 := ⟨f - 1, by omega⟩
      have q : (30 : Int32) ≤ zI i := by rw [show (30 : Int32) = zI 30 from rfl, zI_le (by omega) (by omega)]; omega
      unfold F_M_someNext_L6 Sf_M_someNext_L6
      rw [if_pos q, if_pos q]; exact ⟨rfl, trivial⟩
    | succ m ih =>
      intro i f hi hf
      obtain ⟨f, rfl⟩ : ∃ g, f = g + 1 := ⟨f - 1, by omega⟩
      have hi30 : i < 30 := by omega
      have q : ¬ (30 : Int32) ≤ zI i := by rw [show (30 : Int32) = zI 30 from rfl, zI_le (by omega) (by omega)]; omega
      obtain ⟨g1, g2⟩ := ih (i + 1) f (by omega) (by omega)
      obtain ⟨n1, n2⟩ := isNext_I h.1.1.1 h.2.2.2.1 hj hk hw hi30 hc hu ht
      obtain ⟨s1, s2⟩ := M_sees_I h.2.1 h.1.1.1 h.2.2.2.1 h.2.2.2.2.2 hi30
      obtain ⟨h1, h2⟩ := hold_at hH (show j + 1 ≤ l by omega) hl1 hr hi30
      have es : exN (fun i => (Hm U l i && vSee E Q.1 p i) && kNx Q.1 c (U 187 j) k i) (m + 1) i = ((Hm U l i && vSee E Q.1 p i) && kNx Q.1 c (U 187 j) k i || exN (fun i => (Hm U l i && vSee E Q.1 p i) && kNx Q.1 c (U 187 j) k i) m (i + 1)) := rfl
      rw [es]
      unfold F_M_someNext_L6 Sf_M_someNext_L6 F_M_someNext_l6_67 Sf_M_someNext_l6_67
      rw [if_neg q, if_neg q, if_pos rfl, if_pos rfl, n1, s1, cj, hl, h1, zI_succ]
      cases qn : (Q.1.1 i && kNx Q.1 c (U 187 j) k i)
      · rw [if_pos (show bI false = 0 from rfl), if_pos (show bI false = 0 from rfl)]
        have e0 : ((Hm U l i && vSee E Q.1 p i) && kNx Q.1 c (U 187 j) k i) = false := by
          cases qs : vSee E Q.1 p i
          · simp
          · rw [vSee_there qs, Bool.true_and] at qn; rw [qn]; simp
        rw [e0, Bool.false_or]
        exact ⟨g1, n2, g2⟩
      · rw [if_neg (show ¬ bI true = 0 by decide), if_neg (show ¬ bI true = 0 by decide)]
        have qk : kNx Q.1 c (U 187 j) k i = true := by rw [Bool.and_eq_true] at qn; exact qn.2
        cases qs : vSee E Q.1 p i
        · simp only [Bool.false_eq_true, if_false, if_true, Bool.and_false, Bool.false_and, Bool.false_or]
          exact ⟨g1, n2, s2, g2⟩
        · simp only [if_true, if_neg ne_10]
          cases qh : Hm U l i
          · rw [if_pos (show bI false = 0 from rfl), if_pos (show bI false = 0 from rfl)]
            simp only [Bool.false_and, Bool.false_or]
            exact ⟨g1, n2, s2, vj, h2, g2⟩
          · rw [if_neg (show ¬ bI true = 0 by decide), if_neg (show ¬ bI true = 0 by decide), qk]
            obtain ⟨o1, o2⟩ := one (i + 1) f (by omega)
            exact ⟨o1, n2, s2, vj, h2, o2⟩
  obtain ⟨g1, g2⟩ := loop 30 0 1300 (by omega) (by omega)
  rw [zI_0] at g1 g2
  unfold F_M_someNext Sf_M_someNext
  rw [g1]
  exact ⟨rfl, g2, nar01 (bI_z _), trivial⟩
theorem joined_I {E U : Nat → Nat → Int32} {p : Nat} {L : zLg} {n : Nat} {Q : zVq} {D : Int32} {M : zKm} {r1 : Nat} (h : zRf E U p L n Q D) {j k l l2 : Nat} (hj : j < 31) (hk : k < 30) (hl : U 189 j = zI l) (hlj : j < l) (hl1 : l < r1) (hl' : U 190 j = zI l2) (hlj' : j < l2) (hl1' : l2 < r1) (hr : r1 ≤ 31) (hH : zHd M U Q.1 r1 (j + 1)) : F_M_joined U (zI j) (zI k) = bI (kCb (U 187 j) (Hm U l) (Hm U l2) k) ∧ Sf_M_joined U (zI j) (zI k) := by
  have cj : (zI j).toNatClampNeg = j := zI_clamp (by omega)
  have vj : vp_in (zI j) 31 := vp_in_I hj (by omega)
  obtain ⟨h1, h2⟩ := hold_at hH (show j + 1 ≤ l by omega) hl1 hr hk
  obtain ⟨h3, h4⟩ := hold_at hH (show j + 1 ≤ l2 by omega) hl1' hr hk
  unfold F_M_joined Sf_M_joined F_M_joined_j72 F_M_joined_j59 kCb
  rw [cj, hl, hl', h1, h3]
  refine ⟨?_, vj, h2, vj, h4, vj, trivial⟩
  by_cases q : U 187 j = 38
  · rw [if_pos q, if_pos q]
    cases Hm U l k <;> cases Hm U l2 k <;> rfl
  · rw [if_neg q, if_neg q]
    cases Hm U l k <;> cases Hm U l2 k <;> rfl
