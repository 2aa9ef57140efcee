/-! PURE: queries: the reference finds, all nodes -/
theorem zLk2.day {U : Nat → Nat → Int32} {L : zLg} {n : Nat} {Q : zVq} {D : Int32} (h : zLk2 U L n Q D) {k : Nat} (hw : Q.1.1 k = true) (a : Int32) : fOf L Q.2.2.1 k a D Q.2.1 = decide (a ≤ qDay L Q k) := by
  obtain ⟨hM, hL, hW, hV, hn, hI, hd, d0, hd0, hD⟩ := h
  apply bool_iff
  rw [fOf_day Q.2.1 hd (fun i hi => by have := hD.1 _ (hI.2.1.2 i hi); omega) (fun i j hij hj => hD.2 _ _ (hI.2.2.2.2.1 i j hij hj) (hI.2.1.2 j hj)), decide_eq_true_eq, T_le]
  exact ⟨fun z => z.2, fun z => ⟨hI.2.2.2.2.2 k hw, z⟩⟩
theorem nLoc_H {M : zKm} {V : Nat → Nat → Int32} {H H' : Nat → Nat → Bool} {j r1 : Nat} (hr : r1 ≤ 31) (hc : nCh V j r1) (e : ∀ l, j < l → l < r1 → H' l = H l) : nLoc M V H' j = nLoc M V H j := by
  by_cases hu : isUn (V 186 j)
  · rw [nLoc_un hu, nLoc_un hu]
    obtain ⟨l, a, b, c⟩ := hc.1 hu
    rw [a, zI_clamp (by omega), e l b c]
  · by_cases h40 : V 186 j = 40
    · rw [nLoc_pr h40, nLoc_pr h40]
      obtain ⟨⟨l, a, b, c⟩, l2, a2, b2, c2⟩ := hc.2.1 h40
      rw [a, a2, zI_clamp (by omega), zI_clamp (by omega), e l b c, e l2 b2 c2]
    · rw [nLoc_lf hu h40, nLoc_lf hu h40]
theorem holds_M {E U : Nat → Nat → Int32} {p : Nat} {L : zLg} {n : Nat} {Q : zVq} {D : Int32} {r1 : Nat} (h : zRf E U p L n Q D) {j k : Nat} (hj : j < r1) (hr : r1 ≤ 31) (hk : k < 30) (hc : nCh U j r1) (hH : zHd (kM E p L Q D) U Q.1 r1 (j + 1)) : (Q.1.1 k = true → F_M_holds U (zI j) (zI p) D (zI k) = bI (nLoc (kM E p L Q D) U (Hm U) j k) ∧ Sf_M_holds U (zI j) (zI p) D (zI k)) := by
  intro hw
  have hth := th_of hk hw
  have cj : (zI j).toNatClampNeg = j := zI_clamp (by omega)
  have ck : (zI k).toNatClampNeg = k := zI_clamp (by omega)
  have vj : vp_in (zI j) 31 := vp_in_I (by omega) (by omega)
  have vk : vp_in (zI k) 30 := vp_in_I hk (by omega)
  have hwm := h.1.1.1
  unfold F_M_holds Sf_M_holds
  rw [cj, ck]
  generalize hcc : U 186 j = c at *
  have hcU : U 186 j = c := hcc
  rcases hc.2.2.2.2 with hu | hu | hu
  · rw [hcU] at hu
    obtain ⟨l, el, b1, b2⟩ := hc.1 (by rw [hcU]; exact hu)
    rw [nLoc_un (by rw [hcU]; exact hu), hcU, el, zI_clamp (by omega)]
    by_cases c33 : c = 33
    · obtain ⟨h1, h2⟩ := hold_at hH (show j + 1 ≤ l by omega) b2 hr hk
      rw [if_pos c33, if_pos c33, h1]
      refine ⟨?_, vj, vj, vj, h2, trivial⟩
      show _ = bI (kRl E p Q.1 c (U 187 j) (Hm U l) k)
      unfold kRl
      rw [if_pos c33, hth, Bool.true_and]
      cases Hm U l k <;> rfl
    · have hu' : c = 67 ∨ c = 85 ∨ c = 76 ∨ c = 73 := by
        rcases hu with z | z
        · exact absurd z c33
        · exact z
      obtain ⟨g1, g2⟩ := someNext_I h (show j < 31 by omega) hk hw hcU hu' (fun z => hc.2.2.2.1 (by rw [hcU]; exact z)) el b1 b2 hr hH
      have nn : ∀ x : Int32, (x = 40 ∨ x = 66 ∨ x = 68 ∨ x = 87 ∨ x = 88 ∨ x = 97 ∨ x = 102 ∨ x = 107 ∨ x = 112 ∨ x = 115 ∨ x = 118) → ¬ c = x := by
        intro x hx e
        rw [e] at hu'
        rcases hx with z | z | z | z | z | z | z | z | z | z | z <;> subst z <;> exact absurd hu' (by decide)
      simp only [if_neg c33, if_neg (nn 40 (by decide)), if_neg (nn 66 (by decide)), if_neg (nn 68 (by decide)), if_neg (nn 87 (by decide)), if_neg (nn 88 (by decide)), if_neg (nn 97 (by decide)), if_neg (nn 102 (by decide)), if_neg (nn 107 (by decide)), if_neg (nn 112 (by decide)), if_neg (nn 115 (by decide)), if_neg (nn 118 (by decide)), g1]
      refine ⟨?_, vj, vj, g2, nar01 (bI_z _), trivial⟩
      show _ = bI (kRl E p Q.1 c (U 187 j) (Hm U l) k)
      unfold kRl
      rw [if_neg c33, hth, Bool.true_and]
  · rw [hcU] at hu
    obtain ⟨⟨l, el, b1, b2⟩, l2, el2, b3, b4⟩ := hc.2.1 (by rw [hcU]; exact hu)
    obtain ⟨g1, g2⟩ := joined_I h (show j < 31 by omega) hk el b1 b2 el2 b3 b4 hr hH
    rw [nLoc_pr (hcU.trans hu), el, el2, zI_clamp (by omega), zI_clamp (by omega)]
    subst hu
    simp only [if_neg (show ¬ (40 : Int32) = 33 by decide), if_true, g1]
    exact ⟨rfl, vj, vj, g2, nar01 (bI_z _), trivial⟩
  · rw [hcU] at hu
    have nu : ¬ isUn (U 186 j) := by
      rw [hcU]
      intro z
      rcases z with e | e | e | e | e <;> subst e <;> exact absurd hu (by decide)
    have n40 : U 186 j ≠ 40 := by rw [hcU]; intro e; subst e; exact absurd hu (by decide)
    rw [nLoc_lf nu n40, hcU]
    have hk' : isSm c = true ∨ c = 97 ∨ c = 102 ∨ c = 88 ∨ c = 68 := by
      unfold kd at hu
      split at hu
      · omega
      split at hu
      · omega
      split at hu
      · omega
      split at hu
      · omega
      split at hu
      · assumption
      · omega
    have c0 : U 101 k = wC Q.1 k 0 := col98 hwm hk (show 0 < 10 by omega) hw
    have c9 : U 100 k = wC Q.1 k 9 := col98 hwm hk (show 9 < 10 by omega) hw
    have c8 : U 99 k = wC Q.1 k 8 := col98 hwm hk (show 8 < 10 by omega) hw
    have c7 : U 106 k = wC Q.1 k 7 := col98 hwm hk (show 7 < 10 by omega) hw
    have c4 : U 103 k = wC Q.1 k 4 := col98 hwm hk (show 4 < 10 by omega) hw
    have msm : isSm c = true → ∀ x y, (kM E p L Q D).1 c (U 187 j) x y k = kLe E p L Q D c (U 187 j) 0 0 k := by
      intro z x y
      unfold kM
      dsimp only
      rw [if_pos z]
      show (kTh Q.1 k && _) = _
      rw [hth, Bool.true_and]
    rcases hk' with z | z | z | z | z
    · rw [msm z]
      have hcase := isSm_cases z
      rcases hcase with e | e | e | e | e | e
      · subst e
        simp (decide := true) only [if_true, if_false]
        refine ⟨?_, vj, vj, vk, trivial⟩
        rw [c0]; unfold kLe; simp (decide := true) only [if_true, if_false]; exact bI_dec _
      · subst e
        simp (decide := true) only [if_true, if_false]
        refine ⟨?_, vj, vj, vk, trivial⟩
        rw [c9]; unfold kLe; simp (decide := true) only [if_true, if_false]; exact bI_dec _
      · subst e
        simp (decide := true) only [if_true, if_false]
        refine ⟨?_, vj, vj, vk, trivial⟩
        rw [c8]; unfold kLe; simp (decide := true) only [if_true, if_false]; exact bI_dec _
      · subst e
        simp (decide := true) only [if_true, if_false]
        refine ⟨?_, vj, vj, vk, trivial⟩
        rw [c7]; unfold kLe; simp (decide := true) only [if_true, if_false]; exact bI_dec _
      · subst e
        obtain ⟨g1, g2⟩ := wasIn_I h.1 hk (U 187 j)
        simp (decide := true) only [if_true, if_false]
        rw [g1]
        refine ⟨?_, vj, vj, g2, nar01 (bI_z _), trivial⟩
        rw [gWas_k h.1.2.2.2.2.2.1 h.1.2.2.2.1]; unfold kLe; simp (decide := true) only [if_true, if_false]
      · subst e
        obtain ⟨g1, g2⟩ := lastBy_I h.1 hk
        simp (decide := true) only [if_true, if_false]
        rw [g1]
        refine ⟨?_, vj, vj, g2, trivial⟩
        unfold kLe; simp (decide := true) only [if_true, if_false]; exact bI_dec _
    · subst z
      simp (decide := true) only [if_true, if_false]
      refine ⟨?_, vj, vj, vk, trivial⟩
      rw [c4]
      unfold kM
      dsimp only
      rw [if_neg (show ¬ isSm 97 = true by decide), if_pos rfl]
      show _ = bI (kTh Q.1 k && kLe E p L Q D 97 (U 187 j) 0 0 k)
      rw [hth, Bool.true_and]
      unfold kLe; simp (decide := true) only [if_true, if_false]; exact bI_dec _
    · subst z
      obtain ⟨g1, g2⟩ := compared_I h (show j < 31 by omega) hk (hc.2.2.1 hcU)
      simp (decide := true) only [if_true, if_false]
      rw [g1]
      refine ⟨?_, vj, vj, g2, nar01 (bI_z _), trivial⟩
      unfold kM
      dsimp only
      rw [if_neg (show ¬ isSm 102 = true by decide), if_neg (show ¬ (102 : Int32) = 97 by decide), if_neg (show ¬ (102 : Int32) = 88 by decide), if_neg (show ¬ (102 : Int32) = 68 by decide)]
      show _ = bI (kTh Q.1 k && kLe E p L Q D 102 (U 187 j) (U 189 j) (U 188 j) k)
      rw [hth, Bool.true_and]
      unfold kLe; simp (decide := true) only [if_true, if_false]
    · subst z
      obtain ⟨g1, g2⟩ := cameFrom_I h.1 hk (U 187 j) (U 188 j)
      simp (decide := true) only [if_true, if_false]
      rw [g1]
      refine ⟨?_, vj, vj, vj, g2, nar01 (bI_z _), trivial⟩
      unfold kM
      dsimp only
      rw [if_neg (show ¬ isSm 88 = true by decide), if_neg (show ¬ (88 : Int32) = 97 by decide), if_pos rfl]
      show _ = bI (kTh Q.1 k && kLe E p L Q D 88 (U 187 j) (U 188 j) 0 k)
      rw [hth, Bool.true_and, gCam_k h.1.2.2.2.2.2.1 h.1.2.2.2.1 h.2.2.2.2.1]
      unfold kLe; simp (decide := true) only [if_true, if_false]
    · subst z
      obtain ⟨g1, g2⟩ := wasOf_I h.1 hk (D - U 187 j) D
      simp (decide := true) only [if_true, if_false]
      rw [g1]
      refine ⟨?_, vj, vj, g2, nar01 (bI_z _), trivial⟩
      rw [h.1.day hw]
      unfold kM
      dsimp only
      rw [if_neg (show ¬ isSm 68 = true by decide), if_neg (show ¬ (68 : Int32) = 97 by decide), if_neg (show ¬ (68 : Int32) = 88 by decide), if_pos rfl, hth, Bool.true_and]
theorem nLoc_mk {E U : Nat → Nat → Int32} {p : Nat} {L : zLg} {Q : zVq} {D : Int32} {r1 j : Nat} (hr : r1 ≤ 31) (hc : nCh U j r1) (hH : zHd (kM E p L Q D) U Q.1 r1 (j + 1)) : mk Q.1 (nLoc (kM E p L Q D) U (Hm U) j) := by
  by_cases hu : isUn (U 186 j)
  · rw [nLoc_un hu]; exact mk_rl _ _ _
  · by_cases h40 : U 186 j = 40
    · rw [nLoc_pr h40]
      obtain ⟨⟨l, a, b, c⟩, l2, a2, b2, c2⟩ := hc.2.1 h40
      rw [a, a2, zI_clamp (by omega), zI_clamp (by omega)]
      exact mk_cb (hH l (by omega) c).2.2 (hH l2 (by omega) c2).2.2
    · rw [nLoc_lf hu h40]
      intro q hq
      unfold kM at hq
      dsimp only at hq
      split at hq
      · exact mk_lf _ _ _ _ q hq
      split at hq
      · exact mk_lf _ _ _ _ q hq
      split at hq
      · exact mk_lf _ _ _ _ q hq
      split at hq
      · rw [Bool.and_eq_true] at hq; exact hq.1
      · exact mk_lf _ _ _ _ q hq
theorem zRf.cg {E U V : Nat → Nat → Int32} {p : Nat} {L : zLg} {n : Nat} {Q : zVq} {D : Int32} (h : zRf E U p L n Q D) (e : ∀ k, 78 ≤ k ∧ k ≤ 130 → V k = U k) : zRf E V p L n Q D := by
  obtain ⟨⟨⟨h1, h2, h3⟩, hL, h4⟩, hY, h5⟩ := h
  refine ⟨⟨⟨h1.ag fun k a b => e k (by omega), by rw [e 78 (by omega)]; exact h2, fun i hi => by rw [e 122 (by omega), e 123 (by omega)]; exact h3 i hi⟩, hL.ag (by rw [e 78 (by omega)]) (fun k a b => e k (by omega)), h4⟩, ⟨fun k hk => ?_, fun k hk => ?_⟩, h5⟩
  · rw [e 124 (by omega), e 125 (by omega), e 126 (by omega), e 128 (by omega), e 129 (by omega), e 130 (by omega)]; exact hY.1 k hk
  · rw [e 127 (by omega)]; exact hY.2 k hk
theorem Hm_eq {U V : Nat → Nat → Int32} {j : Nat} (e : ∀ k, k < 30 → V 191 (30 * j + k) = U 191 (30 * j + k)) : Hm V j = Hm U j := by
  funext k
  unfold Hm
  by_cases q : k < 30
  · rw [e k q]
  · rw [decide_eq_false q]; rfl
theorem zHd.cg {M : zKm} {U V : Nat → Nat → Int32} {w : zWd} {r1 j0 : Nat} (h : zHd M U w r1 j0) (hr : r1 ≤ 31) (hc : ∀ j, j < r1 → nCh U j r1) (e : ∀ k, 186 ≤ k ∧ k ≤ 190 → V k = U k) (e2 : ∀ q, 30 * j0 ≤ q → V 191 q = U 191 q) : zHd M V w r1 j0 := by
  have hm : ∀ j, j0 ≤ j → Hm V j = Hm U j := fun j hj => Hm_eq fun k _ => e2 _ (by omega)
  intro j a b
  obtain ⟨g1, g2, g3⟩ := h j a b
  refine ⟨fun k hk => ?_, ?_, by rw [hm j a]; exact g3⟩
  · rw [hm j a, e2 _ (by omega)]; exact g1 k hk
  · rw [hm j a, g2, nLoc_eq (V := U) (W := V) fun k hk => by rw [e k hk]]
    exact (nLoc_H hr (hc j b) fun l l1 l2 => hm l (by omega)).symm
theorem nar_bI (b : Bool) : vp_nar .boolean (bI b) = bI b := by cases b <;> rfl
theorem finds_in {E : Nat → Nat → Int32} {p : Nat} {L : zLg} {n : Nat} {Q : zVq} {D : Int32} {r1 j : Nat} {U0 : Nat → Nat → Int32} (hj : j < r1) (hr : r1 ≤ 31) (hc : ∀ j, j < r1 → nCh U0 j r1) (h0 : zRf E U0 p L n Q D) (hH0 : zHd (kM E p L Q D) U0 Q.1 r1 (j + 1)) : ∀ (m i f : Nat) (U : Nat → Nat → Int32), i + m = 30 → m < f → (∀ k, k ≠ 191 → U k = U0 k) → (∀ q, (q < 30 * j ∨ 30 * j + i ≤ q) → U 191 q = U0 191 q) → (∀ k, k < i → U 191 (30 * j + k) = bI (nLoc (kM E p L Q D) U0 (Hm U0) j k)) → ∃ W, F_M_finds_L14 (zI p) D (zI j) f U (zI i) = W ∧ Sf_M_finds_L14 (zI p) D (zI j) f U (zI i) ∧ (∀ k, k ≠ 191 → W k = U0 k) ∧ (∀ q, (q < 30 * j ∨ 30 * j + 30 ≤ q) → W 191 q = U0 191 q) ∧ ∀ k, k < 30 → W 191 (30 * j + k) = bI (nLoc (kM E p L Q D) U0 (Hm U0) j k) := by
  intro m
  induction m with
  | zero =>
    intro i f U hi hf e1 e2 e3
    obtain ⟨f, rfl⟩ : ∃ g, f = g + 1 := ⟨f - 1, by omega⟩
    have hl : (30 : Int32) ≤ zI i := by rw [show (30 : Int32) = zI 30 from rfl, zI_le (by omega) (by omega)]; omega
    have e : i = 30 := by omega
    unfold F_M_finds_L14 Sf_M_finds_L14
    rw [if_pos hl, if_pos hl]
    rw [e] at e2 e3
    exact ⟨U, rfl, trivial, e1, e2, e3⟩
  | succ m ih =>
    intro i f U hi hf e1 e2 e3
    obtain ⟨f, rfl⟩ : ∃ g, f = g + 1 := ⟨f - 1, by omega⟩
    have hi30 : i < 30 := by omega
    have hl : ¬ (30 : Int32) ≤ zI i := by rw [show (30 : Int32) = zI 30 from rfl, zI_le (by omega) (by omega)]; omega
    have ci : (zI i).toNatClampNeg = i := zI_clamp (by omega)
    have vi : vp_in (zI i) 30 := vp_in_I hi30 (by omega)
    have hU : zRf E U p L n Q D := h0.cg fun k hk => e1 k (by omega)
    have hHU : zHd (kM E p L Q D) U Q.1 r1 (j + 1) := hH0.cg hr hc (fun k hk => e1 k (by omega)) fun q hq => e2 q (by omega)
    have hcU : nCh U j r1 := (hc j hj).eq fun k hk => by rw [e1 k (by omega)]
    have eLoc : nLoc (kM E p L Q D) U (Hm U) j = nLoc (kM E p L Q D) U0 (Hm U0) j := by
      rw [nLoc_eq (V := U0) (W := U) fun k hk => by rw [e1 k (by omega)]]
      exact nLoc_H hr (hc j hj) fun l l1 l2 => Hm_eq fun k _ => e2 _ (by omega)
    have ex : ((30 : Int32) * zI j + zI i).toNatClampNeg = 30 * j + i := by rw [show (30 : Int32) = zI 30 from rfl, zI_mul, zI_add, zI_clamp (by omega)]
    have vx : vp_in ((30 : Int32) * zI j + zI i) 930 := by rw [show (30 : Int32) = zI 30 from rfl, zI_mul, zI_add]; exact vp_in_I (by omega) (by omega)
    have go : ∀ b, b = nLoc (kM E p L Q D) U0 (Hm U0) j i → ∃ W, F_M_finds_L14 (zI p) D (zI j) f (z_uS U 191 (30 * j + i) (bI b)) (zI i + 1) = W ∧ Sf_M_finds_L14 (zI p) D (zI j) f (z_uS U 191 (30 * j + i) (bI b)) (zI i + 1) ∧ (∀ k, k ≠ 191 → W k = U0 k) ∧ (∀ q, (q < 30 * j ∨ 30 * j + 30 ≤ q) → W 191 q = U0 191 q) ∧ ∀ k, k < 30 → W 191 (30 * j + k) = bI (nLoc (kM E p L Q D) U0 (Hm U0) j k) := by
      intro b hb
      rw [zI_succ]
      refine ih (i + 1) f _ (by omega) (by omega) (fun k hk => by rw [z_uS_ne _ _ _ hk]; exact e1 k hk) (fun q hq => by rw [uS_nj _ _ _ (by omega)]; exact e2 q (by omega)) fun k hk => ?_
      by_cases q : k = i
      · subst q; rw [uS_at, hb]
      · rw [uS_nj _ _ _ (by omega)]; exact e3 k (by omega)
    unfold F_M_finds_L14 Sf_M_finds_L14
    rw [if_neg hl, if_neg hl, ci, show (107 : Nat) = 98 + 9 from rfl, hU.1.1.1.has i hi30]
    unfold F_M_finds_l14_61 Sf_M_finds_l14_61
    rw [ex]
    have n0 : vp_nar .boolean 0 = bI false := rfl
    have n1 : vp_nar .boolean 1 = bI true := rfl
    rw [n0, n1]
    cases hw : Q.1.1 i
    · simp only [Bool.false_eq_true, if_false, if_true]
      have hz : nLoc (kM E p L Q D) U0 (Hm U0) j i = false := by
        cases q : nLoc (kM E p L Q D) U0 (Hm U0) j i
        · rfl
        · have := nLoc_mk hr (hc j hj) hH0 i q
          unfold kTh at this
          rw [hw, Bool.and_false] at this; cases this
      obtain ⟨W, w1, w2, w3⟩ := go false hz.symm
      exact ⟨W, w1, ⟨vi, vx, w2⟩, w3⟩
    · simp only [if_true, if_neg ne_10]
      obtain ⟨g1, g2⟩ := holds_M hU hj hr hi30 hcU hHU hw
      rw [eLoc] at g1
      rw [g1]
      cases q : nLoc (kM E p L Q D) U0 (Hm U0) j i
      · rw [if_pos (show bI false = 0 from rfl), if_pos (show bI false = 0 from rfl)]
        obtain ⟨W, w1, w2, w3⟩ := go false q.symm
        exact ⟨W, w1, ⟨vi, g2, vx, w2⟩, w3⟩
      · rw [if_neg (show ¬ bI true = 0 by decide), if_neg (show ¬ bI true = 0 by decide)]
        obtain ⟨W, w1, w2, w3⟩ := go true q.symm
        exact ⟨W, w1, ⟨vi, g2, vx, w2⟩, w3⟩
theorem finds_L {E : Nat → Nat → Int32} {p : Nat} {L : zLg} {n : Nat} {Q : zVq} {D : Int32} {r1 : Nat} (hr : r1 ≤ 31) : ∀ (j f : Nat) (U : Nat → Nat → Int32), j < r1 → j + 1 < f → (∀ j, j < r1 → nCh U j r1) → zRf E U p L n Q D → zHd (kM E p L Q D) U Q.1 r1 (j + 1) → ∃ W, F_M_finds_L7 (zI p) D f U (zI j) = W ∧ Sf_M_finds_L7 (zI p) D f U (zI j) ∧ (∀ k, k ≠ 191 → W k = U k) ∧ zHd (kM E p L Q D) W Q.1 r1 0 := by
  intro j
  induction j with
  | zero =>
    intro f U hj hf hc hU hH
    obtain ⟨f, rfl⟩ : ∃ g, f = g + 1 := ⟨f - 1, by omega⟩
    obtain ⟨f, rfl⟩ : ∃ g, f = g + 1 := ⟨f - 1, by omega⟩
    obtain ⟨W, w1, w2, w3, w4, w5⟩ := finds_in hj hr hc hU hH 30 0 1300 U (by omega) (by omega) (fun _ _ => rfl) (fun _ _ => rfl) (fun k hk => by omega)
    rw [zI_0] at w1 w2
    have hneg : ((0 : Int32) + (-1)) < 0 := by decide
    have n0 : ¬ (0 : Int32) < 0 := by decide
    rw [zI_0]
    unfold F_M_finds_L7 Sf_M_finds_L7
    rw [if_neg n0, if_neg n0, w1]
    refine ⟨W, ?_, ⟨w2, ?_⟩, w3, ?_⟩
    · show F_M_finds_L7 (zI p) D (f + 1) W (0 + (-1)) = W
      unfold F_M_finds_L7; rw [if_pos hneg]
    · show Sf_M_finds_L7 (zI p) D (f + 1) W (0 + (-1))
      unfold Sf_M_finds_L7; rw [if_pos hneg]; trivial
    · have hW1 : zHd (kM E p L Q D) W Q.1 r1 1 := hH.cg hr hc (fun k hk => w3 k (by omega)) fun q hq => w4 q (by omega)
      have eLoc : nLoc (kM E p L Q D) W (Hm W) 0 = nLoc (kM E p L Q D) U (Hm U) 0 := by
        rw [nLoc_eq (V := U) (W := W) fun k hk => by rw [w3 k (by omega)]]
        exact nLoc_H hr (hc 0 hj) fun l l1 l2 => Hm_eq fun k _ => w4 _ (by omega)
      have mk0 := nLoc_mk hr (hc 0 hj) hH
      intro j a b
      by_cases q : j = 0
      · subst q
        have e : Hm W 0 = nLoc (kM E p L Q D) U (Hm U) 0 := by
          generalize nLoc (kM E p L Q D) U (Hm U) 0 = N at *
          funext k
          unfold Hm
          by_cases hk : k < 30
          · rw [decide_eq_true hk, w5 k hk]
            cases N k <;> rfl
          · rw [decide_eq_false hk, mk0.hi (by omega)]; rfl
        exact ⟨fun k hk => by rw [e]; exact w5 k hk, by rw [eLoc]; exact e, by rw [e]; exact mk0⟩
      · exact hW1 j (by omega) b
  | succ j ih =>
    intro f U hj hf hc hU hH
    obtain ⟨f, rfl⟩ : ∃ g, f = g + 1 := ⟨f - 1, by omega⟩
    obtain ⟨W, w1, w2, w3, w4, w5⟩ := finds_in hj hr hc hU hH 30 0 1300 U (by omega) (by omega) (fun _ _ => rfl) (fun _ _ => rfl) (fun k hk => by omega)
    rw [zI_0] at w1 w2
    have n0 : ¬ zI (j + 1) < 0 := zI_n0 (by omega)
    have em : zI (j + 1) + (-1) = zI j := by rw [show zI (j + 1) = zI j + 1 from zI_succ.symm, Int32.add_assoc, show (1 : Int32) + (-1) = 0 by decide, Int32.add_zero]
    have hcW : ∀ j, j < r1 → nCh W j r1 := fun i hi => (hc i hi).eq fun k hk => by rw [w3 k (by omega)]
    have hW1 : zHd (kM E p L Q D) W Q.1 r1 (j + 1) := by
      have hW2 : zHd (kM E p L Q D) W Q.1 r1 (j + 1 + 1) := hH.cg hr hc (fun k hk => w3 k (by omega)) fun q hq => w4 q (by omega)
      have eLoc : nLoc (kM E p L Q D) W (Hm W) (j + 1) = nLoc (kM E p L Q D) U (Hm U) (j + 1) := by
        rw [nLoc_eq (V := U) (W := W) fun k hk => by rw [w3 k (by omega)]]
        exact nLoc_H hr (hc _ hj) fun l l1 l2 => Hm_eq fun k _ => w4 _ (by omega)
      have mk0 := nLoc_mk hr (hc _ hj) hH
      intro i a b
      by_cases q : i = j + 1
      · subst q
        have e : Hm W (j + 1) = nLoc (kM E p L Q D) U (Hm U) (j + 1) := by
          generalize nLoc (kM E p L Q D) U (Hm U) (j + 1) = N at *
          funext k
          unfold Hm
          by_cases hk : k < 30
          · rw [decide_eq_true hk, w5 k hk]
            cases N k <;> rfl
          · rw [decide_eq_false hk, mk0.hi (by omega)]; rfl
        exact ⟨fun k hk => by rw [e]; exact w5 k hk, by rw [eLoc]; exact e, by rw [e]; exact mk0⟩
      · exact hW2 i (by omega) b
    obtain ⟨X, x1, x2, x3, x4⟩ := ih f W (by omega) (by omega) hcW (hU.cg fun k hk => w3 k (by omega)) hW1
    unfold F_M_finds_L7 Sf_M_finds_L7
    rw [if_neg n0, if_neg n0, w1]
    refine ⟨X, ?_, ⟨w2, ?_⟩, fun k hk => by rw [x3 k hk, w3 k hk], x4⟩
    · show F_M_finds_L7 (zI p) D f W (zI (j + 1) + (-1)) = X
      rw [em]; exact x1
    · show Sf_M_finds_L7 (zI p) D f W (zI (j + 1) + (-1))
      rw [em]; exact x2
theorem finds_I {E U : Nat → Nat → Int32} {p : Nat} {L : zLg} {n : Nat} {Q : zVq} {D : Int32} {r1 : Nat} {m : Nat → Bool} (hU : zRf E U p L n Q D) (h54 : U 78 54 = zI r1) (h0 : 0 < r1) (hr : r1 ≤ 30) (hT : zTr (kM E p L Q D) U 0 r1 m) : ∃ W, F_M_finds U (zI p) D = W ∧ Sf_M_finds U (zI p) D ∧ (∀ k, k ≠ 191 → W k = U k) ∧ ∀ k, k < 30 → W 191 k = bI (m k) := by
  have e1 : U 78 54 - 1 = zI (r1 - 1) := by rw [h54, show (1 : Int32) = zI 1 from rfl, zI_sub (by omega) (by omega)]
  have hc : ∀ j, j < r1 → nCh U j r1 := fun j hj => hT.1 j (Nat.zero_le _) hj
  obtain ⟨W, w1, w2, w3, w4⟩ := finds_L (E := E) (p := p) (L := L) (n := n) (Q := Q) (D := D) (show r1 ≤ 31 by omega) (r1 - 1) 1300 U (by omega) (by omega) hc hU (fun j a b => by omega)
  have hm : Hm W 0 = m := by
    refine (hT.eq (W := W) fun k hk j _ _ => by rw [w3 k (by omega)]).2 (Hm W) fun j a b => (w4 j (Nat.zero_le _) b).2.1
  unfold F_M_finds Sf_M_finds
  rw [e1]
  refine ⟨W, w1, ⟨w2, trivial⟩, w3, fun k hk => ?_⟩
  have := (w4 0 (Nat.le_refl _) h0).1 k hk
  rw [Nat.mul_zero, Nat.zero_add, hm] at this
  exact this
