/-! PURE: the workflows' component; draft -/
theorem zCov.ne {W : List zLoc} {k j a : Nat} (hc : zCov W k j = false) (ha : (a, none) ∈ W) (ha2 : a < 194) : k ≠ a := by
  intro e
  subst e
  have : zCov W k j = true := List.any_eq_true.mpr ⟨_, ha, by simp [ha2]⟩
  rw [this] at hc; cases hc
theorem zCov.lt {W : List zLoc} {k j : Nat} (hc : zCov W k j = false) (ha : (194, none) ∈ W) : k < 194 := by
  apply Nat.lt_of_not_le
  intro e
  have : zCov W k j = true := List.any_eq_true.mpr ⟨_, ha, by simp [show ¬ k < 194 by omega]⟩
  rw [this] at hc; cases hc
theorem zCov.nj {W : List zLoc} {k j a s : Nat} (hc : zCov W k j = false) (ha : (a, some s) ∈ W) (ha2 : a < 194) (hk : k = a) : j ≠ s := by
  intro e
  subst e; subst hk
  have : zCov W k j = true := List.any_eq_true.mpr ⟨_, ha, by simp [ha2]⟩
  rw [this] at hc; cases hc
def zFl (fl : Nat → Nat) : Prop := ∀ k, k < 3 → 132 ≤ fl k ∧ (fl k + 7 < 156 ∨ 194 ≤ fl k) ∧ ∀ j, j < 3 → j ≠ k → fl j + 7 < fl k ∨ fl k + 7 < fl j
theorem zFl.lo {fl : Nat → Nat} (h : zFl fl) {k : Nat} (hk : k < 3) : 132 ≤ fl k := (h k hk).1
theorem zFl.off {fl : Nat → Nat} (h : zFl fl) {k : Nat} (hk : k < 3) : fl k + 7 < 156 ∨ 194 ≤ fl k := (h k hk).2.1
theorem zFl.apart {fl : Nat → Nat} (h : zFl fl) {k j : Nat} (hk : k < 3) (hj : j < 3) (hn : j ≠ k) : fl j + 7 < fl k ∨ fl k + 7 < fl j := (h k hk).2.2 j hj hn
/-- a transition that may stand in a workflow -/
def zStepOk (P : Int32) (q : Nat → Int32) : Prop := (∃ a, a < 6 ∧ q 0 = zI a ∧ zB P a = true) ∧ (∃ b, b < 6 ∧ q 1 = zI b ∧ zB P b = true) ∧ (q 3 = -1 ∨ ∃ f, f < 3 ∧ q 3 = zI f) ∧ (0 ≤ (q 4).toInt ∧ (q 4).toInt ≤ 99) ∧ (0 ≤ (q 5).toInt ∧ (q 5).toInt ≤ 2) ∧ (q 5 = 2 → q 3 ≠ -1)
theorem zStepOk.congr {P : Int32} {q q' : Nat → Int32} (h : zStepOk P q) (e : ∀ p, p < 6 → q' p = q p) : zStepOk P q' := by
  unfold zStepOk at h ⊢
  rw [e 0 (by omega), e 1 (by omega), e 3 (by omega), e 4 (by omega), e 5 (by omega)]
  exact h
def zFW (s c : Nat) (S : Nat → Nat → Int32) : Prop := zB (S 55 s) 0 = true ∧ (∀ k, 6 ≤ k → zB (S 55 s) k = false) ∧ ∀ j, j < c → zStepOk (S 55 s) (fun p => S 57 ((s * 8 + j) * 6 + p))
theorem zFW.b0 {s c : Nat} {S : Nat → Nat → Int32} (h : zFW s c S) : zB (S 55 s) 0 = true := h.1
theorem zFW.hi {s c : Nat} {S : Nat → Nat → Int32} (h : zFW s c S) : ∀ k, 6 ≤ k → zB (S 55 s) k = false := h.2.1
theorem zFW.step {s c : Nat} {S : Nat → Nat → Int32} (h : zFW s c S) : ∀ j, j < c → zStepOk (S 55 s) (fun p => S 57 ((s * 8 + j) * 6 + p)) := h.2.2
theorem zFW.ag {s c : Nat} {S S' : Nat → Nat → Int32} (h : zFW s c S) (hc : c ≤ 8) (e1 : S' 55 s = S 55 s) (e3 : ∀ j, s * 48 ≤ j → j < s * 48 + 48 → S' 57 j = S 57 j) : zFW s c S' := by
  refine ⟨by rw [e1]; exact h.b0, by rw [e1]; exact h.hi, fun j hj => ?_⟩
  rw [e1]
  exact (h.step j hj).congr fun p hp => e3 _ (by omega) (by omega)
/-- where the dropped states go -/
def zDM (S U : Nat → Nat → Int32) : Prop := (∀ s, s < 6 → S 58 s ≠ -1 → U 163 s = S 58 s) ∧ (∃ d, d < 3 ∧ S 54 4 = zI d ∧ ∀ s, s < 6 → zB (S 55 d) s = true → zB (S 55 3) s = true ∨ S 58 s ≠ -1) ∧ ∃ r : Nat → Nat, ∀ s, s < 6 → zB (S 55 3) s = false → S 58 s ≠ -1 → ∃ t, t < 6 ∧ S 58 s = zI t ∧ (zB (S 55 3) t = true ∨ S 58 t ≠ -1) ∧ r t < r s
/-- the component -/
def zCF (fl : Nat → Nat) (S U : Nat → Nat → Int32) : Prop := zFl fl ∧ (∀ k, k < 3 → ∃ c, zFR k (fl k) c S U ∧ zFW k c S) ∧ S 54 4 = U 78 26 ∧ (S 54 4 ≠ -1 → (∃ c, zFR 3 156 c S U ∧ zFW 3 c S) ∧ zDM S U)
theorem zCF.fl {fl : Nat → Nat} {S U : Nat → Nat → Int32} (h : zCF fl S U) : zFl fl := h.1
theorem zCF.flow {fl : Nat → Nat} {S U : Nat → Nat → Int32} (h : zCF fl S U) {k : Nat} (hk : k < 3) : ∃ c, zFR k (fl k) c S U ∧ zFW k c S := h.2.1 k hk
theorem zCF.of {fl : Nat → Nat} {S U : Nat → Nat → Int32} (h : zCF fl S U) : S 54 4 = U 78 26 := h.2.2.1
theorem zCF.draft {fl : Nat → Nat} {S U : Nat → Nat → Int32} (h : zCF fl S U) (hd : S 54 4 ≠ -1) : ∃ c, zFR 3 156 c S U ∧ zFW 3 c S := (h.2.2.2 hd).1
theorem zCF.map {fl : Nat → Nat} {S U : Nat → Nat → Int32} (h : zCF fl S U) (hd : S 54 4 ≠ -1) : zDM S U := (h.2.2.2 hd).2
def zDF : List zLoc := [(54, some 4), (55, none), (56, none), (57, none), (58, none), (78, some 26), (132, none), (133, none), (134, none), (135, none), (136, none), (137, none), (138, none), (139, none), (140, none), (141, none), (142, none), (143, none), (144, none), (145, none), (146, none), (147, none), (148, none), (149, none), (150, none), (151, none), (152, none), (153, none), (154, none), (155, none), (156, none), (157, none), (158, none), (159, none), (160, none), (161, none), (162, none), (163, none), (194, none)]
theorem zDF_cells : ∀ i, i < 32 → ((132 + i, none) : zLoc) ∈ zDF := by decide +kernel
theorem zAg.fcell {S U : Nat → Nat → Int32} (g : zAg zDF S U) {k : Nat} (h : 132 ≤ k ∧ k < 164 ∨ 194 ≤ k) : U k = S k := by
  rcases h with h | h
  · refine g.cell ?_
    have := zDF_cells (k - 132) (by omega)
    rw [if_pos (by omega)]
    rwa [show 132 + (k - 132) = k by omega] at this
  · refine g.cell ?_
    rw [if_neg (by omega)]
    decide
theorem zCF.ag {fl : Nat → Nat} {S U : Nat → Nat → Int32} (h : zCF fl S S) (g : zAg zDF S U) : zCF fl U U := by
  have e1 : U 54 4 = S 54 4 := g.slot (by decide)
  have e2 : U 55 = S 55 := g.cell (by decide)
  have e3 : U 56 = S 56 := g.cell (by decide)
  have e4 : U 57 = S 57 := g.cell (by decide)
  have e5 : U 58 = S 58 := g.cell (by decide)
  have e6 : U 78 26 = S 78 26 := g.slot (by decide)
  have e7 : U 163 = S 163 := g.cell (by decide)
  refine ⟨h.fl, fun k hk => ?_, by rw [e1, e6]; exact h.of, fun hd => ?_⟩
  · obtain ⟨c, h1, h2⟩ := h.flow hk
    refine ⟨c, h1.ag (by rw [e2]) (by rw [e3]) (fun j _ _ => by rw [e4]) (fun q hq hq2 => g.fcell ?_), h2.ag h1.le (by rw [e2]) (fun j _ _ => by rw [e4])⟩
    have := h.fl.lo hk
    have := h.fl.off hk
    omega
  · rw [e1] at hd
    obtain ⟨c, h1, h2⟩ := h.draft hd
    refine ⟨⟨c, h1.ag (by rw [e2]) (by rw [e3]) (fun j _ _ => by rw [e4]) (fun q hq hq2 => g.fcell (by omega)), h2.ag h1.le (by rw [e2]) (fun j _ _ => by rw [e4])⟩, ?_⟩
    unfold zDM
    rw [e5, e7, e1, e2]
    exact h.map hd
theorem Flows_begin_I {k : Nat} (hk : k < 3) (S : Nat → Nat → Int32) : ∃ V, F_Flows_begin S (zI k) = V ∧ Sf_Flows_begin S (zI k) ∧ (∀ c, (c < 54 ∨ 58 < c) → V c = S c) ∧ V 54 = upd (S 54) 4 (zI k) ∧ V 55 = upd (S 55) 3 (S 55 k) ∧ V 56 = upd (S 56) 3 (S 56 k) ∧ (∀ j, V 57 j = if 144 ≤ j ∧ j < 192 then S 57 (48 * k + (j - 144)) else S 57 j) ∧ ∀ j, j < 6 → V 58 j = -1 := by
  have e1 : zPut S 55 4 3 (zAt (S 55) 4 (zI k)) = z_uS S 55 3 (S 55 k) := by
    rw [show (3 : Int32) = zI 3 from rfl, zPut_I (by omega) (by omega), zAt_I (by omega) (by omega)]
  have e2 : ∀ R : Nat → Nat → Int32, zPut R 56 4 3 (zAt (R 56) 4 (zI k)) = z_uS R 56 3 (R 56 k) := fun R => by
    rw [show (3 : Int32) = zI 3 from rfl, zPut_I (by omega) (by omega), zAt_I (by omega) (by omega)]
  obtain ⟨V, v1, v2, v3, v4⟩ := Flows_begin_L hk 48 0 1300 (z_uS (z_uS S 55 3 (S 55 k)) 56 3 ((z_uS S 55 3 (S 55 k)) 56 k)) (by omega) (by omega)
  refine ⟨z_uS (zFill V 58 6 (-1)) 54 4 (zI k), ?_, ?_, fun c hc => ?_, ?_, ?_, ?_, fun j => ?_, fun j hj => ?_⟩
  · unfold F_Flows_begin; simp only [z_let, e1, e2]
    exact congrArg (fun V => z_uS (zFill V 58 6 (-1)) 54 4 (zI k)) v1
  · unfold Sf_Flows_begin; simp only [z_let, e1, e2]; exact ⟨v2, trivial⟩
  · rw [z_uS_ne _ _ _ (by omega)]; unfold zFill; rw [if_neg (by omega), v3 c (by omega), z_uS_ne _ _ _ (by omega), z_uS_ne _ _ _ (by omega)]
  · rw [z_uS_self]; unfold zFill; rw [if_neg (by omega), v3 _ (by omega), z_uS_ne _ _ _ (by omega), z_uS_ne _ _ _ (by omega)]
  · rw [z_uS_ne _ _ _ (by omega)]; unfold zFill; rw [if_neg (by omega), v3 _ (by omega), z_uS_ne _ _ _ (by omega), z_uS_self]
  · rw [z_uS_ne _ _ _ (by omega)]; unfold zFill; rw [if_neg (by omega), v3 _ (by omega), z_uS_self, z_uS_ne _ _ _ (by omega)]
  · rw [z_uS_ne _ _ _ (by omega)]; unfold zFill; rw [if_neg (by omega), v4 j, z_uS_ne _ _ _ (by omega), z_uS_ne _ _ _ (by omega)]
  · rw [z_uS_ne _ _ _ (by omega)]; unfold zFill; rw [if_pos rfl, if_pos hj]
def zW8 : List zLoc := [(54, some 4), (55, some 3), (56, some 3), (57, none), (58, none), (78, some 0), (78, some 26), (156, none), (157, none), (158, none), (159, none), (160, none), (161, none), (162, none), (193, none)]
theorem o_8 (fl : Nat → Nat) {S : Nat → Nat → Int32} (a1 a2 a3 a4 a5 a6 : Int32) (h : zCF fl S S) : Sl_8 fl S a1 a2 a3 a4 a5 a6 ∧ zCF fl (Fl_8 fl S a1 a2 a3 a4 a5 a6) (Fl_8 fl S a1 a2 a3 a4 a5 a6) ∧ zWr zW8 S (Fl_8 fl S a1 a2 a3 a4 a5 a6) := by
  have err : ∀ c : Int32, zCF fl (z_uS S 78 0 c) (z_uS S 78 0 c) ∧ zWr zW8 S (z_uS S 78 0 c) := fun c => ⟨h.ag ((zWr.slot (W := [(78, some 0)]) (by decide) S _).ag (by decide)), zWr.slot (by decide) S _⟩
  unfold Sl_8 Fl_8 Sf_L_draft F_L_draft F_T_draft Sf_T_draft Sf_M_draft F_M_draft F_M_thrown F_M_draft_j27 Sf_M_draft_j27
  simp only [T_isKind_eq, M_isIn_eq, T_le, show (0 : Int32).toInt = 0 from rfl, show (1 : Int32).toInt = 1 from rfl, show (2 : Int32).toInt = 2 from rfl]
  by_cases h1 : 0 ≤ a1.toInt ∧ a1.toInt < 3
  case neg =>
    have m0 : ¬ (0 ≤ a1.toInt ∧ a1.toInt ≤ 2) := by omega
    simp only [if_neg h1, if_neg m0, z_b10, z_b01, if_true, if_false, show ¬ ((1 : Int) ≤ 0) by decide]
    exact ⟨⟨⟨trivial, fun E S2 hE => by cases hE; simp⟩, trivial, by simp [uS_at], fun h0 => absurd h0 (by simp)⟩, (err 1).1, (err 1).2⟩
  case pos =>
    have m0 : 0 ≤ a1.toInt ∧ a1.toInt ≤ 2 := by omega
    obtain ⟨k, hk, rfl⟩ := zI_ex (n := 3) h1.1 h1.2 (by omega)
    by_cases h2 : S 54 4 = -1
    case neg =>
      have h3 : ¬ S 78 26 = -1 := by rw [← h.of]; exact h2
      simp only [if_pos h1, if_pos m0, if_neg h2, if_neg h3, z_b10, z_b01, if_true, if_false, show ¬ ((2 : Int) ≤ 0) by decide]
      exact ⟨⟨⟨trivial, fun E S2 hE => by cases hE; simp⟩, trivial, by simp [uS_at], fun h0 => absurd h0 (by simp)⟩, (err 2).1, (err 2).2⟩
    case pos =>
      obtain ⟨V, v1, v2, v3, v4, v5, v6, v7, v8⟩ := Flows_begin_I hk S
      obtain ⟨c, hr, hw⟩ := h.flow hk
      have hlo := h.fl.lo hk
      have hoff := h.fl.off hk
      have hcl : (zI k).toNatClampNeg = k := zI_clamp (by omega)
      have hV55 : V 55 3 = S 55 k := by rw [v5]; simp [upd]
      have hz : zAt (V 55) 4 3 = S 55 k := by rw [show (3 : Int32) = zI 3 from rfl, zAt_I (by omega) (by omega)]; exact hV55
      obtain ⟨Q, q1, q2, q3, q4, q5, q6⟩ := MF_copy_I (fa := 156) (fb := fl k) (c := c) (by omega) hr.le (z_uS (z_uS V 193 0 (S 55 k)) 78 0 0) (by rw [z_uS_ne _ _ _ (by omega), z_uS_ne _ _ _ (by omega), v3 _ (by omega)]; exact hr.many)
      have q3' : ∀ k, (k < 156 ∨ 162 < k) → k ≠ 78 → k ≠ 193 → Q k = V k := fun k h1 h2 h3 => by rw [q3 k (by omega), z_uS_ne _ _ _ h2, z_uS_ne _ _ _ h3]
      simp only [if_pos h1, if_pos m0, if_pos h2, z_b10, z_b01, if_true, if_false, show ((0 : Int) ≤ 0) by decide, v1, hz, hcl]
      have h3 : (z_uS V 193 0 (S 55 k)) 78 26 = -1 := by rw [z_uS_ne _ _ _ (by omega), v3 _ (by omega), ← h.of]; exact h2
      simp only [if_pos h3, q1]
      have hq0 : Q 156 0 = S 55 k := by rw [q4, z_uS_ne _ _ _ (by omega), z_uS_ne _ _ _ (by omega), v3 _ (by omega)]; exact hr.states.symm
      have g54 : (z_uS Q 78 26 (zI k)) 54 4 = zI k := by rw [z_uS_ne _ _ _ (by omega), q3' _ (by omega) (by omega) (by omega), v4]; simp [upd]
      have g55 : (z_uS Q 78 26 (zI k)) 55 = upd (S 55) 3 (S 55 k) := by rw [z_uS_ne _ _ _ (by omega), q3' _ (by omega) (by omega) (by omega), v5]
      have g56 : (z_uS Q 78 26 (zI k)) 56 = upd (S 56) 3 (S 56 k) := by rw [z_uS_ne _ _ _ (by omega), q3' _ (by omega) (by omega) (by omega), v6]
      have g57 : (z_uS Q 78 26 (zI k)) 57 = V 57 := by rw [z_uS_ne _ _ _ (by omega), q3' _ (by omega) (by omega) (by omega)]
      have g58 : (z_uS Q 78 26 (zI k)) 58 = V 58 := by rw [z_uS_ne _ _ _ (by omega), q3' _ (by omega) (by omega) (by omega)]
      have gout : ∀ m, (m < 54 ∨ 58 < m ∧ m < 78 ∨ 78 < m ∧ m < 156 ∨ 162 < m ∧ m ≠ 193) → (z_uS Q 78 26 (zI k)) m = S m := fun m hm => by rw [z_uS_ne _ _ _ (by omega), q3' _ (by omega) (by omega) (by omega), v3 _ (by omega)]
      refine ⟨⟨⟨⟨v2, trivial⟩, fun E S2 hE => by cases hE⟩, ⟨vp_in_I hk (by omega), q2, trivial⟩, ?_, fun _ => ?_⟩, ⟨h.fl, fun m hm => ?_, ?_, fun _ => ⟨⟨c, ?_, ?_⟩, ?_, ⟨k, hk, g54, fun s hs hb => ?_⟩, fun _ => 0, fun s hs hb hm => ?_⟩⟩, ?_⟩
      · rw [show ∀ (Q' : Nat → Nat → Int32), (z_uS Q' 78 26 (zI k)) 78 0 = Q' 78 0 from fun Q' => uS_nj _ _ _ (by omega), q3 _ (by omega), uS_at]
      · rw [z_uS_ne _ _ _ (by omega), q3 _ (by omega), z_uS_ne _ _ _ (by omega), uS_at, hq0]
      · obtain ⟨c', hr', hw'⟩ := h.flow hm
        have e3 : ∀ j, m * 48 ≤ j → j < m * 48 + 48 → (z_uS Q 78 26 (zI k)) 57 j = S 57 j := fun j h1 h2 => by rw [g57, v7 j, if_neg (by omega)]
        have e1 : (z_uS Q 78 26 (zI k)) 55 m = S 55 m := by rw [g55]; simp [upd, show m ≠ 3 by omega]
        have e2 : (z_uS Q 78 26 (zI k)) 56 m = S 56 m := by rw [g56]; simp [upd, show m ≠ 3 by omega]
        have := h.fl.lo hm
        have := h.fl.off hm
        refine ⟨c', hr'.ag e1 e2 e3 (fun q _ _ => ?_), hw'.ag hr'.le e1 e3⟩
        by_cases hq : q = 193
        · omega
        · exact gout q (by omega)
      · rw [g54, uS_at]
      · refine ⟨hr.le, ?_, ?_, ?_, fun j hj p hp => ?_⟩
        · rw [g55, z_uS_ne _ _ _ (by omega), hq0]; simp [upd]
        · rw [g56]; simp [upd]; exact hr.cnt
        · rw [z_uS_ne _ _ _ (by omega)]; exact q5
        · have := hr.le
          rw [g57, v7, if_pos (by omega), z_uS_ne _ _ _ (by omega), q6 p hp j hj, z_uS_ne _ _ _ (by omega), z_uS_ne _ _ _ (by omega), v3 _ (by omega), ← hr.part j hj p hp]
          exact congrArg (S 57) (by omega)
      · have e : (z_uS Q 78 26 (zI k)) 55 3 = S 55 k := by rw [g55]; simp [upd]
        refine ⟨by rw [e]; exact hw.b0, by rw [e]; exact hw.hi, fun j hj => ?_⟩
        have hle := hr.le
        rw [e]
        have ep : ∀ p, p < 6 → (z_uS Q 78 26 (zI k)) 57 ((3 * 8 + j) * 6 + p) = S 57 ((k * 8 + j) * 6 + p) := fun p hp => by
          rw [g57, v7, if_pos (by omega)]; exact congrArg (S 57) (by omega)
        exact (hw.step j hj).congr ep
      · intro s hs hm
        rw [g58, v8 s hs] at hm
        exact absurd rfl hm
      · rw [g55] at hb ⊢
        left
        have : upd (S 55) 3 (S 55 k) k = S 55 k := by simp [upd, show k ≠ 3 by omega]
        rw [this] at hb
        simpa [upd] using hb
      · rw [g58, v8 s hs] at hm
        exact absurd rfl hm
      · intro m j hc
        have n57 := zCov.ne hc (a := 57) (by decide) (by omega)
        have n58 := zCov.ne hc (a := 58) (by decide) (by omega)
        have n6 := zCov.ne hc (a := 156) (by decide) (by omega)
        have n7 := zCov.ne hc (a := 157) (by decide) (by omega)
        have n8 := zCov.ne hc (a := 158) (by decide) (by omega)
        have n9 := zCov.ne hc (a := 159) (by decide) (by omega)
        have n10 := zCov.ne hc (a := 160) (by decide) (by omega)
        have n11 := zCov.ne hc (a := 161) (by decide) (by omega)
        have n12 := zCov.ne hc (a := 162) (by decide) (by omega)
        have n13 := zCov.ne hc (a := 193) (by decide) (by omega)
        by_cases c54 : m = 54
        · have := zCov.nj hc (a := 54) (s := 4) (by decide) (by omega) c54
          subst c54
          rw [z_uS_ne _ _ _ (by omega), q3' _ (by omega) (by omega) (by omega), v4]; simp [upd, this]
        by_cases c55 : m = 55
        · have := zCov.nj hc (a := 55) (s := 3) (by decide) (by omega) c55
          subst c55
          rw [g55]; simp [upd, this]
        by_cases c56 : m = 56
        · have := zCov.nj hc (a := 56) (s := 3) (by decide) (by omega) c56
          subst c56
          rw [g56]; simp [upd, this]
        by_cases c78 : m = 78
        · have i1 := zCov.nj hc (a := 78) (s := 0) (by decide) (by omega) c78
          have i2 := zCov.nj hc (a := 78) (s := 26) (by decide) (by omega) c78
          subst c78
          rw [uS_nj _ _ _ i2, q3 _ (by omega), uS_nj _ _ _ i1, z_uS_ne _ _ _ (by omega), v3 _ (by omega)]
        · rw [gout m (by omega)]
