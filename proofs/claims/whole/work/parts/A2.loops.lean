/-! PURE: publish: the items of a kind mapped, in both -/
theorem mpE.cg {S T : Nat → Nat → Int32} (e5 : T 55 = S 55) (e8 : T 58 = S 58) : ∀ n s e, mpE S n s e → mpE T n s e := by
  intro n
  induction n with
  | zero => intro s e h; exact ⟨h.1, by rw [e5]; exact h.2⟩
  | succ n ih =>
    intro s e h
    rcases h with h | ⟨h1, t, h2, h3, h4⟩
    · exact Or.inl ⟨h.1, by rw [e5]; exact h.2⟩
    · exact Or.inr ⟨by rw [e5]; exact h1, t, h2, by rw [e8]; exact h3, ih t e h4⟩
/-- what becomes of a state -/
def mpS (S : Nat → Nat → Int32) (s : Int32) : Int32 := F_Flows_mappedFrom S s
theorem mapped_J {S U0 : Nat → Nat → Int32} (h : zDM S U0) {s : Nat} (hs : s < 6) (hok : zB (S 55 3) s = true ∨ S 58 s ≠ -1) : ∃ e, e < 6 ∧ zB (S 55 3) e = true ∧ mpS S (zI s) = zI e ∧ (zB (S 55 3) s = true → e = s) ∧ (∀ T, T 55 = S 55 → T 58 = S 58 → F_Flows_mappedFrom T (zI s) = zI e ∧ Sf_Flows_mappedFrom T (zI s)) ∧ ∀ U, U 156 0 = S 55 3 → U 163 = U0 163 → F_MF_mapped 156 U (zI s) = zI e ∧ Sf_MF_mapped 156 U (zI s) := by
  have key : ∃ e, mpE S 5 s e ∧ (zB (S 55 3) s = true → e = s) := by
    cases q : zB (S 55 3) s
    · obtain ⟨e, he⟩ := h.ends hs hok
      exact ⟨e, he, fun z => by cases z⟩
    · exact ⟨s, Or.inl ⟨rfl, q⟩, fun _ => rfl⟩
  obtain ⟨e, he, hse⟩ := key
  have hT : ∀ T : Nat → Nat → Int32, T 55 = S 55 → T 58 = S 58 → F_Flows_mappedFrom T (zI s) = zI e ∧ Sf_Flows_mappedFrom T (zI s) := by
    intro T e5 e8
    obtain ⟨t1, t2⟩ := T_mapped_L 5 s e 0 1300 hs (by omega) (by omega) (mpE.cg e5 e8 5 s e he)
    rw [zI_0] at t1 t2
    unfold F_Flows_mappedFrom Sf_Flows_mappedFrom
    exact ⟨t1, t2, trivial⟩
  refine ⟨e, mpE_lt 5 s e hs he, mpE_in 5 s e he, (hT S rfl rfl).1, hse, hT, fun U h0 h163 => ?_⟩
  obtain ⟨m1, m2⟩ := M_mapped_L (S := S) (U := U) h0 (fun s t hs ht h58 => by rw [h163, h.1 s hs (by rw [h58]; exact m1_ne t (by omega))]; exact h58) 5 s e 1300 hs (by omega) he
  unfold F_MF_mapped Sf_MF_mapped
  exact ⟨m1, m2, trivial⟩
def aPbC (k j : Nat) (A : zA) : Bool := A.2.2.1 j && decide (wC A.2.2 j 9 = zI k)
def aPbS (E : Nat → Nat → Int32) (d p k j : Nat) (A : zA) : zA := if aPbC k j A = true then aC d p j 0 (mpS E (wC A.2.2 j 0)) A else A
def aPb (E : Nat → Nat → Int32) (d p k : Nat) : Nat → Nat → zA → zA
  | 0, _, A => A
  | n + 1, j, A => aPb E d p k n (j + 1) (aPbS E d p k j A)
/-- the items before j are mapped -/
def zPs (E : Nat → Nat → Int32) (k j : Nat) (w : zWd) : Prop := ∀ i, i < 30 → w.1 i = true → (if wC w i 9 = zI k ∧ i < j then zB (E 55 3) (wC w i 0).toNatClampNeg else eS E (wC w i 9) (wC w i 0)) = true
def pbI (E : Nat → Nat → Int32) (d p k : Nat) (A0 : zA) (j : Nat) (A : zA) : Prop := zOk d A ∧ A.2.1 ≤ 800 + j ∧ zNw A0 A ∧ aBy p A0.2.1 A ∧ zPs E k j A.2.2
/-- what publishing needs of the draft -/
def pbD (E U0 : Nat → Nat → Int32) (k : Nat) : Prop := zDM E U0 ∧ k < 3 ∧ (∀ s, s < 6 → zB (E 55 k) s = true → zB (E 55 3) s = true ∨ E 58 s ≠ -1)
theorem wC_setC {w : zWd} {i c : Nat} {v : Int32} {j q : Nat} : wC (zSetC w i c v) j q = if j = i ∧ q = c ∧ w.1 j = true then v else wC w j q := by
  unfold wC zSetC
  by_cases hw : w.1 j = true
  · simp only [hw, if_true]
    by_cases e : j = i ∧ q = c
    · rw [if_pos e, if_pos ⟨e.1, e.2, trivial⟩]
    · rw [if_neg e, if_neg (fun z => e ⟨z.1, z.2.1⟩)]
  · rw [if_neg hw, if_neg (fun z => hw z.2.2), if_neg hw]
theorem wC_aC0 {d p i : Nat} {v : Int32} {A : zA} {j q : Nat} : wC (aC d p i 0 v A).2.2 j q = if j = i ∧ q = 0 ∧ A.2.2.1 j = true then v else wC A.2.2 j q := by
  unfold aC
  by_cases e : wC A.2.2 i 0 = v
  · rw [if_pos e]
    by_cases g : j = i ∧ q = 0 ∧ A.2.2.1 j = true
    · rw [if_pos g, g.1, g.2.1, e]
    · rw [if_neg g]
  · rw [if_neg e]
    exact wC_setC
theorem has_aC0 {d p i : Nat} {v : Int32} {A : zA} : (aC d p i 0 v A).2.2.1 = A.2.2.1 := by
  unfold aC
  split <;> rfl
/-- one step -/
theorem pbI.step {E U0 : Nat → Nat → Int32} {d p k : Nat} {A0 : zA} {j : Nat} {A : zA} (hD : pbD E U0 k) (hp : p < 8) (hj : j < 30) (h : pbI E d p k A0 j A) : pbI E d p k A0 (j + 1) (aPbS E d p k j A) := by
  obtain ⟨h1, h2, h3, h4, h5⟩ := h
  have hrg := h1.rg
  unfold aPbS
  by_cases q : aPbC k j A = true
  · rw [if_pos q]
    unfold aPbC at q
    simp only [Bool.and_eq_true, decide_eq_true_eq] at q
    obtain ⟨hw, hk⟩ := q
    obtain ⟨s, hs, es⟩ := hrg.state hj hw
    have h5j := h5 j hj hw
    rw [if_neg (by omega)] at h5j
    unfold eS at h5j
    rw [hk, es, zI_clamp (show k < 2147483648 by have := hD.2.1; omega), zI_clamp (show s < 2147483648 by omega)] at h5j
    obtain ⟨e, he, hin, hm, -, -, -⟩ := mapped_J hD.1 hs (hD.2.2 s hs h5j)
    rw [es, hm]
    have hrg0 : rgC 0 (zI e) := ⟨by show (0 : Int) ≤ _; rw [zI_toInt (by omega)]; omega, by show _ ≤ (5 : Int); rw [zI_toInt (by omega)]; omega⟩
    obtain ⟨o1, o2, o3⟩ := aC_ok (p := p) (v := zI e) h1 hj (show 0 < 9 by omega) hw hrg0 (by omega) hp
    refine ⟨o1, by omega, h3.aC, h4.aC, fun i hi hwi => ?_⟩
    rw [has_aC0] at hwi
    have h5i := h5 i hi hwi
    rw [wC_aC0, wC_aC0, if_neg (show ¬ (i = j ∧ 9 = 0 ∧ A.2.2.1 i = true) from fun z => by have := z.2.1; omega)]
    by_cases qi : i = j
    · subst qi
      rw [if_pos ⟨hk, by omega⟩, if_pos ⟨rfl, rfl, hwi⟩, zI_clamp (show e < 2147483648 by omega)]
      exact hin
    · rw [if_neg (show ¬ (i = j ∧ 0 = 0 ∧ A.2.2.1 i = true) from fun z => qi z.1)]
      by_cases qk : wC A.2.2 i 9 = zI k ∧ i < j
      · rw [if_pos qk] at h5i; rw [if_pos ⟨qk.1, by omega⟩]; exact h5i
      · rw [if_neg qk] at h5i
        rw [if_neg (fun z => qk ⟨z.1, by have := z.2; omega⟩)]; exact h5i
  · rw [if_neg q]
    refine ⟨h1, by omega, h3, h4, fun i hi hwi => ?_⟩
    have h5i := h5 i hi hwi
    by_cases qk : wC A.2.2 i 9 = zI k ∧ i < j
    · rw [if_pos qk] at h5i; rw [if_pos ⟨qk.1, by omega⟩]; exact h5i
    · rw [if_neg qk] at h5i
      rw [if_neg (fun z => ?_)]
      · exact h5i
      · obtain ⟨z1, z2⟩ := z
        by_cases qi : i = j
        · subst qi
          exact q (by unfold aPbC; rw [hwi, Bool.true_and]; exact decide_eq_true z1)
        · exact qk ⟨z1, by omega⟩
theorem pbI.all {E U0 : Nat → Nat → Int32} {d p k : Nat} {A0 : zA} (hD : pbD E U0 k) (hp : p < 8) : ∀ (n j : Nat) (A : zA), n + j = 30 → pbI E d p k A0 j A → pbI E d p k A0 30 (aPb E d p k n j A) := by
  intro n
  induction n with
  | zero =>
    intro j A hj h
    have e : j = 30 := by omega
    rw [e] at h
    exact h
  | succ n ih => intro j A hj h; exact ih (j + 1) _ (by omega) (h.step hD hp (by omega))
theorem T_pb_L {E U0 : Nat → Nat → Int32} {d p k : Nat} {A0 : zA} {x2 : Int32} (hD : pbD E U0 k) (hp : p < 8) : ∀ (n j f : Nat) (T : Nat → Nat → Int32) (A : zA), n + j = 30 → n < f → zCX E T d → T 54 4 = zI k → T 55 = E 55 → T 58 = E 58 → zRC T A → pbI E d p k A0 j A →
    ∃ V, F_T_publish_L36 (zI p) x2 f T (zI j) = V ∧ Sf_T_publish_L36 (zI p) x2 f T (zI j) ∧ zFCX T V ∧ zRC V (aPb E d p k n j A) := by
  intro n
  induction n with
  | zero =>
    intro j f T A hj hf hX h54 h55 h58 hC hI
    obtain ⟨f, rfl⟩ : ∃ g, f = g + 1 := ⟨f - 1, by omega⟩
    have hl : (30 : Int32) ≤ zI j := by rw [show (30 : Int32) = zI 30 from rfl, zI_le (by omega) (by omega)]; omega
    unfold F_T_publish_L36 Sf_T_publish_L36
    rw [if_pos hl, if_pos hl]
    exact ⟨T, rfl, trivial, zFCX.rfl, hC⟩
  | succ n ih =>
    intro j f T A hj hf hX h54 h55 h58 hC hI
    obtain ⟨f, rfl⟩ : ∃ g, f = g + 1 := ⟨f - 1, by omega⟩
    have hj30 : j < 30 := by omega
    have hl : ¬ (30 : Int32) ≤ zI j := by rw [show (30 : Int32) = zI 30 from rfl, zI_le (by omega) (by omega)]; omega
    have hI2 := hI.step hD hp hj30
    obtain ⟨h1, h2, h3, h4, h5⟩ := hI
    have hrg := h1.rg
    obtain ⟨c9, c9'⟩ := hC.2.cell hj30 (show 9 < 10 by omega)
    obtain ⟨c0, c0'⟩ := hC.2.cell hj30 (show 0 < 10 by omega)
    change F_World_cell 9 T (zI j) 9 = _ at c9
    change F_World_cell 9 T (zI j) 0 = _ at c0
    have hh : F_World_has 9 T (zI j) = if A.2.2.1 j = true then 1 else 0 := by rw [World_has_I hj30, hC.2.has j hj30]
    have e : aPb E d p k (n + 1) j A = aPb E d p k n (j + 1) (aPbS E d p k j A) := rfl
    rw [e]
    have skip : aPbS E d p k j A = A → ∃ V, F_T_publish_L36 (zI p) x2 f T (zI (j + 1)) = V ∧ Sf_T_publish_L36 (zI p) x2 f T (zI (j + 1)) ∧ zFCX T V ∧ zRC V (aPb E d p k n (j + 1) (aPbS E d p k j A)) := by
      intro ea
      rw [ea] at hI2 ⊢
      exact ih (j + 1) f T A (by omega) (by omega) hX h54 h55 h58 hC hI2
    unfold F_T_publish_L36 Sf_T_publish_L36
    simp only [if_neg hl, zI_succ, hh, c9, c0, h54]
    cases hw : A.2.2.1 j
    · have ea : aPbS E d p k j A = A := by unfold aPbS aPbC; rw [hw]; rfl
      obtain ⟨V, v1, v2, v3, v4⟩ := skip ea
      simp only [Bool.false_eq_true, if_false, if_true]
      exact ⟨V, v1, ⟨c0', v2⟩, v3, v4⟩
    · by_cases hk : wC A.2.2 j 9 = zI k
      · have q : aPbC k j A = true := by unfold aPbC; rw [hw, Bool.true_and]; exact decide_eq_true hk
        obtain ⟨s, hs, es⟩ := hrg.state hj30 hw
        have h5j := h5 j hj30 hw
        rw [if_neg (by omega)] at h5j
        unfold eS at h5j
        rw [hk, es, zI_clamp (show k < 2147483648 by have := hD.2.1; omega), zI_clamp (show s < 2147483648 by omega)] at h5j
        obtain ⟨m, hm6, hin, hm, hsm, hT, -⟩ := mapped_J hD.1 hs (hD.2.2 s hs h5j)
        obtain ⟨t1, t2⟩ := hT T h55 h58
        have hf3 : F_Flows_has T 3 (zI s) = if zB (E 55 3) s = true then 1 else 0 := by
          have := Flows_has_I T (s := 3) (k := s) (by omega) (by omega)
          rw [h55] at this; exact this
        simp only [if_true, if_neg ne_10, if_pos hk, es, hf3]
        by_cases hb : zB (E 55 3) s = true
        · have ea : aPbS E d p k j A = A := by unfold aPbS; rw [if_pos q, es, hm, hsm hb]; unfold aC; rw [if_pos es]
          obtain ⟨V, v1, v2, v3, v4⟩ := skip ea
          simp only [if_pos hb, if_neg ne_10]
          exact ⟨V, v1, ⟨c0', c9', Sf_Flows_has_I _ _ _, v2⟩, v3, v4⟩
        · simp only [if_neg hb, if_true, t1]
          obtain ⟨V, v1, v2, v3, v4⟩ := T_chg hX hC (by omega) p hj30 (show 0 < 9 by omega) (zI m)
          change F_T_change T (zI p) (zI j) 0 0 (zI m) = V at v1
          change Sf_T_change T (zI p) (zI j) 0 0 (zI m) at v2
          have ea : aPbS E d p k j A = aC d p j 0 (zI m) A := by unfold aPbS; rw [if_pos q, es, hm]
          rw [ea] at hI2 ⊢
          obtain ⟨W, w1, w2, w3, w4⟩ := ih (j + 1) f V _ (by omega) (by omega) (hX.cx v3) (by rw [v3.1 54 (by omega)]; exact h54) (by rw [v3.1 55 (by omega)]; exact h55) (by rw [v3.1 58 (by omega)]; exact h58) v4 hI2
          simp only [z_let, v1]
          exact ⟨W, w1, ⟨c0', c9', Sf_Flows_has_I _ _ _, t2, v2, w2⟩, v3.trans w3, w4⟩
      · have ea : aPbS E d p k j A = A := by unfold aPbS aPbC; rw [if_neg (by simp [hk])]
        obtain ⟨V, v1, v2, v3, v4⟩ := skip ea
        simp only [if_true, if_neg ne_10, if_neg hk]
        exact ⟨V, v1, ⟨c0', c9', v2⟩, v3, v4⟩
theorem M_pb_L {fl : Nat → Nat} {E U0 : Nat → Nat → Int32} {d p k rn na : Nat} {A0 : zA} {x2 : Int32} (hD : pbD E U0 k) (hp : p < 8) : ∀ (n j f : Nat) (U : Nat → Nat → Int32) (A : zA), n + j = 30 → n < f → zBX fl E U d rn → U 78 26 = zI k → U 156 0 = E 55 3 → U 163 = U0 163 → zRM 86 U A → pbI E d p k A0 j A →
    ∃ V, F_M_publish_L44 fl na (zI p) x2 f U (zI j) = V ∧ Sf_M_publish_L44 fl na (zI p) x2 f U (zI j) ∧ zFMX U V ∧ zRM 86 V (aPb E d p k n j A) := by
  intro n
  induction n with
  | zero =>
    intro j f U A hj hf hX h26 h156 h163 hC hI
    obtain ⟨f, rfl⟩ : ∃ g, f = g + 1 := ⟨f - 1, by omega⟩
    have hl : (30 : Int32) ≤ zI j := by rw [show (30 : Int32) = zI 30 from rfl, zI_le (by omega) (by omega)]; omega
    unfold F_M_publish_L44 Sf_M_publish_L44
    rw [if_pos hl, if_pos hl]
    exact ⟨U, rfl, trivial, zFMX.rfl, hC⟩
  | succ n ih =>
    intro j f U A hj hf hX h26 h156 h163 hC hI
    obtain ⟨f, rfl⟩ : ∃ g, f = g + 1 := ⟨f - 1, by omega⟩
    have hj30 : j < 30 := by omega
    have hl : ¬ (30 : Int32) ≤ zI j := by rw [show (30 : Int32) = zI 30 from rfl, zI_le (by omega) (by omega)]; omega
    have hI2 := hI.step hD hp hj30
    obtain ⟨h1, h2, h3, h4, h5⟩ := hI
    have hrg := h1.rg
    have hh : U 95 j = if A.2.2.1 j = true then 1 else 0 := hC.2.1.has j hj30
    have e : aPb E d p k (n + 1) j A = aPb E d p k n (j + 1) (aPbS E d p k j A) := rfl
    have vj : vp_in (zI j) 30 := vp_in_I hj30 (by omega)
    rw [e]
    have skip : aPbS E d p k j A = A → ∃ V, F_M_publish_L44 fl na (zI p) x2 f U (zI (j + 1)) = V ∧ Sf_M_publish_L44 fl na (zI p) x2 f U (zI (j + 1)) ∧ zFMX U V ∧ zRM 86 V (aPb E d p k n (j + 1) (aPbS E d p k j A)) := by
      intro ea
      rw [ea] at hI2 ⊢
      exact ih (j + 1) f U A (by omega) (by omega) hX h26 h156 h163 hC hI2
    unfold F_M_publish_L44 Sf_M_publish_L44
    simp only [if_neg hl, zI_succ, zI_clamp (show j < 2147483648 by omega), hh, h26]
    cases hw : A.2.2.1 j
    · have ea : aPbS E d p k j A = A := by unfold aPbS aPbC; rw [hw]; rfl
      obtain ⟨V, v1, v2, v3, v4⟩ := skip ea
      simp only [Bool.false_eq_true, if_false, if_true]
      exact ⟨V, v1, ⟨vj, v2⟩, v3, v4⟩
    · have c9 : U 88 j = wC A.2.2 j 9 := hC.2.1.cell hj30 (show 9 < 10 by omega) hw
      have c0 : U 89 j = wC A.2.2 j 0 := hC.2.1.cell hj30 (show 0 < 10 by omega) hw
      simp only [c9, c0]
      by_cases hk : wC A.2.2 j 9 = zI k
      · have q : aPbC k j A = true := by unfold aPbC; rw [hw, Bool.true_and]; exact decide_eq_true hk
        obtain ⟨s, hs, es⟩ := hrg.state hj30 hw
        have h5j := h5 j hj30 hw
        rw [if_neg (by omega)] at h5j
        unfold eS at h5j
        rw [hk, es, zI_clamp (show k < 2147483648 by have := hD.2.1; omega), zI_clamp (show s < 2147483648 by omega)] at h5j
        obtain ⟨m, hm6, hin, hm, hsm, -, hM⟩ := mapped_J hD.1 hs (hD.2.2 s hs h5j)
        obtain ⟨t1, t2⟩ := hM U h156 h163
        simp only [if_true, if_neg ne_10, if_pos hk, es, t1]
        obtain ⟨V, v1, v2, v3, v4⟩ := M_chg hX hC h1 (by omega) p hj30 (show 0 < 9 by omega) hw (zI m)
        change F_M_change 86 U 2 (zI p) (zI j) 0 (zI m) = V at v1
        change Sf_M_change 86 U 2 (zI p) (zI j) 0 (zI m) at v2
        have ea : aPbS E d p k j A = aC d p j 0 (zI m) A := by unfold aPbS; rw [if_pos q, es, hm]
        rw [ea] at hI2 ⊢
        obtain ⟨W, w1, w2, w3, w4⟩ := ih (j + 1) f V _ (by omega) (by omega) (hX.mx v3) (by rw [v3.2 26 (by omega) (by omega)]; exact h26) (by rw [v3.1 156 (by omega)]; exact h156) (by rw [v3.1 163 (by omega)]; exact h163) v4 hI2
        simp only [z_let, v1]
        exact ⟨W, w1, ⟨vj, vj, vj, t2, v2, w2⟩, v3.trans w3, w4⟩
      · have ea : aPbS E d p k j A = A := by unfold aPbS aPbC; rw [if_neg (by simp [hk])]
        obtain ⟨V, v1, v2, v3, v4⟩ := skip ea
        simp only [if_true, if_neg ne_10, if_neg hk]
        exact ⟨V, v1, ⟨vj, vj, v2⟩, v3, v4⟩
