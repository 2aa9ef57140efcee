/-! PURE: automations, the reference's loops -/
theorem M_acts_I {b : Nat} {E U : Nat → Nat → Int32} {fl : Nat → Nat} {d p : Nat} {A : zA} (hb : 86 ≤ b) (hE : eM E fl U) (hC : zRM b U A) (hA : zOk d A) (hd : U 78 1 = zI d) (hn : A.2.1 < 1200) {r j : Nat} (hr : r < 6) (hru : zRule E r) (hj : j < 30) (hw : A.2.2.1 j = true) :
    ∃ V, F_M_acts b fl U (zI r) (zI p) (zI j) = V ∧ Sf_M_acts b fl U (zI r) (zI p) (zI j) ∧ zRM b V (aAct E d p r j A) ∧ zFM b U V := by
  have vr : vp_in (zI r) 6 := vp_in_I hr (by omega)
  have vj : vp_in (zI j) 30 := vp_in_I hj (by omega)
  obtain ⟨k, hk, ek⟩ := hA.rg.kind hj hw
  have e2 : U (b + 2) j = zI k := (hC.2.1.cell hj (show 9 < 10 by omega) hw).trans ek
  unfold F_M_acts Sf_M_acts F_M_acts_j49 Sf_M_acts_j49 F_M_acts_j94 Sf_M_acts_j94 aAct aCan
  simp only [zI_clamp (show r < 2147483648 by omega), zI_clamp (show j < 2147483648 by omega), hE.2.2.1 174 (by omega), hE.2.2.1 175 (by omega), hE.2.2.1 176 (by omega), z_let, z_letN]
  obtain ⟨-, -, -, h⟩ := hru
  rcases h with ⟨h1, h2, h3, ⟨h4, h5⟩, h6, h7⟩ | ⟨h1, h2, h3, h4, h5⟩ | ⟨h1, h2, h3, h4, h5⟩
  · obtain ⟨f, hf, e⟩ := zI_ex (n := 3) h4 (by omega) (by omega)
    have e63 : E 63 r = zI (1 + f) := by rw [h2, e, show (1 : Int32) = zI 1 from rfl, zI_add]
    have n0 : ¬ zI (1 + f) = 0 := by rw [show (0 : Int32) = zI 0 from rfl, zI_inj (by omega) (by omega)]; omega
    have n4 : ¬ zI (1 + f) = 4 := by rw [show (4 : Int32) = zI 4 from rfl, zI_inj (by omega) (by omega)]; omega
    obtain ⟨f1, f2⟩ := M_hasField_I hE hC.2.1 hA.rg hj hw hf
    simp only [h1, e, if_true, f1, e63, if_neg n0, if_neg n4, zI_clamp (show 1 + f < 2147483648 by omega), show 1 + f - 1 = f by omega, if_neg (show ¬ ((0 : Int32) = 1) by decide), if_neg (show ¬ ((0 : Int32) = 2) by decide)]
    by_cases g : eH E (wC A.2.2 j 9) f = true
    · obtain ⟨V, v1, v2, v3, v4⟩ := M_change_C hb hC hn hA.cnt p hd hj (show 1 + f < 9 by omega) hw (E 64 r)
      have m1 : mKc (1 + f) = 3 := by unfold mKc; rw [if_neg (by omega), if_pos (by omega)]
      have m2 : mWc (1 + f) = zI f := by unfold mWc; rw [if_neg (by omega), if_pos (by omega)]; congr 1; omega
      rw [m1, m2, h3] at v1 v2
      rw [h3] at v3
      simp only [g, if_true, if_neg (show ¬ ((1 : Int32) = 0) by decide), h3]
      exact ⟨V, v1, ⟨vr, vr, f2, vr, v2, trivial⟩, v3, v4⟩
    · have g' : eH E (wC A.2.2 j 9) f = false := by simpa using g
      simp only [g', Bool.false_eq_true, if_false, if_true]
      exact ⟨U, rfl, ⟨vr, vr, f2, vr, vr, trivial⟩, hC, zFM.rfl⟩
  · obtain ⟨s, hs, e⟩ := zI_ex (n := 6) h4 (by omega) (by omega)
    have e64 : E 64 r = zI s := by rw [h3]; exact e
    simp only [h1, e, if_true, if_neg (show ¬ ((1 : Int32) = 0) by decide), if_neg (show ¬ ((1 : Int32) = 2) by decide), h2, e64, e2, zI_clamp (show k < 2147483648 by omega), MF_has_I (fl k) U (show s < 31 by omega), hE.2.1 k hk]
    have es : eS E (wC A.2.2 j 9) (zI s) = zB (E 55 k) s := by unfold eS; rw [ek, zI_clamp (by omega), zI_clamp (by omega)]
    rw [es]
    by_cases g : zB (E 55 k) s = true
    · obtain ⟨V, v1, v2, v3, v4⟩ := M_change_C hb hC hn hA.cnt p hd hj (show 0 < 9 by omega) hw (zI s)
      simp only [g, if_true, if_neg (show ¬ ((1 : Int32) = 0) by decide)]
      exact ⟨V, v1, ⟨vr, vr, vr, vj, vp_in_I hk (by omega), v2, trivial⟩, v3, v4⟩
    · have g' : zB (E 55 k) s = false := by simpa using g
      simp only [g', Bool.false_eq_true, if_false, if_true]
      exact ⟨U, rfl, ⟨vr, vr, vr, vj, vp_in_I hk (by omega), vr, trivial⟩, hC, zFM.rfl⟩
  · simp only [h1, if_neg (show ¬ ((2 : Int32) = 0) by decide), if_neg (show ¬ ((2 : Int32) = 1) by decide), if_true, h2, if_neg (show ¬ ((4 : Int32) = 0) by decide), h3]
    obtain ⟨V, v1, v2, v3, v4⟩ := M_change_C hb hC hn hA.cnt p hd hj (show 4 < 9 by omega) hw (E 175 r)
    exact ⟨V, v1, ⟨vr, vr, vr, vr, v2, trivial⟩, v3, v4⟩
theorem nar_b (t : Bool) : vp_nar .boolean (if t = true then 1 else 0) = if t = true then 1 else 0 := by cases t <;> decide
theorem M_isThrough_L78_I {b : Nat} {E : Nat → Nat → Int32} {fl : Nat → Nat} {d : Nat} {x3 x4 x6 : Int32} {A : zA} (hb : 86 ≤ b ∧ b ≤ 110) (hA : zOk d A) (hfl : zFl fl) {r k : Nat} (hr : r < 6) (hru : zRule E r) (hk : k < A.2.1) (hn : A.2.1 ≤ 1200) (hi : (A.1 k).1.2.1 < 30) (hw : A.2.2.1 (A.1 k).1.2.1 = true) : ∀ (n j f : Nat) (U : Nat → Nat → Int32), n + j = 30 → n < f → eM E fl U → zRM b U A →
    ∃ V, F_M_isThrough_L78 b fl x3 x4 (zI k) x6 (zI r) f U (zI j) = V ∧ Sf_M_isThrough_L78 b fl x3 x4 (zI k) x6 (zI r) f U (zI j) ∧ (∀ q, q ≠ 192 → V q = U q) ∧ ∀ q, V 192 q = if j ≤ q ∧ q < 30 then (if aTg A.2.2 (E 62 r) (A.1 k).1.2.1 q = true then 1 else 0) else U 192 q := by
  have vr : vp_in (zI r) 6 := vp_in_I hr (by omega)
  have vk : vp_in (zI k) 1200 := vp_in_I (by omega) (by omega)
  intro n
  induction n with
  | zero =>
    intro j f U hj hf hE hC
    obtain ⟨f, rfl⟩ : ∃ g, f = g + 1 := ⟨f - 1, by omega⟩
    have hl : (30 : Int32) ≤ zI j := by rw [show (30 : Int32) = zI 30 from rfl, zI_le (by omega) (by omega)]; omega
    refine ⟨U, ?_, ?_, fun _ _ => rfl, fun q => by rw [if_neg (by omega)]⟩
    · unfold F_M_isThrough_L78; rw [if_pos hl]
    · unfold Sf_M_isThrough_L78; rw [if_pos hl]; trivial
  | succ n ih =>
    intro j f U hj hf hE hC
    obtain ⟨f, rfl⟩ : ∃ g, f = g + 1 := ⟨f - 1, by omega⟩
    have hl : ¬ (30 : Int32) ≤ zI j := by rw [show (30 : Int32) = zI 30 from rfl, zI_le (by omega) (by omega)]; omega
    obtain ⟨c1, c2, c3, c4, c5⟩ := hC.1.ent k hk
    obtain ⟨t1, t2⟩ := M_isTarget_I hC.2.1 hA.lv (g := E 62 r) hi (show j < 30 by omega) hw
    have e82 : U 82 k = zI (A.1 k).1.2.1 := c2
    have e173 : U 173 r = E 62 r := by rw [hE.2.2.1 173 (by omega)]; exact hru.1.2.2.1.symm
    unfold F_M_isThrough_L78 Sf_M_isThrough_L78
    simp only [if_neg hl, zI_clamp (show r < 2147483648 by omega), zI_clamp (show k < 2147483648 by omega), zI_clamp (show j < 2147483648 by omega), e82, e173, t1, nar_b, zI_succ]
    have hfr : zFN b U (z_uS U 192 j (if aTg A.2.2 (E 62 r) (A.1 k).1.2.1 j = true then 1 else 0)) := ⟨fun q _ hq => z_uS_ne _ _ _ hq, fun q hq => by rw [z_uS_ne _ _ _ (by omega)], fun q hq => by rw [z_uS_ne _ _ _ (by omega)]⟩
    obtain ⟨V, v1, v2, v3, v4⟩ := ih (j + 1) f (z_uS U 192 j (if aTg A.2.2 (E 62 r) (A.1 k).1.2.1 j = true then 1 else 0)) (by omega) (by omega) (hE.fn hfl hb hfr) ⟨hC.1.ag (by rw [z_uS_ne _ _ _ (by omega)]) (fun q h1 h2 => z_uS_ne _ _ _ (by omega)), hC.2.1.ag (fun q h1 h2 => z_uS_ne _ _ _ (by omega)), by rw [z_uS_ne _ _ _ (by omega)]; exact hC.2.2⟩
    refine ⟨V, v1, ⟨vr, vk, t2, vp_in_I (by omega) (by omega), v2⟩, fun q hq => by rw [v3 q hq, z_uS_ne _ _ _ hq], fun q => ?_⟩
    rw [v4 q]
    by_cases e : q = j
    · subst e; rw [if_neg (show ¬ (q + 1 ≤ q ∧ q < 30) by omega), if_pos (show q ≤ q ∧ q < 30 by omega), uS_at]
    · rw [uS_nj _ _ _ e]
      by_cases h2 : j + 1 ≤ q ∧ q < 30
      · rw [if_pos h2, if_pos (show j ≤ q ∧ q < 30 by omega)]
      · rw [if_neg h2, if_neg (show ¬ (j ≤ q ∧ q < 30) by omega)]
theorem aL_stop {E : Nat → Nat → Int32} {d p lim r : Nat} {T : Nat → Bool} {n j : Nat} {A : zA} (h : lim < A.2.1) : aL E d p lim r T n j A = A := by
  cases n
  · rfl
  · unfold aL; rw [if_pos h]
theorem aWake_stop {E : Nat → Nat → Int32} {d p lim rn : Nat} {fall : Bool} {e : zEnt} {A : zA} (h : lim < A.2.1) : ∀ n, aWake E d p lim rn fall e n A = A := by
  intro n
  induction n with
  | zero => rfl
  | succ n ih => unfold aWake aRule; rw [aL_stop h]; exact ih
theorem aGo_stop {E : Nat → Nat → Int32} {d p lim rn : Nat} {fall : Bool} {A : zA} (h : lim < A.2.1) : ∀ f k, aGo E d p lim rn fall f k A = A := by
  intro f k
  cases f
  · rfl
  · unfold aGo; rw [if_pos (Or.inr h)]
/-- how the reference tells whether it went through -/
def zThr (lim : Nat) (n : Nat) (V : Nat → Nat → Int32) : (Nat → Nat → Int32) ⊕ (Int32 × (Nat → Nat → Int32)) := if lim < n then .inr (0, V) else .inl V
theorem M_isThrough_L121_I {b : Nat} {E : Nat → Nat → Int32} {fl : Nat → Nat} {d p bg r k : Nat} {x3 x6 : Int32} {T : Nat → Bool} (hb : 86 ≤ b ∧ b ≤ 110) (hfl : zFl fl) (hr : r < 6) (hru : zRule E r) (hp : p < 8) (hbg : bg + 21 < 1200) (hk : k < 1200) : ∀ (n j f : Nat) (U : Nat → Nat → Int32) (A : zA), n + j = 30 → n < f → eM E fl U → U 78 1 = zI d → zRM b U A → zOk d A → A.2.1 ≤ bg + 20 → bg ≤ A.2.1 → k < A.2.1 → (A.1 k).2.2 = p → (∀ q, q < 30 → U 192 q = if T q = true then 1 else 0) → (∀ q, q < 30 → T q = true → A.2.2.1 q = true) →
    ∃ V, F_M_isThrough_L121 b fl x3 (zI bg) (zI k) x6 (zI r) f U (zI j) = zThr (bg + 20) (aL E d p (bg + 20) r T n j A).2.1 V ∧ Sf_M_isThrough_L121 b fl x3 (zI bg) (zI k) x6 (zI r) f U (zI j) ∧ zRM b V (aL E d p (bg + 20) r T n j A) ∧ zFM b U V := by
  intro n
  induction n with
  | zero =>
    intro j f U A hj hf hE hd hC hA hl hg hkn hkp h192 hT
    obtain ⟨f, rfl⟩ : ∃ g, f = g + 1 := ⟨f - 1, by omega⟩
    have hl30 : (30 : Int32) ≤ zI j := by rw [show (30 : Int32) = zI 30 from rfl, zI_le (by omega) (by omega)]; omega
    refine ⟨U, ?_, ?_, hC, zFM.rfl⟩
    · unfold F_M_isThrough_L121 zThr aL; rw [if_pos hl30, if_neg (by omega)]
    · unfold Sf_M_isThrough_L121; rw [if_pos hl30]; trivial
  | succ n ih =>
    intro j f U A hj hf hE hd hC hA hl hg hkn hkp h192 hT
    obtain ⟨f, rfl⟩ : ∃ g, f = g + 1 := ⟨f - 1, by omega⟩
    have hl30 : ¬ (30 : Int32) ≤ zI j := by rw [show (30 : Int32) = zI 30 from rfl, zI_le (by omega) (by omega)]; omega
    have vj : vp_in (zI j) 30 := vp_in_I (by omega) (by omega)
    have vk : vp_in (zI k) 1200 := vp_in_I hk (by omega)
    have e81 : U 81 k = zI p := by rw [← hkp]; exact (hC.1.2 k hkn).2.2
    unfold F_M_isThrough_L121 Sf_M_isThrough_L121 aL F_M_isThrough_l121_154 Sf_M_isThrough_l121_154
    rw [if_neg (show ¬ bg + 20 < A.2.1 by omega)]
    simp only [if_neg hl30, zI_clamp (show j < 2147483648 by omega), h192 j (by omega), zI_clamp (show k < 2147483648 by omega), e81, z_let, zI_succ]
    have cmp : ∀ (W : Nat → Nat → Int32) (B : zA), zRM b W B → bg ≤ B.2.1 → B.2.1 ≤ 1300 → ((W 78 2 - zI bg ≤ 20) ↔ ¬ bg + 20 < B.2.1) := by
      intro W B hW h1 h2
      rw [hW.1.size, zI_sub h1 (by omega), show (20 : Int32) = zI 20 from rfl, zI_le (by omega) (by omega)]; omega
    by_cases t : T j = true
    · have hw := hT j (by omega) t
      simp only [t, if_true, if_neg (show ¬ ((1 : Int32) = 0) by decide)]
      obtain ⟨B, b1, b2, b3, b4⟩ := M_acts_I (p := p) hb.1 hE hC hA hd (by omega) hr hru (show j < 30 by omega) hw
      obtain ⟨o1, o2, o3⟩ := aAct_ok (E := E) hA hru (show j < 30 by omega) hw hp
      simp only [b1]
      have hcm := cmp B _ b3 (by have := o3.1; omega) (by omega)
      by_cases q : bg + 20 < (aAct E d p r j A).2.1
      · have q' : ¬ (B 78 2 - zI bg ≤ 20) := fun g => (hcm.mp g) q
        simp only [if_neg q', aL_stop q]
        exact ⟨B, by unfold zThr; rw [if_pos q], ⟨vj, vk, b2, trivial⟩, b3, b4⟩
      · have q' : B 78 2 - zI bg ≤ 20 := hcm.mpr q
        simp only [if_pos q']
        obtain ⟨V, v1, v2, v3, v4⟩ := ih (j + 1) f B (aAct E d p r j A) (by omega) (by omega) (hE.fn hfl hb b4.n) (by rw [b4.2.1 1 (by omega)]; exact hd) b3 o1 (by omega) (by have := o3.1; omega) (Nat.lt_of_lt_of_le hkn o3.1) (by rw [o3.2.1 k hkn]; exact hkp) (fun x hx => by rw [b4.1 192 (by omega)]; exact h192 x hx) (fun x hx tx => by rw [o3.2.2.2.1]; exact hT x hx tx)
        exact ⟨V, v1, ⟨vj, vk, b2, v2⟩, v3, b4.trans v4⟩
    · have t' : T j = false := by simpa using t
      simp only [t', Bool.false_eq_true, if_false, if_true]
      have q' : U 78 2 - zI bg ≤ 20 := (cmp U A hC hg (by omega)).mpr (by omega)
      simp only [if_pos q']
      obtain ⟨V, v1, v2, v3, v4⟩ := ih (j + 1) f U A (by omega) (by omega) hE hd hC hA hl hg hkn hkp h192 hT
      exact ⟨V, v1, ⟨vj, v2⟩, v3, v4⟩
theorem M_isThrough_L21_I {b : Nat} {E : Nat → Nat → Int32} {fl : Nat → Nat} {d p bg rn k : Nat} {fall : Bool} (hb : 86 ≤ b ∧ b ≤ 110) (hfl : zFl fl) (hR : zRuOk E rn) (hR2 : E 78 31 = zI rn) (hp : p < 8) (hbg : bg + 21 < 1200) {e : zEnt} : ∀ (n f : Nat) (U : Nat → Nat → Int32) (A : zA), n ≤ rn → n < f → eM E fl U → U 78 1 = zI d → zRM b U A → zOk d A → A.2.1 ≤ bg + 20 → bg ≤ A.2.1 → k < A.2.1 → (A.1 k).2.2 = p → e = (A.1 k).1 →
    ∃ V, F_M_isThrough_L21 b fl (if fall = true then 1 else 0) (zI bg) (zI k) f U (zI (rn - n)) = zThr (bg + 20) (aWake E d p (bg + 20) rn fall e n A).2.1 V ∧ Sf_M_isThrough_L21 b fl (if fall = true then 1 else 0) (zI bg) (zI k) f U (zI (rn - n)) ∧ zRM b V (aWake E d p (bg + 20) rn fall e n A) ∧ zFN b U V := by
  intro n
  induction n with
  | zero =>
    intro f U A hn hf hE hd hC hA hl hg hkn hkp he
    obtain ⟨f, rfl⟩ : ∃ g, f = g + 1 := ⟨f - 1, by omega⟩
    have hs : U 78 31 = zI rn := by rw [hE.2.2.2]; exact hR2
    have h1 : zI rn ≤ zI (rn - 0) := by rw [zI_le (by have := hR.2.1; omega) (by have := hR.2.1; omega)]; omega
    refine ⟨U, ?_, ?_, hC, zFN.rfl⟩
    · unfold F_M_isThrough_L21 zThr aWake; rw [hs, if_pos h1, if_neg (by omega)]
    · unfold Sf_M_isThrough_L21; rw [hs, if_pos h1]; trivial
  | succ n ih =>
    intro f U A hn hf hE hd hC hA hl hg hkn hkp he
    obtain ⟨f, rfl⟩ : ∃ g, f = g + 1 := ⟨f - 1, by omega⟩
    have h6 := hR.2.1
    have hs : U 78 31 = zI rn := by rw [hE.2.2.2]; exact hR2
    have h1 : ¬ zI rn ≤ zI (rn - (n + 1)) := by rw [zI_le (by omega) (by omega)]; omega
    have vk : vp_in (zI k) 1200 := vp_in_I (by omega) (by omega)
    have en : zI (rn - (n + 1)) + 1 = zI (rn - n) := by rw [zI_succ]; congr 1; omega
    generalize hrr : (if fall = true then n else rn - (n + 1)) = rr
    have hr1 : rr < rn := by rw [← hrr]; split <;> omega
    have hru := hR.2.2 rr hr1
    have e79 : U 79 k = mK e := by rw [he]; exact (hC.1.ent k hkn).1
    have hbody : ∃ V, F_M_isThrough_l21_48 b fl (F_M_isThrough_L21 b fl (if fall = true then 1 else 0) (zI bg) (zI k) f) U (if fall = true then 1 else 0) (zI bg) (zI k) (zI (rn - (n + 1))) (zI rr) = zThr (bg + 20) (aWake E d p (bg + 20) rn fall e n (aRule E d p (bg + 20) e rr A)).2.1 V ∧ Sf_M_isThrough_l21_48 b fl (F_M_isThrough_L21 b fl (if fall = true then 1 else 0) (zI bg) (zI k) f) (Sf_M_isThrough_L21 b fl (if fall = true then 1 else 0) (zI bg) (zI k) f) U (if fall = true then 1 else 0) (zI bg) (zI k) (zI (rn - (n + 1))) (zI rr) ∧ zRM b V (aWake E d p (bg + 20) rn fall e n (aRule E d p (bg + 20) e rr A)) ∧ zFN b U V := by
      have skip : (aWoken E A.2.2 e rr) = false → ∃ V, F_M_isThrough_L21 b fl (if fall = true then 1 else 0) (zI bg) (zI k) f U (zI (rn - n)) = zThr (bg + 20) (aWake E d p (bg + 20) rn fall e n (aRule E d p (bg + 20) e rr A)).2.1 V ∧ Sf_M_isThrough_L21 b fl (if fall = true then 1 else 0) (zI bg) (zI k) f U (zI (rn - n)) ∧ zRM b V (aWake E d p (bg + 20) rn fall e n (aRule E d p (bg + 20) e rr A)) ∧ zFN b U V := by
        intro g
        have eR : aRule E d p (bg + 20) e rr A = A := by
          unfold aRule
          have : ∀ n j, aL E d p (bg + 20) rr (fun j => aWoken E A.2.2 e rr && aTg A.2.2 (E 62 rr) e.2.1 j) n j A = A := by
            intro n
            induction n with
            | zero => intro j; rfl
            | succ n ih => intro j; unfold aL; simp only [g, Bool.false_and, Bool.false_eq_true, if_false]; rw [if_neg (by omega)]; simpa [g] using ih (j + 1)
          exact this 30 0
        rw [eR]
        exact ih f U A (by omega) (by omega) hE hd hC hA hl hg hkn hkp he
      unfold F_M_isThrough_l21_48 Sf_M_isThrough_l21_48
      rw [zI_clamp (show k < 2147483648 by omega), e79, en]
      by_cases k0 : e.1 = 0
      · have m0 : mK e = 0 := by unfold mK; rw [if_pos k0]
        rw [if_pos m0, if_pos m0]
        have g : aWoken E A.2.2 e rr = false := by
          cases hh : aWoken E A.2.2 e rr
          · rfl
          · have := aCause_kind (aWoken_cause hh); omega
        obtain ⟨V, v1, v2, v3, v4⟩ := skip g
        exact ⟨V, v1, ⟨vk, v2⟩, v3, v4⟩
      · have m0 : ¬ mK e = 0 := by
          have hee := (hA.w k hkn).1
          rw [← he] at hee
          unfold mK
          rw [if_neg k0]
          split
          · decide
          · split
            · split
              · decide
              · split
                · decide
                · rw [show (0 : Int32) = zI 0 from rfl, zI_inj (by rcases hee with t | t | t | t <;> omega) (by omega)]; omega
            · decide
        obtain ⟨m1, m2⟩ := M_meets_I hE hC hA (show rr < 6 by omega) hru hkn (by omega) (by rw [← he]; exact k0)
        rw [← he] at m1
        rw [if_neg m0, if_neg m0]
        by_cases g : aWoken E A.2.2 e rr = true
        · have m1' : F_M_meets b U (zI rr) (zI k) = 1 := by rw [m1, g]; rfl
          obtain ⟨i1, i2⟩ := hA.item hkn (aCause_kind (by rw [← he]; exact aWoken_cause g))
          have hT : ∀ q, q < 30 → (aWoken E A.2.2 e rr && aTg A.2.2 (E 62 rr) e.2.1 q) = true → A.2.2.1 q = true := by rw [he]; exact aRule_T hA hkn rr
          obtain ⟨B, b1, b2, b3, b4⟩ := M_isThrough_L78_I (x3 := if fall = true then 1 else 0) (x4 := zI bg) (x6 := zI (rn - (n + 1))) hb hA hfl (show rr < 6 by omega) hru hkn (by omega) i1 i2 30 0 1300 U rfl (by omega) hE hC
          have hfr : zFN b U B := ⟨fun q _ hq => b3 q hq, fun q _ => by rw [b3 78 (by omega)], fun q _ => by rw [b3 b (by omega)]⟩
          have hCB : zRM b B A := ⟨hC.1.ag (by rw [b3 78 (by omega)]) (fun q h1 h2 => b3 q (by omega)), hC.2.1.ag (fun q h1 h2 => b3 q (by omega)), by rw [b3 b (by omega)]; exact hC.2.2⟩
          obtain ⟨C, c1, c2, c3, c4⟩ := M_isThrough_L121_I (x3 := if fall = true then 1 else 0) (x6 := zI (rn - (n + 1))) (T := fun q => aWoken E A.2.2 e rr && aTg A.2.2 (E 62 rr) e.2.1 q) hb hfl (show rr < 6 by omega) hru hp hbg (show k < 1200 by omega) 30 0 1300 B A rfl (by omega) (hE.fn hfl hb hfr) (by rw [b3 78 (by omega)]; exact hd) hCB hA hl hg hkn hkp (fun q hq => by rw [b4 q, if_pos (by omega), g, Bool.true_and, he]) hT
          obtain ⟨o1, o2, o3⟩ := aL_ok (E := E) (d := d) (lim := bg + 20) (T := fun q => aWoken E A.2.2 e rr && aTg A.2.2 (E 62 rr) e.2.1 q) hru hp 30 0 A rfl hA hT (by omega)
          rw [zI_0] at b1 b2 c1 c2
          simp only [m1', if_neg (show ¬ ((1 : Int32) = 0) by decide), b1, c1]
          unfold aRule
          by_cases q : bg + 20 < (aL E d p (bg + 20) rr (fun j => aWoken E A.2.2 e rr && aTg A.2.2 (E 62 rr) e.2.1 j) 30 0 A).2.1
          · have ez : ∀ W, zThr (bg + 20) (aL E d p (bg + 20) rr (fun j => aWoken E A.2.2 e rr && aTg A.2.2 (E 62 rr) e.2.1 j) 30 0 A).2.1 W = .inr (0, W) := fun W => by unfold zThr; rw [if_pos q]
            rw [aWake_stop q]
            simp only [ez]
            exact ⟨C, rfl, ⟨vk, m2, b2, c2, trivial⟩, c3, hfr.trans c4.n⟩
          · have ez : ∀ W, zThr (bg + 20) (aL E d p (bg + 20) rr (fun j => aWoken E A.2.2 e rr && aTg A.2.2 (E 62 rr) e.2.1 j) 30 0 A).2.1 W = .inl W := fun W => by unfold zThr; rw [if_neg q]
            simp only [ez]
            obtain ⟨V, v1, v2, v3, v4⟩ := ih f C _ (by omega) (by omega) (hE.fn hfl hb (hfr.trans c4.n)) (by rw [c4.2.1 1 (by omega), b3 78 (by omega)]; exact hd) c3 o1 (by omega) (by have := o3.1; omega) (Nat.lt_of_lt_of_le hkn o3.1) (by rw [o3.2.1 k hkn]; exact hkp) (he.trans (congrArg Prod.fst (o3.2.1 k hkn).symm))
            exact ⟨V, v1, ⟨vk, m2, b2, c2, v2⟩, v3, (hfr.trans c4.n).trans v4⟩
        · have g' : aWoken E A.2.2 e rr = false := by simpa using g
          obtain ⟨V, v1, v2, v3, v4⟩ := skip g'
          have m1' : F_M_meets b U (zI rr) (zI k) = 0 := by rw [m1, g']; rfl
          simp only [m1', if_true]
          exact ⟨V, v1, ⟨vk, m2, v2⟩, v3, v4⟩
    obtain ⟨V, v1, v2, v3, v4⟩ := hbody
    unfold F_M_isThrough_L21 Sf_M_isThrough_L21 aWake
    rw [hs, if_neg h1, if_neg h1, hrr]
    cases fall
    · have e1 : rr = rn - (n + 1) := by rw [← hrr]; rfl
      rw [e1] at v1 v2 v3
      simp only [Bool.false_eq_true, if_false, if_true] at v1 v2 ⊢
      rw [e1]
      exact ⟨V, v1, v2, v3, v4⟩
    · have e1 : rr = n := by rw [← hrr]; rfl
      have e2 : zI rn - 1 - zI (rn - (n + 1)) = zI rr := by
        rw [show (1 : Int32) = zI 1 from rfl, zI_sub (by omega) (by omega), zI_sub (by omega) (by omega), e1]; congr 1; omega
      simp only [if_true, if_neg (show ¬ ((1 : Int32) = 0) by decide), e2] at v1 v2 ⊢
      exact ⟨V, v1, v2, v3, v4⟩

