/-! PURE: workflows -/
theorem zI_mul (a b : Nat) : zI a * zI b = zI (a * b) := (Int32.ofNat_mul a b).symm
theorem zI_add (a b : Nat) : zI a + zI b = zI (a + b) := (Int32.ofNat_add a b).symm
theorem zI_sub {a b : Nat} (h : b ≤ a) (ha : a < 2147483648) : zI a - zI b = zI (a - b) := by
  have e : zI a = zI (a - b) + zI b := by rw [zI_add]; congr 1; omega
  rw [e, Int32.add_sub_cancel]
/-- rows of a workflow, one more step -/
def zAdd (fa : Nat) (S : Nat → Nat → Int32) (c : Nat) (q : Nat → Int32) : Nat → Nat → Int32 := fun k => if k = fa then upd (S fa) 1 (zI (c + 1)) else if fa < k ∧ k ≤ fa + 6 then upd (S k) c (q (k - fa - 1)) else S k
theorem MF_add_eq {fa : Nat} {S : Nat → Nat → Int32} {c : Nat} (q : Nat → Int32) (h : S fa 1 = zI c) (hc : c < 8) : F_MF_add fa S (q 0) (q 1) (q 2) (q 3) (q 4) (q 5) = zAdd fa S c q ∧ Sf_MF_add fa S (q 0) (q 1) (q 2) (q 3) (q 4) (q 5) := by
  have e1 : ∀ (S' : Nat → Nat → Int32) (j : Nat) (v : Int32), z_uS S' (fa + 1) j v fa = S' fa := fun S' j v => z_uS_ne S' j v (by omega)
  have e2 : ∀ (S' : Nat → Nat → Int32) (j : Nat) (v : Int32), z_uS S' (fa + 2) j v fa = S' fa := fun S' j v => z_uS_ne S' j v (by omega)
  have e3 : ∀ (S' : Nat → Nat → Int32) (j : Nat) (v : Int32), z_uS S' (fa + 3) j v fa = S' fa := fun S' j v => z_uS_ne S' j v (by omega)
  have e4 : ∀ (S' : Nat → Nat → Int32) (j : Nat) (v : Int32), z_uS S' (fa + 4) j v fa = S' fa := fun S' j v => z_uS_ne S' j v (by omega)
  have e5 : ∀ (S' : Nat → Nat → Int32) (j : Nat) (v : Int32), z_uS S' (fa + 5) j v fa = S' fa := fun S' j v => z_uS_ne S' j v (by omega)
  have e6 : ∀ (S' : Nat → Nat → Int32) (j : Nat) (v : Int32), z_uS S' (fa + 6) j v fa = S' fa := fun S' j v => z_uS_ne S' j v (by omega)
  unfold F_MF_add Sf_MF_add
  simp only [e1, e2, e3, e4, e5, e6, h, zI_clamp (show c < 2147483648 by omega), zI_succ]
  refine ⟨?_, by simp [vp_in_I (len := 8) hc (by omega)]⟩
  funext k
  unfold zAdd
  by_cases h0 : k = fa
  · subst h0; rw [if_pos rfl, z_uS_self, e6, e5, e4, e3, e2, e1]
  · rw [if_neg h0, z_uS_ne _ _ _ h0]
    by_cases h6 : k = fa + 6
    · subst h6; rw [if_pos (by omega), z_uS_self, z_uS_ne _ _ _ (by omega), z_uS_ne _ _ _ (by omega), z_uS_ne _ _ _ (by omega), z_uS_ne _ _ _ (by omega), z_uS_ne _ _ _ (by omega), show fa + 6 - fa - 1 = 5 by omega]
    · rw [z_uS_ne _ _ _ h6]
      by_cases h5 : k = fa + 5
      · subst h5; rw [if_pos (by omega), z_uS_self, z_uS_ne _ _ _ (by omega), z_uS_ne _ _ _ (by omega), z_uS_ne _ _ _ (by omega), z_uS_ne _ _ _ (by omega), show fa + 5 - fa - 1 = 4 by omega]
      · rw [z_uS_ne _ _ _ h5]
        by_cases h4 : k = fa + 4
        · subst h4; rw [if_pos (by omega), z_uS_self, z_uS_ne _ _ _ (by omega), z_uS_ne _ _ _ (by omega), z_uS_ne _ _ _ (by omega), show fa + 4 - fa - 1 = 3 by omega]
        · rw [z_uS_ne _ _ _ h4]
          by_cases h3 : k = fa + 3
          · subst h3; rw [if_pos (by omega), z_uS_self, z_uS_ne _ _ _ (by omega), z_uS_ne _ _ _ (by omega), show fa + 3 - fa - 1 = 2 by omega]
          · rw [z_uS_ne _ _ _ h3]
            by_cases h2 : k = fa + 2
            · subst h2; rw [if_pos (by omega), z_uS_self, z_uS_ne _ _ _ (by omega), show fa + 2 - fa - 1 = 1 by omega]
            · rw [z_uS_ne _ _ _ h2]
              by_cases h1 : k = fa + 1
              · subst h1; rw [if_pos (by omega), z_uS_self, show fa + 1 - fa - 1 = 0 by omega]
              · rw [z_uS_ne _ _ _ h1, if_neg (by omega)]
theorem zAdd_1 (fa : Nat) (S : Nat → Nat → Int32) (c : Nat) (q : Nat → Int32) : zAdd fa S c q fa 1 = zI (c + 1) := by simp [zAdd, upd]
theorem zAdd_0 (fa : Nat) (S : Nat → Nat → Int32) (c : Nat) (q : Nat → Int32) : zAdd fa S c q fa 0 = S fa 0 := by simp [zAdd, upd]
theorem zAdd_row (fa : Nat) (S : Nat → Nat → Int32) (c : Nat) (q : Nat → Int32) {p : Nat} (h : p < 6) (j : Nat) : zAdd fa S c q (fa + 1 + p) j = if j = c then q p else S (fa + 1 + p) j := by
  unfold zAdd
  rw [if_neg (by omega), if_pos (by omega), show fa + 1 + p - fa - 1 = p by omega]
  rfl
theorem zAdd_ne {fa : Nat} {S : Nat → Nat → Int32} {c : Nat} {q : Nat → Int32} {k : Nat} (h : k < fa ∨ fa + 6 < k) : zAdd fa S c q k = S k := by
  unfold zAdd
  rw [if_neg (by omega), if_neg (by omega)]
theorem Flows_part_I (S : Nat → Nat → Int32) {s j p : Nat} (hs : s < 4) (hj : j < 8) (hp : p < 6) : F_Flows_part S (zI s) (zI j) (zI p) = S 57 ((s * 8 + j) * 6 + p) := by
  unfold F_Flows_part
  rw [show (8 : Int32) = zI 8 from rfl, show (6 : Int32) = zI 6 from rfl, zI_mul, zI_add, zI_mul, zI_add, zAt_I (by omega) (by omega)]
theorem Flows_setPart_I (S : Nat → Nat → Int32) {j p : Nat} (hj : j < 8) (hp : p < 6) (v : Int32) : F_Flows_setPart S (zI j) (zI p) v = z_uS S 57 ((3 * 8 + j) * 6 + p) v := by
  unfold F_Flows_setPart z_let
  rw [show (24 : Int32) = zI 24 from rfl, show (6 : Int32) = zI 6 from rfl, zI_add, zI_mul, zI_add, zPut_I (by omega) (by omega)]
/-- a slot of the one, a workflow of the other -/
def zFR (s fa c : Nat) (S U : Nat → Nat → Int32) : Prop := c ≤ 8 ∧ S 55 s = U fa 0 ∧ S 56 s = zI c ∧ U fa 1 = zI c ∧ ∀ j, j < c → ∀ p, p < 6 → S 57 ((s * 8 + j) * 6 + p) = U (fa + 1 + p) j
theorem zFR.le {s fa c : Nat} {S U : Nat → Nat → Int32} (h : zFR s fa c S U) : c ≤ 8 := h.1
theorem zFR.states {s fa c : Nat} {S U : Nat → Nat → Int32} (h : zFR s fa c S U) : S 55 s = U fa 0 := h.2.1
theorem zFR.cnt {s fa c : Nat} {S U : Nat → Nat → Int32} (h : zFR s fa c S U) : S 56 s = zI c := h.2.2.1
theorem zFR.many {s fa c : Nat} {S U : Nat → Nat → Int32} (h : zFR s fa c S U) : U fa 1 = zI c := h.2.2.2.1
theorem zFR.part {s fa c : Nat} {S U : Nat → Nat → Int32} (h : zFR s fa c S U) : ∀ j, j < c → ∀ p, p < 6 → S 57 ((s * 8 + j) * 6 + p) = U (fa + 1 + p) j := h.2.2.2.2
theorem zFR.ag {s fa c : Nat} {S U S' U' : Nat → Nat → Int32} (h : zFR s fa c S U) (e1 : S' 55 s = S 55 s) (e2 : S' 56 s = S 56 s) (e3 : ∀ j, s * 48 ≤ j → j < s * 48 + 48 → S' 57 j = S 57 j) (e4 : ∀ k, fa ≤ k → k ≤ fa + 6 → U' k = U k) : zFR s fa c S' U' := by
  refine ⟨h.le, ?_, ?_, ?_, fun j hj p hp => ?_⟩
  · rw [e1, e4 fa (by omega) (by omega)]; exact h.states
  · rw [e2]; exact h.cnt
  · rw [e4 fa (by omega) (by omega)]; exact h.many
  · have := h.le
    rw [e3 _ (by omega) (by omega), e4 (fa + 1 + p) (by omega) (by omega)]; exact h.part j hj p hp
/-- a copy of a workflow -/
theorem MF_copy_L {fa fb c : Nat} (hd : fa + 6 < fb ∨ fb + 6 < fa) (hc : c ≤ 8) : ∀ (n i f : Nat) (U : Nat → Nat → Int32), i + n = c → n < f → U fb 1 = zI c → U fa 1 = zI i →
    ∃ V, F_MF_copy_L15 fa fb f U (zI i) = V ∧ Sf_MF_copy_L15 fa fb f U (zI i) ∧ (∀ k, (k < fa ∨ fa + 6 < k) → V k = U k) ∧ V fa 0 = U fa 0 ∧ V fa 1 = zI c ∧ ∀ p, p < 6 → ∀ j, V (fa + 1 + p) j = if i ≤ j ∧ j < c then U (fb + 1 + p) j else U (fa + 1 + p) j := by
  intro n
  induction n with
  | zero =>
    intro i f U hi hf h1 h2
    obtain ⟨f, rfl⟩ : ∃ g, f = g + 1 := ⟨f - 1, by omega⟩
    refine ⟨U, ?_, ?_, fun _ _ => rfl, rfl, by rw [h2]; congr 1, fun p hp j => ?_⟩
    · unfold F_MF_copy_L15; rw [if_pos]; rw [h1, zI_le (by omega) (by omega)]; omega
    · unfold Sf_MF_copy_L15; rw [if_pos]; trivial; rw [h1, zI_le (by omega) (by omega)]; omega
    · rw [if_neg (by omega)]
  | succ n ih =>
    intro i f U hi hf h1 h2
    obtain ⟨f, rfl⟩ : ∃ g, f = g + 1 := ⟨f - 1, by omega⟩
    have hcl : (zI i).toNatClampNeg = i := zI_clamp (by omega)
    have hnl : ¬ U fb 1 ≤ zI i := by rw [h1, zI_le (by omega) (by omega)]; omega
    obtain ⟨ea, sa⟩ := MF_add_eq (fa := fa) (S := U) (fun p => U (fb + 1 + p) i) h2 (by omega)
    have ea := ea
    obtain ⟨V, v1, v2, v3, v4, v5, v6⟩ := ih (i + 1) f (zAdd fa U i (fun p => U (fb + 1 + p) i)) (by omega) (by omega) (by rw [zAdd_ne (by omega)]; exact h1) (zAdd_1 _ _ _ _)
    refine ⟨V, ?_, ?_, fun k hk => by rw [v3 k hk, zAdd_ne hk], by rw [v4, zAdd_0], v5, fun p hp j => ?_⟩
    · unfold F_MF_copy_L15; rw [if_neg hnl, hcl]
      show F_MF_copy_L15 fa fb f (F_MF_add fa U (U (fb + 1) i) (U (fb + 2) i) (U (fb + 3) i) (U (fb + 4) i) (U (fb + 5) i) (U (fb + 6) i)) (zI i + 1) = V
      rw [zI_succ, ← v1]; congr 1
    · unfold Sf_MF_copy_L15; rw [if_neg hnl, hcl]
      refine ⟨vp_in_I (by omega) (by omega), vp_in_I (by omega) (by omega), vp_in_I (by omega) (by omega), vp_in_I (by omega) (by omega), vp_in_I (by omega) (by omega), vp_in_I (by omega) (by omega), sa, ?_⟩
      show Sf_MF_copy_L15 fa fb f (F_MF_add fa U (U (fb + 1) i) (U (fb + 2) i) (U (fb + 3) i) (U (fb + 4) i) (U (fb + 5) i) (U (fb + 6) i)) (zI i + 1)
      rw [zI_succ]
      have : F_MF_add fa U (U (fb + 1) i) (U (fb + 2) i) (U (fb + 3) i) (U (fb + 4) i) (U (fb + 5) i) (U (fb + 6) i) = zAdd fa U i (fun p => U (fb + 1 + p) i) := ea
      rw [this]; exact v2
    · rw [v6 p hp j, zAdd_row _ _ _ _ hp, zAdd_ne (by omega)]
      by_cases hj : j = i
      · subst hj; rw [if_neg (by omega), if_pos rfl, if_pos (by omega)]
      · rw [if_neg hj]
        by_cases hj2 : i + 1 ≤ j ∧ j < c
        · rw [if_pos hj2, if_pos (by omega)]
        · rw [if_neg hj2, if_neg (by omega)]
theorem MF_copy_I {fa fb c : Nat} (hd : fa + 6 < fb ∨ fb + 6 < fa) (hc : c ≤ 8) (U : Nat → Nat → Int32) (h1 : U fb 1 = zI c) :
    ∃ V, F_MF_copy fa fb U = V ∧ Sf_MF_copy fa fb U ∧ (∀ k, (k < fa ∨ fa + 6 < k) → V k = U k) ∧ V fa 0 = U fb 0 ∧ V fa 1 = zI c ∧ ∀ p, p < 6 → ∀ j, j < c → V (fa + 1 + p) j = U (fb + 1 + p) j := by
  obtain ⟨V, v1, v2, v3, v4, v5, v6⟩ := MF_copy_L hd hc c 0 1300 (z_uS (z_uS U fa 0 (U fb 0)) fa 1 0) (by omega) (by omega) (by rw [z_uS_ne _ _ _ (by omega), z_uS_ne _ _ _ (by omega)]; exact h1) (by rw [uS_at]; rfl)
  refine ⟨V, ?_, ?_, fun k hk => ?_, ?_, v5, fun p hp j hj => ?_⟩
  · unfold F_MF_copy; exact v1
  · unfold Sf_MF_copy; exact ⟨v2, trivial⟩
  · rw [v3 k hk, z_uS_ne _ _ _ (by omega), z_uS_ne _ _ _ (by omega)]
  · rw [v4]; simp [z_uS, upd]
  · rw [v6 p hp j, if_pos (by omega), z_uS_ne _ _ _ (by omega), z_uS_ne _ _ _ (by omega)]
/-- the draft begins as a copy -/
theorem Flows_begin_L {k : Nat} (hk : k < 3) : ∀ (n i f : Nat) (S : Nat → Nat → Int32), i + n = 48 → n < f →
    ∃ V, F_Flows_begin_L34 (zI k) f S (zI i) = V ∧ Sf_Flows_begin_L34 (zI k) f S (zI i) ∧ (∀ c, c ≠ 57 → V c = S c) ∧ ∀ j, V 57 j = if 144 + i ≤ j ∧ j < 192 then S 57 (48 * k + (j - 144)) else S 57 j := by
  intro n
  induction n with
  | zero =>
    intro i f S hi hf
    obtain ⟨f, rfl⟩ : ∃ g, f = g + 1 := ⟨f - 1, by omega⟩
    have hl : (48 : Int32) ≤ zI i := by rw [show (48 : Int32) = zI 48 from rfl, zI_le (by omega) (by omega)]; omega
    refine ⟨S, ?_, ?_, fun _ _ => rfl, fun j => by rw [if_neg (by omega)]⟩
    · unfold F_Flows_begin_L34; rw [if_pos hl]
    · unfold Sf_Flows_begin_L34; rw [if_pos hl]; trivial
  | succ n ih =>
    intro i f S hi hf
    obtain ⟨f, rfl⟩ : ∃ g, f = g + 1 := ⟨f - 1, by omega⟩
    have hl : ¬ (48 : Int32) ≤ zI i := by rw [show (48 : Int32) = zI 48 from rfl, zI_le (by omega) (by omega)]; omega
    have e : zPut S 57 192 ((144 : Int32) + zI i) (zAt (S 57) 192 ((zI k * 8) * 6 + zI i)) = z_uS S 57 (144 + i) (S 57 (k * 8 * 6 + i)) := by
      rw [show (144 : Int32) = zI 144 from rfl, show (8 : Int32) = zI 8 from rfl, show (6 : Int32) = zI 6 from rfl, zI_mul, zI_mul, zI_add, zI_add, zPut_I (by omega) (by omega), zAt_I (by omega) (by omega)]
    obtain ⟨V, v1, v2, v3, v4⟩ := ih (i + 1) f (z_uS S 57 (144 + i) (S 57 (k * 8 * 6 + i))) (by omega) (by omega)
    refine ⟨V, ?_, ?_, fun c hc => by rw [v3 c hc, z_uS_ne _ _ _ hc], fun j => ?_⟩
    · unfold F_Flows_begin_L34; rw [if_neg hl, e, zI_succ]; exact v1
    · unfold Sf_Flows_begin_L34; rw [if_neg hl, e, zI_succ]; exact v2
    · rw [v4 j]
      by_cases hj : j = 144 + i
      · subst hj; rw [if_neg (by omega), if_pos (by omega), uS_at]; exact congrArg (S 57) (by omega)
      · by_cases hj2 : 144 + (i + 1) ≤ j ∧ j < 192
        · rw [if_pos hj2, if_pos (by omega), uS_nj _ _ _ (by omega)]
        · rw [if_neg hj2, if_neg (by omega), uS_nj _ _ _ hj]
