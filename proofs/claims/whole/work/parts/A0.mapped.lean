/-! PURE: publish: the state that a dropped one becomes -/
def mpT (S : Nat → Nat → Int32) (s : Nat) : Bool := zB (S 55 3) s
/-- from s on, the chain ends in the draft after at most n steps -/
def mpE (S : Nat → Nat → Int32) : Nat → Nat → Nat → Prop
  | 0, s, e => s = e ∧ zB (S 55 3) e = true
  | n + 1, s, e => (s = e ∧ zB (S 55 3) e = true) ∨ (zB (S 55 3) s = false ∧ ∃ t, t < 6 ∧ S 58 s = zI t ∧ mpE S n t e)
theorem mpE_in {S : Nat → Nat → Int32} : ∀ n s e, mpE S n s e → zB (S 55 3) e = true := by
  intro n
  induction n with
  | zero => intro s e h; exact h.2
  | succ n ih =>
    intro s e h
    rcases h with h | ⟨_, t, _, _, h⟩
    · exact h.2
    · exact ih t e h
theorem mpE_lt {S : Nat → Nat → Int32} : ∀ n s e, s < 6 → mpE S n s e → e < 6 := by
  intro n
  induction n with
  | zero => intro s e hs h; have := h.1; omega
  | succ n ih =>
    intro s e hs h
    rcases h with h | ⟨_, t, ht, _, h⟩
    · have := h.1; omega
    · exact ih t e ht h
theorem T_mapped_L {S : Nat → Nat → Int32} : ∀ n s e x f, s < 6 → n + x ≤ 5 → n < f → mpE S n s e → F_Flows_mappedFrom_L4 S f (zI s) (zI x) = zI e ∧ Sf_Flows_mappedFrom_L4 S f (zI s) (zI x) := by
  intro n
  induction n with
  | zero =>
    intro s e x f hs hx hf h
    obtain ⟨f, rfl⟩ : ∃ q, f = q + 1 := ⟨f - 1, by omega⟩
    obtain ⟨rfl, h2⟩ := h
    have hl : ¬ (6 : Int32) ≤ zI x := by rw [show (6 : Int32) = zI 6 from rfl, zI_le (by omega) (by omega)]; omega
    have hh : F_Flows_has S 3 (zI s) = 1 := by
      have := Flows_has_I S (s := 3) (k := s) (by omega) (by omega)
      rw [h2] at this; exact this
    unfold F_Flows_mappedFrom_L4 Sf_Flows_mappedFrom_L4
    rw [if_neg hl, if_neg hl, hh, if_neg ne_10, if_neg ne_10]
    exact ⟨rfl, Sf_Flows_has_I _ _ _, trivial⟩
  | succ n ih =>
    intro s e x f hs hx hf h
    obtain ⟨f, rfl⟩ : ∃ q, f = q + 1 := ⟨f - 1, by omega⟩
    have hl : ¬ (6 : Int32) ≤ zI x := by rw [show (6 : Int32) = zI 6 from rfl, zI_le (by omega) (by omega)]; omega
    have hh : F_Flows_has S 3 (zI s) = if zB (S 55 3) s = true then 1 else 0 := Flows_has_I S (s := 3) (k := s) (by omega) (by omega)
    unfold F_Flows_mappedFrom_L4 Sf_Flows_mappedFrom_L4
    rw [if_neg hl, if_neg hl, hh]
    rcases h with ⟨rfl, h2⟩ | ⟨h2, t, ht, h3, h4⟩
    · simp only [h2, if_true, if_neg ne_10]; exact ⟨trivial, Sf_Flows_has_I _ _ _, trivial⟩
    · simp only [h2, Bool.false_eq_true, if_false, if_true, zAt_I (show s < 6 by omega) (show 6 ≤ 2147483648 by omega), h3, zI_succ]
      obtain ⟨g1, g2⟩ := ih t e (x + 1) f ht (by omega) (by omega) h4
      exact ⟨g1, Sf_Flows_has_I _ _ _, g2⟩
theorem M_mapped_L {S U : Nat → Nat → Int32} (h0 : U 156 0 = S 55 3) (h7 : ∀ s t, s < 6 → t < 6 → S 58 s = zI t → U 163 s = zI t) : ∀ n s e f, s < 6 → n < f → mpE S n s e → F_MF_mapped_L2 156 U f (zI s) = zI e ∧ Sf_MF_mapped_L2 156 U f (zI s) := by
  have hh : ∀ s, s < 6 → F_MF_has 156 U (zI s) = if zB (S 55 3) s = true then 1 else 0 := by
    intro s hs
    unfold F_MF_has
    rw [h0]
    by_cases hb : zB (S 55 3) s = true
    · rw [if_pos hb, if_pos ((zB_shr (by omega)).mpr hb)]
    · rw [if_neg hb, if_neg (fun e => hb ((zB_shr (by omega)).mp e))]
  intro n
  induction n with
  | zero =>
    intro s e f hs hf h
    obtain ⟨f, rfl⟩ : ∃ q, f = q + 1 := ⟨f - 1, by omega⟩
    obtain ⟨rfl, h2⟩ := h
    unfold F_MF_mapped_L2 Sf_MF_mapped_L2
    rw [hh s hs, h2, if_pos rfl, if_neg ne_10, if_neg ne_10]
    exact ⟨rfl, trivial⟩
  | succ n ih =>
    intro s e f hs hf h
    obtain ⟨f, rfl⟩ : ∃ q, f = q + 1 := ⟨f - 1, by omega⟩
    unfold F_MF_mapped_L2 Sf_MF_mapped_L2
    rw [hh s hs]
    rcases h with ⟨rfl, h2⟩ | ⟨h2, t, ht, h3, h4⟩
    · simp only [h2, if_true, if_neg ne_10]; exact ⟨trivial, trivial⟩
    · simp only [h2, Bool.false_eq_true, if_false, if_true, zI_clamp (show s < 2147483648 by omega), h7 s t hs ht h3]
      obtain ⟨g1, g2⟩ := ih t e f ht (by omega) h4
      exact ⟨g1, vp_in_I hs (by omega), g2⟩
theorem mpE_of {S : Nat → Nat → Int32} {r : Nat → Nat} (h : ∀ s, s < 6 → zB (S 55 3) s = false → S 58 s ≠ -1 → ∃ t, t < 6 ∧ S 58 s = zI t ∧ (zB (S 55 3) t = true ∨ S 58 t ≠ -1) ∧ r t < r s) : ∀ n s, s < 6 → cN (fun j => decide (r j < r s)) 6 ≤ n → (zB (S 55 3) s = true ∨ S 58 s ≠ -1) → ∃ e, mpE S n s e := by
  have step : ∀ s t, t < 6 → r t < r s → cN (fun j => decide (r j < r t)) 6 < cN (fun j => decide (r j < r s)) 6 := by
    intro s t ht hlt
    refine cN_lt (k := t) 6 (fun j _ hj => ?_) ht (decide_eq_false (Nat.lt_irrefl _)) (decide_eq_true hlt)
    have := of_decide_eq_true hj
    exact decide_eq_true (by omega)
  intro n
  induction n with
  | zero =>
    intro s hs hn hok
    cases q : zB (S 55 3) s
    · have h58 : S 58 s ≠ -1 := by
        rcases hok with g | g
        · rw [q] at g; cases g
        · exact g
      obtain ⟨t, ht, h3, h4, h5⟩ := h s hs q h58
      have := step s t ht h5
      omega
    · exact ⟨s, rfl, q⟩
  | succ n ih =>
    intro s hs hn hok
    cases q : zB (S 55 3) s
    · have h58 : S 58 s ≠ -1 := by
        rcases hok with g | g
        · rw [q] at g; cases g
        · exact g
      obtain ⟨t, ht, h3, h4, h5⟩ := h s hs q h58
      have := step s t ht h5
      obtain ⟨e, he⟩ := ih t ht (by omega) h4
      exact ⟨e, Or.inr ⟨q, t, ht, h3, he⟩⟩
    · exact ⟨s, Or.inl ⟨rfl, q⟩⟩
theorem zDM.ends {S U : Nat → Nat → Int32} (h : zDM S U) {s : Nat} (hs : s < 6) (hok : zB (S 55 3) s = true ∨ S 58 s ≠ -1) : ∃ e, mpE S 5 s e := by
  obtain ⟨-, -, r, hr⟩ := h
  refine mpE_of hr 5 s hs ?_ hok
  have h1 := cN_lt (P := fun j => decide (r j < r s)) (Q := fun _ => true) (k := s) 6 (fun _ _ _ => rfl) hs (decide_eq_false (Nat.lt_irrefl _)) rfl
  have h2 := cN_le (fun _ => true) 6
  omega
theorem mapped_I {S U : Nat → Nat → Int32} (h : zDM S U) (h0 : U 156 0 = S 55 3) {s : Nat} (hs : s < 6) (hok : zB (S 55 3) s = true ∨ S 58 s ≠ -1) : ∃ e, e < 6 ∧ zB (S 55 3) e = true ∧ (F_Flows_mappedFrom S (zI s) = zI e ∧ Sf_Flows_mappedFrom S (zI s)) ∧ F_MF_mapped 156 U (zI s) = zI e ∧ Sf_MF_mapped 156 U (zI s) := by
  obtain ⟨e, he⟩ := h.ends hs hok
  obtain ⟨t1, t2⟩ := T_mapped_L 5 s e 0 1300 hs (by omega) (by omega) he
  rw [zI_0] at t1 t2
  obtain ⟨m1, m2⟩ := M_mapped_L (S := S) (U := U) h0 (fun s t hs ht h58 => by rw [h.1 s hs (by rw [h58]; exact m1_ne t (by omega))]; exact h58) 5 s e 1300 hs (by omega) he
  unfold F_Flows_mappedFrom Sf_Flows_mappedFrom F_MF_mapped Sf_MF_mapped
  exact ⟨e, mpE_lt 5 s e hs he, mpE_in 5 s e he, ⟨t1, t2, trivial⟩, m1, m2, trivial⟩
