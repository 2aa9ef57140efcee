/-! PURE: automations, the class's loops -/
theorem T_wake_L88_I {E : Nat → Nat → Int32} {d p lim r : Nat} {x1 x3 x5 x6 x8 : Int32} {T : Nat → Bool} (hr : r < 6) (hru : zRule E r) (hp : p < 8) (hlim : lim + 1 < 900) (hx8 : ∀ q, q < 30 → zB x8 q = T q) : ∀ (n j f : Nat) (S : Nat → Nat → Int32) (A : zA), n + j = 30 → n < f → eC E S → S 0 14 = zI d → zRC S A → zOk d A → A.2.1 ≤ lim + 1 → (∀ q, q < 30 → T q = true → A.2.2.1 q = true) →
    ∃ V, F_T_wake_L88 x1 (zI p) x3 (zI lim) x5 x6 (zI r) x8 f S (zI j) = V ∧ Sf_T_wake_L88 x1 (zI p) x3 (zI lim) x5 x6 (zI r) x8 f S (zI j) ∧ zRC V (aL E d p lim r T n j A) ∧ zFC S V := by
  intro n
  induction n with
  | zero =>
    intro j f S A hj hf hE hd hC hA hl hT
    obtain ⟨f, rfl⟩ : ∃ g, f = g + 1 := ⟨f - 1, by omega⟩
    have hl : (30 : Int32) ≤ zI j := by rw [show (30 : Int32) = zI 30 from rfl, zI_le (by omega) (by omega)]; omega
    refine ⟨S, ?_, ?_, hC, zFC.rfl⟩
    · unfold F_T_wake_L88; rw [if_pos hl]
    · unfold Sf_T_wake_L88; rw [if_pos hl]; trivial
  | succ n ih =>
    intro j f S A hj hf hE hd hC hA hl hT
    obtain ⟨f, rfl⟩ : ∃ g, f = g + 1 := ⟨f - 1, by omega⟩
    have hl30 : ¬ (30 : Int32) ≤ zI j := by rw [show (30 : Int32) = zI 30 from rfl, zI_le (by omega) (by omega)]; omega
    unfold F_T_wake_L88 Sf_T_wake_L88 aL
    rw [if_neg hl30, if_neg hl30, hC.1.size, zI_succ, T_isIn_I S (show j < 31 by omega), hx8 j (by omega)]
    by_cases hlt : lim < A.2.1
    · have : zI lim < zI A.2.1 := by rw [zI_lt (by omega) (by omega)]; exact hlt
      rw [if_pos this, if_pos this, if_pos hlt]
      exact ⟨S, rfl, trivial, hC, zFC.rfl⟩
    · have : ¬ zI lim < zI A.2.1 := by rw [zI_lt (by omega) (by omega)]; exact hlt
      rw [if_neg this, if_neg this, if_neg hlt]
      by_cases t : T j = true
      · have hw := hT j (by omega) t
        obtain ⟨k1, k2, k3⟩ := T_canTake_I hE hC.2 hA.rg hr hru (show j < 30 by omega) hw
        obtain ⟨c, cc, ce, crg⟩ := hru.col
        simp only [t, if_true, if_neg (show ¬ ((1 : Int32) = 0) by decide), k1, zAt_I hr (show 6 ≤ 2147483648 by omega), hE 63 (by omega), hE 64 (by omega), z_let]
        unfold aAct
        by_cases g : aCan E A.2.2 r j = true
        · obtain ⟨B, b1, b2, b3, b4⟩ := T_change_C (p := p) hC (show A.2.1 < 900 by omega) hd (show j < 30 by omega) (show c < 9 by omega) (E 64 r)
          obtain ⟨o1, o2, o3⟩ := aC_ok (p := p) (v := E 64 r) hA (show j < 30 by omega) (show c < 9 by omega) hw crg (by omega) hp
          simp only [g, if_true, if_neg (show ¬ ((1 : Int32) = 0) by decide), ce, b1, zI_clamp (show c < 2147483648 by omega)]
          obtain ⟨V, v1, v2, v3, v4⟩ := ih (j + 1) f B (aC d p j c (E 64 r) A) (by omega) (by omega) (hE.fc b4) (by rw [b4.1 0 (by omega)]; exact hd) b3 o1 (by omega) (fun q hq tq => by rw [o3.2.2.2.1]; exact hT q hq tq)
          exact ⟨V, v1, ⟨k3, k2, b2, v2⟩, v3, b4.trans v4⟩
        · have g' : aCan E A.2.2 r j = false := by simpa using g
          simp only [g', Bool.false_eq_true, if_false, if_true]
          obtain ⟨V, v1, v2, v3, v4⟩ := ih (j + 1) f S A (by omega) (by omega) hE hd hC hA hl hT
          exact ⟨V, v1, ⟨k3, k2, v2⟩, v3, v4⟩
      · have t' : T j = false := by simpa using t
        simp only [t', Bool.false_eq_true, if_false, if_true]
        exact ih (j + 1) f S A (by omega) (by omega) hE hd hC hA hl hT
theorem T_wake_L16_I {E : Nat → Nat → Int32} {d p lim rn k : Nat} {fall : Bool} (hR : zRuOk E rn) (hp : p < 8) (hlim : lim + 1 < 900) {e : zEnt} : ∀ (n f : Nat) (S : Nat → Nat → Int32) (A : zA), n ≤ rn → n < f → eC E S → S 0 14 = zI d → zRC S A → zOk d A → A.2.1 ≤ lim + 1 → k < A.2.1 → e = (A.1 k).1 →
    ∃ V, F_T_wake_L16 (zI k) (zI p) (if fall = true then 1 else 0) (zI lim) (eI e) f S (zI (rn - n)) = V ∧ Sf_T_wake_L16 (zI k) (zI p) (if fall = true then 1 else 0) (zI lim) (eI e) f S (zI (rn - n)) ∧ zRC V (aWake E d p lim rn fall e n A) ∧ zFC S V := by
  intro n
  induction n with
  | zero =>
    intro f S A hn hf hE hd hC hA hl hk he
    obtain ⟨f, rfl⟩ : ∃ g, f = g + 1 := ⟨f - 1, by omega⟩
    have hs : S 59 8 = zI rn := by rw [hE 59 (by omega)]; exact hR.1
    have h1 : zI rn ≤ zI (rn - 0) := by rw [zI_le (by have := hR.2.1; omega) (by have := hR.2.1; omega)]; omega
    refine ⟨S, ?_, ?_, hC, zFC.rfl⟩
    · unfold F_T_wake_L16; rw [hs, if_pos h1]
    · unfold Sf_T_wake_L16; rw [hs, if_pos h1]; trivial
  | succ n ih =>
    intro f S A hn hf hE hd hC hA hl hk he
    obtain ⟨f, rfl⟩ : ∃ g, f = g + 1 := ⟨f - 1, by omega⟩
    have h6 := hR.2.1
    have hs : S 59 8 = zI rn := by rw [hE 59 (by omega)]; exact hR.1
    have h1 : ¬ zI rn ≤ zI (rn - (n + 1)) := by rw [zI_le (by omega) (by omega)]; omega
    generalize hrr : (if fall = true then n else rn - (n + 1)) = rr
    have hr1 : rr < rn := by rw [← hrr]; split <;> omega
    have hru := hR.2.2 rr hr1
    have hwk := T_isWoken_I hE hC hA (show rr < 6 by omega) hru hk (by omega)
    rw [← he] at hwk
    obtain ⟨w1, w2⟩ := hwk
    have hbody : ∃ V, F_T_wake_l16_49 (F_T_wake_L16 (zI k) (zI p) (if fall = true then 1 else 0) (zI lim) (eI e) f) S (zI k) (zI p) (if fall = true then 1 else 0) (zI lim) (eI e) (zI (rn - (n + 1))) (zI rr) = V ∧ Sf_T_wake_l16_49 (F_T_wake_L16 (zI k) (zI p) (if fall = true then 1 else 0) (zI lim) (eI e) f) (Sf_T_wake_L16 (zI k) (zI p) (if fall = true then 1 else 0) (zI lim) (eI e) f) S (zI k) (zI p) (if fall = true then 1 else 0) (zI lim) (eI e) (zI (rn - (n + 1))) (zI rr) ∧ zRC V (aWake E d p lim rn fall e n (aRule E d p lim e rr A)) ∧ zFC S V := by
      have loop : ∀ x8 : Int32, (∀ q, q < 30 → zB x8 q = (aWoken E A.2.2 e rr && aTg A.2.2 (E 62 rr) e.2.1 q)) → ∃ V, F_T_wake_l16_83 (F_T_wake_L16 (zI k) (zI p) (if fall = true then 1 else 0) (zI lim) (eI e) f) S (zI k) (zI p) (if fall = true then 1 else 0) (zI lim) (eI e) (zI (rn - (n + 1))) (zI rr) x8 = V ∧ Sf_T_wake_l16_83 (F_T_wake_L16 (zI k) (zI p) (if fall = true then 1 else 0) (zI lim) (eI e) f) (Sf_T_wake_L16 (zI k) (zI p) (if fall = true then 1 else 0) (zI lim) (eI e) f) S (zI k) (zI p) (if fall = true then 1 else 0) (zI lim) (eI e) (zI (rn - (n + 1))) (zI rr) x8 ∧ zRC V (aWake E d p lim rn fall e n (aRule E d p lim e rr A)) ∧ zFC S V := by
        intro x8 hx8
        have hT : ∀ q, q < 30 → (aWoken E A.2.2 e rr && aTg A.2.2 (E 62 rr) e.2.1 q) = true → A.2.2.1 q = true := by rw [he]; exact aRule_T hA hk rr
        obtain ⟨B, b1, b2, b3, b4⟩ := T_wake_L88_I (x1 := zI k) (x3 := if fall = true then 1 else 0) (x5 := eI e) (x6 := zI (rn - (n + 1))) (show rr < 6 by omega) hru hp hlim hx8 30 0 1300 S A rfl (by omega) hE hd hC hA hl hT
        obtain ⟨o1, o2, o3⟩ := aL_ok (E := E) (d := d) (T := fun q => aWoken E A.2.2 e rr && aTg A.2.2 (E 62 rr) e.2.1 q) hru hp 30 0 A rfl hA hT hl
        obtain ⟨V, v1, v2, v3, v4⟩ := ih f B (aRule E d p lim e rr A) (by omega) (by omega) (hE.fc b4) (by rw [b4.1 0 (by omega)]; exact hd) b3 o1 o2 (Nat.lt_of_lt_of_le hk o3.1) (he.trans (congrArg Prod.fst (o3.2.1 k hk).symm))
        rw [zI_0] at b1 b2
        have en : zI (rn - (n + 1)) + 1 = zI (rn - n) := by rw [zI_succ]; congr 1; omega
        unfold F_T_wake_l16_83 Sf_T_wake_l16_83
        simp only [b1, en]
        exact ⟨V, v1, ⟨b2, v2⟩, v3, b4.trans v4⟩
      unfold F_T_wake_l16_49 Sf_T_wake_l16_49
      rw [w1]
      by_cases g : aWoken E A.2.2 e rr = true
      · obtain ⟨i1, i2⟩ := hA.item hk (aCause_kind (by rw [← he]; exact aWoken_cause g))
        rw [← he] at i1 i2
        have eI' : eI e = zI e.2.1 := by
          have := aCause_kind (aWoken_cause g)
          unfold eI; rw [if_neg (by omega)]
        obtain ⟨t1, t2⟩ := T_targetsOf_I hC.2 hA.rg i1 i2 (g := E 62 rr) hru.2.2.1.1.1 hru.2.2.1.1.2
        simp only [g, if_true, if_neg (show ¬ ((1 : Int32) = 0) by decide), zAt_I (show rr < 6 by omega) (show 6 ≤ 2147483648 by omega), hE 62 (by omega)]
        obtain ⟨V, v1, v2, v3, v4⟩ := loop (F_T_targetsOf S (eI e) (E 62 rr)) (fun q hq => by rw [eI', t1 q hq, g, Bool.true_and])
        refine ⟨V, v1, ⟨w2, ?_, v2⟩, v3, v4⟩
        rw [eI']; exact t2
      · have g' : aWoken E A.2.2 e rr = false := by simpa using g
        simp only [g', Bool.false_eq_true, if_false, if_true]
        obtain ⟨V, v1, v2, v3, v4⟩ := loop 0 (fun q hq => by rw [zB_0, g', Bool.false_and])
        exact ⟨V, v1, ⟨w2, v2⟩, v3, v4⟩
    obtain ⟨V, v1, v2, v3, v4⟩ := hbody
    unfold F_T_wake_L16 Sf_T_wake_L16 aWake
    rw [hs, if_neg h1, if_neg h1, hrr]
    cases fall
    · have e1 : rr = rn - (n + 1) := by rw [← hrr]; rfl
      rw [e1] at v1 v2 v3
      simp only [Bool.false_eq_true, if_false, if_true] at v1 v2 ⊢
      rw [e1]
      exact ⟨V, v1, v2, v3, v4⟩
    · have e1 : rr = n := by rw [← hrr]; rfl
      have e2 : zI rn - 1 - zI (rn - (n + 1)) = zI rr := by
        rw [show (1 : Int32) = zI 1 from rfl, zI_sub (by omega) (by omega), zI_sub (by omega) (by omega), e1]; congr 1; omega
      simp only [if_true, if_neg (show ¬ ((1 : Int32) = 0) by decide), e2] at v1 v2 ⊢
      exact ⟨V, v1, v2, v3, v4⟩
theorem T_goesThrough_L15_I {E : Nat → Nat → Int32} {d p lim rn : Nat} {fall : Bool} (hR : zRuOk E rn) (hp : p < 8) (hlim : lim + 1 < 900) : ∀ (f k : Nat) (S : Nat → Nat → Int32) (A : zA), 1 ≤ f → lim + 2 ≤ f + k → k < 1000 → eC E S → S 0 14 = zI d → zRC S A → zOk d A → A.2.1 ≤ lim + 1 →
    ∃ V, F_T_goesThrough_L15 (zI p) (if fall = true then 1 else 0) (zI lim) f S (zI k) = V ∧ Sf_T_goesThrough_L15 (zI p) (if fall = true then 1 else 0) (zI lim) f S (zI k) ∧ zRC V (aGo E d p lim rn fall f k A) ∧ zFC S V := by
  intro f
  induction f with
  | zero => intro k S A h1; omega
  | succ f ih =>
    intro k S A h1 h2 hk1 hE hd hC hA hl
    unfold F_T_goesThrough_L15 Sf_T_goesThrough_L15 aGo
    rw [hC.1.size]
    by_cases q1 : A.2.1 ≤ k
    · have : zI A.2.1 ≤ zI k := by rw [zI_le (by omega) (by omega)]; exact q1
      rw [if_pos this, if_pos this, if_pos (Or.inl q1)]
      exact ⟨S, rfl, trivial, hC, zFC.rfl⟩
    have m1 : ¬ zI A.2.1 ≤ zI k := by rw [zI_le (by omega) (by omega)]; exact q1
    rw [if_neg m1, if_neg m1]
    by_cases q2 : lim < A.2.1
    · have : zI lim < zI A.2.1 := by rw [zI_lt (by omega) (by omega)]; exact q2
      rw [if_pos this, if_pos this, if_pos (Or.inr q2)]
      exact ⟨S, rfl, trivial, hC, zFC.rfl⟩
    have m2 : ¬ zI lim < zI A.2.1 := by rw [zI_lt (by omega) (by omega)]; exact q2
    rw [if_neg m2, if_neg m2, if_neg (show ¬ (A.2.1 ≤ k ∨ lim < A.2.1) by omega)]
    obtain ⟨B, b1, b2, b3, b4⟩ := T_wake_L16_I (fall := fall) hR hp hlim (k := k) (e := (A.1 k).1) rn 1300 S A (Nat.le_refl _) (by have := hR.2.1; omega) hE hd hC hA hl (by omega) rfl
    obtain ⟨o1, o2, o3⟩ := aWake_ok (fall := fall) hR hp rn A (A.1 k).1 (Nat.le_refl _) hA (show k < A.2.1 by omega) rfl hl
    obtain ⟨V, v1, v2, v3, v4⟩ := ih (k + 1) B _ (by omega) (by omega) (by omega) (hE.fc b4) (by rw [b4.1 0 (by omega)]; exact hd) b3 o1 o2
    rw [Nat.sub_self, zI_0] at b1 b2
    have h4 : zAt (S 4) 900 (zI k) = eI (A.1 k).1 := by rw [zAt_I (by omega) (by omega)]; exact (hC.1.ent k (by omega)).1
    have w1 : F_T_wake S (zI k) (zI p) (if fall = true then 1 else 0) (zI lim) = B := by unfold F_T_wake; rw [h4, b1]
    have w2 : Sf_T_wake S (zI k) (zI p) (if fall = true then 1 else 0) (zI lim) := by unfold Sf_T_wake; rw [h4]; exact ⟨b2, trivial⟩
    simp only [z_let, w1, zI_succ]
    exact ⟨V, v1, ⟨w2, v2⟩, v3, b4.trans v4⟩
theorem T_goesThrough_I {E : Nat → Nat → Int32} {d p rn m : Nat} {fall : Bool} (hR : zRuOk E rn) (hp : p < 8) {S : Nat → Nat → Int32} {A : zA} (hn : A.2.1 ≤ 870) (hm : m ≤ A.2.1) (hE : eC E S) (hd : S 0 14 = zI d) (hC : zRC S A) (hA : zOk d A) :
    ∃ V, F_T_goesThrough S (zI m) (zI p) (if fall = true then 1 else 0) = (if A.2.1 + 20 < (aGo E d p (A.2.1 + 20) rn fall 1300 m A).2.1 then 0 else 1, V) ∧ Sf_T_goesThrough S (zI m) (zI p) (if fall = true then 1 else 0) ∧ zRC V (aGo E d p (A.2.1 + 20) rn fall 1300 m A) ∧ zFC S V := by
  obtain ⟨V, v1, v2, v3, v4⟩ := T_goesThrough_L15_I (fall := fall) (lim := A.2.1 + 20) hR hp (by omega) 1300 m S A (by omega) (by omega) (by omega) hE hd hC hA (by omega)
  obtain ⟨o1, o2, o3⟩ := aGo_ok (fall := fall) (lim := A.2.1 + 20) hR hp 1300 m A hA (by omega)
  have e : S 1 7 + 20 = zI (A.2.1 + 20) := by rw [hC.1.size, show (20 : Int32) = zI 20 from rfl, zI_add]
  unfold F_T_goesThrough Sf_T_goesThrough
  rw [e, v1]
  refine ⟨V, ?_, ⟨v2, trivial⟩, v3, v4⟩
  show (if zI (A.2.1 + 20) < V 1 7 then ((0 : Int32), V) else (1, V)) = _
  rw [v3.1.size]
  by_cases q : A.2.1 + 20 < (aGo E d p (A.2.1 + 20) rn fall 1300 m A).2.1
  · rw [if_pos q, if_pos]; rw [zI_lt (by omega) (by omega)]; exact q
  · rw [if_neg q, if_neg]; rw [zI_lt (by omega) (by omega)]; exact q
