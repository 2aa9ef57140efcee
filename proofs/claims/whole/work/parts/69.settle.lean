/-! PURE: a call is settled, in both -/
/-- by whom the entries from one on are -/
def aBy (p m : Nat) (A : zA) : Prop := ∀ i, m ≤ i → i < A.2.1 → (A.1 i).2.2 = p
theorem aBy.push {p m d : Nat} {A : zA} (h : aBy p m A) (e : zEnt) : aBy p m (aPush d p e A) := by
  intro i h1 h2
  have h2' : i < A.2.1 + 1 := h2
  show (zPush A.1 A.2.1 e d p i).2.2 = p
  by_cases q : i = A.2.1
  · rw [q, zPush_n]
  · rw [zPush_lt (by omega)]; exact h i h1 (by omega)
theorem aBy.aC {p m d i c : Nat} {v : Int32} {A : zA} (h : aBy p m A) : aBy p m (aC d p i c v A) := by
  rcases aC_cases (d := d) (p := p) (i := i) (c := c) (v := v) (A := A) with e | e
  · rw [e]; exact h
  · rw [e]; exact h.push _
theorem aBy.aL {E : Nat → Nat → Int32} {d p m lim r : Nat} {T : Nat → Bool} : ∀ (n j : Nat) (A : zA), aBy p m A → aBy p m (aL E d p lim r T n j A) := by
  intro n
  induction n with
  | zero => intro j A h; exact h
  | succ n ih =>
    intro j A h
    unfold Jvm.Pilot.CTrackHouseLaw_law_r4988_499201.aL
    split
    · exact h
    · apply ih
      split
      · unfold aAct
        split
        · exact h.aC
        · exact h
      · exact h
theorem aBy.aWake {E : Nat → Nat → Int32} {d p m lim rn : Nat} {fall : Bool} {e : zEnt} : ∀ (n : Nat) (A : zA), aBy p m A → aBy p m (aWake E d p lim rn fall e n A) := by
  intro n
  induction n with
  | zero => intro A h; exact h
  | succ n ih => intro A h; exact ih _ (aBy.aL 30 0 A h)
theorem M_isThrough_L9_I {b : Nat} {E : Nat → Nat → Int32} {fl : Nat → Nat} {d p bg rn m : Nat} {fall : Bool} (hb : 86 ≤ b ∧ b ≤ 110) (hfl : zFl fl) (hR : zRuOk E rn) (hR2 : E 78 31 = zI rn) (hp : p < 8) (hbg : bg + 21 < 1200) : ∀ (f k : Nat) (U : Nat → Nat → Int32) (A : zA), 1 ≤ f → bg + 22 ≤ f + k → k < 1300 → m ≤ k → eM E fl U → U 78 1 = zI d → zRM b U A → zOk d A → A.2.1 ≤ bg + 20 → bg ≤ A.2.1 → aBy p m A →
    ∃ V, F_M_isThrough_L9 b fl (if fall = true then 1 else 0) (zI bg) f U (zI k) = zThr (bg + 20) (aGo E d p (bg + 20) rn fall f k A).2.1 V ∧ Sf_M_isThrough_L9 b fl (if fall = true then 1 else 0) (zI bg) f U (zI k) ∧ zRM b V (aGo E d p (bg + 20) rn fall f k A) ∧ zFN b U V := by
  intro f
  induction f with
  | zero => intro k U A h1; omega
  | succ f ih =>
    intro k U A h1 h2 hk1 hmk hE hd hC hA hl hg hby
    unfold F_M_isThrough_L9 Sf_M_isThrough_L9 aGo
    rw [hC.1.size]
    by_cases q1 : A.2.1 ≤ k
    · have : zI A.2.1 ≤ zI k := by rw [zI_le (by omega) (by omega)]; exact q1
      rw [if_pos this, if_pos this, if_pos (Or.inl q1)]
      exact ⟨U, by unfold zThr; rw [if_neg (by omega)], trivial, hC, zFN.rfl⟩
    have m1 : ¬ zI A.2.1 ≤ zI k := by rw [zI_le (by omega) (by omega)]; exact q1
    rw [if_neg m1, if_neg m1, if_neg (show ¬ (A.2.1 ≤ k ∨ bg + 20 < A.2.1) by omega)]
    obtain ⟨B, b1, b2, b3, b4⟩ := M_isThrough_L21_I (fall := fall) hb hfl hR hR2 hp hbg (k := k) (e := (A.1 k).1) rn 1300 U A (Nat.le_refl _) (by have := hR.2.1; omega) hE hd hC hA hl hg (by omega) (hby k hmk (by omega)) rfl
    obtain ⟨o1, o2, o3⟩ := aWake_ok (E := E) (fall := fall) (lim := bg + 20) hR hp rn A (A.1 k).1 (Nat.le_refl _) hA (show k < A.2.1 by omega) rfl (by omega)
    rw [Nat.sub_self, zI_0] at b1 b2
    by_cases q : bg + 20 < (aWake E d p (bg + 20) rn fall (A.1 k).1 rn A).2.1
    · have ez : F_M_isThrough_L21 b fl (if fall = true then 1 else 0) (zI bg) (zI k) 1300 U 0 = .inr (0, B) := by rw [b1]; unfold zThr; rw [if_pos q]
      rw [aGo_stop q]
      simp only [ez]
      exact ⟨B, by unfold zThr; rw [if_pos q], ⟨b2, trivial⟩, b3, b4⟩
    · have ez : F_M_isThrough_L21 b fl (if fall = true then 1 else 0) (zI bg) (zI k) 1300 U 0 = .inl B := by rw [b1]; unfold zThr; rw [if_neg q]
      simp only [ez, zI_succ]
      obtain ⟨V, v1, v2, v3, v4⟩ := ih (k + 1) B _ (by omega) (by omega) (by omega) (by omega) (hE.fn hfl hb b4) (by rw [b4.2.1 1 (by omega)]; exact hd) b3 o1 (by omega) (by have := o3.1; omega) (aBy.aWake rn A hby)
      exact ⟨V, v1, ⟨b2, v2⟩, v3, b4.trans v4⟩
theorem M_isThrough_I {b : Nat} {E : Nat → Nat → Int32} {fl : Nat → Nat} {d p rn m : Nat} {fall : Bool} (hb : 86 ≤ b ∧ b ≤ 110) (hfl : zFl fl) (hR : zRuOk E rn) (hR2 : E 78 31 = zI rn) (hp : p < 8) {U : Nat → Nat → Int32} {A : zA} (hn : A.2.1 ≤ 870) (hm : m ≤ A.2.1) (hE : eM E fl U) (hd : U 78 1 = zI d) (hC : zRM b U A) (hA : zOk d A) (hby : aBy p m A) :
    ∃ V, F_M_isThrough b fl U (zI m) (if fall = true then 1 else 0) = (if A.2.1 + 20 < (aGo E d p (A.2.1 + 20) rn fall 1300 m A).2.1 then 0 else 1, V) ∧ Sf_M_isThrough b fl U (zI m) (if fall = true then 1 else 0) ∧ zRM b V (aGo E d p (A.2.1 + 20) rn fall 1300 m A) ∧ zFN b U V := by
  obtain ⟨V, v1, v2, v3, v4⟩ := M_isThrough_L9_I (fall := fall) (bg := A.2.1) hb hfl hR hR2 hp (by omega) 1300 m U A (by omega) (by omega) (by omega) (Nat.le_refl _) hE hd hC hA (by omega) (Nat.le_refl _) hby
  unfold F_M_isThrough Sf_M_isThrough
  rw [hC.1.size, v1]
  refine ⟨V, ?_, ⟨v2, trivial⟩, v3, v4⟩
  unfold zThr
  by_cases q : A.2.1 + 20 < (aGo E d p (A.2.1 + 20) rn fall 1300 m A).2.1
  · rw [if_pos q, if_pos q]
  · rw [if_neg q, if_neg q]
/-! the outcome -/
def aEnd (E : Nat → Nat → Int32) (d p rn m : Nat) (fall : Bool) (A : zA) : zA := aGo E d p (A.2.1 + 20) rn fall 1300 m A
def aFine (E : Nat → Nat → Int32) (d p rn m : Nat) (A : zA) : Prop := ¬ A.2.1 + 20 < (aEnd E d p rn m true A).2.1 ∧ ¬ A.2.1 + 20 < (aEnd E d p rn m false A).2.1 ∧ zSame (aEnd E d p rn m false A).2.2 (aEnd E d p rn m true A).2.2 ∧ (aEnd E d p rn m false A).2.1 ≤ 800
def aBack (m : Nat) (A : zA) : zA := (A.1, m, zBkw A.1 A.2.1 A.2.2 (A.2.1 - m))
theorem aBack_ok {d m : Nat} {A : zA} (h : zOk d A) (hm : m ≤ A.2.1) : zOk d (aBack m A) := by
  obtain ⟨h1, h2, ⟨h3, h4⟩, h5, h6⟩ := h
  refine ⟨h1.le hm, fun i hi => h2 i (Nat.lt_of_lt_of_le hi hm), ⟨fun i hi => h3 i (Nat.lt_of_lt_of_le hi hm), fun i j hij hj => h4 i j hij (Nat.lt_of_lt_of_le hj hm)⟩, ?_, h6⟩
  have := zBkw_same h1 h5 (A.2.1 - m) (by omega)
  rw [show A.2.1 - (A.2.1 - m) = m by omega] at this
  exact this
theorem zExt.back {A B : zA} (h : zExt A B) {m : Nat} (hm : m ≤ A.2.1) : zBkw B.1 B.2.1 B.2.2 (B.2.1 - m) = zBkw A.1 A.2.1 A.2.2 (A.2.1 - m) := by
  obtain ⟨h1, h2, h3, -⟩ := h
  have step : ∀ (d : Nat), d ≤ A.2.1 → zBkw B.1 B.2.1 B.2.2 (B.2.1 - A.2.1 + d) = zBkw B.1 A.2.1 A.2.2 d := by
    intro d
    induction d with
    | zero => intro _; exact h3
    | succ d ih =>
      intro hd
      show zUnd (B.1 (B.2.1 - 1 - (B.2.1 - A.2.1 + d))).1 (zBkw B.1 B.2.1 B.2.2 (B.2.1 - A.2.1 + d)) = zUnd (B.1 (A.2.1 - 1 - d)).1 (zBkw B.1 A.2.1 A.2.2 d)
      rw [ih (by omega), show B.2.1 - 1 - (B.2.1 - A.2.1 + d) = A.2.1 - 1 - d by omega]
  rw [show B.2.1 - m = B.2.1 - A.2.1 + (A.2.1 - m) by omega, step _ (by omega), zBkw_eq h2 _ (by omega)]
/-- what the class writes when a call is settled -/
def zFS (S V : Nat → Nat → Int32) : Prop := (∀ k, (k < 1 ∨ 16 < k) → V k = S k) ∧ ∀ j, j ≠ 7 → V 1 j = S 1 j
theorem zFC.s {S V : Nat → Nat → Int32} (h : zFC S V) : zFS S V := ⟨fun k hk => h.1 k (by omega), h.2.1⟩
theorem zFS.rfl {S : Nat → Nat → Int32} : zFS S S := ⟨fun _ _ => Eq.refl _, fun _ _ => Eq.refl _⟩
theorem zFS.trans {S V W : Nat → Nat → Int32} (h : zFS S V) (g : zFS V W) : zFS S W := ⟨fun k hk => (g.1 k hk).trans (h.1 k hk), fun j hj => (g.2 j hj).trans (h.2 j hj)⟩
theorem eC.fs {E S V : Nat → Nat → Int32} (h : eC E S) (g : zFS S V) : eC E V := fun k hk => by rw [g.1 k (by omega)]; exact h k hk
theorem T_takeBack_A {d m : Nat} {A : zA} {S : Nat → Nat → Int32} (hA : zOk d A) (hC : zRC S A) (hn : A.2.1 ≤ 900) (hm : m ≤ A.2.1) : ∃ V, F_T_takeBack S (zI m) = V ∧ Sf_T_takeBack S (zI m) ∧ zRC V (aBack m A) ∧ zFC S V := by
  obtain ⟨V, v1, v2, v3, v4, v5, v6, v7⟩ := T_takeBack_I hn hm (fun i hi => (hA.w i hi).1) hC.1 hC.2
  exact ⟨V, v1, v2, ⟨v3, v4⟩, fun k hk => v5 k (by omega) (by omega), v6, v7⟩
theorem zRC.back {A B : zA} {V : Nat → Nat → Int32} (h : zExt A B) {m : Nat} (hm : m ≤ A.2.1) (hC : zRC V (aBack m B)) : zRC V (aBack m A) := by
  refine ⟨hC.1.eq (fun i hi => (h.2.1 i (by have : i < m := hi; omega)).symm), ?_⟩
  show zWC 9 V (zBkw A.1 A.2.1 A.2.2 (A.2.1 - m))
  rw [← h.back hm]; exact hC.2
theorem zExt.bk {A B : zA} (h : zExt A B) : zBkw B.1 B.2.1 B.2.2 (B.2.1 - A.2.1) = A.2.2 := h.2.2.1
theorem zSame_of_ext {A B C : zA} (h : zExt A B) (g : zExt A C) (hs : zSame B.2.2 C.2.2) : (∀ i, i < 30 → ∀ c, c < 10 → C.2.2.2.1 i c = B.2.2.2.1 i c) := by
  intro i hi c hc
  cases q : B.2.2.1 i
  · have q' : A.2.2.1 i = false := by rw [← h.2.2.2.1]; exact q
    rw [h.2.2.2.2.1 i q' c, g.2.2.2.2.1 i q' c]
  · exact hs.2.1 i hi q c hc
theorem T_isSettled_I {E : Nat → Nat → Int32} {d p rn m : Nat} (hR : zRuOk E rn) (hp : p < 8) {S : Nat → Nat → Int32} {A : zA} (hn : A.2.1 ≤ 870) (hm : m ≤ A.2.1) (hE : eC E S) (hd : S 0 14 = zI d) (hC : zRC S A) (hA : zOk d A) :
    ∃ r V, F_T_isSettled S (zI m) (zI p) = (r, V) ∧ Sf_T_isSettled S (zI m) (zI p) ∧ zFS S V ∧ (aFine E d p rn m A → r = 1 ∧ zRC V (aEnd E d p rn m false A)) ∧ (¬ aFine E d p rn m A → r = 0 ∧ zRC V (aBack m A)) := by
  obtain ⟨S1, a1, a2, a3, a4⟩ := T_goesThrough_I (fall := true) hR hp hn hm hE hd hC hA
  obtain ⟨f1, f2, f3⟩ := aGo_ok (E := E) (fall := true) (lim := A.2.1 + 20) hR hp 1300 m A hA (by omega)
  obtain ⟨r1, r2, r3⟩ := aGo_ok (E := E) (fall := false) (lim := A.2.1 + 20) hR hp 1300 m A hA (by omega)
  change zOk d (aEnd E d p rn m true A) at f1
  change (aEnd E d p rn m true A).2.1 ≤ _ at f2
  change zExt A (aEnd E d p rn m true A) at f3
  change zOk d (aEnd E d p rn m false A) at r1
  change (aEnd E d p rn m false A).2.1 ≤ _ at r2
  change zExt A (aEnd E d p rn m false A) at r3
  change _ = (if A.2.1 + 20 < (aEnd E d p rn m true A).2.1 then 0 else 1, S1) at a1
  change zRC S1 (aEnd E d p rn m true A) at a3
  generalize hF : aEnd E d p rn m true A = AF at *
  obtain ⟨c1, c2, c3⟩ := World_copyFrom_I a3.2
  generalize hS2 : F_World_copyFrom 13 9 S1 = S2 at c1 c2 c3
  have hC2 : zRC S2 AF := ⟨a3.1.ag (by rw [c2 1 (by omega)]) (fun k h1 h2 => c2 k (by omega)), a3.2.ag (by rw [c2 9 (by omega)]) (c2 _ (by omega)) (c2 _ (by omega)) (c2 _ (by omega))⟩
  obtain ⟨S3, b1, b2, b3, b4⟩ := T_takeBack_A f1 hC2 (by omega) f3.1
  have hC3 : zRC S3 A := by
    have := zRC.back f3 (Nat.le_refl _) b3
    refine ⟨this.1, ?_⟩
    have q := this.2
    have e : (aBack A.2.1 A).2.2 = A.2.2 := by show zBkw A.1 A.2.1 A.2.2 (A.2.1 - A.2.1) = A.2.2; rw [Nat.sub_self]; rfl
    rw [e] at q; exact q
  have h13 : zWC 13 S3 AF.2.2 := c1.ag (by rw [b4.1 13 (by omega)]) (b4.1 _ (by omega)) (b4.1 _ (by omega)) (b4.1 _ (by omega))
  have fr2 : zFS S1 S2 := ⟨fun k hk => c2 k (by omega), fun j _ => by rw [c2 1 (by omega)]⟩
  have fr3 : zFS S S3 := (a4.s.trans fr2).trans b4.s
  have hn7 : S 1 7 = zI A.2.1 := hC.1.size
  -- taken back
  have back : ∀ (T : Nat → Nat → Int32) (B : zA), zOk d B → zExt A B → zRC T B → B.2.1 ≤ 900 → zFS S T → ¬ aFine E d p rn m A → (∃ r V, F_T_isSettled_j79 T (zI m) = (r, V) ∧ Sf_T_isSettled_j79 T (zI m) ∧ zFS S V ∧ (aFine E d p rn m A → r = 1 ∧ zRC V (aEnd E d p rn m false A)) ∧ (¬ aFine E d p rn m A → r = 0 ∧ zRC V (aBack m A))) := by
    intro T B hB hx hT hB9 hfr hno
    obtain ⟨V, v1, v2, v3, v4⟩ := T_takeBack_A hB hT hB9 (m := m) (Nat.le_trans hm hx.1)
    refine ⟨0, V, ?_, ?_, hfr.trans v4.s, fun q => absurd q hno, fun _ => ⟨rfl, zRC.back hx hm v3⟩⟩
    · unfold F_T_isSettled_j79 F_T_isSettled_j80; simp only [if_true, z_let, v1]
    · unfold Sf_T_isSettled_j79 Sf_T_isSettled_j80; simp only [if_true, z_let, v1]; exact ⟨v2, rfl, trivial⟩
  unfold F_T_isSettled Sf_T_isSettled
  simp only [if_true] at a1 a2
  rw [a1]
  simp only [z_let, hS2, hn7, b1]
  by_cases q1 : A.2.1 + 20 < AF.2.1
  · have hno : ¬ aFine E d p rn m A := fun g => g.1 (by rw [hF]; exact q1)
    obtain ⟨r, V, v1, v2, v3⟩ := back S3 A hA zExt.rfl hC3 (by omega) fr3 hno
    simp only [if_pos q1, if_true]
    exact ⟨r, V, v1, ⟨a2, b2, v2⟩, v3⟩
  simp only [if_neg q1, if_neg (show ¬ ((1 : Int32) = 0) by decide)]
  obtain ⟨S4, d1, d2, d3, d4⟩ := T_goesThrough_I (E := E) (fall := false) hR hp hn hm (hE.fs fr3) (by rw [fr3.1 0 (by omega)]; exact hd) hC3 hA
  change _ = (if A.2.1 + 20 < (aEnd E d p rn m false A).2.1 then 0 else 1, S4) at d1
  change zRC S4 (aEnd E d p rn m false A) at d3
  simp only [Bool.false_eq_true, if_false] at d1 d2
  have fr4 := fr3.trans d4.s
  rw [d1]
  generalize hG : aEnd E d p rn m false A = AR at *
  by_cases q2 : A.2.1 + 20 < AR.2.1
  · have hno : ¬ aFine E d p rn m A := fun g => g.2.1 (by rw [hG]; exact q2)
    obtain ⟨r, V, v1, v2, v3⟩ := back S4 AR r1 r3 d3 (by omega) fr4 hno
    simp only [if_pos q2, if_true]
    exact ⟨r, V, v1, ⟨a2, b2, d2, v2⟩, v3⟩
  simp only [if_neg q2, if_neg (show ¬ ((1 : Int32) = 0) by decide)]
  have h13' : zWC 13 S4 AF.2.2 := h13.ag (by rw [d4.1 13 (by omega)]) (d4.1 _ (by omega)) (d4.1 _ (by omega)) (d4.1 _ (by omega))
  obtain ⟨l1, l2, l3⟩ := World_isLike_I d3.2 h13'
  have l4 : F_World_isLike S4 = 1 ↔ zSame AR.2.2 AF.2.2 := by
    rw [l3]
    constructor
    · intro g; exact ⟨g.1, fun i hi _ c hc => g.2.1 i hi c hc, g.2.2.1, g.2.2.2⟩
    · intro g; exact ⟨g.1, zSame_of_ext r3 f3 g, g.2.2.1, g.2.2.2⟩
  rcases l2 with q3 | q3
  · have hno : ¬ aFine E d p rn m A := fun g => by
      have := g.2.2.1
      rw [hG, hF] at this
      have := l4.mpr this
      rw [q3] at this; exact absurd this (by decide)
    obtain ⟨r, V, v1, v2, v3⟩ := back S4 AR r1 r3 d3 (by omega) fr4 hno
    simp only [q3, if_true]
    exact ⟨r, V, v1, ⟨a2, b2, d2, l1, v2⟩, v3⟩
  have n3 : ¬ F_World_isLike S4 = 0 := by rw [q3]; decide
  simp only [if_neg n3, d3.1.size]
  by_cases q4 : 800 < AR.2.1
  · have hno : ¬ aFine E d p rn m A := fun g => by have := g.2.2.2; rw [hG] at this; omega
    have m4 : (800 : Int32) < zI AR.2.1 := by rw [show (800 : Int32) = zI 800 from rfl, zI_lt (by omega) (by omega)]; exact q4
    obtain ⟨r, V, v1, v2, v3⟩ := back S4 AR r1 r3 d3 (by omega) fr4 hno
    simp only [if_pos m4]
    exact ⟨r, V, v1, ⟨a2, b2, d2, l1, v2⟩, v3⟩
  · have m4 : ¬ (800 : Int32) < zI AR.2.1 := by rw [show (800 : Int32) = zI 800 from rfl, zI_lt (by omega) (by omega)]; exact q4
    have hyes : aFine E d p rn m A := ⟨by rw [hF]; exact q1, by rw [hG]; exact q2, by rw [hG, hF]; exact l4.mp q3, by rw [hG]; omega⟩
    simp only [if_neg m4]
    unfold F_T_isSettled_j80 Sf_T_isSettled_j80
    simp only [if_neg (show ¬ ((1 : Int32) = 0) by decide)]
    exact ⟨1, S4, rfl, ⟨a2, b2, d2, l1, rfl, trivial⟩, fr4, fun _ => ⟨rfl, d3⟩, fun g => absurd hyes g⟩
