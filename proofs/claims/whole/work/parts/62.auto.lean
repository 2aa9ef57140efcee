/-! PURE: automations, said once for both -/
/-- a field of a kind; a state of a kind -/
def eH (E : Nat → Nat → Int32) (k : Int32) (f : Nat) : Bool := zB (E 44 k.toNatClampNeg) f
def eS (E : Nat → Nat → Int32) (k s : Int32) : Bool := zB (E 55 k.toNatClampNeg) s.toNatClampNeg
def aMet (E : Nat → Nat → Int32) (w : zWd) (i : Nat) (f l : Int32) : Bool := decide (f = -1) || (eH E (wC w i 9) f.toNatClampNeg && !decide (wC w i (1 + f.toNatClampNeg) < l))
def aCause (E : Nat → Nat → Int32) (e : zEnt) (r : Nat) : Bool := if E 60 r = 0 then decide (e.1 = 1) else if E 60 r = 1 then decide (e.1 = 2 ∧ e.2.2.1 = 0 ∧ e.2.2.2.2.2 = E 61 r) else decide (e.1 = 2 ∧ zI e.2.2.1 = 1 + E 61 r)
def aWoken (E : Nat → Nat → Int32) (w : zWd) (e : zEnt) (r : Nat) : Bool := aCause E e r && (decide (E 65 r = -1) || decide (E 65 r = wC w e.2.1 9)) && aMet E w e.2.1 (E 66 r) (E 67 r)
def aTg (w : zWd) (g : Int32) (i j : Nat) : Bool := if g = 0 then decide (j = i) else if g = 1 then decide (wC w i 5 = zI j) else if g = 2 then w.1 j && decide (wC w j 5 = zI i) else w.2.2.1 0 i j
def aCan (E : Nat → Nat → Int32) (w : zWd) (r j : Nat) : Bool := if E 63 r = 0 then eS E (wC w j 9) (E 64 r) else if E 63 r = 4 then true else eH E (wC w j 9) ((E 63 r).toNatClampNeg - 1)
def aAct (E : Nat → Nat → Int32) (d p r j : Nat) (A : zA) : zA := if aCan E A.2.2 r j = true then aC d p j (E 63 r).toNatClampNeg (E 64 r) A else A
def aL (E : Nat → Nat → Int32) (d p lim r : Nat) (T : Nat → Bool) : Nat → Nat → zA → zA
  | 0, _, A => A
  | n + 1, j, A => if lim < A.2.1 then A else aL E d p lim r T n (j + 1) (if T j = true then aAct E d p r j A else A)
def aRule (E : Nat → Nat → Int32) (d p lim : Nat) (e : zEnt) (r : Nat) (A : zA) : zA := aL E d p lim r (fun j => aWoken E A.2.2 e r && aTg A.2.2 (E 62 r) e.2.1 j) 30 0 A
/-- the rules for an entry: n of them left, of rn -/
def aWake (E : Nat → Nat → Int32) (d p lim rn : Nat) (fall : Bool) (e : zEnt) : Nat → zA → zA
  | 0, A => A
  | n + 1, A => aWake E d p lim rn fall e n (aRule E d p lim e (if fall = true then n else rn - (n + 1)) A)
def aGo (E : Nat → Nat → Int32) (d p lim rn : Nat) (fall : Bool) : Nat → Nat → zA → zA
  | 0, _, A => A
  | f + 1, k, A => if A.2.1 ≤ k ∨ lim < A.2.1 then A else aGo E d p lim rn fall f (k + 1) (aWake E d p lim rn fall (A.1 k).1 rn A)
/-! what stays so -/
/-- the later state's last entries can be undone exactly -/
def zExt (A B : zA) : Prop := A.2.1 ≤ B.2.1 ∧ (∀ i, i < A.2.1 → B.1 i = A.1 i) ∧ zBkw B.1 B.2.1 B.2.2 (B.2.1 - A.2.1) = A.2.2 ∧ B.2.2.1 = A.2.2.1 ∧ (∀ i, A.2.2.1 i = false → ∀ c, B.2.2.2.1 i c = A.2.2.2.1 i c) ∧ B.2.2.2.2 = A.2.2.2.2 ∧ ∀ i, A.2.1 ≤ i → i < B.2.1 → (B.1 i).1.1 = 2
theorem zExt.rfl {A : zA} : zExt A A := ⟨Nat.le_refl _, fun _ _ => Eq.refl _, by rw [Nat.sub_self]; exact Eq.refl _, Eq.refl _, fun _ _ _ => Eq.refl _, Eq.refl _, fun i h1 h2 => by omega⟩
theorem zBkw_succ {L : zLg} {n : Nat} {w : zWd} : ∀ d, zBkw L (n + 1) w (d + 1) = zBkw L n (zUnd (L n).1 w) d := by
  intro d
  induction d with
  | zero => exact rfl
  | succ d ih =>
    show zUnd (L (n + 1 - 1 - (d + 1))).1 (zBkw L (n + 1) w (d + 1)) = zUnd (L (n - 1 - d)).1 (zBkw L n (zUnd (L n).1 w) d)
    rw [ih, show n + 1 - 1 - (d + 1) = n - 1 - d by omega]
theorem zBkw_eq {L L' : zLg} {n : Nat} {w : zWd} (h : ∀ i, i < n → L' i = L i) : ∀ d, d ≤ n → zBkw L' n w d = zBkw L n w d := by
  intro d
  induction d with
  | zero => intro _; exact rfl
  | succ d ih =>
    intro hd
    show zUnd (L' (n - 1 - d)).1 (zBkw L' n w d) = zUnd (L (n - 1 - d)).1 (zBkw L n w d)
    rw [ih (by omega), h _ (by omega)]
theorem aC_cases {d p i c : Nat} {v : Int32} {A : zA} : aC d p i c v A = A ∨ aC d p i c v A = aPush d p (2, i, c, 0, wC A.2.2 i c, v) A := by
  unfold aC; split
  · exact Or.inl rfl
  · exact Or.inr rfl
theorem aC_ok {d p i c : Nat} {v : Int32} {A : zA} (h : zOk d A) (hi : i < 30) (hc : c < 9) (hw : A.2.2.1 i = true) (hv : rgC c v) (h5 : c ≠ 5) (hp : p < 8) : zOk d (aC d p i c v A) ∧ (aC d p i c v A).2.1 ≤ A.2.1 + 1 ∧ zExt A (aC d p i c v A) := by
  have hcell : wC A.2.2 i c = A.2.2.2.1 i c := by unfold wC; rw [if_pos hw]
  rcases aC_cases (d := d) (p := p) (i := i) (c := c) (v := v) (A := A) with e | e
  · rw [e]; exact ⟨h, by omega, zExt.rfl⟩
  · rw [e]
    have he : zEok (2, i, c, 0, wC A.2.2 i c, v) := Or.inr (Or.inr (Or.inl ⟨rfl, hi, hc⟩))
    have ho : zOld (2, i, c, 0, wC A.2.2 i c, v) A.2.2 := ⟨fun q => absurd q (by simp), fun q => absurd q (by simp), fun _ => ⟨hw, hcell⟩, fun q => absurd q (by simp)⟩
    have h1 : (2, i, c, 0, wC A.2.2 i c, v).1 ≠ 1 := by simp
    refine ⟨h.push he ho ⟨fun q => absurd q (by simp), fun _ => hv, fun _ q => absurd q h5, fun q => absurd q (by simp)⟩ (fun q => absurd q (by simp)) hp, Nat.le_refl _, ?_⟩
    refine ⟨Nat.le_succ _, fun j hj => zPush_lt hj, ?_, rfl, fun j hj c' => ?_, rfl, fun j h1 h2 => ?_⟩
    · generalize (2, i, c, 0, wC A.2.2 i c, v) = en at he ho h1
      show zBkw (zPush A.1 A.2.1 en d p) (A.2.1 + 1) (zApp en A.2.2) (A.2.1 + 1 - A.2.1) = A.2.2
      rw [show A.2.1 + 1 - A.2.1 = 0 + 1 by omega, zBkw_succ]
      show zUnd (zPush A.1 A.2.1 en d p A.2.1).1 (zApp en A.2.2) = A.2.2
      rw [zPush_n]
      exact zUnd_app he.lt h1 ho
    · show (if j = i ∧ c' = c then v else A.2.2.2.1 j c') = A.2.2.2.1 j c'
      rw [if_neg]
      intro q
      rw [q.1, hw] at hj
      cases hj
    · have h2' : j < A.2.1 + 1 := h2
      have : j = A.2.1 := by omega
      subst this
      show (zPush A.1 A.2.1 _ d p A.2.1).1.1 = 2
      rw [zPush_n]
theorem zExt.trans {A B C : zA} (h : zExt A B) (g : zExt B C) : zExt A C := by
  obtain ⟨h1, h2, h3, h4, h5, h6, h7⟩ := h
  obtain ⟨g1, g2, g3, g4, g5, g6, g7⟩ := g
  refine ⟨by omega, fun i hi => by rw [g2 i (by omega), h2 i hi], ?_, by rw [g4, h4], fun i hi c => by rw [g5 i (by rw [h4]; exact hi) c, h5 i hi c], by rw [g6, h6], fun i i1 i2 => ?_⟩
  · have step : ∀ (d : Nat), d ≤ B.2.1 → zBkw C.1 C.2.1 C.2.2 (C.2.1 - B.2.1 + d) = zBkw C.1 B.2.1 B.2.2 d := by
      intro d
      induction d with
      | zero => intro _; exact g3
      | succ d ih =>
        intro hd
        show zUnd (C.1 (C.2.1 - 1 - (C.2.1 - B.2.1 + d))).1 (zBkw C.1 C.2.1 C.2.2 (C.2.1 - B.2.1 + d)) = zUnd (C.1 (B.2.1 - 1 - d)).1 (zBkw C.1 B.2.1 B.2.2 d)
        rw [ih (by omega), show C.2.1 - 1 - (C.2.1 - B.2.1 + d) = B.2.1 - 1 - d by omega]
    rw [show C.2.1 - A.2.1 = C.2.1 - B.2.1 + (B.2.1 - A.2.1) by omega, step _ (by omega), zBkw_eq g2 _ (by omega)]
    exact h3
  · by_cases q : i < B.2.1
    · rw [g2 i q]; exact h7 i i1 q
    · exact g7 i (by omega) i2
/-- what rules may say -/
def zRuOk (E : Nat → Nat → Int32) (rn : Nat) : Prop := E 59 8 = zI rn ∧ rn ≤ 6 ∧ ∀ r, r < rn → zRule E r
theorem zRuOk.of {E : Nat → Nat → Int32} (h : zCR E) : ∃ rn, zRuOk E rn ∧ E 78 31 = zI rn := by
  obtain ⟨⟨h1, h2, h3⟩, h4⟩ := h
  have e := zI_of h2
  have hc := i_clamp h2
  refine ⟨(E 59 8).toNatClampNeg, ⟨e, by omega, fun r hr => h4 r (by omega)⟩, by rw [← h1]; exact e⟩
theorem zRule.col {E : Nat → Nat → Int32} {r : Nat} (h : zRule E r) : ∃ c, c < 5 ∧ E 63 r = zI c ∧ rgC c (E 64 r) := by
  obtain ⟨-, -, -, h⟩ := h
  rcases h with ⟨h1, h2, h3, ⟨h4, h5⟩, h6, h7⟩ | ⟨h1, h2, h3, h4, h5⟩ | ⟨h1, h2, h3, h4, h5⟩
  · obtain ⟨f, hf, e⟩ := zI_ex (n := 3) h4 (by omega) (by omega)
    have hf' : f = 0 ∨ f = 1 ∨ f = 2 := by omega
    refine ⟨1 + f, by omega, by rw [h2, e, show (1 : Int32) = zI 1 from rfl, zI_add], ?_⟩
    rw [h3]
    unfold rgC lo_c hi_c
    rcases hf' with rfl | rfl | rfl <;> exact ⟨by simp; omega, by simp; omega⟩
  · refine ⟨0, by omega, h2, ?_⟩
    rw [h3]; exact ⟨by show (0 : Int) ≤ _; omega, by show _ ≤ (5 : Int); omega⟩
  · refine ⟨4, by omega, h2, ?_⟩
    rw [h3]; exact ⟨by show (-1 : Int) ≤ _; omega, by show _ ≤ (7 : Int); omega⟩
theorem aAct_ok {E : Nat → Nat → Int32} {d p r j : Nat} {A : zA} (h : zOk d A) (hr : zRule E r) (hj : j < 30) (hw : A.2.2.1 j = true) (hp : p < 8) : zOk d (aAct E d p r j A) ∧ (aAct E d p r j A).2.1 ≤ A.2.1 + 1 ∧ zExt A (aAct E d p r j A) := by
  unfold aAct
  split
  · obtain ⟨c, c1, c2, c3⟩ := hr.col
    have e : (E 63 r).toNatClampNeg = c := by rw [c2, zI_clamp (by omega)]
    rw [e]
    have h5 : c ≠ 5 := by omega
    exact aC_ok h hj (by omega) hw c3 h5 hp
  · exact ⟨h, by omega, zExt.rfl⟩
theorem aL_ok {E : Nat → Nat → Int32} {d p lim r : Nat} {T : Nat → Bool} (hr : zRule E r) (hp : p < 8) : ∀ (n j : Nat) (A : zA), n + j = 30 → zOk d A → (∀ q, q < 30 → T q = true → A.2.2.1 q = true) → A.2.1 ≤ lim + 1 → zOk d (aL E d p lim r T n j A) ∧ (aL E d p lim r T n j A).2.1 ≤ lim + 1 ∧ zExt A (aL E d p lim r T n j A) := by
  intro n
  induction n with
  | zero => intro j A _ h _ hl; exact ⟨h, hl, zExt.rfl⟩
  | succ n ih =>
    intro j A hj h hT hl
    unfold aL
    split
    · exact ⟨h, hl, zExt.rfl⟩
    · by_cases t : T j = true
      · rw [if_pos t]
        obtain ⟨a1, a2, a3⟩ := aAct_ok (E := E) h hr (show j < 30 by omega) (hT j (by omega) t) hp
        obtain ⟨b1, b2, b3⟩ := ih (j + 1) _ (by omega) a1 (fun q hq tq => by rw [a3.2.2.2.1]; exact hT q hq tq) (by omega)
        exact ⟨b1, b2, a3.trans b3⟩
      · rw [if_neg t]
        exact ih (j + 1) A (by omega) h hT hl
/-- targets are there -/
theorem aTg_there {d : Nat} {A : zA} (h : zOk d A) {g : Int32} {i j : Nat} (hi : i < 30) (hj : j < 30) (hw : A.2.2.1 i = true) (ht : aTg A.2.2 g i j = true) : A.2.2.1 j = true := by
  obtain ⟨⟨r, l1⟩, l2, l3⟩ := h.lv
  unfold aTg at ht
  split at ht
  · rw [of_decide_eq_true ht]; exact hw
  · split at ht
    · have e := of_decide_eq_true ht
      unfold wC at e; rw [if_pos hw] at e
      exact (l1 i hi hw j hj e).1
    · split at ht
      · exact (Bool.and_eq_true_iff.mp ht).1
      · exact (l2 0 (by omega) i hi j hj ht).2.1
/-- the item of an entry that wakes a rule is there -/
theorem zOk.item {d : Nat} {A : zA} (h : zOk d A) {k : Nat} (hk : k < A.2.1) (h0 : (A.1 k).1.1 = 1 ∨ (A.1 k).1.1 = 2) : (A.1 k).1.2.1 < 30 ∧ A.2.2.1 (A.1 k).1.2.1 = true := by
  obtain ⟨g1, g2, g3, -⟩ := h.w k hk
  have hlt : (A.1 k).1.2.1 < 30 := by rcases g1 with q | q | q | q <;> omega
  refine ⟨hlt, ?_⟩
  rw [h.there _ hlt]
  have mono : ∀ m, k < m → m ≤ A.2.1 → (A.1 k).1.2.1 < zCnt A.1 m := by
    intro m
    induction m with
    | zero => intro q; omega
    | succ m ih =>
      intro q1 q2
      rw [zCnt_s]
      by_cases q : k = m
      · subst q
        rcases h0 with t | t
        · rw [if_pos t]; omega
        · rw [if_neg (by omega)]
          have := (g2.2.2.1 t).1
          rw [(zRep_there h.w k (by omega)).1] at this
          exact of_decide_eq_true this
      · have i1 := ih (by omega) (by omega)
        obtain ⟨m1, m2, m3, -⟩ := h.w m (by omega)
        split
        · rename_i t; have := m3 t; omega
        · exact i1
  have := mono A.2.1 hk (Nat.le_refl _)
  simp [this]
theorem aCause_kind {E : Nat → Nat → Int32} {e : zEnt} {r : Nat} (h : aCause E e r = true) : e.1 = 1 ∨ e.1 = 2 := by
  unfold aCause at h
  split at h
  · exact Or.inl (of_decide_eq_true h)
  · split at h
    · exact Or.inr (of_decide_eq_true h).1
    · exact Or.inr (of_decide_eq_true h).1
theorem aWoken_cause {E : Nat → Nat → Int32} {w : zWd} {e : zEnt} {r : Nat} (h : aWoken E w e r = true) : aCause E e r = true := by
  unfold aWoken at h
  exact (Bool.and_eq_true_iff.mp (Bool.and_eq_true_iff.mp h).1).1
theorem aRule_T {E : Nat → Nat → Int32} {d : Nat} {A : zA} (h : zOk d A) {k : Nat} (hk : k < A.2.1) (r : Nat) : ∀ q, q < 30 → (aWoken E A.2.2 (A.1 k).1 r && aTg A.2.2 (E 62 r) (A.1 k).1.2.1 q) = true → A.2.2.1 q = true := by
  intro q hq t
  obtain ⟨t1, t2⟩ := Bool.and_eq_true_iff.mp t
  obtain ⟨i1, i2⟩ := h.item hk (aCause_kind (aWoken_cause t1))
  exact aTg_there h i1 hq i2 t2
theorem aWake_ok {E : Nat → Nat → Int32} {d p lim rn : Nat} {fall : Bool} (hR : zRuOk E rn) (hp : p < 8) {k : Nat} : ∀ (n : Nat) (A : zA) (e : zEnt), n ≤ rn → zOk d A → k < A.2.1 → e = (A.1 k).1 → A.2.1 ≤ lim + 1 → zOk d (aWake E d p lim rn fall e n A) ∧ (aWake E d p lim rn fall e n A).2.1 ≤ lim + 1 ∧ zExt A (aWake E d p lim rn fall e n A) := by
  intro n
  induction n with
  | zero => intro A e _ h _ _ hl; exact ⟨h, hl, zExt.rfl⟩
  | succ n ih =>
    intro A e hn h hk he hl
    unfold aWake
    have hr : zRule E (if fall = true then n else rn - (n + 1)) := hR.2.2 _ (by split <;> omega)
    obtain ⟨a1, a2, a3⟩ := aL_ok (E := E) (T := fun j => aWoken E A.2.2 e (if fall = true then n else rn - (n + 1)) && aTg A.2.2 (E 62 (if fall = true then n else rn - (n + 1))) e.2.1 j) hr hp 30 0 A rfl h (by rw [he]; exact aRule_T h hk _) hl
    obtain ⟨b1, b2, b3⟩ := ih (aRule E d p lim e (if fall = true then n else rn - (n + 1)) A) e (by omega) a1 (by have := a3.1; exact Nat.lt_of_lt_of_le hk this) (he.trans (congrArg Prod.fst (a3.2.1 k hk).symm)) a2
    exact ⟨b1, b2, zExt.trans a3 b3⟩
theorem aGo_ok {E : Nat → Nat → Int32} {d p lim rn : Nat} {fall : Bool} (hR : zRuOk E rn) (hp : p < 8) : ∀ (f k : Nat) (A : zA), zOk d A → A.2.1 ≤ lim + 1 → zOk d (aGo E d p lim rn fall f k A) ∧ (aGo E d p lim rn fall f k A).2.1 ≤ lim + 1 ∧ zExt A (aGo E d p lim rn fall f k A) := by
  intro f
  induction f with
  | zero => intro k A h hl; exact ⟨h, hl, zExt.rfl⟩
  | succ f ih =>
    intro k A h hl
    unfold aGo
    split
    · exact ⟨h, hl, zExt.rfl⟩
    · rename_i q
      obtain ⟨a1, a2, a3⟩ := aWake_ok (fall := fall) hR hp rn A (A.1 k).1 (Nat.le_refl _) h (show k < A.2.1 by omega) rfl hl
      obtain ⟨b1, b2, b3⟩ := ih (k + 1) _ a1 a2
      exact ⟨b1, b2, a3.trans b3⟩
