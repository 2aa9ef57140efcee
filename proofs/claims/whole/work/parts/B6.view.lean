/-! PURE: queries: what is read of the entries; said once for both -/
/-- the world read; how many entries were; which; from which state each one went -/
abbrev zVq := zWd × Nat × (Nat → Nat) × (Nat → Int32)
def vNx (L : zLg) (k : Nat) (Q : zVq) : zVq := (zApp (L k).1 Q.1, Q.2.1 + 1, (fun i => if i = Q.2.1 then k else Q.2.2.1 i), fun i => if i = Q.2.1 then (if (L k).1.1 = 2 ∧ (L k).1.2.2.1 = 0 then Q.1.2.1 (L k).1.2.1 0 else -1) else Q.2.2.2 i)
def vGo (L : zLg) (sel : zWd → Nat → Bool) (w0 : zWd) : Nat → zVq
  | 0 => (w0, 0, fun _ => 0, fun _ => -1)
  | k + 1 => if sel (vGo L sel w0 k).1 k = true then vNx L k (vGo L sel w0 k) else vGo L sel w0 k
def ab (L : zLg) (k item : Nat) : Bool := decide ((L k).1.1 ≠ 0 ∧ (L k).1.2.1 = item)
def isSt (e : zEnt) : Bool := decide (e.1 = 2 ∧ e.2.2.1 = 0)
def sWas (L : zLg) (k item s : Nat) : Bool := ab L k item && (decide ((L k).1.1 = 1 ∧ s = 0) || (isSt (L k).1 && decide ((L k).1.2.2.2.2.2 = zI s)))
def sCam (L : zLg) (k : Nat) (c : Int32) (item fr to : Nat) : Bool := ab L k item && (isSt (L k).1 && (decide (c = zI fr) && decide ((L k).1.2.2.2.2.2 = zI to)))
def fWas (L : zLg) (lk : Nat → Nat) (item s : Nat) : Nat → Bool
  | 0 => false
  | c + 1 => fWas L lk item s c || sWas L (lk c) item s
def fCam (L : zLg) (lk : Nat → Nat) (cm : Nat → Int32) (item fr to : Nat) : Nat → Bool
  | 0 => false
  | c + 1 => fCam L lk cm item fr to c || sCam L (lk c) (cm c) item fr to
def fBy (L : zLg) (lk : Nat → Nat) (item : Nat) : Nat → Int32
  | 0 => -1
  | c + 1 => if ab L (lk c) item = true then zI (L (lk c)).2.2 else fBy L lk item c
def fDay (L : zLg) (lk : Nat → Nat) (item : Nat) : Nat → Int32
  | 0 => -1
  | c + 1 => if ab L (lk c) item = true then zI (L (lk c)).2.1 else fDay L lk item c
def fOf (L : zLg) (lk : Nat → Nat) (item : Nat) (a b : Int32) : Nat → Bool
  | 0 => false
  | c + 1 => fOf L lk item a b c || (ab L (lk c) item && decide (a.toInt ≤ ((L (lk c)).2.1 : Int) ∧ ((L (lk c)).2.1 : Int) ≤ b.toInt))
theorem fWas_eq {L : zLg} {lk lk' : Nat → Nat} {item s : Nat} : ∀ c, (∀ i, i < c → lk' i = lk i) → fWas L lk' item s c = fWas L lk item s c := by
  intro c
  induction c with
  | zero => intro _; rfl
  | succ c ih => intro h; unfold fWas; rw [ih fun i hi => h i (by omega), h c (by omega)]
theorem fCam_eq {L : zLg} {lk lk' : Nat → Nat} {cm cm' : Nat → Int32} {item fr to : Nat} : ∀ c, (∀ i, i < c → lk' i = lk i ∧ cm' i = cm i) → fCam L lk' cm' item fr to c = fCam L lk cm item fr to c := by
  intro c
  induction c with
  | zero => intro _; rfl
  | succ c ih => intro h; unfold fCam; rw [ih fun i hi => h i (by omega), (h c (by omega)).1, (h c (by omega)).2]
theorem fBy_eq {L : zLg} {lk lk' : Nat → Nat} {item : Nat} : ∀ c, (∀ i, i < c → lk' i = lk i) → fBy L lk' item c = fBy L lk item c := by
  intro c
  induction c with
  | zero => intro _; rfl
  | succ c ih => intro h; unfold fBy; rw [ih fun i hi => h i (by omega), h c (by omega)]
theorem fDay_eq {L : zLg} {lk lk' : Nat → Nat} {item : Nat} : ∀ c, (∀ i, i < c → lk' i = lk i) → fDay L lk' item c = fDay L lk item c := by
  intro c
  induction c with
  | zero => intro _; rfl
  | succ c ih => intro h; unfold fDay; rw [ih fun i hi => h i (by omega), h c (by omega)]
/-- what the next entry adds -/
def qWas (L : zLg) (Q : zVq) (item s : Nat) : Bool := fWas L Q.2.2.1 item s Q.2.1
def qCam (L : zLg) (Q : zVq) (item fr to : Nat) : Bool := fCam L Q.2.2.1 Q.2.2.2 item fr to Q.2.1
def qBy (L : zLg) (Q : zVq) (item : Nat) : Int32 := fBy L Q.2.2.1 item Q.2.1
def qDay (L : zLg) (Q : zVq) (item : Nat) : Int32 := fDay L Q.2.2.1 item Q.2.1
theorem vNx_lk (L : zLg) (k : Nat) (Q : zVq) : ∀ i, i < Q.2.1 → (vNx L k Q).2.2.1 i = Q.2.2.1 i := fun i hi => if_neg (by omega)
theorem vNx_at (L : zLg) (k : Nat) (Q : zVq) : (vNx L k Q).2.2.1 Q.2.1 = k ∧ (vNx L k Q).2.2.2 Q.2.1 = if (L k).1.1 = 2 ∧ (L k).1.2.2.1 = 0 then Q.1.2.1 (L k).1.2.1 0 else -1 := ⟨if_pos rfl, if_pos rfl⟩
theorem vNx_cm (L : zLg) (k : Nat) (Q : zVq) : ∀ i, i < Q.2.1 → (vNx L k Q).2.2.2 i = Q.2.2.2 i := fun i hi => if_neg (by omega)
theorem qWas_nx (L : zLg) (k : Nat) (Q : zVq) (item s : Nat) : qWas L (vNx L k Q) item s = (qWas L Q item s || sWas L k item s) := by
  show fWas L (vNx L k Q).2.2.1 item s (Q.2.1 + 1) = _
  unfold fWas
  rw [fWas_eq Q.2.1 (vNx_lk L k Q), (vNx_at L k Q).1]; rfl
theorem qCam_nx (L : zLg) (k : Nat) (Q : zVq) (item fr to : Nat) : qCam L (vNx L k Q) item fr to = (qCam L Q item fr to || sCam L k (if (L k).1.1 = 2 ∧ (L k).1.2.2.1 = 0 then Q.1.2.1 (L k).1.2.1 0 else -1) item fr to) := by
  show fCam L (vNx L k Q).2.2.1 (vNx L k Q).2.2.2 item fr to (Q.2.1 + 1) = _
  unfold fCam
  rw [fCam_eq Q.2.1 fun i hi => ⟨vNx_lk L k Q i hi, vNx_cm L k Q i hi⟩, (vNx_at L k Q).1, (vNx_at L k Q).2]; rfl
theorem qBy_nx (L : zLg) (k : Nat) (Q : zVq) (item : Nat) : qBy L (vNx L k Q) item = if ab L k item = true then zI (L k).2.2 else qBy L Q item := by
  show fBy L (vNx L k Q).2.2.1 item (Q.2.1 + 1) = _
  unfold fBy
  rw [fBy_eq Q.2.1 (vNx_lk L k Q), (vNx_at L k Q).1]; rfl
theorem qDay_nx (L : zLg) (k : Nat) (Q : zVq) (item : Nat) : qDay L (vNx L k Q) item = if ab L k item = true then zI (L k).2.1 else qDay L Q item := by
  show fDay L (vNx L k Q).2.2.1 item (Q.2.1 + 1) = _
  unfold fDay
  rw [fDay_eq Q.2.1 (vNx_lk L k Q), (vNx_at L k Q).1]; rfl
/-- an item of which nothing was read -/
def qNo (L : zLg) (Q : zVq) (item : Nat) : Prop := ∀ i, i < Q.2.1 → ab L (Q.2.2.1 i) item = false
theorem qNo.was {L : zLg} {Q : zVq} {item : Nat} (h : qNo L Q item) (s : Nat) : qWas L Q item s = false := by
  have : ∀ c, c ≤ Q.2.1 → fWas L Q.2.2.1 item s c = false := by
    intro c
    induction c with
    | zero => intro _; rfl
    | succ c ih => intro hc; unfold fWas sWas; rw [ih (by omega), h c (by omega)]; rfl
  exact this _ (Nat.le_refl _)
theorem qNo.cam {L : zLg} {Q : zVq} {item : Nat} (h : qNo L Q item) (fr to : Nat) : qCam L Q item fr to = false := by
  have : ∀ c, c ≤ Q.2.1 → fCam L Q.2.2.1 Q.2.2.2 item fr to c = false := by
    intro c
    induction c with
    | zero => intro _; rfl
    | succ c ih => intro hc; unfold fCam sCam; rw [ih (by omega), h c (by omega)]; rfl
  exact this _ (Nat.le_refl _)
/-- what holds while entries are read -/
def vI (L : zLg) (k : Nat) (Q : zVq) : Prop := (∀ i, Q.1.1 i = true → (zRep L k).1 i = true) ∧ (Q.2.1 ≤ k ∧ ∀ i, i < Q.2.1 → Q.2.2.1 i < k) ∧ (∀ i, i < Q.2.1 → (L (Q.2.2.1 i)).1.1 ≠ 0 → Q.1.1 (L (Q.2.2.1 i)).1.2.1 = true) ∧ zRg Q.1 ∧ (∀ i j, i < j → j < Q.2.1 → Q.2.2.1 i < Q.2.2.1 j) ∧ ∀ i, Q.1.1 i = true → ∃ j, j < Q.2.1 ∧ ab L (Q.2.2.1 j) i = true
/-- only entries about known items are read -/
def vKn (L : zLg) (sel : zWd → Nat → Bool) (w0 : zWd) (n : Nat) : Prop := ∀ k, k < n → sel (vGo L sel w0 k).1 k = true → (L k).1.1 = 2 ∨ (L k).1.1 = 3 → (vGo L sel w0 k).1.1 (L k).1.2.1 = true
theorem zRep_mono {L : zLg} {k i : Nat} (h : (zRep L k).1 i = true) : (zRep L (k + 1)).1 i = true := by
  show (zApp (L k).1 (zRep L k)).1 i = true
  rw [zApp_there]
  split
  · rfl
  · exact h
theorem vI.nx {L : zLg} {k : Nat} {Q : zVq} (h : vI L k Q) (he : zEok (L k).1) (hv : zEv (L k).1 (zRep L k)) (hk : (L k).1.1 = 2 ∨ (L k).1.1 = 3 → Q.1.1 (L k).1.2.1 = true) : vI L (k + 1) (vNx L k Q) := by
  obtain ⟨h1, ⟨h2, h3⟩, h4, h5, h6, h7⟩ := h
  have hth : ∀ q, (vNx L k Q).1.1 q = if (L k).1.1 = 1 ∧ q = (L k).1.2.1 then true else Q.1.1 q := fun q => zApp_there
  refine ⟨fun i hi => ?_, ⟨show Q.2.1 + 1 ≤ k + 1 by omega, fun i hi => ?_⟩, fun i hi h0 => ?_, zRg_app h5 he ⟨hv.1, hv.2.1⟩, fun i j hij hj => ?_, fun i hi => ?_⟩
  · rw [hth] at hi
    show (zApp (L k).1 (zRep L k)).1 i = true
    rw [zApp_there]
    split at hi
    · next g => rw [if_pos g]
    · next g => rw [if_neg g]; exact h1 i hi
  · have hi' : i < Q.2.1 + 1 := hi
    by_cases q : i = Q.2.1
    · rw [q, (vNx_at L k Q).1]; omega
    · rw [vNx_lk L k Q i (by omega)]; have := h3 i (by omega); omega
  · have hi' : i < Q.2.1 + 1 := hi
    rw [hth]
    by_cases q : i = Q.2.1
    · rw [q, (vNx_at L k Q).1] at h0 ⊢
      rcases he with ⟨t, -⟩ | ⟨t, -⟩ | ⟨t, -⟩ | ⟨t, -⟩
      · exact absurd t h0
      · rw [if_pos ⟨t, rfl⟩]
      · rw [if_neg (by omega)]; exact hk (Or.inl t)
      · rw [if_neg (by omega)]; exact hk (Or.inr t)
    · rw [vNx_lk L k Q i (by omega)] at h0 ⊢
      split
      · rfl
      · exact h4 i (by omega) h0
  · have hj' : j < Q.2.1 + 1 := hj
    rw [vNx_lk L k Q i (by omega)]
    by_cases q : j = Q.2.1
    · rw [q, (vNx_at L k Q).1]; exact h3 i (by omega)
    · rw [vNx_lk L k Q j (by omega)]; exact h6 i j hij (by omega)
  · rw [hth] at hi
    split at hi
    · next g =>
      refine ⟨Q.2.1, Nat.lt_succ_self _, ?_⟩
      rw [(vNx_at L k Q).1]
      exact decide_eq_true ⟨by omega, g.2.symm⟩
    · obtain ⟨j, a, b⟩ := h7 i hi
      exact ⟨j, Nat.lt_succ_of_lt a, by rw [vNx_lk L k Q j a]; exact b⟩
theorem vI.skip {L : zLg} {k : Nat} {Q : zVq} (h : vI L k Q) : vI L (k + 1) Q := ⟨fun i hi => zRep_mono (h.1 i hi), ⟨by have := h.2.1.1; omega, fun i hi => by have := h.2.1.2 i hi; omega⟩, h.2.2⟩
theorem vI.all {L : zLg} {sel : zWd → Nat → Bool} {w0 : zWd} {n : Nat} (hW : zLgW L n) (hV : zLgV L n) (hK : vKn L sel w0 n) (h0 : w0.1 = fun _ => false) (hg : zRg w0) : ∀ k, k ≤ n → vI L k (vGo L sel w0 k) := by
  intro k
  induction k with
  | zero =>
    intro _
    refine ⟨fun i hi => ?_, ⟨Nat.le_refl _, fun i hi => by have : i < 0 := hi; omega⟩, fun i hi => by have : i < 0 := hi; omega, hg, fun i j _ hj => by have : j < 0 := hj; omega, fun i hi => ?_⟩
    · have : w0.1 i = true := hi
      rw [h0] at this; cases this
    · have : w0.1 i = true := hi
      rw [h0] at this; cases this
  | succ k ih =>
    intro hk
    have I := ih (by omega)
    unfold vGo
    split
    · next hs => exact I.nx (hW k (by omega)).1 (hV k (by omega)) (hK k (by omega) hs)
    · exact I.skip
/-- nothing was read of an item before it was made -/
theorem vI.no {L : zLg} {k : Nat} {Q : zVq} (h : vI L k Q) {i : Nat} (hi : Q.1.1 i = false) : qNo L Q i := by
  intro j hj
  cases q : ab L (Q.2.2.1 j) i
  · rfl
  · obtain ⟨a, b⟩ := of_decide_eq_true q
    have := h.2.2.1 j hj a
    rw [b, hi] at this; cases this
/-- the two ways to read -/
def selU (L : zLg) (d : Int32) : zWd → Nat → Bool := fun _ k => decide (zI (L k).2.1 ≤ d)
def selX (L : zLg) (ix : Int32) (p : Nat) : zWd → Nat → Bool := fun w k => decide (zI k < ix) || (decide ((L k).2.2 = p) && (decide ((L k).1.1 = 0) || (decide ((L k).1.1 = 1) || w.1 (L k).1.2.1)))
theorem vGo_has {L : zLg} {sel : zWd → Nat → Bool} {w0 : zWd} (h0 : w0.1 = fun _ => false) : ∀ k, (∀ j, j < k → sel (vGo L sel w0 j).1 j = true) → (vGo L sel w0 k).1.1 = (zRep L k).1 := by
  intro k
  induction k with
  | zero => intro _; exact h0
  | succ k ih =>
    intro h
    unfold vGo
    rw [if_pos (h k (by omega))]
    funext q
    show (zApp (L k).1 (vGo L sel w0 k).1).1 q = (zApp (L k).1 (zRep L k)).1 q
    rw [zApp_there, zApp_there, ih fun j hj => h j (by omega)]
theorem old_there {L : zLg} {n k : Nat} (hW : zLgW L n) (hV : zLgV L n) (hk : k < n) (h : (L k).1.1 = 2 ∨ (L k).1.1 = 3) : (zRep L k).1 (L k).1.2.1 = true := by
  rcases h with h | h
  · exact ((hW k hk).2.1.2.2.1 h).1
  · exact ((hV k hk).2.2.2 h).1
theorem vKn_U {L : zLg} {n d0 : Nat} {d : Int32} {w0 : zWd} (hW : zLgW L n) (hV : zLgV L n) (hD : zLgD L n d0) (hd0 : d0 ≤ 400) (h0 : w0.1 = fun _ => false) : vKn L (selU L d) w0 n := by
  intro k hk hs h
  rw [vGo_has h0 k fun j hj => ?_]
  · exact old_there hW hV hk h
  · have h1 := of_decide_eq_true hs
    have h2 := hD.2 j k hj hk
    have h3 := hD.1 k hk
    refine decide_eq_true ?_
    rw [T_le, zI_toInt (by omega)] at h1 ⊢
    omega
theorem vKn_X {L : zLg} {n p : Nat} {ix : Int32} {w0 : zWd} (hW : zLgW L n) (hV : zLgV L n) (hn : n ≤ 900) (h0 : w0.1 = fun _ => false) : vKn L (selX L ix p) w0 n := by
  intro k hk hs h
  unfold selX at hs
  by_cases q : zI k < ix
  · rw [vGo_has h0 k fun j hj => ?_]
    · exact old_there hW hV hk h
    · unfold selX
      have : zI j < ix := by
        rw [T_lt, zI_toInt (by omega)] at q ⊢
        omega
      rw [decide_eq_true this]; rfl
  · rw [decide_eq_false q, decide_eq_false (show ¬ (L k).1.1 = 0 by omega), decide_eq_false (show ¬ (L k).1.1 = 1 by omega)] at hs
    simp only [Bool.false_or, Bool.and_eq_true] at hs
    exact hs.2
theorem fDay_in {L : zLg} {lk : Nat → Nat} {item : Nat} : ∀ c, (∃ j, j < c ∧ ab L (lk j) item = true) → ∃ j, j < c ∧ fDay L lk item c = zI (L (lk j)).2.1 := by
  intro c
  induction c with
  | zero => rintro ⟨j, hj, -⟩; omega
  | succ c ih =>
    rintro ⟨j, hj, e⟩
    unfold fDay
    by_cases q : ab L (lk c) item = true
    · rw [if_pos q]; exact ⟨c, by omega, rfl⟩
    · rw [if_neg q]
      have : j < c := by
        by_cases e2 : j = c
        · subst e2; exact absurd e q
        · omega
      obtain ⟨i, a, b⟩ := ih ⟨j, this, e⟩
      exact ⟨i, by omega, b⟩
/-- days: within so many days, or since -/
theorem fOf_day {L : zLg} {lk : Nat → Nat} {item : Nat} {a b : Int32} : ∀ c, (∀ i, i < c → ((L (lk i)).2.1 : Int) ≤ b.toInt) → (∀ i, i < c → (L (lk i)).2.1 ≤ 400) → (∀ i j, i < j → j < c → (L (lk i)).2.1 ≤ (L (lk j)).2.1) → (fOf L lk item a b c = true ↔ (∃ j, j < c ∧ ab L (lk j) item = true) ∧ a.toInt ≤ (fDay L lk item c).toInt) := by
  intro c
  induction c with
  | zero => intro _ _ _; exact ⟨(fun h => by cases h), fun ⟨⟨j, hj, _⟩, _⟩ => by omega⟩
  | succ c ih =>
    intro h1 h2 h3
    have I := ih (fun i hi => h1 i (by omega)) (fun i hi => h2 i (by omega)) (fun i j hij hj => h3 i j hij (by omega))
    have hb := h1 c (by omega)
    have h4 := h2 c (by omega)
    unfold fOf fDay
    cases q : ab L (lk c) item
    · simp only [Bool.false_and, Bool.or_false, Bool.false_eq_true, if_false]
      rw [I]
      constructor
      · rintro ⟨⟨j, hj, e⟩, g⟩; exact ⟨⟨j, by omega, e⟩, g⟩
      · rintro ⟨⟨j, hj, e⟩, g⟩
        refine ⟨⟨j, ?_, e⟩, g⟩
        by_cases e2 : j = c
        · subst e2; rw [q] at e; cases e
        · omega
    · simp only [Bool.true_and, if_true, Bool.or_eq_true, decide_eq_true_eq]
      rw [zI_toInt (by omega)]
      constructor
      · rintro (g | g)
        · obtain ⟨ex, g2⟩ := I.mp g
          obtain ⟨j, hj, e⟩ := fDay_in c ex
          rw [e, zI_toInt (by have := h2 j (by omega); omega)] at g2
          have := h3 j c hj (by omega)
          exact ⟨⟨c, by omega, q⟩, by omega⟩
        · exact ⟨⟨c, by omega, q⟩, g.1⟩
      · rintro ⟨-, g⟩
        exact Or.inr ⟨g, hb⟩
