/-! PURE: queries: what a text means; the class's steps, run -/
/-- the meaning of a part without parts; of one about another part; of two joined -/
abbrev zKm := (Int32 → Int32 → Int32 → Int32 → Nat → Bool) × (Int32 → Int32 → (Nat → Bool) → Nat → Bool) × (Int32 → (Nat → Bool) → (Nat → Bool) → Nat → Bool)
abbrev zRs := Nat ⊕ (Nat × (Nat → Bool))
def qThen (r : zRs) (f : Nat → (Nat → Bool) → zRs) : zRs := match r with
  | .inl e => .inl e
  | .inr (q, m) => f q m
def qIn (X : zTx) (K : zKm) (c ty : Int32) (rec : Nat → zRs) (q : Nat) : zRs := if sgn X q = 91 then qThen (rec (q + 1)) (fun q2 m => if sgn X q2 = 93 then .inr (q2 + 1, K.2.1 c ty m) else .inl q2) else .inl q
def qLf (X : zTx) (K : zKm) (c : Int32) (p : Nat) : zRs := match lfS X c p with
  | .inl e => .inl e
  | .inr (q, a, b, d, g) => .inr (q, K.1 a b d g)
def qPr (X : zTx) (K : zKm) (rec : Nat → zRs) (p : Nat) : zRs := qThen (rec p) (fun q m => if sgn X q = 38 ∨ sgn X q = 124 then qThen (rec (q + 1)) (fun q2 m2 => if sgn X q2 = 41 then .inr (q2 + 1, K.2.2 (sgn X q) m m2) else .inl q2) else .inl q)
/-- a query from a place on: where it goes wrong, or its end and its meaning -/
def qD (X : zTx) (K : zKm) : Nat → Nat → zRs
  | 0, p => .inl p
  | n + 1, p =>
    if X.2 ≤ p then .inl p
    else if kd (X.1 p) = 0 then qThen (qD X K n (p + 1)) (fun q m => .inr (q, K.2.1 33 0 m))
    else if kd (X.1 p) = 1 then qPr X K (qD X K n) (p + 1)
    else if kd (X.1 p) = 2 then qIn X K (X.1 p) 0 (qD X K n) (p + 1)
    else if kd (X.1 p) = 3 then (if isD X 2 (p + 1) = true then qIn X K (X.1 p) (dv X (p + 1)) (qD X K n) (p + 2) else .inl (p + 1))
    else if kd (X.1 p) = 4 then qLf X K (X.1 p) (p + 1)
    else .inl p
def xStep (K : zKm) (c a b g : Int32) (st : List (Nat → Bool)) : Option (List (Nat → Bool)) :=
  if c = 38 ∨ c = 124 then (match st with
    | r :: l :: s => some (K.2.2 c l r :: s)
    | _ => none)
  else if c = 33 ∨ c = 67 ∨ c = 85 ∨ c = 76 ∨ c = 73 then (match st with
    | r :: s => some (K.2.1 c a r :: s)
    | _ => none)
  else some (K.1 c a b g :: st)
def xRun (K : zKm) (T : Nat → Nat → Int32) : Nat → Nat → Option (List (Nat → Bool)) → Option (List (Nat → Bool))
  | 0, _, st => st
  | n + 1, j, st => xRun K T n (j + 1) (st.bind (xStep K (T 21 j) (T 22 j) (T 23 j) (T 24 j)))
theorem xRun_add (K : zKm) (T : Nat → Nat → Int32) : ∀ (n m j : Nat) (st : Option (List (Nat → Bool))), xRun K T (n + m) j st = xRun K T m (j + n) (xRun K T n j st) := by
  intro n
  induction n with
  | zero => intro m j st; rw [Nat.zero_add]; rfl
  | succ n ih =>
    intro m j st
    rw [show n + 1 + m = (n + m) + 1 by omega]
    show xRun K T (n + m) (j + 1) _ = xRun K T m (j + (n + 1)) (xRun K T n (j + 1) _)
    rw [ih m (j + 1), show j + 1 + n = j + (n + 1) by omega]
theorem xRun_eq (K : zKm) {T V : Nat → Nat → Int32} : ∀ (n j : Nat) (st : Option (List (Nat → Bool))), (∀ k, 21 ≤ k ∧ k ≤ 24 → ∀ i, j ≤ i → i < j + n → V k i = T k i) → xRun K V n j st = xRun K T n j st := by
  intro n
  induction n with
  | zero => intro j st _; rfl
  | succ n ih =>
    intro j st h
    show xRun K V n (j + 1) _ = xRun K T n (j + 1) _
    rw [h 21 (by omega) j (by omega) (by omega), h 22 (by omega) j (by omega) (by omega), h 23 (by omega) j (by omega) (by omega), h 24 (by omega) j (by omega) (by omega)]
    exact ih (j + 1) _ fun k hk i h1 h2 => h k hk i (by omega) (by omega)
def itr (f : (Nat → Bool) → Nat → Bool) : Nat → (Nat → Bool) → Nat → Bool
  | 0, m => m
  | n + 1, m => itr f n (f m)
theorem xRun_deny (K : zKm) {T : Nat → Nat → Int32} : ∀ (n j : Nat) (m : Nat → Bool) (st : List (Nat → Bool)), (∀ i, j ≤ i → i < j + n → T 21 i = 33 ∧ T 22 i = 0) → xRun K T n j (some (m :: st)) = some (itr (K.2.1 33 0) n m :: st) := by
  intro n
  induction n with
  | zero => intro j m st _; rfl
  | succ n ih =>
    intro j m st h
    show xRun K T n (j + 1) (xStep K (T 21 j) (T 22 j) (T 23 j) (T 24 j) (m :: st)) = _
    obtain ⟨h1, h2⟩ := h j (by omega) (by omega)
    rw [h1, h2]
    have e : xStep K 33 0 (T 23 j) (T 24 j) (m :: st) = some (K.2.1 33 0 m :: st) := by
      unfold xStep
      rw [if_neg (by decide), if_pos (by decide)]
    rw [e]
    exact ih (j + 1) _ st fun i a b => h i (by omega) (by omega)
/-- one step behind, and those that deny it -/
theorem xRun_end (K : zKm) {V : Nat → Nat → Int32} {z n nb : Nat} {c a b g : Int32} {st st' : List (Nat → Bool)} {m : Nat → Bool} (h1 : V 21 (z + n) = c ∧ V 22 (z + n) = a ∧ V 23 (z + n) = b ∧ V 24 (z + n) = g) (h2 : ∀ j, z + n < j → j < z + n + 1 + nb → V 21 j = 33 ∧ V 22 j = 0) (hr : xRun K V n z (some st) = some st') (hs : ∀ s, s = st' → xStep K c a b g s = some (m :: st)) : xRun K V (n + 1 + nb) z (some st) = some (itr (K.2.1 33 0) nb m :: st) := by
  rw [show n + 1 + nb = n + (1 + nb) by omega, xRun_add, hr, xRun_add]
  have e : xRun K V 1 (z + n) (some st') = some (m :: st) := by
    show xStep K (V 21 (z + n)) (V 22 (z + n)) (V 23 (z + n)) (V 24 (z + n)) st' = _
    rw [h1.1, h1.2.1, h1.2.2.1, h1.2.2.2]
    exact hs st' rfl
  rw [e]
  exact xRun_deny K nb (z + n + 1) m st fun j a b => h2 j (by omega) (by omega)
/-- numbers of fields, types of links, in their ranges -/
def sOk (V : Nat → Nat → Int32) (z z' : Nat) : Prop := ∀ j, z ≤ j → j < z' → (V 21 j = 102 → (∃ f, f < 4 ∧ V 22 j = zI f) ∧ V 24 j ≠ -1) ∧ (V 21 j = 76 ∨ V 21 j = 73 → ∃ t, t < 3 ∧ V 22 j = zI t)
theorem sOk.eq {V W : Nat → Nat → Int32} {z z' : Nat} (h : sOk V z z') (e : ∀ k, 21 ≤ k ∧ k ≤ 24 → ∀ j, j < z' → W k j = V k j) : sOk W z z' := fun j a b => by
  rw [e 21 (by omega) j b, e 22 (by omega) j b, e 24 (by omega) j b]; exact h j a b
theorem sOk.app {V : Nat → Nat → Int32} {z y z' : Nat} (h : sOk V z y) (g : sOk V y z') : sOk V z z' := fun j a b => by
  by_cases q : j < y
  · exact h j a q
  · exact g j (by omega) b
theorem sOk.end {V : Nat → Nat → Int32} {z nb : Nat} {c a : Int32} (h1 : V 21 z = c) (h2 : V 22 z = a) (h3 : ∀ j, z < j → j < z + 1 + nb → V 21 j = 33 ∧ V 22 j = 0) (hc : c = 102 → (∃ f, f < 4 ∧ a = zI f) ∧ V 24 z ≠ -1) (ht : c = 76 ∨ c = 73 → ∃ t, t < 3 ∧ a = zI t) : sOk V z (z + 1 + nb) := fun j j1 j2 => by
  by_cases q : j = z
  · rw [q, h1, h2]; exact ⟨hc, ht⟩
  · obtain ⟨e1, -⟩ := h3 j (by omega) j2
    rw [e1]
    exact ⟨fun e => absurd e (by decide), fun e => absurd e (by decide)⟩
/-- how the class's loop goes on from a state where a query is due -/
def zCc (X : zTx) (K : zKm) (p : Nat) (T : Nat → Nat → Int32) (f cnt z dr nb : Nat) (r : zRs) : Prop := match r with
  | .inl e => ∃ w V, F_Query_compile_L24 f T 1 (zI cnt) = (w, V) ∧ Sf_Query_compile_L24 f T 1 (zI cnt) ∧ V 19 10 = zI e ∧ e ≤ X.2 ∧ (w = 0 ∨ V 19 11 ≠ 0 ∨ V 19 9 ≠ 0) ∧ zFq 0 0 T V
  | .inr (q, m) => ∃ V f' cnt' z', F_Query_compile_L24 f T 1 (zI cnt) = F_Query_compile_L24 f' V 1 (zI cnt') ∧ (Sf_Query_compile_L24 f' V 1 (zI cnt') → Sf_Query_compile_L24 f T 1 (zI cnt)) ∧ zQs X V q z' dr false ∧ zFq z dr T V ∧ z < z' ∧ p < q ∧ cnt' ≤ q ∧ f' + cnt' = 1300 ∧ sOk V z z' ∧ ∀ st, xRun K V (z' - z) z (some st) = some (itr (K.2.1 33 0) nb m :: st)
theorem zFq.w {z d z' d' : Nat} {T V : Nat → Nat → Int32} (h : zFq z d T V) (hz : z' ≤ z) (hd : d' ≤ d) : zFq z' d' T V := ⟨h.1, h.2.1, fun k hk j hj => h.2.2.1 k hk j (by omega), fun k hk j hj => h.2.2.2 k hk j (by omega)⟩
theorem L24_0 {f : Nat} (hf : 1 ≤ f) (T : Nat → Nat → Int32) (x : Int32) : F_Query_compile_L24 f T 0 x = (0, T) ∧ Sf_Query_compile_L24 f T 0 x := by
  obtain ⟨f, rfl⟩ : ∃ g, f = g + 1 := ⟨f - 1, by omega⟩
  unfold F_Query_compile_L24 Sf_Query_compile_L24
  by_cases q : (30 : Int32) ≤ x
  · rw [if_pos q, if_pos q]; exact ⟨rfl, trivial⟩
  · rw [if_neg q, if_neg q, if_pos rfl, if_pos rfl]; exact ⟨rfl, trivial⟩
/-- the text ends -/
theorem L24_end {X : zTx} {T : Nat → Nat → Int32} {p f : Nat} (h : zSc X T p) (hp : X.2 ≤ p) (hf : 1 ≤ f) (x : Int32) : F_Query_compile_L24 f T 1 x = (1, T) ∧ Sf_Query_compile_L24 f T 1 x := by
  obtain ⟨f, rfl⟩ : ∃ g, f = g + 1 := ⟨f - 1, by omega⟩
  have hl : T 19 7 ≤ T 19 10 := by rw [h.1, h.2.1, zI_le (by have := h.2.2.2; omega) (by have := h.2.2.2; omega)]; exact hp
  unfold F_Query_compile_L24 Sf_Query_compile_L24
  by_cases q : (30 : Int32) ≤ x
  · rw [if_pos q, if_pos q]; exact ⟨rfl, trivial⟩
  · rw [if_neg q, if_neg q, if_neg ne_10, if_neg ne_10, if_pos hl, if_pos hl]; exact ⟨rfl, trivial⟩
theorem L24_due {X : zTx} {T V : Nat → Nat → Int32} {p f cnt : Nat} {r : Int32} (h : zSc X T p) (hd : T 19 11 = bI true) (hp : p < X.2) (hc : cnt ≤ p) (hb : F_Query_beginsWell T = (r, V)) (hs : Sf_Query_beginsWell T) : F_Query_compile_L24 (f + 1) T 1 (zI cnt) = F_Query_compile_L24 f V r (zI (cnt + 1)) ∧ (Sf_Query_compile_L24 f V r (zI (cnt + 1)) → Sf_Query_compile_L24 (f + 1) T 1 (zI cnt)) := by
  have h30 := h.2.2.2
  have hl : ¬ T 19 7 ≤ T 19 10 := by rw [h.1, h.2.1, zI_le (by omega) (by omega)]; omega
  have n30 : ¬ (30 : Int32) ≤ zI cnt := by rw [show (30 : Int32) = zI 30 from rfl, zI_le (by omega) (by omega)]; omega
  have nd : ¬ T 19 11 = 0 := by rw [hd]; decide
  generalize hR : F_Query_compile_L24 f V r (zI (cnt + 1)) = R
  generalize hRs : Sf_Query_compile_L24 f V r (zI (cnt + 1)) = Rs
  unfold F_Query_compile_L24 Sf_Query_compile_L24
  rw [if_neg n30, if_neg n30, if_neg ne_10, if_neg ne_10, if_neg hl, if_neg hl, if_neg nd, if_neg nd, hb, zI_succ]
  exact ⟨hR, fun z => ⟨hs, by rw [← hRs] at z; exact z⟩⟩
theorem L24_on {X : zTx} {T V : Nat → Nat → Int32} {p f cnt : Nat} {r : Int32} (h : zSc X T p) (hd : T 19 11 = bI false) (hp : p < X.2) (hc : cnt ≤ p) (hb : F_Query_goesOnWell T = (r, V)) (hs : Sf_Query_goesOnWell T) : F_Query_compile_L24 (f + 1) T 1 (zI cnt) = F_Query_compile_L24 f V r (zI (cnt + 1)) ∧ (Sf_Query_compile_L24 f V r (zI (cnt + 1)) → Sf_Query_compile_L24 (f + 1) T 1 (zI cnt)) := by
  have h30 := h.2.2.2
  have hl : ¬ T 19 7 ≤ T 19 10 := by rw [h.1, h.2.1, zI_le (by omega) (by omega)]; omega
  have n30 : ¬ (30 : Int32) ≤ zI cnt := by rw [show (30 : Int32) = zI 30 from rfl, zI_le (by omega) (by omega)]; omega
  have nd : T 19 11 = 0 := by rw [hd]; decide
  generalize hR : F_Query_compile_L24 f V r (zI (cnt + 1)) = R
  generalize hRs : Sf_Query_compile_L24 f V r (zI (cnt + 1)) = Rs
  unfold F_Query_compile_L24 Sf_Query_compile_L24
  rw [if_neg n30, if_neg n30, if_neg ne_10, if_neg ne_10, if_neg hl, if_neg hl, if_pos nd, if_pos nd, hb, zI_succ]
  exact ⟨hR, fun z => ⟨hs, by rw [← hRs] at z; exact z⟩⟩
/-- a part is opened -/
def opS (T : Nat → Nat → Int32) (dep : Nat) (c ty : Int32) : Nat → Nat → Int32 := z_uS (z_uS (z_uS (z_uS T 25 dep c) 26 dep ty) 19 9 (zI (dep + 1))) 19 11 1
theorem opens_I {T : Nat → Nat → Int32} {dep : Nat} (h : T 19 9 = zI dep) (hd : dep < 30) (c ty : Int32) : F_Query_opens T c ty = (1, opS T dep c ty) := by
  unfold F_Query_opens opS
  have n : ∀ (S : Nat → Nat → Int32) (k j : Nat) (v : Int32), k ≠ 19 → z_uS S k j v 19 = S 19 := fun S k j v hk => z_uS_ne _ _ _ (by omega)
  simp only [z_let, h, zPut_I hd (show 30 ≤ 2147483648 by omega), n _ 25 _ _ (by omega), n _ 26 _ _ (by omega), zI_succ]
theorem opS_I {X : zTx} {T : Nat → Nat → Int32} {p z dep : Nat} {b : Bool} (h : zQs X T p z dep b) {q : Nat} (hq : p < q) (hq2 : q ≤ X.2) (c ty : Int32) : F_Query_opens (atP T q) c ty = (1, opS (atP T q) dep c ty) ∧ zQs X (opS (atP T q) dep c ty) q z (dep + 1) true ∧ zFq z dep T (opS (atP T q) dep c ty) ∧ opS (atP T q) dep c ty 25 dep = c ∧ opS (atP T q) dep c ty 26 dep = ty := by
  obtain ⟨hS, h8, h9, h11, hzd⟩ := h
  have h30 := hS.2.2.2
  have f1 : zFq z dep T (opS (atP T q) dep c ty) := by
    unfold opS
    exact ((((zFq.f (by omega) T _).trans (zFq.o (by omega) (Nat.le_refl _) _ c) (Nat.le_refl _) (Nat.le_refl _)).trans (zFq.o (by omega) (Nat.le_refl _) _ ty) (Nat.le_refl _) (Nat.le_refl _)).trans (zFq.f (by omega) _ _) (Nat.le_refl _) (Nat.le_refl _)).trans (zFq.f (by omega) _ _) (Nat.le_refl _) (Nat.le_refl _)
  have e19 : ∀ j, j ≠ 9 → j ≠ 11 → opS (atP T q) dep c ty 19 j = atP T q 19 j := fun j a b => by
    unfold opS
    rw [uS_nj _ _ _ b, uS_nj _ _ _ a, z_uS_ne _ _ _ (by omega), z_uS_ne _ _ _ (by omega)]
  refine ⟨opens_I (by rw [atP_nj _ _ (by omega)]; exact h9) (by omega) c ty, ⟨hS.fq f1 (by rw [e19 10 (by omega) (by omega)]; exact atP_p _ _) hq2, by rw [e19 8 (by omega) (by omega), atP_nj _ _ (by omega)]; exact h8, ?_, ?_, by omega⟩, f1, ?_, ?_⟩
  · unfold opS; rw [uS_nj _ _ _ (by omega), uS_at]
  · unfold opS; rw [uS_at]; rfl
  · unfold opS; rw [z_uS_ne _ _ _ (by omega), z_uS_ne _ _ _ (by omega), z_uS_ne _ _ _ (by omega), uS_at]
  · unfold opS; rw [z_uS_ne _ _ _ (by omega), z_uS_ne _ _ _ (by omega), uS_at]
