/-! PURE: link -/
def bI (b : Bool) : Int32 := if b = true then 1 else 0
theorem bI_ne {b : Bool} : (bI b = 0) = (b = false) := by cases b <;> simp [bI]
theorem bI_inj {a b : Bool} : (bI a = bI b) = (a = b) := by cases a <;> cases b <;> simp [bI]
def aLk (d p t i j : Nat) (b : Bool) (A : zA) : zA := if A.2.2.2.2.1 t i j = b then A else aPush d p (3, i, t, j, bI (A.2.2.2.2.1 t i j), bI b) A
theorem aLk_cases {d p t i j : Nat} {b : Bool} {A : zA} : aLk d p t i j b A = A ∨ aLk d p t i j b A = aPush d p (3, i, t, j, bI (A.2.2.2.2.1 t i j), bI b) A := by
  unfold aLk; split
  · exact Or.inl rfl
  · exact Or.inr rfl
theorem aLk_n {d p t i j : Nat} {b : Bool} {A : zA} : A.2.1 ≤ (aLk d p t i j b A).2.1 ∧ (aLk d p t i j b A).2.1 ≤ A.2.1 + 1 := by
  rcases aLk_cases (d := d) (p := p) (t := t) (i := i) (j := j) (b := b) (A := A) with e | e <;> rw [e]
  · omega
  · show A.2.1 ≤ A.2.1 + 1 ∧ A.2.1 + 1 ≤ A.2.1 + 1; omega
theorem zEok_lk {t i j : Nat} (ht : t < 3) (hi : i < 30) (hj : j < 30) (hij : i ≠ j) (a b : Bool) : zEok (3, i, t, j, bI a, bI b) := Or.inr (Or.inr (Or.inr ⟨rfl, hi, ht, hj, hij, ⟨a, rfl⟩, ⟨b, rfl⟩⟩))
theorem bI_beq (b : Bool) : (bI b == 1) = b := by cases b <;> rfl
theorem aLk_ok {d p t i j : Nat} {b : Bool} {A : zA} (h : zOk d A) (ht : t < 3) (hi : i < 30) (hj : j < 30) (hij : i ≠ j) (hwi : A.2.2.1 i = true) (hwj : A.2.2.1 j = true) (hp : p < 8) : zOk d (aLk d p t i j b A) := by
  rcases aLk_cases (d := d) (p := p) (t := t) (i := i) (j := j) (b := b) (A := A) with e | e <;> rw [e]
  · exact h
  · refine h.push (zEok_lk ht hi hj hij _ _) ⟨fun q => absurd q (by simp), fun q => absurd q (by simp), fun q => absurd q (by simp), fun _ => ⟨bI_beq _, fun _ => h.lv.2.2 j hj i hi⟩⟩ ⟨fun q => absurd q (by simp), fun q => absurd q (by simp), fun q => absurd q (by simp), fun _ => ⟨hwi, hwj⟩⟩ (fun q => absurd q (by simp)) hp
theorem aLk_quiet {m d p t i j : Nat} {b : Bool} {A : zA} (h : aQuiet m A) : aQuiet m (aLk d p t i j b A) := by
  rcases aLk_cases (d := d) (p := p) (t := t) (i := i) (j := j) (b := b) (A := A) with e | e <;> rw [e]
  · exact h
  · intro x h1 h2
    have h2' : x < A.2.1 + 1 := h2
    show (zPush A.1 A.2.1 _ d p x).1.1 ≠ 1 ∧ ((zPush A.1 A.2.1 _ d p x).1.1 = 2 → 4 ≤ (zPush A.1 A.2.1 _ d p x).1.2.2.1)
    by_cases q : x = A.2.1
    · rw [q, zPush_n]; exact ⟨by simp, fun q => absurd q (by simp)⟩
    · rw [zPush_lt (by omega)]; exact h x h1 (by omega)
theorem aLk_by {m d p t i j : Nat} {b : Bool} {A : zA} (h : aBy p m A) : aBy p m (aLk d p t i j b A) := by
  rcases aLk_cases (d := d) (p := p) (t := t) (i := i) (j := j) (b := b) (A := A) with e | e <;> rw [e]
  · exact h
  · exact h.push _
theorem zNb.aLk {A X : zA} (h : zNb A X) {d p t i j : Nat} {b : Bool} : zNb A (aLk d p t i j b X) := by
  rcases aLk_cases (d := d) (p := p) (t := t) (i := i) (j := j) (b := b) (A := X) with e | e <;> rw [e]
  · exact h
  · exact h.push (by simp)
theorem T_isIn_B (S : Nat → Nat → Int32) {P : Int32} {k : Nat} (h : k < 31) : F_T_isIn S P (zI k) = bI (zB P k) := T_isIn_I S h
theorem T_curL {S : Nat → Nat → Int32} {w : zWd} {t i j : Nat} (hC : zWC 9 S w) (ht : t < 3) (hi : i < 30) (hj : j < 30) : F_World_current 9 S (zI i) ((10 : Int32) + zI t) (zI j) = bI (w.2.2.1 t i j) ∧ Sf_World_current 9 S (zI i) ((10 : Int32) + zI t) (zI j) := by
  have e10 : (10 : Int32) + zI t = zI (10 + t) := by rw [show (10 : Int32) = zI 10 from rfl, zI_add]
  have n14 : ¬ zI (10 + t) = 14 := by rw [show (14 : Int32) = zI 14 from rfl, zI_inj (by omega) (by omega)]; omega
  have n10 : ¬ zI (10 + t) < 10 := by rw [show (10 : Int32) = zI 10 from rfl, zI_lt (by omega) (by omega)]; omega
  have e : zI (10 + t) - 10 = zI t := by rw [show (10 : Int32) = zI 10 from rfl, zI_sub (by omega) (by omega)]; congr 1; omega
  obtain ⟨l1, l2⟩ := World_linksOf_I (r := 9) (S := S) ht hi
  unfold F_World_current Sf_World_current
  rw [e10, if_neg n14, if_neg n10, if_neg n14, if_neg n10, e, l1, T_isIn_B S (by omega), hC.link t ht i hi j hj]
  refine ⟨?_, l2, trivial⟩
  cases w.2.2.1 t i j <;> rfl
theorem T_chgL {S : Nat → Nat → Int32} {d p t i j : Nat} {A : zA} (hd : S 0 14 = zI d) (hC : zRC S A) (hn : A.2.1 < 900) (ht : t < 3) (hi : i < 30) (hj : j < 30) (hij : i ≠ j) (b : Bool) : ∃ V, F_T_change S (zI p) (zI i) ((10 : Int32) + zI t) (zI j) (bI b) = V ∧ Sf_T_change S (zI p) (zI i) ((10 : Int32) + zI t) (zI j) (bI b) ∧ zFC S V ∧ zRC V (aLk d p t i j b A) := by
  obtain ⟨ecur, scur⟩ := T_curL hC.2 ht hi hj
  have e10 : (10 : Int32) + zI t = zI (10 + t) := by rw [show (10 : Int32) = zI 10 from rfl, zI_add]
  rw [e10] at ecur scur ⊢
  unfold F_T_change Sf_T_change aLk
  rw [ecur, hd]
  by_cases q : A.2.2.2.2.1 t i j = b
  · have q' : bI (A.2.2.2.2.1 t i j) = bI b := by rw [q]
    rw [if_pos q', if_pos q', if_pos q]
    exact ⟨S, rfl, ⟨scur, trivial⟩, zFC.rfl, hC⟩
  · have q' : ¬ bI (A.2.2.2.2.1 t i j) = bI b := by rw [bI_inj]; exact q
    rw [if_neg q', if_neg q', if_neg q]
    obtain ⟨V, v1, v2, v3, v4, v5, v6⟩ := T_push_I (d := d) (p := p) hC hn (e := (3, i, t, j, bI (A.2.2.2.2.1 t i j), bI b)) (zEok_lk ht hi hj hij _ _) (fun _ => ⟨rfl, rfl⟩)
    have v1' : F_Log_add S (zI d) (zI p) (zI i) (zI (10 + t)) (zI j) (bI (A.2.2.2.2.1 t i j)) (bI b) = V := v1
    have v2' : Sf_Log_add S (zI d) (zI p) (zI i) (zI (10 + t)) (zI j) (bI (A.2.2.2.2.1 t i j)) (bI b) := v2
    simp only [v1', z_let]
    obtain ⟨W, w1, w2, w3, w4⟩ := World_write_L v4 ht hi hj b
    have w1' : F_World_write 9 V (zI i) (zI (10 + t)) (zI j) (bI b) = W := w1
    have w2' : Sf_World_write 9 V (zI i) (zI (10 + t)) (zI j) (bI b) := w2
    refine ⟨W, w1', ⟨scur, v2', w2', trivial⟩, ?_, ⟨v3.ag (by rw [w4 _ (by omega)]) (fun k k1 k2 => w4 k (by omega)), ?_⟩⟩
    · exact ⟨fun k hk => by rw [w4 _ (by omega), v5 k (by omega)], fun j hj => by rw [w4 _ (by omega), v6 j hj], fun j hj => by rw [w4 _ (by omega), v5 9 (by omega)]⟩
    · show zWC 9 W (zSetL A.2.2 t i j (bI b == 1))
      rw [bI_beq]; exact w3
theorem M_lkd {U : Nat → Nat → Int32} {w : zWd} {t i j : Nat} (hC : zWM 86 U w) (ht : t < 3) (hi : i < 30) (hj : j < 30) : F_MW_isLinked 86 U (zI t) (zI i) (zI j) = bI (w.2.2.1 t i j) ∧ Sf_MW_isLinked 86 U (zI t) (zI i) (zI j) := by
  have e1 : (900 : Int32) * zI t + (30 : Int32) * zI i + zI j = zI (900 * t + 30 * i + j) := by rw [show (900 : Int32) = zI 900 from rfl, show (30 : Int32) = zI 30 from rfl, zI_mul, zI_mul, zI_add, zI_add]
  have e : U 96 (900 * t + 30 * i + j) = bI (w.2.2.1 t i j) := hC.link t ht i hi j hj
  unfold F_MW_isLinked Sf_MW_isLinked
  rw [e1, zI_clamp (show 900 * t + 30 * i + j < 2147483648 by omega), e]
  exact ⟨rfl, vp_in_I (by omega) (by omega), nar01 (by unfold bI; split <;> simp), trivial⟩
theorem M_pushL {U : Nat → Nat → Int32} {d p t i j : Nat} {A : zA} (hd : U 78 1 = zI d) (hC : zRM 86 U A) (hA : zOk d A) (hn : A.2.1 < 1200) (ht : t < 3) (hi : i < 30) (hj : j < 30) (hij : i ≠ j) {b : Bool} (hq : ¬ A.2.2.2.2.1 t i j = b) : ∃ V, F_M_make 86 U 9 (zI p) (zI i) (zI t) (zI j) (bI b) = V ∧ Sf_M_make 86 U 9 (zI p) (zI i) (zI t) (zI j) (bI b) ∧ zFMX U V ∧ zRM 86 V (aLk d p t i j b A) := by
  obtain ⟨V, v1, v2, v3, v4⟩ := M_push_I (b := 86) (by omega) hC hn p hd (e := (3, i, t, j, bI (A.2.2.2.2.1 t i j), bI b)) (zEok_lk ht hi hj hij _ _) (fun q => absurd q (by simp)) hA.cnt
  unfold aLk
  rw [if_neg hq]
  exact ⟨V, v1, v2, v4.mx, v3⟩
/-! what is reached -/
def rStep (w : zWd) (X : Nat → Bool) (x : Nat) : Nat → Bool := fun j => X j || (X x && w.2.2.1 0 x j)
def rR (w : zWd) : Nat → Nat → (Nat → Bool) → (Nat → Bool)
  | 0, _, X => X
  | n + 1, x, X => rR w n (x + 1) (rStep w X x)
def rO (w : zWd) : Nat → (Nat → Bool) → (Nat → Bool)
  | 0, X => X
  | n + 1, X => rO w n (rR w 30 0 X)
theorem rR_mono {w : zWd} {t : Nat} : ∀ n x (X : Nat → Bool), X t = true → rR w n x X t = true := by
  intro n
  induction n with
  | zero => intro x X h; exact h
  | succ n ih => intro x X h; exact ih _ _ (by unfold rStep; rw [h]; rfl)
theorem rO_mono {w : zWd} {t : Nat} : ∀ n (X : Nat → Bool), X t = true → rO w n X t = true := by
  intro n
  induction n with
  | zero => intro X h; exact h
  | succ n ih => intro X h; exact ih _ (rR_mono _ _ _ h)
/-- a mask for a set -/
def rM (P : Int32) (X : Nat → Bool) : Prop := (∀ j, j < 30 → zB P j = X j) ∧ ∀ j, 30 ≤ j → zB P j = false
theorem T_round_I {S : Nat → Nat → Int32} {w : zWd} (hC : zWC 9 S w) (x2 x4 : Int32) : ∀ (n x f : Nat) (P : Int32) (X : Nat → Bool), n + x = 30 → n < f → rM P X → ∃ Q, F_T_isReached_L26 S x2 x4 f P (zI x) = Q ∧ Sf_T_isReached_L26 S x2 x4 f P (zI x) ∧ rM Q (rR w n x X) := by
  intro n
  induction n with
  | zero =>
    intro x f P X hx hf hP
    obtain ⟨f, rfl⟩ : ∃ q, f = q + 1 := ⟨f - 1, by omega⟩
    have hl : (30 : Int32) ≤ zI x := by rw [show (30 : Int32) = zI 30 from rfl, zI_le (by omega) (by omega)]; omega
    unfold F_T_isReached_L26 Sf_T_isReached_L26 rR
    rw [if_pos hl, if_pos hl]
    exact ⟨P, rfl, trivial, hP⟩
  | succ n ih =>
    intro x f P X hx hf hP
    obtain ⟨f, rfl⟩ : ∃ q, f = q + 1 := ⟨f - 1, by omega⟩
    have hl : ¬ (30 : Int32) ≤ zI x := by rw [show (30 : Int32) = zI 30 from rfl, zI_le (by omega) (by omega)]; omega
    obtain ⟨l1, l2⟩ := World_linksOf_I (r := 9) (S := S) (show 0 < 3 by omega) (show x < 30 by omega)
    have l1' : F_World_linksOf 9 S 0 (zI x) = S (9 + 2) (30 * 0 + x) := l1
    have l2' : Sf_World_linksOf 9 S 0 (zI x) := l2
    unfold F_T_isReached_L26 Sf_T_isReached_L26 rR
    rw [if_neg hl, if_neg hl, T_isIn_B S (by omega), hP.1 x (by omega), zI_succ, l1']
    cases q : X x
    · have e : rStep w X x = X := by funext j; unfold rStep; rw [q]; simp
      rw [e, if_pos (show bI false = 0 from rfl), if_pos (show bI false = 0 from rfl)]
      exact ih (x + 1) f P X (by omega) (by omega) hP
    · rw [if_neg (show ¬ bI true = 0 by decide), if_neg (show ¬ bI true = 0 by decide)]
      obtain ⟨Q, q1, q2, q3⟩ := ih (x + 1) f (P ||| S (9 + 2) (30 * 0 + x)) (rStep w X x) (by omega) (by omega) ⟨fun j hj => by unfold rStep; rw [zB_or, hP.1 j hj, hC.link 0 (by omega) x (by omega) j hj, q, Bool.true_and], fun j hj => by rw [zB_or, hP.2 j hj, hC.lhi 0 (by omega) x (by omega) j hj]; rfl⟩
      exact ⟨Q, q1, ⟨l2', q2⟩, q3⟩
theorem T_rounds_I {S : Nat → Nat → Int32} {w : zWd} (hC : zWC 9 S w) {t : Nat} (ht : t < 30) : ∀ (n x f : Nat) (P : Int32) (X : Nat → Bool), n + x = 30 → n < f → rM P X → ∃ Q, F_T_isReached_L8 S (zI t) f P (zI x) = Q ∧ Sf_T_isReached_L8 S (zI t) f P (zI x) ∧ zB Q t = rO w n X t := by
  intro n
  induction n with
  | zero =>
    intro x f P X hx hf hP
    obtain ⟨f, rfl⟩ : ∃ q, f = q + 1 := ⟨f - 1, by omega⟩
    have hl : (30 : Int32) ≤ zI x := by rw [show (30 : Int32) = zI 30 from rfl, zI_le (by omega) (by omega)]; omega
    unfold F_T_isReached_L8 Sf_T_isReached_L8 rO
    rw [if_pos hl, if_pos hl]
    exact ⟨P, rfl, trivial, hP.1 t ht⟩
  | succ n ih =>
    intro x f P X hx hf hP
    obtain ⟨f, rfl⟩ : ∃ q, f = q + 1 := ⟨f - 1, by omega⟩
    have hl : ¬ (30 : Int32) ≤ zI x := by rw [show (30 : Int32) = zI 30 from rfl, zI_le (by omega) (by omega)]; omega
    unfold F_T_isReached_L8 Sf_T_isReached_L8
    rw [if_neg hl, if_neg hl, T_isIn_B S (by omega), hP.1 t ht, zI_succ]
    cases q : X t
    · rw [if_pos (show bI false = 0 from rfl), if_pos (show bI false = 0 from rfl)]
      obtain ⟨R, r1, r2, r3⟩ := T_round_I hC (zI t) (zI x) 30 0 1300 P X (by omega) (by omega) hP
      have r1' : F_T_isReached_L26 S (zI t) (zI x) 1300 P 0 = R := r1
      have r2' : Sf_T_isReached_L26 S (zI t) (zI x) 1300 P 0 := r2
      simp only [r1']
      obtain ⟨Q, q1, q2, q3⟩ := ih (x + 1) f R _ (by omega) (by omega) r3
      exact ⟨Q, q1, ⟨r2', q2⟩, q3⟩
    · rw [if_neg (show ¬ bI true = 0 by decide), if_neg (show ¬ bI true = 0 by decide)]
      exact ⟨P, rfl, trivial, by rw [hP.1 t ht, q]; exact (rO_mono _ _ q).symm⟩
def aRe (w : zWd) (a b : Nat) : Bool := rO w 30 (fun k => decide (k = a)) b
theorem T_isReached_I {S : Nat → Nat → Int32} {w : zWd} (hC : zWC 9 S w) {a b : Nat} (ha : a < 30) (hb : b < 30) : F_T_isReached S (zI a) (zI b) = bI (aRe w a b) ∧ Sf_T_isReached S (zI a) (zI b) := by
  obtain ⟨Q, q1, q2, q3⟩ := T_rounds_I hC hb 30 0 1300 (F_T_bit S (zI a)) (fun k => decide (k = a)) (by omega) (by omega) ⟨fun j hj => T_bit_B S (by omega) (by omega), fun j hj => by
    by_cases h : j < 32
    · rw [T_bit_B S (by omega) h]; exact decide_eq_false (by omega)
    · exact zB_ge _ (by omega)⟩
  have q1' : F_T_isReached_L8 S (zI b) 1300 (F_T_bit S (zI a)) 0 = Q := q1
  have q2' : Sf_T_isReached_L8 S (zI b) 1300 (F_T_bit S (zI a)) 0 := q2
  unfold F_T_isReached Sf_T_isReached
  simp only [q1']
  refine ⟨by rw [T_isIn_B S (by omega), q3]; rfl, q2', nar01 (T_isIn_01 _ _ _), trivial⟩
/-! the reference's -/
def zNA (n : Nat) (U V : Nat → Nat → Int32) : Prop := ∀ k, k ≠ n → V k = U k
theorem zNA.rfl {n : Nat} {U : Nat → Nat → Int32} : zNA n U U := fun _ _ => Eq.refl _
theorem zNA.trans {n : Nat} {U V W : Nat → Nat → Int32} (h : zNA n U V) (g : zNA n V W) : zNA n U W := fun k hk => (g k hk).trans (h k hk)
theorem zNA.cell (n : Nat) (U : Nat → Nat → Int32) (j : Nat) (v : Int32) : zNA n U (z_uS U n j v) := fun k hk => z_uS_ne _ _ _ hk
def rW (ga : Nat) (U : Nat → Nat → Int32) (X : Nat → Bool) : Prop := ∀ j, j < 30 → U ga j = bI (X j)
theorem zWM.na {b n : Nat} {U V : Nat → Nat → Int32} {w : zWd} (h : zWM b U w) (g : zNA n U V) (hn : b + 11 < n) : zWM b V w := h.ag (fun k h1 h2 => g k (by omega))
theorem M_row_I {ga : Nat} (hga : 194 ≤ ga) {w : zWd} (x2 x4 : Int32) {x : Nat} (hx : x < 30) {X : Nat → Bool} (hX : X x = true) : ∀ (n y f : Nat) (U : Nat → Nat → Int32), zWM 86 U w → n + y = 30 → n < f → (∀ j, j < 30 → U ga j = bI (if j < y then rStep w X x j else X j)) → ∃ V, F_M_leads_L32 ga x2 x4 (zI x) f U (zI y) = V ∧ Sf_M_leads_L32 ga x2 x4 (zI x) f U (zI y) ∧ zNA ga U V ∧ rW ga V (rStep w X x) := by
  intro n
  induction n with
  | zero =>
    intro y f U hC hy hf hU
    obtain ⟨f, rfl⟩ : ∃ q, f = q + 1 := ⟨f - 1, by omega⟩
    have hl : (30 : Int32) ≤ zI y := by rw [show (30 : Int32) = zI 30 from rfl, zI_le (by omega) (by omega)]; omega
    unfold F_M_leads_L32 Sf_M_leads_L32
    rw [if_pos hl, if_pos hl]
    exact ⟨U, rfl, trivial, zNA.rfl, fun j hj => by rw [hU j hj, if_pos (by omega)]⟩
  | succ n ih =>
    intro y f U hC hy hf hU
    obtain ⟨f, rfl⟩ : ∃ q, f = q + 1 := ⟨f - 1, by omega⟩
    have hl : ¬ (30 : Int32) ≤ zI y := by rw [show (30 : Int32) = zI 30 from rfl, zI_le (by omega) (by omega)]; omega
    have vx : vp_in (zI x) 30 := vp_in_I hx (by omega)
    have vy : vp_in (zI y) 30 := vp_in_I (by omega) (by omega)
    have ex : U ga x = 1 := by
      rw [hU x hx]
      have : (if x < y then rStep w X x x else X x) = true := by unfold rStep; split <;> simp [hX]
      rw [this]; rfl
    have ey : U ga y = bI (X y) := by rw [hU y (by omega), if_neg (by omega)]
    obtain ⟨l1, l2⟩ := M_lkd hC (show 0 < 3 by omega) hx (show y < 30 by omega)
    have l1' : F_MW_isLinked 86 U 0 (zI x) (zI y) = bI (w.2.2.1 0 x y) := l1
    have l2' : Sf_MW_isLinked 86 U 0 (zI x) (zI y) := l2
    have hs : ∀ v, v = bI (rStep w X x y) → ∀ j, j < 30 → (z_uS U ga y v) ga j = bI (if j < y + 1 then rStep w X x j else X j) := by
      intro v hv j hj
      by_cases e : j = y
      · rw [e, uS_at, if_pos (by omega)]; exact hv
      · rw [uS_nj _ _ _ e, hU j hj]
        by_cases e2 : j < y
        · rw [if_pos e2, if_pos (by omega)]
        · rw [if_neg e2, if_neg (by omega)]
    have go : ∀ v, v = bI (rStep w X x y) → ∃ V, F_M_leads_L32 ga x2 x4 (zI x) f (z_uS U ga y v) (zI (y + 1)) = V ∧ Sf_M_leads_L32 ga x2 x4 (zI x) f (z_uS U ga y v) (zI (y + 1)) ∧ zNA ga U V ∧ rW ga V (rStep w X x) := by
      intro v hv
      obtain ⟨V, v1, v2, v3, v4⟩ := ih (y + 1) f (z_uS U ga y v) (hC.na (zNA.cell ga U y v) (by omega)) (by omega) (by omega) (hs v hv)
      exact ⟨V, v1, v2, (zNA.cell ga U y v).trans v3, v4⟩
    unfold F_M_leads_L32 Sf_M_leads_L32 F_M_leads_l32_71 Sf_M_leads_l32_71
    rw [if_neg hl, if_neg hl, zI_clamp (show x < 2147483648 by omega), zI_clamp (show y < 2147483648 by omega), ex, ey, zI_succ, l1']
    simp only [if_neg ne_10]
    cases q : X y
    · simp only [if_pos (show bI false = 0 from rfl)]
      cases q2 : w.2.2.1 0 x y
      · simp only [if_pos (show bI false = 0 from rfl)]
        obtain ⟨V, v1, v2, v3⟩ := go (vp_nar .boolean 0) (by unfold rStep; rw [q, q2]; simp; decide)
        exact ⟨V, v1, ⟨vx, vy, l2', vy, v2⟩, v3⟩
      · simp only [if_neg (show ¬ bI true = 0 by decide)]
        obtain ⟨V, v1, v2, v3⟩ := go (vp_nar .boolean 1) (by unfold rStep; rw [q2, hX]; simp; decide)
        exact ⟨V, v1, ⟨vx, vy, l2', vy, v2⟩, v3⟩
    · simp only [if_neg (show ¬ bI true = 0 by decide)]
      obtain ⟨V, v1, v2, v3⟩ := go (vp_nar .boolean 1) (by unfold rStep; rw [q]; simp; decide)
      exact ⟨V, v1, ⟨vx, vy, vy, v2⟩, v3⟩
theorem M_round_I {ga : Nat} (hga : 194 ≤ ga) {w : zWd} (x2 x4 : Int32) : ∀ (n x f : Nat) (U : Nat → Nat → Int32) (X : Nat → Bool), zWM 86 U w → n + x = 30 → n < f → rW ga U X → ∃ V, F_M_leads_L22 ga x2 x4 f U (zI x) = V ∧ Sf_M_leads_L22 ga x2 x4 f U (zI x) ∧ zNA ga U V ∧ rW ga V (rR w n x X) := by
  intro n
  induction n with
  | zero =>
    intro x f U X hC hx hf hU
    obtain ⟨f, rfl⟩ : ∃ q, f = q + 1 := ⟨f - 1, by omega⟩
    have hl : (30 : Int32) ≤ zI x := by rw [show (30 : Int32) = zI 30 from rfl, zI_le (by omega) (by omega)]; omega
    unfold F_M_leads_L22 Sf_M_leads_L22 rR
    rw [if_pos hl, if_pos hl]
    exact ⟨U, rfl, trivial, zNA.rfl, hU⟩
  | succ n ih =>
    intro x f U X hC hx hf hU
    obtain ⟨f, rfl⟩ : ∃ q, f = q + 1 := ⟨f - 1, by omega⟩
    have hl : ¬ (30 : Int32) ≤ zI x := by rw [show (30 : Int32) = zI 30 from rfl, zI_le (by omega) (by omega)]; omega
    have row : ∃ V, F_M_leads_L32 ga x2 x4 (zI x) 1300 U 0 = V ∧ Sf_M_leads_L32 ga x2 x4 (zI x) 1300 U 0 ∧ zNA ga U V ∧ rW ga V (rStep w X x) := by
      cases q : X x
      · refine ⟨U, ?_, ?_, zNA.rfl, ?_⟩
        · unfold F_M_leads_L32
          rw [if_neg (by decide), zI_clamp (show x < 2147483648 by omega), hU x (by omega), q, if_pos (show bI false = 0 from rfl)]
        · unfold Sf_M_leads_L32
          rw [if_neg (by decide), zI_clamp (show x < 2147483648 by omega), hU x (by omega), q, if_pos (show bI false = 0 from rfl)]
          exact ⟨vp_in_I (by omega) (by omega), trivial⟩
        · have e : rStep w X x = X := by funext j; unfold rStep; rw [q]; simp
          rw [e]; exact hU
      · exact M_row_I hga x2 x4 (show x < 30 by omega) q 30 0 1300 U hC (by omega) (by omega) (fun j hj => by rw [if_neg (by omega)]; exact hU j hj)
    obtain ⟨V, v1, v2, v3, v4⟩ := row
    obtain ⟨W, w1, w2, w3, w4⟩ := ih (x + 1) f V (rStep w X x) (hC.na v3 (by omega)) (by omega) (by omega) v4
    unfold F_M_leads_L22 Sf_M_leads_L22 rR
    rw [if_neg hl, if_neg hl, zI_succ]
    simp only [v1]
    exact ⟨W, w1, ⟨v2, w2⟩, v3.trans w3, w4⟩
theorem M_rounds_I {ga : Nat} (hga : 194 ≤ ga) {w : zWd} (x2 : Int32) : ∀ (n x f : Nat) (U : Nat → Nat → Int32) (X : Nat → Bool), zWM 86 U w → n + x = 30 → n < f → rW ga U X → ∃ V, F_M_leads_L12 ga x2 f U (zI x) = V ∧ Sf_M_leads_L12 ga x2 f U (zI x) ∧ zNA ga U V ∧ rW ga V (rO w n X) := by
  intro n
  induction n with
  | zero =>
    intro x f U X hC hx hf hU
    obtain ⟨f, rfl⟩ : ∃ q, f = q + 1 := ⟨f - 1, by omega⟩
    have hl : (30 : Int32) ≤ zI x := by rw [show (30 : Int32) = zI 30 from rfl, zI_le (by omega) (by omega)]; omega
    unfold F_M_leads_L12 Sf_M_leads_L12 rO
    rw [if_pos hl, if_pos hl]
    exact ⟨U, rfl, trivial, zNA.rfl, hU⟩
  | succ n ih =>
    intro x f U X hC hx hf hU
    obtain ⟨f, rfl⟩ : ∃ q, f = q + 1 := ⟨f - 1, by omega⟩
    have hl : ¬ (30 : Int32) ≤ zI x := by rw [show (30 : Int32) = zI 30 from rfl, zI_le (by omega) (by omega)]; omega
    obtain ⟨V, v1, v2, v3, v4⟩ := M_round_I hga x2 (zI x) 30 0 1300 U X hC (by omega) (by omega) hU
    have v1' : F_M_leads_L22 ga x2 (zI x) 1300 U 0 = V := v1
    obtain ⟨W, w1, w2, w3, w4⟩ := ih (x + 1) f V (rR w 30 0 X) (hC.na v3 (by omega)) (by omega) (by omega) v4
    unfold F_M_leads_L12 Sf_M_leads_L12 rO
    rw [if_neg hl, if_neg hl, zI_succ]
    simp only [v1']
    exact ⟨W, w1, ⟨v2, w2⟩, v3.trans w3, w4⟩
theorem M_leads_I {na : Nat} (hna : 194 ≤ na) {U : Nat → Nat → Int32} {w : zWd} (hC : zWM 86 U w) {a b : Nat} (ha : a < 30) (hb : b < 30) : ∃ V, F_M_leads na U (zI a) (zI b) = (bI (aRe w a b), V) ∧ Sf_M_leads na U (zI a) (zI b) ∧ zNA na U V := by
  have g0 : zNA na U (zSn U na) := fun k hk => by unfold zSn; rw [if_neg hk]
  have g1 := g0.trans (zNA.cell na (zSn U na) a (vp_nar .boolean 1))
  have hW : rW na (z_uS (zSn U na) na a (vp_nar .boolean 1)) (fun k => decide (k = a)) := by
    intro j hj
    by_cases e : j = a
    · rw [e, uS_at]; simp only [decide_true]; decide
    · rw [uS_nj _ _ _ e]; show _ = bI (decide (j = a)); rw [decide_eq_false e]; unfold zSn; rw [if_pos rfl]; rfl
  obtain ⟨V, v1, v2, v3, v4⟩ := M_rounds_I hna (zI b) 30 0 1300 _ _ (hC.na g1 (by omega)) (by omega) (by omega) hW
  have v1' : F_M_leads_L12 na (zI b) 1300 (z_uS (zSn U na) na a (vp_nar .boolean 1)) 0 = V := v1
  have v2' : Sf_M_leads_L12 na (zI b) 1300 (z_uS (zSn U na) na a (vp_nar .boolean 1)) 0 := v2
  unfold F_M_leads Sf_M_leads F_M_leads_j5 Sf_M_leads_j5
  rw [zI_clamp (show a < 2147483648 by omega)]
  simp only [v1', zI_clamp (show b < 2147483648 by omega), v4 b hb]
  exact ⟨V, rfl, ⟨vp_in_I ha (by omega), v2', vp_in_I hb (by omega), nar01 (by unfold bI; split <;> simp), trivial⟩, g1.trans v3⟩
theorem bI_01 (b : Bool) : bI b = 0 ∨ bI b = 1 := by cases b <;> simp [bI]
theorem zBM.na {fl : Nat → Nat} {E U V : Nat → Nat → Int32} {d : Nat} {A : zA} {rn na : Nat} (h : zBM fl E U d A rn) (hn : 194 ≤ na) (hf : ∀ k, k < 3 → fl k + 7 < na) (g : zNA na U V) : zBM fl E V d A rn := by
  obtain ⟨⟨⟨h1, h1'⟩, h2, ⟨h3, h4, h5, h6⟩⟩, h7, h8, h9, h10, h11⟩ := h
  refine ⟨⟨⟨fun k hk => by rw [g 124 (by omega), g 125 (by omega), g 126 (by omega), g 128 (by omega), g 129 (by omega), g 130 (by omega)]; exact h1 k hk, fun k hk => by rw [g 127 (by omega)]; exact h1' k hk⟩, h2, ⟨fun k hk => by rw [g 128 (by omega)]; exact h3 k hk, fun k hk => by have := hf k hk; rw [g (fl k) (by omega)]; exact h4 k hk, fun k hk => by rw [g k (by omega)]; exact h5 k hk, by rw [g 78 (by omega)]; exact h6⟩⟩, h7, h8, by rw [g 78 (by omega)]; exact h9, h10, h11.ag (by omega) (by rw [g 78 (by omega)]) (fun k hk => g k (by omega))⟩
theorem M_link_T {fl : Nat → Nat} {E U : Nat → Nat → Int32} {d rn p t i j : Nat} {A : zA} (h : zBM fl E U d A rn) (hp : p < 8) (ht : t < 3) (hi : i < 30) (hj : j < 30) (hij : i ≠ j) (hwi : A.2.2.1 i = true) (hwj : A.2.2.1 j = true) (b : Bool) :
    ∃ W, F_M_link_j88 fl U (zI p) (zI t) (zI i) (zI j) (bI b) = (if (aLk d p t i j b A).2.1 ≤ 800 then bI (A.2.2.2.2.1 t i j) else 0, W) ∧ Sf_M_link_j88 fl U (zI p) (zI t) (zI i) (zI j) (bI b) ∧ zFMX U W ∧ (W 78 0 = if (aLk d p t i j b A).2.1 ≤ 800 then 0 else 3) ∧ zRM 86 W (aLim A.2.1 (aLk d p t i j b A)) := by
  have h0 := h.thr 0
  have hn := h.n
  have hb := aLk_n (d := d) (p := p) (t := t) (i := i) (j := j) (b := b) (A := A)
  have hO := aLk_ok (b := b) h.ok ht hi hj hij hwi hwj hp
  have hsz : U 78 2 = zI A.2.1 := h.m.1.size
  obtain ⟨l1, l2⟩ := M_lkd h0.m.2.1 ht hi hj
  have fin : ∀ X, zFMX (z_uS U 78 0 0) X → zRM 86 X (aLk d p t i j b A) → ∃ W, F_M_link_j169 fl X (bI (A.2.2.2.2.1 t i j)) (zI A.2.1) = (if (aLk d p t i j b A).2.1 ≤ 800 then bI (A.2.2.2.2.1 t i j) else 0, W) ∧ Sf_M_stays fl X (zI A.2.1) 1 ∧ zFMX U W ∧ (W 78 0 = if (aLk d p t i j b A).2.1 ≤ 800 then 0 else 3) ∧ zRM 86 W (aLim A.2.1 (aLk d p t i j b A)) := by
    intro X k3 k4
    obtain ⟨Y, s1, s2, s3, s4⟩ := M_lim (p := p) (h0.bx.mx k3) hp k4 hO (by omega) hb.1 (aLk_by (aBy_0 (Nat.le_refl _))) (aLk_quiet (aQuiet_0 (Nat.le_refl _)))
    unfold F_M_link_j169 F_M_link_j185 F_M_link_j204
    simp only [s1]
    by_cases r8 : (aLk d p t i j b A).2.1 ≤ 800
    · simp only [if_pos r8, if_neg ne_10, if_true]
      refine ⟨z_uS Y 78 0 0, ?_, s2, (((zFMX.thr U 0).trans k3).trans s3).trans (zFMX.thr _ _), uS_at _ _ _ _, s4.thr _⟩
      cases A.2.2.2.2.1 t i j <;> rfl
    · simp only [if_neg r8, if_true, if_neg (show ¬ (3 : Int32) = 0 by decide)]
      exact ⟨z_uS Y 78 0 3, rfl, s2, (((zFMX.thr U 0).trans k3).trans s3).trans (zFMX.thr _ _), uS_at _ _ _ _, s4.thr _⟩
  unfold F_M_link_j88 Sf_M_link_j88 F_M_link_j93 Sf_M_link_j93
  rw [if_neg ne_10, if_neg ne_10]
  unfold F_M_link_j106 Sf_M_link_j106
  rw [if_pos le_00, if_pos le_00, l1, hsz]
  by_cases q : A.2.2.2.2.1 t i j = b
  · have q' : bI (A.2.2.2.2.1 t i j) = bI b := by rw [q]
    rw [if_pos q', if_pos q']
    have eA : aLk d p t i j b A = A := by unfold aLk; rw [if_pos q]
    obtain ⟨W, w1, w2, w3⟩ := fin (z_uS U 78 0 0) zFMX.rfl (by rw [eA]; exact h0.m)
    exact ⟨W, w1, ⟨l2, w2, trivial⟩, w3⟩
  · have q' : ¬ bI (A.2.2.2.2.1 t i j) = bI b := by rw [bI_inj]; exact q
    rw [if_neg q', if_neg q']
    obtain ⟨X, k1, k2, k3, k4⟩ := M_pushL (p := p) h0.d h0.m h.ok (by omega) ht hi hj hij q
    obtain ⟨W, w1, w2, w3⟩ := fin X k3 k4
    cases b
    · simp only [if_pos (show bI false = 0 from rfl)]
      unfold F_M_link_j166 Sf_M_link_j166
      have k1' : F_M_make 86 (z_uS U 78 0 0) 9 (zI p) (zI i) (zI t) (zI j) 0 = X := k1
      simp only [k1', z_let]
      exact ⟨W, w1, ⟨l2, k2, w2, trivial⟩, w3⟩
    · simp only [if_neg (show ¬ bI true = 0 by decide)]
      unfold F_M_link_j166 Sf_M_link_j166
      have k1' : F_M_make 86 (z_uS U 78 0 0) 9 (zI p) (zI i) (zI t) (zI j) 1 = X := k1
      simp only [k1', z_let]
      exact ⟨W, w1, ⟨l2, k2, w2, trivial⟩, w3⟩
theorem T_link_T {E V : Nat → Nat → Int32} {d p t i j : Nat} {A : zA} (h : zCX E V d) (hC : zRC V A) (hA : zOk d A) (hn : A.2.1 ≤ 800) (hp : p < 8) (ht : t < 3) (hi : i < 30) (hj : j < 30) (hij : i ≠ j) (hwi : A.2.2.1 i = true) (hwj : A.2.2.1 j = true) (b : Bool) :
    ∃ D, F_T_link_j89 V (zI p) (zI t) (zI i) (zI j) (bI b) = (if (aLk d p t i j b A).2.1 ≤ 800 then .inr (bI (A.2.2.2.2.1 t i j)) else .inl "java/lang/IllegalStateException", D) ∧ Sf_T_link_j89 V (zI p) (zI t) (zI i) (zI j) (bI b) ∧ zFCX V D ∧ zRC D (aLim A.2.1 (aLk d p t i j b A)) := by
  have hb := aLk_n (d := d) (p := p) (t := t) (i := i) (j := j) (b := b) (A := A)
  have hO := aLk_ok (b := b) hA ht hi hj hij hwi hwj hp
  obtain ⟨l1, l2⟩ := T_curL hC.2 ht hi hj
  obtain ⟨C, c1, c2, c3, c4⟩ := T_chgL (p := p) h.2.2 hC (by omega) ht hi hj hij b
  obtain ⟨D, d1, d2, d3, d4⟩ := T_lim (m := A.2.1) c4 hO (by omega) hb.1
  have h17 : V 1 7 = zI A.2.1 := hC.1.size
  have e89 : F_T_link_j89 V (zI p) (zI t) (zI i) (zI j) (bI b) = F_T_link_j120 V (zI p) (zI t) (zI i) (zI j) (bI b) (bI (A.2.2.2.2.1 t i j)) ∧ (Sf_T_link_j120 V (zI p) (zI t) (zI i) (zI j) (bI b) (bI (A.2.2.2.2.1 t i j)) → Sf_T_link_j89 V (zI p) (zI t) (zI i) (zI j) (bI b)) := by
    unfold F_T_link_j89 Sf_T_link_j89
    rw [l1]
    cases A.2.2.2.2.1 t i j
    · rw [if_neg (show ¬ bI false = 1 by decide), if_neg (show ¬ bI false = 1 by decide)]; exact ⟨rfl, fun z => ⟨l2, z⟩⟩
    · rw [if_pos (show bI true = 1 from rfl), if_pos (show bI true = 1 from rfl)]; exact ⟨rfl, fun z => ⟨l2, z⟩⟩
  have e120 : F_T_link_j120 V (zI p) (zI t) (zI i) (zI j) (bI b) (bI (A.2.2.2.2.1 t i j)) = F_T_link_j150 V (bI (A.2.2.2.2.1 t i j)) (zI A.2.1) (bI b) (zI j) ((10 : Int32) + zI t) (zI i) (zI p) ∧ Sf_T_link_j120 V (zI p) (zI t) (zI i) (zI j) (bI b) (bI (A.2.2.2.2.1 t i j)) = Sf_T_link_j150 V (bI (A.2.2.2.2.1 t i j)) (zI A.2.1) (bI b) (zI j) ((10 : Int32) + zI t) (zI i) (zI p) := by
    unfold F_T_link_j120 Sf_T_link_j120
    rw [h17]
    cases b
    · rw [if_pos (show bI false = 0 from rfl), if_pos (show bI false = 0 from rfl)]; exact ⟨rfl, rfl⟩
    · rw [if_neg (show ¬ bI true = 0 by decide), if_neg (show ¬ bI true = 0 by decide)]; exact ⟨rfl, rfl⟩
  have e150 : F_T_link_j150 V (bI (A.2.2.2.2.1 t i j)) (zI A.2.1) (bI b) (zI j) ((10 : Int32) + zI t) (zI i) (zI p) = (if (aLk d p t i j b A).2.1 ≤ 800 then .inr (bI (A.2.2.2.2.1 t i j)) else .inl "java/lang/IllegalStateException", D) ∧ Sf_T_link_j150 V (bI (A.2.2.2.2.1 t i j)) (zI A.2.1) (bI b) (zI j) ((10 : Int32) + zI t) (zI i) (zI p) := by
    unfold F_T_link_j150 Sf_T_link_j150
    simp only [z_let, c1, d1]
    by_cases r8 : (aLk d p t i j b A).2.1 ≤ 800
    · simp only [if_pos r8, if_neg ne_10]; exact ⟨trivial, c2, d2, nar01 (bI_01 _), trivial⟩
    · simp only [if_neg r8, if_true]; exact ⟨trivial, c2, d2, trivial⟩
  exact ⟨D, e89.1.trans (e120.1.trans e150.1), e89.2 (e120.2.symm ▸ e150.2), c3.cx.trans d3, d4⟩
/-- what was written beside a new array -/
def zBut (na : Nat) (U W : Nat → Nat → Int32) : Nat → Nat → Int32 := fun k => if k = na then U na else W k
theorem zBut.na {na : Nat} {U W : Nat → Nat → Int32} : zNA na (zBut na U W) W := fun k hk => by unfold zBut; rw [if_neg hk]
theorem zBut.fmx {na : Nat} {U U' W : Nat → Nat → Int32} (g : zNA na U U') (h : zFMX U' W) (hn : 194 ≤ na) : zFMX U (zBut na U W) := by
  refine ⟨fun k hk => ?_, fun j j0 j2 => ?_⟩
  · unfold zBut
    by_cases e : k = na
    · rw [if_pos e, e]
    · rw [if_neg e, h.1 k hk, g k e]
  · unfold zBut
    rw [if_neg (by omega), h.2 j j0 j2, g 78 (by omega)]
theorem zBut.rm {na : Nat} {U W : Nat → Nat → Int32} {A : zA} (h : zRM 86 W A) (hn : 194 ≤ na) : zRM 86 (zBut na U W) A := h.ag (by omega) (by unfold zBut; rw [if_neg (by omega)]) (fun k hk => by unfold zBut; rw [if_neg (by omega)])
theorem lt_00 : ¬ ((0 : Int32) < 0) := by decide
theorem zEndN_err {S V U' W : Nat → Nat → Int32} {d na : Nat} {B : zA} (h1 : zFCX S V) (g : zNA na V U') (h2 : zFMX U' W) (hn : 194 ≤ na) (hB : zOk d B) (hB8 : B.2.1 ≤ 800 ∧ zCN S B) (hRC : zRC V B) (hRM : zRM 86 W B) : ∃ F, zEnd S F d ∧ zNA na F W := ⟨zBut na V W, zEnd_of (Or.inl h1) (zBut.fmx g h2 hn) hB hB8 hRC (zBut.rm hRM hn), zBut.na⟩
theorem zEndN_ok {S V U' W : Nat → Nat → Int32} {d na : Nat} {B : zA} {v : Int32} (h1 : zFCX S V) (g : zNA na (z_uS V 193 0 v) U') (h2 : zFMX U' W) (hn : 194 ≤ na) (hB : zOk d B) (hB8 : B.2.1 ≤ 800 ∧ zCN S B) (hRC : zRC V B) (hRM : zRM 86 W B) : ∃ F, zEnd S F d ∧ zNA na F W := ⟨zBut na (z_uS V 193 0 v) W, zEnd_of (Or.inr ⟨V, v, h1, rfl⟩) (zBut.fmx g h2 hn) hB hB8 (hRC.out v) (zBut.rm hRM hn), zBut.na⟩
theorem o_19 {fl : Nat → Nat} {S : Nat → Nat → Int32} {d : Nat} {A : zA} {rn : Nat} (h : zB0 fl S d A rn) (a1 a2 a3 a4 a5 a6 : Int32) {na : Nat} (hna : 194 ≤ na) (hnf : ∀ k, k < 3 → fl k + 7 < na) : Sl_19 fl na S a1 a2 a3 a4 a5 a6 ∧ ∃ F, zEnd S F d ∧ zNA na F (Fl_19 fl na S a1 a2 a3 a4 a5 a6) := by
  suffices g : ∀ b : Bool, zOpQ (fun E => (if E = "java/lang/IndexOutOfBoundsException" then 1 else (if E = "java/lang/IllegalArgumentException" then 2 else (if E = "java/lang/IllegalStateException" then 3 else 0)))) (fun E => E = "java/lang/IndexOutOfBoundsException" ∨ E = "java/lang/IllegalArgumentException" ∨ E = "java/lang/IllegalStateException") (fun x => if x = 0 then 0 else 1) (F_T_link S a1 a2 a3 a4 (bI b)) (Sf_T_link S a1 a2 a3 a4 (bI b)) (fun U => F_M_link fl na U a1 a2 a3 a4 (bI b)) (fun U => Sf_M_link fl na U a1 a2 a3 a4 (bI b)) (fun W => ∃ F, zEnd S F d ∧ zNA na F W) by
    have hb : (if a5 = 0 then (0 : Int32) else 1) = bI (!decide (a5 = 0)) := by by_cases q : a5 = 0 <;> simp [q, bI]
    unfold Sl_19 Fl_19
    rw [hb]
    exact g _
  intro b
  rcases T_head h a1 a3 with ⟨V, hv, hcx, hC, m1, m2⟩ | ⟨p, i, V, hp, hi, rfl, rfl, hsee, hwi, hper, v1, v2, hcx, hC, hst, hCX, hU⟩
  · refine zOpQ_err (E := "java/lang/IndexOutOfBoundsException") (V := V) (x := 0) (W := z_uS V 78 0 1) ?_ ?_ (Or.inl rfl) (by decide) ?_ ?_ (by rw [uS_at]; rfl) (zEndN_err hcx zNA.rfl (zFMX.thr _ _) hna h.ok h.ns hC ((h.bm hcx.x).m.thr _))
    · unfold F_T_link
      rcases hv with ⟨g, rfl⟩ | ⟨g, v1, v2⟩
      · rw [if_pos g]
      · rw [g, v1]; rfl
    · unfold Sf_T_link
      rcases hv with ⟨g, rfl⟩ | ⟨g, v1, v2⟩
      · rw [if_pos g]; trivial
      · rw [g, v1]; exact ⟨v2, trivial⟩
    · show F_M_link fl na V a1 a2 a3 a4 (bI b) = _
      unfold F_M_link F_M_link_j20 F_M_link_j43 F_M_link_j44
      simp only [m1, if_true, if_neg le_10]
    · show Sf_M_link fl na V a1 a2 a3 a4 (bI b)
      unfold Sf_M_link Sf_M_link_j20 Sf_M_link_j43 Sf_M_link_j44
      simp only [m1, if_true, if_neg le_10]; exact ⟨m2, trivial⟩
  have hbm := h.bm hcx.x
  have hn := h.n
  have hs4 := Sight_sees_I hst a4
  have ss4 := Sf_sees_I V a4
  have hM4 : ∀ U, zBM fl S U d A rn → F_M_isSeen U (zI p) a4 = (if vSeeO S A.2.2 p a4 = true then 1 else 0) ∧ Sf_M_isSeen U (zI p) a4 := by
    intro U hu
    obtain ⟨x1, x2⟩ := M_isSeen_I hu (zI p) a4
    have ep : vPer (zI p) = some p := by unfold vPer; rw [zI_toInt (by omega), if_pos (by omega), zI_clamp (by omega)]
    rw [ep] at x1
    exact ⟨x1, x2⟩
  obtain ⟨n1, n2⟩ := hU V hbm
  obtain ⟨o1, o2⟩ := hM4 V hbm
  by_cases h4 : vSeeO S A.2.2 p a4 = true
  case neg =>
    rw [if_neg h4] at hs4 o1
    refine zOpQ_err (E := "java/lang/IndexOutOfBoundsException") (V := V) (x := 0) (W := z_uS V 78 0 1) ?_ ?_ (Or.inl rfl) (by decide) ?_ ?_ (by rw [uS_at]; rfl) (zEndN_err hcx zNA.rfl (zFMX.thr _ _) hna h.ok h.ns hC (hbm.m.thr _))
    · unfold F_T_link; simp only [hper, v1, if_neg ne_10, hs4, if_true]
    · unfold Sf_T_link; simp only [hper, v1, if_neg ne_10, hs4, if_true]; exact ⟨v2, ss4, trivial⟩
    · show F_M_link fl na V (zI p) a2 (zI i) a4 (bI b) = _
      unfold F_M_link F_M_link_j20 F_M_link_j43 F_M_link_j44
      simp only [n1, o1, if_neg ne_10, if_true, if_neg le_10]
    · show Sf_M_link fl na V (zI p) a2 (zI i) a4 (bI b)
      unfold Sf_M_link Sf_M_link_j20 Sf_M_link_j43 Sf_M_link_j44
      simp only [n1, o1, if_neg ne_10, if_true, if_neg le_10]; exact ⟨n2, o2, trivial⟩
  obtain ⟨j, hj, rfl, hsj⟩ := vSeeO_cases h4
  have hwj := vSee_there hsj
  rw [if_pos h4] at hs4 o1
  by_cases hbad : (0 ≤ a2.toInt ∧ a2.toInt ≤ 2) ∧ ¬ zI i = zI j
  case neg =>
    refine zOpQ_err (E := "java/lang/IllegalArgumentException") (V := V) (x := 0) (W := z_uS V 78 0 2) ?_ ?_ (Or.inr (Or.inl rfl)) (by decide) ?_ ?_ (by rw [uS_at]; rfl) (zEndN_err hcx zNA.rfl (zFMX.thr _ _) hna h.ok h.ns hC (hbm.m.thr _))
    · unfold F_T_link; simp only [hper, v1, if_neg ne_10, hs4]
      by_cases q1 : a2 < 0
      · rw [if_pos q1]
      · rw [if_neg q1]
        by_cases q2 : (3 : Int32) ≤ a2
        · rw [if_pos q2]
        · rw [if_neg q2, if_pos]
          rw [T_lt] at q1; rw [T_le] at q2
          have c0 : (0 : Int32).toInt = 0 := rfl
          have c3 : (3 : Int32).toInt = 3 := rfl
          by_cases q3 : zI i = zI j
          · exact q3
          · exact absurd ⟨by omega, q3⟩ hbad
    · unfold Sf_T_link; simp only [hper, v1, if_neg ne_10, hs4]
      refine ⟨v2, ss4, ?_⟩
      by_cases q1 : a2 < 0
      · rw [if_pos q1]; trivial
      · rw [if_neg q1]
        by_cases q2 : (3 : Int32) ≤ a2
        · rw [if_pos q2]; trivial
        · rw [if_neg q2, if_pos]
          · trivial
          rw [T_lt] at q1; rw [T_le] at q2
          have c0 : (0 : Int32).toInt = 0 := rfl
          have c3 : (3 : Int32).toInt = 3 := rfl
          by_cases q3 : zI i = zI j
          · exact q3
          · exact absurd ⟨by omega, q3⟩ hbad
    · show F_M_link fl na V (zI p) a2 (zI i) (zI j) (bI b) = _
      unfold F_M_link F_M_link_j20 F_M_link_j43 F_M_link_j44
      simp only [n1, o1, if_neg ne_10, M_isIn_eq, show (0 : Int32).toInt = 0 from rfl, show (2 : Int32).toInt = 2 from rfl]
      by_cases q : 0 ≤ a2.toInt ∧ a2.toInt ≤ 2
      · have q3 : zI i = zI j := Classical.byContradiction fun z => hbad ⟨q, z⟩
        simp only [if_pos q, if_neg ne_10, if_pos q3, if_neg le_20]
      · simp only [if_neg q, if_true, if_neg le_20]
    · show Sf_M_link fl na V (zI p) a2 (zI i) (zI j) (bI b)
      unfold Sf_M_link Sf_M_link_j20 Sf_M_link_j43 Sf_M_link_j44
      simp only [n1, o1, if_neg ne_10, M_isIn_eq, show (0 : Int32).toInt = 0 from rfl, show (2 : Int32).toInt = 2 from rfl]
      by_cases q : 0 ≤ a2.toInt ∧ a2.toInt ≤ 2
      · have q3 : zI i = zI j := Classical.byContradiction fun z => hbad ⟨q, z⟩
        simp only [if_pos q, if_neg ne_10, if_pos q3, if_neg le_20]; exact ⟨n2, o2, trivial⟩
      · simp only [if_neg q, if_true, if_neg le_20]; exact ⟨n2, o2, trivial⟩
  obtain ⟨⟨ha, hb⟩, hij⟩ := hbad
  obtain ⟨t, ht, rfl⟩ := zI_ex (n := 3) ha (by omega) (by omega)
  have hne : i ≠ j := fun e => hij (by rw [e])
  have q1 : ¬ zI t < 0 := by rw [show (0 : Int32) = zI 0 from rfl, zI_lt (by omega) (by omega)]; omega
  have q2 : ¬ (3 : Int32) ≤ zI t := by rw [show (3 : Int32) = zI 3 from rfl, zI_le (by omega) (by omega)]; omega
  have et0 : zI t = 0 ↔ t = 0 := by rw [show (0 : Int32) = zI 0 from rfl, zI_inj (by omega) (by omega)]
  have hed := Sight_canEdit_I hst hi
  have sed := Sf_canEdit_I V (zI i)
  obtain ⟨re1, re2⟩ := T_isReached_I hC.2 hj hi
  have hMi : ∀ U, zBM fl S U d A rn → F_M_link fl na U (zI p) (zI t) (zI i) (zI j) (bI b) = F_M_link_j44 fl na U (zI p) (zI t) (zI i) (zI j) (bI b) 0 ∧ (Sf_M_link_j44 fl na U (zI p) (zI t) (zI i) (zI j) (bI b) 0 → Sf_M_link fl na U (zI p) (zI t) (zI i) (zI j) (bI b)) := by
    intro U hu
    obtain ⟨x1, x2⟩ := hU U hu
    obtain ⟨y1, y2⟩ := hM4 U hu
    rw [if_pos h4] at y1
    unfold F_M_link Sf_M_link
    simp only [x1, y1, if_neg ne_10, M_isIn_eq, show (0 : Int32).toInt = 0 from rfl, show (2 : Int32).toInt = 2 from rfl, if_pos (show 0 ≤ (zI t).toInt ∧ (zI t).toInt ≤ 2 from ⟨ha, hb⟩), if_neg hij]
    exact ⟨trivial, fun z => ⟨x2, y2, z⟩⟩
  have stop : ∀ U, F_M_link_j92 fl U (zI p) (zI t) (zI i) (zI j) (bI b) = (0, z_uS U 78 0 3) ∧ Sf_M_link_j92 fl U (zI p) (zI t) (zI i) (zI j) (bI b) := by
    intro U
    unfold F_M_link_j92 F_M_link_j93 F_M_link_j106 Sf_M_link_j92 Sf_M_link_j93 Sf_M_link_j106
    simp only [if_true, if_neg le_30]
    exact ⟨trivial, trivial⟩
  by_cases hE : vEdit S A.2.2 p i = true
  case neg =>
    rw [if_neg hE] at hed
    obtain ⟨y1, y2⟩ := hMi V hbm
    obtain ⟨e1, e2⟩ := M_edits_I (hbm.thr 0).y (hbm.thr 0).m.2.1 h.ok.rg hp hi
    rw [if_neg hE] at e1
    obtain ⟨s1, s2⟩ := stop (z_uS V 78 0 0)
    refine zOpQ_err (E := "java/lang/IllegalStateException") (V := V) (x := 0) (W := z_uS (z_uS V 78 0 0) 78 0 3) ?_ ?_ (Or.inr (Or.inr rfl)) (by decide) ?_ ?_ (by rw [uS_at]; rfl) (zEndN_err hcx zNA.rfl ((zFMX.thr _ _).trans (zFMX.thr _ _)) hna h.ok h.ns hC ((hbm.thr 0).m.thr _))
    · unfold F_T_link; simp only [hper, v1, if_neg ne_10, hs4, if_neg q1, if_neg q2, if_neg hij, hed, if_true]
    · unfold Sf_T_link; simp only [hper, v1, if_neg ne_10, hs4, if_neg q1, if_neg q2, if_neg hij, hed, if_true]; exact ⟨v2, ss4, sed, trivial⟩
    · show F_M_link fl na V (zI p) (zI t) (zI i) (zI j) (bI b) = _
      rw [y1]; unfold F_M_link_j44
      simp only [if_pos le_00, e1, if_true, s1]
    · show Sf_M_link fl na V (zI p) (zI t) (zI i) (zI j) (bI b)
      apply y2; unfold Sf_M_link_j44
      simp only [if_pos le_00, e1, if_true]; exact ⟨e2, s2⟩
  rw [if_pos hE] at hed
  by_cases hrc : (b = true ∧ t = 0) ∧ aRe A.2.2 j i = true
  · obtain ⟨⟨rfl, rfl⟩, hr⟩ := hrc
    obtain ⟨y1, y2⟩ := hMi V hbm
    obtain ⟨e1, e2⟩ := M_edits_I (hbm.thr 0).y (hbm.thr 0).m.2.1 h.ok.rg hp hi
    rw [if_pos hE] at e1
    obtain ⟨X, l1, l2, l3⟩ := M_leads_I (na := na) hna (hbm.thr 0).m.2.1 hj hi
    obtain ⟨s1, s2⟩ := stop X
    have hX := (hbm.thr 0).na hna hnf l3
    have eT : bI true = 1 := rfl
    refine zOpQ_err (E := "java/lang/IllegalStateException") (V := V) (x := 0) (W := z_uS X 78 0 3) ?_ ?_ (Or.inr (Or.inr rfl)) (by decide) ?_ ?_ (by rw [uS_at]; rfl) ?_
    · unfold F_T_link; simp only [hper, v1, if_neg ne_10, hs4, if_neg q1, if_neg q2, if_neg hij, hed, eT, show zI 0 = 0 from rfl, if_neg lt_00, if_neg le_30, if_true, re1, hr]
    · unfold Sf_T_link; simp only [hper, v1, if_neg ne_10, hs4, if_neg q1, if_neg q2, if_neg hij, hed, eT, show zI 0 = 0 from rfl, if_neg lt_00, if_neg le_30, if_true, re1, hr]; exact ⟨v2, ss4, sed, re2, trivial⟩
    · show F_M_link fl na V (zI p) (zI 0) (zI i) (zI j) (bI true) = _
      rw [y1]; unfold F_M_link_j44
      simp only [if_pos le_00, e1, if_neg ne_10, eT, show zI 0 = 0 from rfl, if_true, l1, hr]
      exact s1
    · show Sf_M_link fl na V (zI p) (zI 0) (zI i) (zI j) (bI true)
      apply y2; unfold Sf_M_link_j44
      simp only [if_pos le_00, e1, if_neg ne_10, eT, show zI 0 = 0 from rfl, if_true, l1, hr]; exact ⟨e2, l2, s2⟩
    · exact ⟨zBut na V (z_uS X 78 0 3), zEnd_of (Or.inl hcx) ⟨fun k hk => by
        unfold zBut
        by_cases e : k = na
        · rw [if_pos e, e]
        · rw [if_neg e, z_uS_ne _ _ _ (by omega), l3 k e, z_uS_ne _ _ _ (by omega)], fun j j0 j2 => by
        unfold zBut
        rw [if_neg (by omega), uS_nj _ _ _ j0, l3 78 (by omega), uS_nj _ _ _ j0]⟩ h.ok h.ns hC (zBut.rm (hX.m.thr _) hna), zBut.na⟩
  obtain ⟨D, d1, d2, d3, d4⟩ := T_link_T (b := b) hCX hC h.ok hn hp ht hi hj hne hwi hwj
  have hb2 := aLk_n (d := d) (p := p) (t := t) (i := i) (j := j) (b := b) (A := A)
  have hO := aLk_ok (b := b) h.ok ht hi hj hne hwi hwj hp
  obtain ⟨r1, r2⟩ := aLim_ok (m := A.2.1) hO hb2.1 hn
  have hfcx : zFCX S D := hcx.trans d3
  have hT : F_T_link S (zI p) (zI t) (zI i) (zI j) (bI b) = F_T_link_j89 V (zI p) (zI t) (zI i) (zI j) (bI b) ∧ Sf_T_link S (zI p) (zI t) (zI i) (zI j) (bI b) := by
    unfold F_T_link Sf_T_link
    simp only [hper, v1, if_neg ne_10, hs4, if_neg q1, if_neg q2, if_neg hij, hed, re1]
    cases b
    · simp only [if_pos (show bI false = 0 from rfl)]; exact ⟨trivial, v2, ss4, sed, d2⟩
    · simp only [if_neg (show ¬ bI true = 0 by decide)]
      by_cases t0 : t = 0
      · have hr : aRe A.2.2 j i = false := by
          cases q : aRe A.2.2 j i
          · rfl
          · exact absurd ⟨⟨rfl, t0⟩, q⟩ hrc
        simp only [if_pos (et0.mpr t0), hr, if_pos (show bI false = 0 from rfl)]; exact ⟨trivial, v2, ss4, sed, re2, d2⟩
      · simp only [if_neg (fun z => t0 (et0.mp z))]; exact ⟨trivial, v2, ss4, sed, d2⟩
  have hM : ∀ U, zBM fl S U d A rn → ∃ X W, F_M_link fl na U (zI p) (zI t) (zI i) (zI j) (bI b) = (if (aLk d p t i j b A).2.1 ≤ 800 then bI (A.2.2.2.2.1 t i j) else 0, W) ∧ Sf_M_link fl na U (zI p) (zI t) (zI i) (zI j) (bI b) ∧ zNA na U X ∧ zFMX X W ∧ (W 78 0 = if (aLk d p t i j b A).2.1 ≤ 800 then 0 else 3) ∧ zRM 86 W (aLim A.2.1 (aLk d p t i j b A)) := by
    intro U hu
    obtain ⟨y1, y2⟩ := hMi U hu
    have h0 := hu.thr 0
    obtain ⟨e1, e2⟩ := M_edits_I h0.y h0.m.2.1 h.ok.rg hp hi
    rw [if_pos hE] at e1
    by_cases hbt : b = true ∧ t = 0
    · obtain ⟨rfl, rfl⟩ := hbt
      have hr : aRe A.2.2 j i = false := by
        cases q : aRe A.2.2 j i
        · rfl
        · exact absurd ⟨⟨rfl, rfl⟩, q⟩ hrc
      obtain ⟨X, l1, l2, l3⟩ := M_leads_I (na := na) hna h0.m.2.1 hj hi
      obtain ⟨W, w1, w2, w3, w4, w5⟩ := M_link_T (h0.na hna hnf l3) hp ht hi hj hne hwi hwj true
      have eT : bI true = 1 := rfl
      have w1' : F_M_link_j88 fl X (zI p) 0 (zI i) (zI j) 1 = _ := w1
      refine ⟨(fun k => if k = 78 then U 78 else X k), W, ?_, y2 ?_, ?_, ?_, w4, w5⟩
      · rw [y1]; unfold F_M_link_j44
        simp only [if_pos le_00, e1, if_neg ne_10, eT, show zI 0 = 0 from rfl, if_true, l1, hr, if_pos (show bI false = 0 from rfl), w1']
      · unfold Sf_M_link_j44
        simp only [if_pos le_00, e1, if_neg ne_10, eT, show zI 0 = 0 from rfl, if_true, l1, hr, if_pos (show bI false = 0 from rfl)]; exact ⟨e2, l2, w2⟩
      · intro k hk
        show (if k = 78 then U 78 else X k) = U k
        by_cases e : k = 78
        · rw [if_pos e, e]
        · rw [if_neg e, l3 k hk, z_uS_ne _ _ _ e]
      · refine ⟨fun k hk => ?_, fun q q0 q2 => ?_⟩
        · show W k = (if k = 78 then U 78 else X k)
          rw [w3.1 k hk, if_neg (by omega)]
        · show W 78 q = (if 78 = 78 then U 78 else X 78) q
          rw [w3.2 q q0 q2, if_pos (Eq.refl _), l3 78 (by omega), uS_nj _ _ _ q0]
    · obtain ⟨W, w1, w2, w3, w4, w5⟩ := M_link_T h0 hp ht hi hj hne hwi hwj b
      refine ⟨U, W, ?_, y2 ?_, zNA.rfl, (zFMX.thr U 0).trans w3, w4, w5⟩
      · rw [y1]; unfold F_M_link_j44
        simp only [if_pos le_00, e1, if_neg ne_10]
        cases b
        · simp only [if_pos (show bI false = 0 from rfl)]; exact w1
        · simp only [if_neg (show ¬ bI true = 0 by decide), if_neg (fun z => hbt ⟨rfl, et0.mp z⟩)]; exact w1
      · unfold Sf_M_link_j44
        simp only [if_pos le_00, e1, if_neg ne_10]
        cases b
        · simp only [if_pos (show bI false = 0 from rfl)]; exact ⟨e2, w2⟩
        · simp only [if_neg (show ¬ bI true = 0 by decide), if_neg (fun z => hbt ⟨rfl, et0.mp z⟩)]; exact ⟨e2, w2⟩
  by_cases r8 : (aLk d p t i j b A).2.1 ≤ 800
  · obtain ⟨X, W, m1, m2, m3, m4, m5, m6⟩ := hM (z_uS D 193 0 (bI (A.2.2.2.2.1 t i j))) (h.bm (hfcx.out _))
    rw [if_pos r8] at d1 m1 m5
    have eo : (if bI (A.2.2.2.2.1 t i j) = 0 then (0 : Int32) else 1) = bI (A.2.2.2.2.1 t i j) := by cases A.2.2.2.2.1 t i j <;> rfl
    refine zOpQ_ok (V := D) (v := bI (A.2.2.2.2.1 t i j)) (W := W) (hT.1.trans d1) hT.2 ?_ ?_ m5 ?_ (zEndN_ok hfcx m3 m4 hna r1 ⟨r2, h.clim zNb.rfl.aLk⟩ d4 m6)
    · rw [eo]; exact m1
    · rw [eo]; exact m2
    · rw [eo, m4.1 193 (by omega), m3 193 (by omega), uS_at]
  · obtain ⟨X, W, m1, m2, m3, m4, m5, m6⟩ := hM D (h.bm hfcx.x)
    rw [if_neg r8] at d1 m1 m5
    exact zOpQ_err (E := "java/lang/IllegalStateException") (hT.1.trans d1) hT.2 (Or.inr (Or.inr rfl)) (by decide) m1 m2 m5 (zEndN_err hfcx m3 m4 hna r1 ⟨r2, h.clim zNb.rfl.aLk⟩ d4 m6)
