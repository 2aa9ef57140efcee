/-! PURE: queries: what each part means; the class's parts -/
def kTh (w : zWd) (k : Nat) : Bool := decide (k < 30) && w.1 k
def exN (f : Nat → Bool) : Nat → Nat → Bool
  | 0, _ => false
  | n + 1, j => f j || exN f n (j + 1)
theorem exN_iff {f : Nat → Bool} : ∀ n j, exN f n j = true ↔ ∃ i, j ≤ i ∧ i < j + n ∧ f i = true := by
  intro n
  induction n with
  | zero => intro j; exact ⟨(fun h => by cases h), fun ⟨i, a, b, _⟩ => by omega⟩
  | succ n ih =>
    intro j
    unfold exN
    rw [Bool.or_eq_true, ih]
    constructor
    · rintro (h | ⟨i, a, b, c⟩)
      · exact ⟨j, by omega, by omega, h⟩
      · exact ⟨i, by omega, by omega, c⟩
    · rintro ⟨i, a, b, c⟩
      by_cases e : i = j
      · subst e; exact Or.inl c
      · exact Or.inr ⟨i, by omega, by omega, c⟩
theorem bool_iff {a b : Bool} (h : a = true ↔ b = true) : a = b := by
  cases a <;> cases b <;> simp_all
def kCmp (v b g : Int32) : Bool := if b = 62 then (!decide (v = -1) && decide (g < v)) else if b = 60 then (!decide (v = -1) && decide (v < g)) else if b = 61 then (!decide (v = -1) && decide (v = g)) else decide (v = -1)
def kWas (L : zLg) (Q : zVq) (k : Nat) (a : Int32) : Bool := decide (0 ≤ a.toInt ∧ a.toInt < 31) && qWas L Q k a.toNatClampNeg
def kCam (L : zLg) (Q : zVq) (k : Nat) (a b : Int32) : Bool := decide (0 ≤ a.toInt ∧ a.toInt < 6) && (decide (0 ≤ b.toInt ∧ b.toInt < 31) && qCam L Q k a.toNatClampNeg b.toNatClampNeg)
def kLe (E : Nat → Nat → Int32) (p : Nat) (L : zLg) (Q : zVq) (D c a b g : Int32) (k : Nat) : Bool :=
  if c = 66 then decide (qBy L Q k = a) else if c = 68 then decide (D - (10 * a + b) ≤ qDay L Q k) else if c = 87 then kWas L Q k a else if c = 88 then kCam L Q k a b
  else if c = 97 then decide (wC Q.1 k 4 = a) else if c = 102 then kCmp (vVal E Q.1 p k a.toNatClampNeg) b g else if c = 107 then decide (wC Q.1 k 9 = a) else if c = 112 then decide (wC Q.1 k 8 = a) else if c = 115 then decide (wC Q.1 k 0 = a) else if c = 118 then decide (wC Q.1 k 7 = a) else if c = 120 then decide (wC Q.1 k 4 = -1) else false
def kNx (w : zWd) (c ty : Int32) (k j : Nat) : Bool := if c = 67 then decide (wC w j 5 = zI k) else if c = 85 then decide (wC w k 5 = zI j) else if c = 76 then w.2.2.1 ty.toNatClampNeg k j else w.2.2.1 ty.toNatClampNeg j k
def kRl (E : Nat → Nat → Int32) (p : Nat) (w : zWd) (c ty : Int32) (m : Nat → Bool) (k : Nat) : Bool := kTh w k && (if c = 33 then !m k else exN (fun j => (m j && vSee E w p j) && kNx w c ty k j) 30 0)
def kCb (c : Int32) (m m2 : Nat → Bool) (k : Nat) : Bool := if c = 38 then (m k && m2 k) else (m k || m2 k)
/-- the meaning, in a world as it was read -/
def kK (E : Nat → Nat → Int32) (p : Nat) (L : zLg) (Q : zVq) (D : Int32) : zKm := (fun c a b g k => kTh Q.1 k && kLe E p L Q D c a b g k, kRl E p Q.1, kCb)
/-- a set of items -/
def bS (x : Int32) (m : Nat → Bool) : Prop := ∀ q, q < 32 → zB x q = m q
def mk (w : zWd) (m : Nat → Bool) : Prop := ∀ q, m q = true → kTh w q = true
theorem mk.hi {w : zWd} {m : Nat → Bool} (h : mk w m) {q : Nat} (hq : 30 ≤ q) : m q = false := by
  cases e : m q
  · rfl
  · have := h q e
    unfold kTh at this
    rw [decide_eq_false (by omega)] at this; cases this
theorem th_bit {V : Nat → Nat → Int32} {w : zWd} (h : zWC 28 V w) {q : Nat} : zB (V 28 3) q = kTh w q := by
  unfold kTh
  by_cases e : q < 30
  · rw [decide_eq_true e, h.has q e]; rfl
  · rw [decide_eq_false e, h.hi q (by omega)]; rfl
/-- all that the class looks at -/
def zFd (E V : Nat → Nat → Int32) (p : Nat) (L : zLg) (Q : zVq) (D : Int32) : Prop := vC V L Q ∧ zSt E Q.1 p 30 V ∧ eV E V ∧ eK E ∧ zRg Q.1 ∧ V 27 5 = D
theorem sees_bit {E V : Nat → Nat → Int32} {p : Nat} {L : zLg} {Q : zVq} {D : Int32} (h : zFd E V p L Q D) {q : Nat} : zB (V 36 8) q = (decide (q < 30) && vSee E Q.1 p q) := by
  by_cases e : q < 30
  · rw [decide_eq_true e, h.2.1.seen e]; rfl
  · rw [decide_eq_false e, (h.2.1.hi (by omega)).1]; rfl
theorem par_out {w : zWd} (hg : zRg w) {i : Nat} (hi : i < 30) : wC w i 5 = -1 ∨ ∃ k, k < 30 ∧ wC w i 5 = zI k := by
  cases q : w.1 i
  · left; unfold wC; rw [q]; rfl
  · exact hg.parent hi q
/-- what one item adds -/
def ctr (w : zWd) (o : Nat → Bool) (c ty : Int32) (i q : Nat) : Bool := if c = 67 then (o i && decide (wC w i 5 = zI q)) else if c = 85 then (decide (q = i) && exN (fun j => o j && decide (wC w i 5 = zI j)) 30 0) else if c = 76 then (decide (q = i) && exN (fun j => o j && w.2.2.1 ty.toNatClampNeg i j) 30 0) else (o i && w.2.2.1 ty.toNatClampNeg i q)
theorem rel_L {V : Nat → Nat → Int32} {w : zWd} {c ty x4 : Int32} {o : Nat → Bool} (hC : zWC 28 V w) (hg : zRg w) (hc : c = 67 ∨ c = 85 ∨ c = 76 ∨ c = 73) (hty : c = 76 ∨ c = 73 → ∃ t, t < 3 ∧ ty = zI t) (hx : ∀ q, zB x4 q = o q) (ho : ∀ q, 30 ≤ q → o q = false) : ∀ (n i f : Nat) (x : Int32), i + n = 30 → n < f → (∀ q, q < 30 → zB (F_Finder_related_L38 V c ty x4 f x (zI i)) q = (zB x q || exN (fun j => ctr w o c ty j q) n i)) ∧ Sf_Finder_related_L38 V c ty x4 f x (zI i) := by
  intro n
  induction n with
  | zero =>
    intro i f x hi hf
    obtain ⟨f, rfl⟩ : ∃ g, f = g + 1 := ⟨f - 1, by omega⟩
    have hl : (30 : Int32) ≤ zI i := by rw [show (30 : Int32) = zI 30 from rfl, zI_le (by omega) (by omega)]; omega
    unfold F_Finder_related_L38 Sf_Finder_related_L38
    rw [if_pos hl, if_pos hl]
    exact ⟨fun q hq => by simp [exN], trivial⟩
  | succ n ih =>
    intro i f x hi hf
    obtain ⟨f, rfl⟩ : ∃ g, f = g + 1 := ⟨f - 1, by omega⟩
    have hi30 : i < 30 := by omega
    have hl : ¬ (30 : Int32) ≤ zI i := by rw [show (30 : Int32) = zI 30 from rfl, zI_le (by omega) (by omega)]; omega
    -- one step, then the rest
    have go : ∀ y : Int32, (∀ q, q < 30 → zB y q = (zB x q || ctr w o c ty i q)) → (∀ q, q < 30 → zB (F_Finder_related_L38 V c ty x4 f y (zI i + 1)) q = (zB x q || exN (fun j => ctr w o c ty j q) (n + 1) i)) ∧ Sf_Finder_related_L38 V c ty x4 f y (zI i + 1) := by
      intro y hy
      obtain ⟨g1, g2⟩ := ih (i + 1) f y (by omega) (by omega)
      rw [zI_succ]
      refine ⟨fun q hq => ?_, g2⟩
      rw [g1 q hq, hy q hq]
      show _ = (zB x q || (ctr w o c ty i q || exN (fun j => ctr w o c ty j q) n (i + 1)))
      rw [Bool.or_assoc]
    obtain ⟨p1, p2⟩ := hC.cell hi30 (show 5 < 10 by omega)
    change F_World_cell 28 V (zI i) 5 = _ at p1
    have hin : F_T_isIn V x4 (zI i) = if o i = true then 1 else 0 := by rw [T_isIn_I V (by omega), hx]
    unfold F_Finder_related_L38 Sf_Finder_related_L38
    rw [if_neg hl, if_neg hl]
    unfold F_Finder_related_l38_85 Sf_Finder_related_l38_85 F_Finder_related_l38_125 Sf_Finder_related_l38_125 F_Finder_related_l38_163 Sf_Finder_related_l38_163
    rcases hc with e | e | e | e
    · subst e
      have n1 : ¬ (67 : Int32) = 85 := by decide
      have n2 : ¬ (67 : Int32) = 76 := by decide
      have n3 : ¬ (67 : Int32) = 73 := by decide
      simp only [if_true, if_neg n1, if_neg n2, if_neg n3, hin]
      have hct : ∀ q, ctr w o 67 ty i q = (o i && decide (wC w i 5 = zI q)) := fun q => by unfold ctr; rw [if_pos rfl]
      cases q : o i
      · simp only [Bool.false_eq_true, if_false, if_true]
        exact go x fun r hr => by rw [hct, q]; simp
      · simp only [if_true, if_neg ne_10, p1]
        obtain ⟨g1, g2⟩ := go (x ||| F_T_bit V (wC w i 5)) fun r hr => by
          rw [hct, q, zB_or]
          congr 1
          rcases par_out hg hi30 with e | ⟨k, hk, e⟩
          · rw [e, T_bit_out V (Or.inl (by decide)), zB_0, decide_eq_false (fun z => m1_ne r (by omega) z.symm)]; rfl
          · rw [e, T_bit_B V (by omega) (show r < 32 by omega)]
            by_cases e2 : r = k
            · rw [decide_eq_true e2, decide_eq_true (by rw [e2])]; rfl
            · rw [decide_eq_false e2, decide_eq_false (fun z => e2 ((zI_inj (by omega) (by omega)).mp z).symm)]; rfl
        exact ⟨g1, p2, g2⟩
    · subst e
      have n0 : ¬ (85 : Int32) = 67 := by decide
      have n2 : ¬ (85 : Int32) = 76 := by decide
      have n3 : ¬ (85 : Int32) = 73 := by decide
      simp only [if_true, if_neg n0, if_neg n2, if_neg n3, p1]
      have hct : ∀ q, ctr w o 85 ty i q = (decide (q = i) && exN (fun j => o j && decide (wC w i 5 = zI j)) 30 0) := fun q => by unfold ctr; rw [if_neg n0, if_pos rfl]
      have hpar : F_T_isIn V x4 (wC w i 5) = if exN (fun j => o j && decide (wC w i 5 = zI j)) 30 0 = true then 1 else 0 := by
        rcases par_out hg hi30 with e | ⟨k, hk, e⟩
        · rw [e, T_isIn_out V (Or.inl (by decide)), if_neg]
          rw [exN_iff]
          rintro ⟨j, -, hj, z⟩
          rw [decide_eq_false (fun z => m1_ne j (by omega) z.symm)] at z
          simp at z
        · rw [e, T_isIn_I V (by omega), hx]
          congr 1
          apply propext
          rw [exN_iff]
          constructor
          · intro z; exact ⟨k, by omega, by omega, by rw [z, decide_eq_true rfl]; rfl⟩
          · rintro ⟨j, -, hj, z⟩
            rw [Bool.and_eq_true, decide_eq_true_eq, zI_inj (by omega) (by omega)] at z
            rw [z.2]; exact z.1
      rw [hpar]
      cases q : exN (fun j => o j && decide (wC w i 5 = zI j)) 30 0
      · simp only [Bool.false_eq_true, if_false, if_true]
        obtain ⟨g1, g2⟩ := go x fun r hr => by rw [hct, q]; simp
        exact ⟨g1, p2, g2⟩
      · simp only [if_true, if_neg ne_10]
        obtain ⟨g1, g2⟩ := go (x ||| F_T_bit V (zI i)) fun r hr => by
          rw [hct, q, zB_or, T_bit_B V (by omega) (show r < 32 by omega)]; simp
        exact ⟨g1, p2, g2⟩
    · subst e
      have n0 : ¬ (76 : Int32) = 67 := by decide
      have n1 : ¬ (76 : Int32) = 85 := by decide
      have n3 : ¬ (76 : Int32) = 73 := by decide
      obtain ⟨t, ht, rfl⟩ := hty (Or.inl rfl)
      obtain ⟨l1, l2⟩ := World_linksOf_I (r := 28) (S := V) ht hi30
      simp only [if_true, if_neg n0, if_neg n1, if_neg n3, l1]
      have hct : ∀ q, ctr w o 76 (zI t) i q = (decide (q = i) && exN (fun j => o j && w.2.2.1 t i j) 30 0) := fun q => by unfold ctr; rw [if_neg n0, if_neg n1, if_pos rfl, zI_clamp (by omega)]
      have hb : ∀ j, zB (x4 &&& V (28 + 2) (30 * t + i)) j = (o j && (decide (j < 30) && w.2.2.1 t i j)) := fun j => by
        rw [zB_and, hx]
        by_cases e : j < 30
        · rw [hC.link t ht i hi30 j e, decide_eq_true e]; rfl
        · rw [hC.lhi t ht i hi30 j (by omega), decide_eq_false e]; rfl
      have hz : (x4 &&& V (28 + 2) (30 * t + i) = 0) ↔ exN (fun j => o j && w.2.2.1 t i j) 30 0 = false := by
        constructor
        · intro z
          cases q : exN (fun j => o j && w.2.2.1 t i j) 30 0
          · rfl
          · obtain ⟨j, -, hj, e⟩ := (exN_iff 30 0).mp q
            have := hb j
            rw [z, zB_0, decide_eq_true (show j < 30 by omega), Bool.true_and, e] at this; cases this
        · intro z
          apply zB_ext
          intro j hj
          rw [hb, zB_0]
          by_cases e : j < 30
          · rw [decide_eq_true e, Bool.true_and]
            cases q : (o j && w.2.2.1 t i j)
            · rfl
            · have := (exN_iff (f := fun j => o j && w.2.2.1 t i j) 30 0).mpr ⟨j, by omega, by omega, q⟩
              rw [z] at this; cases this
          · rw [decide_eq_false e]; simp
      cases q : exN (fun j => o j && w.2.2.1 t i j) 30 0
      · rw [if_pos (hz.mpr q), if_pos (hz.mpr q)]
        obtain ⟨g1, g2⟩ := go x fun r hr => by rw [hct, q]; simp
        exact ⟨g1, l2, g2⟩
      · have nz : ¬ (x4 &&& V (28 + 2) (30 * t + i) = 0) := fun z => by rw [hz.mp z] at q; cases q
        rw [if_neg nz, if_neg nz]
        obtain ⟨g1, g2⟩ := go (x ||| F_T_bit V (zI i)) fun r hr => by
          rw [hct, q, zB_or, T_bit_B V (by omega) (show r < 32 by omega)]; simp
        exact ⟨g1, l2, g2⟩
    · subst e
      have n0 : ¬ (73 : Int32) = 67 := by decide
      have n1 : ¬ (73 : Int32) = 85 := by decide
      have n2 : ¬ (73 : Int32) = 76 := by decide
      obtain ⟨t, ht, rfl⟩ := hty (Or.inr rfl)
      obtain ⟨l1, l2⟩ := World_linksOf_I (r := 28) (S := V) ht hi30
      simp only [if_true, if_neg n0, if_neg n1, if_neg n2, l1, hin]
      have hct : ∀ q, ctr w o 73 (zI t) i q = (o i && w.2.2.1 t i q) := fun q => by unfold ctr; rw [if_neg n0, if_neg n1, if_neg n2, zI_clamp (by omega)]
      cases q : o i
      · simp only [Bool.false_eq_true, if_false, if_true]
        exact go x fun r hr => by rw [hct, q]; simp
      · simp only [if_true, if_neg ne_10]
        obtain ⟨g1, g2⟩ := go (x ||| V (28 + 2) (30 * t + i)) fun r hr => by
          rw [hct, q, zB_or, hC.link t ht i hi30 r hr]; rfl
        exact ⟨g1, l2, g2⟩
theorem related_I {E V : Nat → Nat → Int32} {p : Nat} {L : zLg} {Q : zVq} {D c ty x : Int32} {m : Nat → Bool} (h : zFd E V p L Q D) (hc : isUn c) (hty : c = 76 ∨ c = 73 → ∃ t, t < 3 ∧ ty = zI t) (hx : bS x m) (hm : mk Q.1 m) : bS (F_Finder_related V c ty x) (kRl E p Q.1 c ty m) ∧ Sf_Finder_related V c ty x := by
  unfold F_Finder_related Sf_Finder_related
  by_cases e : c = 33
  · rw [if_pos e, if_pos e]
    refine ⟨fun q hq => ?_, trivial⟩
    rw [zB_and, zB_not hq, hx q hq, th_bit h.1.1]
    unfold kRl
    rw [if_pos e, Bool.and_comm]
  · rw [if_neg e, if_neg e]
    have hc' : c = 67 ∨ c = 85 ∨ c = 76 ∨ c = 73 := by
      rcases hc with z | z
      · exact absurd z e
      · exact z
    have hx4 : ∀ q, zB (x &&& V 36 8) q = (m q && (decide (q < 30) && vSee E Q.1 p q)) := fun q => by
      rw [zB_and, sees_bit h]
      by_cases hq : q < 32
      · rw [hx q hq]
      · rw [decide_eq_false (show ¬ q < 30 by omega)]; simp
    obtain ⟨g1, g2⟩ := rel_L (V := V) (x4 := x &&& V 36 8) (o := fun q => m q && (decide (q < 30) && vSee E Q.1 p q)) h.1.1 h.2.2.2.2.1 hc' hty hx4 (fun q hq => by show (m q && _) = false; rw [hm.hi hq]; rfl) 30 0 1300 0 (by omega) (by omega)
    rw [zI_0] at g1 g2
    refine ⟨fun q hq => ?_, g2, trivial⟩
    show zB (F_Finder_related_L38 V c ty (x &&& V 36 8) 1300 0 0 &&& V 28 3) q = _
    rw [zB_and, th_bit h.1.1, Bool.and_comm]
    unfold kRl
    rw [if_neg e]
    by_cases hq30 : q < 30
    · rw [g1 q hq30, zB_0, Bool.false_or]
      congr 1
      apply bool_iff
      have hs : ∀ j, vSee E Q.1 p j = true → True := fun _ _ => trivial
      rw [exN_iff, exN_iff]
      rcases hc' with e1 | e1 | e1 | e1
      · subst e1
        constructor
        · rintro ⟨j, a, b, z⟩
          refine ⟨j, a, b, ?_⟩
          unfold ctr at z
          unfold kNx
          rw [if_pos rfl] at z
          dsimp only at z
          rw [decide_eq_true (show j < 30 by omega), Bool.true_and] at z
          rw [if_pos rfl]; exact z
        · rintro ⟨j, a, b, z⟩
          refine ⟨j, a, b, ?_⟩
          unfold kNx at z
          unfold ctr
          rw [if_pos rfl] at z
          rw [if_pos rfl]
          dsimp only
          rw [decide_eq_true (show j < 30 by omega), Bool.true_and]; exact z
      · subst e1
        have n0 : ¬ (85 : Int32) = 67 := by decide
        unfold ctr kNx
        simp only [if_neg n0, if_true]
        constructor
        · rintro ⟨j, a, b, z⟩
          rw [Bool.and_eq_true, decide_eq_true_eq] at z
          obtain ⟨rfl, z2⟩ := z
          obtain ⟨i, c1, c2, c3⟩ := (exN_iff 30 0).mp z2
          refine ⟨i, c1, c2, ?_⟩
          rw [decide_eq_true (show i < 30 by omega), Bool.true_and] at c3; exact c3
        · rintro ⟨i, c1, c2, c3⟩
          refine ⟨q, by omega, by omega, ?_⟩
          rw [decide_eq_true rfl, Bool.true_and, exN_iff]
          exact ⟨i, c1, c2, by rw [decide_eq_true (show i < 30 by omega), Bool.true_and]; exact c3⟩
      · subst e1
        have n0 : ¬ (76 : Int32) = 67 := by decide
        have n1 : ¬ (76 : Int32) = 85 := by decide
        unfold ctr kNx
        simp only [if_neg n0, if_neg n1, if_true]
        constructor
        · rintro ⟨j, a, b, z⟩
          rw [Bool.and_eq_true, decide_eq_true_eq] at z
          obtain ⟨rfl, z2⟩ := z
          obtain ⟨i, c1, c2, c3⟩ := (exN_iff 30 0).mp z2
          refine ⟨i, c1, c2, ?_⟩
          rw [decide_eq_true (show i < 30 by omega), Bool.true_and] at c3; exact c3
        · rintro ⟨i, c1, c2, c3⟩
          refine ⟨q, by omega, by omega, ?_⟩
          rw [decide_eq_true rfl, Bool.true_and, exN_iff]
          exact ⟨i, c1, c2, by rw [decide_eq_true (show i < 30 by omega), Bool.true_and]; exact c3⟩
      · subst e1
        have n0 : ¬ (73 : Int32) = 67 := by decide
        have n1 : ¬ (73 : Int32) = 85 := by decide
        have n2 : ¬ (73 : Int32) = 76 := by decide
        unfold ctr kNx
        simp only [if_neg n0, if_neg n1, if_neg n2]
        constructor
        · rintro ⟨j, a, b, z⟩
          exact ⟨j, a, b, by rw [decide_eq_true (show j < 30 by omega), Bool.true_and] at z; exact z⟩
        · rintro ⟨j, a, b, z⟩
          exact ⟨j, a, b, by rw [decide_eq_true (show j < 30 by omega), Bool.true_and]; exact z⟩
    · unfold kTh
      rw [decide_eq_false hq30]; rfl
