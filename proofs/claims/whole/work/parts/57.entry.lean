/-! PURE: entries -/
/-- what kind it is (0 roles, 1 born, 2 a column, 3 a link); three numbers; before; after -/
abbrev zEnt := Nat × Nat × Nat × Nat × Int32 × Int32
def eI (e : zEnt) : Int32 := if e.1 = 0 then -1 else zI e.2.1
def eW (e : zEnt) : Int32 := if e.1 = 0 then 14 else if e.1 = 1 then 13 else if e.1 = 2 then zI e.2.2.1 else zI (10 + e.2.2.1)
def eO (e : zEnt) : Int32 := if e.1 = 0 then zI (3 * e.2.1 + e.2.2.1) else if e.1 = 1 then zI e.2.2.1 else if e.1 = 2 then 0 else zI e.2.2.2.1
def eB (e : zEnt) : Int32 := if e.1 = 1 then -1 else e.2.2.2.2.1
def eA (e : zEnt) : Int32 := if e.1 = 1 then zI e.2.2.2.1 else e.2.2.2.2.2
def zLC (S : Nat → Nat → Int32) (i : Nat) (e : zEnt) : Prop := S 4 i = eI e ∧ S 5 i = eW e ∧ S 6 i = eO e ∧ S 7 i = eB e ∧ S 8 i = eA e
def mK (e : zEnt) : Int32 := if e.1 = 0 then 0 else if e.1 = 1 then 1 else if e.1 = 2 then (if e.2.2.1 = 0 then 2 else if e.2.2.1 < 4 then 3 else zI e.2.2.1) else 9
def mI (e : zEnt) : Int32 := zI e.2.1
def mW (e : zEnt) : Int32 := if e.1 = 0 then zI e.2.2.1 else if e.1 = 1 then zI e.2.2.2.1 else if e.1 = 2 then (if e.2.2.1 = 0 then 0 else if e.2.2.1 < 4 then zI (e.2.2.1 - 1) else 0) else zI e.2.2.1
def mO (e : zEnt) : Int32 := if e.1 = 1 then -1 else if e.1 = 3 then zI e.2.2.2.1 else e.2.2.2.2.1
def mN (e : zEnt) : Int32 := if e.1 = 1 then zI e.2.2.1 else e.2.2.2.2.2
def zLM (U : Nat → Nat → Int32) (i : Nat) (e : zEnt) : Prop := U 79 i = mK e ∧ U 82 i = mI e ∧ U 83 i = mW e ∧ U 84 i = mO e ∧ U 85 i = mN e
def zEok (e : zEnt) : Prop := (e.1 = 0 ∧ e.2.1 < 8 ∧ e.2.2.1 < 3) ∨ (e.1 = 1 ∧ e.2.1 < 30 ∧ e.2.2.1 < 3 ∧ e.2.2.2.1 < 3) ∨ (e.1 = 2 ∧ e.2.1 < 30 ∧ e.2.2.1 < 9) ∨ (e.1 = 3 ∧ e.2.1 < 30 ∧ e.2.2.1 < 3 ∧ e.2.2.2.1 < 30 ∧ e.2.1 ≠ e.2.2.2.1 ∧ (∃ b : Bool, e.2.2.2.2.1 = if b = true then 1 else 0) ∧ ∃ b : Bool, e.2.2.2.2.2 = if b = true then 1 else 0)
def zApp (e : zEnt) (w : zWd) : zWd := if e.1 = 0 then zSetR w (3 * e.2.1 + e.2.2.1) e.2.2.2.2.2 else if e.1 = 1 then zBeg w e.2.1 (zI e.2.2.1) (zI e.2.2.2.1) else if e.1 = 2 then zSetC w e.2.1 e.2.2.1 e.2.2.2.2.2 else zSetL w e.2.2.1 e.2.1 e.2.2.2.1 (e.2.2.2.2.2 == 1)
def zUnd (e : zEnt) (w : zWd) : zWd := if e.1 = 0 then zSetR w (3 * e.2.1 + e.2.2.1) e.2.2.2.2.1 else if e.1 = 1 then zUnB w e.2.1 else if e.1 = 2 then zSetC w e.2.1 e.2.2.1 e.2.2.2.2.1 else zSetL w e.2.2.1 e.2.1 e.2.2.2.1 (e.2.2.2.2.1 == 1)
/-- what it says was before, was before -/
def zOld (e : zEnt) (w : zWd) : Prop := (e.1 = 0 → e.2.2.2.2.1 = w.2.2.2 (3 * e.2.1 + e.2.2.1)) ∧ (e.1 = 1 → w.1 e.2.1 = false) ∧ (e.1 = 2 → w.1 e.2.1 = true ∧ e.2.2.2.2.1 = w.2.1 e.2.1 e.2.2.1) ∧ (e.1 = 3 → (e.2.2.2.2.1 == 1) = w.2.2.1 e.2.2.1 e.2.1 e.2.2.2.1 ∧ (e.2.2.1 = 1 → w.2.2.1 1 e.2.2.2.1 e.2.1 = w.2.2.1 1 e.2.1 e.2.2.2.1))
theorem zUnd_app {e : zEnt} {w : zWd} (h4 : e.1 < 4) (h1 : e.1 ≠ 1) (ho : zOld e w) : zUnd e (zApp e w) = w := by
  obtain ⟨t, a, b, c, o, n⟩ := e
  obtain ⟨w1, w2, w3, w4⟩ := w
  obtain ⟨o0, o1, o2, o3⟩ := ho
  dsimp only at h4 h1 o0 o1 o2 o3
  unfold zUnd zApp
  dsimp only
  by_cases t0 : t = 0
  · simp only [if_pos t0, zSetR]
    congr 1; congr 1; congr 1
    funext k
    split
    · rename_i e; rw [o0 t0, e]
    · rfl
  by_cases t2 : t = 2
  · simp only [if_neg t0, if_neg h1, if_pos t2, zSetC]
    congr 1; congr 1
    funext i j
    split
    · rename_i e; rw [(o2 t2).2, e.1, e.2]
    · rfl
  simp only [if_neg t0, if_neg h1, if_neg t2]
  have t3 : t = 3 := by omega
  · obtain ⟨p1, p2⟩ := o3 t3
    unfold zSetL
    by_cases b1 : b = 1
    · subst b1
      simp only [if_true, zCon]
      congr 1; congr 1; congr 1
      funext t' i j
      have p3 := p2 rfl
      by_cases q1 : t' = 1 ∧ i = c ∧ j = a
      · rw [if_pos q1, p1, q1.1, q1.2.1, q1.2.2, p3]
      · rw [if_neg q1]
        by_cases q2 : t' = 1 ∧ i = a ∧ j = c
        · rw [if_pos q2, p1, q2.1, q2.2.1, q2.2.2]
        · rw [if_neg q2, if_neg q1, if_neg q2]
    · simp only [if_neg b1, zCon]
      congr 1; congr 1; congr 1
      funext t' i j
      by_cases q2 : t' = b ∧ i = a ∧ j = c
      · rw [if_pos q2, p1, q2.1, q2.2.1, q2.2.2]
      · rw [if_neg q2, if_neg q2]
theorem zUnd_same {e : zEnt} {w : zWd} (h4 : e.1 < 4) (ho : zOld e w) : zSame w (zUnd e (zApp e w)) := by
  by_cases h1 : e.1 = 1
  · have o1 := ho.2.1 h1
    obtain ⟨t, a, b, c, o, n⟩ := e
    dsimp only at h1 o1
    subst h1
    unfold zUnd zApp
    simp only [if_neg (show ¬ (1 = 0) by decide), if_true]
    refine ⟨fun i hi => ?_, fun i hi hw c' hc => ?_, fun _ _ _ _ _ _ => rfl, fun _ _ => rfl⟩
    · show (if i = a then false else if i = a then true else w.1 i) = w.1 i
      by_cases e : i = a
      · rw [if_pos e, e, o1]
      · rw [if_neg e, if_neg e]
    · show (if i = a then zBegC (zI b) (zI c) c' else w.2.1 i c') = w.2.1 i c'
      rw [if_neg]
      intro e
      rw [e, o1] at hw
      cases hw
  · rw [zUnd_app h4 h1 ho]; exact zSame.refl w
theorem zEok.lt {e : zEnt} (h : zEok e) : e.1 < 4 := by
  rcases h with h | h | h | h <;> omega
/-! worlds that say the same go on doing so -/
theorem zApp_same {w w' : zWd} (h : zSame w w') (e : zEnt) : zSame (zApp e w) (zApp e w') := by
  obtain ⟨h1, h2, h3, h4⟩ := h
  have con : ∀ (w w' : zWd), (∀ t, t < 3 → ∀ i, i < 30 → ∀ j, j < 30 → w'.2.2.1 t i j = w.2.2.1 t i j) → ∀ t0 i0 j0 b, ∀ t, t < 3 → ∀ i, i < 30 → ∀ j, j < 30 → (zCon w' t0 i0 j0 b).2.2.1 t i j = (zCon w t0 i0 j0 b).2.2.1 t i j := by
    intro w w' hh t0 i0 j0 b t ht i hi j hj
    show (if t = t0 ∧ i = i0 ∧ j = j0 then b else w'.2.2.1 t i j) = (if t = t0 ∧ i = i0 ∧ j = j0 then b else w.2.2.1 t i j)
    rw [hh t ht i hi j hj]
  unfold zApp
  by_cases t0 : e.1 = 0
  · simp only [if_pos t0]
    refine ⟨h1, h2, h3, fun k hk => ?_⟩
    show (if k = _ then _ else w'.2.2.2 k) = (if k = _ then _ else w.2.2.2 k)
    rw [h4 k hk]
  by_cases t1 : e.1 = 1
  · simp only [if_neg t0, if_pos t1]
    refine ⟨fun i hi => ?_, fun i hi hw c hc => ?_, h3, h4⟩
    · show (if i = _ then true else w'.1 i) = (if i = _ then true else w.1 i)
      rw [h1 i hi]
    · have hw' : (if i = e.2.1 then true else w.1 i) = true := hw
      show (if i = _ then _ else w'.2.1 i c) = (if i = _ then _ else w.2.1 i c)
      by_cases q : i = e.2.1
      · rw [if_pos q, if_pos q]
      · rw [if_neg q] at hw'
        rw [if_neg q, if_neg q, h2 i hi hw' c hc]
  by_cases t2 : e.1 = 2
  · simp only [if_neg t0, if_neg t1, if_pos t2]
    refine ⟨h1, fun i hi hw c hc => ?_, h3, h4⟩
    show (if _ then _ else w'.2.1 i c) = (if _ then _ else w.2.1 i c)
    rw [h2 i hi hw c hc]
  · simp only [if_neg t0, if_neg t1, if_neg t2]
    unfold zSetL
    by_cases b1 : e.2.2.1 = 1
    · simp only [if_pos b1]
      exact ⟨h1, h2, con _ _ (con _ _ h3 _ _ _ _) _ _ _ _, h4⟩
    · simp only [if_neg b1]
      exact ⟨h1, h2, con _ _ h3 _ _ _ _, h4⟩
/-! the class does and undoes an entry -/
theorem b01_eq (b : Bool) : ((if b = true then (1 : Int32) else 0) == 1) = b := by cases b <;> rfl
theorem World_redo_I {r i : Nat} {S : Nat → Nat → Int32} {w : zWd} (h : zWC r S w) (hi : i < 900) {e : zEnt} (hc : zLC S i e) (he : zEok e) : ∃ V, F_World_redo r S (zI i) = V ∧ Sf_World_redo r S (zI i) ∧ zWC r V (zApp e w) ∧ (∀ k, (k < r ∨ r + 3 < k) → V k = S k) ∧ ∀ j, j ≠ 3 → V r j = S r j := by
  obtain ⟨c4, c5, c6, c7, c8⟩ := hc
  have a4 : zAt (S 4) 900 (zI i) = eI e := by rw [zAt_I hi (by omega)]; exact c4
  have a5 : zAt (S 5) 900 (zI i) = eW e := by rw [zAt_I hi (by omega)]; exact c5
  have a6 : zAt (S 6) 900 (zI i) = eO e := by rw [zAt_I hi (by omega)]; exact c6
  have a8 : zAt (S 8) 900 (zI i) = eA e := by rw [zAt_I hi (by omega)]; exact c8
  unfold F_World_redo Sf_World_redo
  rw [a4, a5, a6, a8]
  obtain ⟨t, a, b, c, o, n⟩ := e
  rcases he with ⟨t0, ha, hb⟩ | ⟨t0, ha, hb, hcc⟩ | ⟨t0, ha, hb⟩ | ⟨t0, ha, hb, hcc, hne, ⟨ob, ho⟩, ⟨nb, hn⟩⟩
  · dsimp only at t0 ha hb
    subst t0
    simp only [eI, eW, eO, eA, if_true, if_neg (show ¬ (0 = 1) by decide), if_neg (show ¬ ((14 : Int32) = 13) by decide), z_let]
    obtain ⟨p1, p2⟩ := World_write_R (r := r) (S := S) (k := 3 * a + b) (by omega) (-1) n
    refine ⟨_, p1, ⟨p2, trivial⟩, ?_, fun k hk => z_uS_ne _ _ _ (by omega), fun j hj => by rw [z_uS_ne _ _ _ (by omega)]⟩
    exact h.setR n
  · dsimp only at t0 ha hb hcc
    subst t0
    simp only [eI, eW, eO, eA, if_true, if_neg (show ¬ (1 = 0) by decide), z_let]
    obtain ⟨V, v1, v2, v3, v4, v5⟩ := World_begin_I h ha (zI b) (zI c)
    exact ⟨V, v1, ⟨v2, trivial⟩, v3, fun k hk => v4 k (by omega) (by omega), v5⟩
  · dsimp only at t0 ha hb
    subst t0
    have n13 : ¬ zI b = 13 := by rw [show (13 : Int32) = zI 13 from rfl, zI_inj (by omega) (by omega)]; omega
    simp only [eI, eW, eO, eA, if_true, if_neg (show ¬ (2 = 0) by decide), if_neg (show ¬ (2 = 1) by decide), z_let, if_neg n13]
    obtain ⟨p1, p2⟩ := World_write_C (r := r) (S := S) (i := a) (c := b) ha (by omega) 0 n
    exact ⟨_, p1, ⟨p2, trivial⟩, h.setC ha (by omega) n, fun k hk => z_uS_ne _ _ _ (by omega), fun j hj => by rw [z_uS_ne _ _ _ (by omega)]⟩
  · dsimp only at t0 ha hb hcc hne ho hn
    subst t0
    have n13 : ¬ zI (10 + b) = 13 := by rw [show (13 : Int32) = zI 13 from rfl, zI_inj (by omega) (by omega)]; omega
    simp only [eI, eW, eO, eA, if_neg (show ¬ (3 = 0) by decide), if_neg (show ¬ (3 = 1) by decide), if_neg (show ¬ (3 = 2) by decide), z_let, if_neg n13, hn]
    obtain ⟨V, v1, v2, v3, v4⟩ := World_write_L h hb ha hcc nb
    refine ⟨V, v1, ⟨v2, trivial⟩, ?_, fun k hk => v4 k (by omega), fun j hj => by rw [v4 r (by omega)]⟩
    unfold zApp
    simp only [if_neg (show ¬ (3 = 0) by decide), if_neg (show ¬ (3 = 1) by decide), if_neg (show ¬ (3 = 2) by decide), b01_eq]
    exact v3
theorem World_undo_I {r i : Nat} {S : Nat → Nat → Int32} {w : zWd} (h : zWC r S w) (hi : i < 900) {e : zEnt} (hc : zLC S i e) (he : zEok e) : ∃ V, F_World_undo r S (zI i) = V ∧ Sf_World_undo r S (zI i) ∧ zWC r V (zUnd e w) ∧ (∀ k, (k < r ∨ r + 3 < k) → V k = S k) ∧ ∀ j, j ≠ 3 → V r j = S r j := by
  obtain ⟨c4, c5, c6, c7, c8⟩ := hc
  have a4 : zAt (S 4) 900 (zI i) = eI e := by rw [zAt_I hi (by omega)]; exact c4
  have a5 : zAt (S 5) 900 (zI i) = eW e := by rw [zAt_I hi (by omega)]; exact c5
  have a6 : zAt (S 6) 900 (zI i) = eO e := by rw [zAt_I hi (by omega)]; exact c6
  have a7 : zAt (S 7) 900 (zI i) = eB e := by rw [zAt_I hi (by omega)]; exact c7
  unfold F_World_undo Sf_World_undo
  rw [a4, a5, a6, a7]
  obtain ⟨t, a, b, c, o, n⟩ := e
  rcases he with ⟨t0, ha, hb⟩ | ⟨t0, ha, hb, hcc⟩ | ⟨t0, ha, hb⟩ | ⟨t0, ha, hb, hcc, hne, ⟨ob, ho⟩, ⟨nb, hn⟩⟩
  · dsimp only at t0 ha hb
    subst t0
    simp only [eI, eW, eO, eB, if_true, if_neg (show ¬ (0 = 1) by decide), if_neg (show ¬ ((14 : Int32) = 13) by decide), z_let]
    obtain ⟨p1, p2⟩ := World_write_R (r := r) (S := S) (k := 3 * a + b) (by omega) (-1) o
    refine ⟨_, p1, ⟨p2, trivial⟩, ?_, fun k hk => z_uS_ne _ _ _ (by omega), fun j hj => by rw [z_uS_ne _ _ _ (by omega)]⟩
    exact h.setR o
  · dsimp only at t0 ha hb hcc
    subst t0
    simp only [eI, eW, if_true, if_neg (show ¬ (1 = 0) by decide)]
    exact ⟨_, rfl, trivial, h.unB ha, fun k hk => z_uS_ne _ _ _ (by omega), fun j hj => uS_nj _ _ _ hj⟩
  · dsimp only at t0 ha hb
    subst t0
    have n13 : ¬ zI b = 13 := by rw [show (13 : Int32) = zI 13 from rfl, zI_inj (by omega) (by omega)]; omega
    simp only [eI, eW, eO, eB, if_true, if_neg (show ¬ (2 = 0) by decide), if_neg (show ¬ (2 = 1) by decide), z_let, if_neg n13]
    obtain ⟨p1, p2⟩ := World_write_C (r := r) (S := S) (i := a) (c := b) ha (by omega) 0 o
    exact ⟨_, p1, ⟨p2, trivial⟩, h.setC ha (by omega) o, fun k hk => z_uS_ne _ _ _ (by omega), fun j hj => by rw [z_uS_ne _ _ _ (by omega)]⟩
  · dsimp only at t0 ha hb hcc hne ho hn
    subst t0
    have n13 : ¬ zI (10 + b) = 13 := by rw [show (13 : Int32) = zI 13 from rfl, zI_inj (by omega) (by omega)]; omega
    simp only [eI, eW, eO, eB, if_neg (show ¬ (3 = 0) by decide), if_neg (show ¬ (3 = 1) by decide), if_neg (show ¬ (3 = 2) by decide), z_let, if_neg n13, ho]
    obtain ⟨V, v1, v2, v3, v4⟩ := World_write_L h hb ha hcc ob
    refine ⟨V, v1, ⟨v2, trivial⟩, ?_, fun k hk => v4 k (by omega), fun j hj => by rw [v4 r (by omega)]⟩
    unfold zUnd
    simp only [if_neg (show ¬ (3 = 0) by decide), if_neg (show ¬ (3 = 1) by decide), if_neg (show ¬ (3 = 2) by decide), b01_eq]
    exact v3
