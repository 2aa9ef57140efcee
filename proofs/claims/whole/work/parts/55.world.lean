/-! PURE: worlds -/
/-- what is there; columns; links; roles -/
abbrev zWd := (Nat → Bool) × (Nat → Nat → Int32) × (Nat → Nat → Nat → Bool) × (Nat → Int32)
def zSetC (w : zWd) (i c : Nat) (v : Int32) : zWd := (w.1, (fun i' c' => if i' = i ∧ c' = c then v else w.2.1 i' c'), w.2.2.1, w.2.2.2)
def zCon (w : zWd) (t i j : Nat) (b : Bool) : zWd := (w.1, w.2.1, (fun t' i' j' => if t' = t ∧ i' = i ∧ j' = j then b else w.2.2.1 t' i' j'), w.2.2.2)
def zSetL (w : zWd) (t i j : Nat) (b : Bool) : zWd := if t = 1 then zCon (zCon w t i j b) t j i b else zCon w t i j b
def zSetR (w : zWd) (k : Nat) (v : Int32) : zWd := (w.1, w.2.1, w.2.2.1, fun k' => if k' = k then v else w.2.2.2 k')
def zBegC (kind project : Int32) (c : Nat) : Int32 := if c = 0 then 0 else if c = 6 then 0 else if c = 8 then project else if c = 9 then kind else -1
def zBeg (w : zWd) (i : Nat) (kind project : Int32) : zWd := ((fun i' => if i' = i then true else w.1 i'), (fun i' c' => if i' = i then zBegC kind project c' else w.2.1 i' c'), w.2.2.1, w.2.2.2)
def zEmpty : zWd := (fun _ => false, fun _ _ => -1, fun _ _ _ => false, fun _ => 0)
/-- a world of the class, exactly -/
def zWC (r : Nat) (S : Nat → Nat → Int32) (w : zWd) : Prop := (∀ i, i < 30 → zB (S r 3) i = w.1 i) ∧ (∀ i, 30 ≤ i → zB (S r 3) i = false) ∧ (∀ i, i < 30 → ∀ c, c < 10 → S (r + 1) (10 * i + c) = w.2.1 i c) ∧ (∀ t, t < 3 → ∀ i, i < 30 → ∀ j, j < 30 → zB (S (r + 2) (30 * t + i)) j = w.2.2.1 t i j) ∧ (∀ t, t < 3 → ∀ i, i < 30 → ∀ j, 30 ≤ j → zB (S (r + 2) (30 * t + i)) j = false) ∧ (∀ k, k < 24 → S (r + 3) k = w.2.2.2 k)
theorem zWC.has {r : Nat} {S : Nat → Nat → Int32} {w : zWd} (h : zWC r S w) : ∀ i, i < 30 → zB (S r 3) i = w.1 i := h.1
theorem zWC.hi {r : Nat} {S : Nat → Nat → Int32} {w : zWd} (h : zWC r S w) : ∀ i, 30 ≤ i → zB (S r 3) i = false := h.2.1
theorem zWC.col {r : Nat} {S : Nat → Nat → Int32} {w : zWd} (h : zWC r S w) : ∀ i, i < 30 → ∀ c, c < 10 → S (r + 1) (10 * i + c) = w.2.1 i c := h.2.2.1
theorem zWC.link {r : Nat} {S : Nat → Nat → Int32} {w : zWd} (h : zWC r S w) : ∀ t, t < 3 → ∀ i, i < 30 → ∀ j, j < 30 → zB (S (r + 2) (30 * t + i)) j = w.2.2.1 t i j := h.2.2.2.1
theorem zWC.lhi {r : Nat} {S : Nat → Nat → Int32} {w : zWd} (h : zWC r S w) : ∀ t, t < 3 → ∀ i, i < 30 → ∀ j, 30 ≤ j → zB (S (r + 2) (30 * t + i)) j = false := h.2.2.2.2.1
theorem zWC.role {r : Nat} {S : Nat → Nat → Int32} {w : zWd} (h : zWC r S w) : ∀ k, k < 24 → S (r + 3) k = w.2.2.2 k := h.2.2.2.2.2
theorem zWC.ag {r : Nat} {S S' : Nat → Nat → Int32} {w : zWd} (h : zWC r S w) (e0 : S' r 3 = S r 3) (e1 : S' (r + 1) = S (r + 1)) (e2 : S' (r + 2) = S (r + 2)) (e3 : S' (r + 3) = S (r + 3)) : zWC r S' w := by
  unfold zWC
  rw [e0, e1, e2, e3]
  exact h
theorem zWC.setC {r : Nat} {S : Nat → Nat → Int32} {w : zWd} (h : zWC r S w) {i c : Nat} (hi : i < 30) (hc : c < 10) (v : Int32) : zWC r (z_uS S (r + 1) (10 * i + c) v) (zSetC w i c v) := by
  refine ⟨fun i' hi' => by rw [z_uS_ne _ _ _ (by omega)]; exact h.has i' hi', fun i' hi' => by rw [z_uS_ne _ _ _ (by omega)]; exact h.hi i' hi', fun i' hi' c' hc' => ?_, fun t ht i' hi' j hj => by rw [z_uS_ne _ _ _ (by omega)]; exact h.link t ht i' hi' j hj, fun t ht i' hi' j hj => by rw [z_uS_ne _ _ _ (by omega)]; exact h.lhi t ht i' hi' j hj, fun k hk => by rw [z_uS_ne _ _ _ (by omega)]; exact h.role k hk⟩
  show _ = if i' = i ∧ c' = c then v else w.2.1 i' c'
  by_cases e : i' = i ∧ c' = c
  · rw [if_pos e, e.1, e.2, uS_at]
  · rw [if_neg e, uS_nj _ _ _ (by omega)]; exact h.col i' hi' c' hc'
theorem zWC.setR {r : Nat} {S : Nat → Nat → Int32} {w : zWd} (h : zWC r S w) {k : Nat} (v : Int32) : zWC r (z_uS S (r + 3) k v) (zSetR w k v) := by
  refine ⟨fun i' hi' => by rw [z_uS_ne _ _ _ (by omega)]; exact h.has i' hi', fun i' hi' => by rw [z_uS_ne _ _ _ (by omega)]; exact h.hi i' hi', fun i' hi' c' hc' => by rw [z_uS_ne _ _ _ (by omega)]; exact h.col i' hi' c' hc', fun t ht i' hi' j hj => by rw [z_uS_ne _ _ _ (by omega)]; exact h.link t ht i' hi' j hj, fun t ht i' hi' j hj => by rw [z_uS_ne _ _ _ (by omega)]; exact h.lhi t ht i' hi' j hj, fun k' hk' => ?_⟩
  show _ = if k' = k then v else w.2.2.2 k'
  by_cases e : k' = k
  · subst e; rw [if_pos rfl, uS_at]
  · rw [if_neg e, uS_nj _ _ _ e]; exact h.role k' hk'
theorem zWC.con {r : Nat} {S : Nat → Nat → Int32} {w : zWd} (h : zWC r S w) {t i j : Nat} (ht : t < 3) (hi : i < 30) (hj : j < 30) (b : Bool) {v : Int32} (hv : v = if b = true then S (r + 2) (30 * t + i) ||| ((1 : Int32) <<< (zI j &&& 31)) else S (r + 2) (30 * t + i) &&& (((1 : Int32) <<< (zI j &&& 31)) ^^^ (-1))) : zWC r (z_uS S (r + 2) (30 * t + i) v) (zCon w t i j b) := by
  have hB : ∀ q, q < 32 → zB v q = if q = j then b else zB (S (r + 2) (30 * t + i)) q := by
    intro q hq
    rw [hv]
    cases b
    · rw [if_neg (by simp), zB_and, zB_not hq, zB_one j (by omega) q hq]
      by_cases e : q = j <;> simp [e]
    · rw [if_pos rfl, zB_or, zB_one j (by omega) q hq]
      by_cases e : q = j <;> simp [e]
  refine ⟨fun i' hi' => by rw [z_uS_ne _ _ _ (by omega)]; exact h.has i' hi', fun i' hi' => by rw [z_uS_ne _ _ _ (by omega)]; exact h.hi i' hi', fun i' hi' c' hc' => by rw [z_uS_ne _ _ _ (by omega)]; exact h.col i' hi' c' hc', fun t' ht' i' hi' j' hj' => ?_, fun t' ht' i' hi' j' hj' => ?_, fun k hk => by rw [z_uS_ne _ _ _ (by omega)]; exact h.role k hk⟩
  · show _ = if t' = t ∧ i' = i ∧ j' = j then b else w.2.2.1 t' i' j'
    by_cases e : t' = t ∧ i' = i
    · obtain ⟨rfl, rfl⟩ := e
      rw [uS_at, hB j' (by omega)]
      by_cases e2 : j' = j
      · rw [if_pos e2, if_pos ⟨rfl, rfl, e2⟩]
      · rw [if_neg e2, if_neg (fun q => e2 q.2.2)]; exact h.link t' ht' i' hi' j' hj'
    · rw [if_neg (fun q => e ⟨q.1, q.2.1⟩), uS_nj _ _ _ (by omega)]; exact h.link t' ht' i' hi' j' hj'
  · by_cases e : t' = t ∧ i' = i
    · obtain ⟨rfl, rfl⟩ := e
      rw [uS_at]
      by_cases hj2 : j' < 32
      · rw [hB j' hj2, if_neg (by omega)]; exact h.lhi t' ht' i' hi' j' hj'
      · exact zB_ge _ (by omega)
    · rw [uS_nj _ _ _ (by omega)]; exact h.lhi t' ht' i' hi' j' hj'
/-! what the class reads of a world -/
theorem World_has_I {r : Nat} {S : Nat → Nat → Int32} {i : Nat} (hi : i < 30) : F_World_has r S (zI i) = if zB (S r 3) i = true then 1 else 0 := by
  unfold F_World_has F_World_has_j26
  rw [if_neg (zI_n0 (by omega)), if_neg (by rw [show (30 : Int32) = zI 30 from rfl, zI_le (by omega) (by omega)]; omega)]
  by_cases hb : zB (S r 3) i = true
  · rw [if_pos hb, if_pos ((zB_shr (by omega)).mpr hb)]
  · rw [if_neg hb, if_neg (fun e => hb ((zB_shr (by omega)).mp e))]
theorem World_has_out {r : Nat} {S : Nat → Nat → Int32} {p : Int32} (h : p.toInt < 0 ∨ 30 ≤ p.toInt) : F_World_has r S p = 0 := by
  unfold F_World_has F_World_has_j26
  by_cases h0 : p < 0
  · rw [if_pos h0]
  · rw [T_lt] at h0
    rw [if_neg (by rw [T_lt]; exact h0), if_pos]
    rw [T_le]
    have : (0 : Int32).toInt = 0 := rfl
    show (30 : Int) ≤ p.toInt
    omega
theorem World_cell_I {r : Nat} {S : Nat → Nat → Int32} {i c : Nat} (hi : i < 30) (hc : c < 10) : F_World_cell r S (zI i) (zI c) = (if zB (S r 3) i = true then S (r + 1) (10 * i + c) else -1) ∧ Sf_World_cell r S (zI i) (zI c) := by
  unfold F_World_cell Sf_World_cell F_World_cell_j26 Sf_World_cell_j26 F_World_cell_j27 Sf_World_cell_j27 F_World_cell_j56
  have n1 : ¬ (30 : Int32) ≤ zI i := by rw [show (30 : Int32) = zI 30 from rfl, zI_le (by omega) (by omega)]; omega
  have n2 : ¬ (10 : Int32) ≤ zI c := by rw [show (10 : Int32) = zI 10 from rfl, zI_le (by omega) (by omega)]; omega
  have e : zI i * 10 + zI c = zI (10 * i + c) := by rw [show (10 : Int32) = zI 10 from rfl, zI_mul, zI_add, Nat.mul_comm]
  simp only [if_neg (zI_n0 (show i < 2147483648 by omega)), if_neg (zI_n0 (show c < 2147483648 by omega)), if_neg n1, if_neg n2, e, zI_clamp (show 10 * i + c < 2147483648 by omega)]
  by_cases hb : zB (S r 3) i = true
  · have hs := (zB_shr (p := S r 3) (k := i) (by omega)).mpr hb
    simp only [if_pos hb, if_pos hs, z_b10, if_false]
    exact ⟨trivial, vp_in_I (by omega) (by omega), trivial⟩
  · have hs := fun e => hb ((zB_shr (p := S r 3) (k := i) (by omega)).mp e)
    simp only [if_neg hb, if_neg hs, if_true]
    exact ⟨trivial, trivial⟩
theorem World_cell_out {r : Nat} {S : Nat → Nat → Int32} {p c : Int32} (h : p.toInt < 0 ∨ 30 ≤ p.toInt) : F_World_cell r S p c = -1 ∧ Sf_World_cell r S p c := by
  unfold F_World_cell Sf_World_cell F_World_cell_j26 Sf_World_cell_j26 F_World_cell_j27 Sf_World_cell_j27 F_World_cell_j56
  simp only [if_true]
  by_cases h0 : p < 0
  · rw [if_pos h0, if_pos h0]; exact ⟨rfl, trivial⟩
  · rw [if_neg h0, if_neg h0]
    rw [T_lt] at h0
    have h1 : (30 : Int32) ≤ p := by
      rw [T_le]
      have : (0 : Int32).toInt = 0 := rfl
      show (30 : Int) ≤ p.toInt
      omega
    rw [if_pos h1, if_pos h1]; exact ⟨rfl, trivial⟩
theorem World_linksOf_I {r : Nat} {S : Nat → Nat → Int32} {t i : Nat} (ht : t < 3) (hi : i < 30) : F_World_linksOf r S (zI t) (zI i) = S (r + 2) (30 * t + i) ∧ Sf_World_linksOf r S (zI t) (zI i) := by
  unfold F_World_linksOf Sf_World_linksOf F_World_linksOf_j24 Sf_World_linksOf_j24
  have n1 : ¬ (30 : Int32) ≤ zI i := by rw [show (30 : Int32) = zI 30 from rfl, zI_le (by omega) (by omega)]; omega
  have n2 : ¬ (3 : Int32) ≤ zI t := by rw [show (3 : Int32) = zI 3 from rfl, zI_le (by omega) (by omega)]; omega
  have e : zI t * 30 + zI i = zI (30 * t + i) := by rw [show (30 : Int32) = zI 30 from rfl, zI_mul, zI_add, Nat.mul_comm]
  simp only [if_neg (zI_n0 (show t < 2147483648 by omega)), if_neg (zI_n0 (show i < 2147483648 by omega)), if_neg n1, if_neg n2, z_b10, if_false, e, zI_clamp (show 30 * t + i < 2147483648 by omega)]
  exact ⟨trivial, vp_in_I (by omega) (by omega), trivial⟩
theorem World_linksOf_out {r : Nat} {S : Nat → Nat → Int32} {t : Nat} (ht : t < 3) {p : Int32} (h : p.toInt < 0 ∨ 30 ≤ p.toInt) : F_World_linksOf r S (zI t) p = 0 ∧ Sf_World_linksOf r S (zI t) p := by
  unfold F_World_linksOf Sf_World_linksOf F_World_linksOf_j23 Sf_World_linksOf_j23 F_World_linksOf_j24 Sf_World_linksOf_j24
  have n2 : ¬ (3 : Int32) ≤ zI t := by rw [show (3 : Int32) = zI 3 from rfl, zI_le (by omega) (by omega)]; omega
  simp only [if_neg (zI_n0 (show t < 2147483648 by omega)), if_neg n2, if_true]
  by_cases h0 : p < 0
  · simp only [if_pos h0]; exact ⟨trivial, trivial⟩
  · simp only [if_neg h0]
    rw [T_lt] at h0
    have h1 : (30 : Int32) ≤ p := by
      rw [T_le]
      have : (0 : Int32).toInt = 0 := rfl
      show (30 : Int) ≤ p.toInt
      omega
    simp only [if_pos h1]; exact ⟨trivial, trivial⟩
theorem World_rolesOf_I {r : Nat} {S : Nat → Nat → Int32} {p q : Nat} (hp : p < 8) (hq : q < 3) : F_World_rolesOf r S (zI p) (zI q) = S (r + 3) (3 * p + q) := by
  unfold F_World_rolesOf
  rw [show (3 : Int32) = zI 3 from rfl, zI_mul, zI_add, zAt_I (by omega) (by omega), Nat.mul_comm]
/-! what the class writes into a world -/
theorem World_write_C {r : Nat} {S : Nat → Nat → Int32} {i c : Nat} (hi : i < 30) (hc : c < 10) (o v : Int32) : F_World_write r S (zI i) (zI c) o v = z_uS S (r + 1) (10 * i + c) v ∧ Sf_World_write r S (zI i) (zI c) o v := by
  unfold F_World_write Sf_World_write
  have n1 : ¬ zI c = 14 := by rw [show (14 : Int32) = zI 14 from rfl, zI_inj (by omega) (by omega)]; omega
  have n2 : zI c < 10 := by rw [show (10 : Int32) = zI 10 from rfl, zI_lt (by omega) (by omega)]; omega
  have e : zI i * 10 + zI c = zI (10 * i + c) := by rw [show (10 : Int32) = zI 10 from rfl, zI_mul, zI_add, Nat.mul_comm]
  simp only [if_neg n1, if_pos n2, z_let, e]
  exact ⟨zPut_I (by omega) (by omega), trivial⟩
theorem World_write_R {r : Nat} {S : Nat → Nat → Int32} {k : Nat} (hk : k < 24) (p v : Int32) : F_World_write r S p 14 (zI k) v = z_uS S (r + 3) k v ∧ Sf_World_write r S p 14 (zI k) v := by
  unfold F_World_write Sf_World_write
  simp only [if_true, z_let]
  exact ⟨zPut_I (by omega) (by omega), trivial⟩
theorem World_connect_I {r : Nat} {S : Nat → Nat → Int32} {t i j : Nat} (ht : t < 3) (hi : i < 30) (hj : j < 30) (b : Bool) : F_World_connect r S (zI t) (zI i) (zI j) (if b = true then 1 else 0) = z_uS S (r + 2) (30 * t + i) (if b = true then S (r + 2) (30 * t + i) ||| ((1 : Int32) <<< (zI j &&& 31)) else S (r + 2) (30 * t + i) &&& (((1 : Int32) <<< (zI j &&& 31)) ^^^ (-1))) ∧ Sf_World_connect r S (zI t) (zI i) (zI j) (if b = true then 1 else 0) := by
  unfold F_World_connect Sf_World_connect F_World_connect_j34 Sf_World_connect_j34 F_World_connect_j86 Sf_World_connect_j86
  have n1 : ¬ (30 : Int32) ≤ zI i := by rw [show (30 : Int32) = zI 30 from rfl, zI_le (by omega) (by omega)]; omega
  have n3 : ¬ (30 : Int32) ≤ zI j := by rw [show (30 : Int32) = zI 30 from rfl, zI_le (by omega) (by omega)]; omega
  have n2 : ¬ (3 : Int32) ≤ zI t := by rw [show (3 : Int32) = zI 3 from rfl, zI_le (by omega) (by omega)]; omega
  have e : zI t * 30 + zI i = zI (30 * t + i) := by rw [show (30 : Int32) = zI 30 from rfl, zI_mul, zI_add, Nat.mul_comm]
  have v : vp_in (zI (30 * t + i)) 90 := vp_in_I (by omega) (by omega)
  simp only [if_neg (zI_n0 (show t < 2147483648 by omega)), if_neg (zI_n0 (show i < 2147483648 by omega)), if_neg (zI_n0 (show j < 2147483648 by omega)), if_neg n1, if_neg n2, if_neg n3, z_b10, if_false, e, zI_clamp (show 30 * t + i < 2147483648 by omega)]
  cases b
  · simp only [Bool.false_eq_true, if_false, if_true]; exact ⟨trivial, v, v, trivial⟩
  · simp only [if_true, z_b10, if_false]; exact ⟨trivial, v, v, trivial⟩
theorem World_write_L {r : Nat} {S : Nat → Nat → Int32} {w : zWd} (h : zWC r S w) {t i j : Nat} (ht : t < 3) (hi : i < 30) (hj : j < 30) (b : Bool) : ∃ V, F_World_write r S (zI i) (zI (10 + t)) (zI j) (if b = true then 1 else 0) = V ∧ Sf_World_write r S (zI i) (zI (10 + t)) (zI j) (if b = true then 1 else 0) ∧ zWC r V (zSetL w t i j b) ∧ ∀ k, k ≠ r + 2 → V k = S k := by
  have n1 : ¬ zI (10 + t) = 14 := by rw [show (14 : Int32) = zI 14 from rfl, zI_inj (by omega) (by omega)]; omega
  have n2 : ¬ zI (10 + t) < 10 := by rw [show (10 : Int32) = zI 10 from rfl, zI_lt (by omega) (by omega)]; omega
  have e : zI (10 + t) - 10 = zI t := by rw [show (10 : Int32) = zI 10 from rfl, zI_sub (by omega) (by omega)]; congr 1; omega
  obtain ⟨c1, c2⟩ := World_connect_I (r := r) (S := S) ht hi hj b
  have h1 := h.con ht hi hj b (v := _) rfl
  rw [← c1] at h1
  have f1 : ∀ k, k ≠ r + 2 → (F_World_connect r S (zI t) (zI i) (zI j) (if b = true then 1 else 0)) k = S k := fun k hk => by rw [c1, z_uS_ne _ _ _ hk]
  by_cases h3 : t = 1
  · subst h3
    obtain ⟨d1, d2⟩ := World_connect_I (r := r) (S := F_World_connect r S (zI 1) (zI i) (zI j) (if b = true then 1 else 0)) ht hj hi b
    have h2 := h1.con ht hj hi b (v := _) rfl
    rw [← d1] at h2
    have e11 : zI (10 + 1) = 11 := rfl
    refine ⟨_, ?_, ?_, h2, fun k hk => by rw [d1, z_uS_ne _ _ _ hk]; exact f1 k hk⟩
    · unfold F_World_write F_World_write_j43 F_World_write_j67
      simp only [if_neg n1, if_neg n2, z_let, e, if_pos e11]
      cases b
      · simp; rfl
      · simp; rfl
    · unfold Sf_World_write Sf_World_write_j43 Sf_World_write_j67
      simp only [if_neg n1, if_neg n2, z_let, e, if_pos e11]
      cases b
      · exact ⟨c2, d2, trivial⟩
      · exact ⟨c2, d2, trivial⟩
  · have n4 : ¬ zI (10 + t) = 11 := by rw [show (11 : Int32) = zI 11 from rfl, zI_inj (by omega) (by omega)]; omega
    refine ⟨F_World_connect r S (zI t) (zI i) (zI j) (if b = true then 1 else 0), ?_, ?_, ?_, f1⟩
    · unfold F_World_write F_World_write_j43
      simp only [if_neg n1, if_neg n2, z_let, e, if_neg n4]
      cases b
      · simp
      · simp
    · unfold Sf_World_write Sf_World_write_j43
      simp only [if_neg n1, if_neg n2, z_let, e, if_neg n4]
      cases b
      · exact ⟨c2, trivial⟩
      · exact ⟨c2, trivial⟩
    · unfold zSetL; rw [if_neg h3]; exact h1
