/-! PURE: an item begins; the reference's worlds -/
theorem World_begin_L {r i : Nat} {x2 x3 : Int32} (hi : i < 30) : ∀ (n c f : Nat) (S : Nat → Nat → Int32), c + n = 10 → n < f →
    ∃ V, F_World_begin_L16 r (zI i) x2 x3 f S (zI c) = V ∧ Sf_World_begin_L16 r (zI i) x2 x3 f S (zI c) ∧ (∀ k, k ≠ r + 1 → V k = S k) ∧ ∀ j, V (r + 1) j = if 10 * i + c ≤ j ∧ j < 10 * i + 10 then -1 else S (r + 1) j := by
  intro n
  induction n with
  | zero =>
    intro c f S hc hf
    obtain ⟨f, rfl⟩ : ∃ g, f = g + 1 := ⟨f - 1, by omega⟩
    have hl : (10 : Int32) ≤ zI c := by rw [show (10 : Int32) = zI 10 from rfl, zI_le (by omega) (by omega)]; omega
    refine ⟨S, ?_, ?_, fun _ _ => rfl, fun j => by rw [if_neg (by omega)]⟩
    · unfold F_World_begin_L16; rw [if_pos hl]
    · unfold Sf_World_begin_L16; rw [if_pos hl]; trivial
  | succ n ih =>
    intro c f S hc hf
    obtain ⟨f, rfl⟩ : ∃ g, f = g + 1 := ⟨f - 1, by omega⟩
    have hl : ¬ (10 : Int32) ≤ zI c := by rw [show (10 : Int32) = zI 10 from rfl, zI_le (by omega) (by omega)]; omega
    have e : zPut S (r + 1) 300 (zI i * 10 + zI c) (-1) = z_uS S (r + 1) (10 * i + c) (-1) := by
      rw [show (10 : Int32) = zI 10 from rfl, zI_mul, zI_add, zPut_I (by omega) (by omega), Nat.mul_comm]
    obtain ⟨V, v1, v2, v3, v4⟩ := ih (c + 1) f (z_uS S (r + 1) (10 * i + c) (-1)) (by omega) (by omega)
    refine ⟨V, ?_, ?_, fun k hk => by rw [v3 k hk, z_uS_ne _ _ _ hk], fun j => ?_⟩
    · unfold F_World_begin_L16; rw [if_neg hl, e, zI_succ]; exact v1
    · unfold Sf_World_begin_L16; rw [if_neg hl, e, zI_succ]; exact v2
    · rw [v4 j]
      by_cases hj : j = 10 * i + c
      · subst hj; rw [if_neg (by omega), if_pos (by omega), uS_at]
      · rw [uS_nj _ _ _ hj]
        by_cases hj2 : 10 * i + (c + 1) ≤ j ∧ j < 10 * i + 10
        · rw [if_pos hj2, if_pos (by omega)]
        · rw [if_neg hj2, if_neg (by omega)]
theorem World_begin_I {r : Nat} {S : Nat → Nat → Int32} {w : zWd} (h : zWC r S w) {i : Nat} (hi : i < 30) (kind project : Int32) : ∃ V, F_World_begin r S (zI i) kind project = V ∧ Sf_World_begin r S (zI i) kind project ∧ zWC r V (zBeg w i kind project) ∧ (∀ k, k ≠ r → k ≠ r + 1 → V k = S k) ∧ ∀ j, j ≠ 3 → V r j = S r j := by
  obtain ⟨V, v1, v2, v3, v4⟩ := World_begin_L (r := r) (x2 := kind) (x3 := project) hi 10 0 1300 (z_uS S r 3 (S r 3 ||| F_T_bit S (zI i))) (by omega) (by omega)
  have e : ∀ (Q : Nat → Nat → Int32) (c : Nat) (x v : Int32), c < 10 → x = zI c → zPut Q (r + 1) 300 (zI i * 10 + x) v = z_uS Q (r + 1) (10 * i + c) v := fun Q c x v hc hx => by
    rw [hx, show (10 : Int32) = zI 10 from rfl, zI_mul, zI_add, zPut_I (by omega) (by omega), Nat.mul_comm]
  have V3 : V r 3 = S r 3 ||| F_T_bit S (zI i) := by rw [v3 r (by omega), uS_at]
  have hB : ∀ q, q < 32 → zB (S r 3 ||| F_T_bit S (zI i)) q = (zB (S r 3) q || decide (q = i)) := fun q hq => by rw [zB_or, T_bit_B S (by omega) hq]
  have hrow : ∀ j, (z_uS (z_uS (z_uS (z_uS V (r + 1) (10 * i + 0) 0) (r + 1) (10 * i + 6) 0) (r + 1) (10 * i + 8) project) (r + 1) (10 * i + 9) kind) (r + 1) j = if 10 * i ≤ j ∧ j < 10 * i + 10 then zBegC kind project (j - 10 * i) else S (r + 1) j := by
    intro j
    unfold zBegC
    simp only [z_uS_self, upd, v4 j]
    by_cases hj : 10 * i ≤ j ∧ j < 10 * i + 10
    · rw [if_pos hj, if_pos (show 10 * i + 0 ≤ j ∧ j < 10 * i + 10 by omega)]
      by_cases h9 : j = 10 * i + 9
      · subst h9; simp [show 10 * i + 9 - 10 * i = 9 by omega]
      by_cases h8 : j = 10 * i + 8
      · subst h8; simp [show 10 * i + 8 - 10 * i = 8 by omega]
      by_cases h6 : j = 10 * i + 6
      · subst h6; simp [show 10 * i + 6 - 10 * i = 6 by omega]
      by_cases h0 : j = 10 * i + 0
      · subst h0; simp
      · rw [if_neg h9, if_neg h8, if_neg h6, if_neg h0, if_neg (by omega), if_neg (by omega), if_neg (by omega), if_neg (by omega)]
    · rw [if_neg (by omega), if_neg (by omega), if_neg (by omega), if_neg (by omega), if_neg (by omega), if_neg hj, z_uS_ne _ _ _ (by omega)]
  have hout : ∀ k, k ≠ r + 1 → (z_uS (z_uS (z_uS (z_uS V (r + 1) (10 * i + 0) 0) (r + 1) (10 * i + 6) 0) (r + 1) (10 * i + 8) project) (r + 1) (10 * i + 9) kind) k = V k := fun k hk => by rw [z_uS_ne _ _ _ hk, z_uS_ne _ _ _ hk, z_uS_ne _ _ _ hk, z_uS_ne _ _ _ hk]
  refine ⟨z_uS (z_uS (z_uS (z_uS V (r + 1) (10 * i + 0) 0) (r + 1) (10 * i + 6) 0) (r + 1) (10 * i + 8) project) (r + 1) (10 * i + 9) kind, ?_, ?_, ⟨?_, ?_, ?_, ?_, ?_, ?_⟩, fun k h1 h2 => by rw [hout k h2, v3 k h2, z_uS_ne _ _ _ h1], fun j hj => by rw [hout r (by omega), v3 r (by omega), uS_nj _ _ _ hj]⟩
  · unfold F_World_begin
    have v1' : F_World_begin_L16 r (zI i) kind project 1300 (z_uS S r 3 (S r 3 ||| F_T_bit S (zI i))) 0 = V := v1
    simp only [z_let, v1', e _ 0 0 _ (by omega) rfl, e _ 6 6 _ (by omega) rfl, e _ 8 8 _ (by omega) rfl, e _ 9 9 _ (by omega) rfl]
  · unfold Sf_World_begin; exact ⟨v2, trivial⟩
  · intro q hq
    rw [hout r (by omega), V3, hB q (by omega), h.has q hq]
    show _ = if q = i then true else w.1 q
    by_cases e : q = i <;> simp [e]
  · intro q hq
    rw [hout r (by omega), V3]
    by_cases hq2 : q < 32
    · rw [hB q hq2, h.hi q hq]; simp; omega
    · exact zB_ge _ (by omega)
  · intro q hq c hc
    rw [hrow]
    show _ = if q = i then zBegC kind project c else w.2.1 q c
    by_cases e : q = i
    · subst e; rw [if_pos (by omega), if_pos rfl]; congr 1; omega
    · rw [if_neg (by omega), if_neg e]; exact h.col q hq c hc
  · intro t ht q hq j hj
    rw [hout _ (by omega), v3 _ (by omega), z_uS_ne _ _ _ (by omega)]; exact h.link t ht q hq j hj
  · intro t ht q hq j hj
    rw [hout _ (by omega), v3 _ (by omega), z_uS_ne _ _ _ (by omega)]; exact h.lhi t ht q hq j hj
  · intro k hk
    rw [hout _ (by omega), v3 _ (by omega), z_uS_ne _ _ _ (by omega)]; exact h.role k hk
/-- an item's undone begin -/
def zUnB (w : zWd) (i : Nat) : zWd := ((fun i' => if i' = i then false else w.1 i'), w.2)
theorem zWC.unB {r : Nat} {S : Nat → Nat → Int32} {w : zWd} (h : zWC r S w) {i : Nat} (hi : i < 30) : zWC r (z_uS S r 3 (S r 3 &&& (F_T_bit S (zI i) ^^^ (-1)))) (zUnB w i) := by
  have hB : ∀ q, q < 32 → zB (S r 3 &&& (F_T_bit S (zI i) ^^^ (-1))) q = (zB (S r 3) q && !decide (q = i)) := fun q hq => by rw [zB_and, zB_not hq, T_bit_B S (by omega) hq]
  refine ⟨fun q hq => ?_, fun q hq => ?_, fun q hq c hc => by rw [z_uS_ne _ _ _ (by omega)]; exact h.col q hq c hc, fun t ht q hq j hj => by rw [z_uS_ne _ _ _ (by omega)]; exact h.link t ht q hq j hj, fun t ht q hq j hj => by rw [z_uS_ne _ _ _ (by omega)]; exact h.lhi t ht q hq j hj, fun k hk => by rw [z_uS_ne _ _ _ (by omega)]; exact h.role k hk⟩
  · rw [uS_at, hB q (by omega), h.has q hq]
    show _ = if q = i then false else w.1 q
    by_cases e : q = i <;> simp [e]
  · rw [uS_at]
    by_cases hq2 : q < 32
    · rw [hB q hq2, h.hi q hq]; rfl
    · exact zB_ge _ (by omega)
/-! the reference's -/
/-- where a column of an item lies -/
def zMC (b i c : Nat) : Nat := if c = 0 then b + 3 else if c < 4 then b + 4 else if c = 4 then b + 5 else if c = 5 then b + 6 else if c = 6 then b + 7 else if c = 7 then b + 8 else if c = 8 then b + 1 else b + 2
def zMJ (i c : Nat) : Nat := if c = 0 then i else if c < 4 then 3 * i + (c - 1) else i
theorem zMC_inj {b i c i' c' : Nat} (hc : c < 10) (hc' : c' < 10) : zMC b i c = zMC b i' c' → zMJ i c = zMJ i' c' → i = i' ∧ c = c' := by
  unfold zMC zMJ
  intro h1 h2
  repeat' split at h1
  all_goals first
    | omega
    | (simp_all; omega)
    | (simp_all)
theorem zMC_in (b i c : Nat) : b + 1 ≤ zMC b i c ∧ zMC b i c ≤ b + 8 := by
  unfold zMC
  repeat' split
  all_goals omega
def zWM (b : Nat) (U : Nat → Nat → Int32) (w : zWd) : Prop := (∀ i, i < 30 → U (b + 9) i = if w.1 i = true then 1 else 0) ∧ (∀ i, i < 30 → w.1 i = true → ∀ c, c < 10 → U (zMC b i c) (zMJ i c) = w.2.1 i c) ∧ (∀ t, t < 3 → ∀ i, i < 30 → ∀ j, j < 30 → U (b + 10) (900 * t + 30 * i + j) = if w.2.2.1 t i j = true then 1 else 0) ∧ ∀ k, k < 24 → U (b + 11) k = w.2.2.2 k
theorem zWM.has {b : Nat} {U : Nat → Nat → Int32} {w : zWd} (h : zWM b U w) : ∀ i, i < 30 → U (b + 9) i = if w.1 i = true then 1 else 0 := h.1
theorem zWM.col {b : Nat} {U : Nat → Nat → Int32} {w : zWd} (h : zWM b U w) : ∀ i, i < 30 → w.1 i = true → ∀ c, c < 10 → U (zMC b i c) (zMJ i c) = w.2.1 i c := h.2.1
theorem zWM.link {b : Nat} {U : Nat → Nat → Int32} {w : zWd} (h : zWM b U w) : ∀ t, t < 3 → ∀ i, i < 30 → ∀ j, j < 30 → U (b + 10) (900 * t + 30 * i + j) = if w.2.2.1 t i j = true then 1 else 0 := h.2.2.1
theorem zWM.role {b : Nat} {U : Nat → Nat → Int32} {w : zWd} (h : zWM b U w) : ∀ k, k < 24 → U (b + 11) k = w.2.2.2 k := h.2.2.2
theorem zWM.ag {b : Nat} {U U' : Nat → Nat → Int32} {w : zWd} (h : zWM b U w) (e : ∀ k, b + 1 ≤ k → k ≤ b + 11 → U' k = U k) : zWM b U' w := by
  refine ⟨fun i hi => by rw [e _ (by omega) (by omega)]; exact h.has i hi, fun i hi hw c hc => ?_, fun t ht i hi j hj => by rw [e _ (by omega) (by omega)]; exact h.link t ht i hi j hj, fun k hk => by rw [e _ (by omega) (by omega)]; exact h.role k hk⟩
  have := zMC_in b i c
  rw [e _ (by omega) (by omega)]; exact h.col i hi hw c hc
/-- worlds that say the same -/
def zSame (w w' : zWd) : Prop := (∀ i, i < 30 → w'.1 i = w.1 i) ∧ (∀ i, i < 30 → w.1 i = true → ∀ c, c < 10 → w'.2.1 i c = w.2.1 i c) ∧ (∀ t, t < 3 → ∀ i, i < 30 → ∀ j, j < 30 → w'.2.2.1 t i j = w.2.2.1 t i j) ∧ ∀ k, k < 24 → w'.2.2.2 k = w.2.2.2 k
theorem zSame.refl (w : zWd) : zSame w w := ⟨fun _ _ => rfl, fun _ _ _ _ _ => rfl, fun _ _ _ _ _ _ => rfl, fun _ _ => rfl⟩
theorem zSame.symm {w w' : zWd} (h : zSame w w') : zSame w' w := ⟨fun i hi => (h.1 i hi).symm, fun i hi hw c hc => (h.2.1 i hi (by rw [← h.1 i hi]; exact hw) c hc).symm, fun t ht i hi j hj => (h.2.2.1 t ht i hi j hj).symm, fun k hk => (h.2.2.2 k hk).symm⟩
theorem zSame.trans {w w' w'' : zWd} (h : zSame w w') (g : zSame w' w'') : zSame w w'' := ⟨fun i hi => (g.1 i hi).trans (h.1 i hi), fun i hi hw c hc => (g.2.1 i hi (by rw [h.1 i hi]; exact hw) c hc).trans (h.2.1 i hi hw c hc), fun t ht i hi j hj => (g.2.2.1 t ht i hi j hj).trans (h.2.2.1 t ht i hi j hj), fun k hk => (g.2.2.2 k hk).trans (h.2.2.2 k hk)⟩
theorem zWM.same {b : Nat} {U : Nat → Nat → Int32} {w w' : zWd} (h : zWM b U w) (e : zSame w w') : zWM b U w' := by
  refine ⟨fun i hi => by rw [e.1 i hi]; exact h.has i hi, fun i hi hw c hc => ?_, fun t ht i hi j hj => by rw [e.2.2.1 t ht i hi j hj]; exact h.link t ht i hi j hj, fun k hk => by rw [e.2.2.2 k hk]; exact h.role k hk⟩
  rw [e.1 i hi] at hw
  rw [e.2.1 i hi hw c hc]; exact h.col i hi hw c hc
theorem zWM.setC {b : Nat} {U : Nat → Nat → Int32} {w : zWd} (h : zWM b U w) {i c : Nat} (hc : c < 10) (v : Int32) : zWM b (z_uS U (zMC b i c) (zMJ i c) v) (zSetC w i c v) := by
  have hin := zMC_in b i c
  refine ⟨fun i' hi' => by rw [z_uS_ne _ _ _ (by omega)]; exact h.has i' hi', fun i' hi' hw c' hc' => ?_, fun t ht i' hi' j hj => by rw [z_uS_ne _ _ _ (by omega)]; exact h.link t ht i' hi' j hj, fun k hk => by rw [z_uS_ne _ _ _ (by omega)]; exact h.role k hk⟩
  show _ = if i' = i ∧ c' = c then v else w.2.1 i' c'
  by_cases e : i' = i ∧ c' = c
  · rw [if_pos e, e.1, e.2, uS_at]
  · rw [if_neg e]
    by_cases e1 : zMC b i' c' = zMC b i c
    · by_cases e2 : zMJ i' c' = zMJ i c
      · exact absurd (zMC_inj hc' hc e1 e2) e
      · rw [e1, uS_nj _ _ _ e2, ← e1]; exact h.col i' hi' hw c' hc'
    · rw [z_uS_ne _ _ _ e1]; exact h.col i' hi' hw c' hc'
theorem zWM.setR {b : Nat} {U : Nat → Nat → Int32} {w : zWd} (h : zWM b U w) {k : Nat} (v : Int32) : zWM b (z_uS U (b + 11) k v) (zSetR w k v) := by
  refine ⟨fun i' hi' => by rw [z_uS_ne _ _ _ (by omega)]; exact h.has i' hi', fun i' hi' hw c' hc' => ?_, fun t ht i' hi' j hj => by rw [z_uS_ne _ _ _ (by omega)]; exact h.link t ht i' hi' j hj, fun k' hk' => ?_⟩
  · have hin := zMC_in b i' c'
    rw [z_uS_ne _ _ _ (by omega)]; exact h.col i' hi' hw c' hc'
  · show _ = if k' = k then v else w.2.2.2 k'
    by_cases e : k' = k
    · subst e; rw [if_pos rfl, uS_at]
    · rw [if_neg e, uS_nj _ _ _ e]; exact h.role k' hk'
theorem zWM.con {b : Nat} {U : Nat → Nat → Int32} {w : zWd} (h : zWM b U w) {t i j : Nat} (hi : i < 30) (hj : j < 30) (q : Bool) : zWM b (z_uS U (b + 10) (900 * t + 30 * i + j) (if q = true then 1 else 0)) (zCon w t i j q) := by
  refine ⟨fun i' hi' => by rw [z_uS_ne _ _ _ (by omega)]; exact h.has i' hi', fun i' hi' hw c' hc' => ?_, fun t' ht' i' hi' j' hj' => ?_, fun k hk => by rw [z_uS_ne _ _ _ (by omega)]; exact h.role k hk⟩
  · have hin := zMC_in b i' c'
    rw [z_uS_ne _ _ _ (by omega)]; exact h.col i' hi' hw c' hc'
  · show _ = if (if t' = t ∧ i' = i ∧ j' = j then q else w.2.2.1 t' i' j') = true then (1 : Int32) else 0
    by_cases e : t' = t ∧ i' = i ∧ j' = j
    · rw [if_pos e, e.1, e.2.1, e.2.2, uS_at]
    · rw [if_neg e, uS_nj _ _ _ (by omega)]; exact h.link t' ht' i' hi' j' hj'
