/-! PURE: bulk: the record; today's view -/
theorem zBK.add {S F : Nat → Nat → Int32} {n n' m p f ct : Nat} {v : Int32} {rf : Nat → Nat} {it : Nat → Nat} {od : Nat → Int32} (h3 : rf m ≤ n) (h4 : ∀ b, b ≤ m → S 180 b = zI (rf b)) (h5 : ∀ b, b < m → ∃ p f fr ct v it od, zBKr S n b rf p f fr ct v it od) (hn : n + ct ≤ n') (hp : p < 8) (hf : f < 3) (hct : ct ≤ 30) (e1 : F 71 4 = zI (m + 1)) (e2 : F 78 41 = zI (m + 1)) (e3 : ∀ k, 72 ≤ k ∧ k ≤ 75 ∨ 177 ≤ k ∧ k ≤ 179 → ∀ b, b < m → F k b = S k b) (e180 : ∀ b, b ≤ m → F 180 b = S 180 b) (e180' : F 180 (m + 1) = zI (rf m + ct)) (e181 : ∀ j, j < rf m → F 181 j = S 181 j ∧ F 182 j = S 182 j) (e4 : ∀ k, k < n → F 4 k = S 4 k ∧ F 5 k = S 5 k ∧ F 7 k = S 7 k ∧ F 8 k = S 8 k) (new : F 72 m = zI p ∧ F 73 m = zI f ∧ F 74 m = zI n ∧ F 75 m = zI ct) (new2 : F 177 m = zI p ∧ F 178 m = zI f ∧ F 179 m = v) (ent : ∀ j, j < ct → (F 4 (n + j) = zI (it j) ∧ F 5 (n + j) = zI (1 + f) ∧ F 7 (n + j) = od j ∧ F 8 (n + j) = v) ∧ it j < 30 ∧ F 181 (rf m + j) = zI (it j) ∧ F 182 (rf m + j) = od j) : zBK F n' (m + 1) := by
  have mono : ∀ t b, b + t = m → rf b ≤ rf m := by
    intro t
    induction t with
    | zero => intro b hb; rw [show b = m by omega]; exact Nat.le_refl _
    | succ t ih =>
      intro b hb
      have g := ih (b + 1) (by omega)
      obtain ⟨_, _, _, ct', _, _, _, ⟨_, _, _, a4, _⟩, _⟩ := h5 b (by omega)
      omega
  have R : ∀ b, b ≤ m → (fun b => if b ≤ m then rf b else rf m + ct) b = rf b := fun b hb => if_pos hb
  have R1 : (fun b => if b ≤ m then rf b else rf m + ct) (m + 1) = rf m + ct := if_neg (by omega)
  refine ⟨e1, e2, fun b => if b ≤ m then rf b else rf m + ct, ?_, fun b hb => ?_, fun b hb => ?_⟩
  · rw [R1]; omega
  · by_cases q : b ≤ m
    · rw [R b q, e180 b q]; exact h4 b q
    · obtain rfl : b = m + 1 := by omega
      rw [R1]; exact e180'
  · by_cases q : b < m
    · obtain ⟨p', f', fr', ct', v', it', od', ⟨a1, a2, a3, a4, a5⟩, c, g, k⟩ := h5 b q
      have m1 := mono (m - (b + 1)) (b + 1) (by omega)
      refine ⟨p', f', fr', ct', v', it', od', ⟨a1, a2, a3, by rw [R b (by omega), R (b + 1) (by omega)]; exact a4, by omega⟩, by rw [e3 72 (by omega) b q, e3 73 (by omega) b q, e3 74 (by omega) b q, e3 75 (by omega) b q]; exact c, by rw [e3 177 (by omega) b q, e3 178 (by omega) b q, e3 179 (by omega) b q]; exact g, fun j hj => ?_⟩
      obtain ⟨x1, x2, x3, x4⟩ := e4 (fr' + j) (by omega)
      obtain ⟨y1, y2⟩ := e181 (rf b + j) (by omega)
      rw [R b (by omega), x1, x2, x3, x4, y1, y2]
      exact k j hj
    · obtain rfl : b = m := by omega
      refine ⟨p, f, n, ct, v, it, od, ⟨hp, hf, hct, by rw [R1, R b (Nat.le_refl _)], hn⟩, new, new2, fun j hj => ?_⟩
      rw [R b (Nat.le_refl _)]
      exact ent j hj
theorem vGo_all {L : zLg} {sel : zWd → Nat → Bool} {w0 : zWd} {n : Nat} (h0 : zSame (zRep L 0) w0) (hs : ∀ w k, k < n → sel w k = true) : ∀ k, k ≤ n → zSame (zRep L k) (vGo L sel w0 k).1 := by
  intro k
  induction k with
  | zero => intro _; exact h0
  | succ k ih =>
    intro hk
    unfold vGo
    rw [if_pos (hs _ k (by omega))]
    exact zApp_same (ih (by omega)) _
/-- today's view of all entries is the world -/
theorem qAll {fl : Nat → Nat} {S : Nat → Nat → Int32} {d : Nat} {A : zA} {rn : Nat} (h : zB0 fl S d A rn) (p : Nat) : zSame A.2.2 (qQ S A (zI d) p false).1 := by
  have hd : d ≤ 400 := h.ok.2.2.2.2
  have hDd := h.ok.2.2.1.1
  have g := vGo_all (L := A.1) (sel := qSel S A.1 (zI d) p false) (w0 := vW0 S) (n := A.2.1) ⟨fun _ _ => Eq.refl _, (fun _ _ z => by cases z), fun _ _ _ _ _ _ => Eq.refl _, fun _ _ => Eq.refl _⟩ (fun w k hk => by
    have := hDd k hk
    show decide (zI (A.1 k).2.1 ≤ zI d) = true
    exact decide_eq_true (by rw [zI_le (by omega) (by omega)]; exact this)) A.2.1 (Nat.le_refl _)
  exact h.ok.same.symm.trans g
theorem zWF_out {S V : Nat → Nat → Int32} (h : zWr zWF S V) {k : Nat} (hk : k < 18 ∨ 37 ≤ k ∧ k ≤ 40 ∨ 43 ≤ k ∧ k ≤ 77 ∨ 79 ≤ k ∧ k ≤ 97 ∨ 110 ≤ k ∧ k ≤ 121 ∨ 124 ≤ k ∧ k ≤ 185 ∨ k = 192 ∨ 194 ≤ k) : V k = S k := by
  funext j
  refine h k j ?_
  have hq : ∀ q ∈ zWF, 18 ≤ q.1 ∧ (q.1 ≤ 36 ∨ q.1 = 41 ∨ q.1 = 42 ∨ q.1 = 78 ∨ 98 ≤ q.1 ∧ q.1 ≤ 109 ∨ q.1 = 122 ∨ q.1 = 123 ∨ 186 ≤ q.1 ∧ q.1 ≤ 191 ∨ q.1 = 193) := by decide
  cases z : zCov zWF k j with
  | false => rfl
  | true =>
    obtain ⟨a, ha, ha2⟩ := List.any_eq_true.mp z
    have := hq a ha
    simp only [Bool.and_eq_true, beq_iff_eq] at ha2
    have e := ha2.1
    split at e <;> omega
theorem zWF_78 {S V : Nat → Nat → Int32} (h : zWr zWF S V) : V 78 1 = S 78 1 ∧ V 78 2 = S 78 2 ∧ V 78 31 = S 78 31 ∧ V 78 41 = S 78 41 ∧ V 78 16 = S 78 16 := by
  have g : zAg [(78, some 1), (78, some 2), (78, some 31), (78, some 41), (78, some 16)] S V := h.ag (by decide)
  exact ⟨g.slot (by decide), g.slot (by decide), g.slot (by decide), g.slot (by decide), g.slot (by decide)⟩
/-- the class reads all, looks, finds -/
theorem q_cls2 {fl : Nat → Nat} {S : Nat → Nat → Int32} {d : Nat} {A : zA} {rn : Nat} (h : zB0 fl S d A rn) (hQ : zCQ S) {p : Nat} (hp : p < 8) {q : Nat} {m : Nat → Bool} (hr : qTop (zXs S) (kK S p A.1 (qQ S A (zI d) p false) (zI d)) = .inr (q, m)) :
    ∃ V0 V1 V2 x V3, F_Query_compile S = (-1, V0) ∧ Sf_Query_compile S ∧ V0 0 14 = zI d ∧ F_View_readUpTo V0 (zI d) = V1 ∧ Sf_View_readUpTo V0 (zI d) ∧ F_Sight_look 28 V1 (zI p) = V2 ∧ Sf_Sight_look 28 V1 (zI p) ∧ F_Finder_hits 28 V2 = (x, V3) ∧ Sf_Finder_hits 28 V2 ∧ (∀ k, k < 32 → zB x k = kFnd S p (qQ S A (zI d) p false).1 m k) ∧ zSt S (qQ S A (zI d) p false).1 p 30 V3 ∧ zFX S V3 ∧ zWr zWF S V3 := by
  have I := T_compile_I hQ.t (kK S p A.1 (qQ S A (zI d) p false) (zI d))
  rw [hr] at I
  obtain ⟨V0, z, i1, i2, i3, i4, i5, i6, i7⟩ := I
  have hs : ∀ k, k ≠ 19 → ¬ (21 ≤ k ∧ k ≤ 26) → V0 k = S k := i3.1
  have lg : zLgC A.1 A.2.1 V0 := h.c.1.ag (by rw [hs 1 (by omega) (by omega)]) (fun k a b => hs k (by omega) (by omega))
  obtain ⟨V1, r1, r2, r3, r4, r5⟩ := readUpTo_I h.vl lg (zI d)
  rw [vW0_eq (hs 29 (by omega) (by omega))] at r3
  obtain ⟨V2, l1, l2, l3, l4⟩ := sight_I h hp (D := zI d) (b := false) (W := V1) (fun k a b => (r4.1 k (by omega)).trans (hs k (by omega) (by omega))) r3 r5
  have e12 : ∀ k, k < 27 ∨ 42 < k → V2 k = V0 k := fun k hk => (l4.1 k (by omega) (by omega) (by omega)).trans (r4.1 k (by omega))
  obtain ⟨x, V3, x1, x2, x3, x4, x5⟩ := hits_I l3 i4 (by rw [e12 19 (by omega)]; exact i5) (i6.eq fun k hk j _ => by rw [e12 k (by omega)]) (by rw [xRun_eq (V := V2) (T := V0) _ _ _ _ fun k hk i _ _ => by rw [e12 k (by omega)]]; exact i7)
  refine ⟨V0, V1, V2, x, V3, i1, i2, by rw [hs 0 (by omega) (by omega)]; exact h.d, r1, r2, l1, l2, x1, x2, x3, fun j hj => ?_, fun k a b => by rw [x4 k (by omega), e12 k (by omega), hs k (by omega) (by omega)], (((zWQ.f i3.wr).trans r4.wr).trans l4.wf).trans (zWf.one (a := 18) (by decide) x4)⟩
  rw [x4 36 (by omega), x4 41 (by omega), x4 42 (by omega)]
  exact l3.2.1 j hj
