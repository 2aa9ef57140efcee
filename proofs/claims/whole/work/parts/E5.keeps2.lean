/-! PURE: each call keeps what holds, 2 -/
theorem zWr.off {W : List zLoc} {S F : Nat → Nat → Int32} (h : zWr W S F) {k : Nat} (hk : ∀ q ∈ W, q.1 ≠ if k < 194 then k else 194) : F k = S k := by
  funext j
  refine h k j ?_
  cases z : zCov W k j with
  | false => rfl
  | true =>
    obtain ⟨a, ha, ha2⟩ := List.any_eq_true.mp z
    simp only [Bool.and_eq_true, beq_iff_eq] at ha2
    exact absurd ha2.1 (hk a ha)
theorem zNA.ag {n : Nat} {F G : Nat → Nat → Int32} {D : List zLoc} (g : zNA n F G) (hn : 194 ≤ n) (hD : ∀ q ∈ D, q.1 < 194) : zAg D F G := by
  intro k j hc
  obtain ⟨a, ha, ha2⟩ := List.any_eq_true.mp hc
  simp only [Bool.and_eq_true, beq_iff_eq] at ha2
  have h1 := hD a ha
  have h2 := ha2.1
  have : k ≠ n := by
    intro z
    rw [if_neg (by omega)] at h2
    omega
  rw [g k this]
theorem zInv.na {m : Nat} {fl : Nat → Nat} {F G : Nat → Nat → Int32} {na : Nat} (h : zInv m fl F) (hna : 194 ≤ na) (hnf : ∀ k, k < 3 → fl k + 7 < na) (g : zNA na F G) : zInv m fl G := by
  obtain ⟨⟨⟨cA, cK, cI, cF, cQ, cR, cW⟩, hk, hg⟩, h2⟩ := h
  have e : ∀ k, k < na → G k = F k := fun k hk => g k (by omega)
  exact ⟨⟨⟨cA.ag (g.ag hna (by decide)), cK.ag (g.ag hna (by decide)), cI.ag (g.ag hna (by decide)), cF.lo hna hnf (by rw [e 54 (by omega)]) (by rw [e 78 (by omega)]) (fun k hk _ => e k hk), cQ.ag (g.ag hna (by decide)), cR.ag (g.ag hna (by decide)), cW.ag (g.ag hna (by decide))⟩, hk.ag (e _ (by omega)) (e _ (by omega)), hg.ag (e _ (by omega)) (e _ (by omega))⟩, h2.keep (g.ag hna (by decide +kernel))⟩
/-- the log stays, ranks may change -/
theorem zIlg.rk {m m' : Nat} {fl : Nat → Nat} {S F : Nat → Nat → Int32} {d : Nat} {A : zA} {rn : Nat} (h0 : zB0 fl S d A rn) (hB : zBK S A.2.1 m') (hm : m' ≤ m) (s : zSoM S) (gL : zAg zDL S F) (gB : zAg zDBk S F) (hK : zRK F (zCnt A.1 A.2.1)) : zIlg m F := by
  have cl : ∀ k, 2 ≤ k ∧ k ≤ 12 ∨ 79 ≤ k ∧ k ≤ 97 → F k = S k := fun k hk => by
    have : ∀ k, k < 98 → (2 ≤ k ∧ k ≤ 12 ∨ 79 ≤ k ∧ k ≤ 97) → ((k, none) : zLoc) ∈ zDL := by decide +kernel
    exact gL.cell (by rw [if_pos (show k < 194 by omega)]; exact this k (by omega) hk)
  have hd1 : S 78 1 = zI d := (h0.bm (zFX.rfl (S := S))).d
  have hC : zRC F A := h0.c.ag (gL.slot (a := 1) (j := 7) (by decide)) (fun k hk => cl k (by omega))
  refine ⟨d, A, m', ⟨h0.ok, h0.n⟩, ⟨hC, h0.m.ag (by omega) (gL.slot (a := 78) (j := 2) (by decide)) (fun k hk => cl k (by omega))⟩, ⟨(gL.slot (a := 0) (j := 14) (by decide)).trans h0.d, (gL.slot (a := 78) (j := 1) (by decide)).trans hd1⟩, hK, ⟨hB.go (Nat.le_refl _) (gB.slot (a := 71) (j := 4) (by decide)) (gB.slot (a := 78) (j := 41) (by decide)) gB.bk (fun k _ => ?_), hm⟩, s.cg h0.ok hC h0.c fun k hk => ?_⟩
  · rw [cl 4 (by omega), cl 5 (by omega), cl 7 (by omega), cl 8 (by omega)]; exact ⟨Eq.refl _, Eq.refl _, Eq.refl _, Eq.refl _⟩
  · have h0 : F 55 0 = S 55 0 := gL.slot (by decide)
    have h1 : F 55 1 = S 55 1 := gL.slot (by decide)
    have h2 : F 55 2 = S 55 2 := gL.slot (by decide)
    obtain rfl | rfl | rfl : k = 0 ∨ k = 1 ∨ k = 2 := by omega
    · exact h0
    · exact h1
    · exact h2
/-- the record of bulks, by what the log keeps -/
theorem bk_go {fl : Nat → Nat} {S F : Nat → Nat → Int32} {d : Nat} {A B : zA} {rn m' : Nat} (h0 : zB0 fl S d A rn) (hB : zBK S A.2.1 m') (l : zLp S B) (b2 : B.2.1 ≤ 800) (b3 : zRC F B) (ga : zAg zDBk S F) : zBK F B.2.1 m' := by
  obtain ⟨p1, p2⟩ := l.ent b3 h0.c.1.size h0.n b2
  exact hB.go p1 (ga.slot (a := 71) (j := 4) (by decide)) (ga.slot (a := 78) (j := 41) (by decide)) ga.bk p2
theorem cnt_eq {fl : Nat → Nat} {S : Nat → Nat → Int32} {d : Nat} {A B : zA} {rn : Nat} (h0 : zB0 fl S d A rn) (b1 : zOk d B) (e : S 86 0 = zI (zCnt B.1 B.2.1)) : zCnt B.1 B.2.1 = zCnt A.1 A.2.1 := by
  have c1 := b1.cnt
  have c2 := h0.ok.cnt
  exact (zI_inj (by omega) (by omega)).mp (e.symm.trans h0.cn.1)
theorem i_13 {m : Nat} {fl : Nat → Nat} {S : Nat → Nat → Int32} (_hm : m < 512) (h : zInv m fl S) (a1 a2 a3 a4 a5 a6 : Int32) : Sl_13 fl S a1 a2 a3 a4 a5 a6 ∧ zInv (m + 1) fl (Fl_13 fl S a1 a2 a3 a4 a5 a6) := by
  obtain ⟨g1, g2, g3, g4⟩ := o_13 fl a1 a2 a3 a4 a5 a6 h.1.1.2.2.2.1.of
  have o : ∀ k, k ≠ 54 → k ≠ 78 → Fl_13 fl S a1 a2 a3 a4 a5 a6 k = S k := fun k a b => g3.off fun q hq => by
    have : ∀ q ∈ zW13, q.1 = 54 ∨ q.1 = 78 := by decide
    have := this q hq
    split <;> omega
  have cF : zCF fl (Fl_13 fl S a1 a2 a3 a4 a5 a6) (Fl_13 fl S a1 a2 a3 a4 a5 a6) := h.1.1.2.2.2.1.redraft (fun k _ => by rw [o 55 (by omega) (by omega)]) (fun k _ => by rw [o 56 (by omega) (by omega)]) (fun j _ => by rw [o 57 (by omega) (by omega)]) (fun k hk => o k (by omega) (by omega)) g2 (fun z => absurd g4 z)
  exact ⟨g1, zInv.up ⟨h.1.chF cF g3 (by decide +kernel) (by decide +kernel) (by decide +kernel) (by decide +kernel) (by decide +kernel) (by decide +kernel), h.2.keep (g3.ag (by decide +kernel))⟩⟩
theorem i_12 {m : Nat} {fl : Nat → Nat} {S : Nat → Nat → Int32} (_hm : m < 512) (h : zInv m fl S) (a1 a2 a3 a4 a5 a6 : Int32) {na : Nat} (hna : 194 ≤ na) (hnf : ∀ k, k < 3 → fl k + 7 < na) : Sl_12 fl na S a1 a2 a3 a4 a5 a6 ∧ zInv (m + 1) (Fg_12 fl na S a1 a2 a3 a4 a5 a6) (Fl_12 fl na S a1 a2 a3 a4 a5 a6) := by
  obtain ⟨d, A, rn, m', h0, hK, hB, hm', s⟩ := h.b0
  obtain ⟨g1, w, ⟨B, b1, b2, b3, b4, b5, b6⟩, cF, sF⟩ := o_12 h0 h.1.1.2.2.2.1 s a1 a2 a3 a4 a5 a6 hna hnf
  obtain ⟨⟨⟨cA, cK, cI, _, cQ, cR, cW⟩, hk, hg⟩, -⟩ := h
  have gK := w.ag (D := zDK) (by decide +kernel)
  have gT := w.ag (D := [(0, some 14), (78, some 1)]) (by decide +kernel)
  have hd1 : S 78 1 = zI d := (h0.bm (zFX.rfl (S := S))).d
  exact ⟨g1, ⟨⟨cA.ag (w.ag (by decide +kernel)), cK.ag gK, cI.ag (w.ag (by decide +kernel)), cF, cQ.ag (w.ag (by decide +kernel)), cR.ag (w.ag (by decide +kernel)), cW.ag (w.ag (by decide +kernel))⟩, hk.ag (gK.cell (by decide)) (gK.cell (by decide)), hg.ag (gK.cell (by decide)) (gK.cell (by decide))⟩, d, B, m', ⟨b1, b2⟩, ⟨b3, b4⟩, ⟨(gT.slot (by decide)).trans h0.d, (gT.slot (by decide)).trans hd1⟩, by rw [cnt_eq h0 b1 b5]; exact hK.ag (w.ag (by decide +kernel)), ⟨bk_go h0 hB b6 b2 b3 (w.ag (by decide +kernel)), by omega⟩, sF⟩
theorem i_14 {m : Nat} {fl : Nat → Nat} {S : Nat → Nat → Int32} (_hm : m < 512) (h : zInv m fl S) (a1 a2 a3 a4 a5 a6 : Int32) : Sl_14 fl S a1 a2 a3 a4 a5 a6 ∧ zInv (m + 1) fl (Fl_14 fl S a1 a2 a3 a4 a5 a6) := by
  obtain ⟨d, A, rn, m', h0, hK, hB, hm', s⟩ := h.b0
  obtain ⟨g1, w, B, b1, b2, b3, b4, b5, b6, b7⟩ := o_14 h0 h.1.1.2.2.2.1 hK a1 a2 a3 a4 a5 a6
  have gT := w.ag (D := [(0, some 14), (78, some 1), (55, none)]) (by decide +kernel)
  have hd1 : S 78 1 = zI d := (h0.bm (zFX.rfl (S := S))).d
  refine ⟨g1, h.1.keep (w.ag (by decide +kernel)), d, B, m', ⟨b1, b2⟩, ⟨b3, b4⟩, ⟨(gT.slot (by decide)).trans h0.d, (gT.slot (by decide)).trans hd1⟩, b5, ⟨bk_go h0 hB b6 b2 b3 (w.ag (by decide +kernel)), by omega⟩, b3.so.mpr fun i hi hw => ?_⟩
  have t := b7 s i hi hw
  have e55 := gT.cell (a := 55) (by decide)
  unfold eS at t ⊢
  rw [e55]; exact t
theorem i_19 {m : Nat} {fl : Nat → Nat} {S : Nat → Nat → Int32} (_hm : m < 512) (h : zInv m fl S) (a1 a2 a3 a4 a5 a6 : Int32) {na : Nat} (hna : 194 ≤ na) (hnf : ∀ k, k < 3 → fl k + 7 < na) : Sl_19 fl na S a1 a2 a3 a4 a5 a6 ∧ zInv (m + 1) fl (Fl_19 fl na S a1 a2 a3 a4 a5 a6) := by
  obtain ⟨d, A, rn, m', h0, hK, hB, hm', s⟩ := h.b0
  obtain ⟨g1, F, g2, g3⟩ := o_19 h0 a1 a2 a3 a4 a5 a6 hna hnf
  exact ⟨g1, (h.item h0 hK hB hm' s g2).na hna hnf g3⟩
theorem i_23 {m : Nat} {fl : Nat → Nat} {S : Nat → Nat → Int32} (_hm : m < 512) (h : zInv m fl S) (a1 a2 a3 a4 a5 a6 : Int32) {na : Nat} (hna : 194 ≤ na) (hnf : ∀ k, k < 3 → fl k + 7 < na) : Sl_23 fl na S a1 a2 a3 a4 a5 a6 ∧ zInv (m + 1) fl (Fl_23 fl na S a1 a2 a3 a4 a5 a6) := by
  obtain ⟨d, A, rn, m', h0, hK, hB, hm', s⟩ := h.b0
  obtain ⟨g1, F, ⟨w, g2⟩, g3⟩ := o_23 h0 hK a1 a2 a3 a4 a5 a6 hna
  have hF : zInv (m + 1) fl F := zInv.up ⟨h.1.keep (w.ag (by decide +kernel)), .rk h0 hB hm' s (w.ag (by decide +kernel)) (w.ag (by decide +kernel)) g2⟩
  exact ⟨g1, hF.na hna hnf g3⟩
theorem i_40 {m : Nat} {fl : Nat → Nat} {S : Nat → Nat → Int32} (hm : m < 512) (h : zInv m fl S) (a1 a2 a3 a4 a5 a6 : Int32) : Sl_40 fl S a1 a2 a3 a4 a5 a6 ∧ zInv (m + 1) fl (Fl_40 fl S a1 a2 a3 a4 a5 a6) := by
  obtain ⟨d, A, rn, m', h0, hK, hB, hm', s⟩ := h.b0
  obtain ⟨g1, w, B, m2, b0, b1, b2, b3, b4, b5, b6⟩ := o_40 h0 h.1.1.2.2.1 h.1.1.2.2.2.2.1 hB (by omega) a1 a2 a3 a4 a5 a6
  exact ⟨g1, h.1.keep (w.ag (by decide +kernel)), .grow h0 hK s (w.ag (by decide +kernel)) b1 b2 b3 b4 b5 b6 (by omega)⟩
theorem i_41 {m : Nat} {fl : Nat → Nat} {S : Nat → Nat → Int32} (hm : m < 512) (h : zInv m fl S) (a1 a2 a3 a4 a5 a6 : Int32) : Sl_41 fl S a1 a2 a3 a4 a5 a6 ∧ zInv (m + 1) fl (Fl_41 fl S a1 a2 a3 a4 a5 a6) := by
  obtain ⟨d, A, rn, m', h0, hK, hB, hm', s⟩ := h.b0
  obtain ⟨g1, w, B, m2, b0, b1, b2, b3, b4, b5, b6⟩ := o_41 h0 hB (by omega) a1 a2 a3 a4 a5 a6
  exact ⟨g1, h.1.keep (w.ag (by decide +kernel)), .grow h0 hK s (w.ag (by decide +kernel)) b1 b2 b3 b4 b5 b6 (by omega)⟩
theorem i_42 {m : Nat} {fl : Nat → Nat} {S : Nat → Nat → Int32} (_hm : m < 512) (h : zInv m fl S) (a1 a2 a3 a4 a5 a6 : Int32) : Sl_42 fl S a1 a2 a3 a4 a5 a6 ∧ zInv (m + 1) fl (Fl_42 fl S a1 a2 a3 a4 a5 a6) := by
  obtain ⟨d, A, rn, m', h0, hK, hB, hm', s⟩ := h.b0
  obtain ⟨g1, w, ⟨B, b1, b2, b3, b4, b5⟩, cW⟩ := o_42 h0 h.1.1.2.2.2.2.2.2 a1 a2 a3 a4 a5 a6
  exact ⟨g1, h.1.chW cW w (by decide +kernel) (by decide +kernel) (by decide +kernel) (by decide +kernel) (by decide +kernel) (by decide +kernel), .grow h0 hK s (w.ag (by decide +kernel)) b1 b2 b3 b4 b5 (bk_go h0 hB b5.2.1 b2 b3 (w.ag (by decide +kernel))) (by omega)⟩
