/-! PURE: queries: the reference reads, asks, finds -/
/-- what it looks at to answer -/
def zIs2 (S U : Nat → Nat → Int32) (w : zWd) (m : Nat → Bool) : Prop := zWM 98 U w ∧ eY S U ∧ ∀ k, k < 30 → U 191 k = bI (m k)
theorem isF_of {S U : Nat → Nat → Int32} {p : Nat} {w : zWd} {m : Nat → Bool} (h : zIs2 S U w m) (hg : zRg w) (hp : p < 8) {i : Nat} (hi : i < 30) : F_M_isFound U (zI p) (zI i) = bI (kFnd S p w m i) ∧ Sf_M_isFound U (zI p) (zI i) := by
  obtain ⟨hw3, hy3, f4⟩ := h
  obtain ⟨s1, s2⟩ := M_sees_I hy3 hw3 hg hp hi
  unfold F_M_isFound Sf_M_isFound F_M_isFound_j26 kFnd
  rw [s1, decide_eq_true hi]
  cases q1 : vSee S w p i
  · simp only [Bool.false_eq_true, if_false, if_true, Bool.and_false]
    exact ⟨rfl, s2, trivial⟩
  · simp only [if_true, if_neg ne_10, zI_clamp (show i < 2147483648 by omega), f4 i hi, Bool.and_true]
    have vi : vp_in (zI i) 930 := vp_in_I (by omega) (by omega)
    cases m i
    · exact ⟨rfl, s2, vi, trivial⟩
    · exact ⟨rfl, s2, vi, trivial⟩
/-- what its answers are made of -/
def zAns (S U : Nat → Nat → Int32) (p : Nat) (w : zWd) (m : Nat → Bool) : Prop := (∀ i, i < 30 → F_M_isFound U (zI p) (zI i) = bI (kFnd S p w m i) ∧ Sf_M_isFound U (zI p) (zI i)) ∧ (∀ i f, i < 30 → f < 4 → F_M_valueFor 98 U (zI p) (zI i) (zI f) = vVal S w p i f ∧ Sf_M_valueFor 98 U (zI p) (zI i) (zI f)) ∧ zIs2 S U w m
theorem q_refx {fl : Nat → Nat} {S : Nat → Nat → Int32} {d : Nat} {A : zA} {rn : Nat} (h : zB0 fl S d A rn) (hI : zCI S) (hQ : zCQ S) {p : Nat} (hp : p < 8) {D : Int32} {b : Bool} (hb : b = true → D = zI d) {V : Nat → Nat → Int32} (hV : zFX S V) {q : Nat} {m : Nat → Bool} (hr : qTop (zXs S) (kK S p A.1 (qQ S A D p b) D) = .inr (q, m)) :
    ∃ U1 U2 U3, F_M_reads_0 V = (-1, U1) ∧ Sf_M_reads_0 V ∧ F_M_asks (z_uS U1 78 0 0) (zI p) D (bI b) = U2 ∧ Sf_M_asks (z_uS U1 78 0 0) (zI p) D (bI b) ∧ F_M_finds U2 (zI p) D = U3 ∧ Sf_M_finds U2 (zI p) D ∧ U1 78 1 = S 78 1 ∧ zAns S U3 p (qQ S A D p b).1 m ∧ U3 78 0 = 0 ∧ U3 193 0 = V 193 0 ∧ zWr zWF V U3 ∧ U2 78 1 = S 78 1 := by
  have hm : zTm (zXs S) V := hQ.m.cg (by rw [hV 78 (by omega) (by omega)]) (hV 185 (by omega) (by omega))
  have J := M_reads_I hm (kK_M S p A.1 (qQ S A D p b) D)
  rw [hr] at J
  obtain ⟨U1, r1, j1, j2, j3, j4, j5, j6, j7⟩ := J
  have c0 : ∀ k, k ≠ 78 → ¬ (186 ≤ k ∧ k ≤ 190) → z_uS U1 78 0 0 k = V k := fun k a b => (z_uS_ne _ _ _ a).trans (j3.1 k a b)
  have c78 : ∀ j, j ≠ 0 → ¬ (52 ≤ j ∧ j ≤ 54) → z_uS U1 78 0 0 78 j = S 78 j := fun j a b => by rw [uS_nj _ _ _ a, j3.2.1 j b, hV 78 (by omega) (by omega)]
  obtain ⟨U2, u1, u2, u3, u4⟩ := asked_I h hI hp hb (U := z_uS U1 78 0 0) (fun k a b => (c0 k (by omega) (by omega)).trans (hV k (by omega) (by omega))) (c78 2 (by omega) (by omega)) (c78 16 (by omega) (by omega))
  have e54 : U2 78 54 = zI r1 := by rw [u4.2 54 (by omega), uS_nj _ _ _ (by omega)]; exact j4
  have hT : zTr (kM S p A.1 (qQ S A D p b) D) U2 0 r1 m := j7.eq fun k hk j _ _ => by rw [u4.1 k (by omega) (by omega) (by omega) (by omega), z_uS_ne _ _ _ (by omega)]
  obtain ⟨U3, f1, f2, f3, f4⟩ := finds_I u3 e54 j5 j6 hT
  obtain ⟨⟨hvM, hvr⟩, hy, hk, hg, hcm, _⟩ := u3
  have hy3 : eY S U3 := ⟨fun k a => by
    rw [f3 124 (by omega), f3 125 (by omega), f3 126 (by omega), f3 128 (by omega), f3 129 (by omega), f3 130 (by omega)]; exact hy.1 k a, fun k a => by rw [f3 127 (by omega)]; exact hy.2 k a⟩
  have hw3 : zWM 98 U3 (qQ S A D p b).1 := hvM.1.ag fun k a b => f3 k (by omega)
  have his : zIs2 S U3 (qQ S A D p b).1 m := ⟨hw3, hy3, f4⟩
  refine ⟨U1, U2, U3, j1, j2, u1, u2, f1, f2, ?_, ⟨fun i hi => isF_of his hg hp hi, fun i f hi hf => M_valueFor_I hy3 h.k hw3 hg hp hi hf, his⟩, ?_, ?_, ?_, by rw [u4.2 1 (by omega)]; exact c78 1 (by omega) (by omega)⟩
  · rw [j3.2.1 1 (by omega), hV 78 (by omega) (by omega)]
  · rw [f3 78 (by omega), u4.2 0 (by omega), uS_at]
  · rw [f3 193 (by omega), u4.1 193 (by omega) (by omega) (by omega) (by omega), c0 193 (by omega) (by omega)]
  · exact (((zWQ.f j3.wr).trans (zWr.slot (by decide) _ _)).trans u4.wr).trans (zWf.one (a := 191) (by decide) f3)
theorem q_ref {fl : Nat → Nat} {S : Nat → Nat → Int32} {d : Nat} {A : zA} {rn : Nat} (h : zB0 fl S d A rn) (hI : zCI S) (hQ : zCQ S) {p : Nat} (hp : p < 8) {D : Int32} {b : Bool} (hb : b = true → D = zI d) {V : Nat → Nat → Int32} (hV : zFX S V) {q : Nat} {m : Nat → Bool} (hr : qTop (zXs S) (kK S p A.1 (qQ S A D p b) D) = .inr (q, m)) :
    ∃ U1 U2 U3, F_M_reads_0 V = (-1, U1) ∧ Sf_M_reads_0 V ∧ F_M_asks (z_uS U1 78 0 0) (zI p) D (bI b) = U2 ∧ Sf_M_asks (z_uS U1 78 0 0) (zI p) D (bI b) ∧ F_M_finds U2 (zI p) D = U3 ∧ Sf_M_finds U2 (zI p) D ∧ U1 78 1 = S 78 1 ∧ zAns S U3 p (qQ S A D p b).1 m ∧ U3 78 0 = 0 ∧ U3 193 0 = V 193 0 ∧ zWr zWF V U3 := by
  obtain ⟨U1, U2, U3, a1, a2, a3, a4, a5, a6, a7, a8, a9, b1, b2, -⟩ := q_refx h hI hQ hp hb hV hr
  exact ⟨U1, U2, U3, a1, a2, a3, a4, a5, a6, a7, a8, a9, b1, b2⟩
/-- the class reads, looks, finds -/
theorem q_cls {fl : Nat → Nat} {S : Nat → Nat → Int32} {d : Nat} {A : zA} {rn : Nat} (h : zB0 fl S d A rn) (hQ : zCQ S) {p : Nat} (hp : p < 8) {D : Int32} {q : Nat} {m : Nat → Bool} (hr : qTop (zXs S) (kK S p A.1 (qQ S A D p (decide (D = zI d))) D) = .inr (q, m)) :
    ∃ V1 V2 x V3, F_Query_compile S = (-1, V1) ∧ Sf_Query_compile S ∧ F_T_lookOn V1 (zI p) D = V2 ∧ Sf_T_lookOn V1 (zI p) D ∧ F_Finder_hits 28 V2 = (x, V3) ∧ Sf_Finder_hits 28 V2 ∧ (∀ k, k < 32 → zB x k = kFnd S p (qQ S A D p (decide (D = zI d))).1 m k) ∧ (∀ i f, i < 30 → f < 4 → F_Sight_value 28 V3 (zI i) (zI f) = vVal S (qQ S A D p (decide (D = zI d))).1 p i f ∧ Sf_Sight_value 28 V3 (zI i) (zI f)) ∧ zFX S V3 ∧ zWr zWF S V3 := by
  have I := T_compile_I hQ.t (kK S p A.1 (qQ S A D p (decide (D = zI d))) D)
  rw [hr] at I
  obtain ⟨V1, z, i1, i2, i3, i4, i5, i6, i7⟩ := I
  obtain ⟨V2, l1, l2, l3, l4, l5⟩ := lookOn_I h hp i3
  obtain ⟨x, V3, x1, x2, x3, x4, x5⟩ := hits_I l3 i4 (by rw [l5 19 (by omega)]; exact i5) (i6.eq fun k hk j _ => by rw [l5 k (by omega)]) (by rw [xRun_eq (V := V2) (T := V1) _ _ _ _ fun k hk i _ _ => by rw [l5 k (by omega)]]; exact i7)
  obtain ⟨hv, hst, hE, hk, hg, h5⟩ := l3
  have hst3 : zSt S (qQ S A D p (decide (D = zI d))).1 p 30 V3 := fun j hj => by
    rw [x4 36 (by omega), x4 41 (by omega), x4 42 (by omega)]; exact hst j hj
  have hw : zWr zWF S V3 := ((zWQ.f i3.wr).trans l4).trans (zWf.one (a := 18) (by decide) x4)
  refine ⟨V1, V2, x, V3, i1, i2, l1, l2, x1, x2, x3, fun i f hi hf => Sight_value_I (r := 28) (fun k a => by rw [x4 k (by omega)]; exact hE k a) hk hst3 (hv.1.ag (by rw [x4 28 (by omega)]) (x4 _ (by omega)) (x4 _ (by omega)) (x4 _ (by omega))) hg hi hf, fun k a b => by rw [x4 k (by omega), l5 k (by omega), i3.1 k (by omega) (by omega)], hw⟩
