/-! PURE: queries: the whole text, in both; fault -/
def qTop (X : zTx) (K : zKm) : zRs := qThen (qD X K 31 0) (fun q m => if q < X.2 then .inl q else .inr (q, m))
def zTt (X : zTx) (T : Nat → Nat → Int32) : Prop := T 19 7 = zI X.2 ∧ (∀ i, i < 30 → T 20 i = X.1 i ∧ zCh (X.1 i)) ∧ X.2 ≤ 30
def zTm (X : zTx) (U : Nat → Nat → Int32) : Prop := U 78 51 = zI X.2 ∧ (∀ i, i < 30 → U 185 i = X.1 i ∧ zCh (X.1 i)) ∧ X.2 ≤ 30
/-- what the class's compile leaves -/
def zCp (X : zTx) (K : zKm) (T : Nat → Nat → Int32) (r : zRs) : Prop := match r with
  | .inl e => ∃ V, F_Query_compile T = (zI e, V) ∧ Sf_Query_compile T ∧ zFq 0 0 T V ∧ e ≤ X.2
  | .inr (_, m) => ∃ V z, F_Query_compile T = (-1, V) ∧ Sf_Query_compile T ∧ zFq 0 0 T V ∧ z ≤ 30 ∧ V 19 8 = zI z ∧ sOk V 0 z ∧ xRun K V z 0 (some []) = some [m]
theorem T_compile_I {X : zTx} {T : Nat → Nat → Int32} (h : zTt X T) (K : zKm) : zCp X K T (qTop X K) := by
  generalize hT1 : z_uS (z_uS (z_uS (z_uS T 19 8 0) 19 9 0) 19 10 0) 19 11 1 = T1
  have hF1 : zFq 0 0 T T1 := by rw [← hT1]; exact ((((zFq.f (by omega) T _).trans (zFq.f (by omega) _ _) (Nat.le_refl _) (Nat.le_refl _)).trans (zFq.f (by omega) _ _) (Nat.le_refl _) (Nat.le_refl _)).trans (zFq.f (by omega) _ _) (Nat.le_refl _) (Nat.le_refl _))
  have hQ : zQs X T1 0 0 0 true := by
    refine ⟨⟨by rw [hF1.2.1 7 (by omega)]; exact h.1, ?_, by rw [hF1.1 20 (by omega) (by omega)]; exact h.2.1, h.2.2, Nat.zero_le _⟩, ?_, ?_, ?_, by omega⟩
    · rw [← hT1, uS_nj _ _ _ (by omega), uS_at]; rfl
    · rw [← hT1, uS_nj _ _ _ (by omega), uS_nj _ _ _ (by omega), uS_nj _ _ _ (by omega), uS_at]; rfl
    · rw [← hT1, uS_nj _ _ _ (by omega), uS_nj _ _ _ (by omega), uS_at]; rfl
    · rw [← hT1, uS_at]; rfl
  have I := T_query (X := X) (K := K) 31 0 T1 1300 0 0 0 0 (by have := h.2.2; omega) hQ (Nat.le_refl _) rfl (Nat.le_refl _) (fun j a b => by omega) (Or.inl rfl)
  unfold qTop
  cases hr : qD X K 31 0 with
  | inl e =>
    rw [hr] at I
    obtain ⟨w, V, i1, i2, i3, i4, i5, i6⟩ := I
    rw [zI_0] at i1 i2
    refine ⟨V, ?_, ?_, hF1.trans i6 (Nat.le_refl _) (Nat.le_refl _), i4⟩
    · unfold F_Query_compile
      rw [hT1, i1]
      show (if w = 0 then (V 19 10, V) else if V 19 11 = 0 then if V 19 9 = 0 then (-1, V) else (V 19 10, V) else (V 19 10, V)) = (zI e, V)
      rw [i3]
      by_cases w0 : w = 0
      · rw [if_pos w0]
      · rw [if_neg w0]
        by_cases w1 : V 19 11 = 0
        · rw [if_pos w1]
          by_cases w2 : V 19 9 = 0
          · rcases i5 with g | g | g
            · exact absurd g w0
            · exact absurd w1 g
            · exact absurd w2 g
          · rw [if_neg w2]
        · rw [if_neg w1]
    · unfold Sf_Query_compile
      rw [hT1]; exact ⟨i2, trivial⟩
  | inr y =>
    obtain ⟨q, m⟩ := y
    rw [hr] at I
    obtain ⟨V, f', cnt', z', i1, i2, i3, i4, i5, i6, i7, i8, i9, i10⟩ := I
    rw [zI_0] at i1 i2
    have hqX := i3.1.2.2.2.2
    have h30 := h.2.2
    have hzq := i3.2.2.2.2
    show zCp X K T (if q < X.2 then .inl q else .inr (q, m))
    by_cases hq : q < X.2
    · rw [if_pos hq]
      obtain ⟨f1, rfl⟩ : ∃ g, f' = g + 1 := ⟨f' - 1, by omega⟩
      have hg : F_Query_goesOnWell V = (0, V) ∧ Sf_Query_goesOnWell V := by
        have : V 19 9 ≤ 0 := by rw [i3.2.2.1]; decide
        unfold F_Query_goesOnWell Sf_Query_goesOnWell F_Query_goesOnWell_j24 Sf_Query_goesOnWell_j24
        rw [if_pos this, if_pos this, if_pos rfl, if_pos rfl]; exact ⟨rfl, trivial⟩
      obtain ⟨l1, l2⟩ := L24_on (f := f1) (cnt := cnt') i3.1 i3.2.2.2.1 hq i7 hg.1 hg.2
      obtain ⟨e1, e2⟩ := L24_0 (show 1 ≤ f1 by omega) V (zI (cnt' + 1))
      refine ⟨V, ?_, ?_, hF1.trans (i4.w (Nat.le_refl _) (Nat.le_refl _)) (Nat.le_refl _) (Nat.le_refl _), hqX⟩
      · unfold F_Query_compile
        rw [hT1, i1, l1, e1]
        show (if (0 : Int32) = 0 then (V 19 10, V) else _) = _
        rw [if_pos rfl, i3.1.2.1]
      · unfold Sf_Query_compile
        rw [hT1]; exact ⟨i2 (l2 e2), trivial⟩
    · rw [if_neg hq]
      obtain ⟨e1, e2⟩ := L24_end i3.1 (show X.2 ≤ q by omega) (show 1 ≤ f' by omega) (zI cnt')
      refine ⟨V, z', ?_, ?_, hF1.trans (i4.w (Nat.le_refl _) (Nat.le_refl _)) (Nat.le_refl _) (Nat.le_refl _), by omega, i3.2.1, i9, ?_⟩
      · unfold F_Query_compile
        rw [hT1, i1, e1]
        show (if (1 : Int32) = 0 then _ else if V 19 11 = 0 then if V 19 9 = 0 then (-1, V) else (V 19 10, V) else (V 19 10, V)) = _
        rw [if_neg ne_10, if_pos (show V 19 11 = 0 by rw [i3.2.2.2.1]; rfl), if_pos (show V 19 9 = 0 by rw [i3.2.2.1]; rfl)]
      · unfold Sf_Query_compile
        rw [hT1]; exact ⟨i2 e2, trivial⟩
      · have := i10 []
        rw [Nat.sub_zero] at this
        exact this
/-- what the reference's reading leaves -/
def zRd (X : zTx) (M : zKm) (U : Nat → Nat → Int32) (r : zRs) : Prop := match r with
  | .inl e => ∃ V, F_M_reads_0 U = (zI e, V) ∧ Sf_M_reads_0 U ∧ zFm 0 U V ∧ e ≤ X.2
  | .inr (_, m) => ∃ V r1, F_M_reads_0 U = (-1, V) ∧ Sf_M_reads_0 U ∧ zFm 0 U V ∧ V 78 54 = zI r1 ∧ 0 < r1 ∧ r1 ≤ 30 ∧ zTr M V 0 r1 m
theorem M_reads_I {X : zTx} {U : Nat → Nat → Int32} (h : zTm X U) {K M : zKm} (hK : zKl K M) : zRd X M U (qTop X K) := by
  generalize hU1 : z_uS (z_uS (z_uS U 78 52 0) 78 53 (-1)) 78 54 0 = U1
  have hF1 : zFm 0 U U1 := by rw [← hU1]; exact ((zFm.f (by omega) U _).tf (by omega) _).tf (by omega) _
  have hQ : zMq X U1 0 0 := by
    refine ⟨⟨by rw [hF1.2.1 51 (by omega)]; exact h.1, ?_, by rw [hF1.1 185 (by omega) (by omega)]; exact h.2.1, h.2.2, Nat.zero_le _⟩, ?_, ?_, Nat.le_refl _⟩
    · rw [← hU1, uS_nj _ _ _ (by omega), uS_nj _ _ _ (by omega), uS_at]; rfl
    · rw [← hU1, uS_nj _ _ _ (by omega), uS_at]
    · rw [← hU1, uS_at]; rfl
  have I := M_query_all (M := M) hK 31 0 0 U1 (by have := h.2.2; omega) hQ
  unfold qTop
  cases hr : qD X K 31 0 with
  | inl e =>
    rw [hr] at I
    obtain ⟨x, V, i1, i2, i3, i4, ⟨p', i5⟩, i6⟩ := I
    have w := zMe_w i5 i3 i4
    refine ⟨V, ?_, ?_, hF1.trans i6 (Nat.le_refl _), i4⟩
    · unfold F_M_reads_0 F_M_query31
      rw [hU1, i1]
      show (if V 78 53 = -1 then _ else (V 78 53, V)) = _
      rw [if_neg w, i3]
    · unfold Sf_M_reads_0 Sf_M_query31
      rw [hU1]; exact ⟨i2, trivial⟩
  | inr y =>
    obtain ⟨q, m⟩ := y
    rw [hr] at I
    obtain ⟨V, r1, i1, i2, i3, i4, i5, i6⟩ := I
    have hqX := i3.1.2.2.2.2
    have h30 := h.2.2
    show zRd X M U (if q < X.2 then .inl q else .inr (q, m))
    by_cases hq : q < X.2
    · rw [if_pos hq]
      have hnl : ¬ V 78 51 ≤ V 78 52 := by rw [i3.1.1, i3.1.2.1, zI_le (by omega) (by omega)]; omega
      refine ⟨mE V q, ?_, ?_, (hF1.trans i5 (Nat.le_refl _)).tf (by omega) _, hqX⟩
      · unfold F_M_reads_0 F_M_query31
        rw [hU1, i1]
        show (if V 78 53 = -1 then (if V 78 51 ≤ V 78 52 then _ else (z_let (F_M_fails V) (fun S40 => (S40 78 53, S40)))) else _) = _
        rw [if_pos i3.2.1, if_neg hnl, M_fails_I i3.1 i3.2.1]
        show ((mE V q) 78 53, mE V q) = _
        unfold mE
        rw [uS_at]
      · unfold Sf_M_reads_0 Sf_M_query31
        rw [hU1]; exact ⟨i2, trivial⟩
    · rw [if_neg hq]
      have hl : V 78 51 ≤ V 78 52 := by rw [i3.1.1, i3.1.2.1, zI_le (by omega) (by omega)]; omega
      refine ⟨V, r1, ?_, ?_, hF1.trans i5 (Nat.le_refl _), i3.2.2.1, by omega, i3.r, i6⟩
      · unfold F_M_reads_0 F_M_query31
        rw [hU1, i1]
        show (if V 78 53 = -1 then (if V 78 51 ≤ V 78 52 then (V 78 53, V) else _) else _) = _
        rw [if_pos i3.2.1, if_pos hl, i3.2.1]
      · unfold Sf_M_reads_0 Sf_M_query31
        rw [hU1]; exact ⟨i2, trivial⟩
/-- the text of both -/
def zXs (S : Nat → Nat → Int32) : zTx := (S 20, (S 19 7).toNatClampNeg)
theorem zCQ.t {S : Nat → Nat → Int32} (h : zCQ S) : zTt (zXs S) S := ⟨zI_of h.lo, fun i hi => ⟨rfl, h.ch i hi⟩, by have := i_clamp h.lo; have := h.hi; show (S 19 7).toNatClampNeg ≤ 30; omega⟩
theorem zCQ.m {S : Nat → Nat → Int32} (h : zCQ S) : zTm (zXs S) S := ⟨by rw [← h.len]; exact zI_of h.lo, fun i hi => ⟨(h.text i hi).symm, h.ch i hi⟩, h.t.2.2⟩
theorem zTm.cg {X : zTx} {U V : Nat → Nat → Int32} (h : zTm X U) (e1 : V 78 51 = U 78 51) (e2 : V 185 = U 185) : zTm X V := ⟨by rw [e1]; exact h.1, by rw [e2]; exact h.2.1, h.2.2⟩
theorem zTt.cg {X : zTx} {U V : Nat → Nat → Int32} (h : zTt X U) (e1 : V 19 7 = U 19 7) (e2 : V 20 = U 20) : zTt X V := ⟨by rw [e1]; exact h.1, by rw [e2]; exact h.2.1, h.2.2⟩
def zWQ : List zLoc := [(19, some 8), (19, some 9), (19, some 10), (19, some 11), (21, none), (22, none), (23, none), (24, none), (25, none), (26, none), (78, some 0), (78, some 52), (78, some 53), (78, some 54), (186, none), (187, none), (188, none), (189, none), (190, none)]
theorem zFq.wr {S V : Nat → Nat → Int32} (h : zFq 0 0 S V) : zWr zWQ S V := by
  intro k j hc
  by_cases q : k = 19
  · have j8 := zCov.nj hc (a := 19) (s := 8) (by decide) (by omega) q
    have j9 := zCov.nj hc (a := 19) (s := 9) (by decide) (by omega) q
    have j10 := zCov.nj hc (a := 19) (s := 10) (by decide) (by omega) q
    have j11 := zCov.nj hc (a := 19) (s := 11) (by decide) (by omega) q
    subst q
    exact h.2.1 j (by omega)
  · have n1 := zCov.ne hc (a := 21) (by decide) (by omega)
    have n2 := zCov.ne hc (a := 22) (by decide) (by omega)
    have n3 := zCov.ne hc (a := 23) (by decide) (by omega)
    have n4 := zCov.ne hc (a := 24) (by decide) (by omega)
    have n5 := zCov.ne hc (a := 25) (by decide) (by omega)
    have n6 := zCov.ne hc (a := 26) (by decide) (by omega)
    rw [h.1 k q (by omega)]
theorem zFm.wr {S V : Nat → Nat → Int32} (h : zFm 0 S V) : zWr zWQ S V := by
  intro k j hc
  by_cases q : k = 78
  · have j8 := zCov.nj hc (a := 78) (s := 52) (by decide) (by omega) q
    have j9 := zCov.nj hc (a := 78) (s := 53) (by decide) (by omega) q
    have j10 := zCov.nj hc (a := 78) (s := 54) (by decide) (by omega) q
    subst q
    exact h.2.1 j (by omega)
  · have n1 := zCov.ne hc (a := 186) (by decide) (by omega)
    have n2 := zCov.ne hc (a := 187) (by decide) (by omega)
    have n3 := zCov.ne hc (a := 188) (by decide) (by omega)
    have n4 := zCov.ne hc (a := 189) (by decide) (by omega)
    have n5 := zCov.ne hc (a := 190) (by decide) (by omega)
    rw [h.1 k q (by omega)]
def K0 : zKm := (fun _ _ _ _ _ => false, fun _ _ _ _ => false, fun _ _ _ _ => false)
theorem K0_l : zKl K0 K0 := ⟨fun _ _ _ _ _ => rfl, fun _ _ => rfl, fun _ _ _ => rfl, fun _ _ _ => rfl, fun _ _ _ _ => rfl, fun _ _ _ => rfl, fun _ _ _ _ => rfl, fun _ _ _ _ => rfl, fun _ _ _ _ => rfl⟩
theorem o_26 (fl : Nat → Nat) {S : Nat → Nat → Int32} (a1 a2 a3 a4 a5 a6 : Int32) (h : zCQ S) : Sl_26 fl S a1 a2 a3 a4 a5 a6 ∧ zWr zWQ S (Fl_26 fl S a1 a2 a3 a4 a5 a6) := by
  have I := T_compile_I h.t K0
  have hm : ∀ V, zFq 0 0 S V → zTm (zXs S) (z_uS V 78 0 0) := fun V g => h.m.cg (by rw [uS_nj _ _ _ (by omega), g.1 78 (by omega) (by omega)]) (by rw [z_uS_ne _ _ _ (by omega), g.1 185 (by omega) (by omega)])
  have w0 : ∀ V : Nat → Nat → Int32, zWr zWQ V (z_uS V 78 0 0) := fun V => zWr.slot (by decide) V _
  unfold Sl_26 Fl_26 F_T_fault Sf_T_fault F_M_fault Sf_M_fault
  generalize hr : qTop (zXs S) K0 = r at I
  cases r with
  | inl e =>
    obtain ⟨V, i1, i2, i3, i4⟩ := I
    have J := M_reads_I (hm V i3) K0_l
    rw [hr] at J
    obtain ⟨W, j1, j2, j3, j4⟩ := J
    rw [i1]
    dsimp only
    rw [j1]
    exact ⟨⟨⟨i2, trivial⟩, ⟨j2, trivial⟩, rfl⟩, (i3.wr.trans (w0 V)).trans j3.wr⟩
  | inr y =>
    obtain ⟨q, m⟩ := y
    obtain ⟨V, z, i1, i2, i3, i4⟩ := I
    have J := M_reads_I (hm V i3) K0_l
    rw [hr] at J
    obtain ⟨W, r1, j1, j2, j3, j4⟩ := J
    rw [i1]
    dsimp only
    rw [j1]
    exact ⟨⟨⟨i2, trivial⟩, ⟨j2, trivial⟩, rfl⟩, (i3.wr.trans (w0 V)).trans j3.wr⟩
