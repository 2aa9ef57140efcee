/-! PURE: unbulk, the call -/
def zBKr (S : Nat → Nat → Int32) (n b : Nat) (rf : Nat → Nat) (p f fr ct : Nat) (v : Int32) (it : Nat → Nat) (od : Nat → Int32) : Prop := (p < 8 ∧ f < 3 ∧ ct ≤ 30 ∧ rf (b + 1) = rf b + ct ∧ fr + ct ≤ n) ∧ (S 72 b = zI p ∧ S 73 b = zI f ∧ S 74 b = zI fr ∧ S 75 b = zI ct) ∧ (S 177 b = zI p ∧ S 178 b = zI f ∧ S 179 b = v) ∧ ∀ j, j < ct → (S 4 (fr + j) = zI (it j) ∧ S 5 (fr + j) = zI (1 + f) ∧ S 7 (fr + j) = od j ∧ S 8 (fr + j) = v) ∧ it j < 30 ∧ S 181 (rf b + j) = zI (it j) ∧ S 182 (rf b + j) = od j
/-- the bulks: m of them, n entries -/
def zBK (S : Nat → Nat → Int32) (n m : Nat) : Prop := S 71 4 = zI m ∧ S 78 41 = zI m ∧ ∃ rf : Nat → Nat, rf m ≤ n ∧ (∀ b, b ≤ m → S 180 b = zI (rf b)) ∧ ∀ b, b < m → ∃ p f fr ct v it od, zBKr S n b rf p f fr ct v it od
theorem zBK.go {S F : Nat → Nat → Int32} {n n' m : Nat} (h : zBK S n m) (hn : n ≤ n') (e1 : F 71 4 = S 71 4) (e2 : F 78 41 = S 78 41) (e3 : ∀ k, 72 ≤ k ∧ k ≤ 75 ∨ 177 ≤ k ∧ k ≤ 182 → F k = S k) (e4 : ∀ k, k < n → F 4 k = S 4 k ∧ F 5 k = S 5 k ∧ F 7 k = S 7 k ∧ F 8 k = S 8 k) : zBK F n' m := by
  obtain ⟨h1, h2, rf, h3, h4, h5⟩ := h
  refine ⟨e1.trans h1, e2.trans h2, rf, by omega, fun b hb => by rw [e3 180 (by omega)]; exact h4 b hb, fun b hb => ?_⟩
  obtain ⟨p, f, fr, ct, v, it, od, ⟨a1, a2, a3, a4, a5⟩, c, g, k⟩ := h5 b hb
  refine ⟨p, f, fr, ct, v, it, od, ⟨a1, a2, a3, a4, by omega⟩, by rw [e3 72 (by omega), e3 73 (by omega), e3 74 (by omega), e3 75 (by omega)]; exact c, by rw [e3 177 (by omega), e3 178 (by omega), e3 179 (by omega)]; exact g, fun j hj => ?_⟩
  obtain ⟨x1, x2, x3, x4⟩ := e4 (fr + j) (by omega)
  rw [x1, x2, x3, x4, e3 181 (by omega), e3 182 (by omega)]
  exact k j hj
theorem zBK.pop {S : Nat → Nat → Int32} {n m : Nat} (h : zBK S n (m + 1)) : zBK (z_uS (z_uS S 71 4 (zI m)) 78 41 (zI m)) n m := by
  obtain ⟨h1, h2, rf, h3, h4, h5⟩ := h
  have e : ∀ k, k ≠ 71 → k ≠ 78 → (z_uS (z_uS S 71 4 (zI m)) 78 41 (zI m)) k = S k := fun k a b => by rw [z_uS_ne _ _ _ b, z_uS_ne _ _ _ a]
  obtain ⟨p, f, fr, ct, v, it, od, ⟨a1, a2, a3, a4, a5⟩, -⟩ := h5 m (by omega)
  refine ⟨by rw [z_uS_ne _ _ _ (by omega), uS_at], by rw [uS_at], rf, by omega, fun b hb => by rw [e 180 (by omega) (by omega)]; exact h4 b (by omega), fun b hb => ?_⟩
  obtain ⟨p, f, fr, ct, v, it, od, k⟩ := h5 b (by omega)
  refine ⟨p, f, fr, ct, v, it, od, ?_⟩
  unfold zBKr
  rw [e 72 (by omega) (by omega), e 73 (by omega) (by omega), e 74 (by omega) (by omega), e 75 (by omega) (by omega), e 177 (by omega) (by omega), e 178 (by omega) (by omega), e 179 (by omega) (by omega), e 4 (by omega) (by omega), e 5 (by omega) (by omega), e 7 (by omega) (by omega), e 8 (by omega) (by omega), e 181 (by omega) (by omega), e 182 (by omega) (by omega)]
  exact k
/-- an entry known by its cells -/
theorem zLC_col {S : Nat → Nat → Int32} {k i c : Nat} {e : zEnt} {o a : Int32} (he : zEok e) (h : zLC S k e) (hi : i < 30) (hc : c < 9) (h4 : S 4 k = zI i) (h5 : S 5 k = zI c) (h7 : S 7 k = o) (h8 : S 8 k = a) : ∃ x, e = (2, i, c, x, o, a) := by
  obtain ⟨g4, g5, g6, g7, g8⟩ := h
  have n14 : ¬ zI c = 14 := by rw [show (14 : Int32) = zI 14 from rfl, zI_inj (by omega) (by omega)]; omega
  have n13 : ¬ zI c = 13 := by rw [show (13 : Int32) = zI 13 from rfl, zI_inj (by omega) (by omega)]; omega
  obtain ⟨t, i', c', x, o', a'⟩ := e
  rcases he with ⟨q, -⟩ | ⟨q, -⟩ | ⟨q, q1, q2⟩ | ⟨q, q1, q2, -⟩
  · have q' : t = 0 := q
    subst q'
    exact absurd (h5.symm.trans g5) n14
  · have q' : t = 1 := q
    subst q'
    exact absurd (h5.symm.trans g5) n13
  · have q' : t = 2 := q
    subst q'
    have q1' : i' < 30 := q1
    have q2' : c' < 9 := q2
    have e4 : zI i = zI i' := h4.symm.trans g4
    have e5 : zI c = zI c' := h5.symm.trans g5
    have e7 : o = o' := h7.symm.trans g7
    have e8 : a = a' := h8.symm.trans g8
    have r1 := (zI_inj (by omega) (by omega)).mp e4
    have r2 := (zI_inj (by omega) (by omega)).mp e5
    subst r1 r2 e7 e8
    exact ⟨x, rfl⟩
  · have q' : t = 3 := q
    subst q'
    have q2' : c' < 3 := q2
    have e5 : zI c = zI (10 + c') := h5.symm.trans g5
    have r2 := (zI_inj (by omega) (by omega)).mp e5
    omega
theorem zLp.ent {S F : Nat → Nat → Int32} {B : zA} {n : Nat} (h : zLp S B) (hF : zRC F B) (h17 : S 1 7 = zI n) (hn : n ≤ 800) (hB : B.2.1 ≤ 800) : n ≤ B.2.1 ∧ ∀ k, k < n → F 4 k = S 4 k ∧ F 5 k = S 5 k ∧ F 7 k = S 7 k ∧ F 8 k = S 8 k := by
  obtain ⟨n0, L, h1, h2, h3⟩ := h
  have e := h1.size
  have en : n0 = n := (zI_inj (by omega) (by omega)).mp (e.symm.trans h17)
  subst en
  refine ⟨h2, fun k hk => ?_⟩
  obtain ⟨a4, a5, -, a7, a8⟩ := hF.1.ent k (by omega)
  obtain ⟨b4, b5, -, b7, b8⟩ := h1.ent k hk
  rw [h3 k hk] at a4 a5 a7 a8
  exact ⟨a4.trans b4.symm, a5.trans b5.symm, a7.trans b7.symm, a8.trans b8.symm⟩
def zDBk : List zLoc := [(71, some 4), (72, none), (73, none), (74, none), (75, none), (78, some 41), (177, none), (178, none), (179, none), (180, none), (181, none), (182, none)]
def zW41 : List zLoc := (71, some 4) :: (78, some 41) :: zWI
theorem zW41_in : ∀ q ∈ zWI, q ∈ zW41 := fun q h => List.mem_cons_of_mem _ (List.mem_cons_of_mem _ h)
theorem zAg.bk {S F : Nat → Nat → Int32} (g : zAg zDBk S F) : ∀ k, 72 ≤ k ∧ k ≤ 75 ∨ 177 ≤ k ∧ k ≤ 182 → F k = S k := by
  intro k hk
  have : ∀ k, k < 194 → (72 ≤ k ∧ k ≤ 75 ∨ 177 ≤ k ∧ k ≤ 182) → ((k, none) : zLoc) ∈ zDBk := by decide +kernel
  exact g.cell (by rw [if_pos (show k < 194 by omega)]; exact this k (by omega) hk)
theorem zEnd.bk {fl : Nat → Nat} {S F : Nat → Nat → Int32} {d : Nat} {A : zA} {rn m : Nat} (h : zB0 fl S d A rn) (g : zEnd S F d) (hK : zBK S A.2.1 m) : ∃ B, zOk d B ∧ B.2.1 ≤ 800 ∧ zRC F B ∧ zRM 86 F B ∧ zCN S B ∧ zBK F B.2.1 m := by
  obtain ⟨g1, B, b1, b2, b3, b4, b5⟩ := g
  obtain ⟨p1, p2⟩ := b5.2.1.ent b3 h.c.1.size h.n b2
  have ga : zAg zDBk S F := g1.ag (by decide +kernel)
  exact ⟨B, b1, b2, b3, b4, b5, hK.go p1 (ga.slot (a := 71) (j := 4) (by decide)) (ga.slot (a := 78) (j := 41) (by decide)) ga.bk p2⟩
theorem o_41 {fl : Nat → Nat} {S : Nat → Nat → Int32} {d : Nat} {A : zA} {rn m : Nat} (h : zB0 fl S d A rn) (hK : zBK S A.2.1 m) (hm : m ≤ 512) (a1 a2 a3 a4 a5 a6 : Int32) : Sl_41 fl S a1 a2 a3 a4 a5 a6 ∧ zWr zW41 S (Fl_41 fl S a1 a2 a3 a4 a5 a6) ∧ ∃ B m', m' ≤ m ∧ zOk d B ∧ B.2.1 ≤ 800 ∧ zRC (Fl_41 fl S a1 a2 a3 a4 a5 a6) B ∧ zRM 86 (Fl_41 fl S a1 a2 a3 a4 a5 a6) B ∧ zCN S B ∧ zBK (Fl_41 fl S a1 a2 a3 a4 a5 a6) B.2.1 m' := by
  suffices g : zOpQ (fun E => (if E = "java/lang/IllegalStateException" then 1 else 0)) (fun E => E = "java/lang/IllegalStateException") (fun x => x) (F_T_unbulk S) (Sf_T_unbulk S) (fun U => F_M_unbulk fl U) (fun U => Sf_M_unbulk fl U) (fun W => zWr zW41 S W ∧ ∃ B m', m' ≤ m ∧ zOk d B ∧ B.2.1 ≤ 800 ∧ zRC W B ∧ zRM 86 W B ∧ zCN S B ∧ zBK W B.2.1 m') from by
    have eL : F_L_unbulk S = LQ (fun E => (if E = "java/lang/IllegalStateException" then 1 else 0)) (fun x => x) (F_T_unbulk S) := by
      unfold F_L_unbulk LQ
      generalize F_T_unbulk S = t
      obtain ⟨r, s⟩ := t
      cases r <;> exact Eq.refl _
    have eM : ∀ Z : Nat → Nat → Int32, F_M_thrown Z = Z 78 0 := fun Z => Eq.refl _
    unfold Sl_41 Fl_41 Sf_L_unbulk
    rw [eL, eM]
    unfold zOpQ at g
    dsimp only at g
    generalize F_M_unbulk fl (LQ (fun E => (if E = "java/lang/IllegalStateException" then 1 else 0)) (fun x => x) (F_T_unbulk S)).2 = r at g ⊢
    exact g
  have hn := h.n
  have h17 : S 1 7 = zI A.2.1 := h.c.1.size
  have post : ∀ W, zEnd S W d → zWr zW41 S W ∧ ∃ B m', m' ≤ m ∧ zOk d B ∧ B.2.1 ≤ 800 ∧ zRC W B ∧ zRM 86 W B ∧ zCN S B ∧ zBK W B.2.1 m' := by
    intro W g
    obtain ⟨B, c1, c2, c3, c4, c5, c6⟩ := g.bk h hK
    exact ⟨g.1.mono zW41_in, B, m, Nat.le_refl _, c1, c2, c3, c4, c5, c6⟩
  obtain ⟨k1, k2, rf, k3, k4, k5⟩ := id hK
  cases m with
  | zero =>
    have e1 : S 71 4 ≤ 0 := by rw [k1]; decide
    have e2 : S 78 41 = 0 := k2
    refine zOpQ_err (E := "java/lang/IllegalStateException") (V := S) (x := 0) (W := z_uS S 78 0 1) ?_ ?_ rfl (by decide) ?_ ?_ (by rw [uS_at]; rfl) (post _ (zEnd_of (Or.inl zFCX.rfl) (zFMX.thr _ _) h.ok h.ns h.c (h.m.thr _)))
    · unfold F_T_unbulk; rw [if_pos e1]
    · unfold Sf_T_unbulk; rw [if_pos e1]; trivial
    · show F_M_unbulk fl S = _
      unfold F_M_unbulk F_M_unbulk_j13; rw [if_pos e2, if_neg le_10]
    · show Sf_M_unbulk fl S
      unfold Sf_M_unbulk Sf_M_unbulk_j13; rw [if_pos e2, if_neg le_10]; trivial
  | succ b =>
    obtain ⟨p, f, fr, ct, v, it, od, ⟨r1, r2, r3, r4, r5⟩, ⟨s1, s2, s3, s4⟩, ⟨u1, u2, u3⟩, en⟩ := k5 b (by omega)
    have hrm : rf b + ct ≤ 800 := by omega
    have hB : zBe A f fr ct v it od := by
      refine ⟨r5, fun j hj => ?_⟩
      obtain ⟨⟨x4, x5, x7, x8⟩, x9, -⟩ := en j hj
      exact zLC_col (h.ok.w (fr + j) (by omega)).1 (h.c.1.ent (fr + j) (by omega)) x9 (by omega) x4 x5 x7 x8
    have hCX : zCX S S d := ⟨fun k hk => rfl, fun k hk => rfl, h.d⟩
    have hI : zUi d A 800 A := ⟨h.ok, hn, zNb.rfl⟩
    obtain ⟨V, v1, v2, v3, v4, v5⟩ := T_un_L r1 r2 (show b < 512 by omega) hB hn ct 0 1300 800 S A (by omega) (by omega) (by omega) hCX h.c hI s1
    rw [Nat.add_zero] at v1 v2
    generalize hX : aUn S d p f v it od ct 0 A = X at v4 v5
    obtain ⟨hO, hN, hnb⟩ := v5
    obtain ⟨D, d1, d2, d3, d4⟩ := T_lim (m := A.2.1) v4 hO (by omega) hnb.1.1
    obtain ⟨q1, q2⟩ := aLim_ok (m := A.2.1) hO hnb.1.1 hn
    have hfcx : zFCX S D := v3.trans d3
    have e0 : ¬ S 71 4 ≤ 0 := by rw [k1, show (0 : Int32) = zI 0 from rfl, zI_le (by omega) (by omega)]; omega
    have eb : zI (b + 1) - 1 = zI b := by rw [show (1 : Int32) = zI 1 from rfl, zI_sub (by omega) (by omega)]; congr 1
    have e1f : (1 : Int32) + zI f = zI (1 + f) := by rw [show (1 : Int32) = zI 1 from rfl, zI_add]
    have z73 : zAt (S 73) 512 (zI b) = zI f := by rw [zAt_I (by omega) (by omega)]; exact s2
    have z74 : zAt (S 74) 512 (zI b) = zI fr := by rw [zAt_I (by omega) (by omega)]; exact s3
    have z75 : zAt (S 75) 512 (zI b) = zI ct := by rw [zAt_I (by omega) (by omega)]; exact s4
    have hret : V 1 7 - zI A.2.1 = zI (X.2.1 - A.2.1) := by rw [v4.1.size, zI_sub hnb.1.1 (by omega)]
    have hT : F_T_unbulk S = (if X.2.1 ≤ 800 then ((.inr (zI (X.2.1 - A.2.1)) : String ⊕ Int32), z_uS D 71 4 (zI b)) else (.inl "java/lang/IllegalStateException", D)) ∧ Sf_T_unbulk S := by
      unfold F_T_unbulk Sf_T_unbulk
      rw [if_neg e0, if_neg e0]
      simp only [k1, eb, z73, z74, z75, e1f, zI_add, h17, v1, d1, hret]
      refine ⟨?_, v2, d2, trivial⟩
      by_cases r8 : X.2.1 ≤ 800
      · simp only [if_pos r8, if_neg ne_10]
      · simp only [if_neg r8, if_true]
    have hM : ∀ U, zBM fl S U d A rn → zFX S U → ∃ W, F_M_unbulk fl U = (if X.2.1 ≤ 800 then (zI (X.2.1 - A.2.1), z_uS (z_uS W 78 0 0) 78 41 (zI b)) else (0, z_uS W 78 0 1)) ∧ Sf_M_unbulk fl U ∧ zFMX U W ∧ zRM 86 W (aLim A.2.1 X) := by
      intro U hu hx
      have h0 := hu.thr 0
      have hsz : U 78 2 = zI A.2.1 := hu.m.1.size
      have e78 : U 78 41 = zI (b + 1) := by rw [hx 78 (by omega) (by omega)]; exact k2
      have hR : zBr (z_uS U 78 0 0) b p f (rf b) ct v it od := by
        have g : ∀ k, 177 ≤ k → k ≤ 182 → (z_uS U 78 0 0) k = S k := fun k a c => by rw [z_uS_ne _ _ _ (by omega), hx k (by omega) (by omega)]
        refine ⟨by rw [uS_nj _ _ _ (by omega)]; exact e78, by rw [g 177 (by omega) (by omega)]; exact u1, by rw [g 178 (by omega) (by omega)]; exact u2, by rw [g 179 (by omega) (by omega)]; exact u3, ?_, fun j hj => ?_⟩
        · rw [g 180 (by omega) (by omega), k4 (b + 1) (by omega), r4]
        · rw [g 181 (by omega) (by omega), g 182 (by omega) (by omega)]; exact (en j hj).2.2
      have e180 : U 180 b = zI (rf b) := by rw [hx 180 (by omega) (by omega)]; exact k4 b (by omega)
      obtain ⟨Y, y1, y2, y3, y4⟩ := M_un_L (zI A.2.1) r1 r2 (show b < 512 by omega) hrm hB ct 0 1300 800 (z_uS U 78 0 0) A (by omega) (by omega) (by omega) h0.bx h0.m hI hR
      rw [Nat.add_zero] at y1 y2
      rw [hX] at y4
      obtain ⟨W, w1, w2, w3, w4⟩ := M_lim0 (fl := fl) (m := A.2.1) y4 hO (by omega) hnb.1.1
      have hfr : zFMX U W := ((zFMX.thr U 0).trans y3).trans w3
      have W78 : W 78 41 = zI (b + 1) := by rw [hfr.2 41 (by omega) (by omega)]; exact e78
      have n0 : ¬ zI (b + 1) = 0 := by rw [show (0 : Int32) = zI 0 from rfl, zI_inj (by omega) (by omega)]; omega
      have hrt : Y 78 2 - zI A.2.1 = zI (X.2.1 - A.2.1) := by rw [y4.1.size, zI_sub hnb.1.1 (by omega)]
      refine ⟨W, ?_, ?_, hfr, w4⟩
      · unfold F_M_unbulk F_M_unbulk_j13 F_M_unbulk_j169
        rw [e78, if_neg n0]
        simp only [if_pos le_00, eb, zI_clamp (show b < 2147483648 by omega), e180, hsz, y1, w1, hrt]
        by_cases r8 : X.2.1 ≤ 800
        · simp only [if_pos r8, if_neg ne_10, if_pos le_00, W78, eb]
        · simp only [if_neg r8, if_true, if_neg le_10]
      · unfold Sf_M_unbulk Sf_M_unbulk_j13
        rw [e78, if_neg n0]
        simp only [if_pos le_00, eb, zI_clamp (show b < 2147483648 by omega), e180, hsz, y1]
        exact ⟨vp_in_I (by omega) (by omega), y2, w2, trivial⟩
    by_cases r8 : X.2.1 ≤ 800
    · have hx : zFX S (z_uS (z_uS D 71 4 (zI b)) 193 0 (zI (X.2.1 - A.2.1))) := fun k a c => by rw [z_uS_ne _ _ _ c, z_uS_ne _ _ _ (by omega)]; exact hfcx.x k a c
      obtain ⟨W, m1, m2, m3, m4⟩ := hM _ (h.bm hx) hx
      rw [if_pos r8] at m1
      have F1 : ∀ k, k ≠ 78 → (z_uS (z_uS W 78 0 0) 78 41 (zI b)) k = W k := fun k a => by rw [z_uS_ne _ _ _ a, z_uS_ne _ _ _ a]
      have hrc : zRC (z_uS (z_uS W 78 0 0) 78 41 (zI b)) (aLim A.2.1 X) := by
        refine d4.ag ?_ fun k hk => ?_
        · rw [F1 1 (by omega), m3.1 1 (by omega), z_uS_ne _ _ _ (by omega), z_uS_ne _ _ _ (by omega)]
        · rw [F1 k (by omega), m3.1 k (by omega), z_uS_ne _ _ _ (by omega), z_uS_ne _ _ _ (by omega)]
      have hcl := h.clim hnb
      obtain ⟨p1, p2⟩ := hcl.2.1.ent hrc h17 hn q2
      have e : ∀ k, k ≠ 71 → k ≠ 78 → (z_uS (z_uS S 71 4 (zI b)) 78 41 (zI b)) k = S k := fun k a b => by rw [z_uS_ne _ _ _ b, z_uS_ne _ _ _ a]
      refine zOpQ_ok (V := z_uS D 71 4 (zI b)) (v := zI (X.2.1 - A.2.1)) (W := z_uS (z_uS W 78 0 0) 78 41 (zI b)) (hT.1.trans (if_pos r8)) hT.2 m1 m2 ?_ ?_ ⟨?_, aLim A.2.1 X, b, by omega, q1, q2, hrc, ?_, hcl, hK.pop.go p1 ?_ ?_ ?_ ?_⟩
      · rw [uS_nj _ _ _ (by omega), uS_at]
      · rw [F1 193 (by omega), m3.1 193 (by omega), uS_at]
      · have a1 : zWr zW41 S D := hfcx.wr.mono zW41_in
        have a2 : zWr zW41 D (z_uS (z_uS D 71 4 (zI b)) 193 0 (zI (X.2.1 - A.2.1))) := (zWr.slot (by decide +kernel) _ _).trans (zWr.cell (by decide +kernel) _ 0 _)
        have a3 : zWr zW41 W (z_uS (z_uS W 78 0 0) 78 41 (zI b)) := (zWr.slot (by decide +kernel) _ _).trans (zWr.slot (by decide +kernel) _ _)
        exact ((a1.trans a2).trans (m3.wr.mono zW41_in)).trans a3
      · exact (m4.thr 0).ag (by omega) (uS_nj _ _ _ (by omega)) (fun k hk => z_uS_ne _ _ _ (by omega))
      · rw [F1 71 (by omega), m3.1 71 (by omega), z_uS_ne _ _ _ (by omega), uS_at, z_uS_ne _ _ _ (by omega), uS_at]
      · rw [uS_at, uS_at]
      · intro k hk
        rw [F1 k (by omega), m3.1 k (by omega), z_uS_ne _ _ _ (by omega), z_uS_ne _ _ _ (by omega), e k (by omega) (by omega)]
        exact hfcx.1 k (by omega)
      · intro k hk
        rw [e 4 (by omega) (by omega), e 5 (by omega) (by omega), e 7 (by omega) (by omega), e 8 (by omega) (by omega)]
        exact p2 k hk
    · obtain ⟨W, m1, m2, m3, m4⟩ := hM D (h.bm hfcx.x) hfcx.x
      rw [if_neg r8] at m1
      exact zOpQ_err (E := "java/lang/IllegalStateException") (V := D) (x := 0) (W := z_uS W 78 0 1) (hT.1.trans (if_neg r8)) hT.2 rfl (by decide) m1 m2 (by rw [uS_at]; rfl) (post _ (zEnd_of (Or.inl hfcx) (m3.trans (zFMX.thr _ _)) q1 ⟨q2, h.clim hnb⟩ d4 (m4.thr _)))
