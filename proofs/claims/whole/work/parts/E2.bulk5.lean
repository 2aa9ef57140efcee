/-! PURE: bulk, done -/
theorem o_40 {fl : Nat → Nat} {S : Nat → Nat → Int32} {d : Nat} {A : zA} {rn m : Nat} (h : zB0 fl S d A rn) (hI : zCI S) (hQ : zCQ S) (hK : zBK S A.2.1 m) (hm : m < 512) (a1 a2 a3 a4 a5 a6 : Int32) : Sl_40 fl S a1 a2 a3 a4 a5 a6 ∧ zQ40 S d m (Fl_40 fl S a1 a2 a3 a4 a5 a6) := by
  suffices g : zOpQ (fun E => (if E = "java/lang/IndexOutOfBoundsException" then 1 else (if E = "java/lang/IllegalArgumentException" then 2 else (if E = "java/lang/IllegalStateException" then 3 else 0)))) (fun E => E = "java/lang/IndexOutOfBoundsException" ∨ E = "java/lang/IllegalArgumentException" ∨ E = "java/lang/IllegalStateException") (fun x => x) (F_T_bulk S a1 a2 a3) (Sf_T_bulk S a1 a2 a3) (fun U => F_M_bulk fl U a1 a2 a3) (fun U => Sf_M_bulk fl U a1 a2 a3) (fun W => zQ40 S d m W) from by
    have eL : F_L_bulk S a1 a2 a3 = LQ (fun E => (if E = "java/lang/IndexOutOfBoundsException" then 1 else (if E = "java/lang/IllegalArgumentException" then 2 else (if E = "java/lang/IllegalStateException" then 3 else 0)))) (fun x => x) (F_T_bulk S a1 a2 a3) := by
      unfold F_L_bulk LQ
      generalize F_T_bulk S a1 a2 a3 = t
      obtain ⟨r, s⟩ := t
      cases r <;> exact Eq.refl _
    have eM : ∀ Z : Nat → Nat → Int32, F_M_thrown Z = Z 78 0 := fun Z => Eq.refl _
    unfold Sl_40 Fl_40 Sf_L_bulk
    rw [eL, eM]
    unfold zOpQ at g
    dsimp only at g
    generalize F_M_bulk fl (LQ (fun E => (if E = "java/lang/IndexOutOfBoundsException" then 1 else (if E = "java/lang/IllegalArgumentException" then 2 else (if E = "java/lang/IllegalStateException" then 3 else 0)))) (fun x => x) (F_T_bulk S a1 a2 a3)).2 a1 a2 a3 = r at g ⊢
    exact g
  by_cases hb : ¬ (0 ≤ a1.toInt ∧ a1.toInt < 8) ∨ ¬ (0 ≤ a2.toInt ∧ a2.toInt < 3 ∧ -1 ≤ a3.toInt ∧ a3.toInt ≤ 99)
  · obtain ⟨E, x, hx, t1, t2, m1, m2⟩ := bulk_bad (fl := fl) h a1 a2 a3 hb
    have post : zQ40 S d m (z_uS S 78 0 x) := .of h hK (zWr.slot (by decide) _ _)
    rcases hx with ⟨rfl, rfl⟩ | ⟨rfl, rfl⟩
    · exact zOpQ_err t1 t2 (Or.inl rfl) (by decide) m1 m2 (by rw [uS_at]; rfl) post
    · exact zOpQ_err t1 t2 (Or.inr (Or.inl rfl)) (by decide) m1 m2 (by rw [uS_at]; rfl) post
  have h1 : 0 ≤ a1.toInt ∧ a1.toInt < 8 := by
    by_cases z : 0 ≤ a1.toInt ∧ a1.toInt < 8
    · exact z
    · exact absurd (Or.inl z) hb
  have h2 : 0 ≤ a2.toInt ∧ a2.toInt < 3 ∧ -1 ≤ a3.toInt ∧ a3.toInt ≤ 99 := by
    by_cases z : 0 ≤ a2.toInt ∧ a2.toInt < 3 ∧ -1 ≤ a3.toInt ∧ a3.toInt ≤ 99
    · exact z
    · exact absurd (Or.inr z) hb
  obtain ⟨f0, f1, v0, v1⟩ := h2
  obtain ⟨p, hp, rfl⟩ := zI_ex (n := 8) h1.1 (by omega) (by omega)
  obtain ⟨f, hf, rfl⟩ := zI_ex (n := 3) f0 (by omega) (by omega)
  generalize a3 = v at *
  have hn := h.n
  obtain ⟨k1, k2, rf, k3, k4, k5⟩ := id hK
  have h17 : S 1 7 = zI A.2.1 := h.c.1.size
  generalize hr : qTop (zXs S) (kK S p A.1 (qQ S A (zI d) p false) (zI d)) = r
  cases r with
  | inl e =>
    obtain ⟨V, W, x, y, x1, y1, i1, i2, hV, j1, j2, w1, w2⟩ := q_bad h hQ hr
    obtain ⟨p1, p2⟩ := per_M (V := V) hp
    have is1 : F_M_isIn V (zI f) 0 2 = 1 := by
      rw [M_isIn_eq, if_pos]
      rw [zI_toInt (by omega)]
      exact ⟨by show (0 : Int) ≤ f; omega, by show (f : Int) ≤ 2; omega⟩
    have is2 : F_M_isIn V v (-1) 99 = 1 := by
      rw [M_isIn_eq, if_pos]
      exact ⟨v0, v1⟩
    have le_30 : ¬ (3 : Int32) ≤ 0 := by decide
    have hper := T_isPerson_I S hp
    have hfld : F_T_isField S (zI f) = 1 := by rw [T_isField_eq, if_pos ⟨f0, f1⟩]
    have hval : F_T_isValue S v = 1 := by rw [T_isValue_I, if_pos ⟨v0, v1⟩]
    have M : F_M_bulk fl V (zI p) (zI f) v = (0, z_uS W 78 0 3) ∧ Sf_M_bulk fl V (zI p) (zI f) v := by
      have j : F_M_bulk_j24 fl V (zI p) (zI f) v 1 = (0, z_uS W 78 0 3) := by
        unfold F_M_bulk_j24; rw [p1, if_neg ne_10, if_neg ne_10, j1]; dsimp only; rw [if_neg y1]; unfold F_M_bulk_j60; rw [if_neg le_30]
      have j' : Sf_M_bulk_j24 fl V (zI p) (zI f) v 1 := by
        unfold Sf_M_bulk_j24; rw [p1, if_neg ne_10, if_neg ne_10, j1]
        refine ⟨p2, j2, ?_⟩
        dsimp only; rw [if_neg y1]; unfold Sf_M_bulk_j60; rw [if_neg le_30]; trivial
      constructor
      · unfold F_M_bulk; rw [is1, if_neg ne_10, is2, if_neg ne_10]; exact j
      · unfold Sf_M_bulk; rw [is1, if_neg ne_10, is2, if_neg ne_10]; exact j'
    refine zOpQ_err (E := "java/lang/IllegalStateException") (V := V) (x := 0) (W := z_uS W 78 0 3) ?_ ?_ (Or.inr (Or.inr rfl)) (by decide) M.1 M.2 (by rw [uS_at]; rfl) (.of h hK ((w1.trans w2).trans (zWr.slot (by decide) _ _)))
    · unfold F_T_bulk; rw [hper, if_neg ne_10, hfld, if_neg ne_10, hval, if_neg ne_10, i1]; dsimp only; rw [if_neg x1]
    · unfold Sf_T_bulk; rw [hper, if_neg ne_10, hfld, if_neg ne_10, hval, if_neg ne_10, i1]; refine ⟨i2, ?_⟩; dsimp only; rw [if_neg x1]; trivial
  | inr z =>
    obtain ⟨q, mm⟩ := z
    generalize hX : aBu d p f v (kFnd S p (qQ S A (zI d) p false).1 mm) (fun k => vCan S A.2.2 p k f) 30 0 A = X
    have hBi : zBi d p f A 830 X := by
      rw [← hX]
      exact zBi.all hp hf (rgC_val hf v0 v1) 30 0 800 A rfl ⟨⟨h.ok, hn, zNb.rfl⟩, zSm.rfl, aBy_0 (Nat.le_refl _)⟩
    obtain ⟨V5, t1, t2, t3, t4, t5, t6⟩ := T_bulk_go h hQ hm hp hf v0 v1 k1 hr hX hBi
    obtain ⟨⟨hO, hN, hnb⟩, hsm, hby⟩ := id hBi
    obtain ⟨q1, q2⟩ := aRes_ok (E := S) (rn := rn) (d := d) (m := A.2.1) h.ru hp hO hnb.1.1 hn
    have hcn := h.cres hp hnb.q hO
    have main : ∀ Z, zFX S Z → ∃ U3 U4 U5 ct, F_M_bulk fl Z (zI p) (zI f) v = (if aSt S d p rn A.2.1 X = true then ((100 : Int32) * zI ct + rF (kFnd S p (qQ S A (zI d) p false).1 mm) (fun k => vCan S A.2.2 p k f) 30 0 0, zPushM U5 m (zI p) (zI f) v (zI (rf m + ct))) else (0, z_uS U5 78 0 3)) ∧ Sf_M_bulk fl Z (zI p) (zI f) v ∧ zWr zWF Z U3 ∧ zFMB (rf m) U3 U4 ∧ zFMX U4 U5 ∧ U5 193 0 = Z 193 0 ∧ zRM 86 U5 (aRes S d p rn A.2.1 X) ∧ zBy (rf m) f v A U4 X ct ∧ ct ≤ 30 := fun Z hZ => M_bulk_go h hI hQ hm hp hf v0 v1 k2 (k4 m (Nat.le_refl _)) (by omega) hr hX hBi hZ
    cases hst : aSt S d p rn A.2.1 X
    · rw [hst, if_neg (by decide)] at t1
      obtain ⟨U3, U4, U5, ct, m1, m2, m3, m4, m5, m6, m7, m8, m9⟩ := main V5 t3
      rw [hst, if_neg (by decide)] at m1
      have o := fun {k : Nat} => zWF_out m3 (k := k)
      have lo : ∀ k, k < 18 ∨ 43 ≤ k ∧ k ≤ 77 → U5 k = V5 k := fun k hk => by rw [m5.1 k (by omega), m4.1 k (by omega), o (k := k) (by omega)]
      have F1 : ∀ k, k ≠ 78 → (z_uS U5 78 0 3) k = U5 k := fun k a => z_uS_ne _ _ _ a
      have hrc : zRC (z_uS U5 78 0 3) (aRes S d p rn A.2.1 X) := t5.ag (by rw [F1 1 (by omega), lo 1 (by omega)]) (fun k hk => by rw [F1 k (by omega), lo k (by omega)])
      obtain ⟨n1, n2⟩ := hcn.2.1.ent hrc h17 hn q2
      refine zOpQ_err (E := "java/lang/IllegalStateException") (V := V5) t1 t2 (Or.inr (Or.inr rfl)) (by decide) m1 m2 (by rw [uS_at]; rfl) ⟨?_, aRes S d p rn A.2.1 X, m, by omega, q1, q2, hrc, m7.thr _, hcn, zBK.go2 k3 k4 k5 n1 ?_ ?_ ?_ ?_ n2⟩
      · exact (((t4.trans (m3.mono zW40_f)).trans m4.wr).trans (m5.wr.mono zW40_i)).trans (zWr.slot (by decide +kernel) _ _)
      · rw [F1 71 (by omega), lo 71 (by omega), t6 71 (by omega) (by omega)]; exact k1
      · rw [uS_nj _ _ _ (by omega), m5.2 41 (by omega) (by omega), m4.2.1 41 (by omega) (by omega), (zWF_78 m3).2.2.2.1, t3 78 (by omega) (by omega)]; exact k2
      · intro k hk
        rcases hk with hk | hk
        · rw [F1 k (by omega), lo k (by omega), t6 k (by omega) (by omega)]
        · rw [F1 k (by omega), m5.1 k (by omega), m4.1 k (by omega), o (k := k) (by omega), t3 k (by omega) (by omega)]
      · intro j hj
        rw [F1 181 (by omega), F1 182 (by omega), m5.1 181 (by omega), m5.1 182 (by omega), (m4.2.2 j hj).1, (m4.2.2 j hj).2, o (k := 181) (by omega), o (k := 182) (by omega), t3 181 (by omega) (by omega), t3 182 (by omega) (by omega)]
        exact ⟨Eq.refl _, Eq.refl _⟩
    · rw [hst, if_pos (Eq.refl _)] at t1
      generalize hY : rF (kFnd S p (qQ S A (zI d) p false).1 mm) (fun k => vCan S A.2.2 p k f) 30 0 0 = y at *
      generalize hP : zPushed V5 m (zI p) (zI f) (zI A.2.1) (zI (X.2.1 - A.2.1)) = D at *
      obtain ⟨d1, d2, d3, d4⟩ := pushed_f V5 m (zI p) (zI f) (zI A.2.1) (zI (X.2.1 - A.2.1))
      rw [hP] at d1 d2 d3 d4
      generalize hans : (100 : Int32) * zI (X.2.1 - A.2.1) + y = ans at *
      have hZ : zFX S (z_uS D 193 0 ans) := fun k a c => by rw [z_uS_ne _ _ _ c, d1 k (by omega) (by omega)]; exact t3 k a c
      obtain ⟨U3, U4, U5, ct, m1, m2, m3, m4, m5, m6, m7, m8, m9⟩ := main (z_uS D 193 0 ans) hZ
      rw [hst, if_pos (Eq.refl _)] at m1
      have hct : X.2.1 - A.2.1 = ct := by have := m8.1; omega
      rw [hct] at d3
      rw [hct] at hans
      rw [hans] at m1
      obtain ⟨e1, ⟨e2, e3, e4⟩, ⟨e5, e6, e7⟩, e8, e9, e10⟩ := pushM_f U5 m (zI p) (zI f) v (zI (rf m + ct))
      generalize hF : zPushM U5 m (zI p) (zI f) v (zI (rf m + ct)) = F at *
      have o := fun {k : Nat} => zWF_out m3 (k := k)
      have lo : ∀ k, k < 18 ∨ 43 ≤ k ∧ k ≤ 77 → F k = D k := fun k hk => by rw [e1 k (by omega) (by omega), m5.1 k (by omega), m4.1 k (by omega), o (k := k) (by omega), z_uS_ne _ _ _ (by omega)]
      have hi : ∀ k, 177 ≤ k ∧ k ≤ 180 → U5 k = S k := fun k hk => by rw [m5.1 k (by omega), m4.1 k (by omega), o (k := k) (by omega), hZ k (by omega) (by omega)]
      have hrc : zRC F (aRes S d p rn A.2.1 X) := t5.ag (by rw [lo 1 (by omega), d1 1 (by omega) (by omega)]) (fun k hk => by rw [lo k (by omega), d1 k (by omega) (by omega)])
      obtain ⟨n1, n2⟩ := hcn.2.1.ent hrc h17 hn q2
      have hB : ∀ i, i < X.2.1 → (aRes S d p rn A.2.1 X).1 i = X.1 i := by
        have g := (aGo_ok (E := S) (lim := X.2.1 + 20) (fall := false) h.ru hp 1300 A.2.1 X hO (by omega)).2.2.2.1
        intro i hi
        unfold aRes
        rw [if_pos hst]
        exact g i hi
      have hBn : X.2.1 ≤ (aRes S d p rn A.2.1 X).2.1 := by
        have g := (aGo_ok (E := S) (lim := X.2.1 + 20) (fall := false) h.ru hp 1300 A.2.1 X hO (by omega)).2.2.1
        unfold aRes
        rw [if_pos hst]
        exact g
      refine zOpQ_ok (v := ans) (V := D) (W := F) t1 t2 m1 m2 e3 (by rw [e1 193 (by omega) (by omega)]; exact m6.trans (uS_at _ _ _ _)) ⟨?_, aRes S d p rn A.2.1 X, m + 1, Nat.le_refl _, q1, q2, hrc, ?_, hcn, zBK.add (p := p) (f := f) (ct := ct) (v := v) (it := fun j => (X.1 (A.2.1 + j)).1.2.1) (od := fun j => (X.1 (A.2.1 + j)).1.2.2.2.2.1) k3 k4 k5 (by have := m8.1; omega) hp hf m9 (by rw [lo 71 (by omega)]; exact d2) e2 ?_ ?_ e8 ?_ n2 ?_ ⟨e5, e6, e7⟩ ?_⟩
      · have a2 : zWr zW40 V5 D := by
          rw [← hP]; unfold zPushed
          exact ((((zWr.cell (by decide +kernel) _ _ _).trans (zWr.cell (by decide +kernel) _ _ _)).trans (zWr.cell (by decide +kernel) _ _ _)).trans (zWr.cell (by decide +kernel) _ _ _)).trans (zWr.slot (by decide +kernel) _ _)
        have a3 : zWr zW40 U5 F := by
          rw [← hF]; unfold zPushM
          exact (((((zWr.slot (by decide +kernel) _ _).trans (zWr.cell (by decide +kernel) _ _ _)).trans (zWr.cell (by decide +kernel) _ _ _)).trans (zWr.cell (by decide +kernel) _ _ _)).trans (zWr.slot (by decide +kernel) _ _)).trans (zWr.cell (by decide +kernel) _ _ _)
        exact (((((t4.trans a2).trans (zWr.cell (by decide +kernel) _ _ _)).trans (m3.mono zW40_f)).trans m4.wr).trans (m5.wr.mono zW40_i)).trans a3
      · exact m7.ag (by omega) (e4 2 (by omega) (by omega)) (fun k hk => e1 k (by omega) (by omega))
      · intro k hk b hb
        rcases hk with hk | hk
        · rw [lo k (by omega), d4 k (by omega) (by omega) b (by omega), t6 k (by omega) (by omega)]
        · rw [e10 k (by omega) (by omega) b (by omega), hi k (by omega)]
      · intro b hb
        rw [e9 b (by omega), hi 180 (by omega)]
      · intro j hj
        rw [e1 181 (by omega) (by omega), e1 182 (by omega) (by omega), m5.1 181 (by omega), m5.1 182 (by omega), (m4.2.2 j hj).1, (m4.2.2 j hj).2, o (k := 181) (by omega), o (k := 182) (by omega), hZ 181 (by omega) (by omega), hZ 182 (by omega) (by omega)]
        exact ⟨Eq.refl _, Eq.refl _⟩
      · rw [lo 72 (by omega), lo 73 (by omega), lo 74 (by omega), lo 75 (by omega)]; exact d3
      · intro j hj
        obtain ⟨⟨y1, y2, y3, y4⟩, y5, y6⟩ := m8.2 j hj
        have hx1 := m8.1
        have hent := (hrc.1.2 (A.2.1 + j) (by omega)).1
        rw [hB _ (by omega)] at hent
        rw [e1 181 (by omega) (by omega), e1 182 (by omega) (by omega), m5.1 181 (by omega), m5.1 182 (by omega)]
        refine ⟨?_, y2, y5, y6⟩
        generalize (X.1 (A.2.1 + j)).1 = en at *
        obtain ⟨t, i', c', x', o', a'⟩ := en
        have y1 : t = 2 := y1
        have y3 : c' = 1 + f := y3
        have y4 : a' = v := y4
        subst y1 y3 y4
        obtain ⟨c4, c5, -, c7, c8⟩ := hent
        exact ⟨c4, c5, c7, c8⟩
