/-! PURE: watch, inbox -/
def zCW (S : Nat → Nat → Int32) : Prop := (∀ p, p < 8 → ∀ i, i < 30 → S 183 (30 * p + i) = if zB (S 76 p) i = true then 1 else 0) ∧ (∀ p, p < 8 → ∀ i, 30 ≤ i → zB (S 76 p) i = false) ∧ ∀ p, p < 8 → S 77 p = S 184 p ∧ 0 ≤ (S 77 p).toInt ∧ (S 77 p).toInt ≤ 800
def zDW : List zLoc := [(76, none), (77, none), (183, none), (184, none)]
theorem zCW.ag {S S' : Nat → Nat → Int32} (h : zCW S) (g : zAg zDW S S') : zCW S' := by
  unfold zCW
  rw [g.cell (a := 76) (by decide), g.cell (a := 77) (by decide), g.cell (a := 183) (by decide), g.cell (a := 184) (by decide)]
  exact h
def zW43 : List zLoc := [(36, some 8), (36, some 9), (41, none), (42, none), (76, none), (78, some 0), (183, none), (193, none)]
theorem zFL.wr {S V : Nat → Nat → Int32} (h : zFL S V) {W : List zLoc} (h1 : (36, some 8) ∈ W) (h2 : (36, some 9) ∈ W) (h3 : (41, none) ∈ W) (h4 : (42, none) ∈ W) : zWr W S V := by
  intro k j hc
  by_cases k36 : k = 36
  · subst k36; exact h.2 j (zCov.nj hc h1 (by omega) (Eq.refl _)) (zCov.nj hc h2 (by omega) (Eq.refl _))
  · rw [h.1 k k36 (zCov.ne hc h3 (by omega)) (zCov.ne hc h4 (by omega))]
theorem T_seenL {S V : Nat → Nat → Int32} {p i r : Int32} (h : F_T_isSeen S p i = (r, V)) : V = F_Sight_look 9 S p := by
  unfold F_T_isSeen at h
  simp only [z_let] at h
  cases h
  rfl
theorem T_headL {fl : Nat → Nat} {S : Nat → Nat → Int32} {d : Nat} {A : zA} {rn : Nat} (h : zB0 fl S d A rn) {p : Nat} (hp : p < 8) : ∃ V, F_Sight_look 9 S (zI p) = V ∧ Sf_Sight_look 9 S (zI p) ∧ zFL S V ∧ zSt S A.2.2 p 30 V := Sight_look_I (r := 9) (by omega) (fun k hk => rfl) h.c.2 h.ok.rg hp
def LQ (cd : String → Int32) (out : Int32 → Int32) (r : (String ⊕ Int32) × (Nat → Nat → Int32)) : Int32 × (Nat → Nat → Int32) := match r with
  | (.inl E, S2) => (cd E, S2)
  | (.inr x, S2) => (0, z_uS S2 193 0 (out x))
def zOpQ (cd : String → Int32) (ex : String → Prop) (out : Int32 → Int32) (T : (String ⊕ Int32) × (Nat → Nat → Int32)) (sT : Prop) (M : (Nat → Nat → Int32) → Int32 × (Nat → Nat → Int32)) (sM : (Nat → Nat → Int32) → Prop) (Q : (Nat → Nat → Int32) → Prop) : Prop :=
  ((sT ∧ ∀ E S2, T = (.inl E, S2) → ex E) ∧ sM (LQ cd out T).2 ∧ ((M (LQ cd out T).2).2 78 0 = (LQ cd out T).1 ∧ ((LQ cd out T).1 = 0 → (M (LQ cd out T).2).2 193 0 = out (M (LQ cd out T).2).1))) ∧ Q (M (LQ cd out T).2).2
theorem zOpQ_err {cd : String → Int32} {ex : String → Prop} {out : Int32 → Int32} {T : (String ⊕ Int32) × (Nat → Nat → Int32)} {sT : Prop} {M : (Nat → Nat → Int32) → Int32 × (Nat → Nat → Int32)} {sM : (Nat → Nat → Int32) → Prop} {Q : (Nat → Nat → Int32) → Prop} {E : String} {V W : Nat → Nat → Int32} {x : Int32}
    (hT : T = (.inl E, V)) (hs : sT) (hx : ex E) (hc : cd E ≠ 0) (hM : M V = (x, W)) (hsM : sM V) (hW : W 78 0 = cd E) (hQ : Q W) : zOpQ cd ex out T sT M sM Q := by
  unfold zOpQ LQ
  rw [hT]
  dsimp only
  rw [hM]
  exact ⟨⟨⟨hs, fun E' S2 h => by cases h; exact hx⟩, hsM, hW, fun h => absurd h hc⟩, hQ⟩
theorem zOpQ_ok {cd : String → Int32} {ex : String → Prop} {out : Int32 → Int32} {T : (String ⊕ Int32) × (Nat → Nat → Int32)} {sT : Prop} {M : (Nat → Nat → Int32) → Int32 × (Nat → Nat → Int32)} {sM : (Nat → Nat → Int32) → Prop} {Q : (Nat → Nat → Int32) → Prop} {V W : Nat → Nat → Int32} {v : Int32}
    (hT : T = (.inr v, V)) (hs : sT) (hM : M (z_uS V 193 0 (out v)) = (v, W)) (hsM : sM (z_uS V 193 0 (out v))) (hW : W 78 0 = 0) (h193 : W 193 0 = out v) (hQ : Q W) : zOpQ cd ex out T sT M sM Q := by
  unfold zOpQ LQ
  rw [hT]
  dsimp only
  rw [hM]
  exact ⟨⟨⟨hs, fun E' S2 h => by cases h⟩, hsM, hW, fun _ => h193⟩, hQ⟩
theorem o_43 {fl : Nat → Nat} {S : Nat → Nat → Int32} {d : Nat} {A : zA} {rn : Nat} (h : zB0 fl S d A rn) (hW : zCW S) (a1 a2 a3 a4 a5 a6 : Int32) : Sl_43 fl S a1 a2 a3 a4 a5 a6 ∧ zWr zW43 S (Fl_43 fl S a1 a2 a3 a4 a5 a6) ∧ zCW (Fl_43 fl S a1 a2 a3 a4 a5 a6) := by
  have err : ∀ V, zWr zW43 S V → zCW V → zCW (z_uS V 78 0 1) ∧ zWr zW43 S (z_uS V 78 0 1) := fun V h1 h2 => ⟨h2.ag ((zWr.slot (W := [(78, some 0)]) (by decide) V _).ag (by decide)), h1.trans (zWr.slot (by decide) _ _)⟩
  have hwv : ∀ V, zFL S V → zWr zW43 S V ∧ zCW V := fun V g => ⟨g.wr (by decide) (by decide) (by decide) (by decide), hW.ag ((g.wr (W := [(36, some 8), (36, some 9), (41, none), (42, none)]) (by decide) (by decide) (by decide) (by decide)).ag (by decide))⟩
  suffices g : zOpQ (fun E => (if E = "java/lang/IndexOutOfBoundsException" then 1 else 0)) (fun E => E = "java/lang/IndexOutOfBoundsException") (fun x => if x = 0 then 0 else 1) (F_T_watch S a1 a2) (Sf_T_watch S a1 a2) (fun U => F_M_watch U a1 a2) (fun U => Sf_M_watch U a1 a2) (fun F => zWr zW43 S F ∧ zCW F) from g
  rcases T_head h a1 a2 with ⟨V, hv, hcx, hC, m1, m2⟩ | ⟨p, i, V, hp, hi, rfl, rfl, hsee, hw, hper, v1, v2, hcx, hC, hst, hCX, hU⟩
  · have hT : F_T_watch S a1 a2 = (.inl "java/lang/IndexOutOfBoundsException", V) ∧ Sf_T_watch S a1 a2 ∧ zWr zW43 S V ∧ zCW V := by
      rcases hv with ⟨g, rfl⟩ | ⟨g, v1, v2⟩
      · refine ⟨by unfold F_T_watch; rw [if_pos g], by unfold Sf_T_watch; rw [if_pos g]; trivial, zWr.rfl, hW⟩
      · have hvp : ∃ p, p < 8 ∧ a1 = zI p := by
          rcases vPer_cases a1 with q | q
          · exact q
          · rw [T_isPerson_eq, if_neg q] at g; cases g
        obtain ⟨p, hp, rfl⟩ := hvp
        obtain ⟨V2, l1, l2, l3, l4⟩ := T_headL h hp
        have e : V = V2 := (T_seenL v1).trans l1
        subst e
        refine ⟨by unfold F_T_watch; rw [g, v1]; rfl, by unfold Sf_T_watch; rw [g, v1]; exact ⟨v2, trivial⟩, (hwv V l3).1, (hwv V l3).2⟩
    obtain ⟨hT1, hT2, hT3, hT4⟩ := hT
    have hM : F_M_watch V a1 a2 = (0, z_uS V 78 0 1) ∧ Sf_M_watch V a1 a2 := by
      unfold F_M_watch Sf_M_watch F_M_watch_j15 Sf_M_watch_j15
      simp only [m1, if_true, if_neg le_10]; exact ⟨trivial, m2, trivial⟩
    obtain ⟨e1, e2⟩ := err V hT3 hT4
    exact zOpQ_err (E := "java/lang/IndexOutOfBoundsException") hT1 hT2 rfl (by decide) hM.1 hM.2 (by rw [uS_at]; rfl) ⟨e2, e1⟩
  · obtain ⟨V2, l1, l2, l3, l4⟩ := T_headL h hp
    have e : V = V2 := (T_seenL v1).trans l1
    subst e
    obtain ⟨hwr, hcw⟩ := hwv V l3
    obtain ⟨w1, w2, w3⟩ := hcw
    have vi : vp_in (zI (30 * p + i)) 240 := vp_in_I (by omega) (by omega)
    have e30 : (30 : Int32) * zI p + zI i = zI (30 * p + i) := by rw [show (30 : Int32) = zI 30 from rfl, zI_mul, zI_add]
    generalize hX : z_uS V 76 p (V 76 p ^^^ F_T_bit V (zI i)) = X
    have hX76 : X 76 p = V 76 p ^^^ F_T_bit V (zI i) := by rw [← hX, uS_at]
    have hbit : ∀ q, q < 32 → zB (X 76 p) q = (zB (V 76 p) q ^^ decide (q = i)) := fun q hq => by rw [hX76, zB_xor, T_bit_B V (by omega) hq]
    have hT1 : F_T_watch S (zI p) (zI i) = (.inr (if zB (X 76 p) i = true then 1 else 0), X) := by
      unfold F_T_watch
      rw [hper, v1]
      simp only [if_neg ne_10, z_let, zAt_I hp (show 8 ≤ 2147483648 by omega), zPut_I hp (show 8 ≤ 2147483648 by omega), hX, T_isIn_I X (show i < 31 by omega)]
    have hT2 : Sf_T_watch S (zI p) (zI i) := by
      unfold Sf_T_watch
      rw [hper, v1]
      simp only [if_neg ne_10, z_let]
      exact ⟨v2, nar01 (T_isIn_01 _ _ _), trivial⟩
    have hb : (if (if zB (X 76 p) i = true then (1 : Int32) else 0) = 0 then (0 : Int32) else 1) = (if zB (X 76 p) i = true then (1 : Int32) else 0) := by cases zB (X 76 p) i <;> simp
    generalize hY : z_uS X 193 0 (if zB (X 76 p) i = true then 1 else 0) = Y
    have hYX : ∀ k, k ≠ 193 → Y k = X k := fun k hk => by rw [← hY, z_uS_ne _ _ _ hk]
    have hYV : ∀ k, k ≠ 193 → k ≠ 76 → Y k = V k := fun k h1 h2 => by rw [hYX k h1, ← hX, z_uS_ne _ _ _ h2]
    have hbmY : zBM fl S Y d A rn := h.bm (hcx.x.trans (fun k h1 h2 => hYV k h2 (by omega)))
    obtain ⟨n1, n2⟩ := hU Y hbmY
    have h183 : Y 183 (30 * p + i) = if zB (V 76 p) i = true then 1 else 0 := by rw [hYV 183 (by omega) (by omega)]; exact w1 p hp i hi
    have hxi : zB (X 76 p) i = !zB (V 76 p) i := by rw [hbit i (by omega)]; cases zB (V 76 p) i <;> simp
    generalize hW' : z_uS (z_uS Y 78 0 0) 183 (30 * p + i) (if zB (X 76 p) i = true then 1 else 0) = W
    have hW193 : W 193 0 = if zB (X 76 p) i = true then 1 else 0 := by rw [← hW', z_uS_ne _ _ _ (by omega), z_uS_ne _ _ _ (by omega), ← hY, uS_at]
    have hW183 : W 183 (30 * p + i) = if zB (X 76 p) i = true then 1 else 0 := by rw [← hW', uS_at]
    have hM : F_M_watch Y (zI p) (zI i) = ((if zB (X 76 p) i = true then 1 else 0), W) ∧ Sf_M_watch Y (zI p) (zI i) := by
      unfold F_M_watch Sf_M_watch F_M_watch_j15 Sf_M_watch_j15 F_M_watch_j56 Sf_M_watch_j56
      simp only [n1, if_neg ne_10, if_pos le_00, e30, zI_clamp (show 30 * p + i < 2147483648 by omega), h183]
      cases q : zB (V 76 p) i
      · rw [q] at hxi
        simp only [Bool.not_false] at hxi
        rw [hxi] at hW' hW183
        simp only [if_true] at hW' hW183
        simp only [Bool.false_eq_true, if_false, if_true, nar_1, hW', hW183, hxi]
        exact ⟨trivial, n2, vi, vi, vi, rfl, trivial⟩
      · rw [q] at hxi
        simp only [Bool.not_true] at hxi
        rw [hxi] at hW' hW183
        simp only [Bool.false_eq_true, if_false] at hW' hW183
        simp only [if_true, if_neg ne_10, nar_0, hW', hW183, hxi, Bool.false_eq_true, if_false]
        exact ⟨trivial, n2, vi, vi, vi, rfl, trivial⟩
    refine zOpQ_ok (W := W) hT1 hT2 (by rw [hb, hY]; exact hM.1) (by rw [hb, hY]; exact hM.2) (by rw [← hW', z_uS_ne _ _ _ (by omega), uS_at]) (hW193.trans hb.symm) ⟨?_, ?_, ?_, ?_⟩
    · refine hwr.trans ?_
      rw [← hW', ← hY, ← hX]
      exact (zWr.cell (by decide) _ _ _).trans ((zWr.cell (by decide) _ _ _).trans ((zWr.slot (by decide) _ _).trans (zWr.cell (by decide) _ _ _)))
    · intro q hq j hj
      rw [← hW', z_uS_self]
      unfold upd
      rw [z_uS_ne (k' := 76) _ _ _ (by omega), z_uS_ne (k' := 76) _ _ _ (by omega), hYX 76 (by omega), z_uS_ne (k' := 183) _ _ _ (by omega), hYV 183 (by omega) (by omega)]
      by_cases e : q = p
      · subst e
        by_cases e2 : j = i
        · subst e2; rw [if_pos rfl]
        · rw [if_neg (by omega), w1 q hq j hj, hbit j (by omega), decide_eq_false e2]; simp
      · rw [if_neg (by omega), w1 q hq j hj, ← hX, uS_nj _ _ _ e]
    · intro q hq j hj
      rw [← hW', z_uS_ne (k' := 76) _ _ _ (by omega), z_uS_ne (k' := 76) _ _ _ (by omega), hYX 76 (by omega)]
      by_cases e : q = p
      · subst e
        by_cases j32 : j < 32
        · rw [hbit j j32, w2 q hq j hj, decide_eq_false (by omega)]; rfl
        · exact zB_ge _ (by omega)
      · rw [← hX, uS_nj _ _ _ e]; exact w2 q hq j hj
    · intro q hq
      rw [← hW', z_uS_ne (k' := 77) _ _ _ (by omega), z_uS_ne (k' := 77) _ _ _ (by omega), z_uS_ne (k' := 184) _ _ _ (by omega), z_uS_ne (k' := 184) _ _ _ (by omega), hYV 77 (by omega) (by omega), hYV 184 (by omega) (by omega)]
      exact w3 q hq
