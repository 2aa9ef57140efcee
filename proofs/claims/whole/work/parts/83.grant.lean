/-! PURE: roles: grant -/
def aR (d p a b : Nat) (v : Int32) (A : zA) : zA := if A.2.2.2.2.2 (3 * a + b) = v then A else aPush d p (0, a, b, 0, A.2.2.2.2.2 (3 * a + b), v) A
theorem aR_cases {d p a b : Nat} {v : Int32} {A : zA} : aR d p a b v A = A ∨ aR d p a b v A = aPush d p (0, a, b, 0, A.2.2.2.2.2 (3 * a + b), v) A := by
  unfold aR; split
  · exact Or.inl rfl
  · exact Or.inr rfl
theorem aR_n {d p a b : Nat} {v : Int32} {A : zA} : A.2.1 ≤ (aR d p a b v A).2.1 ∧ (aR d p a b v A).2.1 ≤ A.2.1 + 1 := by
  rcases aR_cases (d := d) (p := p) (a := a) (b := b) (v := v) (A := A) with e | e <;> rw [e]
  · omega
  · show A.2.1 ≤ A.2.1 + 1 ∧ A.2.1 + 1 ≤ A.2.1 + 1; omega
theorem aR_w {d p a b : Nat} {v : Int32} {A : zA} : (aR d p a b v A).2.2 = zSetR A.2.2 (3 * a + b) v := by
  unfold aR
  split
  · rename_i h
    unfold zSetR
    obtain ⟨L, n, w1, w2, w3, w4⟩ := A
    dsimp only at h ⊢
    congr 1; congr 1; congr 1
    funext k
    split
    · rename_i e; rw [e, h]
    · rfl
  · rfl
theorem aR_ok {d p a b : Nat} {v : Int32} {A : zA} (h : zOk d A) (ha : a < 8) (hb : b < 3) (h0 : 0 ≤ v.toInt) (h15 : v.toInt ≤ 15) (hp : p < 8) : zOk d (aR d p a b v A) := by
  rcases aR_cases (d := d) (p := p) (a := a) (b := b) (v := v) (A := A) with e | e <;> rw [e]
  · exact h
  · exact h.push (Or.inl ⟨rfl, ha, hb⟩) ⟨fun _ => rfl, fun q => absurd q (by simp), fun q => absurd q (by simp), fun q => absurd q (by simp)⟩ ⟨fun _ => ⟨h0, h15⟩, fun q => absurd q (by simp), fun q => absurd q (by simp), fun q => absurd q (by simp)⟩ (fun q => absurd q (by simp)) hp
theorem aR_quiet {m d p a b : Nat} {v : Int32} {A : zA} (h : aQuiet m A) : aQuiet m (aR d p a b v A) := by
  rcases aR_cases (d := d) (p := p) (a := a) (b := b) (v := v) (A := A) with e | e <;> rw [e]
  · exact h
  · intro j h1 h2
    have h2' : j < A.2.1 + 1 := h2
    show (zPush A.1 A.2.1 _ d p j).1.1 ≠ 1 ∧ ((zPush A.1 A.2.1 _ d p j).1.1 = 2 → 4 ≤ (zPush A.1 A.2.1 _ d p j).1.2.2.1)
    by_cases q : j = A.2.1
    · rw [q, zPush_n]; exact ⟨by simp, fun q => absurd q (by simp)⟩
    · rw [zPush_lt (by omega)]; exact h j h1 (by omega)
theorem aR_by {m d p a b : Nat} {v : Int32} {A : zA} (h : aBy p m A) : aBy p m (aR d p a b v A) := by
  rcases aR_cases (d := d) (p := p) (a := a) (b := b) (v := v) (A := A) with e | e <;> rw [e]
  · exact h
  · exact h.push _
theorem zNb.aR {A X : zA} (h : zNb A X) {d p a b : Nat} {v : Int32} : zNb A (aR d p a b v X) := by
  rcases aR_cases (d := d) (p := p) (a := a) (b := b) (v := v) (A := X) with e | e <;> rw [e]
  · exact h
  · exact h.push (by simp)
theorem T_chgR {S : Nat → Nat → Int32} {d p a b : Nat} {A : zA} (hd : S 0 14 = zI d) (hC : zRC S A) (hn : A.2.1 < 900) (ha : a < 8) (hb : b < 3) (v : Int32) : ∃ V, F_T_change S (zI p) (-1) 14 (zI (3 * a + b)) v = V ∧ Sf_T_change S (zI p) (-1) 14 (zI (3 * a + b)) v ∧ zFC S V ∧ zRC V (aR d p a b v A) := by
  have ecur : F_World_current 9 S (-1) 14 (zI (3 * a + b)) = A.2.2.2.2.2 (3 * a + b) := by
    unfold F_World_current
    rw [if_pos rfl, zAt_I (by omega) (by omega)]; exact hC.2.role _ (by omega)
  have scur : Sf_World_current 9 S (-1) 14 (zI (3 * a + b)) := by unfold Sf_World_current; rw [if_pos rfl]; trivial
  unfold F_T_change Sf_T_change aR
  rw [ecur, hd]
  by_cases q : A.2.2.2.2.2 (3 * a + b) = v
  · rw [if_pos q, if_pos q, if_pos q]
    exact ⟨S, rfl, ⟨scur, trivial⟩, zFC.rfl, hC⟩
  · rw [if_neg q, if_neg q, if_neg q]
    obtain ⟨V, v1, v2, v3, v4, v5, v6⟩ := T_push_I (d := d) (p := p) hC hn (e := (0, a, b, 0, A.2.2.2.2.2 (3 * a + b), v)) (Or.inl ⟨rfl, ha, hb⟩) (fun _ => ⟨rfl, rfl⟩)
    have v1' : F_Log_add S (zI d) (zI p) (-1) 14 (zI (3 * a + b)) (A.2.2.2.2.2 (3 * a + b)) v = V := v1
    have v2' : Sf_Log_add S (zI d) (zI p) (-1) 14 (zI (3 * a + b)) (A.2.2.2.2.2 (3 * a + b)) v := v2
    simp only [v1', z_let]
    obtain ⟨w1, w2⟩ := World_write_R (r := 9) (S := V) (k := 3 * a + b) (by omega) (-1) v
    refine ⟨_, w1, ⟨scur, v2', w2, trivial⟩, ?_, ⟨v3.ag (by rw [z_uS_ne _ _ _ (by omega)]) (fun k k1 k2 => z_uS_ne _ _ _ (by omega)), v4.setR v⟩⟩
    exact ⟨fun k hk => by rw [z_uS_ne _ _ _ (by omega), v5 k (by omega)], fun j hj => by rw [z_uS_ne _ _ _ (by omega), v6 j hj], fun j hj => by rw [z_uS_ne _ _ _ (by omega), v5 9 (by omega)]⟩
theorem M_roles_I {fl : Nat → Nat} {E U : Nat → Nat → Int32} {d rn a b : Nat} {A : zA} (h : zBX fl E U d rn) (hC : zRM 86 U A) (hA : zOk d A) (hn : A.2.1 < 1200) (p : Nat) (ha : a < 8) (hb : b < 3) (v : Int32) : ∃ V, F_M_roles U (zI p) (zI a) (zI b) v = V ∧ Sf_M_roles U (zI p) (zI a) (zI b) v ∧ zFMX U V ∧ zRM 86 V (aR d p a b v A) := by
  have e1 : (3 : Int32) * zI a + zI b = zI (3 * a + b) := by rw [show (3 : Int32) = zI 3 from rfl, zI_mul, zI_add]
  have e97 : U 97 (3 * a + b) = A.2.2.2.2.2 (3 * a + b) := hC.2.1.role _ (by omega)
  have vi : vp_in (zI (3 * a + b)) 24 := vp_in_I (by omega) (by omega)
  unfold F_M_roles Sf_M_roles aR
  rw [e1, zI_clamp (show 3 * a + b < 2147483648 by omega), e97]
  by_cases q : A.2.2.2.2.2 (3 * a + b) = v
  · rw [if_pos q, if_pos q, if_pos q]
    exact ⟨U, rfl, ⟨vi, trivial⟩, zFMX.rfl, hC⟩
  · rw [if_neg q, if_neg q, if_neg q]
    obtain ⟨V, v1, v2, v3, v4⟩ := M_push_I (b := 86) (by omega) hC hn p h.2.2.2 (e := (0, a, b, 0, A.2.2.2.2.2 (3 * a + b), v)) (Or.inl ⟨rfl, ha, hb⟩) (fun q => absurd q (by simp)) hA.cnt
    exact ⟨V, v1, ⟨vi, vi, v2, trivial⟩, v4.mx, v3⟩
theorem o_0 {fl : Nat → Nat} {S : Nat → Nat → Int32} {d : Nat} {A : zA} {rn : Nat} (h : zB0 fl S d A rn) (a1 a2 a3 a4 a5 a6 : Int32) : Sl_0 fl S a1 a2 a3 a4 a5 a6 ∧ zEnd S (Fl_0 fl S a1 a2 a3 a4 a5 a6) d := by
  suffices g : zOp (fun E => (if E = "java/lang/IndexOutOfBoundsException" then 1 else (if E = "java/lang/IllegalArgumentException" then 2 else (if E = "java/lang/IllegalStateException" then 3 else 0)))) (fun E => E = "java/lang/IndexOutOfBoundsException" ∨ E = "java/lang/IllegalArgumentException" ∨ E = "java/lang/IllegalStateException") S d (F_T_grant S a1 a2 a3) (Sf_T_grant S a1 a2 a3) (fun U => F_M_grant fl U a1 a2 a3) (fun U => Sf_M_grant fl U a1 a2 a3) from g
  by_cases hp1 : 0 ≤ a1.toInt ∧ a1.toInt < 8 ∧ 0 ≤ a2.toInt ∧ a2.toInt < 3
  case neg =>
    have hbm := h.bm (zFX.rfl (S := S))
    obtain ⟨p1, p2⟩ := M_isPerson_I S a1
    refine zOp_err (E := "java/lang/IndexOutOfBoundsException") (V := S) (x := 0) (W := z_uS S 78 0 1) ?_ ?_ (Or.inl rfl) (by decide) zFCX.rfl h.ok h.ns h.c ?_ ?_ (by rw [uS_at]; rfl) (zFMX.thr _ _) (hbm.m.thr _)
    · unfold F_T_grant; rw [T_isPerson_eq, T_isProject_eq]
      by_cases q : 0 ≤ a1.toInt ∧ a1.toInt < 8
      · simp only [if_pos q, if_neg ne_10, if_neg (show ¬ (0 ≤ a2.toInt ∧ a2.toInt < 3) by omega), if_true]
      · simp only [if_neg q, if_true]
    · unfold Sf_T_grant; rw [T_isPerson_eq, T_isProject_eq]
      by_cases q : 0 ≤ a1.toInt ∧ a1.toInt < 8
      · simp only [if_pos q, if_neg ne_10, if_neg (show ¬ (0 ≤ a2.toInt ∧ a2.toInt < 3) by omega), if_true]
      · simp only [if_neg q, if_true]
    · show F_M_grant fl S a1 a2 a3 = _
      unfold F_M_grant F_M_grant_j20 F_M_grant_j21 F_M_grant_j48
      simp only [p1, M_isIn_eq, show (0 : Int32).toInt = 0 from rfl, show (2 : Int32).toInt = 2 from rfl]
      by_cases q : 0 ≤ a1.toInt ∧ a1.toInt < 8
      · simp only [if_pos q, if_neg ne_10, if_neg (show ¬ (0 ≤ a2.toInt ∧ a2.toInt ≤ 2) by omega), if_true, if_neg le_10]
      · simp only [if_neg q, if_true, if_neg le_10]
    · show Sf_M_grant fl S a1 a2 a3
      unfold Sf_M_grant Sf_M_grant_j20 Sf_M_grant_j21 Sf_M_grant_j48
      simp only [p1, M_isIn_eq, show (0 : Int32).toInt = 0 from rfl, show (2 : Int32).toInt = 2 from rfl]
      by_cases q : 0 ≤ a1.toInt ∧ a1.toInt < 8
      · simp only [if_pos q, if_neg ne_10, if_neg (show ¬ (0 ≤ a2.toInt ∧ a2.toInt ≤ 2) by omega), if_true, if_neg le_10]; exact ⟨p2, trivial⟩
      · simp only [if_neg q, if_true, if_neg le_10]; exact ⟨p2, trivial⟩
  obtain ⟨pa, pb, pc, pd⟩ := hp1
  obtain ⟨p, hp, rfl⟩ := zI_ex (n := 8) pa (by omega) (by omega)
  obtain ⟨k, hk, rfl⟩ := zI_ex (n := 3) pc (by omega) (by omega)
  have hper := T_isPerson_I S hp
  have hpro : F_T_isProject S (zI k) = 1 := by rw [T_isProject_eq, if_pos ⟨pc, pd⟩]
  have hMi : ∀ U : Nat → Nat → Int32, F_M_grant fl U (zI p) (zI k) a3 = (if 0 ≤ a3.toInt ∧ a3.toInt ≤ 15 then F_M_grant_j48 fl U (zI p) (zI k) a3 0 else (0, z_uS U 78 0 2)) ∧ ((if 0 ≤ a3.toInt ∧ a3.toInt ≤ 15 then Sf_M_grant_j48 fl U (zI p) (zI k) a3 0 else True) → Sf_M_grant fl U (zI p) (zI k) a3) := by
    intro U
    obtain ⟨p1, p2⟩ := M_isPerson_I U (zI p)
    rw [if_pos ⟨pa, pb⟩] at p1
    unfold F_M_grant Sf_M_grant F_M_grant_j21 Sf_M_grant_j21
    simp only [p1, if_neg ne_10, M_isIn_eq, show (0 : Int32).toInt = 0 from rfl, show (2 : Int32).toInt = 2 from rfl, show (15 : Int32).toInt = 15 from rfl, if_pos (show 0 ≤ (zI k).toInt ∧ (zI k).toInt ≤ 2 by omega)]
    by_cases q : 0 ≤ a3.toInt ∧ a3.toInt ≤ 15
    · simp only [if_pos q, if_neg ne_10]; exact ⟨trivial, fun z => ⟨p2, z⟩⟩
    · simp only [if_neg q, if_true]
      unfold F_M_grant_j48 Sf_M_grant_j48
      simp only [if_neg le_20]; exact ⟨trivial, fun _ => ⟨p2, trivial⟩⟩
  by_cases hr : 0 ≤ a3.toInt ∧ a3.toInt ≤ 15
  case neg =>
    have hbm := h.bm (zFX.rfl (S := S))
    obtain ⟨y1, y2⟩ := hMi S
    rw [if_neg hr] at y1 y2
    refine zOp_err (E := "java/lang/IllegalArgumentException") (V := S) ?_ ?_ (Or.inr (Or.inl rfl)) (by decide) zFCX.rfl h.ok h.ns h.c y1 (y2 trivial) (by rw [uS_at]; rfl) (zFMX.thr _ _) (hbm.m.thr _)
    · unfold F_T_grant; simp only [hper, hpro, if_neg ne_10, T_isRoles_eq, if_neg hr, if_true]
    · unfold Sf_T_grant; simp only [hper, hpro, if_neg ne_10, T_isRoles_eq, if_neg hr, if_true]
  have hn := h.n
  have hro : F_T_isRoles S a3 = 1 := by rw [T_isRoles_eq, if_pos hr]
  have ek : zI p * 3 + zI k = zI (3 * p + k) := by rw [show (3 : Int32) = zI 3 from rfl, zI_mul, zI_add, Nat.mul_comm]
  have o1 := aR_ok (p := p) (a := p) (b := k) h.ok hp hk hr.1 hr.2 hp
  have hb := aR_n (d := d) (p := p) (a := p) (b := k) (v := a3) (A := A)
  obtain ⟨C, c1, c2, c3, c4⟩ := T_chgR (p := p) h.d h.c (by omega) hp hk a3
  obtain ⟨D, d1, d2, d3, d4⟩ := T_lim (m := A.2.1) c4 o1 (by omega) hb.1
  obtain ⟨q1, q2⟩ := aLim_ok (m := A.2.1) o1 hb.1 hn
  have h17 : S 1 7 = zI A.2.1 := h.c.1.size
  have hold : F_World_rolesOf 9 S (zI p) (zI k) = A.2.2.2.2.2 (3 * p + k) := by rw [World_rolesOf_I hp hk]; exact h.c.2.role _ (by omega)
  have hfx : zFCX S D := c3.cx.trans d3
  have hM : ∀ U : Nat → Nat → Int32, zBM fl S U d A rn → ∃ W, F_M_grant fl U (zI p) (zI k) a3 = (if (aR d p p k a3 A).2.1 ≤ 800 then A.2.2.2.2.2 (3 * p + k) else 0, W) ∧ Sf_M_grant fl U (zI p) (zI k) a3 ∧ zFMX U W ∧ (W 78 0 = if (aR d p p k a3 A).2.1 ≤ 800 then 0 else 3) ∧ zRM 86 W (aLim A.2.1 (aR d p p k a3 A)) := by
    intro U hU2
    obtain ⟨y1, y2⟩ := hMi U
    rw [if_pos hr] at y1 y2
    have hU0 := hU2.thr 0
    obtain ⟨X, k1, k2, k3, k4⟩ := M_roles_I hU0.bx hU0.m h.ok (by omega) p hp hk a3
    obtain ⟨Y, l1, l2, l3, l4⟩ := M_lim0 (fl := fl) (m := A.2.1) k4 o1 (by omega) hb.1
    have hsz : U 78 2 = zI A.2.1 := hU2.m.1.size
    have e1 : (3 : Int32) * zI p + zI k = zI (3 * p + k) := by rw [show (3 : Int32) = zI 3 from rfl, zI_mul, zI_add]
    have e97 : U 97 (3 * p + k) = A.2.2.2.2.2 (3 * p + k) := hU2.m.2.1.role _ (by omega)
    have vi : vp_in (zI (3 * p + k)) 24 := vp_in_I (by omega) (by omega)
    by_cases r8 : (aR d p p k a3 A).2.1 ≤ 800
    · rw [if_pos r8] at l1
      refine ⟨z_uS Y 78 0 0, ?_, y2 ?_, (((zFMX.thr U 0).trans k3).trans l3).trans (zFMX.thr _ _), by rw [if_pos r8]; exact uS_at _ _ _ _, l4.thr _⟩
      · rw [y1, if_pos r8]
        unfold F_M_grant_j48 F_M_grant_j105
        simp only [if_pos le_00, z_let, k1, hsz, l1, if_neg ne_10, e1, zI_clamp (show 3 * p + k < 2147483648 by omega), e97]
      · unfold Sf_M_grant_j48
        simp only [if_pos le_00, z_let, k1, hsz, e1]; exact ⟨vi, k2, l2, trivial⟩
    · rw [if_neg r8] at l1
      refine ⟨z_uS Y 78 0 3, ?_, y2 ?_, (((zFMX.thr U 0).trans k3).trans l3).trans (zFMX.thr _ _), by rw [if_neg r8]; exact uS_at _ _ _ _, l4.thr _⟩
      · rw [y1, if_neg r8]
        unfold F_M_grant_j48 F_M_grant_j105
        simp only [if_pos le_00, z_let, k1, hsz, l1, if_true, if_neg le_30]
      · unfold Sf_M_grant_j48
        simp only [if_pos le_00, z_let, k1, hsz, e1]; exact ⟨vi, k2, l2, trivial⟩
  by_cases r8 : (aR d p p k a3 A).2.1 ≤ 800
  · obtain ⟨W, m1, m2, m3, m4, m5⟩ := hM (z_uS D 193 0 (A.2.2.2.2.2 (3 * p + k))) (h.bm (hfx.out _))
    rw [if_pos r8] at m1 m4 d1
    refine zOp_ok (V := D) (v := A.2.2.2.2.2 (3 * p + k)) ?_ ?_ hfx q1 ⟨q2, h.clim zNb.rfl.aR⟩ d4 m1 m2 m4 m3 m5
    · unfold F_T_grant; simp only [hper, hpro, hro, if_neg ne_10, z_let, ek, c1, h17, d1, hold]
    · unfold Sf_T_grant; simp only [hper, hpro, hro, if_neg ne_10, z_let, ek, c1, h17]; exact ⟨c2, d2, trivial⟩
  · obtain ⟨W, m1, m2, m3, m4, m5⟩ := hM D (h.bm hfx.x)
    rw [if_neg r8] at m1 m4 d1
    refine zOp_err (E := "java/lang/IllegalStateException") (V := D) ?_ ?_ (Or.inr (Or.inr rfl)) (by decide) hfx q1 ⟨q2, h.clim zNb.rfl.aR⟩ d4 m1 m2 m4 m3 m5
    · unfold F_T_grant; simp only [hper, hpro, hro, if_neg ne_10, z_let, ek, c1, h17, d1, if_true]
    · unfold Sf_T_grant; simp only [hper, hpro, hro, if_neg ne_10, z_let, ek, c1, h17]; exact ⟨c2, d2, trivial⟩
