/-! PURE: create, the call -/
theorem aBo_cnt {d p k x : Nat} {A : zA} : zCnt (aBo d p (zCnt A.1 A.2.1) k x A).1 (aBo d p (zCnt A.1 A.2.1) k x A).2.1 = zCnt A.1 A.2.1 + 1 := (zRep_push A.1 A.2.1 (1, zCnt A.1 A.2.1, k, x, 0, 0) d p).2
theorem aBo_back {d p c k x : Nat} {A : zA} : zCnt (aBack A.2.1 (aBo d p c k x A)).1 (aBack A.2.1 (aBo d p c k x A)).2.1 = zCnt A.1 A.2.1 := zCnt_nb (fun i hi => zPush_lt hi) _ (Nat.le_refl _)
theorem wC_beg {w : zWd} {i' i c : Nat} {k x : Int32} (hw : (zBeg w i' k x).1 i = true) : wC (zBeg w i' k x) i c = if i = i' then zBegC k x c else wC w i c := by
  unfold wC
  rw [if_pos hw]
  show (if i = i' then zBegC k x c else w.2.1 i c) = _
  by_cases q : i = i'
  · rw [if_pos q, if_pos q]
  · have h : (if i = i' then true else w.1 i) = true := hw
    rw [if_neg q] at h
    rw [if_neg q, if_neg q, if_pos h]
theorem o_14 {fl : Nat → Nat} {S : Nat → Nat → Int32} {d : Nat} {A : zA} {rn : Nat} (h : zB0 fl S d A rn) (hF : zCF fl S S) (hK : zRK S (zCnt A.1 A.2.1)) (a1 a2 a3 a4 a5 a6 : Int32) : Sl_14 fl S a1 a2 a3 a4 a5 a6 ∧ zEndK S (Fl_14 fl S a1 a2 a3 a4 a5 a6) d := by
  suffices g : zOpQ (fun E => (if E = "java/lang/IndexOutOfBoundsException" then 1 else (if E = "java/lang/IllegalStateException" then 2 else 0))) (fun E => E = "java/lang/IndexOutOfBoundsException" ∨ E = "java/lang/IllegalStateException") (fun x => x) (F_T_create S a1 a2 a3) (Sf_T_create S a1 a2 a3) (fun U => F_M_create fl U a1 a2 a3) (fun U => Sf_M_create fl U a1 a2 a3) (fun W => zEndK S W d) from by
    have eL : F_L_create S a1 a2 a3 = LQ (fun E => (if E = "java/lang/IndexOutOfBoundsException" then 1 else (if E = "java/lang/IllegalStateException" then 2 else 0))) (fun x => x) (F_T_create S a1 a2 a3) := by
      unfold F_L_create LQ
      generalize F_T_create S a1 a2 a3 = t
      obtain ⟨r, s⟩ := t
      cases r <;> exact Eq.refl _
    have eM : ∀ Z : Nat → Nat → Int32, F_M_thrown Z = Z 78 0 := fun Z => Eq.refl _
    unfold Sl_14 Fl_14 Sf_L_create
    rw [eL, eM]
    unfold zOpQ at g
    dsimp only at g
    generalize F_M_create fl (LQ (fun E => (if E = "java/lang/IndexOutOfBoundsException" then 1 else (if E = "java/lang/IllegalStateException" then 2 else 0))) (fun x => x) (F_T_create S a1 a2 a3)).2 a1 a2 a3 = r at g ⊢
    exact g
  have hbm0 := h.bm (zFX.rfl (S := S))
  have e0 : ∀ W, zFMX S W → zRM 86 W A → zEndK S W d := fun W g1 g2 => (zEnd_of (Or.inl zFCX.rfl) g1 h.ok h.ns h.c g2).k h hK
  by_cases hp : (0 ≤ a1.toInt ∧ a1.toInt < 8) ∧ (0 ≤ a2.toInt ∧ a2.toInt < 3) ∧ 0 ≤ a3.toInt ∧ a3.toInt < 3
  case neg =>
    obtain ⟨p1, p2⟩ := M_isPerson_I S a1
    refine zOpQ_err (E := "java/lang/IndexOutOfBoundsException") (V := S) (x := 0) (W := z_uS S 78 0 1) ?_ ?_ (Or.inl rfl) (by decide) ?_ ?_ (by rw [uS_at]; rfl) (e0 _ (zFMX.thr _ _) (hbm0.m.thr _))
    · unfold F_T_create; rw [T_isPerson_eq, T_isProject_eq, T_isKind_eq]
      by_cases q : 0 ≤ a1.toInt ∧ a1.toInt < 8
      · by_cases q2 : 0 ≤ a2.toInt ∧ a2.toInt < 3
        · simp only [if_pos q, if_pos q2, if_neg ne_10, if_neg (fun z => hp ⟨q, q2, z⟩), if_true]
        · simp only [if_pos q, if_neg ne_10, if_neg q2, if_true]
      · simp only [if_neg q, if_true]
    · unfold Sf_T_create; rw [T_isPerson_eq, T_isProject_eq, T_isKind_eq]
      by_cases q : 0 ≤ a1.toInt ∧ a1.toInt < 8
      · by_cases q2 : 0 ≤ a2.toInt ∧ a2.toInt < 3
        · simp only [if_pos q, if_pos q2, if_neg ne_10, if_neg (fun z => hp ⟨q, q2, z⟩), if_true]
        · simp only [if_pos q, if_neg ne_10, if_neg q2, if_true]
      · simp only [if_neg q, if_true]
    · show F_M_create fl S a1 a2 a3 = _
      unfold F_M_create F_M_create_j29 F_M_create_j30 F_M_create_j43
      rw [p1]
      simp only [M_isIn_eq, show (0 : Int32).toInt = 0 from rfl, show (2 : Int32).toInt = 2 from rfl]
      by_cases q : 0 ≤ a1.toInt ∧ a1.toInt < 8
      · by_cases q2 : 0 ≤ a2.toInt ∧ a2.toInt ≤ 2
        · simp only [if_pos q, if_pos q2, if_neg ne_10, if_neg (show ¬ (0 ≤ a3.toInt ∧ a3.toInt ≤ 2) from fun z => hp ⟨q, by omega, by omega⟩), if_true, if_neg le_10]
        · simp only [if_pos q, if_neg ne_10, if_neg q2, if_true, if_neg le_10]
      · simp only [if_neg q, if_true, if_neg le_10]
    · show Sf_M_create fl S a1 a2 a3
      unfold Sf_M_create Sf_M_create_j29 Sf_M_create_j30 Sf_M_create_j43
      rw [p1]
      simp only [M_isIn_eq, show (0 : Int32).toInt = 0 from rfl, show (2 : Int32).toInt = 2 from rfl]
      by_cases q : 0 ≤ a1.toInt ∧ a1.toInt < 8
      · by_cases q2 : 0 ≤ a2.toInt ∧ a2.toInt ≤ 2
        · simp only [if_pos q, if_pos q2, if_neg ne_10, if_neg (show ¬ (0 ≤ a3.toInt ∧ a3.toInt ≤ 2) from fun z => hp ⟨q, by omega, by omega⟩), if_true, if_neg le_10]; exact ⟨p2, trivial⟩
        · simp only [if_pos q, if_neg ne_10, if_neg q2, if_true, if_neg le_10]; exact ⟨p2, trivial⟩
      · simp only [if_neg q, if_true, if_neg le_10]; exact ⟨p2, trivial⟩
  obtain ⟨⟨pa, pb⟩, ⟨pc, pd⟩, pe, pf⟩ := hp
  obtain ⟨p, hp, rfl⟩ := zI_ex (n := 8) pa (by omega) (by omega)
  obtain ⟨x, hx, rfl⟩ := zI_ex (n := 3) pc (by omega) (by omega)
  obtain ⟨k, hk, rfl⟩ := zI_ex (n := 3) pe (by omega) (by omega)
  have t1 := T_isPerson_I S hp
  have t2 : F_T_isProject S (zI x) = 1 := by rw [T_isProject_eq, if_pos ⟨pc, pd⟩]
  have t3 : F_T_isKind S (zI k) = 1 := by rw [T_isKind_eq, if_pos ⟨pe, pf⟩]
  have t4 : F_T_canEditIn S (zI p) (zI x) = if A.2.2.2.2.2 (3 * p + x) &&& S 38 x = 0 then 0 else 1 := by
    unfold F_T_canEditIn
    rw [World_rolesOf_I hp hx, h.c.2.role _ (by omega), zAt_I hx (by omega)]
  have t5 := World_size_I h.c.2 h.ok
  have hn := h.n
  have hc30 := h.ok.cnt
  have hMi : ∀ U : Nat → Nat → Int32, zBM fl S U d A rn → F_M_create fl U (zI p) (zI x) (zI k) = F_M_create_j43 fl U (zI p) (zI x) (zI k) 0 ∧ (Sf_M_create_j43 fl U (zI p) (zI x) (zI k) 0 → Sf_M_create fl U (zI p) (zI x) (zI k)) := by
    intro U hu
    obtain ⟨p1, p2⟩ := M_isPerson_I U (zI p)
    rw [if_pos ⟨pa, pb⟩] at p1
    unfold F_M_create Sf_M_create F_M_create_j30 Sf_M_create_j30
    simp only [p1, if_neg ne_10, M_isIn_eq, show (0 : Int32).toInt = 0 from rfl, show (2 : Int32).toInt = 2 from rfl, if_pos (show 0 ≤ (zI x).toInt ∧ (zI x).toInt ≤ 2 by omega), if_pos (show 0 ≤ (zI k).toInt ∧ (zI k).toInt ≤ 2 by omega)]
    exact ⟨trivial, fun z => ⟨p2, z⟩⟩
  have hMj : ∀ U : Nat → Nat → Int32, zBM fl S U d A rn → F_M_create_j43 fl U (zI p) (zI x) (zI k) 0 = (if A.2.2.2.2.2 (3 * p + x) &&& S 38 x = 0 then F_M_create_j91 fl (z_uS U 78 0 0) (zI p) (zI x) (zI k) else if (30 : Int32) ≤ zI (zCnt A.1 A.2.1) then F_M_create_j91 fl (z_uS U 78 0 0) (zI p) (zI x) (zI k) else F_M_create_j92 fl (z_uS U 78 0 0) (zI p) (zI x) (zI k) 1) ∧ ((if A.2.2.2.2.2 (3 * p + x) &&& S 38 x = 0 then Sf_M_create_j91 fl (z_uS U 78 0 0) (zI p) (zI x) (zI k) else if (30 : Int32) ≤ zI (zCnt A.1 A.2.1) then Sf_M_create_j91 fl (z_uS U 78 0 0) (zI p) (zI x) (zI k) else Sf_M_create_j92 fl (z_uS U 78 0 0) (zI p) (zI x) (zI k) 1) → Sf_M_create_j43 fl U (zI p) (zI x) (zI k) 0) := by
    intro U hu
    obtain ⟨r1, r2⟩ := M_rolesOf_I (hu.thr 0).m.2.1 hp hx
    have e125 : U 125 x = S 38 x := (hu.y.1 x hx).2.1
    have e86 : U 86 0 = zI (zCnt A.1 A.2.1) := hu.m.2.2
    unfold F_M_create_j43 Sf_M_create_j43
    rw [if_pos le_00, if_pos le_00, r1, zI_clamp (show x < 2147483648 by omega), e125, e86]
    exact ⟨rfl, fun z => ⟨r2, vp_in_I hx (by omega), z⟩⟩
  have stop : ∀ U, F_M_create_j91 fl U (zI p) (zI x) (zI k) = (0, z_uS U 78 0 2) ∧ Sf_M_create_j91 fl U (zI p) (zI x) (zI k) := by
    intro U
    unfold F_M_create_j91 F_M_create_j92 F_M_create_j105 Sf_M_create_j91 Sf_M_create_j92 Sf_M_create_j105
    simp only [if_true, if_neg le_20]
    exact ⟨trivial, trivial⟩
  by_cases hgo : ¬ A.2.2.2.2.2 (3 * p + x) &&& S 38 x = 0 ∧ zCnt A.1 A.2.1 < 30
  case neg =>
    obtain ⟨y1, y2⟩ := hMi S hbm0
    obtain ⟨z1, z2⟩ := hMj S hbm0
    obtain ⟨s1, s2⟩ := stop (z_uS S 78 0 0)
    have hfr : zFMX S (z_uS (z_uS S 78 0 0) 78 0 2) := (zFMX.thr _ _).trans (zFMX.thr _ _)
    refine zOpQ_err (E := "java/lang/IllegalStateException") (V := S) (x := 0) (W := z_uS (z_uS S 78 0 0) 78 0 2) ?_ ?_ (Or.inr rfl) (by decide) ?_ ?_ (by rw [uS_at]; rfl) (e0 _ hfr ((hbm0.m.thr 0).thr 2))
    · unfold F_T_create; simp only [t1, t2, t3, t4, t5, if_neg ne_10]
      by_cases q : A.2.2.2.2.2 (3 * p + x) &&& S 38 x = 0
      · simp only [if_pos q, if_true]
      · simp only [if_neg q, if_neg ne_10, if_pos (show (30 : Int32) ≤ zI (zCnt A.1 A.2.1) by rw [show (30 : Int32) = zI 30 from rfl, zI_le (by omega) (by omega)]; exact Nat.not_lt.mp fun z => hgo ⟨q, z⟩)]
    · unfold Sf_T_create; simp only [t1, t2, t3, t4, t5, if_neg ne_10]
      by_cases q : A.2.2.2.2.2 (3 * p + x) &&& S 38 x = 0
      · simp only [if_pos q, if_true]
      · simp only [if_neg q, if_neg ne_10, if_pos (show (30 : Int32) ≤ zI (zCnt A.1 A.2.1) by rw [show (30 : Int32) = zI 30 from rfl, zI_le (by omega) (by omega)]; exact Nat.not_lt.mp fun z => hgo ⟨q, z⟩)]
    · show F_M_create fl S (zI p) (zI x) (zI k) = _
      rw [y1, z1]
      by_cases q : A.2.2.2.2.2 (3 * p + x) &&& S 38 x = 0
      · rw [if_pos q]; exact s1
      · rw [if_neg q, if_pos (show (30 : Int32) ≤ zI (zCnt A.1 A.2.1) by rw [show (30 : Int32) = zI 30 from rfl, zI_le (by omega) (by omega)]; exact Nat.not_lt.mp fun z => hgo ⟨q, z⟩)]; exact s1
    · show Sf_M_create fl S (zI p) (zI x) (zI k)
      refine y2 (z2 ?_)
      by_cases q : A.2.2.2.2.2 (3 * p + x) &&& S 38 x = 0
      · rw [if_pos q]; exact s2
      · rw [if_neg q, if_pos (show (30 : Int32) ≤ zI (zCnt A.1 A.2.1) by rw [show (30 : Int32) = zI 30 from rfl, zI_le (by omega) (by omega)]; exact Nat.not_lt.mp fun z => hgo ⟨q, z⟩)]; exact s2
  obtain ⟨hcan, hc⟩ := hgo
  have n30 : ¬ (30 : Int32) ≤ zI (zCnt A.1 A.2.1) := by rw [show (30 : Int32) = zI 30 from rfl, zI_le (by omega) (by omega)]; omega
  have hCX : zCX S S d := ⟨fun k hk => rfl, fun k hk => rfl, h.d⟩
  have h17 : S 1 7 = zI A.2.1 := h.c.1.size
  have h14 := h.d
  have hX := aBo_ok (d := d) h.ok hc hk hx hp
  have hXn : (aBo d p (zCnt A.1 A.2.1) k x A).2.1 = A.2.1 + 1 := rfl
  have hby : aBy p A.2.1 (aBo d p (zCnt A.1 A.2.1) k x A) := (aBy_0 (Nat.le_refl _)).push _
  have hcnt := aBo_cnt (d := d) (p := p) (k := k) (x := x) (A := A)
  have hbk := aBo_back (d := d) (p := p) (c := zCnt A.1 A.2.1) (k := k) (x := x) (A := A)
  obtain ⟨V0, V1, v1, v2, v3, v4, v5, v6⟩ := T_born_I (d := d) (p := p) h.c hn hc hk hx
  obtain ⟨D, d1, d2, d3, d4⟩ := T_stl (m := A.2.1) (hCX.cx v5.cx) h.ru hp v6 hX (by omega) (by omega)
  obtain ⟨q1, q2⟩ := aRes_ok (E := S) (m := A.2.1) h.ru hp hX (by omega) hn
  have hfcx : zFCX S D := v5.cx.trans d3
  obtain ⟨h68, R, hR, hinj⟩ := hK
  have hcr : aSt S d p rn A.2.1 (aBo d p (zCnt A.1 A.2.1) k x A) = true → zCnt (aRes S d p rn A.2.1 (aBo d p (zCnt A.1 A.2.1) k x A)).1 (aRes S d p rn A.2.1 (aBo d p (zCnt A.1 A.2.1) k x A)).2.1 = zCnt A.1 A.2.1 + 1 := by
    intro q
    have g := (aGo_ok (E := S) (fall := false) h.ru hp 1300 A.2.1 (aBo d p (zCnt A.1 A.2.1) k x A) hX (by omega : _ ≤ (aBo d p (zCnt A.1 A.2.1) k x A).2.1 + 20 + 1)).2.2.nw.cnt
    unfold aRes
    rw [if_pos q]
    exact g.trans hcnt
  have hcr0 : ¬ aSt S d p rn A.2.1 (aBo d p (zCnt A.1 A.2.1) k x A) = true → zCN S (aRes S d p rn A.2.1 (aBo d p (zCnt A.1 A.2.1) k x A)) := by
    intro q
    refine ⟨h.cn.1.trans (congrArg zI ?_), ⟨A.2.1, A.1, h.c.1, ?_⟩, fun z => ?_⟩
    · unfold aRes
      rw [if_neg q]
      exact hbk.symm
    · unfold aRes
      rw [if_neg q]
      exact ⟨Nat.le_refl _, fun i hi => zPush_lt hi⟩
    · unfold aRes
      rw [if_neg q]
      exact (h.c.so.mp z).back h.ok hX (Nat.le_succ _) fun i hi => zPush_lt hi
  have hso : zSo S A.2.2 → zSo S (aBo d p (zCnt A.1 A.2.1) k x A).2.2 := by
    intro z i hi hw
    show eS S (wC (zBeg A.2.2 (zCnt A.1 A.2.1) (zI k) (zI x)) i 9) (wC (zBeg A.2.2 (zCnt A.1 A.2.1) (zI k) (zI x)) i 0) = true
    have hw2 : (zBeg A.2.2 (zCnt A.1 A.2.1) (zI k) (zI x)).1 i = true := hw
    rw [wC_beg hw2, wC_beg hw2]
    by_cases q : i = zCnt A.1 A.2.1
    · rw [if_pos q, if_pos q]
      obtain ⟨c9, -, hf⟩ := hF.flow hk
      show zB (S 55 (zI k).toNatClampNeg) 0 = true
      rw [zI_clamp (show k < 2147483648 by omega)]
      exact hf.b0
    · rw [if_neg q, if_neg q]
      have hw' : (if i = zCnt A.1 A.2.1 then true else A.2.2.1 i) = true := hw
      rw [if_neg q] at hw'
      exact z i hi hw'
  have hpre : aSt S d p rn A.2.1 (aBo d p (zCnt A.1 A.2.1) k x A) = true → zPre S (aRes S d p rn A.2.1 (aBo d p (zCnt A.1 A.2.1) k x A)) := by
    intro q
    have g := (aGo_ok (E := S) (fall := false) h.ru hp 1300 A.2.1 (aBo d p (zCnt A.1 A.2.1) k x A) hX (by omega : _ ≤ (aBo d p (zCnt A.1 A.2.1) k x A).2.1 + 20 + 1)).2.2.nw
    unfold aRes
    rw [if_pos q]
    exact ⟨⟨A.2.1, A.1, h.c.1, Nat.le_trans (Nat.le_succ _) g.1, fun i hi => (g.2.1 i (Nat.lt_succ_of_lt hi)).trans (zPush_lt hi)⟩, fun z => so_go h.ru 1300 A.2.1 _ (hso (h.c.so.mp z))⟩
  generalize hBX : aBo d p (zCnt A.1 A.2.1) k x A = X at *
  generalize hcc : zCnt A.1 A.2.1 = c at *
  have hM : ∀ U, zBM fl S U d A rn → U 167 = S 167 → ∃ w W, (c = 0 ∧ w = -1 ∨ ∃ a, a < c ∧ w = zI a ∧ R a = rG R c) ∧ F_M_create fl U (zI p) (zI x) (zI k) = (if aSt S d p rn A.2.1 X = true then F_M_create_j170 fl W (zI c) w 0 else F_M_create_j170 fl W (zI c) w 2) ∧ ((if aSt S d p rn A.2.1 X = true then Sf_M_create_j170 fl W (zI c) w 0 else Sf_M_create_j170 fl W (zI c) w 2) → Sf_M_create fl U (zI p) (zI x) (zI k)) ∧ zFMX U W ∧ zRM 86 W (aRes S d p rn A.2.1 X) := by
    intro U hu e167
    obtain ⟨y1, y2⟩ := hMi U hu
    obtain ⟨z1, z2⟩ := hMj U hu
    rw [if_neg hcan, if_neg n30] at z1 z2
    have h0 := hu.thr 0
    have h00 := h0.thr 0
    have hsz : (z_uS U 78 0 0) 78 2 = zI A.2.1 := h0.m.1.size
    have e86 : (z_uS U 78 0 0) 86 0 = zI c := by rw [← hcc]; exact h0.m.2.2
    obtain ⟨w, w1, w2, w3⟩ := M_ahead_I (U := z_uS (z_uS U 78 0 0) 78 0 0) (n := c) (R := R) (by omega) (by rw [← hcc]; exact h00.m.2.2) (fun y hy => ⟨(hR y hy).1, by rw [z_uS_ne _ _ _ (by omega), z_uS_ne _ _ _ (by omega), e167]; exact (hR y hy).2.2⟩)
    obtain ⟨Y, k1, k2, k3, k4⟩ := M_born_I (p := p) h00.d h00.m h.ok hn (by rw [hcc]; exact hc) hk hx
    rw [hcc, hBX] at k4
    rw [hcc] at k1 k2
    obtain ⟨W, s1, s2, s3, s4⟩ := M_stl (m := A.2.1) (h00.bx.mx k3) hp k4 hX (by omega) (by omega) hby
    refine ⟨w, W, w3, ?_, fun z => y2 (z2 ?_), (((zFMX.thr U 0).trans (zFMX.thr _ 0)).trans k3).trans s3, s4⟩
    · rw [y1, z1]
      unfold F_M_create_j92 F_M_create_j105
      simp only [if_neg ne_10, if_pos le_00, e86, hsz, w1, k1, z_let, s1]
      by_cases q : aSt S d p rn A.2.1 X = true
      · simp only [if_pos q, if_neg ne_10]
      · simp only [if_neg q, if_true]
    · unfold Sf_M_create_j92 Sf_M_create_j105
      simp only [if_neg ne_10, if_pos le_00, e86, hsz, w1, k1, z_let, s1]
      refine ⟨w2, k2, s2, ?_⟩
      by_cases q : aSt S d p rn A.2.1 X = true
      · simp only [if_pos q, if_neg ne_10] at z ⊢; exact z
      · simp only [if_neg q, if_true] at z ⊢; exact z
  have hT : ∀ r, F_T_create S (zI p) (zI x) (zI k) = r ↔ (if aSt S d p rn A.2.1 X = true then z_let (F_Ranks_append D (zI c)) (fun S119 => ((.inr (zI c) : String ⊕ Int32), S119)) else (.inl "java/lang/IllegalStateException", D)) = r := by
    intro r
    unfold F_T_create
    simp only [t1, t2, t3, t4, t5, if_neg ne_10, if_neg hcan, if_neg n30, h14, h17, v1, v3, z_let, d1]
    by_cases q : aSt S d p rn A.2.1 X = true
    · simp only [if_pos q, if_neg ne_10]
    · simp only [if_neg q, if_true]
  have hTs : (aSt S d p rn A.2.1 X = true → Sf_Ranks_append D (zI c)) → Sf_T_create S (zI p) (zI x) (zI k) := by
    intro z
    unfold Sf_T_create
    simp only [t1, t2, t3, t4, t5, if_neg ne_10, if_neg hcan, if_neg n30, h14, h17, v1, v3, z_let, d1]
    refine ⟨v2, v4, d2, ?_⟩
    by_cases q : aSt S d p rn A.2.1 X = true
    · simp only [if_pos q, if_neg ne_10]; exact ⟨z q, trivial⟩
    · simp only [if_neg q, if_true]
  by_cases hs : aSt S d p rn A.2.1 X = true
  · have D68 : D 68 = S 68 := hfcx.1 68 (by omega)
    have D69 : D 69 = S 69 := hfcx.1 69 (by omega)
    obtain ⟨g1, g2⟩ := T_append_I (S := D) (R := R) hc (by rw [D68]; exact h68) (fun y hy => ⟨(hR y hy).1.2, by rw [D69]; exact (hR y hy).2.1⟩)
    have hx1 : ∀ V, V = z_uS (z_uS (z_uS D 69 c (zI (rG R c + 1024))) 68 2 (zI (c + 1))) 193 0 (zI c) → ∀ j, j ≠ 68 → j ≠ 69 → j ≠ 193 → V j = D j := fun V e j a b g => by rw [e, z_uS_ne _ _ _ g, z_uS_ne _ _ _ a, z_uS_ne _ _ _ b]
    generalize hU0 : z_uS (z_uS (z_uS D 69 c (zI (rG R c + 1024))) 68 2 (zI (c + 1))) 193 0 (zI c) = U0
    have hx2 := hx1 U0 hU0.symm
    have hxf : zFX S U0 := fun j j1 j2 => (hx2 j (by omega) (by omega) j2).trans (hfcx.x j j1 j2)
    obtain ⟨w, W, w3, m1, m2, m3, m4⟩ := hM U0 (h.bm hxf) (hxf 167 (by omega) (by omega))
    rw [if_pos hs] at m1 m2
    have vc : vp_in (zI c) 30 := vp_in_I hc (by omega)
    have W167 : W 167 = S 167 := (m3.1 167 (by omega)).trans (hxf 167 (by omega) (by omega))
    have hj : F_M_create_j170 fl W (zI c) w 0 = (zI c, z_uS (z_uS W 78 0 0) 167 c (zI (rG R c + 1024))) ∧ Sf_M_create_j170 fl W (zI c) w 0 := by
      unfold F_M_create_j170 Sf_M_create_j170
      rw [if_pos le_00, if_pos le_00, zI_clamp (show c < 2147483648 by omega)]
      rcases w3 with ⟨c0, rfl⟩ | ⟨a, ha, rfl, hag⟩
      · rw [if_pos rfl, if_pos rfl, show rG R c = 0 by rw [c0]; rfl]
        exact ⟨rfl, vc, trivial⟩
      · rw [if_neg (m1_ne a (by omega)), if_neg (m1_ne a (by omega)), zI_clamp (show a < 2147483648 by omega), W167, (hR a ha).2.2, hag, show (1024 : Int32) = zI 1024 from rfl, zI_add]
        exact ⟨rfl, vp_in_I (by omega) (by omega), vc, trivial⟩
    obtain ⟨k1, k2⟩ := rG_new (fun y hy => (hR y hy).1) hinj
    have F1 : ∀ j, j ≠ 167 → j ≠ 78 → (z_uS (z_uS W 78 0 0) 167 c (zI (rG R c + 1024))) j = W j := fun j a b => by rw [z_uS_ne _ _ _ a, z_uS_ne _ _ _ b]
    refine zOpQ_ok (V := z_uS (z_uS D 69 c (zI (rG R c + 1024))) 68 2 (zI (c + 1))) (v := zI c) (W := z_uS (z_uS W 78 0 0) 167 c (zI (rG R c + 1024))) ((hT _).mpr ?_) (hTs fun _ => g2) ?_ ?_ ?_ ?_ ⟨?_, aRes S d p rn A.2.1 X, q1, q2, ?_, ?_, ?_, hpre hs⟩
    · rw [if_pos hs, g1]
    · rw [hU0]; exact m1.trans hj.1
    · rw [hU0]; exact m2 hj.2
    · rw [z_uS_ne _ _ _ (by omega), uS_at]
    · rw [F1 193 (by omega) (by omega), m3.1 193 (by omega), ← hU0, uS_at]
    · have a1 : zWr zW14 S D := hfcx.wr.mono zW14_in
      have a2 : zWr zW14 D U0 := by
        rw [← hU0]
        exact ((zWr.cell (by decide +kernel) _ c _).trans (zWr.slot (by decide +kernel) _ _)).trans (zWr.cell (by decide +kernel) _ 0 _)
      have a3 : zWr zW14 W (z_uS (z_uS W 78 0 0) 167 c (zI (rG R c + 1024))) := (zWr.slot (by decide +kernel) _ _).trans (zWr.cell (by decide +kernel) _ c _)
      exact ((a1.trans a2).trans (m3.wr.mono zW14_in)).trans a3
    · refine d4.ag ?_ fun j hj => ?_
      · rw [F1 1 (by omega) (by omega), m3.1 1 (by omega), hx2 1 (by omega) (by omega) (by omega)]
      · rw [F1 j (by omega) (by omega), m3.1 j (by omega), hx2 j (by omega) (by omega) (by omega)]
    · exact (m4.thr 0).ag (by omega) (by rw [z_uS_ne _ _ _ (by omega)]) (fun j hj => z_uS_ne _ _ _ (by omega))
    · rw [hcr hs]
      refine ⟨?_, fun y => if y = c then rG R c + 1024 else R y, fun y hy => ⟨k1 y hy, ?_, ?_⟩, k2⟩
      · rw [F1 68 (by omega) (by omega), m3.1 68 (by omega), ← hU0, z_uS_ne _ _ _ (by omega), uS_at]
      · show _ = zI (if y = c then rG R c + 1024 else R y)
        rw [F1 69 (by omega) (by omega), m3.1 69 (by omega), ← hU0, z_uS_ne _ _ _ (by omega), z_uS_ne _ _ _ (by omega)]
        by_cases e : y = c
        · rw [e, uS_at, if_pos rfl]
        · rw [uS_nj _ _ _ e, if_neg e, D69]; exact (hR y (by omega)).2.1
      · show _ = zI (if y = c then rG R c + 1024 else R y)
        by_cases e : y = c
        · rw [e, uS_at, if_pos rfl]
        · rw [uS_nj _ _ _ e, if_neg e, z_uS_ne _ _ _ (by omega), W167]; exact (hR y (by omega)).2.2
  · obtain ⟨w, W, w3, m1, m2, m3, m4⟩ := hM D (h.bm hfcx.x) (hfcx.1 167 (by omega))
    rw [if_neg hs] at m1 m2
    have hj : F_M_create_j170 fl W (zI c) w 2 = (0, z_uS W 78 0 2) ∧ Sf_M_create_j170 fl W (zI c) w 2 := by
      unfold F_M_create_j170 Sf_M_create_j170
      rw [if_neg le_20, if_neg le_20]; exact ⟨rfl, trivial⟩
    refine zOpQ_err (E := "java/lang/IllegalStateException") (V := D) (x := 0) (W := z_uS W 78 0 2) ((hT _).mpr ?_) (hTs fun z => absurd z hs) (Or.inr rfl) (by decide) (m1.trans hj.1) (m2 hj.2) (by rw [uS_at]; rfl) ((zEnd_of (Or.inl hfcx) (m3.trans (zFMX.thr _ _)) q1 ⟨q2, hcr0 hs⟩ d4 (m4.thr _)).k h ?_)
    · rw [if_neg hs]
    · rw [hcc]; exact ⟨h68, R, hR, hinj⟩
