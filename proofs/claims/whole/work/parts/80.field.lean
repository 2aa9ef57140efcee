/-! PURE: field; transfer -/
theorem o_32 {fl : Nat → Nat} {S : Nat → Nat → Int32} {d : Nat} {A : zA} {rn : Nat} (h : zB0 fl S d A rn) (a1 a2 a3 a4 a5 a6 : Int32) : Sl_32 fl S a1 a2 a3 a4 a5 a6 ∧ zEnd S (Fl_32 fl S a1 a2 a3 a4 a5 a6) d := by
  suffices g : zOp (fun E => (if E = "java/lang/IndexOutOfBoundsException" then 1 else (if E = "java/lang/IllegalArgumentException" then 2 else 0))) (fun E => E = "java/lang/IndexOutOfBoundsException" ∨ E = "java/lang/IllegalArgumentException") S d (F_T_field S a1 a2 a3) (Sf_T_field S a1 a2 a3) (fun U => F_M_field U a1 a2 a3) (fun U => Sf_M_field U a1 a2 a3) from g
  rcases T_head h a1 a2 with ⟨V, hv, hcx, hC, m1, m2⟩ | ⟨p, i, V, hp, hi, rfl, rfl, hsee, hw, hper, v1, v2, hcx, hC, hst, hCX, hU⟩
  · refine zOp_err (E := "java/lang/IndexOutOfBoundsException") (V := V) (x := 0) (W := z_uS V 78 0 1) ?_ ?_ (Or.inl rfl) (by decide) hcx h.ok h.ns hC ?_ ?_ (by rw [uS_at]; rfl) (zFMX.thr _ _) ((h.bm hcx.x).m.thr _)
    · unfold F_T_field
      rcases hv with ⟨g, rfl⟩ | ⟨g, v1, v2⟩
      · rw [if_pos g]
      · rw [g, v1]; rfl
    · unfold Sf_T_field
      rcases hv with ⟨g, rfl⟩ | ⟨g, v1, v2⟩
      · rw [if_pos g]; trivial
      · rw [g, v1]; exact ⟨v2, trivial⟩
    · show F_M_field V a1 a2 a3 = _
      unfold F_M_field F_M_field_j28
      simp only [m1, if_true, if_neg le_10]
    · show Sf_M_field V a1 a2 a3
      unfold Sf_M_field Sf_M_field_j28
      simp only [m1, if_true, if_neg le_10]; exact ⟨m2, trivial⟩
  have hbm := h.bm hcx.x
  by_cases hf : 0 ≤ a3.toInt ∧ a3.toInt ≤ 3
  case neg =>
    obtain ⟨n1, n2⟩ := hU V hbm
    refine zOp_err (E := "java/lang/IllegalArgumentException") (V := V) (x := 0) (W := z_uS V 78 0 2) ?_ ?_ (Or.inr rfl) (by decide) hcx h.ok h.ns hC ?_ ?_ (by rw [uS_at]; rfl) (zFMX.thr _ _) (hbm.m.thr _)
    · unfold F_T_field; rw [hper, v1]; simp only [if_neg ne_10, T_isAnyField_eq, if_neg hf, if_true]
    · unfold Sf_T_field; rw [hper, v1]; simp only [if_neg ne_10, T_isAnyField_eq, if_neg hf, if_true]; exact ⟨v2, trivial⟩
    · show F_M_field V (zI p) (zI i) a3 = _
      unfold F_M_field F_M_field_j28
      simp only [n1, if_neg ne_10, M_isIn_eq, show (0 : Int32).toInt = 0 from rfl, show (3 : Int32).toInt = 3 from rfl, if_neg hf, if_true, if_neg le_20]
    · show Sf_M_field V (zI p) (zI i) a3
      unfold Sf_M_field Sf_M_field_j28
      simp only [n1, if_neg ne_10, M_isIn_eq, show (0 : Int32).toInt = 0 from rfl, show (3 : Int32).toInt = 3 from rfl, if_neg hf, if_true, if_neg le_20]; exact ⟨n2, trivial⟩
  obtain ⟨f, hf4, rfl⟩ := zI_ex (n := 4) hf.1 (by omega) (by omega)
  obtain ⟨x1, x2⟩ := Sight_value_I hCX.1 h.k hst hC.2 h.ok.rg hi hf4
  have hbm2 := h.bm (hcx.out (vVal S A.2.2 p i f))
  obtain ⟨n1, n2⟩ := hU _ hbm2
  obtain ⟨y1, y2⟩ := M_valueFor_I (hbm2.thr 0).y h.k (hbm2.thr 0).m.2.1 h.ok.rg hp hi hf4
  refine zOp_ok (V := V) (v := vVal S A.2.2 p i f) (W := z_uS (z_uS V 193 0 (vVal S A.2.2 p i f)) 78 0 0) ?_ ?_ hcx h.ok h.ns hC ?_ ?_ (uS_at _ _ _ _) (zFMX.thr _ _) (hbm2.m.thr _)
  · unfold F_T_field; rw [hper, v1]; simp only [if_neg ne_10, T_isAnyField_eq, if_pos hf, x1]
  · unfold Sf_T_field; rw [hper, v1]; simp only [if_neg ne_10, T_isAnyField_eq, if_pos hf]; exact ⟨v2, x2, trivial⟩
  · show F_M_field (z_uS V 193 0 (vVal S A.2.2 p i f)) (zI p) (zI i) (zI f) = _
    unfold F_M_field F_M_field_j28
    simp only [n1, if_neg ne_10, M_isIn_eq, show (0 : Int32).toInt = 0 from rfl, show (3 : Int32).toInt = 3 from rfl, if_pos hf, if_pos le_00, y1]
  · show Sf_M_field (z_uS V 193 0 (vVal S A.2.2 p i f)) (zI p) (zI i) (zI f)
    unfold Sf_M_field Sf_M_field_j28
    simp only [n1, if_neg ne_10, M_isIn_eq, show (0 : Int32).toInt = 0 from rfl, show (3 : Int32).toInt = 3 from rfl, if_pos hf, if_pos le_00]; exact ⟨n2, y2, trivial⟩
theorem aC_other {d p i c : Nat} {v : Int32} {A : zA} {i' c' : Nat} (hc : c' ≠ c) : wC (aC d p i c v A).2.2 i' c' = wC A.2.2 i' c' := by
  rcases aC_cases (d := d) (p := p) (i := i) (c := c) (v := v) (A := A) with e | e <;> rw [e]
  unfold wC
  show (if A.2.2.1 i' = true then (if i' = i ∧ c' = c then v else A.2.2.2.1 i' c') else -1) = _
  rw [if_neg (show ¬ (i' = i ∧ c' = c) from fun q => hc q.2)]
/-- the last change of a transfer, and its end -/
theorem T_tr_tail {E S : Nat → Nat → Int32} {d p i k m : Nat} {A : zA} (h : zCX E S d) (hC : zRC S A) (hA : zOk d A) (hn : A.2.1 ≤ 820) (hm : m ≤ A.2.1) (hi : i < 30) (hw : A.2.2.1 i = true) (hk : k < 3) (hp : p < 8) :
    ∃ D, F_T_transfer_j163 S (zI p) (zI i) (zI k) (zI m) = (if (aC d p i 8 (zI k) A).2.1 ≤ 800 then .inr (zI ((aC d p i 8 (zI k) A).2.1 - m)) else .inl "java/lang/IllegalStateException", D) ∧ Sf_T_transfer_j163 S (zI p) (zI i) (zI k) (zI m) ∧ zFCX S D ∧ zRC D (aLim m (aC d p i 8 (zI k) A)) := by
  have hrg : rgC 8 (zI k) := by
    unfold rgC; rw [zI_toInt (by omega)]; exact ⟨by show (0 : Int) ≤ k; omega, by show (k : Int) ≤ 2; omega⟩
  obtain ⟨o1, o2, o3⟩ := aC_ok (p := p) (v := zI k) hA hi (show 8 < 9 by omega) hw hrg (by omega) hp
  obtain ⟨C, c1, c2, c3, c4⟩ := T_chg h hC (by omega) p hi (show 8 < 9 by omega) (zI k)
  have c1' : F_T_change S (zI p) (zI i) 8 0 (zI k) = C := c1
  have c2' : Sf_T_change S (zI p) (zI i) 8 0 (zI k) := c2
  have hm2 := o3.1
  obtain ⟨D, d1, d2, d3, d4⟩ := T_lim (m := m) c4 o1 (by omega) (by omega)
  unfold F_T_transfer_j163 Sf_T_transfer_j163
  simp only [z_let, c1', d1, c4.1.size]
  rw [zI_sub (by omega) (by omega)]
  refine ⟨D, ?_, ⟨c2', d2, trivial⟩, c3.trans d3, d4⟩
  by_cases q : (aC d p i 8 (zI k) A).2.1 ≤ 800
  · simp only [if_pos q, if_neg ne_10]
  · simp only [if_neg q, if_true]
theorem M_tr_tail {fl : Nat → Nat} {E U : Nat → Nat → Int32} {d p i k m rn : Nat} {A : zA} (h : zBX fl E U d rn) (hC : zRM 86 U A) (hA : zOk d A) (hn : A.2.1 ≤ 820) (hm : m ≤ A.2.1) (hi : i < 30) (hw : A.2.2.1 i = true) (hk : k < 3) (hp : p < 8) (hby : aBy p m A) (hq : aQuiet m A) :
    ∃ W, F_M_transfer_j201 fl U (zI p) (zI i) (zI k) (zI m) = (if (aC d p i 8 (zI k) A).2.1 ≤ 800 then zI ((aC d p i 8 (zI k) A).2.1 - m) else 0, W) ∧ Sf_M_transfer_j201 fl U (zI p) (zI i) (zI k) (zI m) ∧ zFMX U W ∧ (W 78 0 = if (aC d p i 8 (zI k) A).2.1 ≤ 800 then 0 else 3) ∧ zRM 86 W (aLim m (aC d p i 8 (zI k) A)) := by
  have hrg : rgC 8 (zI k) := by
    unfold rgC; rw [zI_toInt (by omega)]; exact ⟨by show (0 : Int) ≤ k; omega, by show (k : Int) ≤ 2; omega⟩
  obtain ⟨o1, o2, o3⟩ := aC_ok (p := p) (v := zI k) hA hi (show 8 < 9 by omega) hw hrg (by omega) hp
  obtain ⟨C, c1, c2, c3, c4⟩ := M_chg h hC hA (by omega) p hi (show 8 < 9 by omega) hw (zI k)
  have c1' : F_M_change 86 U 8 (zI p) (zI i) 0 (zI k) = C := c1
  have c2' : Sf_M_change 86 U 8 (zI p) (zI i) 0 (zI k) := c2
  have hm2 := o3.1
  obtain ⟨D, d1, d2, d3, d4⟩ := M_lim (p := p) (m := m) (h.mx c3) hp c4 o1 (by omega) (by omega) hby.aC (aC_quiet hq (by omega))
  unfold F_M_transfer_j201 Sf_M_transfer_j201 F_M_transfer_j240
  simp only [z_let, c1', d1, c4.1.size]
  rw [zI_sub (by omega) (by omega)]
  by_cases q : (aC d p i 8 (zI k) A).2.1 ≤ 800
  · simp only [if_pos q, if_neg ne_10, if_pos le_00]
    exact ⟨z_uS D 78 0 0, rfl, ⟨c2', d2, trivial⟩, (c3.trans d3).trans (zFMX.thr _ _), uS_at _ _ _ _, d4.thr _⟩
  · simp only [if_neg q, if_true, if_neg le_30]
    exact ⟨z_uS D 78 0 3, rfl, ⟨c2', d2, trivial⟩, (c3.trans d3).trans (zFMX.thr _ _), uS_at _ _ _ _, d4.thr _⟩
theorem rg_60 : rgC 6 0 := ⟨by decide, by decide⟩
theorem rg_7m : rgC 7 (-1) := ⟨by decide, by decide⟩
theorem rg_4m : rgC 4 (-1) := ⟨by decide, by decide⟩
theorem o_21 {fl : Nat → Nat} {S : Nat → Nat → Int32} {d : Nat} {A : zA} {rn : Nat} (h : zB0 fl S d A rn) (a1 a2 a3 a4 a5 a6 : Int32) : Sl_21 fl S a1 a2 a3 a4 a5 a6 ∧ zEnd S (Fl_21 fl S a1 a2 a3 a4 a5 a6) d := by
  suffices g : zOp (fun E => (if E = "java/lang/IndexOutOfBoundsException" then 1 else (if E = "java/lang/IllegalArgumentException" then 2 else (if E = "java/lang/IllegalStateException" then 3 else 0)))) (fun E => E = "java/lang/IndexOutOfBoundsException" ∨ E = "java/lang/IllegalArgumentException" ∨ E = "java/lang/IllegalStateException") S d (F_T_transfer S a1 a2 a3) (Sf_T_transfer S a1 a2 a3) (fun U => F_M_transfer fl U a1 a2 a3) (fun U => Sf_M_transfer fl U a1 a2 a3) from g
  rcases T_head h a1 a2 with ⟨V, hv, hcx, hC, m1, m2⟩ | ⟨p, i, V, hp, hi, rfl, rfl, hsee, hw, hper, v1, v2, hcx, hC, hst, hCX, hU⟩
  · refine zOp_err (E := "java/lang/IndexOutOfBoundsException") (V := V) (x := 0) (W := z_uS V 78 0 1) ?_ ?_ (Or.inl rfl) (by decide) hcx h.ok h.ns hC ?_ ?_ (by rw [uS_at]; rfl) (zFMX.thr _ _) ((h.bm hcx.x).m.thr _)
    · unfold F_T_transfer
      rcases hv with ⟨g, rfl⟩ | ⟨g, v1, v2⟩
      · rw [if_pos g]
      · rw [g, v1]; rfl
    · unfold Sf_T_transfer
      rcases hv with ⟨g, rfl⟩ | ⟨g, v1, v2⟩
      · rw [if_pos g]; trivial
      · rw [g, v1]; exact ⟨v2, trivial⟩
    · show F_M_transfer fl V a1 a2 a3 = _
      unfold F_M_transfer F_M_transfer_j22 F_M_transfer_j23 F_M_transfer_j53
      simp only [m1, if_true, if_neg le_10]
    · show Sf_M_transfer fl V a1 a2 a3
      unfold Sf_M_transfer Sf_M_transfer_j22 Sf_M_transfer_j23 Sf_M_transfer_j53
      simp only [m1, if_true, if_neg le_10]; exact ⟨m2, trivial⟩
  have hbm := h.bm hcx.x
  have hn := h.n
  have vi : vp_in (zI i) 30 := vp_in_I hi (by omega)
  by_cases hf : 0 ≤ a3.toInt ∧ a3.toInt < 3
  case neg =>
    obtain ⟨n1, n2⟩ := hU V hbm
    have hf2 : ¬ (0 ≤ a3.toInt ∧ a3.toInt ≤ 2) := by omega
    refine zOp_err (E := "java/lang/IndexOutOfBoundsException") (V := V) (x := 0) (W := z_uS V 78 0 1) ?_ ?_ (Or.inl rfl) (by decide) hcx h.ok h.ns hC ?_ ?_ (by rw [uS_at]; rfl) (zFMX.thr _ _) (hbm.m.thr _)
    · unfold F_T_transfer; rw [hper, v1]; simp only [if_neg ne_10, T_isProject_eq, if_neg hf, if_true]
    · unfold Sf_T_transfer; rw [hper, v1]; simp only [if_neg ne_10, T_isProject_eq, if_neg hf, if_true]; exact ⟨v2, trivial⟩
    · show F_M_transfer fl V (zI p) (zI i) a3 = _
      unfold F_M_transfer F_M_transfer_j22 F_M_transfer_j23 F_M_transfer_j53
      simp only [n1, if_neg ne_10, M_isIn_eq, show (0 : Int32).toInt = 0 from rfl, show (2 : Int32).toInt = 2 from rfl, if_neg hf2, if_true, if_neg le_10]
    · show Sf_M_transfer fl V (zI p) (zI i) a3
      unfold Sf_M_transfer Sf_M_transfer_j22 Sf_M_transfer_j23 Sf_M_transfer_j53
      simp only [n1, if_neg ne_10, M_isIn_eq, show (0 : Int32).toInt = 0 from rfl, show (2 : Int32).toInt = 2 from rfl, if_neg hf2, if_true, if_neg le_10]; exact ⟨n2, trivial⟩
  obtain ⟨k, hk, rfl⟩ := zI_ex (n := 3) hf.1 (by omega) (by omega)
  have hf2 : 0 ≤ (zI k).toInt ∧ (zI k).toInt ≤ 2 := by omega
  have hpr : F_T_isProject V (zI k) = 1 := by rw [T_isProject_eq, if_pos hf]
  obtain ⟨x1, x2⟩ := hC.2.cell hi (show 8 < 10 by omega)
  have x1' : F_World_cell 9 V (zI i) 8 = wC A.2.2 i 8 := x1
  have x2' : Sf_World_cell 9 V (zI i) 8 := x2
  have hM1 : ∀ U : Nat → Nat → Int32, zBM fl S U d A rn → F_M_transfer fl U (zI p) (zI i) (zI k) = (if wC A.2.2 i 8 = zI k then (0, z_uS U 78 0 2) else F_M_transfer_j53 fl U (zI p) (zI i) (zI k) 0) ∧ ((if wC A.2.2 i 8 = zI k then True else Sf_M_transfer_j53 fl U (zI p) (zI i) (zI k) 0) → Sf_M_transfer fl U (zI p) (zI i) (zI k)) := by
    intro U hU2
    obtain ⟨n1, n2⟩ := hU U hU2
    have c87 : U 87 i = wC A.2.2 i 8 := hU2.m.2.1.cell hi (show 8 < 10 by omega) hw
    unfold F_M_transfer Sf_M_transfer F_M_transfer_j23 Sf_M_transfer_j23
    simp only [n1, if_neg ne_10, M_isIn_eq, show (0 : Int32).toInt = 0 from rfl, show (2 : Int32).toInt = 2 from rfl, if_pos hf2, zI_clamp (show i < 2147483648 by omega), c87]
    by_cases q : wC A.2.2 i 8 = zI k
    · simp only [if_pos q]
      unfold F_M_transfer_j53 Sf_M_transfer_j53
      simp only [if_neg le_20]
      exact ⟨trivial, fun _ => ⟨n2, vi, trivial⟩⟩
    · simp only [if_neg q]
      exact ⟨trivial, fun z => ⟨n2, vi, z⟩⟩
  by_cases hsame : wC A.2.2 i 8 = zI k
  · obtain ⟨y1, y2⟩ := hM1 V hbm
    rw [if_pos hsame] at y1 y2
    refine zOp_err (E := "java/lang/IllegalArgumentException") (V := V) ?_ ?_ (Or.inr (Or.inl rfl)) (by decide) hcx h.ok h.ns hC y1 (y2 trivial) (by rw [uS_at]; rfl) (zFMX.thr _ _) (hbm.m.thr _)
    · unfold F_T_transfer; rw [hper, v1]; simp only [if_neg ne_10, hpr, x1', if_pos hsame]
    · unfold Sf_T_transfer; rw [hper, v1]; simp only [if_neg ne_10, hpr, x1', if_pos hsame]; exact ⟨v2, x2', trivial⟩
  -- rights
  have hed := Sight_canEdit_I hst hi
  have heds := Sf_canEdit_I V (zI i)
  have hei : F_T_canEditIn V (zI p) (zI k) = if A.2.2.2.2.2 (3 * p + k) &&& S 38 k = 0 then 0 else 1 := by
    unfold F_T_canEditIn
    rw [World_rolesOf_I hp hk, hC.2.role _ (by omega), zAt_I hk (by omega), hCX.1 38 (by omega)]
  have hM2 : ∀ U : Nat → Nat → Int32, zBM fl S U d A rn → F_M_transfer fl U (zI p) (zI i) (zI k) = (if vEdit S A.2.2 p i = true ∧ ¬ A.2.2.2.2.2 (3 * p + k) &&& S 38 k = 0 then F_M_transfer_j104 fl (z_uS U 78 0 0) (zI p) (zI i) (zI k) 0 else (0, z_uS (z_uS U 78 0 0) 78 0 3)) ∧ ((if vEdit S A.2.2 p i = true ∧ ¬ A.2.2.2.2.2 (3 * p + k) &&& S 38 k = 0 then Sf_M_transfer_j104 fl (z_uS U 78 0 0) (zI p) (zI i) (zI k) 0 else True) → Sf_M_transfer fl U (zI p) (zI i) (zI k)) := by
    intro U hU2
    obtain ⟨y1, y2⟩ := hM1 U hU2
    rw [if_neg hsame] at y1 y2
    have hU0 := hU2.thr 0
    obtain ⟨e1, e2⟩ := M_edits_I hU0.y hU0.m.2.1 h.ok.rg hp hi
    obtain ⟨r1, r2⟩ := M_rolesOf_I hU0.m.2.1 hp hk
    have e125 : U 125 k = S 38 k := (hU2.y.1 k hk).2.1
    have vk : vp_in (zI k) 3 := vp_in_I hk (by omega)
    rw [y1]
    refine ⟨?_, fun z => y2 ?_⟩
    · unfold F_M_transfer_j53 F_M_transfer_j103
      simp only [if_pos le_00, e1, r1, zI_clamp (show k < 2147483648 by omega), e125]
      cases q1 : vEdit S A.2.2 p i
      · simp [F_M_transfer_j104, le_30]
      · by_cases q2 : A.2.2.2.2.2 (3 * p + k) &&& S 38 k = 0
        · simp [F_M_transfer_j104, le_30, q2]
        · simp [q2]
    · unfold Sf_M_transfer_j53 Sf_M_transfer_j103
      simp only [if_pos le_00, e1, r1, zI_clamp (show k < 2147483648 by omega), e125]
      cases q1 : vEdit S A.2.2 p i
      · simp [Sf_M_transfer_j104, le_30, e2]
      · by_cases q2 : A.2.2.2.2.2 (3 * p + k) &&& S 38 k = 0
        · simp [Sf_M_transfer_j104, le_30, q2, e2, r2, vk]
        · rw [if_pos ⟨q1, q2⟩] at z
          simp [q2, e2, r2, vk, z]
  by_cases hcan : vEdit S A.2.2 p i = true ∧ ¬ A.2.2.2.2.2 (3 * p + k) &&& S 38 k = 0
  case neg =>
    obtain ⟨y1, y2⟩ := hM2 V hbm
    rw [if_neg hcan] at y1 y2
    refine zOp_err (E := "java/lang/IllegalStateException") (V := V) ?_ ?_ (Or.inr (Or.inr rfl)) (by decide) hcx h.ok h.ns hC y1 (y2 trivial) (by rw [uS_at]; rfl) ((zFMX.thr _ _).trans (zFMX.thr _ _)) ((hbm.m.thr _).thr _)
    · unfold F_T_transfer; rw [hper, v1]; simp only [if_neg ne_10, hpr, x1', if_neg hsame, hed, hei]
      cases q1 : vEdit S A.2.2 p i
      · simp
      · have q2 : A.2.2.2.2.2 (3 * p + k) &&& S 38 k = 0 := Classical.byContradiction fun g => hcan ⟨q1, g⟩
        simp [q2]
    · unfold Sf_T_transfer; rw [hper, v1]; simp only [if_neg ne_10, hpr, x1', if_neg hsame, hed, hei]
      refine ⟨v2, x2', heds, ?_⟩
      cases q1 : vEdit S A.2.2 p i
      · simp
      · have q2 : A.2.2.2.2.2 (3 * p + k) &&& S 38 k = 0 := Classical.byContradiction fun g => hcan ⟨q1, g⟩
        simp [q2]
  have hed' : F_Sight_canEdit V (zI i) = 1 := by rw [hed, if_pos hcan.1]
  have hei' : F_T_canEditIn V (zI p) (zI k) = 1 := by rw [hei, if_neg hcan.2]
  -- level and sprint go
  obtain ⟨o1, n1, g1⟩ := aC_ok (p := p) (v := 0) h.ok hi (show 6 < 9 by omega) hw rg_60 (by omega) hp
  obtain ⟨C1, c11, c12, c13, c14⟩ := T_chg hCX hC (show A.2.1 < 900 by omega) p hi (show 6 < 9 by omega) 0
  have hw1 : (aC d p i 6 0 A).2.2.1 i = true := by rw [g1.2.2.2.1]; exact hw
  obtain ⟨o2, n2, g2⟩ := aC_ok (p := p) (v := -1) o1 hi (show 7 < 9 by omega) hw1 rg_7m (by omega) hp
  obtain ⟨C2, c21, c22, c23, c24⟩ := T_chg (hCX.cx c13) c14 (by omega) p hi (show 7 < 9 by omega) (-1)
  have hw2 : (aC d p i 7 (-1) (aC d p i 6 0 A)).2.2.1 i = true := by rw [g2.2.2.2.1]; exact hw1
  have c11' : F_T_change V (zI p) (zI i) 6 0 0 = C1 := c11
  have c12' : Sf_T_change V (zI p) (zI i) 6 0 0 := c12
  have c21' : F_T_change C1 (zI p) (zI i) 7 0 (-1) = C2 := c21
  have c22' : Sf_T_change C1 (zI p) (zI i) 7 0 (-1) := c22
  obtain ⟨z1, z2⟩ := hC.2.cell hi (show 4 < 10 by omega)
  have z1' : F_World_cell 9 V (zI i) 4 = wC A.2.2 i 4 := z1
  have z2' : Sf_World_cell 9 V (zI i) 4 := z2
  have h17 : V 1 7 = zI A.2.1 := hC.1.size
  have hb2 := Nat.le_trans g1.1 g2.1
  generalize hA2 : aC d p i 7 (-1) (aC d p i 6 0 A) = A2 at *
  have hwho : wC A2.2.2 i 4 = wC A.2.2 i 4 := by rw [← hA2, aC_other (by omega), aC_other (by omega)]
  have hrole : ∀ q, A2.2.2.2.2.2 q = A.2.2.2.2.2 q := fun q => by
    have e : A2.2.2.2.2 = A.2.2.2.2 := by rw [g2.2.2.2.2.2.1, g1.2.2.2.2.2.1]
    rw [e]
  have hnb2 : zNb A A2 := by rw [← hA2]; exact zNb.rfl.aC.aC
  have hby2 : aBy p A.2.1 A2 := by rw [← hA2]; exact (aC_by (Nat.le_refl _)).aC
  have hqu2 : aQuiet A.2.1 A2 := by rw [← hA2]; exact aC_quiet (aC_quiet (aQuiet_0 (Nat.le_refl _)) (by omega)) (by omega)
  have hM3 : ∀ U : Nat → Nat → Int32, zBM fl S U d A rn → ∃ X, zFMX U X ∧ zBX fl S X d rn ∧ zRM 86 X A2 ∧ X 91 i = wC A.2.2 i 4 ∧ F_M_transfer fl U (zI p) (zI i) (zI k) = (if X 91 i = -1 then F_M_transfer_j201 fl X (zI p) (zI i) (zI k) (zI A.2.1) else if F_M_rolesOf 86 X (X 91 i) (zI k) &&& X 124 k = 0 then F_M_transfer_j201 fl (F_M_change 86 X 4 (zI p) (zI i) 0 (-1)) (zI p) (zI i) (zI k) (zI A.2.1) else F_M_transfer_j201 fl X (zI p) (zI i) (zI k) (zI A.2.1)) ∧ ((if X 91 i = -1 then Sf_M_transfer_j201 fl X (zI p) (zI i) (zI k) (zI A.2.1) else (Sf_M_rolesOf 86 X (X 91 i) (zI k) ∧ (if F_M_rolesOf 86 X (X 91 i) (zI k) &&& X 124 k = 0 then Sf_M_change 86 X 4 (zI p) (zI i) 0 (-1) ∧ Sf_M_transfer_j201 fl (F_M_change 86 X 4 (zI p) (zI i) 0 (-1)) (zI p) (zI i) (zI k) (zI A.2.1) else Sf_M_transfer_j201 fl X (zI p) (zI i) (zI k) (zI A.2.1)))) → Sf_M_transfer fl U (zI p) (zI i) (zI k)) := by
    intro U hU2
    obtain ⟨y1, y2⟩ := hM2 U hU2
    rw [if_pos hcan] at y1 y2
    have hU3 := (hU2.thr 0).thr 0
    obtain ⟨X1, k11, k12, k13, k14⟩ := M_chg hU3.bx hU3.m h.ok (by omega) p hi (show 6 < 9 by omega) hw 0
    obtain ⟨X2, k21, k22, k23, k24⟩ := M_chg (hU3.bx.mx k13) k14 o1 (by omega) p hi (show 7 < 9 by omega) hw1 (-1)
    rw [hA2] at k24
    have k11' : F_M_change 86 (z_uS (z_uS U 78 0 0) 78 0 0) 6 (zI p) (zI i) 0 0 = X1 := k11
    have k12' : Sf_M_change 86 (z_uS (z_uS U 78 0 0) 78 0 0) 6 (zI p) (zI i) 0 0 := k12
    have k21' : F_M_change 86 X1 7 (zI p) (zI i) 0 (-1) = X2 := k21
    have k22' : Sf_M_change 86 X1 7 (zI p) (zI i) 0 (-1) := k22
    have hsz : (z_uS U 78 0 0) 78 2 = zI A.2.1 := (hU2.thr 0).m.1.size
    have c91 : X2 91 i = wC A.2.2 i 4 := by rw [← hwho]; exact k24.2.1.cell hi (show 4 < 10 by omega) hw2
    refine ⟨X2, (((zFMX.thr U 0).trans (zFMX.thr _ 0)).trans k13).trans k23, (hU3.bx.mx k13).mx k23, k24, c91, ?_, fun z => y2 ?_⟩
    · rw [y1]
      unfold F_M_transfer_j104
      simp only [if_pos le_00, z_let, k11', k21', hsz, zI_clamp (show i < 2147483648 by omega), zI_clamp (show k < 2147483648 by omega)]
      rfl
    · unfold Sf_M_transfer_j104
      simp only [if_pos le_00, z_let, k11', k21', hsz, zI_clamp (show i < 2147483648 by omega), zI_clamp (show k < 2147483648 by omega)]
      refine ⟨k12', k22', vi, ?_⟩
      by_cases q : X2 91 i = -1
      · rw [if_pos q] at z ⊢; exact z
      · rw [if_neg q] at z ⊢
        refine ⟨z.1, vp_in_I hk (by omega), ?_⟩
        have z2 := z.2
        by_cases q2 : F_M_rolesOf 86 X2 (X2 91 i) (zI k) &&& X2 124 k = 0
        · rw [if_pos q2] at z2 ⊢; exact z2
        · rw [if_neg q2] at z2 ⊢; exact z2
  -- who may not see there loses it
  have hwr := h.ok.rg.1 i hi hw 4 (by omega)
  have hwc : wC A.2.2 i 4 = A.2.2.2.1 i 4 := by unfold wC; rw [if_pos hw]
  have finish : ∀ (A3 : zA) (T : Nat → Nat → Int32), zOk d A3 → A3.2.1 ≤ A.2.1 + 3 → A.2.1 ≤ A3.2.1 → A3.2.2.1 i = true → zNb A A3 → aBy p A.2.1 A3 → aQuiet A.2.1 A3 → zCX S T d → zRC T A3 → zFCX S T →
      (F_T_transfer S (zI p) (zI i) (zI k) = F_T_transfer_j163 T (zI p) (zI i) (zI k) (zI A.2.1)) → (Sf_T_transfer_j163 T (zI p) (zI i) (zI k) (zI A.2.1) → Sf_T_transfer S (zI p) (zI i) (zI k)) →
      (∀ U, zBM fl S U d A rn → ∃ Y, zFMX U Y ∧ zBX fl S Y d rn ∧ zRM 86 Y A3 ∧ F_M_transfer fl U (zI p) (zI i) (zI k) = F_M_transfer_j201 fl Y (zI p) (zI i) (zI k) (zI A.2.1) ∧ (Sf_M_transfer_j201 fl Y (zI p) (zI i) (zI k) (zI A.2.1) → Sf_M_transfer fl U (zI p) (zI i) (zI k))) →
      zOp (fun E => (if E = "java/lang/IndexOutOfBoundsException" then 1 else (if E = "java/lang/IllegalArgumentException" then 2 else (if E = "java/lang/IllegalStateException" then 3 else 0)))) (fun E => E = "java/lang/IndexOutOfBoundsException" ∨ E = "java/lang/IllegalArgumentException" ∨ E = "java/lang/IllegalStateException") S d (F_T_transfer S (zI p) (zI i) (zI k)) (Sf_T_transfer S (zI p) (zI i) (zI k)) (fun U => F_M_transfer fl U (zI p) (zI i) (zI k)) (fun U => Sf_M_transfer fl U (zI p) (zI i) (zI k)) := by
    intro A3 T a1 a2 a3 a4 anb a5 a6 t1 t2 t3 t4 t5 t6
    have hrg : rgC 8 (zI k) := by
      unfold rgC; rw [zI_toInt (by omega)]; exact ⟨by show (0 : Int) ≤ k; omega, by show (k : Int) ≤ 2; omega⟩
    obtain ⟨p1, p2, p3⟩ := aC_ok (p := p) (v := zI k) a1 hi (show 8 < 9 by omega) a4 hrg (by omega) hp
    have p4 := p3.1
    obtain ⟨D, d1, d2, d3, d4⟩ := T_tr_tail (m := A.2.1) t1 t2 a1 (by omega) a3 hi a4 hk hp
    obtain ⟨q1, q2⟩ := aLim_ok (m := A.2.1) p1 (by omega) h.n
    have hfx := t3.trans d3
    have hMf : ∀ U, zBM fl S U d A rn → ∃ W, F_M_transfer fl U (zI p) (zI i) (zI k) = (if (aC d p i 8 (zI k) A3).2.1 ≤ 800 then zI ((aC d p i 8 (zI k) A3).2.1 - A.2.1) else 0, W) ∧ Sf_M_transfer fl U (zI p) (zI i) (zI k) ∧ zFMX U W ∧ (W 78 0 = if (aC d p i 8 (zI k) A3).2.1 ≤ 800 then 0 else 3) ∧ zRM 86 W (aLim A.2.1 (aC d p i 8 (zI k) A3)) := by
      intro U hU2
      obtain ⟨Y, u1, u2, u3, u4, u5⟩ := t6 U hU2
      obtain ⟨W, w1, w2, w3, w4, w5⟩ := M_tr_tail (m := A.2.1) u2 u3 a1 (by omega) a3 hi a4 hk hp a5 a6
      exact ⟨W, u4.trans w1, u5 w2, u1.trans w3, w4, w5⟩
    by_cases r8 : (aC d p i 8 (zI k) A3).2.1 ≤ 800
    · obtain ⟨W, m1, m2, m3, m4, m5⟩ := hMf (z_uS D 193 0 (zI ((aC d p i 8 (zI k) A3).2.1 - A.2.1))) (h.bm (hfx.out _))
      rw [if_pos r8] at m1 m4 d1
      exact zOp_ok (V := D) (v := zI ((aC d p i 8 (zI k) A3).2.1 - A.2.1)) (t4.trans d1) (t5 d2) hfx q1 ⟨q2, h.clim anb.aC⟩ d4 m1 m2 m4 m3 m5
    · obtain ⟨W, m1, m2, m3, m4, m5⟩ := hMf D (h.bm hfx.x)
      rw [if_neg r8] at m1 m4 d1
      exact zOp_err (E := "java/lang/IllegalStateException") (V := D) (t4.trans d1) (t5 d2) (Or.inr (Or.inr rfl)) (by decide) hfx q1 ⟨q2, h.clim anb.aC⟩ d4 m1 m2 m4 m3 m5
  have hfx2 : zFCX S C2 := (hcx.trans c13).trans c23
  have hCX2 : zCX S C2 d := (hCX.cx c13).cx c23
  by_cases hnone : wC A.2.2 i 4 = -1
  · have hnp : F_T_isPerson C2 (wC A.2.2 i 4) = 0 := by rw [T_isPerson_eq, hnone]; rfl
    refine finish A2 C2 o2 (by omega) hb2 hw2 hnb2 hby2 hqu2 hCX2 c24 hfx2 ?_ ?_ ?_
    · unfold F_T_transfer; rw [hper, v1]; simp only [if_neg ne_10, hpr, x1', if_neg hsame, hed', hei', z_let, c11', c21', z1', hnp, if_true, h17]
    · intro z; unfold Sf_T_transfer; rw [hper, v1]; simp only [if_neg ne_10, hpr, x1', if_neg hsame, hed', hei', z_let, c11', c21', z1', hnp, if_true, h17]
      exact ⟨v2, x2', heds, z2', c12', c22', z⟩
    · intro U hU2
      obtain ⟨X, u1, u2, u3, u4, u5, u6⟩ := hM3 U hU2
      have : X 91 i = -1 := u4.trans hnone
      rw [if_pos this] at u5 u6
      exact ⟨X, u1, u2, u3, u5, u6⟩
  · have hwp : ∃ o, o < 8 ∧ wC A.2.2 i 4 = zI o := by
      rw [hwc] at hnone ⊢
      obtain ⟨b1, b2⟩ := hwr
      have l1 : lo_c 4 = -1 := rfl
      have l2 : hi_c 4 = 7 := rfl
      rw [l1] at b1
      rw [l2] at b2
      have : ¬ (A.2.2.2.1 i 4).toInt = -1 := fun e => hnone (i_m1.mpr e)
      exact zI_ex (by omega) (by show _ < ((8 : Nat) : Int); omega) (by omega)
    obtain ⟨o, ho, eo⟩ := hwp
    have hnp : F_T_isPerson C2 (zI o) = 1 := T_isPerson_I C2 ho
    have hro : F_World_rolesOf 9 C2 (zI o) (zI k) = A.2.2.2.2.2 (3 * o + k) := by rw [World_rolesOf_I ho hk, c24.2.role _ (by omega), hrole]
    have h37 : zAt (C2 37) 3 (zI k) = S 37 k := by rw [zAt_I hk (by omega), hCX2.1 37 (by omega)]
    have hMr : ∀ X : Nat → Nat → Int32, zBX fl S X d rn → zRM 86 X A2 → F_M_rolesOf 86 X (zI o) (zI k) = A.2.2.2.2.2 (3 * o + k) ∧ Sf_M_rolesOf 86 X (zI o) (zI k) ∧ X 124 k = S 37 k := by
      intro X hX hXm
      obtain ⟨r1, r2⟩ := M_rolesOf_I hXm.2.1 ho hk
      exact ⟨by rw [r1, hrole], r2, (hX.y.1 k hk).1⟩
    by_cases hcut : A.2.2.2.2.2 (3 * o + k) &&& S 37 k = 0
    · obtain ⟨o3, n3, g3⟩ := aC_ok (p := p) (v := -1) o2 hi (show 4 < 9 by omega) hw2 rg_4m (by omega) hp
      obtain ⟨C3, c31, c32, c33, c34⟩ := T_chg hCX2 c24 (by omega) p hi (show 4 < 9 by omega) (-1)
      have c31' : F_T_change C2 (zI p) (zI i) 4 0 (-1) = C3 := c31
      have c32' : Sf_T_change C2 (zI p) (zI i) 4 0 (-1) := c32
      have hw3 : (aC d p i 4 (-1) A2).2.2.1 i = true := by rw [g3.2.2.2.1]; exact hw2
      refine finish (aC d p i 4 (-1) A2) C3 o3 (by omega) (by have := g3.1; omega) hw3 hnb2.aC hby2.aC (aC_quiet hqu2 (by omega)) (hCX2.cx c33) c34 (hfx2.trans c33) ?_ ?_ ?_
      · unfold F_T_transfer; rw [hper, v1]; simp only [if_neg ne_10, hpr, x1', if_neg hsame, hed', hei', z_let, c11', c21', z1', eo, hnp, h17, hro, h37, if_pos hcut, c31']
        rfl
      · intro z; unfold Sf_T_transfer; rw [hper, v1]; simp only [if_neg ne_10, hpr, x1', if_neg hsame, hed', hei', z_let, c11', c21', z1', eo, hnp, h17, hro, h37, if_pos hcut, c31']
        exact ⟨v2, x2', heds, z2', c12', c22', c32', z⟩
      · intro U hU2
        obtain ⟨X, u1, u2, u3, u4, u5, u6⟩ := hM3 U hU2
        obtain ⟨r1, r2, r3⟩ := hMr X u2 u3
        have e1 : X 91 i = zI o := u4.trans eo
        obtain ⟨Y, y1, y2, y3, y4⟩ := M_chg u2 u3 o2 (by omega) p hi (show 4 < 9 by omega) hw2 (-1)
        have y1' : F_M_change 86 X 4 (zI p) (zI i) 0 (-1) = Y := y1
        have y2' : Sf_M_change 86 X 4 (zI p) (zI i) 0 (-1) := y2
        rw [e1, if_neg (m1_ne o (by omega)), r1, r3, if_pos hcut, y1'] at u5
        rw [e1, if_neg (m1_ne o (by omega)), r1, r3, if_pos hcut, y1'] at u6
        exact ⟨Y, u1.trans y3, u2.mx y3, y4, u5, fun z => u6 ⟨r2, y2', z⟩⟩
    · refine finish A2 C2 o2 (by omega) hb2 hw2 hnb2 hby2 hqu2 hCX2 c24 hfx2 ?_ ?_ ?_
      · unfold F_T_transfer; rw [hper, v1]; simp only [if_neg ne_10, hpr, x1', if_neg hsame, hed', hei', z_let, c11', c21', z1', eo, hnp, h17, hro, h37, if_neg hcut]
      · intro z; unfold Sf_T_transfer; rw [hper, v1]; simp only [if_neg ne_10, hpr, x1', if_neg hsame, hed', hei', z_let, c11', c21', z1', eo, hnp, h17, hro, h37, if_neg hcut]
        exact ⟨v2, x2', heds, z2', c12', c22', z⟩
      · intro U hU2
        obtain ⟨X, u1, u2, u3, u4, u5, u6⟩ := hM3 U hU2
        obtain ⟨r1, r2, r3⟩ := hMr X u2 u3
        have e1 : X 91 i = zI o := u4.trans eo
        rw [e1, if_neg (m1_ne o (by omega)), r1, r3, if_neg hcut] at u5
        rw [e1, if_neg (m1_ne o (by omega)), r1, r3, if_neg hcut] at u6
        exact ⟨X, u1, u2, u3, u5, fun z => u6 ⟨r2, z⟩⟩
