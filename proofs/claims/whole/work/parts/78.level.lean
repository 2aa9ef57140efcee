/-! PURE: level -/
def LRB (cd : String → Int32) (r : (String ⊕ Int32) × (Nat → Nat → Int32)) : Int32 × (Nat → Nat → Int32) := match r with
  | (.inl E, S2) => (cd E, S2)
  | (.inr x, S2) => (0, z_uS S2 193 0 (if x = 0 then 0 else 1))
def zOpB (cd : String → Int32) (ex : String → Prop) (S : Nat → Nat → Int32) (d : Nat) (T : (String ⊕ Int32) × (Nat → Nat → Int32)) (sT : Prop) (M : (Nat → Nat → Int32) → Int32 × (Nat → Nat → Int32)) (sM : (Nat → Nat → Int32) → Prop) : Prop :=
  ((sT ∧ ∀ E S2, T = (.inl E, S2) → ex E) ∧ sM (LRB cd T).2 ∧ ((M (LRB cd T).2).2 78 0 = (LRB cd T).1 ∧ ((LRB cd T).1 = 0 → (M (LRB cd T).2).2 193 0 = (if (M (LRB cd T).2).1 = 0 then 0 else 1 : Int32)))) ∧ zEnd S (M (LRB cd T).2).2 d
theorem zOpB_err {cd : String → Int32} {ex : String → Prop} {S : Nat → Nat → Int32} {d : Nat} {T : (String ⊕ Int32) × (Nat → Nat → Int32)} {sT : Prop} {M : (Nat → Nat → Int32) → Int32 × (Nat → Nat → Int32)} {sM : (Nat → Nat → Int32) → Prop} {E : String} {V W : Nat → Nat → Int32} {B : zA} {x : Int32}
    (hT : T = (.inl E, V)) (hs : sT) (hx : ex E) (hc : cd E ≠ 0) (h1 : zFCX S V) (hB : zOk d B) (hn : B.2.1 ≤ 800 ∧ zCN S B) (hRC : zRC V B) (hM : M V = (x, W)) (hsM : sM V) (hW : W 78 0 = cd E) (h2 : zFMX V W) (hRM : zRM 86 W B) : zOpB cd ex S d T sT M sM := by
  unfold zOpB LRB
  rw [hT]
  dsimp only
  rw [hM]
  refine ⟨⟨⟨hs, fun E' S2 h => by cases h; exact hx⟩, hsM, hW, fun h => absurd h hc⟩, zEnd_of (Or.inl h1) h2 hB hn hRC hRM⟩
theorem zOpB_ok {cd : String → Int32} {ex : String → Prop} {S : Nat → Nat → Int32} {d : Nat} {T : (String ⊕ Int32) × (Nat → Nat → Int32)} {sT : Prop} {M : (Nat → Nat → Int32) → Int32 × (Nat → Nat → Int32)} {sM : (Nat → Nat → Int32) → Prop} {V W : Nat → Nat → Int32} {B : zA} {v : Int32}
    (hT : T = (.inr v, V)) (hs : sT) (h1 : zFCX S V) (hB : zOk d B) (hn : B.2.1 ≤ 800 ∧ zCN S B) (hRC : zRC V B) (hM : M (z_uS V 193 0 (if v = 0 then 0 else 1)) = (v, W)) (hsM : sM (z_uS V 193 0 (if v = 0 then 0 else 1))) (hW : W 78 0 = 0) (h2 : zFMX (z_uS V 193 0 (if v = 0 then 0 else 1)) W) (hRM : zRM 86 W B) : zOpB cd ex S d T sT M sM := by
  unfold zOpB LRB
  rw [hT]
  dsimp only
  rw [hM]
  refine ⟨⟨⟨hs, fun E' S2 h => by cases h⟩, hsM, hW, fun _ => ?_⟩, zEnd_of (Or.inr ⟨V, _, h1, rfl⟩) h2 hB hn (hRC.out _) hRM⟩
  show W 193 0 = if v = 0 then 0 else 1
  rw [h2.1 193 (by omega), uS_at]
theorem o_20 {fl : Nat → Nat} {S : Nat → Nat → Int32} {d : Nat} {A : zA} {rn : Nat} (h : zB0 fl S d A rn) (a1 a2 a3 a4 a5 a6 : Int32) : Sl_20 fl S a1 a2 a3 a4 a5 a6 ∧ zEnd S (Fl_20 fl S a1 a2 a3 a4 a5 a6) d := by
  suffices g : zOpB (fun E => (if E = "java/lang/IndexOutOfBoundsException" then 1 else (if E = "java/lang/IllegalArgumentException" then 2 else (if E = "java/lang/IllegalStateException" then 3 else 0)))) (fun E => E = "java/lang/IndexOutOfBoundsException" ∨ E = "java/lang/IllegalArgumentException" ∨ E = "java/lang/IllegalStateException") S d (F_T_level S a1 a2 a3) (Sf_T_level S a1 a2 a3) (fun U => F_M_level fl U a1 a2 a3) (fun U => Sf_M_level fl U a1 a2 a3) from g
  rcases T_head h a1 a2 with ⟨V, hv, hcx, hC, m1, m2⟩ | ⟨p, i, V, hp, hi, rfl, rfl, hsee, hw, hper, v1, v2, hcx, hC, hst, hCX, hU⟩
  · refine zOpB_err (E := "java/lang/IndexOutOfBoundsException") (V := V) (x := 0) (W := z_uS V 78 0 1) ?_ ?_ (Or.inl rfl) (by decide) hcx h.ok h.ns hC ?_ ?_ (by rw [uS_at]; rfl) (zFMX.thr _ _) ((h.bm hcx.x).m.thr _)
    · unfold F_T_level
      rcases hv with ⟨g, rfl⟩ | ⟨g, v1, v2⟩
      · rw [if_pos g]
      · rw [g, v1]; rfl
    · unfold Sf_T_level
      rcases hv with ⟨g, rfl⟩ | ⟨g, v1, v2⟩
      · rw [if_pos g]; trivial
      · rw [g, v1]; exact ⟨v2, trivial⟩
    · show F_M_level fl V a1 a2 a3 = _
      unfold F_M_level F_M_level_j28
      simp only [m1, if_true, if_neg le_10]
    · show Sf_M_level fl V a1 a2 a3
      unfold Sf_M_level Sf_M_level_j28
      simp only [m1, if_true, if_neg le_10]; exact ⟨m2, trivial⟩
  have hbm := h.bm hcx.x
  have hn := h.n
  by_cases hf : 0 ≤ a3.toInt ∧ a3.toInt ≤ 2
  case neg =>
    obtain ⟨n1, n2⟩ := hU V hbm
    refine zOpB_err (E := "java/lang/IllegalArgumentException") (V := V) (x := 0) (W := z_uS V 78 0 2) ?_ ?_ (Or.inr (Or.inl rfl)) (by decide) hcx h.ok h.ns hC ?_ ?_ (by rw [uS_at]; rfl) (zFMX.thr _ _) (hbm.m.thr _)
    · unfold F_T_level; rw [hper, v1]; simp only [if_neg ne_10, T_lt, T_le, show (0 : Int32).toInt = 0 from rfl, show (3 : Int32).toInt = 3 from rfl]
      by_cases q : a3.toInt < 0
      · rw [if_pos q]
      · rw [if_neg q, if_pos (show 3 ≤ a3.toInt by omega)]
    · unfold Sf_T_level; rw [hper, v1]; simp only [if_neg ne_10, T_lt, T_le, show (0 : Int32).toInt = 0 from rfl, show (3 : Int32).toInt = 3 from rfl]
      refine ⟨v2, ?_⟩
      by_cases q : a3.toInt < 0
      · rw [if_pos q]; trivial
      · rw [if_neg q, if_pos (show 3 ≤ a3.toInt by omega)]; trivial
    · show F_M_level fl V (zI p) (zI i) a3 = _
      unfold F_M_level F_M_level_j28
      simp only [n1, if_neg ne_10, M_isIn_eq, show (0 : Int32).toInt = 0 from rfl, show (2 : Int32).toInt = 2 from rfl, if_neg hf, if_true, if_neg le_20]
    · show Sf_M_level fl V (zI p) (zI i) a3
      unfold Sf_M_level Sf_M_level_j28
      simp only [n1, if_neg ne_10, M_isIn_eq, show (0 : Int32).toInt = 0 from rfl, show (2 : Int32).toInt = 2 from rfl, if_neg hf, if_true, if_neg le_20]; exact ⟨n2, trivial⟩
  obtain ⟨o1, o2, o3⟩ := aC_ok (p := p) (v := a3) h.ok hi (show 6 < 9 by omega) hw (show rgC 6 a3 from hf) (by omega) hp
  obtain ⟨D, d1, d2, d3, d4⟩ := T_setCell_I hst hC h.ok hCX.2.2 hn hi (show 6 < 9 by omega) a3 o1
  have d1' : F_T_setCell V (zI p) (zI i) 6 a3 = _ := d1
  have d2' : Sf_T_setCell V (zI p) (zI i) 6 a3 := d2
  obtain ⟨q1, q2⟩ := aCell_ok (E := S) h.ok hn o1 o3.1
  have hfcx : zFCX S D := hcx.trans d3.cx
  have l1 : ¬ a3 < 0 := by rw [T_lt]; show ¬ a3.toInt < 0; omega
  have l2 : ¬ (3 : Int32) ≤ a3 := by rw [T_le]; show ¬ (3 : Int) ≤ a3.toInt; omega
  obtain ⟨G, g1, g2, g3, g4, g5⟩ := T_isSeen_I (E := S) (hCX.cx d3.cx).1 d4 q1 hp (zI i)
  rw [vSeeO_I hi] at g1
  have hM : ∀ U : Nat → Nat → Int32, zBM fl S U d A rn → ∃ W, F_M_level fl U (zI p) (zI i) a3 = (if aOk S d p i 6 a3 A = true then (if vSee S (aCell S d p i 6 a3 A).2.2 p i = true then 1 else 0) else 0, W) ∧ Sf_M_level fl U (zI p) (zI i) a3 ∧ zFMX U W ∧ (W 78 0 = if aOk S d p i 6 a3 A = true then 0 else 3) ∧ zRM 86 W (aCell S d p i 6 a3 A) := by
    intro U hU2
    obtain ⟨n1, n2⟩ := hU U hU2
    obtain ⟨W, k1, k2, k3, k4, k5⟩ := M_turns_I (hU2.thr 0) hp hi (show 6 < 9 by omega) (by omega) a3 o1 0 le_30
    have k1' : F_M_turns fl (z_uS U 78 0 0) 6 (zI p) (zI i) a3 0 3 = _ := k1
    have k2' : Sf_M_turns fl (z_uS U 78 0 0) 6 (zI p) (zI i) a3 0 3 := k2
    obtain ⟨s1, s2⟩ := M_sees_I ((hU2.thr 0).bx.mx k3).y k5.2.1 q1.rg hp hi
    refine ⟨W, ?_, ?_, (zFMX.thr U 0).trans k3, k4, k5⟩
    · unfold F_M_level F_M_level_j28
      simp only [n1, if_neg ne_10, M_isIn_eq, show (0 : Int32).toInt = 0 from rfl, show (2 : Int32).toInt = 2 from rfl, if_pos hf, if_pos le_00, k1', k4, s1]
      cases aOk S d p i 6 a3 A
      · simp
      · cases vSee S (aCell S d p i 6 a3 A).2.2 p i <;> simp
    · unfold Sf_M_level Sf_M_level_j28
      simp only [n1, if_neg ne_10, M_isIn_eq, show (0 : Int32).toInt = 0 from rfl, show (2 : Int32).toInt = 2 from rfl, if_pos hf, if_pos le_00, k1', k4]
      refine ⟨n2, k2', ?_⟩
      cases aOk S d p i 6 a3 A
      · simp
      · simp [s2]
  by_cases ho : aOk S d p i 6 a3 A = true
  · rw [if_pos ho] at d1'
    have hb : (if (if vSee S (aCell S d p i 6 a3 A).2.2 p i = true then (1 : Int32) else 0) = 0 then (0 : Int32) else 1) = (if vSee S (aCell S d p i 6 a3 A).2.2 p i = true then (1 : Int32) else 0) := by cases vSee S (aCell S d p i 6 a3 A).2.2 p i <;> simp
    obtain ⟨W, m1, m2, m3, m4, m5⟩ := hM (z_uS G 193 0 (if vSee S (aCell S d p i 6 a3 A).2.2 p i = true then 1 else 0)) (h.bm ((hfcx.trans g3.cx).out _))
    rw [if_pos ho] at m1 m4
    refine zOpB_ok (V := G) (v := if vSee S (aCell S d p i 6 a3 A).2.2 p i = true then 1 else 0) ?_ ?_ (hfcx.trans g3.cx) q1 ⟨q2, h.ccell⟩ g5 (by rw [hb]; exact m1) (by rw [hb]; exact m2) m4 (by rw [hb]; exact m3) m5
    · unfold F_T_level; rw [hper, v1]; simp only [if_neg ne_10, if_neg l1, if_neg l2, d1', g1]
    · unfold Sf_T_level; rw [hper, v1]; simp only [if_neg ne_10, if_neg l1, if_neg l2, d1', g1]
      refine ⟨v2, d2', g2, ?_, trivial⟩
      cases vSee S (aCell S d p i 6 a3 A).2.2 p i <;> rfl
  · rw [if_neg ho] at d1'
    obtain ⟨W, m1, m2, m3, m4, m5⟩ := hM D (h.bm hfcx.x)
    rw [if_neg ho] at m1 m4
    refine zOpB_err (E := "java/lang/IllegalStateException") (V := D) ?_ ?_ (Or.inr (Or.inr rfl)) (by decide) hfcx q1 ⟨q2, h.ccell⟩ d4 m1 m2 m4 m3 m5
    · unfold F_T_level; rw [hper, v1]; simp only [if_neg ne_10, if_neg l1, if_neg l2, d1']
    · unfold Sf_T_level; rw [hper, v1]; simp only [if_neg ne_10, if_neg l1, if_neg l2, d1']
      exact ⟨v2, d2', trivial⟩
