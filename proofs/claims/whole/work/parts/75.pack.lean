/-! PURE: a call in both, packed -/
def LR (cd : String → Int32) (r : (String ⊕ Int32) × (Nat → Nat → Int32)) : Int32 × (Nat → Nat → Int32) := match r with
  | (.inl E, S2) => (cd E, S2)
  | (.inr x, S2) => (0, z_uS S2 193 0 x)
def zOp (cd : String → Int32) (ex : String → Prop) (S : Nat → Nat → Int32) (d : Nat) (T : (String ⊕ Int32) × (Nat → Nat → Int32)) (sT : Prop) (M : (Nat → Nat → Int32) → Int32 × (Nat → Nat → Int32)) (sM : (Nat → Nat → Int32) → Prop) : Prop :=
  ((sT ∧ ∀ E S2, T = (.inl E, S2) → ex E) ∧ sM (LR cd T).2 ∧ ((M (LR cd T).2).2 78 0 = (LR cd T).1 ∧ ((LR cd T).1 = 0 → (M (LR cd T).2).2 193 0 = (M (LR cd T).2).1))) ∧ zEnd S (M (LR cd T).2).2 d
theorem zOp_err {cd : String → Int32} {ex : String → Prop} {S : Nat → Nat → Int32} {d : Nat} {T : (String ⊕ Int32) × (Nat → Nat → Int32)} {sT : Prop} {M : (Nat → Nat → Int32) → Int32 × (Nat → Nat → Int32)} {sM : (Nat → Nat → Int32) → Prop} {E : String} {V W : Nat → Nat → Int32} {B : zA} {x : Int32}
    (hT : T = (.inl E, V)) (hs : sT) (hx : ex E) (hc : cd E ≠ 0) (h1 : zFCX S V) (hB : zOk d B) (hn : B.2.1 ≤ 800 ∧ zCN S B) (hRC : zRC V B) (hM : M V = (x, W)) (hsM : sM V) (hW : W 78 0 = cd E) (h2 : zFMX V W) (hRM : zRM 86 W B) : zOp cd ex S d T sT M sM := by
  unfold zOp LR
  rw [hT]
  dsimp only
  rw [hM]
  refine ⟨⟨⟨hs, fun E' S2 h => by cases h; exact hx⟩, hsM, hW, fun h => absurd h hc⟩, zEnd_of (Or.inl h1) h2 hB hn hRC hRM⟩
theorem zOp_ok {cd : String → Int32} {ex : String → Prop} {S : Nat → Nat → Int32} {d : Nat} {T : (String ⊕ Int32) × (Nat → Nat → Int32)} {sT : Prop} {M : (Nat → Nat → Int32) → Int32 × (Nat → Nat → Int32)} {sM : (Nat → Nat → Int32) → Prop} {V W : Nat → Nat → Int32} {B : zA} {v : Int32}
    (hT : T = (.inr v, V)) (hs : sT) (h1 : zFCX S V) (hB : zOk d B) (hn : B.2.1 ≤ 800 ∧ zCN S B) (hRC : zRC V B) (hM : M (z_uS V 193 0 v) = (v, W)) (hsM : sM (z_uS V 193 0 v)) (hW : W 78 0 = 0) (h2 : zFMX (z_uS V 193 0 v) W) (hRM : zRM 86 W B) : zOp cd ex S d T sT M sM := by
  unfold zOp LR
  rw [hT]
  dsimp only
  rw [hM]
  refine ⟨⟨⟨hs, fun E' S2 h => by cases h⟩, hsM, hW, fun _ => ?_⟩, zEnd_of (Or.inr ⟨V, v, h1, rfl⟩) h2 hB hn (hRC.out v) hRM⟩
  show W 193 0 = v
  rw [h2.1 193 (by omega), uS_at]
theorem le_10 : ¬ ((1 : Int32) ≤ 0) := by decide
theorem le_20 : ¬ ((2 : Int32) ≤ 0) := by decide
theorem le_30 : ¬ ((3 : Int32) ≤ 0) := by decide
theorem le_00 : (0 : Int32) ≤ 0 := by decide
theorem ne_10 : ¬ ((1 : Int32) = 0) := by decide
theorem zFCX.out {S V : Nat → Nat → Int32} (h : zFCX S V) (x : Int32) : zFX S (z_uS V 193 0 x) := h.x.trans (zFX.out V x)
theorem T_canWrite_I {E V : Nat → Nat → Int32} {w : zWd} {p i f : Nat} (hE : eV E V) (hst : zSt E w p 30 V) (hC : zWC 9 V w) (hg : zRg w) (hi : i < 30) (hf : f < 3) : F_T_canWrite V (zI i) (zI f) = (if (vEdit E w p i && vRead E w p i f && eH E (wC w i 9) f) = true then 1 else 0) ∧ Sf_T_canWrite V (zI i) (zI f) := by
  have h1 := Sight_canEdit_I hst hi
  have h2 := Sight_canRead_I hst hi (show f < 4 by omega)
  unfold F_T_canWrite Sf_T_canWrite F_T_canWrite_j48
  rw [h1, h2]
  have s1 := Sf_canEdit_I V (zI i)
  have s2 := Sf_canRead_I V (zI i) (zI f)
  cases q1 : vEdit E w p i
  · simp [s1]
  · simp only [if_true, if_neg ne_10, Bool.true_and]
    cases q2 : vRead E w p i f
    · simp [s1, s2]
    · simp only [if_true, if_neg ne_10, Bool.true_and]
      have hw : w.1 i = true := vSee_there (Bool.and_eq_true_iff.mp q1).1
      obtain ⟨k, hk, ek⟩ := hg.kind hi hw
      obtain ⟨c1, c2⟩ := hC.cell hi (show 9 < 10 by omega)
      have c1' : F_World_cell 9 V (zI i) 9 = zI k := c1.trans ek
      have c2' : Sf_World_cell 9 V (zI i) 9 := c2
      obtain ⟨k1, k2⟩ := Kinds_has_I V hk hf
      rw [c1', k1]
      unfold eH
      rw [ek, zI_clamp (show k < 2147483648 by omega), hE 44 (by omega)]
      refine ⟨?_, s1, s2, c2', k2, trivial⟩
      cases zB (E 44 k) f <;> simp
theorem aC_by {p m d i c : Nat} {v : Int32} {A : zA} (h : A.2.1 ≤ m) : aBy p m (aC d p i c v A) := by
  have : aBy p m A := fun i h1 h2 => by omega
  exact this.aC

/-! the class's side goes on; the reference's -/
def zCX (E S : Nat → Nat → Int32) (d : Nat) : Prop := eV E S ∧ eC E S ∧ S 0 14 = zI d
theorem zCX.cx {E S V : Nat → Nat → Int32} {d : Nat} (h : zCX E S d) (g : zFCX S V) : zCX E V d := ⟨fun k hk => by rw [g.1 k (by omega)]; exact h.1 k hk, fun k hk => by rw [g.1 k (by omega)]; exact h.2.1 k hk, by rw [g.1 0 (by omega)]; exact h.2.2⟩
def zBX (fl : Nat → Nat) (E U : Nat → Nat → Int32) (d rn : Nat) : Prop := (eY E U ∧ eK E ∧ eM E fl U) ∧ (zRuOk E rn ∧ E 78 31 = zI rn) ∧ zFl fl ∧ U 78 1 = zI d
theorem zBM.bx {fl : Nat → Nat} {E U : Nat → Nat → Int32} {d : Nat} {A : zA} {rn : Nat} (h : zBM fl E U d A rn) : zBX fl E U d rn := ⟨h.1, h.2.1, h.fl, h.d⟩
theorem zBX.y {fl : Nat → Nat} {E U : Nat → Nat → Int32} {d rn : Nat} (h : zBX fl E U d rn) : eY E U := h.1.1
theorem zBX.k {fl : Nat → Nat} {E U : Nat → Nat → Int32} {d rn : Nat} (h : zBX fl E U d rn) : eK E := h.1.2.1
theorem zBX.e {fl : Nat → Nat} {E U : Nat → Nat → Int32} {d rn : Nat} (h : zBX fl E U d rn) : eM E fl U := h.1.2.2
theorem zBX.f128 {fl : Nat → Nat} {E U : Nat → Nat → Int32} {d rn : Nat} (h : zBX fl E U d rn) : ∀ k, k < 3 → U 128 k = E 44 k := fun k hk => (h.y.1 k hk).2.2.2.1
theorem zBX.mx {fl : Nat → Nat} {E U V : Nat → Nat → Int32} {d rn : Nat} (h : zBX fl E U d rn) (g : zFMX U V) : zBX fl E V d rn := by
  obtain ⟨⟨⟨h1, h1'⟩, h2, ⟨h3, h4, h5, h6⟩⟩, h7, h8, h9⟩ := h
  refine ⟨⟨⟨fun k hk => by rw [g.1 124 (by omega), g.1 125 (by omega), g.1 126 (by omega), g.1 128 (by omega), g.1 129 (by omega), g.1 130 (by omega)]; exact h1 k hk, fun k hk => by rw [g.1 127 (by omega)]; exact h1' k hk⟩, h2, ⟨fun k hk => by rw [g.1 128 (by omega)]; exact h3 k hk, fun k hk => ?_, fun k hk => by rw [g.1 k (by omega)]; exact h5 k hk, by rw [g.2 31 (by omega) (by omega)]; exact h6⟩⟩, h7, h8, by rw [g.2 1 (by omega) (by omega)]; exact h9⟩
  have := h8.lo hk
  have := h8.off hk
  rw [g.1 (fl k) (by omega)]; exact h4 k hk
theorem T_chg {E S : Nat → Nat → Int32} {d : Nat} {A : zA} (h : zCX E S d) (hC : zRC S A) (hn : A.2.1 < 900) (p : Nat) {i c : Nat} (hi : i < 30) (hc : c < 9) (v : Int32) : ∃ V, F_T_change S (zI p) (zI i) (zI c) 0 v = V ∧ Sf_T_change S (zI p) (zI i) (zI c) 0 v ∧ zFCX S V ∧ zRC V (aC d p i c v A) := by
  obtain ⟨V, v1, v2, v3, v4⟩ := T_change_C (p := p) hC hn h.2.2 hi hc v
  exact ⟨V, v1, v2, v4.cx, v3⟩
theorem M_chg {fl : Nat → Nat} {E U : Nat → Nat → Int32} {d rn : Nat} {A : zA} (h : zBX fl E U d rn) (hC : zRM 86 U A) (hA : zOk d A) (hn : A.2.1 < 1200) (p : Nat) {i c : Nat} (hi : i < 30) (hc : c < 9) (hw : A.2.2.1 i = true) (v : Int32) : ∃ V, F_M_change 86 U (mKc c) (zI p) (zI i) (mWc c) v = V ∧ Sf_M_change 86 U (mKc c) (zI p) (zI i) (mWc c) v ∧ zFMX U V ∧ zRM 86 V (aC d p i c v A) := by
  obtain ⟨V, v1, v2, v3, v4⟩ := M_change_C (b := 86) (by omega) hC hn hA.cnt p h.2.2.2 hi hc hw v
  exact ⟨V, v1, v2, v4.mx, v3⟩
noncomputable def aSt (E : Nat → Nat → Int32) (d p rn m : Nat) (A : zA) : Bool := @decide (aFine E d p rn m A) (Classical.propDecidable _)
theorem aSt_t {E : Nat → Nat → Int32} {d p rn m : Nat} {A : zA} (h : aSt E d p rn m A = true) : aFine E d p rn m A := @of_decide_eq_true _ (Classical.propDecidable _) h
theorem aSt_f {E : Nat → Nat → Int32} {d p rn m : Nat} {A : zA} (h : aSt E d p rn m A = false) : ¬ aFine E d p rn m A := @of_decide_eq_false _ (Classical.propDecidable _) h
noncomputable def aRes (E : Nat → Nat → Int32) (d p rn m : Nat) (A : zA) : zA := if aSt E d p rn m A = true then aEnd E d p rn m false A else aBack m A
theorem T_stl {E S : Nat → Nat → Int32} {d p rn m : Nat} {A : zA} (h : zCX E S d) (hR : zRuOk E rn) (hp : p < 8) (hC : zRC S A) (hA : zOk d A) (hn : A.2.1 ≤ 870) (hm : m ≤ A.2.1) : ∃ V, F_T_isSettled S (zI m) (zI p) = (if aSt E d p rn m A = true then 1 else 0, V) ∧ Sf_T_isSettled S (zI m) (zI p) ∧ zFCX S V ∧ zRC V (aRes E d p rn m A) := by
  obtain ⟨r, V, v1, v2, v3, v4, v5⟩ := T_isSettled_I hR hp hn hm h.2.1 h.2.2 hC hA
  unfold aRes
  cases q : aSt E d p rn m A
  · obtain ⟨e, g⟩ := v5 (aSt_f q)
    subst e
    exact ⟨V, v1, v2, v3.cx, g⟩
  · obtain ⟨e, g⟩ := v4 (aSt_t q)
    subst e
    exact ⟨V, v1, v2, v3.cx, g⟩
theorem M_stl {fl : Nat → Nat} {E U : Nat → Nat → Int32} {d p rn m : Nat} {A : zA} (h : zBX fl E U d rn) (hp : p < 8) (hC : zRM 86 U A) (hA : zOk d A) (hn : A.2.1 ≤ 870) (hm : m ≤ A.2.1) (hby : aBy p m A) : ∃ V, F_M_stays fl U (zI m) 1 = (if aSt E d p rn m A = true then 1 else 0, V) ∧ Sf_M_stays fl U (zI m) 1 ∧ zFMX U V ∧ zRM 86 V (aRes E d p rn m A) := by
  obtain ⟨r, V, v1, v2, v3, v4, v5⟩ := M_stays_I (E := E) h.2.2.1 h.2.1.1 h.2.1.2 hp hn hm h.e h.2.2.2 hC hA hby
  unfold aRes
  cases q : aSt E d p rn m A
  · obtain ⟨e, g⟩ := v5 (aSt_f q)
    subst e
    exact ⟨V, v1, v2, v3.mx, g⟩
  · obtain ⟨e, g⟩ := v4 (aSt_t q)
    subst e
    exact ⟨V, v1, v2, v3.mx, g⟩
theorem aRes_ok {E : Nat → Nat → Int32} {d p rn m : Nat} {A : zA} (hR : zRuOk E rn) (hp : p < 8) (hA : zOk d A) (hm : m ≤ A.2.1) (hm8 : m ≤ 800) : zOk d (aRes E d p rn m A) ∧ (aRes E d p rn m A).2.1 ≤ 800 := by
  unfold aRes
  cases q : aSt E d p rn m A
  · exact ⟨aBack_ok hA hm, hm8⟩
  · exact ⟨(aGo_ok (E := E) (fall := false) hR hp 1300 m A hA (by omega)).1, (aSt_t q).2.2.2⟩
/-! only too many -/
def aLim (m : Nat) (A : zA) : zA := if A.2.1 ≤ 800 then A else aBack m A
theorem aLim_ok {d m : Nat} {A : zA} (hA : zOk d A) (hm : m ≤ A.2.1) (hm8 : m ≤ 800) : zOk d (aLim m A) ∧ (aLim m A).2.1 ≤ 800 := by
  unfold aLim
  split
  · rename_i h; exact ⟨hA, h⟩
  · exact ⟨aBack_ok hA hm, hm8⟩
theorem T_lim {S : Nat → Nat → Int32} {d m : Nat} {A : zA} (hC : zRC S A) (hA : zOk d A) (hn : A.2.1 ≤ 870) (hm : m ≤ A.2.1) : ∃ V, F_T_isWithinLimit S (zI m) = (if A.2.1 ≤ 800 then 1 else 0, V) ∧ Sf_T_isWithinLimit S (zI m) ∧ zFCX S V ∧ zRC V (aLim m A) := by
  obtain ⟨r, V, v1, v2, v3, v4, v5⟩ := T_isWithinLimit_I (by omega) hm hC hA
  unfold aLim
  by_cases q : A.2.1 ≤ 800
  · obtain ⟨e, g⟩ := v4 q
    subst e
    rw [if_pos q, if_pos q]
    exact ⟨V, v1, v2, v3.cx, by rw [g]; exact hC⟩
  · obtain ⟨e, g⟩ := v5 q
    subst e
    rw [if_neg q, if_neg q]
    exact ⟨V, v1, v2, v3.cx, g⟩
theorem M_lim0 {fl : Nat → Nat} {U : Nat → Nat → Int32} {d m : Nat} {A : zA} (hC : zRM 86 U A) (hA : zOk d A) (hn : A.2.1 ≤ 870) (hm : m ≤ A.2.1) : ∃ V, F_M_stays fl U (zI m) 0 = (if A.2.1 ≤ 800 then 1 else 0, V) ∧ Sf_M_stays fl U (zI m) 0 ∧ zFMX U V ∧ zRM 86 V (aLim m A) := by
  obtain ⟨r, V, v1, v2, v3, v4, v5⟩ := M_stays_0 (fl := fl) (by omega) hm hC hA
  unfold aLim
  by_cases q : A.2.1 ≤ 800
  · obtain ⟨e, g⟩ := v4 q
    subst e
    rw [if_pos q, if_pos q]
    exact ⟨V, v1, v2, v3.mx, by rw [g]; exact hC⟩
  · obtain ⟨e, g⟩ := v5 q
    subst e
    rw [if_neg q, if_neg q]
    exact ⟨V, v1, v2, v3.mx, g⟩
theorem M_lim {fl : Nat → Nat} {E U : Nat → Nat → Int32} {d p rn m : Nat} {A : zA} (h : zBX fl E U d rn) (hp : p < 8) (hC : zRM 86 U A) (hA : zOk d A) (hn : A.2.1 ≤ 870) (hm : m ≤ A.2.1) (hby : aBy p m A) (hq : aQuiet m A) : ∃ V, F_M_stays fl U (zI m) 1 = (if A.2.1 ≤ 800 then 1 else 0, V) ∧ Sf_M_stays fl U (zI m) 1 ∧ zFMX U V ∧ zRM 86 V (aLim m A) := by
  obtain ⟨r, V, v1, v2, v3, v4, v5⟩ := M_stays_I (E := E) h.2.2.1 h.2.1.1 h.2.1.2 hp hn hm h.e h.2.2.2 hC hA hby
  have hf := aFine_quiet (E := E) (p := p) h.2.1.1 hA hq
  unfold aLim
  by_cases q : A.2.1 ≤ 800
  · obtain ⟨e, g⟩ := v4 (hf.mpr q)
    subst e
    rw [if_pos q, if_pos q]
    rw [aEnd_quiet h.2.1.1 hA hq] at g
    exact ⟨V, v1, v2, v3.mx, g⟩
  · obtain ⟨e, g⟩ := v5 (fun x => q (hf.mp x))
    subst e
    rw [if_neg q, if_neg q]
    exact ⟨V, v1, v2, v3.mx, g⟩
theorem aC_quiet {m d p i c : Nat} {v : Int32} {A : zA} (h : aQuiet m A) (hc : 4 ≤ c) : aQuiet m (aC d p i c v A) := by
  rcases aC_cases (d := d) (p := p) (i := i) (c := c) (v := v) (A := A) with e | e
  · rw [e]; exact h
  · rw [e]
    intro j h1 h2
    have h2' : j < A.2.1 + 1 := h2
    show (zPush A.1 A.2.1 _ d p j).1.1 ≠ 1 ∧ ((zPush A.1 A.2.1 _ d p j).1.1 = 2 → 4 ≤ (zPush A.1 A.2.1 _ d p j).1.2.2.1)
    by_cases q : j = A.2.1
    · rw [q, zPush_n]; exact ⟨by simp, fun _ => hc⟩
    · rw [zPush_lt (by omega)]; exact h j h1 (by omega)
theorem aQuiet_0 {m : Nat} {A : zA} (h : A.2.1 ≤ m) : aQuiet m A := fun j h1 h2 => by omega
theorem aBy_0 {p m : Nat} {A : zA} (h : A.2.1 ≤ m) : aBy p m A := fun j h1 h2 => by omega
/-! an item that is seen, or not, by whom -/
theorem T_head {fl : Nat → Nat} {S : Nat → Nat → Int32} {d : Nat} {A : zA} {rn : Nat} (h : zB0 fl S d A rn) (a1 a2 : Int32) :
    ((∃ V, ((F_T_isPerson S a1 = 0 ∧ V = S) ∨ (F_T_isPerson S a1 = 1 ∧ F_T_isSeen S a1 a2 = (0, V) ∧ Sf_T_isSeen S a1 a2)) ∧ zFCX S V ∧ zRC V A ∧ F_M_isSeen V a1 a2 = 0 ∧ Sf_M_isSeen V a1 a2)) ∨
    ∃ p i V, p < 8 ∧ i < 30 ∧ a1 = zI p ∧ a2 = zI i ∧ vSee S A.2.2 p i = true ∧ A.2.2.1 i = true ∧ F_T_isPerson S a1 = 1 ∧ F_T_isSeen S a1 a2 = (1, V) ∧ Sf_T_isSeen S a1 a2 ∧ zFCX S V ∧ zRC V A ∧ zSt S A.2.2 p 30 V ∧ zCX S V d ∧ ∀ U, zBM fl S U d A rn → F_M_isSeen U a1 a2 = 1 ∧ Sf_M_isSeen U a1 a2 := by
  rcases vPer_cases a1 with ⟨p, hp, rfl⟩ | hp
  case inr =>
    obtain ⟨m1, m2⟩ := M_isSeen_I (h.bm zFX.rfl) a1 a2
    refine Or.inl ⟨S, Or.inl ⟨by rw [T_isPerson_eq, if_neg hp], rfl⟩, zFCX.rfl, h.c, ?_, m2⟩
    rw [m1]; unfold vPer; rw [if_neg hp]
  obtain ⟨V, v1, v2, v3, v4, v5⟩ := T_isSeen_I (E := S) (fun k hk => rfl) h.c h.ok hp a2
  have hper := T_isPerson_I S hp
  have ep : vPer (zI p) = some p := by unfold vPer; rw [zI_clamp (by omega), if_pos]; rw [zI_toInt (by omega)]; omega
  cases hs : vSeeO S A.2.2 p a2
  · obtain ⟨m1, m2⟩ := M_isSeen_I (h.bm v3.x) (zI p) a2
    rw [ep] at m1
    dsimp only at m1
    rw [hs] at v1 m1
    exact Or.inl ⟨V, Or.inr ⟨hper, v1, v2⟩, v3.cx, v5, m1, m2⟩
  · obtain ⟨i, hi, ei, hsee⟩ := vSeeO_cases hs
    rw [hs] at v1
    refine Or.inr ⟨p, i, V, hp, hi, rfl, ei, hsee, vSee_there hsee, hper, v1, v2, v3.cx, v5, v4, zCX.cx ⟨fun k hk => rfl, fun k hk => rfl, h.d⟩ v3.cx, fun U hU => ?_⟩
    obtain ⟨m1, m2⟩ := M_isSeen_I hU (zI p) a2
    rw [ep] at m1
    dsimp only at m1
    rw [hs] at m1
    exact ⟨m1, m2⟩
theorem zBM.mk {fl : Nat → Nat} {E U : Nat → Nat → Int32} {d rn : Nat} {A : zA} (h : zBX fl E U d rn) (hA : zOk d A) (hn : A.2.1 ≤ 800) (hC : zRM 86 U A) : zBM fl E U d A rn := ⟨h.1, h.2.1, h.2.2.1, h.2.2.2, ⟨hA, hn⟩, hC⟩
/-! no item is made -/
def zNw (A X : zA) : Prop := A.2.1 ≤ X.2.1 ∧ (∀ i, i < A.2.1 → X.1 i = A.1 i) ∧ ∀ i, A.2.1 ≤ i → i < X.2.1 → (X.1 i).1.1 ≠ 1
theorem zNw.rfl {A : zA} : zNw A A := ⟨Nat.le_refl _, fun _ _ => Eq.refl _, fun i h1 h2 => by omega⟩
theorem zNw.trans {A X Y : zA} (h : zNw A X) (g : zNw X Y) : zNw A Y := by
  obtain ⟨h1, h2, h3⟩ := h
  obtain ⟨g1, g2, g3⟩ := g
  refine ⟨by omega, fun i hi => (g2 i (by omega)).trans (h2 i hi), fun i hi hj => ?_⟩
  by_cases q : i < X.2.1
  · rw [g2 i q]; exact h3 i hi q
  · exact g3 i (by omega) hj
theorem zNw.push {A X : zA} (h : zNw A X) {d p : Nat} {e : zEnt} (he : e.1 ≠ 1) : zNw A (aPush d p e X) := by
  refine h.trans ⟨Nat.le_succ _, fun i hi => zPush_lt hi, fun i h1 h2 => ?_⟩
  have h2' : i < X.2.1 + 1 := h2
  have e1 : i = X.2.1 := by omega
  show (zPush X.1 X.2.1 e d p i).1.1 ≠ 1
  rw [e1, zPush_n]; exact he
theorem zNw.aC {A X : zA} (h : zNw A X) {d p i c : Nat} {v : Int32} : zNw A (aC d p i c v X) := by
  rcases aC_cases (d := d) (p := p) (i := i) (c := c) (v := v) (A := X) with e | e <;> rw [e]
  · exact h
  · exact h.push (by simp)
theorem zExt.nw {A X : zA} (h : zExt A X) : zNw A X := by
  obtain ⟨h1, h2, -, -, -, -, h3⟩ := h
  exact ⟨h1, h2, fun i a b => by rw [h3 i a b]; decide⟩
/-- and states stay in their workflows -/
def zNq (E : Nat → Nat → Int32) (A X : zA) : Prop := zNw A X ∧ (zSo E A.2.2 → zSo E X.2.2)
def zNb (A X : zA) : Prop := zNw A X ∧ ∀ E, zSo E A.2.2 → zSo E X.2.2
theorem zNb.q {A X : zA} (h : zNb A X) {E : Nat → Nat → Int32} : zNq E A X := ⟨h.1, h.2 E⟩
theorem zNb.rfl {A : zA} : zNb A A := ⟨zNw.rfl, fun _ g => g⟩
theorem zNb.push {A X : zA} (h : zNb A X) {d p : Nat} {e : zEnt} (he : e.1 = 0 ∨ e.1 = 3) : zNb A (aPush d p e X) := ⟨h.1.push (by omega), fun E g => (h.2 E g).app he⟩
theorem zNb.aC {A X : zA} (h : zNb A X) {d p i c : Nat} {v : Int32} (hc : c ≠ 0 ∧ c ≠ 9 := by omega) : zNb A (aC d p i c v X) := ⟨h.1.aC, fun E g => (h.2 E g).chg hc⟩
theorem zNq.aS {E : Nat → Nat → Int32} {A X : zA} (h : zNq E A X) {d p i : Nat} {v : Int32} (hv : X.2.2.1 i = true → eS E (wC X.2.2 i 9) v = true) : zNq E A (aC d p i 0 v X) := ⟨h.1.aC, fun g => (h.2 g).chS hv⟩
theorem zNq.aC {E : Nat → Nat → Int32} {A X : zA} (h : zNq E A X) {d p i c : Nat} {v : Int32} (hc : c ≠ 0 ∧ c ≠ 9 := by omega) : zNq E A (aC d p i c v X) := ⟨h.1.aC, fun g => (h.2 g).chg hc⟩
theorem zCnt_nb {L K : zLg} {n : Nat} (h : ∀ i, i < n → K i = L i) : ∀ m, m ≤ n → zCnt K m = zCnt L m := by
  intro m
  induction m with
  | zero => intro _; exact Eq.refl _
  | succ m ih =>
    intro hm
    rw [zCnt_s, zCnt_s, h m (by omega), ih (by omega)]
theorem zCnt_more {K : zLg} {n : Nat} : ∀ e, (∀ i, n ≤ i → i < n + e → (K i).1.1 ≠ 1) → zCnt K (n + e) = zCnt K n := by
  intro e
  induction e with
  | zero => intro _; exact Eq.refl _
  | succ e ih =>
    intro h
    rw [show n + (e + 1) = (n + e) + 1 by omega, zCnt_s, if_neg (h (n + e) (by omega) (by omega))]
    exact ih fun i a b => h i a (by omega)
theorem zNw.cnt {A X : zA} (h : zNw A X) : zCnt X.1 X.2.1 = zCnt A.1 A.2.1 := by
  obtain ⟨h1, h2, h3⟩ := h
  have g := zCnt_more (K := X.1) (n := A.2.1) (X.2.1 - A.2.1) fun i a b => h3 i a (by omega)
  rw [show A.2.1 + (X.2.1 - A.2.1) = X.2.1 by omega] at g
  rw [g]; exact zCnt_nb h2 _ (Nat.le_refl _)
theorem zNw.back {A X : zA} (h : zNw A X) : zCnt (aBack A.2.1 X).1 (aBack A.2.1 X).2.1 = zCnt A.1 A.2.1 := zCnt_nb h.2.1 _ (Nat.le_refl _)
theorem zB0.clim {fl : Nat → Nat} {S : Nat → Nat → Int32} {d : Nat} {A X : zA} {rn : Nat} (h : zB0 fl S d A rn) (g : zNb A X) (hX : zOk d X := by assumption) : zCN S (aLim A.2.1 X) := by
  refine ⟨h.cn.1.trans (congrArg zI ?_), ⟨A.2.1, A.1, h.c.1, ?_⟩, fun z => ?_⟩
  · unfold aLim
    split
    · exact g.1.cnt.symm
    · exact g.1.back.symm
  · unfold aLim
    split
    · exact ⟨g.1.1, g.1.2.1⟩
    · exact ⟨Nat.le_refl _, g.1.2.1⟩
  · have z2 := h.c.so.mp z
    unfold aLim
    split
    · exact g.2 S z2
    · exact z2.back h.ok hX g.1.1 g.1.2.1
theorem zB0.cres {fl : Nat → Nat} {S : Nat → Nat → Int32} {d : Nat} {A X : zA} {rn p : Nat} (h : zB0 fl S d A rn) (hp : p < 8) (gq : zNq S A X) (hX : zOk d X) : zCN S (aRes S d p rn A.2.1 X) := by
  have g := gq.1
  have g2 := g.trans (aGo_ok (E := S) (lim := X.2.1 + 20) (fall := false) h.ru hp 1300 A.2.1 X hX (by omega)).2.2.nw
  refine ⟨h.cn.1.trans (congrArg zI ?_), ⟨A.2.1, A.1, h.c.1, ?_⟩, fun z => ?_⟩
  · unfold aRes
    split
    · exact g2.cnt.symm
    · exact g.back.symm
  · unfold aRes
    split
    · exact ⟨g2.1, g2.2.1⟩
    · exact ⟨Nat.le_refl _, g.2.1⟩
  · have z2 := h.c.so.mp z
    unfold aRes
    split
    · exact so_go h.ru 1300 A.2.1 X (gq.2 z2)
    · exact z2.back h.ok hX g.1 g.2.1
