/-! PURE: publish, the call -/
theorem zRuOk.cg {E E' : Nat → Nat → Int32} {rn : Nat} (h : zRuOk E rn) (e : ∀ c, 59 ≤ c ∧ c ≤ 67 ∨ 168 ≤ c ∧ c ≤ 176 → E' c = E c) : zRuOk E' rn := by
  refine ⟨by rw [e 59 (by omega)]; exact h.1, h.2.1, fun r hr => ?_⟩
  have := h.2.2 r hr
  unfold zRule at this ⊢
  rw [e 60 (by omega), e 61 (by omega), e 62 (by omega), e 63 (by omega), e 64 (by omega), e 65 (by omega), e 66 (by omega), e 67 (by omega), e 168 (by omega), e 169 (by omega), e 170 (by omega), e 171 (by omega), e 172 (by omega), e 173 (by omega), e 174 (by omega), e 175 (by omega), e 176 (by omega)]
  exact this
theorem zSf_ne (S : Nat → Nat → Int32) (n : Nat) {k : Nat} (h : k < n ∨ n + 7 < k) : zSf S n k = S k := by
  unfold zSf zSn
  simp only [if_neg (show ¬ k = n + 7 by omega), if_neg (show ¬ k = n + 6 by omega), if_neg (show ¬ k = n + 5 by omega), if_neg (show ¬ k = n + 4 by omega), if_neg (show ¬ k = n + 3 by omega), if_neg (show ¬ k = n + 2 by omega), if_neg (show ¬ k = n + 1 by omega)]
  exact z_uS_ne _ _ _ (by omega)
theorem zCF.lo {fl : Nat → Nat} {S F : Nat → Nat → Int32} {na : Nat} (h : zCF fl S S) (hna : 194 ≤ na) (hnf : ∀ k, k < 3 → fl k + 7 < na) (e54 : F 54 4 = S 54 4) (e26 : F 78 26 = S 78 26) (e : ∀ k, k < na → 55 ≤ k ∧ k ≤ 58 ∨ 132 ≤ k ∧ k ≤ 163 ∨ 194 ≤ k → F k = S k) : zCF fl F F := by
  refine ⟨h.fl, fun k hk => ?_, by rw [e54, e26]; exact h.of, fun hd => ?_⟩
  · obtain ⟨c, h1, h2⟩ := h.flow hk
    have hf := hnf k hk
    have hlo := h.fl.lo hk
    have hoff := h.fl.off hk
    refine ⟨c, h1.ag (by rw [e 55 (by omega) (by omega)]) (by rw [e 56 (by omega) (by omega)]) (fun j _ _ => by rw [e 57 (by omega) (by omega)]) (fun q hq hq2 => e q (by omega) (by omega)), h2.ag h1.le (by rw [e 55 (by omega) (by omega)]) (fun j _ _ => by rw [e 57 (by omega) (by omega)])⟩
  · rw [e54] at hd
    obtain ⟨c, h1, h2⟩ := h.draft hd
    refine ⟨⟨c, h1.ag (by rw [e 55 (by omega) (by omega)]) (by rw [e 56 (by omega) (by omega)]) (fun j _ _ => by rw [e 57 (by omega) (by omega)]) (fun q hq hq2 => e q (by omega) (by omega)), h2.ag h1.le (by rw [e 55 (by omega) (by omega)]) (fun j _ _ => by rw [e 57 (by omega) (by omega)])⟩, ?_⟩
    unfold zDM
    rw [e 58 (by omega) (by omega), e 163 (by omega) (by omega), e54, e 55 (by omega) (by omega)]
    exact h.map hd
def zW12 : List zLoc := (54, some 4) :: (55, none) :: (56, none) :: (57, none) :: (78, some 26) :: (194, none) :: zWI
theorem zW12_in : ∀ q ∈ zWI, q ∈ zW12 := fun q h => List.mem_cons_of_mem _ (List.mem_cons_of_mem _ (List.mem_cons_of_mem _ (List.mem_cons_of_mem _ (List.mem_cons_of_mem _ (List.mem_cons_of_mem _ h)))))
def zEndP (S F : Nat → Nat → Int32) (d : Nat) (fl : Nat → Nat) : Prop := zWr zW12 S F ∧ (∃ B, zOk d B ∧ B.2.1 ≤ 800 ∧ zRC F B ∧ zRM 86 F B ∧ S 86 0 = zI (zCnt B.1 B.2.1) ∧ zLp S B) ∧ zCF fl F F ∧ zSoM F
def zOpG (cd : String → Int32) (ex : String → Prop) (T : (String ⊕ Int32) × (Nat → Nat → Int32)) (sT : Prop) (M : (Nat → Nat → Int32) → Int32 × (Nat → Nat → Int32) × (Nat → Nat)) (sM : (Nat → Nat → Int32) → Prop) (Q : (Nat → Nat) → (Nat → Nat → Int32) → Prop) : Prop :=
  ((sT ∧ ∀ E S2, T = (.inl E, S2) → ex E) ∧ sM (LR cd T).2 ∧ ((M (LR cd T).2).2.1 78 0 = (LR cd T).1 ∧ ((LR cd T).1 = 0 → (M (LR cd T).2).2.1 193 0 = (M (LR cd T).2).1))) ∧ Q (M (LR cd T).2).2.2 (M (LR cd T).2).2.1
theorem zOpG_err {cd : String → Int32} {ex : String → Prop} {T : (String ⊕ Int32) × (Nat → Nat → Int32)} {sT : Prop} {M : (Nat → Nat → Int32) → Int32 × (Nat → Nat → Int32) × (Nat → Nat)} {sM : (Nat → Nat → Int32) → Prop} {Q : (Nat → Nat) → (Nat → Nat → Int32) → Prop} {E : String} {V W : Nat → Nat → Int32} {x : Int32} {g : Nat → Nat}
    (hT : T = (.inl E, V)) (hs : sT) (hx : ex E) (hc : cd E ≠ 0) (hM : M V = (x, W, g)) (hsM : sM V) (hW : W 78 0 = cd E) (hQ : Q g W) : zOpG cd ex T sT M sM Q := by
  unfold zOpG LR
  rw [hT]
  dsimp only
  rw [hM]
  exact ⟨⟨⟨hs, fun E' S2 h => by cases h; exact hx⟩, hsM, hW, fun h => absurd h hc⟩, hQ⟩
theorem zOpG_ok {cd : String → Int32} {ex : String → Prop} {T : (String ⊕ Int32) × (Nat → Nat → Int32)} {sT : Prop} {M : (Nat → Nat → Int32) → Int32 × (Nat → Nat → Int32) × (Nat → Nat)} {sM : (Nat → Nat → Int32) → Prop} {Q : (Nat → Nat) → (Nat → Nat → Int32) → Prop} {V W : Nat → Nat → Int32} {v : Int32} {g : Nat → Nat}
    (hT : T = (.inr v, V)) (hs : sT) (hM : M (z_uS V 193 0 v) = (v, W, g)) (hsM : sM (z_uS V 193 0 v)) (hW : W 78 0 = 0) (h193 : W 193 0 = v) (hQ : Q g W) : zOpG cd ex T sT M sM Q := by
  unfold zOpG LR
  rw [hT]
  dsimp only
  rw [hM]
  exact ⟨⟨⟨hs, fun E' S2 h => by cases h⟩, hsM, hW, fun _ => h193⟩, hQ⟩
theorem zflp_back (fl : Nat → Nat) (k n : Nat) : zflp (zflp fl k n) k (fl k) = fl := by
  funext j
  unfold zflp
  by_cases q : j = k
  · rw [if_pos q, q]
  · rw [if_neg q, if_neg q]
theorem zFl.pub {fl : Nat → Nat} (h : zFl fl) {k na : Nat} (hna : 194 ≤ na) (hnf : ∀ q, q < 3 → fl q + 7 < na) : zFl (zflp fl k na) := by
  intro q hq
  unfold zflp
  have := hnf q hq
  have hl := h.lo hq
  have ho := h.off hq
  by_cases e : q = k
  · rw [if_pos e]
    refine ⟨by omega, Or.inr hna, fun j hj hn => ?_⟩
    rw [if_neg (by omega)]
    have := hnf j hj
    exact Or.inl (by omega)
  · rw [if_neg e]
    refine ⟨hl, ho, fun j hj hn => ?_⟩
    by_cases ej : j = k
    · rw [if_pos ej]; exact Or.inr (by omega)
    · rw [if_neg ej]; exact h.apart hq hj hn
theorem o_12 {fl : Nat → Nat} {S : Nat → Nat → Int32} {d : Nat} {A : zA} {rn : Nat} (h : zB0 fl S d A rn) (hF : zCF fl S S) (hS : zSoM S) (a1 a2 a3 a4 a5 a6 : Int32) {na : Nat} (hna : 194 ≤ na) (hnf : ∀ k, k < 3 → fl k + 7 < na) : Sl_12 fl na S a1 a2 a3 a4 a5 a6 ∧ zEndP S (Fl_12 fl na S a1 a2 a3 a4 a5 a6) d (Fg_12 fl na S a1 a2 a3 a4 a5 a6) := by
  suffices g : zOpG (fun E => (if E = "java/lang/IndexOutOfBoundsException" then 1 else (if E = "java/lang/IllegalStateException" then 2 else 0))) (fun E => E = "java/lang/IndexOutOfBoundsException" ∨ E = "java/lang/IllegalStateException") (F_T_publish S a1) (Sf_T_publish S a1) (fun U => F_M_publish fl na U a1) (fun U => Sf_M_publish fl na U a1) (fun g W => zEndP S W d g) by
    have eL : F_L_publish S a1 = LR (fun E => (if E = "java/lang/IndexOutOfBoundsException" then 1 else (if E = "java/lang/IllegalStateException" then 2 else 0))) (F_T_publish S a1) := by
      unfold F_L_publish LR
      generalize F_T_publish S a1 = t
      obtain ⟨r, s⟩ := t
      cases r <;> exact Eq.refl _
    have eM : ∀ Z : Nat → Nat → Int32, F_M_thrown Z = Z 78 0 := fun Z => Eq.refl _
    unfold Sl_12 Fl_12 Fg_12 Sf_L_publish
    rw [eL, eM]
    unfold zOpG at g
    dsimp only at g
    generalize F_M_publish fl na (LR (fun E => (if E = "java/lang/IndexOutOfBoundsException" then 1 else (if E = "java/lang/IllegalStateException" then 2 else 0))) (F_T_publish S a1)).2 a1 = r at g ⊢
    exact g
  have hbm0 := h.bm (zFX.rfl (S := S))
  have hn := h.n
  obtain ⟨p1, p2⟩ := M_isPerson_I S a1
  -- nothing done
  have e0 : ∀ x, zEndP S (z_uS S 78 0 x) d fl := by
    intro x
    have hc : zRC (z_uS S 78 0 x) A := h.c.ag (by rw [z_uS_ne _ _ _ (by omega)]) (fun k hk => z_uS_ne _ _ _ (by omega))
    refine ⟨((zFMX.thr S x).wr).mono zW12_in, ⟨A, h.ok, hn, hc, h.m.thr x, h.cn.1, h.cn.2.1⟩, hF.lo hna hnf (by rw [z_uS_ne _ _ _ (by omega)]) (uS_nj _ _ _ (by omega)) (fun k _ hk => z_uS_ne _ _ _ (by omega)), hc.so.mpr ?_⟩
    have := h.c.so.mp hS
    exact fun i hi hw => by
      have g := this i hi hw
      unfold eS at g ⊢
      rw [z_uS_ne _ _ _ (by omega)]; exact g
  rcases vPer_cases a1 with ⟨p, hp, rfl⟩ | hper
  case inr =>
    refine zOpG_err (E := "java/lang/IndexOutOfBoundsException") (V := S) (x := 0) (W := z_uS S 78 0 1) (g := fl) ?_ ?_ (Or.inl rfl) (by decide) ?_ ?_ (by rw [uS_at]; rfl) (e0 1)
    · unfold F_T_publish; rw [T_isPerson_eq, if_neg hper, if_pos rfl]
    · unfold Sf_T_publish; rw [T_isPerson_eq, if_neg hper, if_pos rfl]; trivial
    · show F_M_publish fl na S a1 = _
      unfold F_M_publish F_M_publish_j25
      rw [p1, if_neg hper, if_pos rfl, if_neg le_10]
    · show Sf_M_publish fl na S a1
      unfold Sf_M_publish Sf_M_publish_j25
      rw [p1, if_neg hper, if_pos rfl, if_neg le_10]; exact ⟨p2, trivial⟩
  have hpp : 0 ≤ (zI p).toInt ∧ (zI p).toInt < 8 := by rw [zI_toInt (by omega)]; omega
  rw [if_pos hpp] at p1
  have t1 := T_isPerson_I S hp
  by_cases hd : S 54 4 = -1
  · have hd2 : S 78 26 = -1 := hF.of.symm.trans hd
    refine zOpG_err (E := "java/lang/IllegalStateException") (V := S) (x := 0) (W := z_uS S 78 0 2) (g := fl) ?_ ?_ (Or.inr rfl) (by decide) ?_ ?_ (by rw [uS_at]; rfl) (e0 2)
    · unfold F_T_publish; rw [t1, if_neg ne_10, if_pos hd]
    · unfold Sf_T_publish; rw [t1, if_neg ne_10, if_pos hd]; trivial
    · show F_M_publish fl na S (zI p) = _
      unfold F_M_publish F_M_publish_j25
      rw [p1, if_neg ne_10, if_pos hd2, if_neg le_20]
    · show Sf_M_publish fl na S (zI p)
      unfold Sf_M_publish Sf_M_publish_j25
      rw [p1, if_neg ne_10, if_pos hd2, if_neg le_20]; exact ⟨p2, trivial⟩
  -- a draft of kind k
  have hDM := hF.map hd
  obtain ⟨k, hk, e54, hcov⟩ := hDM.2.1
  have hD : pbD S S k := ⟨hDM, hk, hcov⟩
  have e26 : S 78 26 = zI k := hF.of.symm.trans e54
  have h17 : S 1 7 = zI A.2.1 := h.c.1.size
  have hCX : zCX S S d := ⟨fun k hk => rfl, fun k hk => rfl, h.d⟩
  have hI0 : pbI S d p k A 0 A := ⟨h.ok, by omega, zNw.rfl, aBy_0 (Nat.le_refl _), fun i hi hw => by rw [if_neg (by omega)]; exact h.c.so.mp hS i hi hw⟩
  have hI := pbI.all hD hp 30 0 A (by omega) hI0
  obtain ⟨V, v1, v2, v3, v4⟩ := T_pb_L (x2 := S 1 7) hD hp 30 0 1300 S A (by omega) (by omega) hCX e54 rfl rfl h.c hI0
  rw [zI_0] at v1 v2
  generalize hX : aPb S d p k 30 0 A = X at *
  obtain ⟨i1, i2, i3, i4, i5⟩ := hI
  have V54 : V 54 4 = zI k := by rw [v3.1 54 (by omega)]; exact e54
  obtain ⟨x1, x2⟩ := exch_I hk V
  have hso : zSo (exF k S) X.2.2 := by
    intro i hi hw
    have g := i5 i hi hw
    obtain ⟨q, hq, eq⟩ := i1.rg.kind hi hw
    unfold eS at g ⊢
    show zB (exR k (S 55) (wC X.2.2 i 9).toNatClampNeg) _ = true
    rw [eq, zI_clamp (show q < 2147483648 by omega)] at g ⊢
    unfold exR
    rw [if_neg (by omega)]
    by_cases e : q = k
    · rw [if_pos ⟨by rw [e], hi⟩] at g; rw [if_pos e]; exact g
    · rw [if_neg (fun z => e ((zI_inj (by omega) (by omega)).mp z.1))] at g; rw [if_neg e]; exact g
  have hCX2 : zCX (exF k S) (exF k V) d := by
    refine ⟨fun c hc => ?_, fun c hc => ?_, ?_⟩
    · rw [exF_ne _ _ (by omega), exF_ne _ _ (by omega)]; exact v3.1 c (by omega)
    · by_cases q : c = 55
      · subst q
        show exR k (V 55) = exR k (S 55)
        rw [v3.1 55 (by omega)]
      · rw [exF_ne _ _ (by omega), exF_ne _ _ (by omega)]; exact v3.1 c (by omega)
    · rw [exF_ne _ _ (by omega), v3.1 0 (by omega)]; exact h.d
  have hRC2 : zRC (exF k V) X := v4.ag (by rw [exF_ne _ _ (by omega)]) (fun c hc => exF_ne _ _ (by omega))
  have hRu : zRuOk (exF k S) rn := h.ru.cg fun c hc => exF_ne _ _ (by omega)
  have hm := i3.1
  obtain ⟨D, d1, d2, d3, d4⟩ := T_stl (m := A.2.1) hCX2 hRu hp hRC2 i1 (by omega) hm
  obtain ⟨q1, q2⟩ := aRes_ok (E := exF k S) (m := A.2.1) hRu hp i1 hm hn
  -- the reference
  obtain ⟨c, hfr, hfw⟩ := hF.draft hd
  have hM : ∀ U, zFX S U → ∃ W, zWr zW12 U W ∧ (∀ c, c < na → ¬ (78 ≤ c ∧ c ≤ 97 ∨ 110 ≤ c ∧ c ≤ 121 ∨ c = 192) → W c = U c) ∧ W 78 26 = zI k ∧ zRM 86 W (aRes (exF k S) d p rn A.2.1 X) ∧ W na 0 = S 55 3 ∧ W na 1 = zI c ∧ (∀ q, q < 6 → ∀ j, j < c → W (na + 1 + q) j = S 57 ((3 * 8 + j) * 6 + q)) ∧ F_M_publish fl na U (zI p) = (if aSt (exF k S) d p rn A.2.1 X = true then (zI (X.2.1 - A.2.1), z_uS (z_uS W 78 0 0) 78 26 (-1), zflp fl k na) else (0, z_uS W 78 0 2, fl)) ∧ Sf_M_publish fl na U (zI p) := by
    intro U g
    have hu := h.bm g
    have h0 := hu.thr 0
    have e26U : U 78 26 = zI k := by rw [g 78 (by omega) (by omega)]; exact e26
    have hsz : U 78 2 = zI A.2.1 := hu.m.1.size
    obtain ⟨u1, u2⟩ := M_isPerson_I U (zI p)
    rw [if_pos hpp] at u1
    obtain ⟨Y, y1, y2, y3, y4⟩ := M_pb_L (na := na) (x2 := U 78 2) hD hp 30 0 1300 (z_uS U 78 0 0) A (by omega) (by omega) h0.bx (by rw [uS_nj _ _ _ (by omega)]; exact e26U) (by rw [z_uS_ne _ _ _ (by omega), g 156 (by omega) (by omega)]; exact hfr.states.symm) (by rw [z_uS_ne _ _ _ (by omega), g 163 (by omega) (by omega)]) h0.m hI0
    rw [zI_0] at y1 y2
    rw [hX] at y4
    have Y26 : Y 78 26 = zI k := by rw [y3.2 26 (by omega) (by omega), uS_nj _ _ _ (by omega)]; exact e26U
    have Y2 : Y 78 2 = zI X.2.1 := y4.1.size
    have YS : ∀ c, 98 ≤ c → ¬ (110 ≤ c ∧ c ≤ 121 ∨ 192 ≤ c ∧ c ≤ 193) → Y c = S c := fun c c1 c2 => by rw [y3.1 c (by omega), z_uS_ne _ _ _ (by omega), g c (by omega) (by omega)]
    have eSf : ∀ c, c < na ∨ na + 7 < c → zSf (zSn Y na) na c = Y c := fun c hc => by
      rw [zSf_ne _ _ hc]; unfold zSn; rw [if_neg (by omega)]
    obtain ⟨Z, z1, z2, z3, z4, z5, z6⟩ := MF_copy_I (fa := na) (fb := 156) (c := c) (Or.inr (by omega)) hfr.le (zSf (zSn Y na) na) (by rw [eSf 156 (by omega), YS 156 (by omega) (by omega)]; exact hfr.many)
    have ZY : ∀ c, c < na → Z c = Y c := fun c hc => by rw [z3 c (by omega), eSf c (by omega)]
    have Z0 : Z na 0 = S 55 3 := by rw [z4, eSf 156 (by omega), YS 156 (by omega) (by omega)]; exact hfr.states.symm
    have Zp : ∀ q, q < 6 → ∀ j, j < c → Z (na + 1 + q) j = S 57 ((3 * 8 + j) * 6 + q) := fun q hq j hj => by rw [z6 q hq j hj, eSf _ (by omega), YS _ (by omega) (by omega)]; exact (hfr.part j hj q hq).symm
    have bx := h0.bx.mx y3
    have hbx : zBX (zflp fl k na) (exF k S) Z d rn := by
      refine ⟨⟨⟨fun q hq => ?_, fun q hq => ?_⟩, ?_, fun q hq => ?_, fun q hq => ?_, fun q hq => ?_, ?_⟩, ⟨hRu, ?_⟩, hF.fl.pub hna hnf, ?_⟩
      · rw [ZY 124 (by omega), ZY 125 (by omega), ZY 126 (by omega), ZY 128 (by omega), ZY 129 (by omega), ZY 130 (by omega), exF_ne _ _ (by omega), exF_ne _ _ (by omega), exF_ne _ _ (by omega), exF_ne _ _ (by omega), exF_ne _ _ (by omega), exF_ne _ _ (by omega)]
        exact bx.y.1 q hq
      · rw [ZY 127 (by omega), exF_ne _ _ (by omega)]; exact bx.y.2 q hq
      · unfold eK; rw [exF_ne _ _ (by omega), exF_ne _ _ (by omega)]; exact h.k
      · rw [ZY 128 (by omega), exF_ne _ _ (by omega)]; exact bx.f128 q hq
      · show Z (zflp fl k na q) 0 = exR k (S 55) q
        unfold zflp exR
        rw [if_neg (show ¬ q = 3 by omega)]
        by_cases e : q = k
        · rw [if_pos e, if_pos e]; exact Z0
        · rw [if_neg e, if_neg e, ZY _ (by have := hnf q hq; omega)]
          exact bx.e.2.1 q hq
      · rw [ZY q (by omega), exF_ne _ _ (by omega)]; exact bx.e.2.2.1 q hq
      · rw [ZY 78 (by omega), exF_ne _ _ (by omega)]; exact bx.e.2.2.2
      · rw [exF_ne _ _ (by omega)]; exact h.2.1.2
      · rw [ZY 78 (by omega)]; exact bx.2.2.2
    have hZM : zRM 86 Z X := y4.ag (by omega) (by rw [ZY 78 (by omega)]) (fun c hc => ZY c (by omega))
    obtain ⟨W, w1, w2, w3, w4⟩ := M_stl (m := A.2.1) hbx hp hZM i1 (by omega) hm i4
    have W26 : W 78 26 = zI k := by rw [w3.2 26 (by omega) (by omega), ZY 78 (by omega)]; exact Y26
    have Z26 : Z 78 26 = zI k := by rw [ZY 78 (by omega)]; exact Y26
    have Wn : ∀ c, na ≤ c → W c = Z c := fun c hc => w3.1 c (by omega)
    have hret : Y 78 2 - U 78 2 = zI (X.2.1 - A.2.1) := by rw [Y2, hsz, zI_sub hm (by omega)]
    have ck : (zI k).toNatClampNeg = k := zI_clamp (by omega)
    refine ⟨W, ?_, fun c hc hc2 => ?_, W26, w4, by rw [Wn na (by omega)]; exact Z0, by rw [Wn na (by omega)]; exact z5, fun q hq j hj => by rw [Wn _ (by omega)]; exact Zp q hq j hj, ?_, ?_⟩
    · have a1 : zWr zW12 U Y := (((zFMX.thr U 0).trans y3).wr).mono zW12_in
      have a2 : zWr zW12 Y Z := by
        intro c j hc
        rw [ZY c]
        have : c < 194 := zCov.lt hc (by decide +kernel)
        omega
      exact (a1.trans a2).trans (w3.wr.mono zW12_in)
    · rw [w3.1 c (by omega), ZY c hc, y3.1 c (by omega), z_uS_ne _ _ _ (by omega)]
    · unfold F_M_publish F_M_publish_j25
      rw [u1, if_neg ne_10, if_neg (show ¬ U 78 26 = -1 by rw [e26U]; exact m1_ne k (by omega)), if_pos le_00]
      simp only [y1, Y26, ck, hret, z_letN]
      unfold F_M_publish_n F_M_publishB_j159
      simp only [z_let, z1, Z26, ck, hsz, w1]
      unfold F_M_publishB_j174
      cases aSt (exF k S) d p rn A.2.1 X
      · simp only [Bool.false_eq_true, if_false, if_true, if_neg le_20]
        rw [W26, ck, zflp_back]
      · simp only [if_true, if_neg ne_10, if_pos le_00]
    · unfold Sf_M_publish Sf_M_publish_j25
      rw [u1, if_neg ne_10, if_neg (show ¬ U 78 26 = -1 by rw [e26U]; exact m1_ne k (by omega)), if_pos le_00]
      rw [hsz] at y1 y2 hret
      simp only [hsz, y1, Y26, ck, hret, z_letN]
      unfold Sf_M_publish_n Sf_M_publishB_j159
      simp only [z_let, z1, Z26, ck, hsz, w1]
      refine ⟨u2, y2, vp_in_I hk (by omega), z2, vp_in_I hk (by omega), w2, ?_⟩
      unfold Sf_M_publishB_j174
      cases aSt (exF k S) d p rn A.2.1 X
      · simp only [Bool.false_eq_true, if_false, if_true, if_neg le_20]
        rw [W26]; exact ⟨vp_in_I hk (by omega), trivial⟩
      · simp only [if_true, if_neg ne_10, if_pos le_00]
  have hcnt : zCnt X.1 X.2.1 = zCnt A.1 A.2.1 := i3.cnt
  have hcn : S 86 0 = zI (zCnt (aRes (exF k S) d p rn A.2.1 X).1 (aRes (exF k S) d p rn A.2.1 X).2.1) ∧ zLp S (aRes (exF k S) d p rn A.2.1 X) := by
    have g2 := i3.trans (aGo_ok (E := exF k S) (lim := X.2.1 + 20) (fall := false) hRu hp 1300 A.2.1 X i1 (by omega)).2.2.nw
    unfold aRes
    split
    · exact ⟨h.cn.1.trans (congrArg zI g2.cnt.symm), A.2.1, A.1, h.c.1, g2.1, g2.2.1⟩
    · exact ⟨h.cn.1.trans (congrArg zI i3.back.symm), A.2.1, A.1, h.c.1, Nat.le_refl _, i3.2.1⟩
  have D54 : D 54 4 = zI k := by rw [d3.1 54 (by omega), exF_ne _ _ (by omega)]; exact V54
  have hTs : Sf_T_publish S (zI p) := by
    unfold Sf_T_publish
    rw [t1, if_neg ne_10, if_neg hd]
    rw [h17] at v1 v2
    simp only [h17, v1, V54, z_let, x1, d1]
    refine ⟨v2, x2, d2, ?_⟩
    cases aSt (exF k S) d p rn A.2.1 X
    · simp only [Bool.false_eq_true, if_false, if_true, D54]; exact ⟨(exch_I hk D).2, trivial⟩
    · simp only [if_true, if_neg ne_10]
  have hT : F_T_publish S (zI p) = if aSt (exF k S) d p rn A.2.1 X = true then (.inr (zI (X.2.1 - A.2.1)), z_uS D 54 4 (-1)) else (.inl "java/lang/IllegalStateException", exF k D) := by
    have e17 : V 1 7 - zI A.2.1 = zI (X.2.1 - A.2.1) := by rw [v4.1.size, zI_sub hm (by omega)]
    unfold F_T_publish
    rw [t1, if_neg ne_10, if_neg hd]
    rw [h17] at v1
    simp only [h17, v1, V54, z_let, x1, d1, e17]
    unfold F_T_publish_j171
    cases aSt (exF k S) d p rn A.2.1 X
    · simp only [Bool.false_eq_true, if_false, if_true, D54, (exch_I hk D).1]
    · simp only [if_true, if_neg ne_10]
  cases hst : aSt (exF k S) d p rn A.2.1 X
  · -- not settled
    rw [hst] at hT
    simp only [Bool.false_eq_true, if_false] at hT
    have hEx : ∀ c, ¬ (1 ≤ c ∧ c ≤ 16 ∨ c = 36 ∨ 41 ≤ c ∧ c ≤ 42) → exF k D c = S c := by
      intro c hc
      have e1 : ∀ q, 55 ≤ q ∧ q ≤ 57 → D q = exF k S q := fun q hq => by
        rw [d3.1 q (by omega)]
        by_cases a7 : q = 57
        · subst a7
          show exL k 0 V 57 = exL k 0 S 57
          unfold exL
          rw [v3.1 57 (by omega)]
        · by_cases a5 : q = 55
          · subst a5
            show exR k (V 55) = exR k (S 55)
            rw [v3.1 55 (by omega)]
          · have a6 : q = 56 := by omega
            subst a6
            show exR k (V 56) = exR k (S 56)
            rw [v3.1 56 (by omega)]
      by_cases q : 55 ≤ c ∧ c ≤ 57
      · have e2 : exF k D c = exF k (exF k S) c := by
          by_cases a7 : c = 57
          · subst a7
            show exL k 0 D 57 = exL k 0 (exF k S) 57
            unfold exL
            rw [e1 57 (by omega)]
          · by_cases a5 : c = 55
            · subst a5
              show exR k (D 55) = exR k (exF k S 55)
              rw [e1 55 (by omega)]
            · have a6 : c = 56 := by omega
              subst a6
              show exR k (D 56) = exR k (exF k S 56)
              rw [e1 56 (by omega)]
        rw [e2, exF_exF hk]
      · rw [exF_ne _ _ (by omega), d3.1 c hc, exF_ne _ _ (by omega)]; exact v3.1 c hc
    have hfx : zFCX S (exF k D) := ⟨hEx, fun j hj => by rw [exF_ne _ _ (by omega), d3.2.1 j hj, exF_ne _ _ (by omega)]; exact v3.2.1 j hj, fun j h1 h2 => by rw [exF_ne _ _ (by omega), d3.2.2 j h1 h2, exF_ne _ _ (by omega)]; exact v3.2.2 j h1 h2⟩
    have hzx : zFX S (exF k D) := hfx.x
    obtain ⟨W, w0, w1, w2, w3, -, -, -, m1, m2⟩ := hM (exF k D) hzx
    rw [hst] at m1
    simp only [Bool.false_eq_true, if_false] at m1
    have hWc : ∀ c, c < 78 → W c = exF k D c := fun c hc => w1 c (by omega) (by omega)
    have hFc : zRC (z_uS W 78 0 2) (aRes (exF k S) d p rn A.2.1 X) := d4.ag (by rw [z_uS_ne _ _ _ (by omega), hWc 1 (by omega), exF_ne _ _ (by omega)]) (fun c hc => by rw [z_uS_ne _ _ _ (by omega), hWc c (by omega), exF_ne _ _ (by omega)])
    refine zOpG_err (E := "java/lang/IllegalStateException") (V := exF k D) (x := 0) (W := z_uS W 78 0 2) (g := fl) hT hTs (Or.inr rfl) (by decide) m1 m2 (by rw [uS_at]; rfl) ⟨((hfx.wr.mono zW12_in).trans w0).trans ((zFMX.thr W 2).wr.mono zW12_in), ⟨_, q1, q2, hFc, w3.thr 2, hcn.1, hcn.2⟩, ?_, hFc.so.mpr ?_⟩
    · refine hF.lo hna hnf ?_ ?_ fun c hc hc2 => ?_
      · rw [z_uS_ne _ _ _ (by omega), hWc 54 (by omega)]; rw [hEx 54 (by omega)]
      · rw [uS_nj _ _ _ (by omega), w2]; exact e26.symm
      · rw [z_uS_ne _ _ _ (by omega), w1 c hc (by omega)]; exact hEx c (by omega)
    · have hz : zSo S (aRes (exF k S) d p rn A.2.1 X).2.2 := by
        unfold aRes
        rw [hst]
        simp only [Bool.false_eq_true, if_false]
        exact (h.c.so.mp hS).back h.ok i1 hm i3.2.1
      intro i hi hw
      have g := hz i hi hw
      unfold eS at g ⊢
      rw [z_uS_ne _ _ _ (by omega), hWc 55 (by omega), hEx 55 (by omega)]; exact g
  · -- published
    rw [hst] at hT
    simp only [if_true] at hT
    generalize hU : z_uS (z_uS D 54 4 (-1)) 193 0 (zI (X.2.1 - A.2.1)) = U
    have hUc : ∀ c, c ≠ 54 → c ≠ 193 → U c = D c := fun c c1 c2 => by rw [← hU, z_uS_ne _ _ _ c2, z_uS_ne _ _ _ c1]
    have hU54 : ∀ j, U 54 j = if j = 4 then -1 else D 54 j := fun j => by rw [← hU, z_uS_ne _ _ _ (by omega), z_uS_self]; rfl
    have hDc : ∀ c, ¬ (1 ≤ c ∧ c ≤ 16 ∨ c = 36 ∨ 41 ≤ c ∧ c ≤ 42) → D c = exF k V c := fun c hc => d3.1 c hc
    have hzx : zFX S U := fun c c1 c2 => by rw [hUc c (by omega) c2, hDc c (by omega), exF_ne _ _ (by omega)]; exact v3.1 c (by omega)
    obtain ⟨W, w0, w1, w2, w3, w4, w5, w6, m1, m2⟩ := hM U hzx
    rw [hst] at m1
    simp only [if_true] at m1
    generalize hFd : z_uS (z_uS W 78 0 0) 78 26 (-1) = F at m1
    have hFW : ∀ c, c ≠ 78 → F c = W c := fun c hc => by rw [← hFd, z_uS_ne _ _ _ hc, z_uS_ne _ _ _ hc]
    have hF78 : ∀ j, j ≠ 0 → j ≠ 26 → F 78 j = W 78 j := fun j j1 j2 => by rw [← hFd, uS_nj _ _ _ j2, uS_nj _ _ _ j1]
    have hFS : ∀ c, c < 78 → ¬ (1 ≤ c ∧ c ≤ 16 ∨ c = 36 ∨ 41 ≤ c ∧ c ≤ 42) → c ≠ 54 → F c = exF k V c := fun c c1 c2 c3 => by rw [hFW c (by omega), w1 c (by omega) (by omega), hUc c c3 (by omega)]; exact hDc c c2
    have hF55 : F 55 = exR k (S 55) := by rw [hFS 55 (by omega) (by omega) (by omega)]; show exR k (V 55) = _; rw [v3.1 55 (by omega)]
    have hF56 : F 56 = exR k (S 56) := by rw [hFS 56 (by omega) (by omega) (by omega)]; show exR k (V 56) = _; rw [v3.1 56 (by omega)]
    have hF57 : F 57 = exL k 0 S 57 := by
      rw [hFS 57 (by omega) (by omega) (by omega)]
      show exL k 0 V 57 = _
      unfold exL
      rw [v3.1 57 (by omega)]
    have hFc : zRC F (aRes (exF k S) d p rn A.2.1 X) := d4.ag (by rw [hFW 1 (by omega), w1 1 (by omega) (by omega), hUc 1 (by omega) (by omega)]) (fun c hc => by rw [hFW c (by omega), w1 c (by omega) (by omega), hUc c (by omega) (by omega)])
    have hFm : zRM 86 F (aRes (exF k S) d p rn A.2.1 X) := w3.ag (by omega) (hF78 2 (by omega) (by omega)) (fun c hc => hFW c (by omega))
    have hwr : zWr zW12 S F := by
      have b1 : zWr zW12 S V := v3.wr.mono zW12_in
      have b2 : zWr zW12 V (exF k V) := by
        intro c j hc
        have n5 := zCov.ne hc (a := 55) (by decide +kernel) (by omega)
        have n6 := zCov.ne hc (a := 56) (by decide +kernel) (by omega)
        have n7 := zCov.ne hc (a := 57) (by decide +kernel) (by omega)
        rw [exF_ne _ _ (by omega)]
      have b3 : zWr zW12 (exF k V) D := d3.wr.mono zW12_in
      have b4 : zWr zW12 D U := by rw [← hU]; exact (zWr.slot (by decide +kernel) _ _).trans (zWr.cell (by decide +kernel) _ 0 _)
      have b5 : zWr zW12 W F := by rw [← hFd]; exact (zWr.slot (by decide +kernel) _ _).trans (zWr.slot (by decide +kernel) _ _)
      exact ((((b1.trans b2).trans b3).trans b4).trans w0).trans b5
    have hzs : zSo (exF k S) (aRes (exF k S) d p rn A.2.1 X).2.2 := by
      unfold aRes
      rw [if_pos hst]
      exact so_go hRu 1300 A.2.1 X hso
    have hF54 : F 54 4 = -1 := by rw [hFW 54 (by omega), w1 54 (by omega) (by omega), hU54 4, if_pos rfl]
    refine zOpG_ok (V := z_uS D 54 4 (-1)) (v := zI (X.2.1 - A.2.1)) (W := F) (g := zflp fl k na) hT hTs ?_ ?_ ?_ ?_ ⟨hwr, ⟨_, q1, q2, hFc, hFm, hcn.1, hcn.2⟩, ⟨hF.fl.pub hna hnf, fun q hq => ?_, ?_, fun z => absurd hF54 z⟩, hFc.so.mpr ?_⟩
    · rw [hU]; exact m1
    · rw [hU]; exact m2
    · rw [← hFd, uS_nj _ _ _ (by omega), uS_at]
    · rw [hFW 193 (by omega), w1 193 (by omega) (by omega), ← hU, uS_at]
    · have e5 : F 55 q = if q = k then S 55 3 else S 55 q := by rw [hF55]; unfold exR; rw [if_neg (by omega)]
      have e6 : F 56 q = if q = k then S 56 3 else S 56 q := by rw [hF56]; unfold exR; rw [if_neg (by omega)]
      unfold zflp
      by_cases e : q = k
      · rw [if_pos e] at e5 e6 ⊢
        subst e
        have e7 : ∀ j, j < c → ∀ x, x < 6 → F 57 ((q * 8 + j) * 6 + x) = S 57 ((3 * 8 + j) * 6 + x) := by
          intro j hj x hx
          have := hfr.le
          rw [hF57]
          show (if 144 + 0 ≤ (q * 8 + j) * 6 + x ∧ (q * 8 + j) * 6 + x < 192 then _ else if 48 * q + 0 ≤ (q * 8 + j) * 6 + x ∧ (q * 8 + j) * 6 + x < 48 * q + 48 then _ else _) = _
          rw [if_neg (by omega), if_pos (by omega)]
          exact congrArg (S 57) (by omega)
        refine ⟨c, ⟨hfr.le, ?_, ?_, ?_, fun j hj x hx => ?_⟩, ?_, ?_, fun j hj => ?_⟩
        · rw [e5, hFW na (by omega)]; exact w4.symm
        · rw [e6]; exact hfr.cnt
        · rw [hFW na (by omega)]; exact w5
        · rw [e7 j hj x hx, hFW _ (by omega), w6 x hx j hj]
        · rw [e5]; exact hfw.b0
        · rw [e5]; exact hfw.hi
        · rw [e5]; exact (hfw.step j hj).congr fun x hx => e7 j hj x hx
      · rw [if_neg e] at e5 e6 ⊢
        obtain ⟨c2, f1, f2⟩ := hF.flow hq
        have hlo := hF.fl.lo hq
        have hoff := hF.fl.off hq
        have hlt := hnf q hq
        have e7 : ∀ j, q * 48 ≤ j → j < q * 48 + 48 → F 57 j = S 57 j := by
          intro j j1 j2
          rw [hF57]
          show (if 144 + 0 ≤ j ∧ j < 192 then _ else if 48 * k + 0 ≤ j ∧ j < 48 * k + 48 then _ else _) = _
          rw [if_neg (by omega), if_neg (by omega)]
        exact ⟨c2, f1.ag e5 e6 e7 (fun x hx hx2 => by rw [hFW x (by omega), w1 x (by omega) (by omega)]; exact hzx x (by omega) (by omega)), f2.ag f1.le e5 e7⟩
    · rw [hF54, ← hFd, uS_at]
    · intro i hi hw
      have g := hzs i hi hw
      unfold eS at g ⊢
      rw [hF55]; exact g
