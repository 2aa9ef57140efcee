/-! PURE: bulk, the class -/
/-- the class's bulk, once its right to it is known -/
theorem T_bulk_go {fl : Nat → Nat} {S : Nat → Nat → Int32} {d : Nat} {A : zA} {rn m p f q : Nat} {v : Int32} {mm : Nat → Bool} {X : zA} (h : zB0 fl S d A rn) (hQ : zCQ S) (hm : m < 512) (hp : p < 8) (hf : f < 3) (hv0 : -1 ≤ v.toInt) (hv1 : v.toInt ≤ 99) (h71 : S 71 4 = zI m) (hr : qTop (zXs S) (kK S p A.1 (qQ S A (zI d) p false) (zI d)) = .inr (q, mm)) (hX : aBu d p f v (kFnd S p (qQ S A (zI d) p false).1 mm) (fun k => vCan S A.2.2 p k f) 30 0 A = X) (hBi : zBi d p f A 830 X) : ∃ V5, F_T_bulk S (zI p) (zI f) v = (if aSt S d p rn A.2.1 X = true then ((.inr ((100 : Int32) * zI (X.2.1 - A.2.1) + rF (kFnd S p (qQ S A (zI d) p false).1 mm) (fun k => vCan S A.2.2 p k f) 30 0 0) : String ⊕ Int32), zPushed V5 m (zI p) (zI f) (zI A.2.1) (zI (X.2.1 - A.2.1))) else (.inl "java/lang/IllegalStateException", V5)) ∧ Sf_T_bulk S (zI p) (zI f) v ∧ zFX S V5 ∧ zWr zW40 S V5 ∧ zRC V5 (aRes S d p rn A.2.1 X) ∧ (∀ k, 71 ≤ k → k ≤ 75 → V5 k = S k) := by
  have hn := h.n
  have hg0 := h.ok.rg
  have hrg := rgC_val (f := f) hf hv0 hv1
  have hAll := (qAll h p).sm (f := f)
  obtain ⟨V0, V1, V2, x, V3, c1, c2, c3, r1, r2, l1, l2, x1, x2, hx, hst, hfx, hwr⟩ := q_cls2 h hQ hp hr
  have o := fun {k : Nat} => zWF_out hwr (k := k)
  have hC3 : zRC V3 A := h.c.ag (by rw [o (k := 1) (by omega)]) (fun k hk => o (by omega))
  have hX3 : zCX S V3 d := ⟨fun k hk => o (by omega), fun k hk => o (by omega), by rw [o (k := 0) (by omega)]; exact h.d⟩
  have hbi : zBi d p f A 800 A := ⟨⟨h.ok, hn, zNb.rfl⟩, zSm.rfl, aBy_0 (Nat.le_refl _)⟩
  have e17 : V3 1 7 = zI A.2.1 := hC3.1.size
  obtain ⟨V4, b1, b2, b3, b4⟩ := T_bu_L (E := S) (x4 := x) (x6 := zI A.2.1) (P := kFnd S p (qQ S A (zI d) p false).1 mm) hp hf hrg hg0 hAll (fun k hk => hx k (by omega)) 30 0 1300 800 V3 A 0 rfl (by omega) (by omega) hX3 hst hC3 hbi
  rw [hX] at b4
  rw [zI_0] at b1 b2
  obtain ⟨⟨hO, hN, hnb⟩, hsm, hby⟩ := hBi
  have hX4 : zCX S V4 d := hX3.cx b3.cx
  obtain ⟨V5, s1, s2, s3, s4⟩ := T_stl hX4 h.ru hp b4 hO (by omega) hnb.1.1
  have e417 : V4 1 7 = zI X.2.1 := b4.1.size
  have esub : zI X.2.1 - zI A.2.1 = zI (X.2.1 - A.2.1) := zI_sub hnb.1.1 (by omega)
  have h35 : zFCX V3 V5 := b3.cx.trans s3
  have k71 : ∀ k, 71 ≤ k → k ≤ 75 → V5 k = S k := fun k a b => by rw [h35.1 k (by omega)]; exact o (by omega)
  have hper := T_isPerson_I S hp
  have hfld : F_T_isField S (zI f) = 1 := by
    rw [T_isField_eq, if_pos]
    rw [zI_toInt (by omega)]
    exact ⟨by show (0 : Int) ≤ f; omega, by show (f : Int) < 3; omega⟩
  have hval : F_T_isValue S v = 1 := by rw [T_isValue_I, if_pos ⟨hv0, hv1⟩]
  refine ⟨V5, ?_, ?_, fun k a b => by rw [h35.1 k (by omega)]; exact hfx k a b, (hwr.mono zW40_f).trans (h35.wr.mono zW40_i), s4, k71⟩
  · unfold F_T_bulk
    rw [hper, if_neg ne_10, hfld, if_neg ne_10, hval, if_neg ne_10, c1]
    dsimp only
    rw [if_pos rfl]
    unfold F_T_bulk_j49
    rw [c3]
    have ph := push_I (V := V5) (by rw [k71 71 (by omega) (by omega)]; exact h71) hm (zI p) (zI f) (zI A.2.1) (zI (X.2.1 - A.2.1))
    exact bulk_gen (RR := F_View_readUpTo) (KK := F_Sight_look) (HH := F_Finder_hits) (LL := F_T_bulk_L102) (GG := F_T_isSettled) (PP := F_Bulks_push) r1 l1 x1 e17 b1 s1 e417 esub ph
  · unfold Sf_T_bulk
    rw [hper, if_neg ne_10, hfld, if_neg ne_10, hval, if_neg ne_10, c1]
    refine ⟨c2, ?_⟩
    dsimp only
    rw [if_pos rfl]
    unfold Sf_T_bulk_j49
    rw [c3]
    exact bulk_genS (RR := F_View_readUpTo) (KK := F_Sight_look) (HH := F_Finder_hits) (LL := F_T_bulk_L102) (sRR := Sf_View_readUpTo) (sKK := Sf_Sight_look) (sHH := Sf_Finder_hits) (sLL := Sf_T_bulk_L102) (sGG := Sf_T_isSettled) r1 l1 x1 e17 b1 r2 l2 x2 b2 s2
