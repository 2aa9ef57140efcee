/-! PURE: inbox -/
def nF (C : Nat → Bool) : Nat → Nat → Int32 → Int32
  | 0, _, x => x
  | n + 1, k, x => nF C n (k + 1) (if C k = true then x + 1 else x)
def nC (E S : Nat → Nat → Int32) (A : zA) (p k : Nat) : Bool := !decide ((A.1 k).1.1 = 0) && (!decide ((A.1 k).2.2 = p) && (zB (S 76 p) (A.1 k).1.2.1 && vSee E A.2.2 p (A.1 k).1.2.1))
theorem zEok.item {e : zEnt} (h : zEok e) (h0 : e.1 ≠ 0) : e.2.1 < 30 := by rcases h with q | q | q | q <;> omega
theorem T_inbox_L {E V : Nat → Nat → Int32} {d p : Nat} {A : zA} (hst : zSt E A.2.2 p 30 V) (hC : zRC V A) (hA : zOk d A) (hn : A.2.1 ≤ 800) (hp : p < 8) : ∀ (n k f : Nat) (x : Int32), n = A.2.1 - k → k ≤ 1000 → n < f →
    F_T_inbox_L48 (zI p) (V 76 p &&& V 36 8) f V x (zI k) = (nF (nC E V A p) n k x, V) ∧ Sf_T_inbox_L48 (zI p) (V 76 p &&& V 36 8) f V x (zI k) := by
  intro n
  induction n with
  | zero =>
    intro k f x hk hk2 hf
    obtain ⟨f, rfl⟩ : ∃ q, f = q + 1 := ⟨f - 1, by omega⟩
    have hl : zI A.2.1 ≤ zI k := by rw [zI_le (by omega) (by omega)]; omega
    unfold F_T_inbox_L48 Sf_T_inbox_L48 nF
    rw [hC.1.size, if_pos hl, if_pos hl]
    exact ⟨rfl, trivial⟩
  | succ n ih =>
    intro k f x hk hk2 hf
    obtain ⟨f, rfl⟩ : ∃ q, f = q + 1 := ⟨f - 1, by omega⟩
    have hl : ¬ zI A.2.1 ≤ zI k := by rw [zI_le (by omega) (by omega)]; omega
    have hk3 : k < A.2.1 := by omega
    obtain ⟨c4, -⟩ := hC.1.ent k hk3
    have c3 : V 3 k = zI (A.1 k).2.2 := (hC.1.2 k hk3).2.2
    obtain ⟨he, -, -, -, hby⟩ := hA.w k hk3
    unfold F_T_inbox_L48 Sf_T_inbox_L48 nF nC
    rw [hC.1.size, if_neg hl, if_neg hl, zAt_I (show k < 900 by omega) (by omega), zAt_I (show k < 900 by omega) (by omega), c4, c3, zI_succ]
    by_cases h0 : (A.1 k).1.1 = 0
    · have e1 : eI (A.1 k).1 = -1 := by unfold eI; rw [if_pos h0]
      have e2 : F_T_isIn V (V 76 p &&& V 36 8) (eI (A.1 k).1) = 0 := by rw [e1]; exact T_isIn_out V (Or.inl (by decide))
      simp only [e2, if_true, h0, decide_true, Bool.not_true, Bool.false_and, Bool.false_eq_true, if_false]
      exact ih (k + 1) f x (by omega) (by omega) (by omega)
    · have hi := he.item h0
      have e1 : eI (A.1 k).1 = zI (A.1 k).1.2.1 := by unfold eI; rw [if_neg h0]
      have e2 : F_T_isIn V (V 76 p &&& V 36 8) (eI (A.1 k).1) = if (zB (V 76 p) (A.1 k).1.2.1 && vSee E A.2.2 p (A.1 k).1.2.1) = true then 1 else 0 := by
        rw [e1, T_isIn_I V (by omega), zB_and, hst.seen hi]
      simp only [e2, h0, decide_false, Bool.not_false, Bool.true_and]
      cases q1 : (zB (V 76 p) (A.1 k).1.2.1 && vSee E A.2.2 p (A.1 k).1.2.1)
      · simp only [Bool.false_eq_true, if_false, if_true, Bool.and_false]
        exact ih (k + 1) f x (by omega) (by omega) (by omega)
      · simp only [if_true, if_neg ne_10, Bool.and_true]
        by_cases q2 : (A.1 k).2.2 = p
        · simp only [q2, if_true, decide_true, Bool.not_true, Bool.false_eq_true, if_false]
          exact ih (k + 1) f x (by omega) (by omega) (by omega)
        · have q3 : ¬ zI (A.1 k).2.2 = zI p := by rw [zI_inj (by omega) (by omega)]; exact q2
          simp only [q2, q3, if_false, decide_false, Bool.not_false, if_true]
          exact ih (k + 1) f (x + 1) (by omega) (by omega) (by omega)
theorem M_inbox_L {fl : Nat → Nat} {E S U : Nat → Nat → Int32} {d p rn : Nat} {A : zA} (h : zBM fl E U d A rn) (hW : ∀ i, i < 30 → U 183 (30 * p + i) = if zB (S 76 p) i = true then 1 else 0) (hp : p < 8) : ∀ (n k f : Nat) (x : Int32), n = A.2.1 - k → k ≤ 1000 → n < f →
    F_M_inbox_L34 (zI p) f U x (zI k) = (nF (nC E S A p) n k x, U) ∧ Sf_M_inbox_L34 (zI p) f U x (zI k) := by
  have hn := h.n
  intro n
  induction n with
  | zero =>
    intro k f x hk hk2 hf
    obtain ⟨f, rfl⟩ : ∃ q, f = q + 1 := ⟨f - 1, by omega⟩
    have hl : zI A.2.1 ≤ zI k := by rw [zI_le (by omega) (by omega)]; omega
    unfold F_M_inbox_L34 Sf_M_inbox_L34 nF
    rw [h.m.1.size, if_pos hl, if_pos hl]
    exact ⟨rfl, trivial⟩
  | succ n ih =>
    intro k f x hk hk2 hf
    obtain ⟨f, rfl⟩ : ∃ q, f = q + 1 := ⟨f - 1, by omega⟩
    have hl : ¬ zI A.2.1 ≤ zI k := by rw [zI_le (by omega) (by omega)]; omega
    have hk3 : k < A.2.1 := by omega
    obtain ⟨c1, c2, -⟩ := h.m.1.ent k hk3
    have c3 : U 81 k = zI (A.1 k).2.2 := (h.m.1.2 k hk3).2.2
    obtain ⟨he, -, -, -, hby⟩ := h.ok.w k hk3
    have vk : vp_in (zI k) 1200 := vp_in_I (by omega) (by omega)
    have x0 : x + 0 = x := Int32.add_zero x
    have skip : nC E S A p k = false → F_M_inbox_L34 (zI p) f U x (zI (k + 1)) = (nF (nC E S A p) (n + 1) k x, U) ∧ Sf_M_inbox_L34 (zI p) f U x (zI (k + 1)) := by
      intro g
      have e : nF (nC E S A p) (n + 1) k x = nF (nC E S A p) n (k + 1) x := by
        show nF (nC E S A p) n (k + 1) (if nC E S A p k = true then x + 1 else x) = _
        rw [g]; rfl
      rw [e]
      exact ih (k + 1) f x (by omega) (by omega) (by omega)
    unfold F_M_inbox_L34 Sf_M_inbox_L34 F_M_inbox_l34_97 Sf_M_inbox_l34_97 F_M_inbox_l34_88 Sf_M_inbox_l34_88 F_M_inbox_l34_98 Sf_M_inbox_l34_98 F_M_inbox_l34_128 Sf_M_inbox_l34_128 F_M_inbox_l34_97 Sf_M_inbox_l34_97 F_M_inbox_l34_98 Sf_M_inbox_l34_98 F_M_inbox_l34_128 Sf_M_inbox_l34_128
    rw [h.m.1.size, if_neg hl, if_neg hl]
    simp only [zI_clamp (show k < 2147483648 by omega), c1, c3, if_true, x0, zI_succ, if_neg ne_10]
    by_cases h0 : (A.1 k).1.1 = 0
    · have m0 : mK (A.1 k).1 = 0 := by unfold mK; rw [if_pos h0]
      simp only [m0, if_true]
      obtain ⟨i1, i2⟩ := skip (by unfold nC; rw [decide_eq_true h0]; rfl)
      exact ⟨i1, vk, i2⟩
    · have m0 : ¬ mK (A.1 k).1 = 0 := by
        unfold mK
        rw [if_neg h0]
        split
        · decide
        · split
          · split
            · decide
            · split
              · decide
              · rw [show (0 : Int32) = zI 0 from rfl, zI_inj (by rcases he with t | t | t | t <;> omega) (by omega)]; omega
          · decide
      have hi := he.item h0
      simp only [if_neg m0]
      by_cases q2 : (A.1 k).2.2 = p
      · obtain ⟨i1, i2⟩ := skip (by unfold nC; rw [decide_eq_true q2]; simp)
        simp only [q2, if_true]
        exact ⟨i1, vk, vk, i2⟩
      · have q3 : ¬ zI (A.1 k).2.2 = zI p := by rw [zI_inj (by omega) (by omega)]; exact q2
        have c82 : U 82 k = zI (A.1 k).1.2.1 := c2
        have e30 : (30 : Int32) * zI p + zI (A.1 k).1.2.1 = zI (30 * p + (A.1 k).1.2.1) := by rw [show (30 : Int32) = zI 30 from rfl, zI_mul, zI_add]
        have vi : vp_in (zI (30 * p + (A.1 k).1.2.1)) 240 := vp_in_I (by omega) (by omega)
        simp only [if_neg q3, c82, e30, zI_clamp (show 30 * p + (A.1 k).1.2.1 < 2147483648 by omega), hW _ hi]
        cases q4 : zB (S 76 p) (A.1 k).1.2.1
        · obtain ⟨i1, i2⟩ := skip (by unfold nC; rw [q4]; simp)
          simp only [Bool.false_eq_true, if_false, if_true]
          exact ⟨i1, vk, vk, vk, vk, vi, i2⟩
        · obtain ⟨s1, s2⟩ := M_sees_I h.y h.m.2.1 h.ok.rg hp hi
          simp only [if_true, if_neg ne_10, s1]
          cases q5 : vSee E A.2.2 p (A.1 k).1.2.1
          · obtain ⟨i1, i2⟩ := skip (by unfold nC; rw [q5]; simp)
            simp only [Bool.false_eq_true, if_false, if_true]
            exact ⟨i1, vk, vk, vk, vk, vi, vk, s2, i2⟩
          · have e : nF (nC E S A p) (n + 1) k x = nF (nC E S A p) n (k + 1) (x + 1) := by
              show nF (nC E S A p) n (k + 1) (if nC E S A p k = true then x + 1 else x) = _
              have : nC E S A p k = true := by unfold nC; rw [decide_eq_false h0, decide_eq_false q2, q4, q5]; rfl
              rw [this]; rfl
            obtain ⟨i1, i2⟩ := ih (k + 1) f (x + 1) (by omega) (by omega) (by omega)
            simp only [if_true, if_neg ne_10]
            exact ⟨i1.trans (by rw [e]), vk, vk, vk, vk, vi, vk, s2, i2⟩
theorem nF_congr {C D : Nat → Bool} : ∀ (n k : Nat) (x : Int32), (∀ j, C j = D j) → nF C n k x = nF D n k x := by
  intro n
  induction n with
  | zero => intro k x _; rfl
  | succ n ih => intro k x h; unfold nF; rw [h k]; exact ih _ _ h
def zW44 : List zLoc := [(36, some 8), (36, some 9), (41, none), (42, none), (77, none), (78, some 0), (184, none), (193, none)]
theorem o_44 {fl : Nat → Nat} {S : Nat → Nat → Int32} {d : Nat} {A : zA} {rn : Nat} (h : zB0 fl S d A rn) (hW : zCW S) (a1 a2 a3 a4 a5 a6 : Int32) : Sl_44 fl S a1 a2 a3 a4 a5 a6 ∧ zWr zW44 S (Fl_44 fl S a1 a2 a3 a4 a5 a6) ∧ zCW (Fl_44 fl S a1 a2 a3 a4 a5 a6) := by
  suffices g : zOpQ (fun E => (if E = "java/lang/IndexOutOfBoundsException" then 1 else 0)) (fun E => E = "java/lang/IndexOutOfBoundsException") (fun x => x) (F_T_inbox S a1) (Sf_T_inbox S a1) (fun U => F_M_inbox U a1) (fun U => Sf_M_inbox U a1) (fun F => zWr zW44 S F ∧ zCW F) from g
  rcases vPer_cases a1 with ⟨p, hp, rfl⟩ | hp
  case inr =>
    obtain ⟨p1, p2⟩ := M_isPerson_I S a1
    rw [if_neg hp] at p1
    refine zOpQ_err (E := "java/lang/IndexOutOfBoundsException") (V := S) (x := 0) (W := z_uS S 78 0 1) ?_ ?_ rfl (by decide) ?_ ?_ (by rw [uS_at]; rfl) ⟨zWr.slot (by decide) _ _, hW.ag ((zWr.slot (W := [(78, some 0)]) (by decide) S _).ag (by decide))⟩
    · unfold F_T_inbox; rw [T_isPerson_eq, if_neg hp, if_pos rfl]
    · unfold Sf_T_inbox; rw [T_isPerson_eq, if_neg hp, if_pos rfl]; trivial
    · show F_M_inbox S a1 = _
      unfold F_M_inbox F_M_inbox_j13; simp only [p1, if_true, if_neg le_10]
    · show Sf_M_inbox S a1
      unfold Sf_M_inbox Sf_M_inbox_j13; simp only [p1, if_true, if_neg le_10]; exact ⟨p2, trivial⟩
  obtain ⟨w1, w2, w3⟩ := hW
  have hn := h.n
  have hper := T_isPerson_I S hp
  obtain ⟨V, v1, v2, v3, v4⟩ := T_headL h hp
  have hVk : ∀ k, k ≠ 36 → k ≠ 41 → k ≠ 42 → V k = S k := v3.1
  have hCV : zRC V A := h.c.ag (by rw [hVk 1 (by omega) (by omega) (by omega)]) (fun k hk => hVk k (by omega) (by omega) (by omega))
  obtain ⟨e1, e2, e3⟩ := w3 p hp
  obtain ⟨m, hm, em⟩ := zI_ex (n := 801) e2 (by omega) (by omega)
  have m77 : V 77 p = zI m := by rw [hVk 77 (by omega) (by omega) (by omega)]; exact em
  obtain ⟨l1, l2⟩ := T_inbox_L v4 hCV h.ok hn hp (A.2.1 - m) m 1300 0 rfl (by omega) (by omega)
  generalize hans : nF (nC S V A p) (A.2.1 - m) m 0 = ans at l1
  have hsz : V 1 7 = zI A.2.1 := hCV.1.size
  generalize hX : z_uS V 77 p (zI A.2.1) = X
  have hT1 : F_T_inbox S (zI p) = (.inr ans, X) := by
    unfold F_T_inbox
    simp only [hper, if_neg ne_10, z_let, v1, zAt_I hp (show 8 ≤ 2147483648 by omega), m77, l1, hsz, zPut_I hp (show 8 ≤ 2147483648 by omega), hX]
  have hT2 : Sf_T_inbox S (zI p) := by
    unfold Sf_T_inbox
    simp only [hper, if_neg ne_10, z_let, v1, zAt_I hp (show 8 ≤ 2147483648 by omega), m77]
    exact ⟨v2, l2, trivial⟩
  generalize hY : z_uS X 193 0 ans = Y
  have hYk : ∀ k, k ≠ 193 → k ≠ 77 → Y k = V k := fun k h1 h2 => by rw [← hY, z_uS_ne _ _ _ h1, ← hX, z_uS_ne _ _ _ h2]
  have hY77 : Y 77 = upd (V 77) p (zI A.2.1) := by rw [← hY, z_uS_ne _ _ _ (by omega), ← hX, z_uS_self]
  have hbm : zBM fl S Y d A rn := h.bm (fun k h1 h2 => by rw [hYk k h2 (by omega), hVk k (by omega) (by omega) (by omega)])
  have hbm0 := hbm.thr 0
  have hWU : ∀ i, i < 30 → (z_uS Y 78 0 0) 183 (30 * p + i) = if zB (V 76 p) i = true then 1 else 0 := fun i hi => by
    rw [z_uS_ne _ _ _ (by omega), hYk 183 (by omega) (by omega), hVk 183 (by omega) (by omega) (by omega), hVk 76 (by omega) (by omega) (by omega)]
    exact w1 p hp i hi
  obtain ⟨k1, k2⟩ := M_inbox_L (S := V) hbm0 hWU hp (A.2.1 - m) m 1300 0 rfl (by omega) (by omega)
  rw [hans] at k1
  obtain ⟨p1, p2⟩ := M_isPerson_I Y (zI p)
  rw [if_pos ⟨by rw [zI_toInt (by omega)]; omega, by rw [zI_toInt (by omega)]; omega⟩] at p1
  have m184 : Y 184 p = zI m := by rw [hYk 184 (by omega) (by omega), hVk 184 (by omega) (by omega) (by omega), ← e1]; exact em
  have hsz2 : (z_uS Y 78 0 0) 78 2 = zI A.2.1 := hbm0.m.1.size
  have vp8 : vp_in (zI p) 8 := vp_in_I hp (by omega)
  generalize hW' : z_uS (z_uS Y 78 0 0) 184 p (zI A.2.1) = W
  refine zOpQ_ok (v := ans) (W := W) hT1 hT2 ?_ ?_ ?_ ?_ ⟨?_, ?_, ?_, ?_⟩
  · rw [hY]
    show F_M_inbox Y (zI p) = _
    unfold F_M_inbox F_M_inbox_j13
    simp only [p1, if_neg ne_10, if_pos le_00, zI_clamp (show p < 2147483648 by omega), m184, k1, hsz2, hW']
  · rw [hY]
    show Sf_M_inbox Y (zI p)
    unfold Sf_M_inbox Sf_M_inbox_j13
    simp only [p1, if_neg ne_10, if_pos le_00, zI_clamp (show p < 2147483648 by omega), m184, k1]
    exact ⟨p2, vp8, k2, vp8, trivial⟩
  · rw [← hW', z_uS_ne _ _ _ (by omega), uS_at]
  · rw [← hW', z_uS_ne _ _ _ (by omega), z_uS_ne _ _ _ (by omega), ← hY, uS_at]
  · refine (v3.wr (by decide) (by decide) (by decide) (by decide)).trans ?_
    rw [← hW', ← hY, ← hX]
    exact (zWr.cell (by decide) _ _ _).trans ((zWr.cell (by decide) _ _ _).trans ((zWr.slot (by decide) _ _).trans (zWr.cell (by decide) _ _ _)))
  all_goals have hWk : ∀ k, k ≠ 184 → k ≠ 78 → W k = Y k := fun k h1 h2 => by rw [← hW', z_uS_ne _ _ _ h1, z_uS_ne _ _ _ h2]
  · intro q hq i hi
    rw [hWk 183 (by omega) (by omega), hWk 76 (by omega) (by omega), hYk 183 (by omega) (by omega), hYk 76 (by omega) (by omega), hVk 183 (by omega) (by omega) (by omega), hVk 76 (by omega) (by omega) (by omega)]
    exact w1 q hq i hi
  · intro q hq i hi
    rw [hWk 76 (by omega) (by omega), hYk 76 (by omega) (by omega), hVk 76 (by omega) (by omega) (by omega)]
    exact w2 q hq i hi
  · intro q hq
    have e184 : W 184 = upd (S 184) p (zI A.2.1) := by rw [← hW', z_uS_self, z_uS_ne _ _ _ (by omega), hYk 184 (by omega) (by omega), hVk 184 (by omega) (by omega) (by omega)]
    rw [hWk 77 (by omega) (by omega), hY77, e184, hVk 77 (by omega) (by omega) (by omega)]
    unfold upd
    by_cases e : q = p
    · simp only [if_pos e]
      rw [zI_toInt (by omega)]; exact ⟨trivial, by omega, by omega⟩
    · simp only [if_neg e]; exact w3 q hq
