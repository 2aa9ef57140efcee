/-! PURE: a call stays, the reference -/
def zFT (U V : Nat → Nat → Int32) : Prop := (∀ k, (k < 78 ∨ 97 < k ∧ k < 110 ∨ 121 < k) → k ≠ 192 → V k = U k) ∧ (∀ j, j ≠ 2 → V 78 j = U 78 j)
theorem zFT.rfl {S : Nat → Nat → Int32} : zFT S S := ⟨fun _ _ _ => Eq.refl _, fun _ _ => Eq.refl _⟩
theorem zFT.trans {S V W : Nat → Nat → Int32} (h : zFT S V) (g : zFT V W) : zFT S W := ⟨fun k hk hn => (g.1 k hk hn).trans (h.1 k hk hn), fun j hj => (g.2 j hj).trans (h.2 j hj)⟩
theorem zFN.t86 {U V : Nat → Nat → Int32} (h : zFN 86 U V) : zFT U V := ⟨fun k hk hn => h.1 k (by omega) hn, h.2.1⟩
theorem zFN.t110 {U V : Nat → Nat → Int32} (h : zFN 110 U V) : zFT U V := ⟨fun k hk hn => h.1 k (by omega) hn, h.2.1⟩
theorem eM.ft {E : Nat → Nat → Int32} {fl : Nat → Nat} {U V : Nat → Nat → Int32} (h : eM E fl U) (hf : zFl fl) (g : zFT U V) : eM E fl V := by
  obtain ⟨h1, h2, h3, h4⟩ := h
  refine ⟨fun k hk => by rw [g.1 128 (by omega) (by omega)]; exact h1 k hk, fun k hk => ?_, fun k hk => by rw [g.1 k (by omega) (by omega)]; exact h3 k hk, by rw [g.2 31 (by omega)]; exact h4⟩
  have := hf.lo hk
  have := hf.off hk
  rw [g.1 (fl k) (by omega) (by omega)]; exact h2 k hk
theorem M_takeBack_I {d m : Nat} {A : zA} {U : Nat → Nat → Int32} (hA : zOk d A) (hL : zLgM A.1 A.2.1 U) (hn : A.2.1 ≤ 1200) (hm : m ≤ A.2.1) : ∃ V, F_M_takeBack U (zI m) = V ∧ Sf_M_takeBack U (zI m) ∧ zRM 86 V (aBack m A) ∧ zFT U V := by
  obtain ⟨V, v1, v2, v3, v4, v5, v6⟩ := M_remake_I (b := 86) (L := A.1) (m := m) (U := z_uS U 78 2 (zI m)) (by omega) (hA.w.le hm) (by omega) (fun j hj => by
    have := (hL.2 j (by omega)).1
    unfold zLM at this ⊢
    rw [z_uS_ne _ _ _ (show (79 : Nat) ≠ 78 by omega), z_uS_ne _ _ _ (show (82 : Nat) ≠ 78 by omega), z_uS_ne _ _ _ (show (83 : Nat) ≠ 78 by omega), z_uS_ne _ _ _ (show (84 : Nat) ≠ 78 by omega), z_uS_ne _ _ _ (show (85 : Nat) ≠ 78 by omega)]
    exact this)
  refine ⟨V, ?_, ?_, ⟨⟨by rw [v5 78 (by omega), uS_at]; rfl, fun i hi => ?_⟩, v3.same (aBack_ok hA hm).same, v4⟩, fun k hk hn => by rw [v5 k (by omega), z_uS_ne _ _ _ (by omega)], fun j hj => by rw [v5 78 (by omega), uS_nj _ _ _ hj]⟩
  · unfold F_M_takeBack; simp only [z_let, v1]
  · unfold Sf_M_takeBack; exact ⟨v2, trivial⟩
  · have hi' : i < m := hi
    have := hL.2 i (by omega)
    unfold zLM at this ⊢
    rw [v5 79 (by omega), v5 80 (by omega), v5 81 (by omega), v5 82 (by omega), v5 83 (by omega), v5 84 (by omega), v5 85 (by omega), z_uS_ne _ _ _ (show (79 : Nat) ≠ 78 by omega), z_uS_ne _ _ _ (show (80 : Nat) ≠ 78 by omega), z_uS_ne _ _ _ (show (81 : Nat) ≠ 78 by omega), z_uS_ne _ _ _ (show (82 : Nat) ≠ 78 by omega), z_uS_ne _ _ _ (show (83 : Nat) ≠ 78 by omega), z_uS_ne _ _ _ (show (84 : Nat) ≠ 78 by omega), z_uS_ne _ _ _ (show (85 : Nat) ≠ 78 by omega)]
    exact this
theorem zLgM.rest {L L' : zLg} {n m : Nat} {U : Nat → Nat → Int32} (h : zLgM L n U) (hm : m ≤ n) (e : ∀ i, i < m → L' i = L i) : zLgM L' m (z_uS U 78 2 (zI m)) := by
  refine ⟨uS_at _ _ _ _, fun i hi => ?_⟩
  have := h.2 i (by omega)
  rw [e i hi]
  unfold zLM at this ⊢
  rw [z_uS_ne _ _ _ (show (79 : Nat) ≠ 78 by omega), z_uS_ne _ _ _ (show (80 : Nat) ≠ 78 by omega), z_uS_ne _ _ _ (show (81 : Nat) ≠ 78 by omega), z_uS_ne _ _ _ (show (82 : Nat) ≠ 78 by omega), z_uS_ne _ _ _ (show (83 : Nat) ≠ 78 by omega), z_uS_ne _ _ _ (show (84 : Nat) ≠ 78 by omega), z_uS_ne _ _ _ (show (85 : Nat) ≠ 78 by omega)]
  exact this
/-- without rules: only too many entries are too many -/
theorem M_stays_0 {fl : Nat → Nat} {d m : Nat} {U : Nat → Nat → Int32} {A : zA} (hn : A.2.1 ≤ 1200) (hm : m ≤ A.2.1) (hC : zRM 86 U A) (hA : zOk d A) :
    ∃ r V, F_M_stays fl U (zI m) 0 = (r, V) ∧ Sf_M_stays fl U (zI m) 0 ∧ zFT U V ∧ (A.2.1 ≤ 800 → r = 1 ∧ V = U) ∧ (¬ A.2.1 ≤ 800 → r = 0 ∧ zRM 86 V (aBack m A)) := by
  unfold F_M_stays Sf_M_stays
  rw [if_pos rfl, if_pos rfl]
  unfold F_M_stays_j84 Sf_M_stays_j84 F_M_stays_j103 Sf_M_stays_j103 F_M_stays_j104 Sf_M_stays_j104
  rw [hC.1.size]
  by_cases q : A.2.1 ≤ 800
  · have n8 : ¬ (800 : Int32) < zI A.2.1 := by rw [show (800 : Int32) = zI 800 from rfl, zI_lt (by omega) (by omega)]; omega
    simp only [if_neg (show ¬ ((1 : Int32) = 0) by decide), if_neg n8]
    exact ⟨1, U, rfl, ⟨rfl, trivial⟩, zFT.rfl, fun _ => ⟨rfl, rfl⟩, fun g => absurd q g⟩
  · have n8 : (800 : Int32) < zI A.2.1 := by rw [show (800 : Int32) = zI 800 from rfl, zI_lt (by omega) (by omega)]; omega
    obtain ⟨V, v1, v2, v3, v4⟩ := M_takeBack_I hA hC.1 hn hm
    simp only [if_neg (show ¬ ((1 : Int32) = 0) by decide), if_pos n8, if_true, z_let, v1]
    exact ⟨0, V, rfl, ⟨v2, rfl, trivial⟩, v4, fun g => absurd g q, fun _ => ⟨rfl, v3⟩⟩
theorem T_isWithinLimit_I {d m : Nat} {S : Nat → Nat → Int32} {A : zA} (hn : A.2.1 ≤ 900) (hm : m ≤ A.2.1) (hC : zRC S A) (hA : zOk d A) :
    ∃ r V, F_T_isWithinLimit S (zI m) = (r, V) ∧ Sf_T_isWithinLimit S (zI m) ∧ zFC S V ∧ (A.2.1 ≤ 800 → r = 1 ∧ V = S) ∧ (¬ A.2.1 ≤ 800 → r = 0 ∧ zRC V (aBack m A)) := by
  unfold F_T_isWithinLimit Sf_T_isWithinLimit F_T_isWithinLimit_j18 Sf_T_isWithinLimit_j18
  rw [hC.1.size]
  by_cases q : A.2.1 ≤ 800
  · have n8 : ¬ (800 : Int32) < zI A.2.1 := by rw [show (800 : Int32) = zI 800 from rfl, zI_lt (by omega) (by omega)]; omega
    simp only [if_neg (show ¬ ((1 : Int32) = 0) by decide), if_neg n8]
    exact ⟨1, S, rfl, ⟨rfl, trivial⟩, zFC.rfl, fun _ => ⟨rfl, rfl⟩, fun g => absurd q g⟩
  · have n8 : (800 : Int32) < zI A.2.1 := by rw [show (800 : Int32) = zI 800 from rfl, zI_lt (by omega) (by omega)]; omega
    obtain ⟨V, v1, v2, v3, v4⟩ := T_takeBack_A hA hC hn hm
    simp only [if_pos n8, if_true, z_let, v1]
    exact ⟨0, V, rfl, ⟨v2, rfl, trivial⟩, v4, fun g => absurd g q, fun _ => ⟨rfl, v3⟩⟩
theorem M_stays_I {E : Nat → Nat → Int32} {fl : Nat → Nat} {d p rn m : Nat} (hfl : zFl fl) (hR : zRuOk E rn) (hR2 : E 78 31 = zI rn) (hp : p < 8) {U : Nat → Nat → Int32} {A : zA} (hn : A.2.1 ≤ 870) (hm : m ≤ A.2.1) (hE : eM E fl U) (hd : U 78 1 = zI d) (hC : zRM 86 U A) (hA : zOk d A) (hby : aBy p m A) :
    ∃ r V, F_M_stays fl U (zI m) 1 = (r, V) ∧ Sf_M_stays fl U (zI m) 1 ∧ zFT U V ∧ (aFine E d p rn m A → r = 1 ∧ zRM 86 V (aEnd E d p rn m false A)) ∧ (¬ aFine E d p rn m A → r = 0 ∧ zRM 86 V (aBack m A)) := by
  obtain ⟨f1, f2, f3⟩ := aGo_ok (E := E) (fall := true) (lim := A.2.1 + 20) hR hp 1300 m A hA (by omega)
  obtain ⟨r1, r2, r3⟩ := aGo_ok (E := E) (fall := false) (lim := A.2.1 + 20) hR hp 1300 m A hA (by omega)
  change zOk d (aEnd E d p rn m true A) at f1
  change (aEnd E d p rn m true A).2.1 ≤ _ at f2
  change zExt A (aEnd E d p rn m true A) at f3
  change zOk d (aEnd E d p rn m false A) at r1
  change (aEnd E d p rn m false A).2.1 ≤ _ at r2
  change zExt A (aEnd E d p rn m false A) at r3
  have n10 : ¬ ((1 : Int32) = 0) := by decide
  have hs : U 78 2 = zI A.2.1 := hC.1.size
  -- taken back
  have back : ∀ (T : Nat → Nat → Int32) (B : zA), zOk d B → zExt A B → zLgM B.1 B.2.1 T → B.2.1 ≤ 1200 → zFT U T → ¬ aFine E d p rn m A → (∃ r V, F_M_stays_j103 fl T (zI m) = (r, V) ∧ Sf_M_stays_j103 fl T (zI m) ∧ zFT U V ∧ (aFine E d p rn m A → r = 1 ∧ zRM 86 V (aEnd E d p rn m false A)) ∧ (¬ aFine E d p rn m A → r = 0 ∧ zRM 86 V (aBack m A))) := by
    intro T B hB hx hT hB9 hfr hno
    obtain ⟨V, v1, v2, v3, v4⟩ := M_takeBack_I hB hT hB9 (m := m) (Nat.le_trans hm hx.1)
    have v3' : zRM 86 V (aBack m A) := by
      obtain ⟨q1, q2, q3⟩ := v3
      refine ⟨q1.eq (fun i hi => (hx.2.1 i (by have : i < m := hi; omega)).symm), ?_, ?_⟩
      · show zWM 86 V (zBkw A.1 A.2.1 A.2.2 (A.2.1 - m))
        rw [← hx.back hm]; exact q2
      · rw [q3]
        show zI (zCnt B.1 m) = zI (zCnt A.1 m)
        rw [(zRep_eq (L := A.1) (L' := B.1) (n := m) (fun i hi => hx.2.1 i (by omega))).2]
    refine ⟨0, V, ?_, ?_, hfr.trans v4, fun q => absurd q hno, fun _ => ⟨rfl, v3'⟩⟩
    · unfold F_M_stays_j103 F_M_stays_j104; simp only [if_true, z_let, v1]
    · unfold Sf_M_stays_j103 Sf_M_stays_j104; simp only [if_true, z_let, v1]; exact ⟨v2, rfl, trivial⟩
  unfold F_M_stays Sf_M_stays
  simp only [if_neg n10, hs]
  by_cases q0 : 800 < A.2.1
  · have m0 : (800 : Int32) < zI A.2.1 := by rw [show (800 : Int32) = zI 800 from rfl, zI_lt (by omega) (by omega)]; exact q0
    have hno : ¬ aFine E d p rn m A := fun g => by have h1 := g.2.2.2; have h2 := r3.1; omega
    simp only [if_pos m0]
    unfold F_M_stays_j84 Sf_M_stays_j84
    simp only [if_neg n10, hs, if_pos m0]
    exact back U A hA zExt.rfl hC.1 (by omega) zFT.rfl hno
  have m0 : ¬ (800 : Int32) < zI A.2.1 := by rw [show (800 : Int32) = zI 800 from rfl, zI_lt (by omega) (by omega)]; exact q0
  simp only [if_neg m0]
  obtain ⟨U1, a1, a2, a3, a4, a5, a6⟩ := M_remake_I (b := 110) (L := A.1) (m := A.2.1) (U := U) (by omega) hA.w (by omega) (fun j hj => (hC.1.2 j hj).1)
  simp only [z_let, a1]
  have fr1 : zFT U U1 := ⟨fun k hk hn => a5 k (by omega), fun j hj => by rw [a5 78 (by omega)]⟩
  have hC1 : zRM 110 U1 A := ⟨hC.1.ag (by rw [a5 78 (by omega)]) (fun k h1 h2 => a5 k (by omega)), a3.same hA.same, a4⟩
  have hW1 : zWM 86 U1 A.2.2 := hC.2.1.ag (fun k h1 h2 => a5 k (by omega))
  have hc1 : U1 86 0 = zI (zCnt A.1 A.2.1) := by rw [a5 86 (by omega)]; exact hC.2.2
  obtain ⟨U2, b1, b2, b3, b4⟩ := M_isThrough_I (fall := true) (b := 110) (by omega) hfl hR hR2 hp hn hm (hE.ft hfl fr1) (by rw [fr1.2 1 (by omega)]; exact hd) hC1 hA hby
  change _ = (if A.2.1 + 20 < (aEnd E d p rn m true A).2.1 then 0 else 1, U2) at b1
  change zRM 110 U2 (aEnd E d p rn m true A) at b3
  simp only [if_true] at b1 b2
  generalize hF : aEnd E d p rn m true A = AF at *
  rw [b1]
  have fr2 : zFT U U2 := fr1.trans b4.t110
  have hL3 : zLgM A.1 A.2.1 (z_uS U2 78 2 (zI A.2.1)) := b3.1.rest f3.1 (fun i hi => (f3.2.1 i hi).symm)
  have fr3 : zFT U (z_uS U2 78 2 (zI A.2.1)) := fr2.trans ⟨fun k hk hn => z_uS_ne _ _ _ (by omega), fun j hj => uS_nj _ _ _ hj⟩
  by_cases q1 : A.2.1 + 20 < AF.2.1
  · have hno : ¬ aFine E d p rn m A := fun g => g.1 (by rw [hF]; exact q1)
    simp only [if_pos q1, if_true]
    unfold F_M_stays_j81 Sf_M_stays_j81 F_M_stays_j82 Sf_M_stays_j82 F_M_stays_j84 Sf_M_stays_j84
    simp only [if_true]
    obtain ⟨r, V, v1, v2, v3⟩ := back _ A hA zExt.rfl hL3 (by omega) fr3 hno
    exact ⟨r, V, v1, ⟨a2, b2, v2⟩, v3⟩
  simp only [if_neg q1, if_neg n10]
  have hC3 : zRM 86 (z_uS U2 78 2 (zI A.2.1)) A := ⟨hL3, hW1.ag (fun k h1 h2 => by rw [z_uS_ne _ _ _ (by omega), b4.1 k (by omega) (by omega)]), by rw [z_uS_ne _ _ _ (by omega), b4.1 86 (by omega) (by omega)]; exact hc1⟩
  have hW3 : zWM 110 (z_uS U2 78 2 (zI A.2.1)) AF.2.2 := b3.2.1.ag (fun k h1 h2 => z_uS_ne _ _ _ (by omega))
  obtain ⟨U4, d1, d2, d3, d4⟩ := M_isThrough_I (E := E) (fall := false) (b := 86) (by omega) hfl hR hR2 hp hn hm (hE.ft hfl fr3) (by rw [fr3.2 1 (by omega)]; exact hd) hC3 hA hby
  change _ = (if A.2.1 + 20 < (aEnd E d p rn m false A).2.1 then 0 else 1, U4) at d1
  change zRM 86 U4 (aEnd E d p rn m false A) at d3
  simp only [Bool.false_eq_true, if_false] at d1 d2
  generalize hG : aEnd E d p rn m false A = AR at *
  rw [d1]
  have fr4 : zFT U U4 := fr3.trans d4.t86
  by_cases q2 : A.2.1 + 20 < AR.2.1
  · have hno : ¬ aFine E d p rn m A := fun g => g.2.1 (by rw [hG]; exact q2)
    simp only [if_pos q2, if_true]
    unfold F_M_stays_j81 Sf_M_stays_j81 F_M_stays_j82 Sf_M_stays_j82 F_M_stays_j84 Sf_M_stays_j84
    simp only [if_true]
    obtain ⟨r, V, v1, v2, v3⟩ := back _ AR r1 r3 d3.1 (by omega) fr4 hno
    exact ⟨r, V, v1, ⟨a2, b2, d2, v2⟩, v3⟩
  simp only [if_neg q2, if_neg n10]
  have hW4 : zWM 110 U4 AF.2.2 := hW3.ag (fun k h1 h2 => d4.1 k (by omega) (by omega))
  obtain ⟨l1, l2, l3⟩ := MW_isAs_I d3.2.1 hW4
  rcases l2 with q3 | q3
  · have hno : ¬ aFine E d p rn m A := fun g => by
      have := g.2.2.1
      rw [hG, hF] at this
      have := l3.mpr this
      rw [q3] at this; exact absurd this (by decide)
    simp only [q3, if_true]
    unfold F_M_stays_j81 Sf_M_stays_j81 F_M_stays_j82 Sf_M_stays_j82 F_M_stays_j84 Sf_M_stays_j84
    simp only [if_true]
    obtain ⟨r, V, v1, v2, v3⟩ := back _ AR r1 r3 d3.1 (by omega) fr4 hno
    exact ⟨r, V, v1, ⟨a2, b2, d2, l1, v2⟩, v3⟩
  have n3 : ¬ F_MW_isAs U4 = 0 := by rw [q3]; decide
  simp only [if_neg n3]
  unfold F_M_stays_j82 Sf_M_stays_j82 F_M_stays_j84 Sf_M_stays_j84
  simp only [if_neg n10, d3.1.size]
  by_cases q4 : 800 < AR.2.1
  · have hno : ¬ aFine E d p rn m A := fun g => by have := g.2.2.2; rw [hG] at this; omega
    have m4 : (800 : Int32) < zI AR.2.1 := by rw [show (800 : Int32) = zI 800 from rfl, zI_lt (by omega) (by omega)]; exact q4
    simp only [if_pos m4]
    obtain ⟨r, V, v1, v2, v3⟩ := back _ AR r1 r3 d3.1 (by omega) fr4 hno
    exact ⟨r, V, v1, ⟨a2, b2, d2, l1, v2⟩, v3⟩
  · have m4 : ¬ (800 : Int32) < zI AR.2.1 := by rw [show (800 : Int32) = zI 800 from rfl, zI_lt (by omega) (by omega)]; exact q4
    have hyes : aFine E d p rn m A := ⟨by rw [hF]; exact q1, by rw [hG]; exact q2, by rw [hG, hF]; exact l3.mp q3, by rw [hG]; omega⟩
    simp only [if_neg m4]
    unfold F_M_stays_j104 Sf_M_stays_j104
    simp only [if_neg n10]
    exact ⟨1, U4, rfl, ⟨a2, b2, d2, l1, rfl, trivial⟩, fr4, fun _ => ⟨rfl, d3⟩, fun g => absurd hyes g⟩
/-! without triggers there is nothing to go through -/
def aQuiet (m : Nat) (A : zA) : Prop := ∀ i, m ≤ i → i < A.2.1 → (A.1 i).1.1 ≠ 1 ∧ ((A.1 i).1.1 = 2 → 4 ≤ (A.1 i).1.2.2.1)
theorem aCause_quiet {E : Nat → Nat → Int32} {e : zEnt} {r : Nat} (hr : zRule E r) (he : zEok e) (h1 : e.1 ≠ 1) (h2 : e.1 = 2 → 4 ≤ e.2.2.1) : aCause E e r = false := by
  obtain ⟨-, ht, -⟩ := hr
  unfold aCause
  rcases ht with t1 | ⟨t1, t2, t3⟩ | ⟨t1, t2, t3⟩
  · rw [if_pos t1]; simp [h1]
  · rw [t1, if_neg (by decide), if_pos rfl]
    apply decide_eq_false
    intro g
    have := h2 g.1
    omega
  · rw [t1, if_neg (by decide), if_neg (by decide)]
    apply decide_eq_false
    intro g
    have h4 := h2 g.1
    obtain ⟨x, hx, ex⟩ := zI_ex (n := 3) t2 (by omega) (by omega)
    rw [ex, show (1 : Int32) = zI 1 from rfl, zI_add] at g
    have h9 : e.2.2.1 < 9 := by rcases he with t | t | t | t <;> omega
    have := (zI_inj (by omega) (by omega)).mp g.2
    omega
theorem aRule_quiet {E : Nat → Nat → Int32} {d p lim r : Nat} {e : zEnt} {A : zA} (h : aWoken E A.2.2 e r = false) : aRule E d p lim e r A = A := by
  unfold aRule
  have : ∀ n j, aL E d p lim r (fun j => aWoken E A.2.2 e r && aTg A.2.2 (E 62 r) e.2.1 j) n j A = A := by
    intro n
    induction n with
    | zero => intro j; rfl
    | succ n ih =>
      intro j
      unfold aL
      split
      · rfl
      · simp only [h, Bool.false_and, Bool.false_eq_true, if_false]
        simpa [h] using ih (j + 1)
  exact this 30 0
theorem aGo_quiet {E : Nat → Nat → Int32} {d p lim rn m : Nat} {fall : Bool} (hR : zRuOk E rn) {A : zA} (hA : zOk d A) (hq : aQuiet m A) : ∀ f k, m ≤ k → aGo E d p lim rn fall f k A = A := by
  intro f
  induction f with
  | zero => intro k _; rfl
  | succ f ih =>
    intro k hk
    unfold aGo
    split
    · rfl
    · rename_i q
      have hkn : k < A.2.1 := by omega
      have : ∀ n, n ≤ rn → aWake E d p lim rn fall (A.1 k).1 n A = A := by
        intro n
        induction n with
        | zero => intro _; rfl
        | succ n ihn =>
          intro hn
          unfold aWake
          rw [aRule_quiet]
          · exact ihn (by omega)
          · have hr := hR.2.2 (if fall = true then n else rn - (n + 1)) (by split <;> omega)
            unfold aWoken
            rw [aCause_quiet hr (hA.w k hkn).1 (hq k hk hkn).1 (hq k hk hkn).2]
            rfl
      rw [this rn (Nat.le_refl _)]
      exact ih (k + 1) (by omega)
theorem aEnd_quiet {E : Nat → Nat → Int32} {d p rn m : Nat} {fall : Bool} (hR : zRuOk E rn) {A : zA} (hA : zOk d A) (hq : aQuiet m A) : aEnd E d p rn m fall A = A := aGo_quiet hR hA hq _ _ (Nat.le_refl _)
theorem aFine_quiet {E : Nat → Nat → Int32} {d p rn m : Nat} (hR : zRuOk E rn) {A : zA} (hA : zOk d A) (hq : aQuiet m A) : aFine E d p rn m A ↔ A.2.1 ≤ 800 := by
  unfold aFine
  rw [aEnd_quiet hR hA hq, aEnd_quiet hR hA hq]
  exact ⟨fun h => h.2.2.2, fun h => ⟨by omega, by omega, zSame.refl _, h⟩⟩
