/-! PURE: taken back, pushed, changed -/
/-- what the class's world is, when the last entries are undone one by one -/
def zBkw (L : zLg) (n : Nat) (w : zWd) : Nat → zWd
  | 0 => w
  | d + 1 => zUnd (L (n - 1 - d)).1 (zBkw L n w d)
theorem zBkw_same {L : zLg} {n : Nat} {w : zWd} (hW : zLgW L n) (h : zSame (zRep L n) w) : ∀ d, d ≤ n → zSame (zRep L (n - d)) (zBkw L n w d) := by
  intro d
  induction d with
  | zero => intro _; exact h
  | succ d ih =>
    intro hd
    have i1 := ih (by omega)
    obtain ⟨g1, g2, -⟩ := hW (n - 1 - d) (by omega)
    have e : n - d = (n - 1 - d) + 1 := by omega
    rw [e] at i1
    have i2 := zUnd_cong i1 (L (n - 1 - d)).1
    have i3 : zSame (zRep L (n - 1 - d)) (zUnd (L (n - 1 - d)).1 (zRep L (n - 1 - d + 1))) := zUnd_same g1.lt g2
    rw [show n - (d + 1) = n - 1 - d by omega]
    exact i3.trans i2
/-- the entries from one on, done to a world -/
def zFwd (L : zLg) (m : Nat) (w : zWd) : Nat → zWd
  | 0 => w
  | d + 1 => zApp (L (m + d)).1 (zFwd L m w d)
theorem zFwd_back {L : zLg} {m : Nat} {w : zWd} {d : Nat} (h : ∀ j, j < d → (L (m + j)).1.1 < 4 ∧ (L (m + j)).1.1 ≠ 1 ∧ zOld (L (m + j)).1 (zFwd L m w j)) : ∀ e, e ≤ d → zBkw L (m + d) (zFwd L m w d) e = zFwd L m w (d - e) := by
  intro e
  induction e with
  | zero => intro _; rfl
  | succ e ih =>
    intro he
    show zUnd (L (m + d - 1 - e)).1 (zBkw L (m + d) (zFwd L m w d) e) = _
    rw [ih (by omega), show m + d - 1 - e = m + (d - 1 - e) by omega, show d - e = (d - 1 - e) + 1 by omega]
    obtain ⟨h1, h2, h3⟩ := h (d - 1 - e) (by omega)
    show zUnd (L (m + (d - 1 - e))).1 (zApp (L (m + (d - 1 - e))).1 (zFwd L m w (d - 1 - e))) = _
    rw [zUnd_app h1 h2 h3, show d - (e + 1) = d - 1 - e by omega]
theorem T_takeBack_L {L : zLg} {n m : Nat} {w : zWd} (hn : n ≤ 900) (hm : m ≤ n) (hW : ∀ i, i < n → zEok (L i).1) : ∀ (d f : Nat) (S : Nat → Nat → Int32) (e : Nat), e + d = n - m → d < f → zLgC L n S → zWC 9 S (zBkw L n w e) → ∀ x : Int32, x.toInt = (n : Int) - 1 - e →
    ∃ V, F_T_takeBack_L10 (zI m) f S x = V ∧ Sf_T_takeBack_L10 (zI m) f S x ∧ zLgC L n V ∧ zWC 9 V (zBkw L n w (n - m)) ∧ (∀ k, (k < 9 ∨ 12 < k) → V k = S k) ∧ ∀ j, j ≠ 3 → V 9 j = S 9 j := by
  intro d
  induction d with
  | zero =>
    intro f S e he hf hL hw x hx
    obtain ⟨f, rfl⟩ : ∃ g, f = g + 1 := ⟨f - 1, by omega⟩
    have hl : x < zI m := by rw [T_lt, zI_toInt (by omega), hx]; omega
    refine ⟨S, ?_, ?_, hL, ?_, fun _ _ => rfl, fun _ _ => rfl⟩
    · unfold F_T_takeBack_L10; rw [if_pos hl]
    · unfold Sf_T_takeBack_L10; rw [if_pos hl]; trivial
    · rw [show n - m = e by omega]; exact hw
  | succ d ih =>
    intro f S e he hf hL hw x hx
    obtain ⟨f, rfl⟩ : ∃ g, f = g + 1 := ⟨f - 1, by omega⟩
    have hx2 : x = zI (n - 1 - e) := by
      apply Int32.toInt_inj.mp
      rw [zI_toInt (by omega), hx]; omega
    have hl : ¬ x < zI m := by rw [T_lt, zI_toInt (by omega), hx]; omega
    obtain ⟨A, a1, a2, a3, a4, a5⟩ := World_undo_I hw (i := n - 1 - e) (by omega) (hL.ent _ (by omega)) (hW _ (by omega))
    have hxm : (x + (-1)).toInt = (n : Int) - 1 - ((e + 1 : Nat) : Int) := by
      rw [i_add (by rw [hx, show ((-1 : Int32)).toInt = -1 from rfl]; omega) (by rw [hx, show ((-1 : Int32)).toInt = -1 from rfl]; omega), hx, show ((-1 : Int32)).toInt = -1 from rfl]; omega
    obtain ⟨V, v1, v2, v3, v4, v5, v6⟩ := ih f A (e + 1) (by omega) (by omega) (hL.ag (by rw [a4 1 (by omega)]) (fun k h1 h2 => a4 k (by omega))) a3 (x + (-1)) hxm
    rw [← hx2] at a1 a2
    refine ⟨V, ?_, ?_, v3, v4, fun k hk => by rw [v5 k hk, a4 k (by omega)], fun j hj => by rw [v6 j hj, a5 j hj]⟩
    · unfold F_T_takeBack_L10; simp only [if_neg hl, z_let, a1]; exact v1
    · unfold Sf_T_takeBack_L10; simp only [if_neg hl, z_let, a1]; exact ⟨a2, v2⟩
theorem T_takeBack_I {L : zLg} {n m : Nat} {w : zWd} (hn : n ≤ 900) (hm : m ≤ n) (hW : ∀ i, i < n → zEok (L i).1) {S : Nat → Nat → Int32} (hL : zLgC L n S) (hw : zWC 9 S w) : ∃ V, F_T_takeBack S (zI m) = V ∧ Sf_T_takeBack S (zI m) ∧ zLgC L m V ∧ zWC 9 V (zBkw L n w (n - m)) ∧ (∀ k, k ≠ 1 → (k < 9 ∨ 12 < k) → V k = S k) ∧ (∀ j, j ≠ 7 → V 1 j = S 1 j) ∧ ∀ j, j ≠ 3 → V 9 j = S 9 j := by
  have hx : (zI n - 1).toInt = (n : Int) - 1 - ((0 : Nat) : Int) := by
    by_cases h0 : n = 0
    · subst h0; rfl
    · rw [show (1 : Int32) = zI 1 from rfl, zI_sub (by omega) (by omega), zI_toInt (by omega)]; omega
  obtain ⟨V, v1, v2, v3, v4, v5, v6⟩ := T_takeBack_L (L := L) (w := w) hn hm hW (n - m) 1300 S 0 (by omega) (by omega) hL hw (zI n - 1) hx
  have hmin : F_Math_min V (V 1 7) (zI m) = zI m := by
    unfold F_Math_min
    rw [v3.size]
    by_cases h : zI m < zI n
    · rw [if_pos h]
    · rw [if_neg h]
      rw [zI_lt (by omega) (by omega)] at h
      rw [show n = m by omega]
  refine ⟨z_uS V 1 7 (zI m), ?_, ?_, ⟨uS_at _ _ _ _, fun i hi => ?_⟩, v4.ag (by rw [z_uS_ne _ _ _ (by omega)]) (z_uS_ne _ _ _ (by omega)) (z_uS_ne _ _ _ (by omega)) (z_uS_ne _ _ _ (by omega)), fun k h1 h2 => by rw [z_uS_ne _ _ _ h1, v5 k h2], fun j hj => by rw [uS_nj _ _ _ hj, v5 1 (by omega)], fun j hj => by rw [z_uS_ne _ _ _ (by omega), v6 j hj]⟩
  · unfold F_T_takeBack; simp only [hL.size, v1, hmin]
  · unfold Sf_T_takeBack; rw [hL.size]; exact ⟨v2, trivial⟩
  · have := v3.2 i (by omega)
    unfold zLC at this ⊢
    rw [z_uS_ne _ _ _ (show (2 : Nat) ≠ 1 by omega), z_uS_ne _ _ _ (show (3 : Nat) ≠ 1 by omega), z_uS_ne _ _ _ (show (4 : Nat) ≠ 1 by omega), z_uS_ne _ _ _ (show (5 : Nat) ≠ 1 by omega), z_uS_ne _ _ _ (show (6 : Nat) ≠ 1 by omega), z_uS_ne _ _ _ (show (7 : Nat) ≠ 1 by omega), z_uS_ne _ _ _ (show (8 : Nat) ≠ 1 by omega)]
    exact this
/-- one more entry -/
def zPush (L : zLg) (n : Nat) (e : zEnt) (d p : Nat) : zLg := fun i => if i = n then (e, d, p) else L i
theorem zPush_n (L : zLg) (n : Nat) (e : zEnt) (d p : Nat) : zPush L n e d p n = (e, d, p) := if_pos rfl
theorem zPush_lt {L : zLg} {n i : Nat} {e : zEnt} {d p : Nat} (h : i < n) : zPush L n e d p i = L i := if_neg (by omega)
theorem zRep_eq {L L' : zLg} {n : Nat} (h : ∀ i, i < n → L' i = L i) : zRep L' n = zRep L n ∧ zCnt L' n = zCnt L n := by
  induction n with
  | zero => exact ⟨rfl, rfl⟩
  | succ n ih =>
    obtain ⟨i1, i2⟩ := ih (fun i hi => h i (by omega))
    constructor
    · show zApp (L' n).1 (zRep L' n) = zApp (L n).1 (zRep L n)
      rw [h n (by omega), i1]
    · rw [zCnt_s, zCnt_s, h n (by omega), i2]
theorem zLgW.eq {L L' : zLg} {n : Nat} (h : zLgW L n) (e : ∀ i, i < n → L' i = L i) : zLgW L' n := by
  intro i hi
  obtain ⟨r1, r2⟩ := zRep_eq (L := L) (L' := L') (n := i) (fun j hj => e j (by omega))
  rw [e i hi, r1, r2]
  exact h i hi
theorem zLgC.eq {L L' : zLg} {n : Nat} {S : Nat → Nat → Int32} (h : zLgC L n S) (e : ∀ i, i < n → L' i = L i) : zLgC L' n S := ⟨h.1, fun i hi => by rw [e i hi]; exact h.2 i hi⟩
theorem zLgM.eq {L L' : zLg} {n : Nat} {S : Nat → Nat → Int32} (h : zLgM L n S) (e : ∀ i, i < n → L' i = L i) : zLgM L' n S := ⟨h.1, fun i hi => by rw [e i hi]; exact h.2 i hi⟩
theorem zLgW.push {L : zLg} {n : Nat} (h : zLgW L n) {e : zEnt} {d p : Nat} (he : zEok e) (ho : zOld e (zRep L n)) (hc : e.1 = 1 → e.2.1 = zCnt L n) (hd : d ≤ 400) (hp : p < 8) : zLgW (zPush L n e d p) (n + 1) := by
  intro i hi
  by_cases hin : i = n
  · subst hin
    obtain ⟨r1, r2⟩ := zRep_eq (L := L) (L' := zPush L i e d p) (n := i) (fun j hj => zPush_lt hj)
    rw [zPush_n, r1, r2]
    exact ⟨he, ho, hc, hd, hp⟩
  · exact (h.eq (L' := zPush L n e d p) (fun j hj => zPush_lt hj)) i (by omega)
theorem zRep_push (L : zLg) (n : Nat) (e : zEnt) (d p : Nat) : zRep (zPush L n e d p) (n + 1) = zApp e (zRep L n) ∧ zCnt (zPush L n e d p) (n + 1) = if e.1 = 1 then e.2.1 + 1 else zCnt L n := by
  obtain ⟨r1, r2⟩ := zRep_eq (L := L) (L' := zPush L n e d p) (n := n) (fun j hj => zPush_lt hj)
  constructor
  · show zApp (zPush L n e d p n).1 (zRep (zPush L n e d p) n) = _
    rw [zPush_n, r1]
  · rw [zCnt_s, zPush_n, r2]
theorem Log_add_I {L : zLg} {n : Nat} {S : Nat → Nat → Int32} (h : zLgC L n S) (hn : n < 900) (e : zEnt) (d p : Nat) : ∃ V, F_Log_add S (zI d) (zI p) (eI e) (eW e) (eO e) (eB e) (eA e) = V ∧ Sf_Log_add S (zI d) (zI p) (eI e) (eW e) (eO e) (eB e) (eA e) ∧ zLgC (zPush L n e d p) (n + 1) V ∧ (∀ k, (k < 1 ∨ 8 < k) → V k = S k) ∧ ∀ j, j ≠ 7 → V 1 j = S 1 j := by
  have hcl : (zI n).toNatClampNeg = n := zI_clamp (by omega)
  have vin : vp_in (zI n) 900 := vp_in_I hn (by omega)
  have n9 : ¬ (900 : Int32) ≤ zI n := by rw [show (900 : Int32) = zI 900 from rfl, zI_le (by omega) (by omega)]; omega
  unfold F_Log_add Sf_Log_add
  simp only [h.size, if_neg (zI_n0 (show n < 2147483648 by omega)), if_neg n9, hcl, zI_succ]
  generalize hV : z_uS (z_uS (z_uS (z_uS (z_uS (z_uS (z_uS (z_uS S 2 n (zI d)) 3 n (zI p)) 4 n (eI e)) 5 n (eW e)) 6 n (eO e)) 7 n (eB e)) 8 n (eA e)) 1 7 (zI (n + 1)) = V
  have g1 : V 1 = upd (S 1) 7 (zI (n + 1)) := by rw [← hV]; simp [z_uS]
  have g2 : V 2 = upd (S 2) n (zI d) := by rw [← hV]; simp [z_uS]
  have g3 : V 3 = upd (S 3) n (zI p) := by rw [← hV]; simp [z_uS]
  have g4 : V 4 = upd (S 4) n (eI e) := by rw [← hV]; simp [z_uS]
  have g5 : V 5 = upd (S 5) n (eW e) := by rw [← hV]; simp [z_uS]
  have g6 : V 6 = upd (S 6) n (eO e) := by rw [← hV]; simp [z_uS]
  have g7 : V 7 = upd (S 7) n (eB e) := by rw [← hV]; simp [z_uS]
  have g8 : V 8 = upd (S 8) n (eA e) := by rw [← hV]; simp [z_uS]
  refine ⟨V, rfl, ⟨vin, vin, vin, vin, vin, vin, vin, trivial⟩, ⟨by rw [g1]; simp [upd], fun i hi => ?_⟩, fun k hk => ?_, fun j hj => by rw [g1]; simp [upd, hj]⟩
  · unfold zLC
    rw [g2, g3, g4, g5, g6, g7, g8]
    by_cases hin : i = n
    · subst hin; simp [upd, zPush_n]
    · rw [zPush_lt (by omega)]
      simp only [upd, if_neg hin]
      exact h.2 i (by omega)
  · rw [← hV]
    rw [z_uS_ne _ _ _ (by omega), z_uS_ne _ _ _ (by omega), z_uS_ne _ _ _ (by omega), z_uS_ne _ _ _ (by omega), z_uS_ne _ _ _ (by omega), z_uS_ne _ _ _ (by omega), z_uS_ne _ _ _ (by omega), z_uS_ne _ _ _ (by omega)]
theorem M_make_I {b n : Nat} {L : zLg} {U : Nat → Nat → Int32} {w : zWd} (hb : 86 ≤ b) (hL : zLgM L n U) (hn : n < 1200) (hw : zWM b U w) {d : Nat} (hd : U 78 1 = zI d) {e : zEnt} (he : zEok e) (p : Nat) : ∃ V, F_M_make b U (mK e) (zI p) (mI e) (mW e) (mO e) (mN e) = V ∧ Sf_M_make b U (mK e) (zI p) (mI e) (mW e) (mO e) (mN e) ∧ zLgM (zPush L n e d p) (n + 1) V ∧ zWM b V (zApp e w) ∧ (∀ k, (k < 78 ∨ 85 < k ∧ k < b ∨ b + 11 < k) → V k = U k) ∧ (∀ j, j ≠ 2 → V 78 j = U 78 j) ∧ (∀ j, j ≠ 0 → V b j = U b j) ∧ V b 0 = if e.1 = 1 then (if zI e.2.1 < U b 0 then U b 0 else zI (e.2.1 + 1)) else U b 0 := by
  have hcl : (zI n).toNatClampNeg = n := zI_clamp (by omega)
  have vin : vp_in (zI n) 1200 := vp_in_I hn (by omega)
  unfold F_M_make Sf_M_make
  simp only [hL.size, hd, hcl, zI_succ, z_let]
  generalize hA : z_uS (z_uS (z_uS (z_uS (z_uS (z_uS (z_uS (z_uS U 79 n (mK e)) 80 n (zI d)) 81 n (zI p)) 82 n (mI e)) 83 n (mW e)) 84 n (mO e)) 85 n (mN e)) 78 2 (zI (n + 1)) = A
  have g1 : A 78 = upd (U 78) 2 (zI (n + 1)) := by rw [← hA]; simp [z_uS]
  have g2 : A 79 = upd (U 79) n (mK e) := by rw [← hA]; simp [z_uS]
  have g3 : A 80 = upd (U 80) n (zI d) := by rw [← hA]; simp [z_uS]
  have g4 : A 81 = upd (U 81) n (zI p) := by rw [← hA]; simp [z_uS]
  have g5 : A 82 = upd (U 82) n (mI e) := by rw [← hA]; simp [z_uS]
  have g6 : A 83 = upd (U 83) n (mW e) := by rw [← hA]; simp [z_uS]
  have g7 : A 84 = upd (U 84) n (mO e) := by rw [← hA]; simp [z_uS]
  have g8 : A 85 = upd (U 85) n (mN e) := by rw [← hA]; simp [z_uS]
  have gout : ∀ k, (k < 78 ∨ 85 < k) → A k = U k := fun k hk => by
    rw [← hA, z_uS_ne _ _ _ (by omega), z_uS_ne _ _ _ (by omega), z_uS_ne _ _ _ (by omega), z_uS_ne _ _ _ (by omega), z_uS_ne _ _ _ (by omega), z_uS_ne _ _ _ (by omega), z_uS_ne _ _ _ (by omega), z_uS_ne _ _ _ (by omega)]
  obtain ⟨V, v1, v2, v3, v4, v5, v6⟩ := MW_does_I (hw.ag (fun k h1 h2 => gout k (by omega))) he
  refine ⟨V, v1, ⟨vin, vin, vin, vin, vin, vin, vin, v2, trivial⟩, ⟨?_, fun i hi => ?_⟩, v3, fun k hk => by rw [v4 k (by omega), gout k (by omega)], fun j hj => by rw [v4 78 (by omega), g1]; simp [upd, hj], fun j hj => by rw [v5 j hj, gout b (by omega)], by rw [v6, gout b (by omega)]⟩
  · rw [v4 78 (by omega), g1]; simp [upd]
  · unfold zLM
    rw [v4 79 (by omega), v4 80 (by omega), v4 81 (by omega), v4 82 (by omega), v4 83 (by omega), v4 84 (by omega), v4 85 (by omega), g2, g3, g4, g5, g6, g7, g8]
    by_cases hin : i = n
    · subst hin; simp [upd, zPush_n]
    · rw [zPush_lt (by omega)]
      simp only [upd, if_neg hin]
      exact hL.2 i (by omega)
