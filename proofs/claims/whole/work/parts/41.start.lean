/-! THE LAW's BEGINNING: both made, and the steady world -/
theorem zT_self {T' : Nat → Nat × Nat} (h : (List.range 13).all (fun i => (List.range 16).all fun j => match (zT0.getD i [])[j]? with | some s => decide (s = T' (16 * i + j)) | none => true) = true) : zT T' = T' := by
  funext k
  unfold zT
  cases hk : (zT0.getD (k / 16) [])[k % 16]? with
  | none => rfl
  | some s =>
    by_cases h13 : k / 16 < 13
    · have h1 := List.all_eq_true.mp (List.all_eq_true.mp h (k / 16) (List.mem_range.mpr h13)) (k % 16) (List.mem_range.mpr (Nat.mod_lt _ (by decide)))
      rw [hk] at h1
      have h2 : s = T' (16 * (k / 16) + k % 16) := by simpa using h1
      rw [h2, Nat.div_add_mod]
    · have hl : zT0.length = 13 := by decide +kernel
      have e : zT0[k / 16]? = none := List.getElem?_eq_none (by omega)
      rw [List.getD_eq_getElem?_getD, e] at hk
      exact absurd hk (by simp)
theorem zG_self {G' : Nat → Nat → Option Nat} (h : (List.range 13).all (fun i => (List.range 16).all fun j => (List.range 64).all fun s => match ((zG0.getD i []).getD j []).getD s none with | some v => decide (G' (16 * i + j) s = some v) | none => true) = true)
    (hl : (List.range 13).all (fun i => decide ((zG0.getD i []).length ≤ 16) && (List.range 16).all fun j => decide (((zG0.getD i []).getD j []).length ≤ 64)) = true) : zG G' = G' := by
  funext k s
  unfold zG
  cases hk : ((zG0.getD (k / 16) []).getD (k % 16) []).getD s none with
  | none => rfl
  | some v =>
    by_cases h13 : k / 16 < 13
    · have hm : k % 16 < 16 := Nat.mod_lt _ (by decide)
      have hlen := (Bool.and_eq_true _ _ ▸ List.all_eq_true.mp hl (k / 16) (List.mem_range.mpr h13)).2
      have hlen2 := of_decide_eq_true (List.all_eq_true.mp hlen (k % 16) (List.mem_range.mpr hm))
      by_cases h64 : s < 64
      · have h1 := List.all_eq_true.mp (List.all_eq_true.mp (List.all_eq_true.mp h (k / 16) (List.mem_range.mpr h13)) (k % 16) (List.mem_range.mpr hm)) s (List.mem_range.mpr h64)
        rw [hk] at h1
        have h2 : G' (16 * (k / 16) + k % 16) s = some v := by simpa using h1
        rw [Nat.div_add_mod] at h2
        exact h2.symm
      · have e : ((zG0.getD (k / 16) []).getD (k % 16) [])[s]? = none := List.getElem?_eq_none (by omega)
        rw [List.getD_eq_getElem?_getD, e] at hk
        exact absurd hk (by simp)
    · have hl13 : zG0.length = 13 := by decide +kernel
      have e : zG0[k / 16]? = none := List.getElem?_eq_none (by omega)
      rw [List.getD_eq_getElem?_getD (l := zG0), e] at hk
      exact absurd hk (by simp)
def fl0 : Nat → Nat := fun k => 132 + 8 * k
def S0 : Nat → Nat → Int32 := Wc_443.2.2.1
theorem zT_start : zT Wc_443.1 = Wc_443.1 := zT_self (by decide +kernel)
theorem zG_start : zG Wc_443.2.1 = Wc_443.2.1 := zG_self (by decide +kernel) (by decide +kernel)
theorem zG_36 : zG Wc_443.2.1 36 7 = some 50 := by rw [zG_start]; decide +kernel
theorem zW_start : zW Wc_443.1 (zwG Wc_443.2.1 50) S0 194 = Wc_443 := by
  show (zT Wc_443.1, zG (zwG Wc_443.2.1 50), S0, 194) = Wc_443
  rw [zwG_self zG_36, zT_start, zG_start, ← Wn_443]
  rfl
theorem zOK_start : zOK Wc_443.1 (zwG Wc_443.2.1 50) fl0 194 := by
  refine ⟨Nat.le_refl _, fun k hk => ?_⟩
  rw [show zG (zwG Wc_443.2.1 50) 131 k = Wc_443.2.1 131 k by rw [zwG_self zG_36, zG_start]]
  have h3 : k = 0 ∨ k = 1 ∨ k = 2 := by omega
  rcases h3 with rfl | rfl | rfl
  · exact ⟨by decide +kernel, zFo_st _ _ _ (by decide), by decide⟩
  · exact ⟨by decide +kernel, zFo_st _ _ _ (by decide), by decide⟩
  · exact ⟨by decide +kernel, zFo_st _ _ _ (by decide), by decide⟩
theorem law_start {Inv : Nat → (Nat → Nat) → (Nat → Nat → Int32) → Prop} (hI : zSteps Inv) (h0 : Inv 0 fl0 S0) {X : z_X} (C : z_C X zm_law) (hrm : X.2.2.2.1 = room_1) (L : Nat) (hL : (zbX X).2.1 = L) (hL2 : L ≤ 3584)
    (hend : ∀ (T' : Nat → Nat × Nat) (G' : Nat → Nat → Option Nat) (S : Nat → Nat → Int32) (i : Int32) (n nc ns : Nat), nc ≤ 601024 → ns ≤ 7293034 → z_G X zm_law (3318, zLV i, [], zW T' G' S n, nc, ns)) : z_G X zm_law (0, [(0, z_s)], [], Wc_0, 0, 0) := by
  refine z_newC (idx := 8) (n := 0) (ci := 11) (r := (RX11, TX11, 16)) (w' := Wc_1) Wn_0 rfl C (by decide +kernel) hrm rfl (z_wi 178 (by decide +kernel) rfl) (z_wi 179 (by decide +kernel) rfl) (z_wi 153 (by decide +kernel) rfl) (by decide) (by decide) ?_
  refine z_go2 C 3 [(.dup, 1)] (4, [(0, z_s)], [z_r 0, z_r 0], Wc_1, 1, 16) (by decide +kernel) rfl ⟨rfl, trivial⟩ ?_
  refine z_callI C (av := []) (st := [z_r 0]) (a := 0) (by decide +kernel) ci_1_T_init hrm zl_L_146 rfl rfl zi_T_init ⟨by decide, by decide, by decide, by decide⟩ rfl (Nat.le_of_ble_eq_true rfl) (fun v w' hv => ?_)
  obtain ⟨rfl, rfl⟩ := hv
  show z_G X zm_law (7, [(0, z_s)], [z_r 0], Wc_186, 78, 10982)
  refine z_go2 C 7 [(.astore_n 1, 1)] (8, [(1, z_r 0), (0, z_s)], [], Wc_186, 78, 10982) (by decide +kernel) rfl ⟨trivial, trivial⟩ ?_
  refine z_newC (idx := 147) (n := 78) (ci := 14) (r := (RX14, TX14, 62)) (w' := Wc_187) Wn_186 rfl C (by decide +kernel) hrm rfl (z_wi 1510 (by decide +kernel) rfl) (z_wi 1511 (by decide +kernel) rfl) (z_wi 166 (by decide +kernel) rfl) (by decide) (by decide) ?_
  refine z_go2 C 11 [(.dup, 1)] (12, [(1, z_r 0), (0, z_s)], [z_r 78, z_r 78], Wc_187, 79, 11044) (by decide +kernel) rfl ⟨rfl, trivial⟩ ?_
  refine z_callI C (av := []) (st := [z_r 78]) (a := 78) (by decide +kernel) ci_187_M_init hrm zl_L_149 rfl rfl zi_M_init ⟨by decide, by decide, by decide, by decide⟩ rfl (Nat.le_of_ble_eq_true rfl) (fun v w' hv => ?_)
  obtain ⟨rfl, rfl⟩ := hv
  show z_G X zm_law (15, [(1, z_r 0), (0, z_s)], [z_r 78], Wc_442, 193, 39206)
  refine z_go2 C 15 [(.astore_n 2, 1), (.iconst 1, 1)] (17, [(2, z_r 78), (1, z_r 0), (0, z_s)], [.inl 1], Wc_442, 193, 39206) (by decide +kernel) rfl ⟨trivial, trivial, trivial⟩ ?_
  refine z_newaC (n := 193) (aty := .long) (N := 1) (w' := Wc_443) Wn_442 rfl C (by decide +kernel) hrm (z_wi 2274 (by decide +kernel) rfl) (by decide) (by decide) (by decide) (by decide) (by decide) ?_
  refine z_go2 C 19 [(.astore_n 3, 1), (.iconst 0, 1), (.istore 4, 2)] (23, [(4, .inl 0), (3, z_r 193), (2, z_r 78), (1, z_r 0), (0, z_s)], [], Wc_443, 194, 39207) (by decide +kernel) rfl ⟨trivial, trivial, trivial, trivial⟩ ?_
  refine z_lvs (lv' := zLV (nI (7 * 0))) [4, 3, 2, 1, 0] rfl ?_
  have h := law_loop hI C hrm L hL hL2 hend 512 0 rfl (by omega) Wc_443.1 Wc_443.2.1 50 fl0 S0 194 zOK_start h0
  rw [zW_start] at h
  exact h
