/-! THE RUN -/
theorem zT_self {T' : Nat → Nat × Nat} (h : (List.range 6).all (fun i => (List.range 16).all fun j => match (zT0.getD i [])[j]? with | some s => decide (s = T' (16 * i + j)) | none => true) = true) : zT T' = T' := by
  funext k
  unfold zT
  cases hk : (zT0.getD (k / 16) [])[k % 16]? with
  | none => rfl
  | some s =>
    by_cases h13 : k / 16 < 6
    · have h1 := List.all_eq_true.mp (List.all_eq_true.mp h (k / 16) (List.mem_range.mpr h13)) (k % 16) (List.mem_range.mpr (Nat.mod_lt _ (by decide)))
      rw [hk] at h1
      have h2 : s = T' (16 * (k / 16) + k % 16) := by simpa using h1
      rw [h2, Nat.div_add_mod]
    · have hl : zT0.length = 6 := by decide +kernel
      have e : zT0[k / 16]? = none := List.getElem?_eq_none (by omega)
      rw [List.getD_eq_getElem?_getD, e] at hk
      exact absurd hk (by simp)
theorem zG_self {G' : Nat → Nat → Option Nat} (h : (List.range 6).all (fun i => (List.range 16).all fun j => (List.range 64).all fun s => match ((zG0.getD i []).getD j []).getD s none with | some v => decide (G' (16 * i + j) s = some v) | none => true) = true)
    (hl : (List.range 6).all (fun i => decide ((zG0.getD i []).length ≤ 16) && (List.range 16).all fun j => decide (((zG0.getD i []).getD j []).length ≤ 64)) = true) : zG G' = G' := by
  funext k s
  unfold zG
  cases hk : ((zG0.getD (k / 16) []).getD (k % 16) []).getD s none with
  | none => rfl
  | some v =>
    by_cases h13 : k / 16 < 6
    · have hm : k % 16 < 16 := Nat.mod_lt _ (by decide)
      have hlen := (Bool.and_eq_true _ _ ▸ List.all_eq_true.mp hl (k / 16) (List.mem_range.mpr h13)).2
      have hlen2 := of_decide_eq_true (List.all_eq_true.mp hlen (k % 16) (List.mem_range.mpr hm))
      by_cases h64 : s < 64
      · have h1 := List.all_eq_true.mp (List.all_eq_true.mp (List.all_eq_true.mp h (k / 16) (List.mem_range.mpr h13)) (k % 16) (List.mem_range.mpr hm)) s (List.mem_range.mpr h64)
        rw [hk] at h1
        have h2 : G' (16 * (k / 16) + k % 16) s = some v := by simpa using h1
        rw [Nat.div_add_mod] at h2
        exact h2.symm
      · have e : ((zG0.getD (k / 16) []).getD (k % 16) [])[s]? = none := List.getElem?_eq_none (by omega)
        rw [List.getD_eq_getElem?_getD, e] at hk
        exact absurd hk (by simp)
    · have hl13 : zG0.length = 6 := by decide +kernel
      have e : zG0[k / 16]? = none := List.getElem?_eq_none (by omega)
      rw [List.getD_eq_getElem?_getD (l := zG0), e] at hk
      exact absurd hk (by simp)

theorem zT_start : zT Wc_193.1 = Wc_193.1 := zT_self (by decide +kernel)
theorem zG_start : zG Wc_193.2.1 = Wc_193.2.1 := zG_self (by decide +kernel) (by decide +kernel)
theorem zG_36 : zG Wc_193.2.1 36 7 = some 50 := by rw [zG_start]; decide +kernel
theorem zwG_self {G2 : Nat → Nat → Option Nat} {q : Nat} (h : zG G2 36 7 = some q) : zG (zwG G2 q) = zG G2 := by
  funext k
  by_cases hk : k = 36
  · subst hk
    funext j
    by_cases hj : j = 7
    · subst hj; rw [h]; rfl
    · unfold zG
      have : zwG G2 q 36 j = G2 36 j := by simp [zwG, hj]
      rw [this]
  · funext j
    unfold zG
    have : zwG G2 q k j = G2 k j := by simp [zwG, hk]
    rw [this]
theorem zW_start : zW Wc_193.1 (zwG Wc_193.2.1 50) m_0 85 = Wc_193 := by
  show (zT Wc_193.1, zG (zwG Wc_193.2.1 50), m_0, 85) = Wc_193
  rw [zwG_self zG_36, zT_start, zG_start, ← Wn_193]
  rfl
theorem z_pair {α β : Type} {x : α × β} {a : α} {b : β} (h : x.1 = a) (g : x.2 = b) : x = (a, b) := by rw [← h, ← g]
theorem q_2 : (F_T_kind m_1 0 7 1 1).2 = m_2 := by delta m_2; exact Eq.refl _
theorem p_2 : F_T_kind m_1 0 7 1 1 = (.inr (), m_2) := z_pair e_2 q_2
theorem q_3 : (F_T_draft m_2 0).2 = m_3 := by delta m_3; exact Eq.refl _
theorem p_3 : F_T_draft m_2 0 = (.inr 1, m_3) := z_pair e_3 q_3
theorem q_4 : (F_T_state m_3 1).2 = m_4 := by delta m_4; exact Eq.refl _
theorem p_4 : F_T_state m_3 1 = (.inr 3, m_4) := z_pair e_4 q_4
theorem q_5 : (F_T_state m_4 2).2 = m_5 := by delta m_5; exact Eq.refl _
theorem p_5 : F_T_state m_4 2 = (.inr 7, m_5) := z_pair e_5 q_5
theorem q_6 : (F_T_transition c_6 0 1 1 (-1) 0 0).2 = m_6 := by delta m_6; exact Eq.refl _
theorem p_6 : F_T_transition c_6 0 1 1 (-1) 0 0 = (.inr 0, m_6) := z_pair e_6 q_6
theorem q_7 : (F_T_transition c_7 1 2 1 (-1) 0 0).2 = m_7 := by delta m_7; exact Eq.refl _
theorem p_7 : F_T_transition c_7 1 2 1 (-1) 0 0 = (.inr 1, m_7) := z_pair e_7 q_7
theorem q_8 : (F_T_transition c_8 2 0 1 (-1) 0 0).2 = m_8 := by delta m_8; exact Eq.refl _
theorem p_8 : F_T_transition c_8 2 0 1 (-1) 0 0 = (.inr 2, m_8) := z_pair e_8 q_8
theorem q_9 : (F_T_publish m_8 0).2 = m_9 := by delta m_9; exact Eq.refl _
theorem p_9 : F_T_publish m_8 0 = (.inr 0, m_9) := z_pair e_9.1 q_9
theorem q_10 : (F_T_grant c_10 0 0 15).2 = m_10 := by delta m_10; exact Eq.refl _
theorem p_10 : F_T_grant c_10 0 0 15 = (.inr 0, m_10) := z_pair e_10.1 q_10
theorem q_11 : (F_T_grant c_11 1 0 0).2 = m_11 := by delta m_11; exact Eq.refl _
theorem p_11 : F_T_grant c_11 1 0 0 = (.inr 0, m_11) := z_pair e_11.1 q_11
theorem q_12 : (F_T_scheme c_12 0 0 8).2 = m_12 := by delta m_12; exact Eq.refl _
theorem p_12 : F_T_scheme c_12 0 0 8 = (.inr 255, m_12) := z_pair e_12.1 q_12
theorem q_13 : (F_T_create c_13 0 0 0).2 = m_13 := by delta m_13; exact Eq.refl _
theorem p_13 : F_T_create c_13 0 0 0 = (.inr 0, m_13) := z_pair e_13.1 q_13
theorem f_tab : (List.range 56).all (fun t => decide (t < 4) || (f_at (2 * nI t + 3) 11 && f_at (2 * nI t + 4) 3)) = true := by decide +kernel
theorem lw_turns {X : z_X} (C : z_C X zm_law) (hrm : X.2.2.2.1 = f_room) (hS : z_Scr X) {T' : Nat → Nat × Nat} {G' : Nat → Nat → Option Nat} (K : ∀ n q nc ns, 163 ≤ n → z_G X zm_law (374, zLV (nI 56), [], zW T' (zwG G' q) m_13 n, nc, ns)) :
    ∀ k t : Nat, t + k = 56 → 4 ≤ t → ∀ n q nc ns, nc ≤ 265 + 20 * t → ns ≤ 12249 + 120 * t → 89 + 4 * (t - 4) ≤ n → z_G X zm_law (374, zLV (nI t), [], zW T' (zwG G' q) m_13 n, nc, ns) := by
  intro k
  induction k with
  | zero =>
    intro t ht h4 n q nc ns h1 h2 h3
    have ht : t = 56 := by omega
    subst ht
    exact K n q nc ns (by omega)
  | succ k ih =>
    intro t ht h4 n q nc ns h1 h2 h3
    have htt : t < 56 := by omega
    have h5 := List.all_eq_true.mp f_tab t (List.mem_range.mpr htt)
    simp only [Bool.or_eq_true, Bool.and_eq_true, decide_eq_true_eq] at h5
    have h6 : f_at (2 * nI t + 3) 11 = true ∧ f_at (2 * nI t + 4) 3 = true := by
      rcases h5 with h | h
      · omega
      · exact h
    refine lw_tn C hrm hS (by omega) (by omega) m_13 m_13 (nI t) (nI_ge (b := 56) htt (by decide)) (nI_le (a := 2) (by omega) (by omega)) h6.1 h6.2 fix_13 c6_13 fix_13 reads_13 (fun n2 q2 hn2 => ?_)
    rw [nI_1]
    exact ih (t + 1) (by omega) (by omega) n2 q2 _ _ (by omega) (by omega) (by omega)
theorem law_start {X : z_X} (C : z_C X zm_law) (hrm : X.2.2.2.1 = f_room) (hS : z_Scr X)
    (hend : ∀ (T' : Nat → Nat × Nat) (G' : Nat → Nat → Option Nat) (S : Nat → Nat → Int32) (n nc ns : Nat), 163 ≤ n → z_G X zm_law (2711, zLV (nI 56), [.inl 1], zW T' G' S n, nc, ns)) : z_G X zm_law (0, [(0, z_s)], [], Wc_0, 0, 0) := by
  refine z_newC (idx := 25) (n := 0) (ci := 11) (r := (RX11, TX11, 16)) (w' := Wc_1) Wn_0 rfl C (by decide +kernel) hrm rfl (z_wi 102 (by decide +kernel) rfl) (z_wi 103 (by decide +kernel) rfl) (z_wi 80 (by decide +kernel) rfl) (by decide) (by decide) ?_
  refine z_go2 C 3 [(.dup, 1)] (4, [(0, z_s)], [z_r 0, z_r 0], Wc_1, 1, 16) (by decide +kernel) rfl ⟨rfl, trivial⟩ ?_
  refine z_callI C (av := []) (st := [z_r 0]) (a := 0) (by decide +kernel) ci_1_T_init hrm zl_L_81 rfl rfl zi_T_init ⟨by decide, by decide, by decide, by decide⟩ rfl (Nat.le_of_ble_eq_true rfl) (fun v w' hv => ?_)
  obtain ⟨rfl, rfl⟩ := hv
  show z_G X zm_law (7, [(0, z_s)], [z_r 0], Wc_186, 78, 10982)
  refine z_go2 C 7 [(.astore_n 1, 1), (.bipush 60, 2)] (10, [(1, z_r 0), (0, z_s)], [.inl 60], Wc_186, 78, 10982) (by decide +kernel) rfl ⟨trivial, trivial, trivial⟩ ?_
  refine z_newaC (n := 78) (aty := .int) (N := 60) (w' := Wc_187) (by decide) Wn_186 rfl C (by decide +kernel) hrm (z_wi 158 (by decide +kernel) rfl) (by decide) (by decide) (by decide) (by decide) (by decide) ?_
  refine z_go2 C 12 [(.astore_n 2, 1), (.bipush 30, 2)] (15, [(2, z_r 78), (1, z_r 0), (0, z_s)], [.inl 30], Wc_187, 79, 11042) (by decide +kernel) rfl ⟨trivial, trivial, trivial⟩ ?_
  refine z_newaC (n := 79) (aty := .int) (N := 30) (w' := Wc_188) (by decide) Wn_187 rfl C (by decide +kernel) hrm (z_wi 158 (by decide +kernel) rfl) (by decide) (by decide) (by decide) (by decide) (by decide) ?_
  refine z_go2 C 17 [(.astore_n 3, 1), (.bipush 6, 2)] (20, [(3, z_r 79), (2, z_r 78), (1, z_r 0), (0, z_s)], [.inl 6], Wc_188, 80, 11072) (by decide +kernel) rfl ⟨trivial, trivial, trivial⟩ ?_
  refine z_newaC (n := 80) (aty := .int) (N := 6) (w' := Wc_189) (by decide) Wn_188 rfl C (by decide +kernel) hrm (z_wi 158 (by decide +kernel) rfl) (by decide) (by decide) (by decide) (by decide) (by decide) ?_
  refine z_go2 C 22 [(.astore 4, 2), (.bipush 10, 2)] (26, [(4, z_r 80), (3, z_r 79), (2, z_r 78), (1, z_r 0), (0, z_s)], [.inl 10], Wc_189, 81, 11078) (by decide +kernel) rfl ⟨trivial, trivial, trivial⟩ ?_
  refine z_newaC (n := 81) (aty := .int) (N := 10) (w' := Wc_190) (by decide) Wn_189 rfl C (by decide +kernel) hrm (z_wi 158 (by decide +kernel) rfl) (by decide) (by decide) (by decide) (by decide) (by decide) ?_
  refine z_go2 C 28 [(.astore 5, 2), (.iconst 3, 1)] (31, [(5, z_r 81), (4, z_r 80), (3, z_r 79), (2, z_r 78), (1, z_r 0), (0, z_s)], [.inl 3], Wc_190, 82, 11088) (by decide +kernel) rfl ⟨trivial, trivial, trivial⟩ ?_
  refine z_newaC (n := 82) (aty := .int) (N := 3) (w' := Wc_191) (by decide) Wn_190 rfl C (by decide +kernel) hrm (z_wi 158 (by decide +kernel) rfl) (by decide) (by decide) (by decide) (by decide) (by decide) ?_
  refine z_go2 C 33 [(.astore 6, 2), (.bipush 60, 2)] (37, [(6, z_r 82), (5, z_r 81), (4, z_r 80), (3, z_r 79), (2, z_r 78), (1, z_r 0), (0, z_s)], [.inl 60], Wc_191, 83, 11091) (by decide +kernel) rfl ⟨trivial, trivial, trivial⟩ ?_
  refine z_newaC (n := 83) (aty := .int) (N := 60) (w' := Wc_192) (by decide) Wn_191 rfl C (by decide +kernel) hrm (z_wi 158 (by decide +kernel) rfl) (by decide) (by decide) (by decide) (by decide) (by decide) ?_
  refine z_go2 C 39 [(.astore 7, 2), (.bipush 18, 2)] (43, [(7, z_r 83), (6, z_r 82), (5, z_r 81), (4, z_r 80), (3, z_r 79), (2, z_r 78), (1, z_r 0), (0, z_s)], [.inl 18], Wc_192, 84, 11151) (by decide +kernel) rfl ⟨trivial, trivial, trivial⟩ ?_
  refine z_newaC (n := 84) (aty := .int) (N := 18) (w' := Wc_193) (by decide) Wn_192 rfl C (by decide +kernel) hrm (z_wi 158 (by decide +kernel) rfl) (by decide) (by decide) (by decide) (by decide) (by decide) ?_
  refine z_go2 C 45 [(.astore 8, 2), (.iconst 0, 1), (.istore 9, 2)] (50, [(9, .inl 0), (8, z_r 84), (7, z_r 83), (6, z_r 82), (5, z_r 81), (4, z_r 80), (3, z_r 79), (2, z_r 78), (1, z_r 0), (0, z_s)], [], Wc_193, 85, 11169) (by decide +kernel) rfl ⟨trivial, trivial, trivial, trivial⟩ ?_
  refine z_lvs (lv' := zLV (nI 0)) [9, 8, 7, 6, 5, 4, 3, 2, 1, 0] rfl ?_
  rw [← zW_start]
  have hc := lw_lc C hrm (T' := Wc_193.1) (G' := Wc_193.2.1) (q := 50) (n := 85) (nc := 85) (ns := 11169) m_0 ?_ 10 0 rfl
  · rw [zFill_0] at hc; exact hc
  refine z_go2 C 70 [(.iconst 0, 1), (.istore 9, 2)] (73, [(9, .inl 0), (0, z_s), (1, z_r 0), (2, z_r 78), (3, z_r 79), (4, z_r 80), (5, z_r 81), (6, z_r 82), (7, z_r 83), (8, z_r 84)], [], zW Wc_193.1 (zwG Wc_193.2.1 50) (zFill m_0 81 10 15) 85, 85, 11169) (by decide +kernel) rfl ⟨trivial, trivial, trivial⟩ ?_
  refine z_lvs (lv' := zLV (nI 0)) [1, 2, 3, 4, 5, 6, 7, 8, 9, 0] rfl ?_
  have hh := lw_lh C hrm (T' := Wc_193.1) (G' := Wc_193.2.1) (q := 50) (n := 85) (nc := 85) (ns := 11169) (zFill m_0 81 10 15) ?_ 60 0 rfl
  · rw [zFill_0] at hh; exact hh
  refine lw_kind C hrm hS (by decide) (by decide) m_1 m_2 m_3 m_4 m_5 p_2 s_3 p_3 s_4 p_4 s_5 p_5 ?_
  refine lw_m0 C hrm hS (by decide) (by decide) m_5 m_6 s_6 p_6 ?_
  refine lw_m1 C hrm hS (by decide) (by decide) m_6 m_7 s_7 p_7 ?_
  refine lw_m2 C hrm hS (by decide) (by decide) m_7 m_8 s_8 p_8 ?_
  refine lw_pub C hrm hS (by decide) (by decide) m_8 m_9 s_9 p_9 ?_
  refine lw_t0 C hrm hS (by decide) (by decide) m_9 m_10 e_9.2.1 e_9.2.2.1 e_9.2.2.2 e_10.2.1 e_10.2.2.1 e_10.2.2.2.1 s_10 p_10 (fun n0 q0 h0 => ?_)
  refine lw_t1 C hrm hS (by decide) (by decide) m_10 m_11 e_10.2.1 e_10.2.2.2.2 e_11.2.1 e_11.2.2.1 e_11.2.2.2.1 s_11 p_11 (fun n1 q1 h1 => ?_)
  refine lw_t2 C hrm hS (by decide) (by decide) m_11 m_12 e_11.2.1 e_11.2.2.2.2.1 e_11.2.2.2.2.2 e_12.2.1 e_12.2.2.1 e_12.2.2.2.1 p_12 (fun n2 q2 h2 => ?_)
  refine lw_t3 C hrm hS (by decide) (by decide) m_12 m_13 e_12.2.1 e_12.2.2.1 e_12.2.2.2.2.1 e_12.2.2.2.2.2 fix_13 s_13 p_13 (fun n3 q3 h3 => ?_)
  refine lw_turns C hrm hS (fun n q nc ns hn => ?_) 52 4 rfl (by decide) n3 q3 _ _ (by decide) (by decide) (by omega)
  refine z_go2 C 374 [(.iload 9, 2), (.bipush 56, 2)] (378, zLV (nI 56), [.inl 56, .inl (nI 56)], zW Wc_193.1 (zwG Wc_193.2.1 q) m_13 n, nc, ns) (by decide +kernel) rfl ⟨trivial, trivial, trivial⟩ ?_
  refine z_icmp_ge 2710 C (off := 2332) (by decide +kernel) (by decide) (fun _ => ?_) (fun c => absurd (nI_le (a := 56) (Nat.le_refl _) (by decide)) c)
  refine z_go2 C 2710 [(.iconst 1, 1)] (2711, zLV (nI 56), [.inl 1], zW Wc_193.1 (zwG Wc_193.2.1 q) m_13 n, nc, ns) (by decide +kernel) rfl ⟨trivial, trivial⟩ ?_
  exact hend _ _ _ _ _ _ hn
