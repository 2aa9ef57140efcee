/-! PURE: state, transition -/
theorem zCF.redraft {fl : Nat → Nat} {S V : Nat → Nat → Int32} (h : zCF fl S S) (e55 : ∀ k, k < 3 → V 55 k = S 55 k) (e56 : ∀ k, k < 3 → V 56 k = S 56 k) (e57 : ∀ j, j < 144 → V 57 j = S 57 j) (eU : ∀ k, 132 ≤ k ∧ k < 156 ∨ 194 ≤ k → V k = S k) (ed : V 54 4 = V 78 26) (hd : V 54 4 ≠ -1 → (∃ c, zFR 3 156 c V V ∧ zFW 3 c V) ∧ zDM V V) : zCF fl V V := by
  refine ⟨h.fl, fun k hk => ?_, ed, hd⟩
  obtain ⟨c, hr, hw⟩ := h.flow hk
  have := h.fl.lo hk
  have := h.fl.off hk
  exact ⟨c, hr.ag (e55 k hk) (e56 k hk) (fun j _ _ => e57 j (by omega)) (fun q _ _ => eU q (by omega)), hw.ag hr.le (e55 k hk) (fun j _ _ => e57 j (by omega))⟩
theorem zStepOk.mono {P P' : Int32} {q : Nat → Int32} (h : zStepOk P q) (e : ∀ a, zB P a = true → zB P' a = true) : zStepOk P' q := by
  obtain ⟨⟨a, ha, ha2, ha3⟩, ⟨b, hb, hb2, hb3⟩, h3⟩ := h
  exact ⟨⟨a, ha, ha2, e a ha3⟩, ⟨b, hb, hb2, e b hb3⟩, h3⟩
theorem Flows_has_I (S : Nat → Nat → Int32) {s k : Nat} (hs : s < 4) (hk : k < 31) : F_Flows_has S (zI s) (zI k) = if zB (S 55 s) k = true then 1 else 0 := by
  unfold F_Flows_has
  rw [zAt_I hs (by omega), T_isIn_I S hk]
theorem Sf_Flows_has_I (S : Nat → Nat → Int32) (s k : Int32) : Sf_Flows_has S s k := by
  unfold Sf_Flows_has
  refine ⟨?_, trivial⟩
  unfold F_T_isIn
  split
  · rfl
  split
  · rfl
  split <;> rfl
def zW9 : List zLoc := [(55, some 3), (58, none), (78, some 0), (156, some 0), (193, none)]
theorem o_9 (fl : Nat → Nat) {S : Nat → Nat → Int32} (a1 a2 a3 a4 a5 a6 : Int32) (h : zCF fl S S) : Sl_9 fl S a1 a2 a3 a4 a5 a6 ∧ zCF fl (Fl_9 fl S a1 a2 a3 a4 a5 a6) (Fl_9 fl S a1 a2 a3 a4 a5 a6) ∧ zWr zW9 S (Fl_9 fl S a1 a2 a3 a4 a5 a6) := by
  have err : ∀ c : Int32, zCF fl (z_uS S 78 0 c) (z_uS S 78 0 c) ∧ zWr zW9 S (z_uS S 78 0 c) := fun c => ⟨h.ag ((zWr.slot (W := [(78, some 0)]) (by decide) S _).ag (by decide)), zWr.slot (by decide) S _⟩
  unfold Sl_9 Fl_9 Sf_L_state F_L_state F_T_state Sf_T_state F_M_state F_M_thrown F_M_state_j33 F_M_state_j38
  simp only [M_isIn_eq, T_le, T_lt, show (0 : Int32).toInt = 0 from rfl, show (1 : Int32).toInt = 1 from rfl, show (2 : Int32).toInt = 2 from rfl, show (5 : Int32).toInt = 5 from rfl, show (6 : Int32).toInt = 6 from rfl]
  by_cases h1 : a1.toInt < 1
  case pos =>
    have m0 : ¬ (1 ≤ a1.toInt ∧ a1.toInt ≤ 5) := by omega
    simp only [if_pos h1, if_neg m0, z_b10, z_b01, if_true, if_false, show ¬ ((1 : Int) ≤ 0) by decide]
    exact ⟨⟨⟨trivial, fun E S2 hE => by cases hE; simp⟩, by simp [uS_at], fun h0 => absurd h0 (by simp)⟩, (err 1).1, (err 1).2⟩
  case neg =>
    by_cases h2 : 6 ≤ a1.toInt
    case pos =>
      have m0 : ¬ (1 ≤ a1.toInt ∧ a1.toInt ≤ 5) := by omega
      simp only [if_neg h1, if_pos h2, if_neg m0, z_b10, z_b01, if_true, if_false, show ¬ ((1 : Int) ≤ 0) by decide]
      exact ⟨⟨⟨trivial, fun E S2 hE => by cases hE; simp⟩, by simp [uS_at], fun h0 => absurd h0 (by simp)⟩, (err 1).1, (err 1).2⟩
    case neg =>
      have m0 : 1 ≤ a1.toInt ∧ a1.toInt ≤ 5 := by omega
      have hk1 : 1 ≤ a1.toInt := by omega
      obtain ⟨k, hk, rfl⟩ := zI_ex (n := 6) (p := a1) (by omega) (by omega) (by omega)
      rw [zI_toInt (by omega)] at hk1
      by_cases h3 : S 54 4 = -1
      case pos =>
        have h4 : S 78 26 = -1 := by rw [← h.of]; exact h3
        simp only [if_neg h1, if_neg h2, if_pos m0, if_pos h3, if_pos h4, z_b10, z_b01, if_true, if_false, show ¬ ((2 : Int) ≤ 0) by decide]
        exact ⟨⟨⟨trivial, fun E S2 hE => by cases hE; simp⟩, by simp [uS_at], fun h0 => absurd h0 (by simp)⟩, (err 2).1, (err 2).2⟩
      case neg =>
        obtain ⟨c, hr, hw⟩ := h.draft h3
        obtain ⟨m1, ⟨d, hd, hd2, hd3⟩, r, hr3⟩ := h.map h3
        have h4 : ¬ S 78 26 = -1 := by rw [← h.of]; exact h3
        have e1 : F_Flows_has S 3 (zI k) = if zB (S 55 3) k = true then 1 else 0 := Flows_has_I S (s := 3) (by omega) (by omega)
        by_cases h5 : zB (S 55 3) k = true
        case pos =>
          have e2 : ∀ Q : Nat → Nat → Int32, Q 156 0 = S 156 0 → F_MF_has 156 Q (zI k) = 1 := fun Q hQ => by rw [MF_has_I 156 Q (by omega), hQ, ← hr.states, if_pos h5]
          simp only [if_neg h1, if_neg h2, if_pos m0, if_neg h3, if_neg h4, e1, if_pos h5, e2 S rfl, z_b10, z_b01, if_true, if_false, show ¬ ((2 : Int) ≤ 0) by decide]
          exact ⟨⟨⟨⟨Sf_Flows_has_I _ _ _, trivial⟩, fun E S2 hE => by cases hE; simp⟩, by simp [uS_at], fun h0 => absurd h0 (by simp)⟩, (err 2).1, (err 2).2⟩
        case neg =>
          generalize hP : S 55 3 ||| ((1 : Int32) <<< (zI k &&& 31)) = P
          have hPB : ∀ j, j < 32 → zB P j = (zB (S 55 3) j || decide (j = k)) := fun j hj => by rw [← hP, zB_or, zB_one k (by omega) j hj]
          have eA : F_Flows_add S (zI k) = z_uS (z_uS S 55 3 P) 58 k (-1) := by
            unfold F_Flows_add
            simp only [z_let]
            rw [T_bit_I S (by omega), show (3 : Int32) = zI 3 from rfl, zAt_I (by omega) (by omega), zPut_I (by omega) (by omega), zPut_I (by omega) (by omega), hP]
          have eZ : zAt ((z_uS (z_uS S 55 3 P) 58 k (-1)) 55) 4 3 = P := by
            rw [show (3 : Int32) = zI 3 from rfl, zAt_I (by omega) (by omega), z_uS_ne _ _ _ (by omega), uS_at]
          simp only [if_neg h1, if_neg h2, if_pos m0, if_neg h3, e1, if_neg h5, eA, eZ, z_b10, z_b01, if_true, if_false, show ((0 : Int) ≤ 0) by decide]
          have f1 : ∀ j, (z_uS (z_uS (z_uS S 55 3 P) 58 k (-1)) 193 0 P) 78 j = S 78 j := fun j => by rw [z_uS_ne _ _ _ (by omega), z_uS_ne _ _ _ (by omega), z_uS_ne _ _ _ (by omega)]
          have f2 : (z_uS (z_uS (z_uS S 55 3 P) 58 k (-1)) 193 0 P) 156 = S 156 := by rw [z_uS_ne _ _ _ (by omega), z_uS_ne _ _ _ (by omega), z_uS_ne _ _ _ (by omega)]
          have e2 : F_MF_has 156 (z_uS (z_uS (z_uS S 55 3 P) 58 k (-1)) 193 0 P) (zI k) = 0 := by rw [MF_has_I 156 _ (by omega), f2, ← hr.states, if_neg h5]
          simp only [f1, if_neg h4, e2, f2, ← hr.states, hP, if_true]
          generalize hV : z_uS (z_uS (z_uS (z_uS (z_uS S 55 3 P) 58 k (-1)) 193 0 P) 78 0 0) 156 0 P = V
          have g55 : V 55 = upd (S 55) 3 P := by rw [← hV]; simp [z_uS]
          have g56 : V 56 = S 56 := by rw [← hV]; simp [z_uS]
          have g57 : V 57 = S 57 := by rw [← hV]; simp [z_uS]
          have g58 : V 58 = upd (S 58) k (-1) := by rw [← hV]; simp [z_uS]
          have g54 : V 54 = S 54 := by rw [← hV]; simp [z_uS]
          have g156 : V 156 = upd (S 156) 0 P := by rw [← hV]; simp [z_uS]
          have g78 : V 78 = upd (S 78) 0 0 := by rw [← hV]; simp [z_uS]
          have g193 : V 193 0 = P := by rw [← hV]; simp [z_uS, upd]
          have gout : ∀ m, m ≠ 55 → m ≠ 58 → m ≠ 78 → m ≠ 156 → m ≠ 193 → V m = S m := fun m h1 h2 h3 h4 h5 => by rw [← hV]; simp [z_uS, h1, h2, h3, h4, h5]
          refine ⟨⟨⟨⟨Sf_Flows_has_I _ _ _, trivial⟩, fun E S2 hE => by cases hE⟩, by rw [g78]; simp [upd], fun _ => by rw [g193]⟩, h.redraft (fun m hm => ?_) (fun m hm => by rw [g56]) (fun j hj => by rw [g57]) (fun m hm => gout m (by omega) (by omega) (by omega) (by omega) (by omega)) ?_ (fun _ => ⟨⟨c, ?_, ?_⟩, ?_, ⟨d, hd, by rw [g54]; exact hd2, fun s hs hb => ?_⟩, fun y => if y = k then 0 else r y + 1, fun s hs hb hm => ?_⟩), ?_⟩
          · rw [g55]; simp [upd, show m ≠ 3 by omega]
          · rw [g54, g78]; simp [upd]; exact h.of
          · refine ⟨hr.le, ?_, ?_, ?_, fun j hj p hp => ?_⟩
            · rw [g55, g156]; simp [upd]
            · rw [g56]; exact hr.cnt
            · rw [g156]; simp [upd]; exact hr.many
            · rw [g57, gout (156 + 1 + p) (by omega) (by omega) (by omega) (by omega) (by omega)]; exact hr.part j hj p hp
          · have e55 : V 55 3 = P := by rw [g55]; simp [upd]
            refine ⟨?_, fun m hm => ?_, fun j hj => ?_⟩
            · rw [e55, hPB 0 (by omega), hw.b0]; rfl
            · rw [e55]
              by_cases hm2 : m < 32
              · rw [hPB m hm2, hw.hi m hm]; simp; omega
              · exact zB_ge _ (by omega)
            · rw [e55, g57]
              refine (hw.step j hj).mono fun a ha => ?_
              by_cases ha2 : a < 32
              · rw [hPB a ha2, ha]; rfl
              · rw [zB_ge _ (by omega)] at ha; cases ha
          · intro s hs hm
            rw [g58] at hm ⊢
            by_cases hsk : s = k
            · subst hsk; simp [upd] at hm
            · have e0 : upd (S 58) k (-1) s = S 58 s := by simp [upd, hsk]
              rw [e0] at hm ⊢
              rw [gout 163 (by omega) (by omega) (by omega) (by omega) (by omega)]
              exact m1 s hs hm
          · rw [g55] at hb ⊢
            rw [g58]
            have e0 : upd (S 55) 3 P d = S 55 d := by simp [upd, show d ≠ 3 by omega]
            have e1 : upd (S 55) 3 P 3 = P := by simp [upd]
            rw [e0] at hb
            rw [e1, hPB s (by omega)]
            by_cases hsk : s = k
            · left; simp [hsk]
            · rcases hd3 s hs hb with q | q
              · left; rw [q]; rfl
              · right; simpa [upd, hsk] using q
          · have e1 : V 55 3 = P := by rw [g55]; simp [upd]
            rw [e1] at hb ⊢
            rw [g58] at hm ⊢
            by_cases hsk : s = k
            · subst hsk; simp [upd] at hm
            · have e0 : upd (S 58) k (-1) s = S 58 s := by simp [upd, hsk]
              rw [e0] at hm ⊢
              rw [hPB s (by omega)] at hb
              obtain ⟨t, ht, ht2, ht3, ht4⟩ := hr3 s hs (by revert hb; cases zB (S 55 3) s <;> simp) hm
              refine ⟨t, ht, ht2, ?_, ?_⟩
              · rw [hPB t (by omega)]
                by_cases htk : t = k
                · left; simp [htk]
                · rcases ht3 with q | q
                  · left; rw [q]; rfl
                  · right; simpa [upd, htk] using q
              · show (if t = k then 0 else r t + 1) < (if s = k then 0 else r s + 1)
                rw [if_neg hsk]
                split <;> omega
          · rw [← hV]
            exact (zWr.slot (by decide) S _).trans ((zWr.cell (by decide) _ _ _).trans ((zWr.cell (by decide) _ _ _).trans ((zWr.slot (by decide) _ _).trans (zWr.slot (by decide) _ _))))
