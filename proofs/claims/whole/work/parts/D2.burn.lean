/-! PURE: burn -/
/-- goals: kinds without one count no state as done -/
def zKG2 (S : Nat → Nat → Int32) : Prop := zKG S ∧ ∀ k, k < 3 → S 47 k = -1 → S 49 k = 0
/-- in the sprint, and not done -/
def gG (E : Nat → Nat → Int32) (w : zWd) (s : Int32) (k : Nat) : Bool := w.1 k && (decide (wC w k 7 = s) && !zB (E 49 (wC w k 9).toNatClampNeg) (wC w k 0).toNatClampNeg)
theorem T_burn_L {E S : Nat → Nat → Int32} {w : zWd} {s : Nat} (hs : s < 4) (hC : zWC 28 S w) (hg : zRg w) (hE : S 49 = E 49) : ∀ (n k f : Nat) (x : Int32), k + n = 30 → n < f → ∃ y, F_T_burn_L63 (zI s) f S x (zI k) = (y, S) ∧ Sf_T_burn_L63 (zI s) f S x (zI k) ∧ ∀ q, q < 30 → zB y q = (zB x q || (decide (k ≤ q) && gG E w (zI s) q)) := by
  intro n
  induction n with
  | zero =>
    intro k f x hk hf
    obtain ⟨f, rfl⟩ : ∃ q, f = q + 1 := ⟨f - 1, by omega⟩
    obtain rfl : k = 30 := by omega
    unfold F_T_burn_L63 Sf_T_burn_L63
    rw [if_pos le30', if_pos le30']
    refine ⟨x, rfl, trivial, fun q hq => ?_⟩
    rw [decide_eq_false (show ¬ 30 ≤ q by omega)]; simp
  | succ n ih =>
    intro k f x hk hf
    obtain ⟨f, rfl⟩ : ∃ q, f = q + 1 := ⟨f - 1, by omega⟩
    have hk30 : k < 30 := by omega
    obtain ⟨a7, b7⟩ := hC.cell hk30 (show 7 < 10 by omega)
    obtain ⟨a9, b9⟩ := hC.cell hk30 (show 9 < 10 by omega)
    obtain ⟨a0, b0⟩ := hC.cell hk30 (show 0 < 10 by omega)
    have a7 : F_World_cell 28 S (zI k) 7 = wC w k 7 := a7
    have a9 : F_World_cell 28 S (zI k) 9 = wC w k 9 := a9
    have a0 : F_World_cell 28 S (zI k) 0 = wC w k 0 := a0
    have skip : gG E w (zI s) k = false → ∀ y, (∀ q, q < 30 → zB y q = (zB x q || (decide (k + 1 ≤ q) && gG E w (zI s) q))) → ∀ q, q < 30 → zB y q = (zB x q || (decide (k ≤ q) && gG E w (zI s) q)) := fun g y hy q hq => by
      rw [hy q hq]
      by_cases z : q = k
      · rw [z, g]; simp
      · by_cases z2 : k ≤ q
        · rw [decide_eq_true z2, decide_eq_true (show k + 1 ≤ q by omega)]
        · rw [decide_eq_false z2, decide_eq_false (show ¬ k + 1 ≤ q by omega)]
    unfold F_T_burn_L63 Sf_T_burn_L63
    rw [if_neg (le30 hk30), if_neg (le30 hk30), a7, a9, a0, zI_succ]
    by_cases q7 : wC w k 7 = zI s
    · have hw : w.1 k = true := by
        cases q : w.1 k
        · have : wC w k 7 = -1 := by unfold wC; rw [q]; rfl
          rw [this] at q7
          exact absurd q7.symm (zI_ne_m1 (by omega))
        · rfl
      obtain ⟨kd, kd3, ek⟩ := hg.kind hk30 hw
      obtain ⟨st, st6, es⟩ := hg.state hk30 hw
      have e1 : F_T_isIn S (zAt (S 49) 3 (wC w k 9)) (wC w k 0) = if zB (E 49 (wC w k 9).toNatClampNeg) (wC w k 0).toNatClampNeg = true then 1 else 0 := by
        rw [ek, es, zAt_I kd3 (by omega), T_isIn_I S (by omega), hE, zI_clamp (by omega), zI_clamp (by omega)]
      rw [e1, if_pos q7, if_pos q7]
      cases q : zB (E 49 (wC w k 9).toNatClampNeg) (wC w k 0).toNatClampNeg
      · have g : gG E w (zI s) k = true := by unfold gG; rw [hw, decide_eq_true q7, q]; rfl
        obtain ⟨y, y1, y2, y3⟩ := ih (k + 1) f (x ||| F_T_bit S (zI k)) (by omega) (by omega)
        simp only [Bool.false_eq_true, if_false, if_true]
        refine ⟨y, y1, ⟨b9, b7, b0, y2⟩, fun q hq => ?_⟩
        rw [y3 q hq, zB_bit (by omega) (by omega)]
        by_cases z : q = k
        · rw [z, g]; simp
        · rw [decide_eq_false z]
          by_cases z2 : k ≤ q
          · rw [decide_eq_true z2, decide_eq_true (show k + 1 ≤ q by omega)]; simp
          · rw [decide_eq_false z2, decide_eq_false (show ¬ k + 1 ≤ q by omega)]; simp
      · have g : gG E w (zI s) k = false := by unfold gG; rw [q]; simp
        obtain ⟨y, y1, y2, y3⟩ := ih (k + 1) f x (by omega) (by omega)
        simp only [if_true, if_neg ne_10]
        exact ⟨y, y1, ⟨b9, b7, b0, y2⟩, skip g y y3⟩
    · have g : gG E w (zI s) k = false := by unfold gG; rw [decide_eq_false q7]; simp
      obtain ⟨y, y1, y2, y3⟩ := ih (k + 1) f x (by omega) (by omega)
      simp only [if_neg q7]
      exact ⟨y, y1, ⟨b9, b7, y2⟩, skip g y y3⟩
theorem isGoal_I {E U : Nat → Nat → Int32} {k st : Nat} (hk : k < 3) (hs : st < 6) (e1 : U 164 k = E 47 k) (e2 : U 166 k = E 49 k) (hG : E 47 k = -1 → E 49 k = 0) : F_M_isGoal U (zI k) (zI st) = bI (zB (E 49 k) st) ∧ Sf_M_isGoal U (zI k) (zI st) := by
  have vk : vp_in (zI k) 3 := vp_in_I (by omega) (by omega)
  unfold F_M_isGoal Sf_M_isGoal F_M_isGoal_j28
  rw [zI_clamp (by omega), e1, e2]
  by_cases q : E 47 k = -1
  · rw [if_pos q, if_pos q, hG q, zB_0]; exact ⟨rfl, vk, trivial⟩
  · rw [if_neg q, if_neg q]
    refine ⟨?_, vk, vk, trivial⟩
    by_cases z : zB (E 49 k) st = true
    · rw [if_pos ((zB_shr (by omega)).mpr z), z]; rfl
    · rw [if_neg (fun g => z ((zB_shr (by omega)).mp g)), Bool.not_eq_true _ |>.mp z]; rfl
theorem M_burn_L {E U : Nat → Nat → Int32} {w : zWd} {p s : Nat} {v : Nat → Int32} (hp : p < 8) (hY : eY E U) (hC : zWM 98 U w) (hg : zRg w) (e1 : ∀ k, k < 3 → U 164 k = E 47 k ∧ U 166 k = E 49 k) (hG : ∀ k, k < 3 → E 47 k = -1 → E 49 k = 0) (hv : ∀ i, i < 30 → F_M_valueFor 98 U (zI p) (zI i) 0 = v i ∧ Sf_M_valueFor 98 U (zI p) (zI i) 0) : ∀ (n k f : Nat) (y : Int32), k + n = 30 → n < f → F_M_burn_L55 (zI p) (zI s) f U y (zI k) = (sT (fun q => gG E w (zI s) q && vSee E w p q) v n k y, U) ∧ Sf_M_burn_L55 (zI p) (zI s) f U y (zI k) := by
  intro n
  induction n with
  | zero =>
    intro k f y hk hf
    obtain ⟨f, rfl⟩ : ∃ q, f = q + 1 := ⟨f - 1, by omega⟩
    obtain rfl : k = 30 := by omega
    unfold F_M_burn_L55 Sf_M_burn_L55
    rw [if_pos le30', if_pos le30']
    exact ⟨rfl, trivial⟩
  | succ n ih =>
    intro k f y hk hf
    obtain ⟨f, rfl⟩ : ∃ q, f = q + 1 := ⟨f - 1, by omega⟩
    have hk30 : k < 30 := by omega
    obtain ⟨s1, s2⟩ := M_sees_I hY hC hg hp hk30
    obtain ⟨v1, v2⟩ := hv k hk30
    have vk : vp_in (zI k) 30 := vp_in_I (by omega) (by omega)
    have skip : (gG E w (zI s) k && vSee E w p k) = false → F_M_burn_L55 (zI p) (zI s) f U y (zI (k + 1)) = (sT (fun q => gG E w (zI s) q && vSee E w p q) v (n + 1) k y, U) ∧ Sf_M_burn_L55 (zI p) (zI s) f U y (zI (k + 1)) := fun g => by
      obtain ⟨j1, j2⟩ := ih (k + 1) f y (by omega) (by omega)
      unfold sT
      rw [if_neg (by rw [g]; decide)]
      exact ⟨j1, j2⟩
    unfold F_M_burn_L55 Sf_M_burn_L55 F_M_burn_l55_121 Sf_M_burn_l55_121 F_M_burn_l55_122 Sf_M_burn_l55_122 F_M_burn_l55_145 Sf_M_burn_l55_145
    rw [if_neg (le30 hk30), if_neg (le30 hk30), s1, zI_succ, zI_clamp (by omega), v1]
    simp only [if_true, Int32.add_zero]
    cases q : vSee E w p k
    · obtain ⟨j1, j2⟩ := skip (by rw [q]; simp)
      simp only [Bool.false_eq_true, if_false, if_true]
      exact ⟨j1, s2, j2⟩
    · have hw := vSee_there q
      have c7 : U 106 k = wC w k 7 := col98 hC hk30 (show 7 < 10 by omega) hw
      have c9 : U 100 k = wC w k 9 := col98 hC hk30 (show 9 < 10 by omega) hw
      have c0 : U 101 k = wC w k 0 := col98 hC hk30 (show 0 < 10 by omega) hw
      obtain ⟨kd, kd3, ek⟩ := hg.kind hk30 hw
      obtain ⟨st, st6, es⟩ := hg.state hk30 hw
      obtain ⟨g1, g2⟩ := isGoal_I kd3 st6 (e1 kd kd3).1 (e1 kd kd3).2 (hG kd kd3)
      simp only [if_true, if_neg ne_10, c7, c9, c0]
      by_cases q7 : wC w k 7 = zI s
      · rw [ek, es, g1]
        simp only [if_pos q7]
        cases q8 : zB (E 49 kd) st
        · have g : (gG E w (zI s) k && vSee E w p k) = true := by unfold gG; rw [hw, decide_eq_true q7, ek, es, zI_clamp (by omega), zI_clamp (by omega), q8, q]; rfl
          obtain ⟨j1, j2⟩ := ih (k + 1) f (if v k = -1 then y else y + v k) (by omega) (by omega)
          unfold sT
          rw [if_pos g]
          simp only [bI, Bool.false_eq_true, if_false, if_true, if_neg ne_10]
          by_cases q9 : v k = -1
          · simp only [if_pos q9] at j1 j2 ⊢
            exact ⟨j1, s2, vk, vk, vk, g2, v2, j2⟩
          · simp only [if_neg q9] at j1 j2 ⊢
            exact ⟨j1, s2, vk, vk, vk, g2, v2, j2⟩
        · obtain ⟨j1, j2⟩ := skip (by unfold gG; rw [ek, es, zI_clamp (by omega), zI_clamp (by omega), q8]; simp)
          simp only [bI, if_true, if_neg ne_10]
          exact ⟨j1, s2, vk, vk, vk, g2, j2⟩
      · obtain ⟨j1, j2⟩ := skip (by unfold gG; rw [decide_eq_false q7]; simp)
        simp only [if_neg q7]
        exact ⟨j1, s2, vk, j2⟩
