/-! what holds at the start -/
theorem S0_lg : S0 0 14 = 0 ∧ S0 78 1 = 0 ∧ S0 1 7 = 0 ∧ S0 78 2 = 0 ∧ S0 9 3 = 0 ∧ S0 86 0 = 0 ∧ S0 68 2 = 0 ∧ S0 71 4 = 0 ∧ S0 78 41 = 0 ∧ S0 180 0 = 0 := by decide +kernel
theorem S0_11 : ∀ q, q < 90 → S0 11 q = 0 := by decide +kernel
theorem S0_12 : ∀ q, q < 24 → S0 12 q = 0 := by decide +kernel
theorem S0_95 : ∀ q, q < 30 → S0 95 q = 0 := by decide +kernel
theorem S0_97 : ∀ q, q < 24 → S0 97 q = 0 := by decide +kernel
theorem S0_183 : ∀ q, q < 240 → S0 183 q = 0 := by decide +kernel
theorem fl0_ok : zFl fl0 := by
  intro k hk
  refine ⟨by show 132 ≤ 132 + 8 * k; omega, Or.inl (by show 132 + 8 * k + 7 < 156; omega), fun j hj hn => ?_⟩
  show 132 + 8 * j + 7 < 132 + 8 * k ∨ 132 + 8 * k + 7 < 132 + 8 * j
  omega
theorem S0_A : (∀ k, k < 3 → S0 37 k = S0 124 k) ∧ (∀ k, k < 3 → S0 38 k = S0 125 k) ∧ (∀ k, k < 3 → S0 39 k = S0 126 k) ∧ ∀ k, k < 4 → S0 40 k = S0 127 k := by decide +kernel
theorem S0_K : (∀ k, k < 3 → S0 44 k = S0 128 k) ∧ (∀ k, k < 3 → S0 45 k = S0 129 k) ∧ (∀ k, k < 3 → S0 46 k = S0 130 k) ∧ (∀ k, k < 3 → S0 47 k = S0 164 k) ∧ (∀ k, k < 3 → S0 48 k = S0 165 k) ∧ ∀ k, k < 3 → S0 49 k = S0 166 k := by decide +kernel
theorem S0_F : ∀ k, k < 3 → S0 55 k = 1 ∧ S0 56 k = 0 ∧ S0 (fl0 k) 0 = 1 ∧ S0 (fl0 k) 1 = 0 := by decide +kernel
theorem S0_d : (S0 54 4 = -1 ∧ S0 78 26 = -1) ∧ (S0 59 8 = 0 ∧ S0 78 31 = 0) ∧ S0 0 15 = S0 78 16 := by decide +kernel
theorem S0_Q : (S0 19 7 = S0 78 51 ∧ 0 ≤ (S0 19 7).toInt ∧ (S0 19 7).toInt ≤ 30) ∧ (∀ k, k < 30 → S0 20 k = S0 185 k) ∧ ∀ k, k < 30 → S0 20 k = 0 := by decide +kernel
theorem S0_W : ∀ q, q < 8 → S0 76 q = 0 ∧ S0 77 q = 0 ∧ S0 184 q = 0 := by decide +kernel
theorem S0_k : ∀ k, k < 3 → (-1 ≤ (S0 45 k).toInt ∧ (S0 45 k).toInt ≤ 3) ∧ 0 ≤ (S0 46 k).toInt ∧ (S0 46 k).toInt ≤ 2 := by decide +kernel
theorem S0_g : (∀ k, k < 3 → -1 ≤ (S0 47 k).toInt ∧ (S0 47 k).toInt ≤ 99) ∧ ∀ k, k < 3 → S0 47 k = -1 → S0 49 k = 0 := by decide +kernel
theorem S0_96 : ∀ q, q < 2700 → S0 96 q = 0 := by decide +kernel
theorem inv_start : zInv 0 fl0 S0 := ⟨Ist_start fl0_ok ⟨S0_A.1, S0_A.2.1, S0_A.2.2.1, S0_A.2.2.2⟩ ⟨S0_K.1, S0_K.2.1, S0_K.2.2.1, S0_K.2.2.2.1, S0_K.2.2.2.2.1, S0_K.2.2.2.2.2⟩ S0_d.2.2 S0_F S0_d.1 ⟨S0_Q.1.1, S0_Q.1.2.1, S0_Q.1.2.2, S0_Q.2.1, fun i hi => by
  rw [S0_Q.2.2 i hi]; exact rfl⟩ S0_d.2.1 ⟨S0_W, S0_183⟩ S0_k S0_g, Ilg_start S0_lg S0_11 S0_12 S0_95 S0_96 S0_97⟩
