/-! PURE: how many bits are set -/
theorem land_split {x y c m : Nat} (hx : x < 256) (hc : c < 256) : (x + 256 * y) &&& (c + 256 * m) = (x &&& c) + 256 * (y &&& m) := by
  have e1 : ∀ a b : Nat, a < 256 → a + 256 * b = 2 ^ 8 * b + a := fun a b _ => by omega
  have hl : x &&& c < 256 := Nat.lt_of_le_of_lt Nat.and_le_left hx
  apply Nat.eq_of_testBit_eq
  intro i
  rw [Nat.testBit_and, e1 x y hx, e1 c m hc, e1 _ _ hl, Nat.testBit_two_pow_mul_add _ (by omega), Nat.testBit_two_pow_mul_add _ (by omega), Nat.testBit_two_pow_mul_add _ (by omega)]
  by_cases q : i < 8
  · rw [if_pos q, if_pos q, if_pos q, Nat.testBit_and]
  · rw [if_neg q, if_neg q, if_neg q, Nat.testBit_and]
def p8a (r : Nat) : Nat := r - (r / 2 &&& 85)
def p8b (r : Nat) : Nat := (p8a r &&& 51) + (p8a r / 4 &&& 51)
def p8c (r : Nat) : Nat := (p8b r + p8b r / 16) &&& 15
theorem p8_s1 : ∀ r, r < 256 → ∀ t, t < 2 → (r / 2 + 128 * t) &&& 85 = (r / 2 &&& 85) := by decide +kernel
theorem p8_s1l : ∀ r, r < 256 → (r / 2 &&& 85) ≤ r ∧ p8a r < 256 := by decide +kernel
theorem p8_s2 : ∀ r, r < 256 → ∀ t, t < 4 → (r / 4 + 64 * t) &&& 51 = (r / 4 &&& 51) := by decide +kernel
theorem p8_s2l : ∀ r, r < 256 → p8b r % 16 ≤ 4 ∧ p8b r / 16 ≤ 4 := by decide +kernel
theorem p8_s3 : ∀ r, r < 256 → ∀ t, t < 5 → (p8b r + p8b r / 16 + 16 * t) < 256 ∧ (p8b r + p8b r / 16 + 16 * t) &&& 15 = p8c r := by decide +kernel
theorem p8_c : ∀ r, r < 256 → p8c r = cN (fun k => Nat.testBit r k) 8 ∧ p8c r ≤ 8 := by decide +kernel
def pnA (n : Nat) : Nat := n - (n / 2 &&& 1431655765)
def pnB (n : Nat) : Nat := (pnA n &&& 858993459) + (pnA n / 4 &&& 858993459)
def pnC (n : Nat) : Nat := (pnB n + pnB n / 16) &&& 252645135
def q4 (a b c d : Nat) : Nat := a + 256 * (b + 256 * (c + 256 * d))
theorem land4 {a b c d w x y z : Nat} (ha : a < 256) (hb : b < 256) (hc : c < 256) (hw : w < 256) (hx : x < 256) (hy : y < 256) : q4 a b c d &&& q4 w x y z = q4 (a &&& w) (b &&& x) (c &&& y) (d &&& z) := by
  unfold q4
  rw [land_split ha hw, land_split hb hx, land_split hc hy]
theorem pnA_4 {a b c d : Nat} (ha : a < 256) (hb : b < 256) (hc : c < 256) (hd : d < 256) : pnA (q4 a b c d) = q4 (p8a a) (p8a b) (p8a c) (p8a d) := by
  have e : q4 a b c d / 2 = q4 (a / 2 + 128 * (b % 2)) (b / 2 + 128 * (c % 2)) (c / 2 + 128 * (d % 2)) (d / 2) := by unfold q4; omega
  have em : (1431655765 : Nat) = q4 85 85 85 85 := by decide
  unfold pnA
  rw [e, em, land4 (by omega) (by omega) (by omega) (by omega) (by omega) (by omega), p8_s1 a ha _ (by omega), p8_s1 b hb _ (by omega), p8_s1 c hc _ (by omega)]
  have h1 := (p8_s1l a ha).1
  have h2 := (p8_s1l b hb).1
  have h3 := (p8_s1l c hc).1
  have h4 := (p8_s1l d hd).1
  unfold p8a q4
  omega
theorem pnB_4 {a b c d : Nat} (ha : a < 256) (hb : b < 256) (hc : c < 256) (hd : d < 256) : pnB (q4 a b c d) = q4 (p8b a) (p8b b) (p8b c) (p8b d) := by
  have h1 := (p8_s1l a ha).2
  have h2 := (p8_s1l b hb).2
  have h3 := (p8_s1l c hc).2
  have h4 := (p8_s1l d hd).2
  have e : q4 (p8a a) (p8a b) (p8a c) (p8a d) / 4 = q4 (p8a a / 4 + 64 * (p8a b % 4)) (p8a b / 4 + 64 * (p8a c % 4)) (p8a c / 4 + 64 * (p8a d % 4)) (p8a d / 4) := by unfold q4; omega
  have em : (858993459 : Nat) = q4 51 51 51 51 := by decide
  unfold pnB
  rw [pnA_4 ha hb hc hd, e, em, land4 h1 h2 h3 (by omega) (by omega) (by omega), land4 (by omega) (by omega) (by omega) (by omega) (by omega) (by omega), p8_s2 _ h1 _ (by omega), p8_s2 _ h2 _ (by omega), p8_s2 _ h3 _ (by omega)]
  unfold p8b q4
  omega
theorem pnC_4 {a b c d : Nat} (ha : a < 256) (hb : b < 256) (hc : c < 256) (hd : d < 256) : pnC (q4 a b c d) = q4 (p8c a) (p8c b) (p8c c) (p8c d) := by
  have h1 := p8_s2l a ha
  have h2 := p8_s2l b hb
  have h3 := p8_s2l c hc
  have h4 := p8_s2l d hd
  have e : q4 (p8b a) (p8b b) (p8b c) (p8b d) + q4 (p8b a) (p8b b) (p8b c) (p8b d) / 16 = q4 (p8b a + p8b a / 16 + 16 * (p8b b % 16)) (p8b b + p8b b / 16 + 16 * (p8b c % 16)) (p8b c + p8b c / 16 + 16 * (p8b d % 16)) (p8b d + p8b d / 16 + 16 * 0) := by unfold q4; omega
  have em : (252645135 : Nat) = q4 15 15 15 15 := by decide
  obtain ⟨l1, g1⟩ := p8_s3 a ha (p8b b % 16) (by omega)
  obtain ⟨l2, g2⟩ := p8_s3 b hb (p8b c % 16) (by omega)
  obtain ⟨l3, g3⟩ := p8_s3 c hc (p8b d % 16) (by omega)
  obtain ⟨l4, g4⟩ := p8_s3 d hd 0 (by omega)
  unfold pnC
  rw [pnB_4 ha hb hc hd, e, em, land4 l1 l2 l3 (by omega) (by omega) (by omega), g1, g2, g3, g4]
theorem cN_sum {P Q : Nat → Bool} {n : Nat} : ∀ m, (∀ j, j < m → P (n + j) = Q j) → cN P (n + m) = cN P n + cN Q m := by
  intro m
  induction m with
  | zero => intro _; rfl
  | succ m ih =>
    intro h
    show cN P (n + m) + (if P (n + m) = true then 1 else 0) = cN P n + (cN Q m + (if Q m = true then 1 else 0))
    rw [ih fun j hj => h j (by omega), h m (by omega)]
    omega
theorem cN_4 {a b c d : Nat} (ha : a < 256) (hb : b < 256) (hc : c < 256) : cN (fun k => Nat.testBit (q4 a b c d) k) 32 = cN (fun k => Nat.testBit a k) 8 + cN (fun k => Nat.testBit b k) 8 + cN (fun k => Nat.testBit c k) 8 + cN (fun k => Nat.testBit d k) 8 := by
  have e : ∀ x y : Nat, x < 256 → ∀ k, Nat.testBit (x + 256 * y) k = if k < 8 then Nat.testBit x k else Nat.testBit y (k - 8) := fun x y hx k => by
    rw [show x + 256 * y = 2 ^ 8 * y + x by omega, Nat.testBit_two_pow_mul_add _ (by omega)]
  have s : ∀ x y m : Nat, x < 256 → cN (fun k => Nat.testBit (x + 256 * y) k) (8 + m) = cN (fun k => Nat.testBit x k) 8 + cN (fun k => Nat.testBit y k) m := fun x y m hx => by
    rw [cN_sum (Q := fun k => Nat.testBit y k) m fun j hj => by
      show Nat.testBit (x + 256 * y) (8 + j) = Nat.testBit y j
      rw [e x y hx, if_neg (by omega), show 8 + j - 8 = j by omega]]
    rw [cN_congr (Q := fun k => Nat.testBit x k) 8 fun j hj => by
      show Nat.testBit (x + 256 * y) j = Nat.testBit x j
      rw [e x y hx, if_pos hj]]
  unfold q4
  rw [show 32 = 8 + (8 + (8 + 8)) from rfl, s _ _ _ ha, s _ _ _ hb, s _ _ _ hc]
  omega
theorem pop_nat (n : Nat) (hn : n < 4294967296) : ((pnC n + pnC n / 256) + (pnC n + pnC n / 256) / 65536) % 64 = cN (fun k => Nat.testBit n k) 32 ∧ pnC n + pnC n / 256 + (pnC n + pnC n / 256) / 65536 < 4294967296 ∧ (n / 2 &&& 1431655765) ≤ n ∧ pnB n + pnB n / 16 < 4294967296 ∧ pnC n + pnC n / 256 < 4294967296 := by
  have en : n = q4 (n % 256) (n / 256 % 256) (n / 65536 % 256) (n / 16777216) := by unfold q4; omega
  have ha : n % 256 < 256 := by omega
  have hb : n / 256 % 256 < 256 := by omega
  have hc : n / 65536 % 256 < 256 := by omega
  have hd : n / 16777216 < 256 := by omega
  generalize n % 256 = a at *
  generalize n / 256 % 256 = b at *
  generalize n / 65536 % 256 = c at *
  generalize n / 16777216 = d at *
  have hA := pnA_4 ha hb hc hd
  have hB := pnB_4 ha hb hc hd
  have hC := pnC_4 ha hb hc hd
  have hN := cN_4 (d := d) ha hb hc
  rw [← en] at hA hB hC hN
  have ka := p8_c a ha
  have kb := p8_c b hb
  have kc := p8_c c hc
  have kd := p8_c d hd
  have ba := p8_s2l a ha
  have bb := p8_s2l b hb
  have bc := p8_s2l c hc
  have bd := p8_s2l d hd
  have hle : (n / 2 &&& 1431655765) ≤ n := Nat.le_trans Nat.and_le_left (Nat.div_le_self _ _)
  rw [hN, hC, hB, ← ka.1, ← kb.1, ← kc.1, ← kd.1]
  generalize p8c a = h0 at *
  generalize p8c b = h1 at *
  generalize p8c c = h2 at *
  generalize p8c d = h3 at *
  have f0 : q4 h0 h1 h2 h3 = h0 + 256 * (h1 + 256 * (h2 + 256 * h3)) := rfl
  have f1 : q4 h0 h1 h2 h3 / 256 = h1 + 256 * (h2 + 256 * h3) := by rw [f0]; omega
  have f2 : (q4 h0 h1 h2 h3 + q4 h0 h1 h2 h3 / 256) / 65536 = (h2 + h3) + 256 * h3 := by rw [f1, f0]; omega
  have f3 : q4 (p8b a) (p8b b) (p8b c) (p8b d) = p8b a + 256 * (p8b b + 256 * (p8b c + 256 * p8b d)) := rfl
  rw [f2, f1]
  refine ⟨?_, ?_, hle, ?_, ?_⟩
  · rw [f0]; omega
  · rw [f0]; omega
  · rw [f3]; omega
  · rw [f0]; omega
theorem uN1 (x : Int32) : ((x.toUInt32 >>> ((1 : Int32).toUInt32 &&& Int32.toUInt32 31)).toInt32).toBitVec.toNat = x.toBitVec.toNat / 2 := by
  show (x.toBitVec >>> (1 : Nat)).toNat = _
  rw [BitVec.toNat_ushiftRight, Nat.shiftRight_eq_div_pow]
theorem uN2 (x : Int32) : ((x.toUInt32 >>> ((2 : Int32).toUInt32 &&& Int32.toUInt32 31)).toInt32).toBitVec.toNat = x.toBitVec.toNat / 4 := by
  show (x.toBitVec >>> (2 : Nat)).toNat = _
  rw [BitVec.toNat_ushiftRight, Nat.shiftRight_eq_div_pow]
theorem uN4 (x : Int32) : ((x.toUInt32 >>> ((4 : Int32).toUInt32 &&& Int32.toUInt32 31)).toInt32).toBitVec.toNat = x.toBitVec.toNat / 16 := by
  show (x.toBitVec >>> (4 : Nat)).toNat = _
  rw [BitVec.toNat_ushiftRight, Nat.shiftRight_eq_div_pow]
theorem uN8 (x : Int32) : ((x.toUInt32 >>> ((8 : Int32).toUInt32 &&& Int32.toUInt32 31)).toInt32).toBitVec.toNat = x.toBitVec.toNat / 256 := by
  show (x.toBitVec >>> (8 : Nat)).toNat = _
  rw [BitVec.toNat_ushiftRight, Nat.shiftRight_eq_div_pow]
theorem uN16 (x : Int32) : ((x.toUInt32 >>> ((16 : Int32).toUInt32 &&& Int32.toUInt32 31)).toInt32).toBitVec.toNat = x.toBitVec.toNat / 65536 := by
  show (x.toBitVec >>> (16 : Nat)).toNat = _
  rw [BitVec.toNat_ushiftRight, Nat.shiftRight_eq_div_pow]
theorem iN_and (x y : Int32) : (x &&& y).toBitVec.toNat = x.toBitVec.toNat &&& y.toBitVec.toNat := by rw [Int32.toBitVec_and, BitVec.toNat_and]
theorem iN_add (x y : Int32) (h : x.toBitVec.toNat + y.toBitVec.toNat < 4294967296) : (x + y).toBitVec.toNat = x.toBitVec.toNat + y.toBitVec.toNat := by
  rw [Int32.toBitVec_add, BitVec.toNat_add, Nat.mod_eq_of_lt h]
theorem iN_sub (x y : Int32) (h : y.toBitVec.toNat ≤ x.toBitVec.toNat) : (x - y).toBitVec.toNat = x.toBitVec.toNat - y.toBitVec.toNat := by
  rw [Int32.toBitVec_sub, BitVec.toNat_sub]
  have h1 := x.toBitVec.isLt
  have h2 := y.toBitVec.isLt
  omega
theorem bitCount_I (x : Int32) : F_bitCount x = zI (cN (fun k => zB x k) 32) := by
  have hx : x.toBitVec.toNat < 4294967296 := x.toBitVec.isLt
  obtain ⟨k1, k2, k3, k4, k5⟩ := pop_nat x.toBitVec.toNat hx
  have hc : cN (fun k => zB x k) 32 = cN (fun k => Nat.testBit x.toBitVec.toNat k) 32 := cN_congr 32 fun j _ => (BitVec.testBit_toNat x.toBitVec).symm
  apply Int32.toBitVec_inj.mp
  apply BitVec.eq_of_toNat_eq
  have hle := cN_le (fun k => zB x k) 32
  have e0 : (zI (cN (fun k => zB x k) 32)).toBitVec.toNat = cN (fun k => zB x k) 32 := by
    show (BitVec.ofNat 32 _).toNat = _
    rw [BitVec.toNat_ofNat]
    omega
  rw [e0, hc, ← k1]
  unfold F_bitCount
  dsimp only
  generalize hA : x - ((x.toUInt32 >>> ((1 : Int32).toUInt32 &&& Int32.toUInt32 31)).toInt32 &&& 1431655765) = A
  have nA : A.toBitVec.toNat = pnA x.toBitVec.toNat := by
    have e1 : ((x.toUInt32 >>> ((1 : Int32).toUInt32 &&& Int32.toUInt32 31)).toInt32 &&& 1431655765).toBitVec.toNat = x.toBitVec.toNat / 2 &&& 1431655765 := by rw [iN_and, uN1]; rfl
    rw [← hA, iN_sub _ _ (by rw [e1]; exact k3), e1]; rfl
  generalize hB : (A &&& 858993459) + ((A.toUInt32 >>> ((2 : Int32).toUInt32 &&& Int32.toUInt32 31)).toInt32 &&& 858993459) = B
  have nB : B.toBitVec.toNat = pnB x.toBitVec.toNat := by
    have e1 : ((A.toUInt32 >>> ((2 : Int32).toUInt32 &&& Int32.toUInt32 31)).toInt32 &&& 858993459).toBitVec.toNat = pnA x.toBitVec.toNat / 4 &&& 858993459 := by rw [iN_and, uN2, nA]; rfl
    have e2 : (A &&& 858993459).toBitVec.toNat = pnA x.toBitVec.toNat &&& 858993459 := by rw [iN_and, nA]; rfl
    have l1 : (pnA x.toBitVec.toNat / 4 &&& 858993459) ≤ 858993459 := Nat.and_le_right
    have l2 : (pnA x.toBitVec.toNat &&& 858993459) ≤ 858993459 := Nat.and_le_right
    rw [← hB, iN_add _ _ (by rw [e1, e2]; omega), e1, e2]; rfl
  generalize hC : (B + (B.toUInt32 >>> ((4 : Int32).toUInt32 &&& Int32.toUInt32 31)).toInt32) &&& 252645135 = C
  have nC' : C.toBitVec.toNat = pnC x.toBitVec.toNat := by
    rw [← hC, iN_and, iN_add _ _ (by rw [uN4, nB]; exact k4), uN4, nB]; rfl
  generalize hD : C + (C.toUInt32 >>> ((8 : Int32).toUInt32 &&& Int32.toUInt32 31)).toInt32 = D
  have nD : D.toBitVec.toNat = pnC x.toBitVec.toNat + pnC x.toBitVec.toNat / 256 := by
    rw [← hD, iN_add _ _ (by rw [uN8, nC']; exact k5), uN8, nC']
  rw [iN_and, iN_add _ _ (by rw [uN16, nD]; exact k2), uN16, nD]
  show _ &&& 63 = _
  rw [show (63 : Nat) = 2 ^ 6 - 1 from rfl, Nat.and_two_pow_sub_one_eq_mod]
/-- of a set of items -/
theorem cN_30 {P : Nat → Bool} (h : ∀ k, 30 ≤ k → P k = false) : cN P 32 = cN P 30 := by
  show cN P 30 + (if P 30 = true then 1 else 0) + (if P 31 = true then 1 else 0) = _
  rw [h 30 (by omega), h 31 (by omega)]; rfl
