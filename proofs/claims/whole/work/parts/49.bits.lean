/-! PURE: numbers as indices, bits -/
def zI (i : Nat) : Int32 := Int32.ofNat i
theorem zI_toInt {i : Nat} (h : i < 2147483648) : (zI i).toInt = i := Int32.toInt_ofNat_of_lt h
theorem zI_clamp {i : Nat} (h : i < 2147483648) : (zI i).toNatClampNeg = i := by
  show (zI i).toInt.toNat = i
  rw [zI_toInt h]
  rfl
theorem zI_succ {i : Nat} : zI i + 1 = zI (i + 1) := by
  unfold zI
  rw [Int32.ofNat_add]
  rfl
theorem zI_0 : zI 0 = 0 := rfl
theorem zI_of {p : Int32} (h : 0 ≤ p.toInt) : p = zI p.toNatClampNeg := by
  apply Int32.toInt_inj.mp
  have h2 : p.toInt < 2147483648 := Int32.toInt_lt p
  have := i_clamp h
  rw [zI_toInt (by omega)]
  omega
theorem zI_ex {p : Int32} {n : Nat} (h0 : 0 ≤ p.toInt) (h1 : p.toInt < n) (hn : n ≤ 2147483648) : ∃ i, i < n ∧ p = zI i := ⟨p.toNatClampNeg, by have := i_clamp h0; omega, zI_of h0⟩
theorem zI_inj {i j : Nat} (hi : i < 2147483648) (hj : j < 2147483648) : zI i = zI j ↔ i = j := by
  constructor
  · intro h
    have := congrArg Int32.toInt h
    rw [zI_toInt hi, zI_toInt hj] at this
    omega
  · intro h; rw [h]
theorem zI_le {i j : Nat} (hi : i < 2147483648) (hj : j < 2147483648) : zI i ≤ zI j ↔ i ≤ j := by
  rw [T_le, zI_toInt hi, zI_toInt hj]; omega
theorem zI_lt {i j : Nat} (hi : i < 2147483648) (hj : j < 2147483648) : zI i < zI j ↔ i < j := by
  rw [T_lt, zI_toInt hi, zI_toInt hj]; omega
theorem zI_n0 {i : Nat} (hi : i < 2147483648) : ¬ zI i < 0 := by
  rw [T_lt, zI_toInt hi]; show ¬ (i : Int) < 0; omega
theorem zAt_I {f : Nat → Int32} {len i : Nat} (h : i < len) (hl : len ≤ 2147483648) : zAt f len (zI i) = f i := by
  rw [zAt_in (by rw [zI_toInt (by omega)]; omega) (by rw [zI_toInt (by omega)]; omega), zI_clamp (by omega)]
theorem zPut_I {S : Nat → Nat → Int32} {a len i : Nat} {v : Int32} (h : i < len) (hl : len ≤ 2147483648) : zPut S a len (zI i) v = z_uS S a i v := by
  rw [zPut_in (by rw [zI_toInt (by omega)]; omega) (by rw [zI_toInt (by omega)]; omega), zI_clamp (by omega)]
theorem vp_in_I {len i : Nat} (h : i < len) (hl : len ≤ 2147483648) : vp_in (zI i) len := vp_inI (by rw [zI_toInt (by omega)]; omega) (by rw [zI_toInt (by omega)]; omega)
theorem zAt_out {f : Nat → Int32} {len : Nat} {i : Int32} (h : i.toInt < 0 ∨ (len : Int) ≤ i.toInt) : zAt f len i = 0 := by
  unfold zAt
  rw [if_pos]
  rw [T_lt]
  show i.toInt < 0 ∨ len ≤ i.toInt.toNat
  omega
theorem zPut_out {S : Nat → Nat → Int32} {a len : Nat} {i v : Int32} (h : i.toInt < 0 ∨ (len : Int) ≤ i.toInt) : zPut S a len i v = S := by
  unfold zPut
  rw [if_pos]
  rw [T_lt]
  show i.toInt < 0 ∨ len ≤ i.toInt.toNat
  omega
/-- a bit -/
def zB (p : Int32) (k : Nat) : Bool := p.toBitVec.getLsbD k
theorem zB_and (p q : Int32) (k : Nat) : zB (p &&& q) k = (zB p k && zB q k) := by
  unfold zB; rw [Int32.toBitVec_and, BitVec.getLsbD_and]
theorem zB_or (p q : Int32) (k : Nat) : zB (p ||| q) k = (zB p k || zB q k) := by
  unfold zB; rw [Int32.toBitVec_or, BitVec.getLsbD_or]
theorem zB_xor (p q : Int32) (k : Nat) : zB (p ^^^ q) k = (zB p k ^^ zB q k) := by
  unfold zB; rw [Int32.toBitVec_xor, BitVec.getLsbD_xor]
theorem zB_0 (k : Nat) : zB 0 k = false := by
  unfold zB; simp
theorem zB_m1 {k : Nat} (h : k < 32) : zB (-1) k = true := by
  have : ∀ k, k < 32 → zB (-1) k = true := by decide
  exact this k h
theorem zB_ge (p : Int32) {k : Nat} (h : 32 ≤ k) : zB p k = false := BitVec.getLsbD_of_ge _ _ h
theorem zB_ext {p q : Int32} (h : ∀ k, k < 32 → zB p k = zB q k) : p = q := Int32.toBitVec_inj.mp (BitVec.eq_of_getLsbD_eq h)
theorem zB_not {p : Int32} {k : Nat} (h : k < 32) : zB (p ^^^ (-1)) k = !zB p k := by
  rw [zB_xor, zB_m1 h]; cases zB p k <;> rfl
theorem and_one_bv (v : BitVec 32) : (v &&& 1#32 = 1#32) ↔ v.getLsbD 0 = true := by
  constructor
  · intro h
    have := congrArg (fun x => BitVec.getLsbD x 0) h
    simpa using this
  · intro h
    apply BitVec.eq_of_getLsbD_eq
    intro i hi
    rw [BitVec.getLsbD_and]
    by_cases h0 : i = 0
    · subst h0; rw [h]; rfl
    · have : BitVec.getLsbD (1#32) i = false := by simp [h0]
      rw [this]; simp
theorem sh_amt : ∀ k, k < 32 → ((zI k &&& 31).toBitVec.smod 32).toNat = k := by decide
theorem zB_shr {p : Int32} {k : Nat} (h : k < 32) : ((p >>> (zI k &&& 31)) &&& 1 = 1) ↔ zB p k = true := by
  rw [← Int32.toBitVec_inj, Int32.toBitVec_and, Int32.toBitVec_shiftRight]
  show (_ &&& 1#32 = 1#32) ↔ _
  rw [and_one_bv]
  unfold zB
  rw [show BitVec.sshiftRight' p.toBitVec ((zI k &&& 31).toBitVec.smod 32) = BitVec.sshiftRight p.toBitVec ((zI k &&& 31).toBitVec.smod 32).toNat from rfl, sh_amt k h, BitVec.getLsbD_sshiftRight]
  simp [h]
theorem zB_one : ∀ k, k < 32 → ∀ j, j < 32 → zB ((1 : Int32) <<< (zI k &&& 31)) j = decide (j = k) := by decide +kernel
theorem T_isIn_I (S : Nat → Nat → Int32) {p : Int32} {k : Nat} (h : k < 31) : F_T_isIn S p (zI k) = if zB p k = true then 1 else 0 := by
  unfold F_T_isIn
  rw [if_neg (zI_n0 (by omega)), if_neg (by rw [show (31 : Int32) = zI 31 from rfl, zI_le (by omega) (by omega)]; omega)]
  by_cases hb : zB p k = true
  · rw [if_pos hb, if_pos ((zB_shr (by omega)).mpr hb)]
  · rw [if_neg hb, if_neg (fun e => hb ((zB_shr (by omega)).mp e))]
theorem T_isIn_out (S : Nat → Nat → Int32) {p i : Int32} (h : i.toInt < 0 ∨ 31 ≤ i.toInt) : F_T_isIn S p i = 0 := by
  unfold F_T_isIn
  by_cases h0 : i < 0
  · rw [if_pos h0]
  · rw [if_neg h0]
    rw [T_lt] at h0
    rw [if_pos]
    rw [T_le]
    show (31 : Int) ≤ i.toInt
    have : (0 : Int32).toInt = 0 := rfl
    omega
theorem T_bit_I (S : Nat → Nat → Int32) {k : Nat} (h : k < 31) : F_T_bit S (zI k) = (1 : Int32) <<< (zI k &&& 31) := by
  unfold F_T_bit
  rw [if_neg (zI_n0 (by omega)), if_neg (by rw [show (31 : Int32) = zI 31 from rfl, zI_le (by omega) (by omega)]; omega)]
theorem T_bit_B (S : Nat → Nat → Int32) {k j : Nat} (h : k < 31) (hj : j < 32) : zB (F_T_bit S (zI k)) j = decide (j = k) := by
  rw [T_bit_I S h, zB_one k (by omega) j hj]
theorem T_bit_out (S : Nat → Nat → Int32) {i : Int32} (h : i.toInt < 0 ∨ 31 ≤ i.toInt) : F_T_bit S i = 0 := by
  unfold F_T_bit F_T_bit_j16
  by_cases h0 : i < 0
  · rw [if_pos h0]
  · rw [if_neg h0]
    rw [T_lt] at h0
    rw [if_pos]
    rw [T_le]
    show (31 : Int) ≤ i.toInt
    have : (0 : Int32).toInt = 0 := rfl
    omega
theorem MF_has_I (fa : Nat) (S : Nat → Nat → Int32) {k : Nat} (h : k < 31) : F_MF_has fa S (zI k) = if zB (S fa 0) k = true then 1 else 0 := by
  unfold F_MF_has
  by_cases hb : zB (S fa 0) k = true
  · rw [if_pos hb, if_pos ((zB_shr (by omega)).mpr hb)]
  · rw [if_neg hb, if_neg (fun e => hb ((zB_shr (by omega)).mp e))]
/-- a set, less a bit that it has -/
theorem zB_sub {p : Int32} {k j : Nat} (h : k < 31) (hb : zB p k = true) (hj : j < 32) : zB (p - ((1 : Int32) <<< (zI k &&& 31))) j = (zB p j && !decide (j = k)) := by
  have e : p = (p &&& (((1 : Int32) <<< (zI k &&& 31)) ^^^ (-1))) ||| ((1 : Int32) <<< (zI k &&& 31)) := by
    apply zB_ext
    intro i hi
    rw [zB_or, zB_and, zB_not hi, zB_one k (by omega) i hi]
    by_cases hik : i = k
    · subst hik; simp [hb]
    · simp [hik]
  have e2 : p - ((1 : Int32) <<< (zI k &&& 31)) = p &&& (((1 : Int32) <<< (zI k &&& 31)) ^^^ (-1)) := by
    have e3 : p.toBitVec = (p &&& (((1 : Int32) <<< (zI k &&& 31)) ^^^ (-1))).toBitVec + ((1 : Int32) <<< (zI k &&& 31)).toBitVec := by
      rw [BitVec.add_eq_or_of_and_eq_zero]
      · exact congrArg Int32.toBitVec e
      · apply BitVec.eq_of_getLsbD_eq
        intro i hi
        have h1 : zB ((p &&& (((1 : Int32) <<< (zI k &&& 31)) ^^^ (-1))) &&& ((1 : Int32) <<< (zI k &&& 31))) i = false := by
          rw [zB_and, zB_and, zB_not hi, zB_one k (by omega) i hi]
          by_cases hik : i = k
          · subst hik; simp
          · simp [hik]
        unfold zB at h1
        rw [Int32.toBitVec_and] at h1
        rw [h1]
        simp
    apply Int32.toBitVec_inj.mp
    rw [Int32.toBitVec_sub]
    rw [e3]
    exact BitVec.add_sub_cancel _ _
  rw [e2, zB_and, zB_not hj, zB_one k (by omega) j hj]
