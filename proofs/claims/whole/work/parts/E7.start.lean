/-! PURE: at the start -/
theorem zEqN.of0 {n : Nat} {f g : Nat → Int32} (h : ∀ k, k < n → f k = g k) : zEqN n f g := h
/-- the world of no items -/
def wSt (S : Nat → Nat → Int32) : zWd := ((fun _ => false), (fun i c => S 10 (10 * i + c)), (fun _ _ _ => false), fun _ => 0)
theorem Ilg_start {S : Nat → Nat → Int32} (h1 : S 0 14 = 0 ∧ S 78 1 = 0 ∧ S 1 7 = 0 ∧ S 78 2 = 0 ∧ S 9 3 = 0 ∧ S 86 0 = 0 ∧ S 68 2 = 0 ∧ S 71 4 = 0 ∧ S 78 41 = 0 ∧ S 180 0 = 0) (h11 : ∀ q, q < 90 → S 11 q = 0) (h12 : ∀ q, q < 24 → S 12 q = 0) (h95 : ∀ q, q < 30 → S 95 q = 0) (h96 : ∀ q, q < 2700 → S 96 q = 0) (h97 : ∀ q, q < 24 → S 97 q = 0) : zIlg 0 S := by
  obtain ⟨a1, a2, a3, a4, a5, a6, a7, a8, a9, a10⟩ := h1
  have e : ∀ (t i : Nat), t < 3 → i < 30 → 30 * t + i < 90 := fun t i a b => by omega
  refine ⟨0, (fun _ => ((0, 0, 0, 0, 0, 0), 0, 0), 0, wSt S), 0, ⟨⟨fun i hi => absurd hi (Nat.not_lt_zero _), fun i hi => absurd hi (Nat.not_lt_zero _), ⟨fun i hi => absurd hi (Nat.not_lt_zero _), fun i j _ hj => absurd hj (Nat.not_lt_zero _)⟩, ⟨fun _ _ => Eq.refl _, (fun _ _ z => by cases z), fun _ _ _ _ _ _ => Eq.refl _, fun _ _ => Eq.refl _⟩, Nat.zero_le _⟩, Nat.zero_le _⟩, ⟨⟨⟨a3, fun i hi => absurd hi (Nat.not_lt_zero _)⟩, ⟨fun i _ => ?_, fun i _ => ?_, fun i _ c _ => Eq.refl _, fun t ht i hi j _ => ?_, fun t ht i hi j _ => ?_, fun k hk => h12 k hk⟩⟩, ⟨⟨a4, fun i hi => absurd hi (Nat.not_lt_zero _)⟩, ⟨fun i hi => ?_, (fun i _ z => by cases z), fun t ht i hi j hj => ?_, fun k hk => h97 k hk⟩, a6⟩⟩, ⟨a1, a2⟩, ⟨a7, fun _ => 0, fun i hi => absurd hi (Nat.not_lt_zero _), fun i hi => absurd hi (Nat.not_lt_zero _)⟩, ⟨⟨a8, a9, fun _ => 0, Nat.zero_le _, fun b hb => by rw [show b = 0 by omega]; exact a10, fun b hb => absurd hb (Nat.not_lt_zero _)⟩, Nat.zero_le _⟩, fun i _ z => ?_⟩
  · show zB (S 9 3) i = false
    rw [a5, zB_0]
  · show zB (S 9 3) i = false
    rw [a5, zB_0]
  · show zB (S 11 (30 * t + i)) j = false
    rw [h11 _ (e t i ht hi), zB_0]
  · show zB (S 11 (30 * t + i)) j = false
    rw [h11 _ (e t i ht hi), zB_0]
  · show S 95 i = if false = true then 1 else 0
    rw [h95 i hi]; rfl
  · show S 96 (900 * t + 30 * i + j) = if false = true then 1 else 0
    rw [h96 _ (by omega)]; rfl
  · rw [a5, zB_0] at z; cases z
theorem Ist_start {fl : Nat → Nat} {S : Nat → Nat → Int32} (hfl : zFl fl) (hA : zCA S) (hK : zCK S) (hI : zCI S) (hF : ∀ k, k < 3 → S 55 k = 1 ∧ S 56 k = 0 ∧ S (fl k) 0 = 1 ∧ S (fl k) 1 = 0) (hd : S 54 4 = -1 ∧ S 78 26 = -1) (hQ : zCQ S) (hR : S 59 8 = 0 ∧ S 78 31 = 0) (hW : (∀ q, q < 8 → S 76 q = 0 ∧ S 77 q = 0 ∧ S 184 q = 0) ∧ ∀ q, q < 240 → S 183 q = 0) (hk : eK S) (hg : zKG2 S) : zIst fl S := by
  refine ⟨⟨hA, hK, hI, ⟨hfl, fun k hk => ?_, hd.1.trans hd.2.symm, fun z => absurd hd.1 z⟩, hQ, ⟨⟨hR.1.trans hR.2.symm, by rw [hR.1]; decide, by rw [hR.1]; decide⟩, fun i hi => ?_⟩, ⟨fun p hp i hi => ?_, fun p hp i _ => ?_, fun p hp => ?_⟩⟩, hk, hg⟩
  · obtain ⟨f1, f2, f3, f4⟩ := hF k hk
    refine ⟨0, ⟨Nat.zero_le _, f1.trans f3.symm, f2, f4, fun j hj => absurd hj (Nat.not_lt_zero _)⟩, ?_, fun q hq => ?_, fun j hj => absurd hj (Nat.not_lt_zero _)⟩
    · rw [f1]; decide
    · rw [f1, show (1 : Int32) = bI true from rfl]
      show (1 : Int32).toBitVec.getLsbD q = false
      have e : (1 : Int32).toBitVec = 1#32 := rfl
      rw [e, BitVec.getLsbD_one]
      simp; omega
  · rw [hR.1] at hi
    have : (0 : Int32).toInt = 0 := rfl
    omega
  · rw [(hW.1 p hp).1, hW.2 _ (by omega), zB_0]; rfl
  · rw [(hW.1 p hp).1, zB_0]
  · obtain ⟨_, w2, w3⟩ := hW.1 p hp
    rw [w2, w3]; exact ⟨Eq.refl _, by decide, by decide⟩
