/-! PURE: bulk, the call -/
def zW40 : List zLoc := zWF ++ (zWI ++ [(71, some 4), (78, some 41), (72, none), (73, none), (74, none), (75, none), (177, none), (178, none), (179, none), (180, none), (181, none), (182, none)])
theorem zW40_f : ∀ q ∈ zWF, q ∈ zW40 := fun q h => List.mem_append_left _ h
theorem zW40_i : ∀ q ∈ zWI, q ∈ zW40 := fun q h => List.mem_append_right _ (List.mem_append_left _ h)
theorem zFMB.wr {r : Nat} {U V : Nat → Nat → Int32} (h : zFMB r U V) : zWr zW40 U V := by
  intro k j hc
  have n1 : k ≠ 181 := zCov.ne hc (a := 181) (by decide +kernel) (by omega)
  have n2 : k ≠ 182 := zCov.ne hc (a := 182) (by decide +kernel) (by omega)
  have g : zFMX U (fun q => if q = 181 ∨ q = 182 then U q else V q) := by
    refine ⟨fun q a => ?_, fun j a b => ?_⟩
    · show (if q = 181 ∨ q = 182 then U q else V q) = U q
      by_cases z : q = 181 ∨ q = 182
      · rw [if_pos z]
      · rw [if_neg z]; exact h.1 q (by omega)
    · show (if (78 : Nat) = 181 ∨ (78 : Nat) = 182 then U 78 else V 78) j = U 78 j
      rw [if_neg (by omega)]; exact h.2.1 j a b
  have e := g.wr k j (zCov.mono zW40_i hc)
  have e2 : (if k = 181 ∨ k = 182 then U k else V k) j = U k j := e
  rw [if_neg (by omega)] at e2
  exact e2
theorem zBX.wf {fl : Nat → Nat} {E U V : Nat → Nat → Int32} {d rn : Nat} (h : zBX fl E U d rn) (g : zWr zWF U V) : zBX fl E V d rn := by
  obtain ⟨⟨⟨h1, h1'⟩, h2, ⟨h3, h4, h5, h6⟩⟩, h7, h8, h9⟩ := h
  have o := fun {k : Nat} => zWF_out g (k := k)
  obtain ⟨g1, g2, g3, g4, g5⟩ := zWF_78 g
  refine ⟨⟨⟨fun k hk => by rw [o (k := 124) (by omega), o (k := 125) (by omega), o (k := 126) (by omega), o (k := 128) (by omega), o (k := 129) (by omega), o (k := 130) (by omega)]; exact h1 k hk, fun k hk => by rw [o (k := 127) (by omega)]; exact h1' k hk⟩, h2, ⟨fun k hk => by rw [o (k := 128) (by omega)]; exact h3 k hk, fun k hk => ?_, fun k hk => by rw [o (k := k) (by omega)]; exact h5 k hk, by rw [g3]; exact h6⟩⟩, h7, h8, by rw [g1]; exact h9⟩
  have := h8.lo hk
  have := h8.off hk
  rw [o (k := fl k) (by omega)]; exact h4 k hk
/-- the record stays -/
theorem zBK.go2 {S F : Nat → Nat → Int32} {n n' m : Nat} {rf : Nat → Nat} (h3 : rf m ≤ n) (h4 : ∀ b, b ≤ m → S 180 b = zI (rf b)) (h5 : ∀ b, b < m → ∃ p f fr ct v it od, zBKr S n b rf p f fr ct v it od) (hn : n ≤ n') (e1 : F 71 4 = zI m) (e2 : F 78 41 = zI m) (e3 : ∀ k, 72 ≤ k ∧ k ≤ 75 ∨ 177 ≤ k ∧ k ≤ 180 → F k = S k) (e181 : ∀ j, j < rf m → F 181 j = S 181 j ∧ F 182 j = S 182 j) (e4 : ∀ k, k < n → F 4 k = S 4 k ∧ F 5 k = S 5 k ∧ F 7 k = S 7 k ∧ F 8 k = S 8 k) : zBK F n' m := by
  have mono : ∀ t b, b + t = m → rf b ≤ rf m := by
    intro t
    induction t with
    | zero => intro b hb; rw [show b = m by omega]; exact Nat.le_refl _
    | succ t ih =>
      intro b hb
      have g := ih (b + 1) (by omega)
      obtain ⟨_, _, _, ct', _, _, _, ⟨_, _, _, a4, _⟩, _⟩ := h5 b (by omega)
      omega
  refine ⟨e1, e2, rf, by omega, fun b hb => by rw [e3 180 (by omega)]; exact h4 b hb, fun b hb => ?_⟩
  obtain ⟨p, f, fr, ct, v, it, od, ⟨a1, a2, a3, a4, a5⟩, c, g, k⟩ := h5 b hb
  have m1 := mono (m - (b + 1)) (b + 1) (by omega)
  refine ⟨p, f, fr, ct, v, it, od, ⟨a1, a2, a3, a4, by omega⟩, by rw [e3 72 (by omega), e3 73 (by omega), e3 74 (by omega), e3 75 (by omega)]; exact c, by rw [e3 177 (by omega), e3 178 (by omega), e3 179 (by omega)]; exact g, fun j hj => ?_⟩
  obtain ⟨x1, x2, x3, x4⟩ := e4 (fr + j) (by omega)
  obtain ⟨y1, y2⟩ := e181 (rf b + j) (by omega)
  rw [x1, x2, x3, x4, y1, y2]
  exact k j hj
/-- the class pushes -/
def zPushed (V : Nat → Nat → Int32) (m : Nat) (p f n c : Int32) : Nat → Nat → Int32 := z_uS (z_uS (z_uS (z_uS (z_uS V 72 m p) 73 m f) 74 m n) 75 m c) 71 4 (zI (m + 1))
theorem push_I {V : Nat → Nat → Int32} {m : Nat} (h : V 71 4 = zI m) (hm : m < 512) (p f n c : Int32) : F_Bulks_push V p f n c = zPushed V m p f n c := by
  have n1 : ¬ (512 : Int32) ≤ zI m := by rw [show (512 : Int32) = zI 512 from rfl, zI_le (by omega) (by omega)]; omega
  have pt : ∀ (W : Nat → Nat → Int32) (a : Nat) (x : Int32), zPut W a 512 (zI m) x = z_uS W a m x := fun W a x => zPut_I hm (by omega)
  unfold F_Bulks_push zPushed
  rw [h, if_neg n1]
  simp only [z_let, pt]
  rw [z_uS_ne _ _ _ (show (71 : Nat) ≠ 72 by omega), h, pt, z_uS_ne _ _ _ (show (71 : Nat) ≠ 73 by omega), z_uS_ne _ _ _ (show (71 : Nat) ≠ 72 by omega), h, pt, z_uS_ne _ _ _ (show (71 : Nat) ≠ 74 by omega), z_uS_ne _ _ _ (show (71 : Nat) ≠ 73 by omega), z_uS_ne _ _ _ (show (71 : Nat) ≠ 72 by omega), h, pt, z_uS_ne _ _ _ (show (71 : Nat) ≠ 75 by omega), z_uS_ne _ _ _ (show (71 : Nat) ≠ 74 by omega), z_uS_ne _ _ _ (show (71 : Nat) ≠ 73 by omega), z_uS_ne _ _ _ (show (71 : Nat) ≠ 72 by omega), h, zI_succ]
theorem pushed_f (V : Nat → Nat → Int32) (m : Nat) (p f n c : Int32) : (∀ k, k ≠ 71 → ¬ (72 ≤ k ∧ k ≤ 75) → zPushed V m p f n c k = V k) ∧ zPushed V m p f n c 71 4 = zI (m + 1) ∧ (zPushed V m p f n c 72 m = p ∧ zPushed V m p f n c 73 m = f ∧ zPushed V m p f n c 74 m = n ∧ zPushed V m p f n c 75 m = c) ∧ ∀ k, 72 ≤ k → k ≤ 75 → ∀ b, b ≠ m → zPushed V m p f n c k b = V k b := by
  unfold zPushed
  refine ⟨fun k a b => ?_, uS_at _ _ _ _, ⟨?_, ?_, ?_, ?_⟩, fun k a b i hi => ?_⟩
  · rw [z_uS_ne _ _ _ a, z_uS_ne _ _ _ (by omega), z_uS_ne _ _ _ (by omega), z_uS_ne _ _ _ (by omega), z_uS_ne _ _ _ (by omega)]
  · rw [z_uS_ne _ _ _ (by omega), z_uS_ne _ _ _ (by omega), z_uS_ne _ _ _ (by omega), z_uS_ne _ _ _ (by omega), uS_at]
  · rw [z_uS_ne _ _ _ (by omega), z_uS_ne _ _ _ (by omega), z_uS_ne _ _ _ (by omega), uS_at]
  · rw [z_uS_ne _ _ _ (by omega), z_uS_ne _ _ _ (by omega), uS_at]
  · rw [z_uS_ne _ _ _ (by omega), uS_at]
  · rw [z_uS_ne _ _ _ (by omega)]
    have st : ∀ (W : Nat → Nat → Int32) (q : Nat) (x : Int32), z_uS W q m x k i = W k i := fun W q x => by
      by_cases z : k = q
      · subst z; exact uS_nj _ _ _ hi
      · rw [z_uS_ne _ _ _ z]
    rw [st, st, st, st]
/-- the reference pushes -/
def zPushM (V : Nat → Nat → Int32) (m : Nat) (p f v t : Int32) : Nat → Nat → Int32 := z_uS (z_uS (z_uS (z_uS (z_uS (z_uS V 78 0 0) 177 m p) 178 m f) 179 m v) 78 41 (zI (m + 1))) 180 (m + 1) t
theorem pushM_f (V : Nat → Nat → Int32) (m : Nat) (p f v t : Int32) : (∀ k, k ≠ 78 → ¬ (177 ≤ k ∧ k ≤ 180) → zPushM V m p f v t k = V k) ∧ (zPushM V m p f v t 78 41 = zI (m + 1) ∧ zPushM V m p f v t 78 0 = 0 ∧ ∀ j, j ≠ 0 → j ≠ 41 → zPushM V m p f v t 78 j = V 78 j) ∧ (zPushM V m p f v t 177 m = p ∧ zPushM V m p f v t 178 m = f ∧ zPushM V m p f v t 179 m = v) ∧ zPushM V m p f v t 180 (m + 1) = t ∧ (∀ b, b ≠ m + 1 → zPushM V m p f v t 180 b = V 180 b) ∧ ∀ k, 177 ≤ k → k ≤ 179 → ∀ b, b ≠ m → zPushM V m p f v t k b = V k b := by
  unfold zPushM
  refine ⟨fun k a b => ?_, ⟨?_, ?_, fun j a b => ?_⟩, ⟨?_, ?_, ?_⟩, uS_at _ _ _ _, fun b hb => ?_, fun k a b i hi => ?_⟩
  · rw [z_uS_ne _ _ _ (by omega), z_uS_ne _ _ _ (by omega), z_uS_ne _ _ _ (by omega), z_uS_ne _ _ _ (by omega), z_uS_ne _ _ _ (by omega), z_uS_ne _ _ _ (by omega)]
  · rw [z_uS_ne _ _ _ (by omega), uS_at]
  · rw [z_uS_ne _ _ _ (by omega), uS_nj _ _ _ (by omega), z_uS_ne _ _ _ (by omega), z_uS_ne _ _ _ (by omega), z_uS_ne _ _ _ (by omega), uS_at]
  · rw [z_uS_ne _ _ _ (by omega), uS_nj _ _ _ b, z_uS_ne _ _ _ (by omega), z_uS_ne _ _ _ (by omega), z_uS_ne _ _ _ (by omega), uS_nj _ _ _ a]
  · rw [z_uS_ne _ _ _ (by omega), z_uS_ne _ _ _ (by omega), z_uS_ne _ _ _ (by omega), z_uS_ne _ _ _ (by omega), uS_at]
  · rw [z_uS_ne _ _ _ (by omega), z_uS_ne _ _ _ (by omega), z_uS_ne _ _ _ (by omega), uS_at]
  · rw [z_uS_ne _ _ _ (by omega), z_uS_ne _ _ _ (by omega), uS_at]
  · rw [uS_nj _ _ _ hb, z_uS_ne _ _ _ (by omega), z_uS_ne _ _ _ (by omega), z_uS_ne _ _ _ (by omega), z_uS_ne _ _ _ (by omega), z_uS_ne _ _ _ (by omega)]
  · have st : ∀ (W : Nat → Nat → Int32) (q : Nat) (x : Int32), z_uS W q m x k i = W k i := fun W q x => by
      by_cases z : k = q
      · subst z; exact uS_nj _ _ _ hi
      · rw [z_uS_ne _ _ _ z]
    rw [z_uS_ne _ _ _ (by omega), z_uS_ne _ _ _ (by omega), st, st, st, z_uS_ne _ _ _ (by omega)]
