/-! PURE: what holds between calls -/
theorem zAg.mono {D D' : List zLoc} {S F : Nat → Nat → Int32} (h : zAg D' S F) (hD : ∀ q ∈ D, q ∈ D') : zAg D S F := fun k j hc => h k j (by
  obtain ⟨a, ha, ha2⟩ := List.any_eq_true.mp hc
  exact List.any_eq_true.mpr ⟨a, hD a ha, ha2⟩)
/-- settings -/
def zIst (fl : Nat → Nat) (S : Nat → Nat → Int32) : Prop := (zCA S ∧ zCK S ∧ zCI S ∧ zCF fl S S ∧ zCQ S ∧ zCR S ∧ zCW S) ∧ eK S ∧ zKG2 S
/-- the log, and what goes with it -/
def zIlg (m : Nat) (S : Nat → Nat → Int32) : Prop := ∃ d A m', (zOk d A ∧ A.2.1 ≤ 800) ∧ (zRC S A ∧ zRM 86 S A) ∧ (S 0 14 = zI d ∧ S 78 1 = zI d) ∧ zRK S (zCnt A.1 A.2.1) ∧ (zBK S A.2.1 m' ∧ m' ≤ m) ∧ zSoM S
def zInv (m : Nat) (fl : Nat → Nat) (S : Nat → Nat → Int32) : Prop := zIst fl S ∧ zIlg m S
theorem zInv.up {m : Nat} {fl : Nat → Nat} {S : Nat → Nat → Int32} (h : zInv m fl S) : zInv (m + 1) fl S := by
  obtain ⟨h1, d, A, m', a, b, c, e, ⟨g, g2⟩, k⟩ := h
  exact ⟨h1, d, A, m', a, b, c, e, ⟨g, by omega⟩, k⟩
/-- what a call about items starts from -/
theorem zInv.b0 {m : Nat} {fl : Nat → Nat} {S : Nat → Nat → Int32} (h : zInv m fl S) : ∃ d A rn m', zB0 fl S d A rn ∧ zRK S (zCnt A.1 A.2.1) ∧ zBK S A.2.1 m' ∧ m' ≤ m ∧ zSoM S := by
  obtain ⟨⟨⟨ca, ck, ci, cf, cq, cr, cw⟩, hk, hg⟩, d, A, m', a, ⟨b1, b2⟩, c, e, ⟨g, g2⟩, k⟩ := h
  obtain ⟨rn, r1, r2⟩ := zRuOk.of cr
  refine ⟨d, A, rn, m', ⟨⟨ca, ck, hk⟩, ⟨r1, r2⟩, ⟨cf.fl, fun q hq => ?_⟩, c, a, b1, b2⟩, e, g, g2, k⟩
  obtain ⟨c', f1, f2⟩ := cf.flow hq
  exact f1.states.symm
theorem eK.ag {S F : Nat → Nat → Int32} (h : eK S) (e1 : F 45 = S 45) (e2 : F 46 = S 46) : eK F := fun k hk => by rw [e1, e2]; exact h k hk
theorem zKG2.ag {S F : Nat → Nat → Int32} (h : zKG2 S) (e1 : F 47 = S 47) (e2 : F 49 = S 49) : zKG2 F := ⟨fun k hk => by rw [e1]; exact h.1 k hk, fun k hk => by rw [e1, e2]; exact h.2 k hk⟩
/-- states in their flows, cell by cell -/
theorem zSoM.cg {S F : Nat → Nat → Int32} {d : Nat} {A : zA} (h : zSoM S) (hA : zOk d A) (hC : zRC F A) (hC0 : zRC S A) (e : ∀ k, k < 3 → F 55 k = S 55 k) : zSoM F := by
  refine hC.so.mpr fun i hi hw => ?_
  have g := hC0.so.mp h i hi hw
  obtain ⟨k, k3, ek⟩ := hA.rg.kind hi hw
  unfold eS at g ⊢
  rw [ek, zI_clamp (by omega)] at g ⊢
  rw [e k k3]; exact g
def zDL : List zLoc := [(0, some 14), (78, some 1), (78, some 2), (1, some 7), (2, none), (3, none), (4, none), (5, none), (6, none), (7, none), (8, none), (9, none), (10, none), (11, none), (12, none), (79, none), (80, none), (81, none), (82, none), (83, none), (84, none), (85, none), (86, none), (87, none), (88, none), (89, none), (90, none), (91, none), (92, none), (93, none), (94, none), (95, none), (96, none), (97, none), (55, some 0), (55, some 1), (55, some 2)]
def zDZ : List zLoc := zDL ++ (zDRk ++ zDBk)
/-- a call that leaves the log -/
theorem zIlg.keep {m : Nat} {S F : Nat → Nat → Int32} (h : zIlg m S) (g : zAg zDZ S F) : zIlg m F := by
  obtain ⟨d, A, m', ⟨a1, a2⟩, ⟨b1, b2⟩, ⟨c1, c2⟩, e, ⟨k1, k2⟩, s⟩ := h
  have gL : zAg zDL S F := g.mono fun q hq => List.mem_append_left _ hq
  have gR : zAg zDRk S F := g.mono fun q hq => List.mem_append_right _ (List.mem_append_left _ hq)
  have gB : zAg zDBk S F := g.mono fun q hq => List.mem_append_right _ (List.mem_append_right _ hq)
  have cl : ∀ k, 2 ≤ k ∧ k ≤ 12 ∨ 79 ≤ k ∧ k ≤ 97 → F k = S k := fun k hk => by
    have : ∀ k, k < 98 → (2 ≤ k ∧ k ≤ 12 ∨ 79 ≤ k ∧ k ≤ 97) → ((k, none) : zLoc) ∈ zDL := by decide +kernel
    exact gL.cell (by rw [if_pos (show k < 194 by omega)]; exact this k (by omega) hk)
  have hC : zRC F A := b1.ag (gL.slot (a := 1) (j := 7) (by decide)) (fun k hk => cl k (by omega))
  refine ⟨d, A, m', ⟨a1, a2⟩, ⟨hC, b2.ag (by omega) (gL.slot (a := 78) (j := 2) (by decide)) (fun k hk => cl k (by omega))⟩, ⟨(gL.slot (a := 0) (j := 14) (by decide)).trans c1, (gL.slot (a := 78) (j := 1) (by decide)).trans c2⟩, e.ag gR, ⟨k1.go (Nat.le_refl _) (gB.slot (a := 71) (j := 4) (by decide)) (gB.slot (a := 78) (j := 41) (by decide)) gB.bk (fun k _ => ?_), k2⟩, s.cg a1 hC b1 fun k hk => ?_⟩
  · rw [cl 4 (by omega), cl 5 (by omega), cl 7 (by omega), cl 8 (by omega)]; exact ⟨Eq.refl _, Eq.refl _, Eq.refl _, Eq.refl _⟩
  · have h0 : F 55 0 = S 55 0 := gL.slot (by decide)
    have h1 : F 55 1 = S 55 1 := gL.slot (by decide)
    have h2 : F 55 2 = S 55 2 := gL.slot (by decide)
    obtain rfl | rfl | rfl : k = 0 ∨ k = 1 ∨ k = 2 := by omega
    · exact h0
    · exact h1
    · exact h2
/-- a call about items: the log grows or stays -/
def zDY : List zLoc := (0, some 14) :: (78, some 1) :: (55, none) :: zDRk
theorem zIlg.grow {m m' : Nat} {fl : Nat → Nat} {S F : Nat → Nat → Int32} {d : Nat} {A B : zA} {rn : Nat} (h : zB0 fl S d A rn) (hK : zRK S (zCnt A.1 A.2.1)) (s : zSoM S) (g : zAg zDY S F) (b1 : zOk d B) (b2 : B.2.1 ≤ 800) (b3 : zRC F B) (b4 : zRM 86 F B) (b5 : zCN S B) (hB : zBK F B.2.1 m') (hm : m' ≤ m) : zIlg m F := by
  have e : zCnt B.1 B.2.1 = zCnt A.1 A.2.1 := by
    have c1 := b1.cnt
    have c2 := h.ok.cnt
    exact (zI_inj (by omega) (by omega)).mp (b5.1.symm.trans h.cn.1)
  have g55 : F 55 = S 55 := g.cell (a := 55) (by decide)
  have hd1 : S 78 1 = zI d := (h.bm (zFX.rfl (S := S))).d
  refine ⟨d, B, m', ⟨b1, b2⟩, ⟨b3, b4⟩, ⟨(g.slot (a := 0) (j := 14) (by decide)).trans h.d, (g.slot (a := 78) (j := 1) (by decide)).trans hd1⟩, by rw [e]; exact hK.ag (g.mono fun q hq => List.mem_cons_of_mem _ (List.mem_cons_of_mem _ (List.mem_cons_of_mem _ hq))), ⟨hB, hm⟩, b3.so.mpr fun i hi hw => ?_⟩
  have t := b5.2.2 s i hi hw
  unfold eS at t ⊢
  rw [g55]; exact t
/-- settings stay -/
def zDS : List zLoc := zDA ++ (zDK ++ (zDI ++ (zDF ++ (zDQ ++ (zDR ++ zDW)))))
theorem zIst.keep {fl : Nat → Nat} {S F : Nat → Nat → Int32} (h : zIst fl S) (g : zAg zDS S F) : zIst fl F := by
  obtain ⟨⟨ca, ck, ci, cf, cq, cr, cw⟩, hk, hg⟩ := h
  have gK : zAg zDK S F := g.mono fun q hq => List.mem_append_right _ (List.mem_append_left _ hq)
  exact ⟨⟨ca.ag (g.mono fun q hq => List.mem_append_left _ hq), ck.ag gK, ci.ag (g.mono fun q hq => List.mem_append_right _ (List.mem_append_right _ (List.mem_append_left _ hq))), cf.ag (g.mono fun q hq => List.mem_append_right _ (List.mem_append_right _ (List.mem_append_right _ (List.mem_append_left _ hq)))), cq.ag (g.mono fun q hq => List.mem_append_right _ (List.mem_append_right _ (List.mem_append_right _ (List.mem_append_right _ (List.mem_append_left _ hq))))), cr.ag (g.mono fun q hq => List.mem_append_right _ (List.mem_append_right _ (List.mem_append_right _ (List.mem_append_right _ (List.mem_append_right _ (List.mem_append_left _ hq)))))), cw.ag (g.mono fun q hq => List.mem_append_right _ (List.mem_append_right _ (List.mem_append_right _ (List.mem_append_right _ (List.mem_append_right _ (List.mem_append_right _ hq))))))⟩, hk.ag (gK.cell (by decide)) (gK.cell (by decide)), hg.ag (gK.cell (by decide)) (gK.cell (by decide))⟩
/-- a call that writes neither -/
theorem zInv.still {m : Nat} {fl : Nat → Nat} {S F : Nat → Nat → Int32} {W : List zLoc} (h : zInv m fl S) (g : zWr W S F) (h1 : zDisj W zDS = true) (h2 : zDisj W zDZ = true) : zInv (m + 1) fl F := zInv.up ⟨h.1.keep (g.ag h1), h.2.keep (g.ag h2)⟩
/-- a call about items -/
theorem zInv.item {m : Nat} {fl : Nat → Nat} {S F : Nat → Nat → Int32} {d : Nat} {A : zA} {rn m' : Nat} (h : zInv m fl S) (h0 : zB0 fl S d A rn) (hK : zRK S (zCnt A.1 A.2.1)) (hB : zBK S A.2.1 m') (hm : m' ≤ m) (s : zSoM S) (g : zEnd S F d) : zInv (m + 1) fl F := by
  obtain ⟨B, b1, b2, b3, b4, b5, b6⟩ := g.bk h0 hB
  exact zInv.up ⟨h.1.keep (g.1.ag (by decide +kernel)), .grow h0 hK s (g.1.ag (by decide +kernel)) b1 b2 b3 b4 b5 b6 hm⟩
