/-! PURE: a state of entries and live world; a change of it -/
/-- entries, how many, the live world -/
abbrev zA := zLg × Nat × zWd
def lo_c (c : Nat) : Int := if c = 0 then 0 else if c = 6 then 0 else if c = 8 then 0 else if c = 9 then 0 else -1
def hi_c (c : Nat) : Int := if c = 0 then 5 else if c < 4 then 99 else if c = 4 then 7 else if c = 5 then 29 else if c = 6 then 2 else if c = 7 then 3 else 2
def rgC (c : Nat) (v : Int32) : Prop := lo_c c ≤ v.toInt ∧ v.toInt ≤ hi_c c
/-- ranges of a world -/
def zRg (w : zWd) : Prop := (∀ i, i < 30 → w.1 i = true → ∀ c, c < 10 → rgC c (w.2.1 i c)) ∧ ∀ k, k < 24 → 0 ≤ (w.2.2.2 k).toInt ∧ (w.2.2.2 k).toInt ≤ 15
/-- no circles, by ranks; parents and links are there -/
def zLv (w : zWd) : Prop := (∃ r : Nat → Nat, ∀ i, i < 30 → w.1 i = true → ∀ j, j < 30 → w.2.1 i 5 = zI j → w.1 j = true ∧ r j < r i) ∧ (∀ t, t < 3 → ∀ i, i < 30 → ∀ j, j < 30 → w.2.2.1 t i j = true → w.1 i = true ∧ w.1 j = true ∧ i ≠ j) ∧ ∀ i, i < 30 → ∀ j, j < 30 → w.2.2.1 1 i j = w.2.2.1 1 j i
/-- what an entry may say -/
def zEv (e : zEnt) (w : zWd) : Prop := (e.1 = 0 → 0 ≤ e.2.2.2.2.2.toInt ∧ e.2.2.2.2.2.toInt ≤ 15) ∧ (e.1 = 2 → rgC e.2.2.1 e.2.2.2.2.2) ∧ (e.1 = 2 → e.2.2.1 = 5 → ∃ r : Nat → Nat, (∀ i, i < 30 → w.1 i = true → i ≠ e.2.1 → ∀ j, j < 30 → w.2.1 i 5 = zI j → r j < r i) ∧ ∀ j, j < 30 → e.2.2.2.2.2 = zI j → w.1 j = true ∧ r j < r e.2.1) ∧ (e.1 = 3 → w.1 e.2.1 = true ∧ w.1 e.2.2.2.1 = true)
theorem rgC_beg (k p : Nat) (hk : k < 3) (hp : p < 3) : ∀ c, c < 10 → rgC c (zBegC (zI k) (zI p) c) := by
  intro c hc
  have ek := zI_toInt (show k < 2147483648 by omega)
  have ep := zI_toInt (show p < 2147483648 by omega)
  have e1 : (-1 : Int32).toInt = -1 := rfl
  have e0 : (0 : Int32).toInt = 0 := rfl
  unfold rgC lo_c hi_c zBegC
  repeat' split
  all_goals first
    | omega
    | (rw [ek]; omega)
    | (rw [ep]; omega)
    | (rw [e1]; omega)
    | (rw [e0]; omega)
theorem zRg_app {e : zEnt} {w : zWd} (h : zRg w) (he : zEok e) (hr : (e.1 = 0 → 0 ≤ e.2.2.2.2.2.toInt ∧ e.2.2.2.2.2.toInt ≤ 15) ∧ (e.1 = 2 → rgC e.2.2.1 e.2.2.2.2.2)) : zRg (zApp e w) := by
  obtain ⟨h1, h2⟩ := h
  obtain ⟨r0, r2⟩ := hr
  unfold zApp
  rcases he with ⟨t0, ha, hb⟩ | ⟨t0, ha, hb, hcc⟩ | ⟨t0, ha, hb⟩ | ⟨t0, ha, hb, hcc, hne, ⟨ob, ho⟩, ⟨nb, hn⟩⟩
  · rw [if_pos t0]
    refine ⟨h1, fun k hk => ?_⟩
    show 0 ≤ (if k = _ then _ else w.2.2.2 k).toInt ∧ (if k = _ then _ else w.2.2.2 k).toInt ≤ 15
    split
    · exact r0 t0
    · exact h2 k hk
  · rw [if_neg (by omega), if_pos t0]
    refine ⟨fun i hi hw c hc => ?_, h2⟩
    show rgC c (if i = e.2.1 then zBegC (zI e.2.2.1) (zI e.2.2.2.1) c else w.2.1 i c)
    have hw' : (if i = e.2.1 then true else w.1 i) = true := hw
    by_cases q : i = e.2.1
    · rw [if_pos q]; exact rgC_beg _ _ hb hcc c hc
    · rw [if_neg q] at hw' ⊢; exact h1 i hi hw' c hc
  · rw [if_neg (by omega), if_neg (by omega), if_pos t0]
    refine ⟨fun i hi hw c hc => ?_, h2⟩
    show rgC c (if i = _ ∧ c = _ then _ else w.2.1 i c)
    split
    · rename_i q; rw [q.2]; exact r2 t0
    · exact h1 i hi hw c hc
  · rw [if_neg (by omega), if_neg (by omega), if_neg (by omega)]
    unfold zSetL
    split
    · exact ⟨h1, h2⟩
    · exact ⟨h1, h2⟩
theorem zLv_app {e : zEnt} {w : zWd} (h : zLv w) (he : zEok e) (ho : zOld e w) (hv : zEv e w) : zLv (zApp e w) := by
  obtain ⟨⟨r, h1⟩, h2, h3⟩ := h
  obtain ⟨v0, v2, v5, v3⟩ := hv
  unfold zApp
  rcases he with ⟨t0, ha, hb⟩ | ⟨t0, ha, hb, hcc⟩ | ⟨t0, ha, hb⟩ | ⟨t0, ha, hb, hcc, hne, ⟨ob, hoo⟩, ⟨nb, hn⟩⟩
  · rw [if_pos t0]
    exact ⟨⟨r, h1⟩, h2, h3⟩
  · rw [if_neg (by omega), if_pos t0]
    have hfree := ho.2.1 t0
    refine ⟨⟨r, fun i hi hw j hj hp => ?_⟩, fun t ht i hi j hj hl => ?_, h3⟩
    · have hw' : (if i = e.2.1 then true else w.1 i) = true := hw
      have hp' : (if i = e.2.1 then zBegC (zI e.2.2.1) (zI e.2.2.2.1) 5 else w.2.1 i 5) = zI j := hp
      show (if j = e.2.1 then true else w.1 j) = true ∧ r j < r i
      by_cases q : i = e.2.1
      · rw [if_pos q] at hp'
        have : (-1 : Int32) = zI j := hp'
        have := congrArg Int32.toInt this
        rw [zI_toInt (by omega)] at this
        have e1 : (-1 : Int32).toInt = -1 := rfl
        omega
      · rw [if_neg q] at hw' hp'
        obtain ⟨g1, g2⟩ := h1 i hi hw' j hj hp'
        exact ⟨by split <;> first | rfl | exact g1, g2⟩
    · obtain ⟨g1, g2, g3⟩ := h2 t ht i hi j hj hl
      exact ⟨by show (if i = _ then true else w.1 i) = true; split <;> first | rfl | exact g1, by show (if j = _ then true else w.1 j) = true; split <;> first | rfl | exact g2, g3⟩
  · rw [if_neg (by omega), if_neg (by omega), if_pos t0]
    refine ⟨?_, h2, h3⟩
    by_cases c5 : e.2.2.1 = 5
    · obtain ⟨r', g1, g2⟩ := v5 t0 c5
      refine ⟨r', fun i hi hw j hj hp => ?_⟩
      have hw' : w.1 i = true := hw
      have hp' : (if i = e.2.1 ∧ 5 = e.2.2.1 then e.2.2.2.2.2 else w.2.1 i 5) = zI j := hp
      by_cases q : i = e.2.1
      · rw [if_pos ⟨q, c5.symm⟩] at hp'
        rw [q]; exact g2 j hj hp'
      · rw [if_neg (fun g => q g.1)] at hp'
        exact ⟨(h1 i hi hw' j hj hp').1, g1 i hi hw' q j hj hp'⟩
    · refine ⟨r, fun i hi hw j hj hp => ?_⟩
      have hp' : (if i = e.2.1 ∧ 5 = e.2.2.1 then e.2.2.2.2.2 else w.2.1 i 5) = zI j := hp
      rw [if_neg (fun g => c5 g.2.symm)] at hp'
      exact h1 i hi hw j hj hp'
  · rw [if_neg (by omega), if_neg (by omega), if_neg (by omega)]
    obtain ⟨a1, a2⟩ := v3 t0
    unfold zSetL
    by_cases b1 : e.2.2.1 = 1
    · rw [if_pos b1]
      refine ⟨⟨r, h1⟩, fun t ht i hi j hj hl => ?_, fun i hi j hj => ?_⟩
      · have hl' : (if t = e.2.2.1 ∧ i = e.2.2.2.1 ∧ j = e.2.1 then _ else if t = e.2.2.1 ∧ i = e.2.1 ∧ j = e.2.2.2.1 then _ else w.2.2.1 t i j) = true := hl
        show w.1 i = true ∧ w.1 j = true ∧ i ≠ j
        split at hl'
        · rename_i q; rw [q.2.1, q.2.2]; exact ⟨a2, a1, fun g => hne g.symm⟩
        · split at hl'
          · rename_i q; rw [q.2.1, q.2.2]; exact ⟨a1, a2, hne⟩
          · exact h2 t ht i hi j hj hl'
      · show (if 1 = e.2.2.1 ∧ i = e.2.2.2.1 ∧ j = e.2.1 then _ else if 1 = e.2.2.1 ∧ i = e.2.1 ∧ j = e.2.2.2.1 then _ else w.2.2.1 1 i j) = (if 1 = e.2.2.1 ∧ j = e.2.2.2.1 ∧ i = e.2.1 then _ else if 1 = e.2.2.1 ∧ j = e.2.1 ∧ i = e.2.2.2.1 then _ else w.2.2.1 1 j i)
        rw [h3 i hi j hj]
        by_cases p1 : i = e.2.2.2.1 ∧ j = e.2.1
        · rw [if_pos ⟨b1.symm, p1.1, p1.2⟩]
          split
          · rfl
          · rw [if_pos ⟨b1.symm, p1.2, p1.1⟩]
        · rw [if_neg (fun g => p1 g.2)]
          by_cases p2 : i = e.2.1 ∧ j = e.2.2.2.1
          · rw [if_pos ⟨b1.symm, p2.1, p2.2⟩, if_pos ⟨b1.symm, p2.2, p2.1⟩]
          · rw [if_neg (fun g => p2 g.2), if_neg (fun g => p2 ⟨g.2.2, g.2.1⟩), if_neg (fun g => p1 ⟨g.2.2, g.2.1⟩)]
    · rw [if_neg b1]
      refine ⟨⟨r, h1⟩, fun t ht i hi j hj hl => ?_, fun i hi j hj => ?_⟩
      · have hl' : (if t = e.2.2.1 ∧ i = e.2.1 ∧ j = e.2.2.2.1 then _ else w.2.2.1 t i j) = true := hl
        show w.1 i = true ∧ w.1 j = true ∧ i ≠ j
        split at hl'
        · rename_i q; rw [q.2.1, q.2.2]; exact ⟨a1, a2, hne⟩
        · exact h2 t ht i hi j hj hl'
      · show (if 1 = e.2.2.1 ∧ i = _ ∧ j = _ then _ else w.2.2.1 1 i j) = (if 1 = e.2.2.1 ∧ j = _ ∧ i = _ then _ else w.2.2.1 1 j i)
        rw [if_neg (fun g => b1 g.1.symm), if_neg (fun g => b1 g.1.symm)]
        exact h3 i hi j hj
theorem zRg_same {w w' : zWd} (h : zSame w w') (g : zRg w) : zRg w' := ⟨fun i hi hw c hc => by rw [h.1 i hi] at hw; rw [h.2.1 i hi hw c hc]; exact g.1 i hi hw c hc, fun k hk => by rw [h.2.2.2 k hk]; exact g.2 k hk⟩
theorem zLv_same {w w' : zWd} (h : zSame w w') (g : zLv w) : zLv w' := by
  obtain ⟨⟨r, g1⟩, g2, g3⟩ := g
  refine ⟨⟨r, fun i hi hw j hj hp => ?_⟩, fun t ht i hi j hj hl => ?_, fun i hi j hj => ?_⟩
  · rw [h.1 i hi] at hw
    rw [h.2.1 i hi hw 5 (by omega)] at hp
    rw [h.1 j hj]; exact g1 i hi hw j hj hp
  · rw [h.2.2.1 t ht i hi j hj] at hl
    rw [h.1 i hi, h.1 j hj]; exact g2 t ht i hi j hj hl
  · rw [h.2.2.1 1 (by omega) i hi j hj, h.2.2.1 1 (by omega) j hj i hi]; exact g3 i hi j hj
theorem zEv_same {e : zEnt} {w w' : zWd} (he : zEok e) (h : zSame w w') (g : zEv e w) : zEv e w' := by
  obtain ⟨g0, g2, g5, g3⟩ := g
  refine ⟨g0, g2, fun t0 c5 => ?_, fun t0 => ?_⟩
  · obtain ⟨r, p1, p2⟩ := g5 t0 c5
    refine ⟨r, fun i hi hw hne j hj hp => ?_, fun j hj hp => ?_⟩
    · rw [h.1 i hi] at hw
      rw [h.2.1 i hi hw 5 (by omega)] at hp
      exact p1 i hi hw hne j hj hp
    · rw [h.1 j hj]; exact p2 j hj hp
  · have : e.2.1 < 30 ∧ e.2.2.2.1 < 30 := by rcases he with q | q | q | q <;> omega
    rw [h.1 _ this.1, h.1 _ this.2]; exact g3 t0
/-- all that holds of the entries -/
def zLgV (L : zLg) (n : Nat) : Prop := ∀ i, i < n → zEv (L i).1 (zRep L i)
def zLgD (L : zLg) (n d : Nat) : Prop := (∀ i, i < n → (L i).2.1 ≤ d) ∧ ∀ i j, i < j → j < n → (L i).2.1 ≤ (L j).2.1
def zOk (d : Nat) (A : zA) : Prop := zLgW A.1 A.2.1 ∧ zLgV A.1 A.2.1 ∧ zLgD A.1 A.2.1 d ∧ zSame (zRep A.1 A.2.1) A.2.2 ∧ d ≤ 400
theorem zOk.w {d : Nat} {A : zA} (h : zOk d A) : zLgW A.1 A.2.1 := h.1
theorem zOk.v {d : Nat} {A : zA} (h : zOk d A) : zLgV A.1 A.2.1 := h.2.1
theorem zOk.d {d : Nat} {A : zA} (h : zOk d A) : zLgD A.1 A.2.1 d := h.2.2.1
theorem zOk.same {d : Nat} {A : zA} (h : zOk d A) : zSame (zRep A.1 A.2.1) A.2.2 := h.2.2.2.1
theorem zRg_empty : zRg zEmpty := ⟨fun i hi hw => absurd hw (by simp [zEmpty]), fun k hk => by show 0 ≤ (0 : Int32).toInt ∧ (0 : Int32).toInt ≤ 15; decide⟩
theorem zLv_empty : zLv zEmpty := ⟨⟨fun _ => 0, fun i hi hw => absurd hw (by simp [zEmpty])⟩, fun t ht i hi j hj hl => absurd hl (by simp [zEmpty]), fun i hi j hj => rfl⟩
theorem zRep_rg {L : zLg} {n : Nat} (hW : zLgW L n) (hV : zLgV L n) : ∀ m, m ≤ n → zRg (zRep L m) ∧ zLv (zRep L m) := by
  intro m
  induction m with
  | zero => intro _; exact ⟨zRg_empty, zLv_empty⟩
  | succ m ih =>
    intro hm
    obtain ⟨i1, i2⟩ := ih (by omega)
    obtain ⟨g1, g2, -⟩ := hW m (by omega)
    have g3 := hV m (by omega)
    exact ⟨zRg_app i1 g1 ⟨g3.1, g3.2.1⟩, zLv_app i2 g1 g2 g3⟩
theorem zOk.rg {d : Nat} {A : zA} (h : zOk d A) : zRg A.2.2 := zRg_same h.same (zRep_rg h.w h.v _ (Nat.le_refl _)).1
theorem zOk.lv {d : Nat} {A : zA} (h : zOk d A) : zLv A.2.2 := zLv_same h.same (zRep_rg h.w h.v _ (Nat.le_refl _)).2
theorem zOk.there {d : Nat} {A : zA} (h : zOk d A) : ∀ i, i < 30 → A.2.2.1 i = decide (i < zCnt A.1 A.2.1) := fun i hi => by rw [h.same.1 i hi, (zRep_there h.w _ (Nat.le_refl _)).1 i]
theorem zOk.cnt {d : Nat} {A : zA} (h : zOk d A) : zCnt A.1 A.2.1 ≤ 30 := (zRep_there h.w _ (Nat.le_refl _)).2
/-- one more entry, done -/
def aPush (d p : Nat) (e : zEnt) (A : zA) : zA := (zPush A.1 A.2.1 e d p, A.2.1 + 1, zApp e A.2.2)
theorem zOk.push {d p : Nat} {A : zA} (h : zOk d A) {e : zEnt} (he : zEok e) (ho : zOld e A.2.2) (hv : zEv e A.2.2) (hc : e.1 = 1 → e.2.1 = zCnt A.1 A.2.1) (hp : p < 8) : zOk d (aPush d p e A) := by
  obtain ⟨h1, h2, ⟨h3, h4⟩, h5, h6⟩ := h
  have ho' := zOld_same he h5.symm ho
  have hv' := zEv_same he h5.symm hv
  refine ⟨h1.push he ho' hc h6 hp, ?_, ⟨?_, ?_⟩, ?_, h6⟩
  · intro i hi
    show zEv (zPush A.1 A.2.1 e d p i).1 (zRep (zPush A.1 A.2.1 e d p) i)
    have hi' : i < A.2.1 + 1 := hi
    rw [(zRep_eq (L := A.1) (L' := zPush A.1 A.2.1 e d p) (n := i) (fun j hj => zPush_lt (by omega))).1]
    by_cases q : i = A.2.1
    · rw [q, zPush_n]; exact hv'
    · rw [zPush_lt (by omega)]; exact h2 i (by omega)
  · intro i hi
    have hi' : i < A.2.1 + 1 := hi
    show (zPush A.1 A.2.1 e d p i).2.1 ≤ d
    by_cases q : i = A.2.1
    · rw [q, zPush_n]; exact Nat.le_refl _
    · rw [zPush_lt (by omega)]; exact h3 i (by omega)
  · intro i j hij hj
    have hj' : j < A.2.1 + 1 := hj
    show (zPush A.1 A.2.1 e d p i).2.1 ≤ (zPush A.1 A.2.1 e d p j).2.1
    rw [zPush_lt (i := i) (by omega)]
    by_cases q : j = A.2.1
    · rw [q, zPush_n]; exact h3 i (by omega)
    · rw [zPush_lt (by omega)]; exact h4 i j hij (by omega)
  · show zSame (zRep (zPush A.1 A.2.1 e d p) (A.2.1 + 1)) (zApp e A.2.2)
    rw [(zRep_push A.1 A.2.1 e d p).1]
    exact zApp_same h5 e
/-! the class holds such a state; the reference does -/
def zRC (S : Nat → Nat → Int32) (A : zA) : Prop := zLgC A.1 A.2.1 S ∧ zWC 9 S A.2.2
def zRM (b : Nat) (U : Nat → Nat → Int32) (A : zA) : Prop := zLgM A.1 A.2.1 U ∧ zWM b U A.2.2 ∧ U b 0 = zI (zCnt A.1 A.2.1)
/-- what the class writes when it changes; what the reference does -/
def zFC (S V : Nat → Nat → Int32) : Prop := (∀ k, (k < 1 ∨ 12 < k) → V k = S k) ∧ (∀ j, j ≠ 7 → V 1 j = S 1 j) ∧ ∀ j, j ≠ 3 → V 9 j = S 9 j
def zFM (b : Nat) (U V : Nat → Nat → Int32) : Prop := (∀ k, (k < 78 ∨ 85 < k ∧ k < b ∨ b + 11 < k) → V k = U k) ∧ (∀ j, j ≠ 2 → V 78 j = U 78 j) ∧ ∀ j, j ≠ 0 → V b j = U b j
theorem zFC.rfl {S : Nat → Nat → Int32} : zFC S S := ⟨fun _ _ => Eq.refl _, fun _ _ => Eq.refl _, fun _ _ => Eq.refl _⟩
theorem zFM.rfl {b : Nat} {S : Nat → Nat → Int32} : zFM b S S := ⟨fun _ _ => Eq.refl _, fun _ _ => Eq.refl _, fun _ _ => Eq.refl _⟩
theorem zFC.trans {S V W : Nat → Nat → Int32} (h : zFC S V) (g : zFC V W) : zFC S W := ⟨fun k hk => (g.1 k hk).trans (h.1 k hk), fun j hj => (g.2.1 j hj).trans (h.2.1 j hj), fun j hj => (g.2.2 j hj).trans (h.2.2 j hj)⟩
theorem zFM.trans {b : Nat} {S V W : Nat → Nat → Int32} (h : zFM b S V) (g : zFM b V W) : zFM b S W := ⟨fun k hk => (g.1 k hk).trans (h.1 k hk), fun j hj => (g.2.1 j hj).trans (h.2.1 j hj), fun j hj => (g.2.2 j hj).trans (h.2.2 j hj)⟩
/-- a column, as it is read -/
def wC (w : zWd) (i c : Nat) : Int32 := if w.1 i = true then w.2.1 i c else -1
theorem zWC.cell {r : Nat} {S : Nat → Nat → Int32} {w : zWd} (h : zWC r S w) {i c : Nat} (hi : i < 30) (hc : c < 10) : F_World_cell r S (zI i) (zI c) = wC w i c ∧ Sf_World_cell r S (zI i) (zI c) := by
  obtain ⟨h1, h2⟩ := World_cell_I (r := r) (S := S) hi hc
  refine ⟨?_, h2⟩
  rw [h1, h.has i hi, h.col i hi c hc]
  rfl
def aC (d p i c : Nat) (v : Int32) (A : zA) : zA := if wC A.2.2 i c = v then A else aPush d p (2, i, c, 0, wC A.2.2 i c, v) A
theorem T_push_I {S : Nat → Nat → Int32} {A : zA} (h : zRC S A) (hn : A.2.1 < 900) {d p : Nat} {e : zEnt} (he : zEok e) (hold : e.1 ≠ 1 → e.2.2.2.2.1 = eB e ∧ e.2.2.2.2.2 = eA e) :
    ∃ V, F_Log_add S (zI d) (zI p) (eI e) (eW e) (eO e) (eB e) (eA e) = V ∧ Sf_Log_add S (zI d) (zI p) (eI e) (eW e) (eO e) (eB e) (eA e) ∧ zLgC (zPush A.1 A.2.1 e d p) (A.2.1 + 1) V ∧ zWC 9 V A.2.2 ∧ (∀ k, (k < 1 ∨ 8 < k) → V k = S k) ∧ ∀ j, j ≠ 7 → V 1 j = S 1 j := by
  obtain ⟨V, v1, v2, v3, v4, v5⟩ := Log_add_I h.1 hn e d p
  exact ⟨V, v1, v2, v3, h.2.ag (by rw [v4 9 (by omega)]) (v4 _ (by omega)) (v4 _ (by omega)) (v4 _ (by omega)), v4, v5⟩
theorem T_change_C {S : Nat → Nat → Int32} {A : zA} (h : zRC S A) (hn : A.2.1 < 900) {d p i c : Nat} (hd : S 0 14 = zI d) (hi : i < 30) (hc : c < 9) (v : Int32) :
    ∃ V, F_T_change S (zI p) (zI i) (zI c) 0 v = V ∧ Sf_T_change S (zI p) (zI i) (zI c) 0 v ∧ zRC V (aC d p i c v A) ∧ zFC S V := by
  have n14 : ¬ zI c = 14 := by rw [show (14 : Int32) = zI 14 from rfl, zI_inj (by omega) (by omega)]; omega
  have n10 : zI c < 10 := by rw [show (10 : Int32) = zI 10 from rfl, zI_lt (by omega) (by omega)]; omega
  obtain ⟨c1, c2⟩ := h.2.cell hi (show c < 10 by omega)
  have ecur : F_World_current 9 S (zI i) (zI c) 0 = wC A.2.2 i c := by unfold F_World_current; rw [if_neg n14, if_pos n10, c1]
  have scur : Sf_World_current 9 S (zI i) (zI c) 0 := by unfold Sf_World_current; rw [if_neg n14, if_pos n10]; exact ⟨c2, trivial⟩
  unfold F_T_change Sf_T_change aC
  rw [ecur, hd]
  by_cases q : wC A.2.2 i c = v
  · rw [if_pos q, if_pos q, if_pos q]
    exact ⟨S, Eq.refl _, ⟨scur, trivial⟩, h, zFC.rfl⟩
  · rw [if_neg q, if_neg q, if_neg q]
    obtain ⟨V, v1, v2, v3, v4, v5, v6⟩ := T_push_I (d := d) (p := p) h hn (e := (2, i, c, 0, wC A.2.2 i c, v)) (Or.inr (Or.inr (Or.inl ⟨rfl, hi, hc⟩))) (fun _ => ⟨rfl, rfl⟩)
    have v1' : F_Log_add S (zI d) (zI p) (zI i) (zI c) 0 (wC A.2.2 i c) v = V := v1
    have v2' : Sf_Log_add S (zI d) (zI p) (zI i) (zI c) 0 (wC A.2.2 i c) v := v2
    simp only [v1', z_let]
    obtain ⟨w1, w2⟩ := World_write_C (r := 9) (S := V) (i := i) (c := c) hi (by omega) 0 v
    refine ⟨_, w1, ⟨scur, v2', w2, trivial⟩, ⟨v3.ag (by rw [z_uS_ne _ _ _ (by omega)]) (fun k k1 k2 => z_uS_ne _ _ _ (by omega)), v4.setC hi (by omega) v⟩, ?_⟩
    exact ⟨fun k hk => by rw [z_uS_ne _ _ _ (by omega), v5 k (by omega)], fun j hj => by rw [z_uS_ne _ _ _ (by omega), v6 j hj], fun j hj => by rw [z_uS_ne _ _ _ (by omega), v5 9 (by omega)]⟩
theorem zWM.cell {b : Nat} {U : Nat → Nat → Int32} {w : zWd} (h : zWM b U w) {i c : Nat} (hi : i < 30) (hc : c < 10) (hw : w.1 i = true) : U (zMC b i c) (zMJ i c) = wC w i c := by
  unfold wC; rw [if_pos hw]; exact h.col i hi hw c hc
theorem M_push_I {b : Nat} (hb : 86 ≤ b) {U : Nat → Nat → Int32} {A : zA} (h : zRM b U A) (hn : A.2.1 < 1200) {d : Nat} (p : Nat) (hd : U 78 1 = zI d) {e : zEnt} (he : zEok e) (hc : e.1 = 1 → e.2.1 = zCnt A.1 A.2.1) (h30 : zCnt A.1 A.2.1 ≤ 30) : ∃ V, F_M_make b U (mK e) (zI p) (mI e) (mW e) (mO e) (mN e) = V ∧ Sf_M_make b U (mK e) (zI p) (mI e) (mW e) (mO e) (mN e) ∧ zRM b V (aPush d p e A) ∧ zFM b U V := by
  obtain ⟨V, v1, v2, v3, v4, v5, v6, v7, v8⟩ := M_make_I (p := p) hb h.1 hn h.2.1 hd he
  refine ⟨V, v1, v2, ⟨v3, v4, ?_⟩, v5, v6, v7⟩
  show V b 0 = zI (zCnt (zPush A.1 A.2.1 e d p) (A.2.1 + 1))
  rw [v8, (zRep_push A.1 A.2.1 e d p).2, h.2.2]
  by_cases t1 : e.1 = 1
  · have := hc t1
    rw [if_pos t1, if_pos t1, if_neg]
    rw [zI_lt (by omega) (by omega)]; omega
  · rw [if_neg t1, if_neg t1]
/-- the reference's number of a column; the other one -/
def mKc (c : Nat) : Int32 := if c = 0 then 2 else if c < 4 then 3 else zI c
def mWc (c : Nat) : Int32 := if c = 0 then 0 else if c < 4 then zI (c - 1) else 0
theorem M_change_C {b : Nat} (hb : 86 ≤ b) {U : Nat → Nat → Int32} {A : zA} (h : zRM b U A) (hn : A.2.1 < 1200) (h30 : zCnt A.1 A.2.1 ≤ 30) {d : Nat} (p : Nat) {i c : Nat} (hd : U 78 1 = zI d) (hi : i < 30) (hc : c < 9) (hw : A.2.2.1 i = true) (v : Int32) :
    ∃ V, F_M_change b U (mKc c) (zI p) (zI i) (mWc c) v = V ∧ Sf_M_change b U (mKc c) (zI p) (zI i) (mWc c) v ∧ zRM b V (aC d p i c v A) ∧ zFM b U V := by
  have hcell := h.2.1.cell hi (show c < 10 by omega) hw
  have hcl : (zI i).toNatClampNeg = i := zI_clamp (by omega)
  have vin : vp_in (zI i) 30 := vp_in_I hi (by omega)
  have key : ∃ V, F_M_change_j104 b U (mKc c) (zI p) (zI i) (mWc c) v (wC A.2.2 i c) = V ∧ Sf_M_change_j104 b U (mKc c) (zI p) (zI i) (mWc c) v (wC A.2.2 i c) ∧ zRM b V (aC d p i c v A) ∧ zFM b U V := by
    unfold F_M_change_j104 Sf_M_change_j104 aC
    by_cases q : wC A.2.2 i c = v
    · rw [if_pos q, if_pos q, if_pos q]
      exact ⟨U, Eq.refl _, trivial, h, zFM.rfl⟩
    · rw [if_neg q, if_neg q, if_neg q]
      obtain ⟨V, v1, v2, v3, v4⟩ := M_push_I hb h hn p hd (e := (2, i, c, 0, wC A.2.2 i c, v)) (Or.inr (Or.inr (Or.inl ⟨rfl, hi, hc⟩))) (fun q => absurd q (by simp)) h30
      exact ⟨V, v1, ⟨v2, trivial⟩, v3, v4⟩
  unfold F_M_change Sf_M_change
  by_cases c0 : c = 0
  · subst c0
    have e : U (b + 3) i = wC A.2.2 i 0 := hcell
    simp only [show mKc 0 = 2 from rfl, if_true, hcl, e] at key ⊢
    obtain ⟨V, v1, v2, v3⟩ := key
    exact ⟨V, v1, ⟨vin, v2⟩, v3⟩
  by_cases c3 : c < 4
  · have e : U (b + 4) (3 * i + (c - 1)) = wC A.2.2 i c := by rw [← hcell]; unfold zMC zMJ; rw [if_neg c0, if_pos c3, if_neg c0, if_pos c3]
    have k1 : mKc c = 3 := by unfold mKc; rw [if_neg c0, if_pos c3]
    have k2 : mWc c = zI (c - 1) := by unfold mWc; rw [if_neg c0, if_pos c3]
    have e1 : (3 : Int32) * zI i + zI (c - 1) = zI (3 * i + (c - 1)) := by rw [show (3 : Int32) = zI 3 from rfl, zI_mul, zI_add]
    simp only [k1, k2, if_true, if_neg (show ¬ ((3 : Int32) = 2) by decide), e1, zI_clamp (show 3 * i + (c - 1) < 2147483648 by omega), e] at key ⊢
    obtain ⟨V, v1, v2, v3⟩ := key
    exact ⟨V, v1, ⟨vp_in_I (by omega) (by omega), v2⟩, v3⟩
  have k1 : mKc c = zI c := by unfold mKc; rw [if_neg c0, if_neg c3]
  have k2 : mWc c = 0 := by unfold mWc; rw [if_neg c0, if_neg c3]
  have q : ∀ m, m < 9 → (zI c = zI m ↔ c = m) := fun m hm => zI_inj (by omega) (by omega)
  rw [k1, k2] at key ⊢
  simp only [show (2 : Int32) = zI 2 from rfl, show (3 : Int32) = zI 3 from rfl, show (4 : Int32) = zI 4 from rfl, show (5 : Int32) = zI 5 from rfl, show (6 : Int32) = zI 6 from rfl, show (7 : Int32) = zI 7 from rfl, q 2 (by omega), q 3 (by omega), q 4 (by omega), q 5 (by omega), q 6 (by omega), q 7 (by omega), if_neg (show ¬ c = 2 by omega), if_neg (show ¬ c = 3 by omega), hcl]
  obtain ⟨V, v1, v2, v3⟩ := key
  by_cases c4 : c = 4
  · subst c4; have e : U (b + 5) i = wC A.2.2 i 4 := hcell
    simp only [if_true, e]; exact ⟨V, v1, ⟨vin, v2⟩, v3⟩
  by_cases c5 : c = 5
  · subst c5; have e : U (b + 6) i = wC A.2.2 i 5 := hcell
    simp only [if_neg c4, if_true, e]; exact ⟨V, v1, ⟨vin, v2⟩, v3⟩
  by_cases c6 : c = 6
  · subst c6; have e : U (b + 7) i = wC A.2.2 i 6 := hcell
    simp only [if_neg c4, if_neg c5, if_true, e]; exact ⟨V, v1, ⟨vin, v2⟩, v3⟩
  by_cases c7 : c = 7
  · subst c7; have e : U (b + 8) i = wC A.2.2 i 7 := hcell
    simp only [if_neg c4, if_neg c5, if_neg c6, if_true, e]; exact ⟨V, v1, ⟨vin, v2⟩, v3⟩
  have c8 : c = 8 := by omega
  subst c8; have e : U (b + 1) i = wC A.2.2 i 8 := hcell
  simp only [if_neg c4, if_neg c5, if_neg c6, if_neg c7, e]; exact ⟨V, v1, ⟨vin, v2⟩, v3⟩
