section Z18
variable {X : z_X} {Y : z_Y} {pc nc ns idx : Nat} {lv : List (Nat × z_V)} {st : List z_V} {w : z_W} {rm : Room}
theorem z_ldcw {x : Int32} (C : z_C X Y) (hd : decode Y.2.1 pc = .ok (.ldc_w idx, 3)) (hw : Cond.constant Y.1.cls idx x ∈ z_WB) (k : z_G X Y (pc + 3, lv, .inl x :: st, w, nc, ns)) : z_G X Y (pc, lv, st, w, nc, ns) := by
  obtain ⟨p, l, e, R, s, m, args, below, meth, c, Q, D, cA, N0, b⟩ := X
  obtain ⟨y0, bs, nL, ret, ft⟩ := Y
  obtain ⟨hx, hb, hml, hown, hts, henv, hlk, hrt, hnm, hft, htr, hN0⟩ := C
  intro H locs ls hR hS hl
  exact lv_ldcw hx hb hown (hts _ hw) hd (k H locs ls hR hS hl)
/-- System.arraycopy between two rows of ints -/
theorem z_copy {a0 a n0 n1 : Nat} {sp dp n : Int32} (C : z_C X Y) (hd : decode Y.2.1 pc = .ok (.invokestatic idx, 3)) (hrm : X.2.2.2.1 = rm) (w1 : Cond.methodLink Y.1.cls idx arraycopyName ∈ z_WB) (w2 : Cond.native arraycopyName ∈ z_WB) (w3 : Cond.static arraycopyName ∈ z_WB) (w4 : Cond.initialized "java/lang/System" ∈ z_WB)
    (hT0 : w.1 a0 = (2, n0)) (hT1 : w.1 a = (2, n1)) (h1 : ¬ sp < 0) (h2 : ¬ dp < 0) (h3 : ¬ n < 0) (h4 : sp.toNatClampNeg + n.toNatClampNeg ≤ n0) (h5 : dp.toNatClampNeg + n.toNatClampNeg ≤ n1) (hf : 1 ≤ rm.frames) (hlo : 8 + (nativeFrameWords "java/lang/System" "arraycopy" 5 + 11) ≤ rm.locals) (h8 : (st.map z_ct).sum ≤ 8)
    (kk : z_G X Y (pc + 3, lv, st, (w.1, w.2.1, (fun k => if k = a then va_cpy (w.2.2.1 a0) (w.2.2.1 a) sp.toNatClampNeg dp.toNatClampNeg n.toNatClampNeg else w.2.2.1 k), w.2.2.2), nc, ns)) : z_G X Y (pc, lv, .inl n :: .inl dp :: z_r a :: .inl sp :: z_r a0 :: st, w, nc, ns) := by
  obtain ⟨p, l, e, R, s, m, args, below, meth, c, Q, D, cA, N0, b⟩ := X
  obtain ⟨y0, bs, nL, ret, ft⟩ := Y
  obtain ⟨hx, hb, hml, hown, hts, henv, hlk, hrt, hnm, hft, htr, hN0⟩ := C
  intro H locs ls hR hS hl
  cases hrm
  have h88 : ((st.map (z_c N0 b)).map fun v => v.category).sum ≤ 8 := by rw [z_cat]; exact h8
  have nn : ∀ z : Int32, ¬ z < 0 → z.toInt = (z.toNatClampNeg : Int) := by
    intro z hz
    have hz0 : (0 : Int) ≤ z.toInt := by
      have := Int32.not_lt.mp hz
      simpa using Int32.le_iff_toInt_le.mp this
    show z.toInt = ((z.toInt.toNat : Nat) : Int)
    omega
  have hc0 := hR.2 a0
  rw [hT0] at hc0
  have hc0 : H[N0 + a0]? = some (arrV (cA 0) n0 (fun j => .int (w.2.2.1 a0 j))) := hc0
  have hc1 := hR.2 a
  rw [hT1] at hc1
  have hc1 : H[N0 + a]? = some (arrV (cA 0) n1 (fun j => .int (w.2.2.1 a j))) := hc1
  have hA := (henv.1.2 0 _ rfl).1
  intro T hT X
  obtain ⟨-, k0, hk0, cm0, hkk0⟩ := hA n0 (fun j => .int (w.2.2.1 a0 j))
  obtain ⟨-, k1, hk1, cm1, hkk1⟩ := hA n1 (fun j => .int (w.2.2.1 a j))
  obtain ⟨vm', X', step⟩ := X.arraycopy hx hown (hts _ w1) (hts _ w2) (hts _ w3) (hts _ w4) (src := N0 + a0) (dst := N0 + a) (cs := arrV (cA 0) n0 (fun j => .int (w.2.2.1 a0 j))) (cd := arrV (cA 0) n1 (fun j => .int (w.2.2.1 a j))) (srcPos := sp) (destPos := dp) (n := n) (by rw [hT]; exact hc0) (by rw [hT]; exact hc1)
    (fun _ h => by cases h) (fun _ h => by cases h) (fun h => by cases h) (fun h => by cases h) hk0 hk1 hkk0 hkk1 (by simp [refKind]) h1 h2 h3
    (by rw [nn sp h1, nn n h3, arrV_size]; omega)
    (by rw [nn dp h2, nn n h3, arrV_size]; omega)
    (fun vm₁ _ i hi => by
      have e : (arrV (cA 0) n0 (fun j => Value.int (w.2.2.1 a0 j))).slots.getD (sp.toNatClampNeg + i) .null = .int (w.2.2.1 a0 (sp.toNatClampNeg + i)) := by
        rw [Array.getD_eq_getD_getElem?, arrV_read _ _ (by omega)]
        rfl
      refine ⟨?_, ?_⟩
      · rw [e]; rfl
      · rw [e]
        exact trivial)
    (g := F0 m pc ls (.int n :: .int dp :: .ref (N0 + a) :: .int sp :: .ref (N0 + a0) :: st.map (z_c N0 b))) rfl (hl.1.trans hml.symm) (rest := st.map (z_c N0 b)) rfl (by rw [hb]; exact hd) hf (by
      have h9 : 8 + (nativeFrameWords "java/lang/System" "arraycopy" 5 + 11) ≤ R.locals := hlo
      show 2 * 0 + _ + _ ≤ R.locals; omega)
  have e1 : copied (arrV (cA 0) n0 (fun j => Value.int (w.2.2.1 a0 j))) (arrV (cA 0) n1 (fun j => Value.int (w.2.2.1 a j))) sp dp n = arrV (cA 0) n1 (fun j => .int (va_cpy (w.2.2.1 a0) (w.2.2.1 a) sp.toNatClampNeg dp.toNatClampNeg n.toNatClampNeg j)) := va_copied (fun z => .int z) (cA 0) (cA 0) _ _ h4
  rw [e1] at X' step
  have hlt : N0 + a < H.size := (Array.getElem?_eq_some_iff.mp hc1).1
  obtain ⟨cell9, hcell9⟩ : ∃ x, x = arrV (cA 0) n1 (fun j => Value.int (va_cpy (w.2.2.1 a0) (w.2.2.1 a) sp.toNatClampNeg dp.toNatClampNeg n.toNatClampNeg j)) := ⟨_, rfl⟩
  rw [← hcell9] at X' step
  have hheap : ((T.setVm vm').setCell (N0 + a) cell9).heap = H.setIfInBounds (N0 + a) cell9 := by rw [← hT]; rfl
  have oq : ∀ q : Nat, q ≠ N0 + a → (H.setIfInBounds (N0 + a) cell9)[q]? = H[q]? := fun q hq => by simp [Array.getElem?_setIfInBounds, Ne.symm hq]
  have hz : (H.setIfInBounds (N0 + a) cell9).size = H.size := by simp
  have hrep := z_rep.set (k := a) w.2.1 (fun k => if k = a then va_cpy (w.2.2.1 a0) (w.2.2.1 a) sp.toNatClampNeg dp.toNatClampNeg n.toNatClampNeg else w.2.2.1 k) hR hz oq (fun j hj => ⟨rfl, if_neg hj⟩) (by
    rw [hT1, if_pos rfl]
    show (H.setIfInBounds (N0 + a) cell9)[N0 + a]? = some (arrV (cA 0) n1 _)
    rw [← hcell9]
    simp [Array.getElem?_setIfInBounds, hlt])
  have hS' : ∀ L : List Loc, (∀ z ∈ L, N0 ≤ z.base) → va_S (fun q => N0 ≤ q) s.heap (H.setIfInBounds (N0 + a) cell9) (locs ++ L) := fun L hL =>
    ⟨by rw [hz]; exact hS.1, fun q g1 g2 => by rw [oq q (fun e => g2 (by omega))]; exact hS.2.1 q g1 g2, fun q hq => by
      rcases List.mem_append.mp hq with h | h
      · exact hS.2.2 q h
      · exact hL q h⟩
  obtain ⟨t, a1, b1⟩ := kk (H.setIfInBounds (N0 + a) cell9) _ ls hrep (hS' _ (fun z hz => by
    first
      | (obtain ⟨i, -, rfl⟩ := List.mem_map.mp hz; exact Nat.le_add_right _ _)
      | (simp at hz; obtain ⟨i, -, rfl⟩ := hz; exact Nat.le_add_right _ _))) hl _ hheap X'
  exact ⟨t, step t a1, b1⟩
theorem z_tabE {dflt lo hi : Int} {offs : Array Int} {len : Nat} {x v : Int32} {off : Int} (tgt : Nat) (C : z_C X Y) (hv : x = v) (hd : decode Y.2.1 pc = .ok (.tableswitch dflt lo hi offs, len)) (h1 : ¬ v.toInt < lo) (h2 : ¬ hi < v.toInt) (ho : offs[(v.toInt - lo).toNat]? = some off) (ht : (pc : Int) + off = (tgt : Int)) (k : z_G X Y (tgt, lv, st, w, nc, ns)) : z_G X Y (pc, lv, .inl x :: st, w, nc, ns) := by
  subst hv
  exact z_tableIn tgt C hd h1 h2 ho ht k
theorem z_lookE {dflt : Int} {ps : Array (Int × Int)} {len : Nat} {x v : Int32} {off : Int} (tgt : Nat) (C : z_C X Y) (hv : x = v) (hd : decode Y.2.1 pc = .ok (.lookupswitch dflt ps, len)) (hp : (ps.toList.zip (ps.toList.drop 1)).all (fun (a, next) => a.1 < next.1) = true) (ho : Op.lookupswitch.offset ps.toList dflt v.toInt = off) (ht : (pc : Int) + off = (tgt : Int)) (k : z_G X Y (tgt, lv, st, w, nc, ns)) : z_G X Y (pc, lv, .inl x :: st, w, nc, ns) := by
  subst hv
  exact z_lookup tgt C hd hp ho ht k
end Z18
/-- the sight's world, in a memory's references -/
def zwG (G' : Nat → Nat → Option Nat) (q : Nat) : Nat → Nat → Option Nat := fun k j => if k = 36 ∧ j = 7 then some q else G' k j
theorem zwG_put (G' : Nat → Nat → Option Nat) (q a : Nat) : z_uG (zG (zwG G' q)) 36 7 (some a) = zG (zwG G' a) := by
  funext k j
  by_cases hk : k = 36
  · subst hk
    rw [z_uG_self]
    show (if j = 7 then some a else zG (zwG G' q) 36 j) = zG (zwG G' a) 36 j
    by_cases hj : j = 7
    · subst hj; rfl
    · rw [if_neg hj]
      unfold zG
      have h1 : zwG G' q 36 j = zwG G' a 36 j := by simp [zwG, hj]
      rw [h1]
  · rw [z_uG_ne _ _ _ hk]
    funext
    unfold zG
    have h1 : zwG G' q k j = zwG G' a k j := by simp [zwG, hk]
    rw [h1]
theorem z_putw {X : z_X} {Y : z_Y} {pc nc ns idx : Nat} {lv : List (Nat × z_V)} {st : List z_V} {T' : Nat → Nat × Nat} {G' : Nat → Nat → Option Nat} {S : Nat → Nat → Int32} {n q a : Nat} (C : z_C X Y) (hd : decode Y.2.1 pc = .ok (.putfield idx, 3)) (hf : (idx, 8, 7, 1) ∈ Y.2.2.2.2) (k : z_G X Y (pc + 3, lv, st, zW T' (zwG G' a) S n, nc, ns)) : z_G X Y (pc, lv, z_r a :: z_r 36 :: st, zW T' (zwG G' q) S n, nc, ns) := by
  refine z_put C hd hf rfl trivial ?_
  show z_G X Y (pc + 3, lv, st, (zT T', z_uG (zG (zwG G' q)) 36 7 (some a), S, n), nc, ns)
  rw [zwG_put]
  exact k

def F_bitCount (p : Int32) : Int32 :=
  let u (x y : Int32) : Int32 := (x.toUInt32 >>> (y.toUInt32 &&& Int32.toUInt32 31)).toInt32
  let a := p - (u p 1 &&& 1431655765)
  let b := (a &&& 858993459) + (u a 2 &&& 858993459)
  let c := (b + u b 4) &&& 252645135
  let d := c + u c 8
  let e := d + u d 16
  e &&& 63
theorem c_bitCount (w : z_W) (p : Int32) : z_Run (zr 0) zm_Integer_bitCount [.inl p] w (zq (some (.inl (F_bitCount p))) w) := by
  refine z_bodyF (by decide +kernel) (fun q h => nomatch h) (Nat.le_of_ble_eq_true rfl) (fun X M => ?_)
  show z_G X zm_Integer_bitCount (0, [(0, .inl p)], [], w, 0, 0)
  refine z_go2 M.1 0 [(.iload_n 0, 1), (.iload_n 0, 1), (.iconst 1, 1), (.iushr, 1)] (4, [(0, .inl p)], [.inl (p.toUInt32 >>> ((1 : Int32).toUInt32 &&& Int32.toUInt32 31)).toInt32, .inl p], w, 0, 0) (by decide +kernel) rfl ⟨trivial, trivial, trivial, trivial, trivial⟩ ?_
  refine z_ldcw M.1 (idx := 265) (x := 1431655765) (by decide +kernel) (z_wi 871 (by decide +kernel) rfl) ?_
  obtain ⟨a, ha⟩ : ∃ a : Int32, p - ((p.toUInt32 >>> ((1 : Int32).toUInt32 &&& Int32.toUInt32 31)).toInt32 &&& 1431655765) = a := ⟨_, rfl⟩
  refine z_go2 M.1 7 [(.iand, 1), (.isub, 1), (.istore_n 0, 1), (.iload_n 0, 1)] (11, [(0, .inl (p - ((p.toUInt32 >>> ((1 : Int32).toUInt32 &&& Int32.toUInt32 31)).toInt32 &&& 1431655765)))], [.inl (p - ((p.toUInt32 >>> ((1 : Int32).toUInt32 &&& Int32.toUInt32 31)).toInt32 &&& 1431655765))], w, 0, 0) (by decide +kernel) rfl ⟨trivial, trivial, trivial, trivial, trivial⟩ ?_
  rw [ha]
  refine z_ldcw M.1 (idx := 266) (x := 858993459) (by decide +kernel) (z_wi 872 (by decide +kernel) rfl) ?_
  refine z_go2 M.1 14 [(.iand, 1), (.iload_n 0, 1), (.iconst 2, 1), (.iushr, 1)] (18, [(0, .inl a)], [.inl (a.toUInt32 >>> ((2 : Int32).toUInt32 &&& Int32.toUInt32 31)).toInt32, .inl (a &&& 858993459)], w, 0, 0) (by decide +kernel) rfl ⟨trivial, trivial, trivial, trivial, trivial⟩ ?_
  refine z_ldcw M.1 (idx := 266) (x := 858993459) (by decide +kernel) (z_wi 872 (by decide +kernel) rfl) ?_
  obtain ⟨q, hq⟩ : ∃ q : Int32, (a &&& 858993459) + ((a.toUInt32 >>> ((2 : Int32).toUInt32 &&& Int32.toUInt32 31)).toInt32 &&& 858993459) = q := ⟨_, rfl⟩
  refine z_go2 M.1 21 [(.iand, 1), (.iadd, 1), (.istore_n 0, 1), (.iload_n 0, 1), (.iload_n 0, 1), (.iconst 4, 1), (.iushr, 1), (.iadd, 1)] (29, [(0, .inl ((a &&& 858993459) + ((a.toUInt32 >>> ((2 : Int32).toUInt32 &&& Int32.toUInt32 31)).toInt32 &&& 858993459)))], [.inl (((a &&& 858993459) + ((a.toUInt32 >>> ((2 : Int32).toUInt32 &&& Int32.toUInt32 31)).toInt32 &&& 858993459)) + (((a &&& 858993459) + ((a.toUInt32 >>> ((2 : Int32).toUInt32 &&& Int32.toUInt32 31)).toInt32 &&& 858993459)).toUInt32 >>> ((4 : Int32).toUInt32 &&& Int32.toUInt32 31)).toInt32)], w, 0, 0) (by decide +kernel) rfl ⟨trivial, trivial, trivial, trivial, trivial, trivial, trivial, trivial, trivial⟩ ?_
  rw [hq]
  refine z_ldcw M.1 (idx := 267) (x := 252645135) (by decide +kernel) (z_wi 873 (by decide +kernel) rfl) ?_
  obtain ⟨c, hc⟩ : ∃ c : Int32, (q + (q.toUInt32 >>> ((4 : Int32).toUInt32 &&& Int32.toUInt32 31)).toInt32) &&& 252645135 = c := ⟨_, rfl⟩
  refine z_go2 M.1 32 [(.iand, 1), (.istore_n 0, 1)] (34, [(0, .inl ((q + (q.toUInt32 >>> ((4 : Int32).toUInt32 &&& Int32.toUInt32 31)).toInt32) &&& 252645135))], [], w, 0, 0) (by decide +kernel) rfl ⟨trivial, trivial, trivial⟩ ?_
  rw [hc]
  obtain ⟨d, hd⟩ : ∃ d : Int32, c + (c.toUInt32 >>> ((8 : Int32).toUInt32 &&& Int32.toUInt32 31)).toInt32 = d := ⟨_, rfl⟩
  refine z_go2 M.1 34 [(.iload_n 0, 1), (.iload_n 0, 1), (.bipush 8, 2), (.iushr, 1), (.iadd, 1), (.istore_n 0, 1)] (41, [(0, .inl (c + (c.toUInt32 >>> ((8 : Int32).toUInt32 &&& Int32.toUInt32 31)).toInt32))], [], w, 0, 0) (by decide +kernel) rfl ⟨trivial, trivial, trivial, trivial, trivial, trivial, trivial⟩ ?_
  rw [hd]
  refine z_go2 M.1 41 [(.iload_n 0, 1), (.iload_n 0, 1), (.bipush 16, 2), (.iushr, 1), (.iadd, 1), (.istore_n 0, 1), (.iload_n 0, 1), (.bipush 63, 2), (.iand, 1)] (52, [(0, .inl (d + (d.toUInt32 >>> ((16 : Int32).toUInt32 &&& Int32.toUInt32 31)).toInt32))], [.inl ((d + (d.toUInt32 >>> ((16 : Int32).toUInt32 &&& Int32.toUInt32 31)).toInt32) &&& 63)], w, 0, 0) (by decide +kernel) rfl ⟨trivial, trivial, trivial, trivial, trivial, trivial, trivial, trivial, trivial, trivial⟩ ?_
  exact z_iret M (by decide +kernel) .int rfl rfl (Nat.le_refl _) (Nat.le_refl _) ⟨by subst hd; subst hc; subst hq; subst ha; rfl, rfl⟩
/-- System.arraycopy of a row of ints -/
def zCopy (S : Nat → Nat → Int32) (a0 a : Nat) (sp dp n : Int32) : Nat → Nat → Int32 := fun k => if k = a then va_cpy (S a0) (S a) sp.toNatClampNeg dp.toNatClampNeg n.toNatClampNeg else S k
/-- Arrays.fill of a row of ints -/
def zFill (S : Nat → Nat → Int32) (a len : Nat) (x : Int32) : Nat → Nat → Int32 := fun k => if k = a then (fun j => if j < len then x else S a j) else S k
theorem c_fill (T : Nat → Nat × Nat) (G : Nat → Nat → Option Nat) (S : Nat → Nat → Int32) (n a len : Nat) (hT : T a = (2, len)) (hlen : len < 2147483648) (x : Int32) : z_Run (zr 0) zm_Arrays_fill [z_r a, .inl x] (T, G, S, n) (zq none (T, G, zFill S a len x, n)) := by
  refine z_bodyF (by decide +kernel) (fun q h => nomatch h) (Nat.le_of_ble_eq_true rfl) (fun X M => ?_)
  show z_G X zm_Arrays_fill (0, [(0, z_r a), (1, .inl x)], [], (T, G, S, n), 0, 0)
  refine z_go2 M.1 0 [(.iconst 0, 1), (.istore_n 2, 1), (.aload_n 0, 1), (.arraylength, 1), (.istore_n 3, 1)] (5, [(3, .inl (Int32.ofNat (T a).2)), (2, .inl 0), (0, z_r a), (1, .inl x)], [], (T, G, S, n), 0, 0) (by decide +kernel) rfl ⟨trivial, trivial, trivial, by show (T a).1 = 2; rw [hT], trivial, trivial⟩ ?_
  rw [hT]
  have key : ∀ (k i : Nat) (S1 : Nat → Nat → Int32), len - i = k → i ≤ len → S1 = (fun c => if c = a then (fun j => if j < i then x else S a j) else S c) → z_G X zm_Arrays_fill (5, [(3, .inl (nI len)), (2, .inl (nI i)), (0, z_r a), (1, .inl x)], [], (T, G, S1, n), 0, 0) := by
    intro k
    induction k with
    | zero =>
      intro i S1 hk hi hS
      have hil : i = len := by omega
      subst hil
      refine z_go2 M.1 5 [(.iload_n 2, 1), (.iload_n 3, 1)] (7, [(3, .inl (nI i)), (2, .inl (nI i)), (0, z_r a), (1, .inl x)], [.inl (nI i), .inl (nI i)], (T, G, S1, n), 0, 0) (by decide +kernel) rfl ⟨trivial, trivial, trivial⟩ ?_
      refine z_icmp_ge 20 M.1 (off := 13) (by decide +kernel) (by decide) (fun _ => ?_) (fun c => absurd (nI_le (Nat.le_refl _) (by omega)) c)
      exact z_vret M (by decide +kernel) rfl (Nat.le_refl _) (Nat.le_refl _) ⟨rfl, by rw [hS]; rfl⟩
    | succ k ih =>
      intro i S1 hk hi hS
      have hlt : i < len := by omega
      refine z_go2 M.1 5 [(.iload_n 2, 1), (.iload_n 3, 1)] (7, [(3, .inl (nI len)), (2, .inl (nI i)), (0, z_r a), (1, .inl x)], [.inl (nI len), .inl (nI i)], (T, G, S1, n), 0, 0) (by decide +kernel) rfl ⟨trivial, trivial, trivial⟩ ?_
      refine z_icmp_ge 20 M.1 (off := 13) (by decide +kernel) (by decide) (fun c => absurd c (nI_ge hlt (by omega))) (fun _ => ?_)
      refine z_go2 M.1 10 [(.aload_n 0, 1), (.iload_n 2, 1), (.iload_n 1, 1), (.iastore, 1), (.iinc 2 1, 3), (.goto (-12), 3)] (5, [(2, .inl (nI i + 1)), (3, .inl (nI len)), (0, z_r a), (1, .inl x)], [], (T, G, z_uS S1 a (nI i).toNatClampNeg x, n), 0, 0) (by decide +kernel) rfl ⟨trivial, trivial, trivial, ⟨by show (T a).1 = 2; rw [hT], by show vp_in (nI i) (T a).2; rw [hT]; exact vp_in_nI hlt (by omega)⟩, trivial, trivial, trivial⟩ ?_
      rw [nI_1, nI_clamp (by omega)]
      refine z_lvs (lv' := [(3, .inl (nI len)), (2, .inl (nI (i + 1))), (0, z_r a), (1, .inl x)]) [1, 0, 2, 3] rfl (ih (i + 1) _ (by omega) hlt ?_)
      subst hS
      funext c j
      by_cases hc : c = a
      · subst hc
        simp only [z_uS, if_pos, upd]
        by_cases hj : j = i
        · subst hj; simp
        · simp only [if_neg hj]
          by_cases h1 : j < i
          · rw [if_pos h1, if_pos (by omega)]
          · rw [if_neg h1, if_neg (by omega)]
      · simp [z_uS, hc]
  exact key (len - 0) 0 S rfl (Nat.zero_le _) (by
    funext c j
    by_cases hc : c = a
    · subst hc; simp
    · simp [hc])

