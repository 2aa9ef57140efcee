/-! WHAT THROWS: an exception lies behind all, and nothing else is otherwise -/
theorem z_at.out {D : va_G} {cA : Nat → ClassId} {N0 : Nat} {sh : Nat × Nat} {g : Nat → Option Nat} {f : Nat → Int32} {a : Nat} {H : Heap} (H1 : Heap) (h : z_at D cA N0 sh g f a H) (ha : H.size ≤ a) : z_at D cA N0 sh g f a H1 := by
  obtain ⟨t, c⟩ := sh
  have hn : H[a]? = none := by simp [ha]
  match t, h with
  | 0, _ => trivial
  | 1, ⟨r, h1, ce, g1, _⟩ => rw [hn] at g1; cases g1
  | 2, h => exact nomatch (hn.symm.trans h)
  | 3, h => exact nomatch (hn.symm.trans h)
  | 4, h => exact nomatch (hn.symm.trans h)
  | 5, h => exact nomatch (hn.symm.trans h)
  | 6, h => exact nomatch (hn.symm.trans h)
  | _ + 7, _ => trivial
theorem z_rep.grow {D : va_G} {cA : Nat → ClassId} {N0 : Nat} {w : z_W} {H H1 : Heap} (h : z_rep D cA N0 w H) (hz : H.size < H1.size) (hq : ∀ q : Nat, q < H.size → H1[q]? = H[q]?) : ∃ n2, w.2.2.2 < n2 ∧ z_rep D cA N0 (w.1, w.2.1, w.2.2.1, n2) H1 := by
  have h1 := h.1
  refine ⟨H1.size - N0, by omega, by show H1.size = N0 + (H1.size - N0); omega, fun k => ?_⟩
  by_cases hk : N0 + k < H.size
  · exact (h.2 k).kept (hq _ hk)
  · exact (h.2 k).out H1 (by omega)
def z_inl : List Nat → List Cond → Bool
  | [], [] => true
  | i :: is, w :: ws => (decide (lw_tbl[i]? = some w) && (goodWord w || z_isN w) && vx_ot w) && z_inl is ws
  | _, _ => false
theorem z_inl_ok : ∀ {is : List Nat} {ws : List Cond}, z_inl is ws = true → ∀ w ∈ ws, (w ∈ z_WB ∨ (w ∈ z_NB ∧ z_isN w = true)) ∧ vx_ot w = true
  | [], [], _, w, hw => nomatch hw
  | [], _ :: _, h, _, _ => nomatch h
  | _ :: _, [], h, _, _ => nomatch h
  | i :: is, w0 :: ws, h, w, hw => by
    simp only [z_inl, Bool.and_eq_true, Bool.or_eq_true, decide_eq_true_eq] at h
    obtain ⟨⟨⟨h1, h2⟩, h3⟩, h4⟩ := h
    rcases List.mem_cons.mp hw with e | e
    · subst e
      refine ⟨?_, h3⟩
      rcases h2 with h2 | h2
      · exact Or.inl (z_wi i h1 h2)
      · exact Or.inr ⟨z_ni i h1 h2, h2⟩
    · exact z_inl_ok h4 w e
theorem z_must {Y : z_Y} {cls text : String} {ik is ic : Nat} {wi : List Nat} (hcn : Y.1.cls = "TrackHouse") (hret : Y.2.2.2.1 = none) (hnL : Y.2.2.1 = 1) (hft : Y.2.2.2.2 = zf_T)
    (d0 : decode Y.2.1 0 = .ok (.iload_n 0, 1)) (d1 : decode Y.2.1 1 = .ok (.ifCond .ne 14, 3)) (d4 : decode Y.2.1 4 = .ok (.new ik, 3)) (d7 : decode Y.2.1 7 = .ok (.dup, 1)) (d8 : decode Y.2.1 8 = .ok (.ldc_w is, 3)) (d11 : decode Y.2.1 11 = .ok (.invokespecial ic, 3)) (d14 : decode Y.2.1 14 = .ok (.athrow, 1)) (d15 : decode Y.2.1 15 = .ok (.return_, 1))
    (hk : Cond.classLink "TrackHouse" ik cls ∈ z_WB) (hini : Cond.initialized cls ∈ z_WB) (hsr : ("TrackHouse", is, text) ∈ z_SR) (hwi : z_inl wi (vx_atS "TrackHouse" ic cls ["java/lang/RuntimeException", "java/lang/Exception"]) = true) (hg2 : vx_ot (Cond.classLink "TrackHouse" ik cls) = true ∧ vx_ot (Cond.initialized cls) = true) (hcls : Bundle.fit cls = true)
    (T' : Nat → Nat × Nat) (G' : Nat → Nat → Option Nat) (S : Nat → Nat → Int32) (n : Nat) (x : Int32) : z_RunX (zx 6 1) Y [.inl x] (zW T' G' S n) (fun v w' => ¬ x = 0 ∧ v = none ∧ w' = zW T' G' S n) (fun E w' => x = 0 ∧ E = cls ∧ ∃ n2, n < n2 ∧ w' = zW T' G' S n2) := by
  intro l D cA N0 b htr
  obtain ⟨y, bs, nL, ret, ft⟩ := Y
  dsimp only at hcn hret hnL hft d0 d1 d4 d7 d8 d11 d14 d15
  subst hret hnL hft
  refine vx_ofW (cc := bs) (maxL := 1) (ret := none) (by rw [hcn]; decide) rfl ?_
  intro p e s m args below meth c s₁ B hml htab hv
  obtain ⟨rfl, henv, hrep⟩ := hv
  have hts := atoms_spec (ws := z_wsY (y, bs, 1, none, zf_T)) B.pre
  have hl := lv_entry ([.inl x].map (z_c N0 b)) (n := 1) (by rw [z_sl_len]; exact Nat.le_refl _)
  rw [z_args_eq] at hl
  rw [lg_entry_eq]
  have hown : s.vm.findClass "TrackHouse" = some m.cls := by rw [← hcn]; exact findClass_of_methodNamed B.named
  have C : z_C (p, l, e, (zx 6 1), s, m, ([.inl x].map (z_c N0 b)).toArray, below, meth, c, vx_MQ below (z_Qc D cA N0 b (fun v w' => ¬ x = 0 ∧ v = none ∧ w' = zW T' G' S n)) (z_XC D cA N0 (fun E w' => x = 0 ∧ E = cls ∧ ∃ n2, n < n2 ∧ w' = zW T' G' S n2)) ([.inl x].map (z_c N0 b)).toArray s (zx 6 1).cells (zx 6 1).slots (fun q => N0 ≤ q), D, cA, N0, b) (y, bs, 1, none, zf_T) :=
    ⟨B.exec, B.bytes, hml, findClass_of_methodNamed B.named, fun w h => hts w (List.mem_cons_of_mem _ h), henv, B.notSynchronized, B.returns, (name_of_methodNamed B.named B.method).1, fun q hq => by rw [show (y, bs, 1, (none : Option FieldType), zf_T).1.cls = "TrackHouse" from hcn]; exact zf_T_ok q hq, htr, by have := hrep.1; omega⟩
  have M : z_M (p, l, e, (zx 6 1), s, m, ([.inl x].map (z_c N0 b)).toArray, below, meth, c, vx_MQ below (z_Qc D cA N0 b (fun v w' => ¬ x = 0 ∧ v = none ∧ w' = zW T' G' S n)) (z_XC D cA N0 (fun E w' => x = 0 ∧ E = cls ∧ ∃ n2, n < n2 ∧ w' = zW T' G' S n2)) ([.inl x].map (z_c N0 b)).toArray s (zx 6 1).cells (zx 6 1).slots (fun q => N0 ≤ q), D, cA, N0, b) (y, bs, 1, none, zf_T) (zx 6 1) (fun v w' => ¬ x = 0 ∧ v = none ∧ w' = zW T' G' S n) := ⟨C, rfl, fun H locs g k => vx_ret k⟩
  have hw2 : ∀ w ∈ vx_atS "TrackHouse" ic cls ["java/lang/RuntimeException", "java/lang/Exception"], w.before ([.inl x].map (z_c N0 b)).toArray s = true := fun w hw => by
    rcases (z_inl_ok hwi w hw).1 with h | ⟨h, hN⟩
    · exact hts w (List.mem_cons_of_mem _ h)
    · exact va_Nw.use (z_N_tab hN) (henv.2.2.2.1 w h)
  obtain ⟨sa, hsa⟩ := henv.2.2.2.2.1 _ hsr
  have main : z_G (p, l, e, (zx 6 1), s, m, ([.inl x].map (z_c N0 b)).toArray, below, meth, c, vx_MQ below (z_Qc D cA N0 b (fun v w' => ¬ x = 0 ∧ v = none ∧ w' = zW T' G' S n)) (z_XC D cA N0 (fun E w' => x = 0 ∧ E = cls ∧ ∃ n2, n < n2 ∧ w' = zW T' G' S n2)) ([.inl x].map (z_c N0 b)).toArray s (zx 6 1).cells (zx 6 1).slots (fun q => N0 ≤ q), D, cA, N0, b) (y, bs, 1, none, zf_T) (0, [(0, .inl x)], [], zW T' G' S n, 0, 0) := by
    refine z_go2 C 0 [(.iload_n 0, 1)] (1, [(0, .inl x)], [.inl x], zW T' G' S n, 0, 0) (by show z_chk bs 0 _ = true; simp [z_chk, d0]) rfl ⟨trivial, trivial⟩ ?_
    refine z_if_ne 15 C (off := 14) d1 (by decide) (fun h1 => ?_) (fun h1 => ?_)
    · exact z_vret M d15 rfl (by decide) (by decide) ⟨h1, rfl, rfl⟩
    · intro H locs ls hR hS hl2
      refine vx_throwSW (own := "TrackHouse") (cls := cls) (text := text) (names := ["java/lang/RuntimeException", "java/lang/Exception"]) (ik := ik) (is := is) (ic := ic) (sa := sa) (A := fun q => N0 ≤ q) B.exec B.bytes htr hown hcls (by decide) (hts _ (List.mem_cons_of_mem _ hk)) (hts _ (List.mem_cons_of_mem _ hini)) hsa hw2
        (fun w hw => ?_) henv.2.1 henv.2.2.1 hS (hl2.1.trans hml.symm) d4 d7 d8 d11 d14 (fun x hx => (htab x hx).elim) (by decide) (show 0 + (13 * 3 + 43) ≤ 360 by decide) (Nat.le_refl 1) (Nat.le_refl 6) B.notSynchronized (fun t ht hz hq => ?_) hS.2.2 (Nat.le_refl 1) (Nat.le_refl 6)
      · rcases List.mem_cons.mp hw with e1 | hw
        · rw [e1]; exact hg2.1
        · rcases List.mem_cons.mp hw with e1 | hw
          · rw [e1]; exact hg2.2
          · exact (z_inl_ok hwi w hw).2
      · obtain ⟨n2, hn2, hr2⟩ := hR.grow hz hq
        exact ⟨⟨_, ⟨h1, rfl, n2, hn2, rfl⟩, hr2⟩, va_S.F (H := t.heap) ⟨Nat.le_trans hS.1 (Nat.le_of_lt hz), fun q g1 g2 => (hq q (Nat.lt_of_lt_of_le g1 hS.1)).trans (hS.2.1 q g1 g2), hS.2.2⟩ rfl⟩
  exact main s.heap [] _ hrep va_S.rf hl

def z_ix (w : Cond) : Nat := lw_tbl.findIdx (fun v => decide (v = w))
theorem c_mustExist (T' : Nat → Nat × Nat) (G' : Nat → Nat → Option Nat) (S : Nat → Nat → Int32) (n : Nat) (x : Int32) : z_RunX (zx 6 1) zm_T_mustExist [.inl x] (zW T' G' S n) (fun v w' => ¬ x = 0 ∧ v = none ∧ w' = zW T' G' S n) (fun E w' => x = 0 ∧ E = "java/lang/IndexOutOfBoundsException" ∧ ∃ n2, n < n2 ∧ w' = zW T' G' S n2) :=
  z_must (text := "no such person, project, kind, item, rule, day or place") (ik := 400) (is := 402) (ic := 404) (wi := (vx_atS "TrackHouse" 404 "java/lang/IndexOutOfBoundsException" ["java/lang/RuntimeException", "java/lang/Exception"]).map z_ix) rfl rfl rfl rfl (by decide +kernel) (by decide +kernel) (by decide +kernel) (by decide +kernel) (by decide +kernel) (by decide +kernel) (by decide +kernel) (by decide +kernel) (z_wi 530 (by decide +kernel) rfl) (z_wi 96 (by decide +kernel) rfl) (by simp [z_SR]) (by decide +kernel) (by decide +kernel) (by decide) T' G' S n x
theorem c_mustFit (T' : Nat → Nat × Nat) (G' : Nat → Nat → Option Nat) (S : Nat → Nat → Int32) (n : Nat) (x : Int32) : z_RunX (zx 6 1) zm_T_mustFit [.inl x] (zW T' G' S n) (fun v w' => ¬ x = 0 ∧ v = none ∧ w' = zW T' G' S n) (fun E w' => x = 0 ∧ E = "java/lang/IllegalArgumentException" ∧ ∃ n2, n < n2 ∧ w' = zW T' G' S n2) :=
  z_must (text := "an argument is out of its range") (ik := 407) (is := 409) (ic := 411) (wi := (vx_atS "TrackHouse" 411 "java/lang/IllegalArgumentException" ["java/lang/RuntimeException", "java/lang/Exception"]).map z_ix) rfl rfl rfl rfl (by decide +kernel) (by decide +kernel) (by decide +kernel) (by decide +kernel) (by decide +kernel) (by decide +kernel) (by decide +kernel) (by decide +kernel) (z_wi 604 (by decide +kernel) rfl) (z_wi 97 (by decide +kernel) rfl) (by simp [z_SR]) (by decide +kernel) (by decide +kernel) (by decide) T' G' S n x
theorem c_mustBeAllowed (T' : Nat → Nat × Nat) (G' : Nat → Nat → Option Nat) (S : Nat → Nat → Int32) (n : Nat) (x : Int32) : z_RunX (zx 6 1) zm_T_mustBeAllowed [.inl x] (zW T' G' S n) (fun v w' => ¬ x = 0 ∧ v = none ∧ w' = zW T' G' S n) (fun E w' => x = 0 ∧ E = "java/lang/IllegalStateException" ∧ ∃ n2, n < n2 ∧ w' = zW T' G' S n2) :=
  z_must (text := "that is refused as things stand") (ik := 412) (is := 414) (ic := 416) (wi := (vx_atS "TrackHouse" 416 "java/lang/IllegalStateException" ["java/lang/RuntimeException", "java/lang/Exception"]).map z_ix) rfl rfl rfl rfl (by decide +kernel) (by decide +kernel) (by decide +kernel) (by decide +kernel) (by decide +kernel) (by decide +kernel) (by decide +kernel) (by decide +kernel) (z_wi 683 (by decide +kernel) rfl) (z_wi 98 (by decide +kernel) rfl) (by simp [z_SR]) (by decide +kernel) (by decide +kernel) (by decide) T' G' S n x
