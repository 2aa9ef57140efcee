/-! WHAT MAKES CELLS: the memory grows, and what was there stays -/
def zGr (T0 : Nat → Nat × Nat) (G0 : Nat → Nat → Option Nat) (n0 : Nat) (T' : Nat → Nat × Nat) (G' : Nat → Nat → Option Nat) (n : Nat) : Prop :=
  194 ≤ n0 ∧ n0 ≤ n ∧ ∀ k, k < n0 → zT T' k = zT T0 k ∧ zG G' k = zG G0 k
theorem zGr.rfl {T' : Nat → Nat × Nat} {G' : Nat → Nat → Option Nat} {n : Nat} (h : 194 ≤ n) : zGr T' G' n T' G' n := ⟨h, Nat.le_refl _, fun _ _ => ⟨Eq.refl _, Eq.refl _⟩⟩
theorem zGr.trans {T0 T1 T2 : Nat → Nat × Nat} {G0 G1 G2 : Nat → Nat → Option Nat} {n0 n1 n2 : Nat} (h : zGr T0 G0 n0 T1 G1 n1) (g : zGr T1 G1 n1 T2 G2 n2) : zGr T0 G0 n0 T2 G2 n2 :=
  ⟨h.1, Nat.le_trans h.2.1 g.2.1, fun k hk => ⟨(g.2.2 k (Nat.lt_of_lt_of_le hk h.2.1)).1.trans (h.2.2 k hk).1, (g.2.2 k (Nat.lt_of_lt_of_le hk h.2.1)).2.trans (h.2.2 k hk).2⟩⟩
theorem zGr.hi {T0 T' : Nat → Nat × Nat} {G0 G' : Nat → Nat → Option Nat} {n0 n : Nat} (h : zGr T0 G0 n0 T' G' n) : 194 ≤ n := Nat.le_trans h.1 h.2.1
theorem zFo.gr {T0 T' : Nat → Nat × Nat} {G0 G' : Nat → Nat → Option Nat} {n0 n f : Nat} (g : zGr T0 G0 n0 T' G' n) (h : zFo T0 G0 f) (hf : f + 7 < n0) : zFo T' G' f :=
  ⟨(g.2.2 f (by omega)).1.trans h.1, fun i h1 h2 => (g.2.2 (f + i) (by omega)).1.trans (h.2.1 i h1 h2), (g.2.2 (f + 7) hf).1.trans h.2.2.1, fun j h1 h2 => by rw [(g.2.2 f (by omega)).2]; exact h.2.2.2 j h1 h2⟩
theorem zOK.gr {T0 T' : Nat → Nat × Nat} {G0 G' : Nat → Nat → Option Nat} {n0 n : Nat} {fl : Nat → Nat} (h : zOK T0 G0 fl n0) (g : zGr T0 G0 n0 T' G' n) : zOK T' G' fl n := by
  have h1 := h.1
  have g2 := g.2.1
  refine ⟨by omega, fun k hk => ⟨?_, ?_, ?_⟩⟩
  · rw [(g.2.2 131 (by omega)).2]; exact (h.2 k hk).1
  · exact ((h.2 k hk).2.1).gr g (h.2 k hk).2.2
  · have := (h.2 k hk).2.2; omega
theorem zT_hi (T' : Nat → Nat × Nat) {k : Nat} (h : 194 ≤ k) : zT T' k = T' k := by
  unfold zT
  have h1 : (zT0.getD (k / 16) [])[k % 16]? = none := by
    have hl : zT0.length = 13 := by decide +kernel
    by_cases hk : k / 16 < 13
    · have e : k / 16 = 12 := by omega
      rw [e]
      have e2 : (zT0.getD 12 []).length = 2 := by decide +kernel
      exact List.getElem?_eq_none (by omega)
    · have e : zT0[k / 16]? = none := List.getElem?_eq_none (by omega)
      rw [List.getD_eq_getElem?_getD, e]; rfl
  rw [h1]
theorem zG_hi (G' : Nat → Nat → Option Nat) {k : Nat} (h : 194 ≤ k) (j : Nat) : zG G' k j = G' k j := by
  unfold zG
  have h1 : (zG0.getD (k / 16) []).getD (k % 16) [] = [] := by
    have hl : zG0.length = 13 := by decide +kernel
    by_cases hk : k / 16 < 13
    · have e : k / 16 = 12 := by omega
      rw [e]
      have e2 : (zG0.getD 12 []).length = 2 := by decide +kernel
      rw [List.getD_eq_getElem?_getD, List.getElem?_eq_none (by omega)]; rfl
    · have e : zG0[k / 16]? = none := List.getElem?_eq_none (by omega)
      rw [List.getD_eq_getElem?_getD (l := zG0), e]; rfl
  rw [h1]
  rfl
def zTn (T' : Nat → Nat × Nat) (n : Nat) (sh : Nat × Nat) : Nat → Nat × Nat := fun k => if k = n then sh else T' k
def zGn (G' : Nat → Nat → Option Nat) (n : Nat) : Nat → Nat → Option Nat := fun k => if k = n then (fun _ => none) else G' k
def zSn (S : Nat → Nat → Int32) (n : Nat) : Nat → Nat → Int32 := fun k => if k = n then (fun _ => 0) else S k
theorem zTn_at (T' : Nat → Nat × Nat) {n : Nat} (h : 194 ≤ n) (sh : Nat × Nat) : zT (zTn T' n sh) n = sh := by rw [zT_hi _ h]; simp [zTn]
theorem zTn_ne (T' : Nat → Nat × Nat) {n k : Nat} (sh : Nat × Nat) (hk : k ≠ n) : zT (zTn T' n sh) k = zT T' k := by
  unfold zT
  have : zTn T' n sh k = T' k := by simp [zTn, hk]
  rw [this]
theorem zGn_ne (G' : Nat → Nat → Option Nat) {n k : Nat} (hk : k ≠ n) : zG (zGn G' n) k = zG G' k := by
  funext j
  unfold zG
  have : zGn G' n k = G' k := by simp [zGn, hk]
  rw [this]
theorem z_nw_zW (T' : Nat → Nat × Nat) (G' : Nat → Nat → Option Nat) (S : Nat → Nat → Int32) {n : Nat} (h : 194 ≤ n) (sh : Nat × Nat) : z_nw (zW T' G' S n) sh = zW (zTn T' n sh) (zGn G' n) (zSn S n) (n + 1) := by
  have e1 : (fun k => if k = n then sh else zT T' k) = zT (zTn T' n sh) := by
    funext k
    by_cases hk : k = n
    · rw [if_pos hk, hk, zTn_at _ h]
    · rw [if_neg hk, zTn_ne _ _ hk]
  have e2 : (fun k => if k = n then (fun _ => none) else zG G' k) = zG (zGn G' n) := by
    funext k
    by_cases hk : k = n
    · rw [if_pos hk, hk]
      funext j
      rw [zG_hi _ h]
      simp [zGn]
    · rw [if_neg hk, zGn_ne _ hk]
  show (_, _, _, _) = _
  exact Prod.ext e1 (Prod.ext e2 rfl)
theorem zGr_nw (T' : Nat → Nat × Nat) (G' : Nat → Nat → Option Nat) {n : Nat} (h : 194 ≤ n) (sh : Nat × Nat) : zGr T' G' n (zTn T' n sh) (zGn G' n) (n + 1) :=
  ⟨h, Nat.le_succ n, fun k hk => ⟨zTn_ne _ _ (by omega), zGn_ne _ (by omega)⟩⟩
def zg (d c s : Nat) : Room := { frames := d, cells := c, slots := s, locals := 40 * d }
section Z33
variable {X : z_X} {Y : z_Y} {pc nc ns idx : Nat} {lv : List (Nat × z_V)} {st : List z_V} {w : z_W}
theorem z_wid {nc' ns' : Nat} (h1 : nc ≤ nc') (h2 : ns ≤ ns') (k : z_G X Y (pc, lv, st, w, nc', ns')) : z_G X Y (pc, lv, st, w, nc, ns) := by
  obtain ⟨p, l, e, R, s, m, args, below, meth, c, Q, D, cA, N0, b⟩ := X
  intro H locs ls hR hS hl
  exact W.widen h1 h2 (k H locs ls hR hS hl)
theorem z_zalD {a len : Nat} {i x : Int32} (C : z_C X Y) (hd : decode Y.2.1 pc = .ok (.baload, 1)) (hT : w.1 a = (3, len)) (hin : vp_in i len) (hx : w.2.2.1 a i.toNatClampNeg = x) (k : z_G X Y (pc + 1, lv, .inl x :: st, w, nc, ns)) : z_G X Y (pc, lv, .inl i :: z_r a :: st, w, nc, ns) := by
  subst hx
  exact z_zald C hd hT hin k
end Z33

abbrev rm_M_leads : Room := zg 1 1 30
def F_M_leads_l32_71 (ga : Nat) (rc : (Nat → Nat → Int32) → Int32 → ((Nat → Nat → Int32))) (S : (Nat → Nat → Int32)) (x2 : Int32) (x4 : Int32) (x5 : Int32) (x6 : Int32) (s0 : Int32) : ((Nat → Nat → Int32)) := (rc (z_uS S ga (s0).toNatClampNeg (vp_nar .boolean 1)) (x6 + 1))
def Sf_M_leads_l32_71 (ga : Nat) (rc : (Nat → Nat → Int32) → Int32 → ((Nat → Nat → Int32))) (sr : (Nat → Nat → Int32) → Int32 → Prop) (S : (Nat → Nat → Int32)) (x2 : Int32) (x4 : Int32) (x5 : Int32) (x6 : Int32) (s0 : Int32) : Prop := ((vp_in s0 30) ∧ (sr (z_uS S ga (s0).toNatClampNeg (vp_nar .boolean 1)) (x6 + 1)))
theorem t_M_leads_l32_71 {X : z_X} {Post : Option z_V → z_W → Prop} (M : z_M X zm_M_leads rm_M_leads Post) {T' : Nat → Nat × Nat} {G' : Nat → Nat → Option Nat} {n : Nat} (ga : Nat) (hga : zT T' ga = (3, 30)) {Q : ((Nat → Nat → Int32)) → Prop} (rc : (Nat → Nat → Int32) → Int32 → ((Nat → Nat → Int32))) (sr : (Nat → Nat → Int32) → Int32 → Prop) (S : (Nat → Nat → Int32)) (x2 : Int32) (x4 : Int32) (x5 : Int32) (x6 : Int32) (s0 : Int32) (hE : ∀ (S' : (Nat → Nat → Int32)), Q S' → z_G X zm_M_leads (83, [(0, z_r 78), (2, .inl x2), (3, z_r ga), (4, .inl x4), (5, .inl x5)], [], zW T' G' S' n, 1, 30)) (hC : ∀ (S : (Nat → Nat → Int32)) (x6 : Int32), Q (rc S x6) → sr S x6 → z_G X zm_M_leads (32, [(0, z_r 78), (2, .inl x2), (3, z_r ga), (4, .inl x4), (5, .inl x5), (6, .inl x6)], [], zW T' G' S n, 1, 30)) (K : Q (F_M_leads_l32_71 ga rc S x2 x4 x5 x6 s0)) (hs : Sf_M_leads_l32_71 ga rc sr S x2 x4 x5 x6 s0) : z_G X zm_M_leads (71, [(0, z_r 78), (2, .inl x2), (3, z_r ga), (4, .inl x4), (5, .inl x5), (6, .inl x6)], [.inl s0, z_r ga], zW T' G' S n, 1, 30) := by
  unfold F_M_leads_l32_71 at K
  unfold Sf_M_leads_l32_71 at hs
  refine z_go2 M.1 71 [(.iconst 1, 1), (.goto 4, 3)] (76, [(0, z_r 78), (2, .inl x2), (3, z_r ga), (4, .inl x4), (5, .inl x5), (6, .inl x6)], [.inl 1, .inl s0, z_r ga], zW T' G' S n, 1, 30) (by decide +kernel) rfl ⟨trivial, trivial, trivial⟩ ?_
  refine z_zast M.1 (a := ga) (len := 30) (by decide +kernel) hga hs.1 ?_
  show z_G X zm_M_leads (77, [(0, z_r 78), (2, .inl x2), (3, z_r ga), (4, .inl x4), (5, .inl x5), (6, .inl x6)], [], zW T' G' (z_uS S ga (s0).toNatClampNeg (vp_nar .boolean 1)) n, 1, 30)
  replace hs := hs.2
  refine z_go2 M.1 77 [(.iinc 6 1, 3), (.goto (-48), 3)] (32, [(6, .inl (x6 + 1)), (0, z_r 78), (2, .inl x2), (3, z_r ga), (4, .inl x4), (5, .inl x5)], [], zW T' G' (z_uS S ga (s0).toNatClampNeg (vp_nar .boolean 1)) n, 1, 30) (by decide +kernel) rfl ⟨trivial, trivial, trivial⟩ ?_
  exact z_lvs (lv' := [(0, z_r 78), (2, .inl x2), (3, z_r ga), (4, .inl x4), (5, .inl x5), (6, .inl (x6 + 1))]) [1, 2, 3, 4, 5, 0] rfl (hC (z_uS S ga (s0).toNatClampNeg (vp_nar .boolean 1)) (x6 + 1) K hs)
def F_M_leads_L32 (ga : Nat) (x2 : Int32) (x4 : Int32) (x5 : Int32) : Nat → (Nat → Nat → Int32) → Int32 → ((Nat → Nat → Int32))
  | 0, S, x6 => S
  | f + 1, S, x6 => (if (30 : Int32) ≤ x6 then S else (if (S ga (x5).toNatClampNeg) = 0 then S else (if (S ga (x6).toNatClampNeg) = 0 then (if (F_MW_isLinked 86 S 0 x5 x6) = 0 then ((F_M_leads_L32 ga x2 x4 x5 f) (z_uS S ga (x6).toNatClampNeg (vp_nar .boolean 0)) (x6 + 1)) else (F_M_leads_l32_71 ga (F_M_leads_L32 ga x2 x4 x5 f) S x2 x4 x5 x6 x6)) else (F_M_leads_l32_71 ga (F_M_leads_L32 ga x2 x4 x5 f) S x2 x4 x5 x6 x6))))
def Sf_M_leads_L32 (ga : Nat) (x2 : Int32) (x4 : Int32) (x5 : Int32) : Nat → (Nat → Nat → Int32) → Int32 → Prop
  | 0, _, _ => False
  | f + 1, S, x6 => (if (30 : Int32) ≤ x6 then True else ((vp_in x5 30) ∧ (if (S ga (x5).toNatClampNeg) = 0 then True else ((vp_in x6 30) ∧ (if (S ga (x6).toNatClampNeg) = 0 then (Sf_MW_isLinked 86 S 0 x5 x6 ∧ (if (F_MW_isLinked 86 S 0 x5 x6) = 0 then ((vp_in x6 30) ∧ ((Sf_M_leads_L32 ga x2 x4 x5 f) (z_uS S ga (x6).toNatClampNeg (vp_nar .boolean 0)) (x6 + 1))) else (Sf_M_leads_l32_71 ga (F_M_leads_L32 ga x2 x4 x5 f) (Sf_M_leads_L32 ga x2 x4 x5 f) S x2 x4 x5 x6 x6))) else (Sf_M_leads_l32_71 ga (F_M_leads_L32 ga x2 x4 x5 f) (Sf_M_leads_L32 ga x2 x4 x5 f) S x2 x4 x5 x6 x6))))))
theorem t_M_leads_L32 {X : z_X} {Post : Option z_V → z_W → Prop} (M : z_M X zm_M_leads rm_M_leads Post) {T' : Nat → Nat × Nat} {G' : Nat → Nat → Option Nat} {n : Nat} (ga : Nat) (hga : zT T' ga = (3, 30)) {Q : ((Nat → Nat → Int32)) → Prop}  (x2 : Int32) (x4 : Int32) (x5 : Int32) (hE : ∀ (S' : (Nat → Nat → Int32)), Q S' → z_G X zm_M_leads (83, [(0, z_r 78), (2, .inl x2), (3, z_r ga), (4, .inl x4), (5, .inl x5)], [], zW T' G' S' n, 1, 30)) (f : Nat) : ∀ (S : (Nat → Nat → Int32)) (x6 : Int32), Q (F_M_leads_L32 ga x2 x4 x5 f S x6) → Sf_M_leads_L32 ga x2 x4 x5 f S x6 → z_G X zm_M_leads (32, [(0, z_r 78), (2, .inl x2), (3, z_r ga), (4, .inl x4), (5, .inl x5), (6, .inl x6)], [], zW T' G' S n, 1, 30) := by
  induction f with
  | zero => intro S x6 K hs; exact False.elim hs
  | succ f hC =>
    intro S x6 K hs
    rw [F_M_leads_L32] at K
    rw [Sf_M_leads_L32] at hs
    refine z_go2 M.1 32 [(.iload 6, 2), (.bipush 30, 2)] (36, [(0, z_r 78), (2, .inl x2), (3, z_r ga), (4, .inl x4), (5, .inl x5), (6, .inl x6)], [.inl 30, .inl x6], zW T' G' S n, 1, 30) (by decide +kernel) rfl ⟨trivial, trivial, trivial⟩ ?_
    refine z_icmp_ge 83 M.1 (off := 47) (by decide +kernel) (by decide) (fun c36 => ?_) (fun c36 => ?_)
    · rw [if_pos c36] at K hs
      exact z_lvs (lv' := [(0, z_r 78), (2, .inl x2), (3, z_r ga), (4, .inl x4), (5, .inl x5)]) [0, 1, 2, 3, 4] rfl (hE S K)
    · rw [if_neg c36] at K hs
      refine z_go2 M.1 39 [(.aload_n 3, 1), (.iload 5, 2)] (42, [(0, z_r 78), (2, .inl x2), (3, z_r ga), (4, .inl x4), (5, .inl x5), (6, .inl x6)], [.inl x5, z_r ga], zW T' G' S n, 1, 30) (by decide +kernel) rfl ⟨trivial, trivial, trivial⟩ ?_
      refine z_zalD M.1 (a := ga) (len := 30) (x := (S ga (x5).toNatClampNeg)) (by decide +kernel) hga hs.1 rfl ?_
      replace hs := hs.2
      refine z_if_eq 83 M.1 (off := 40) (by decide +kernel) (by decide) (fun c43 => ?_) (fun c43 => ?_)
      · rw [if_pos c43] at K hs
        exact z_lvs (lv' := [(0, z_r 78), (2, .inl x2), (3, z_r ga), (4, .inl x4), (5, .inl x5)]) [0, 1, 2, 3, 4] rfl (hE S K)
      · rw [if_neg c43] at K hs
        refine z_go2 M.1 46 [(.aload_n 3, 1), (.iload 6, 2), (.aload_n 3, 1), (.iload 6, 2)] (52, [(0, z_r 78), (2, .inl x2), (3, z_r ga), (4, .inl x4), (5, .inl x5), (6, .inl x6)], [.inl x6, z_r ga, .inl x6, z_r ga], zW T' G' S n, 1, 30) (by decide +kernel) rfl ⟨trivial, trivial, trivial, trivial, trivial⟩ ?_
        refine z_zalD M.1 (a := ga) (len := 30) (x := (S ga (x6).toNatClampNeg)) (by decide +kernel) hga hs.1 rfl ?_
        replace hs := hs.2
        refine z_if_ne 71 M.1 (off := 18) (by decide +kernel) (by decide) (fun c53 => ?_) (fun c53 => ?_)
        · rw [if_neg c53] at K hs
          exact z_lvs (lv' := [(0, z_r 78), (2, .inl x2), (3, z_r ga), (4, .inl x4), (5, .inl x5), (6, .inl x6)]) [0, 1, 2, 3, 4, 5] rfl (t_M_leads_l32_71 M ga hga (F_M_leads_L32 ga x2 x4 x5 f) (Sf_M_leads_L32 ga x2 x4 x5 f) S x2 x4 x5 x6 x6 hE hC K hs)
        · rw [if_pos c53] at K hs
          refine z_go2 M.1 56 [(.aload_n 0, 1), (.getfield 34, 3), (.iconst 0, 1), (.iload 5, 2), (.iload 6, 2)] (65, [(0, z_r 78), (2, .inl x2), (3, z_r ga), (4, .inl x4), (5, .inl x5), (6, .inl x6)], [.inl x6, .inl x5, .inl 0, z_r 86, .inl x6, z_r ga], zW T' G' S n, 1, 30) (by decide +kernel) rfl ⟨trivial, rfl, trivial, trivial, trivial, trivial⟩ ?_
          refine z_callV M.1 (av := [.inl 0, .inl x5, .inl x6]) (st := [.inl x6, z_r ga]) (a := 86) (ci := 13) (by decide +kernel) (c_MW_isLinked_86 T' G' S n 0 x5 x6 hs.1) M.2.1 zl_M_256 zv_MW_isLinked rfl rfl rfl ⟨by decide, by decide, by decide, by decide⟩ rfl (Nat.le_of_ble_eq_true rfl) (fun v w' hv => ?_)
          obtain ⟨rfl, rfl⟩ := hv
          replace hs := hs.2
          show z_G X zm_M_leads (68, [(0, z_r 78), (2, .inl x2), (3, z_r ga), (4, .inl x4), (5, .inl x5), (6, .inl x6)], [.inl (F_MW_isLinked 86 S 0 x5 x6), .inl x6, z_r ga], zW T' G' S n, 1, 30)
          refine z_if_eq 75 M.1 (off := 7) (by decide +kernel) (by decide) (fun c68 => ?_) (fun c68 => ?_)
          · rw [if_pos c68] at K hs
            refine z_go2 M.1 75 [(.iconst 0, 1)] (76, [(0, z_r 78), (2, .inl x2), (3, z_r ga), (4, .inl x4), (5, .inl x5), (6, .inl x6)], [.inl 0, .inl x6, z_r ga], zW T' G' S n, 1, 30) (by decide +kernel) rfl ⟨trivial, trivial⟩ ?_
            refine z_zast M.1 (a := ga) (len := 30) (by decide +kernel) hga hs.1 ?_
            show z_G X zm_M_leads (77, [(0, z_r 78), (2, .inl x2), (3, z_r ga), (4, .inl x4), (5, .inl x5), (6, .inl x6)], [], zW T' G' (z_uS S ga (x6).toNatClampNeg (vp_nar .boolean 0)) n, 1, 30)
            replace hs := hs.2
            refine z_go2 M.1 77 [(.iinc 6 1, 3), (.goto (-48), 3)] (32, [(6, .inl (x6 + 1)), (0, z_r 78), (2, .inl x2), (3, z_r ga), (4, .inl x4), (5, .inl x5)], [], zW T' G' (z_uS S ga (x6).toNatClampNeg (vp_nar .boolean 0)) n, 1, 30) (by decide +kernel) rfl ⟨trivial, trivial, trivial⟩ ?_
            exact z_lvs (lv' := [(0, z_r 78), (2, .inl x2), (3, z_r ga), (4, .inl x4), (5, .inl x5), (6, .inl (x6 + 1))]) [1, 2, 3, 4, 5, 0] rfl (hC (z_uS S ga (x6).toNatClampNeg (vp_nar .boolean 0)) (x6 + 1) K hs)
          · rw [if_neg c68] at K hs
            exact z_lvs (lv' := [(0, z_r 78), (2, .inl x2), (3, z_r ga), (4, .inl x4), (5, .inl x5), (6, .inl x6)]) [0, 1, 2, 3, 4, 5] rfl (t_M_leads_l32_71 M ga hga (F_M_leads_L32 ga x2 x4 x5 f) (Sf_M_leads_L32 ga x2 x4 x5 f) S x2 x4 x5 x6 x6 hE hC K hs)
def F_M_leads_L22 (ga : Nat) (x2 : Int32) (x4 : Int32) : Nat → (Nat → Nat → Int32) → Int32 → ((Nat → Nat → Int32))
  | 0, S, x5 => S
  | f + 1, S, x5 => (if (30 : Int32) ≤ x5 then S else (match F_M_leads_L32 ga x2 x4 x5 1300 S 0 with | S32 => ((F_M_leads_L22 ga x2 x4 f) S32 (x5 + 1))))
def Sf_M_leads_L22 (ga : Nat) (x2 : Int32) (x4 : Int32) : Nat → (Nat → Nat → Int32) → Int32 → Prop
  | 0, _, _ => False
  | f + 1, S, x5 => (if (30 : Int32) ≤ x5 then True else (Sf_M_leads_L32 ga x2 x4 x5 1300 S 0 ∧ (match F_M_leads_L32 ga x2 x4 x5 1300 S 0 with | S32 => ((Sf_M_leads_L22 ga x2 x4 f) S32 (x5 + 1)))))
theorem t_M_leads_L22 {X : z_X} {Post : Option z_V → z_W → Prop} (M : z_M X zm_M_leads rm_M_leads Post) {T' : Nat → Nat × Nat} {G' : Nat → Nat → Option Nat} {n : Nat} (ga : Nat) (hga : zT T' ga = (3, 30)) {Q : ((Nat → Nat → Int32)) → Prop}  (x2 : Int32) (x4 : Int32) (hE : ∀ (S' : (Nat → Nat → Int32)), Q S' → z_G X zm_M_leads (89, [(0, z_r 78), (2, .inl x2), (3, z_r ga), (4, .inl x4)], [], zW T' G' S' n, 1, 30)) (f : Nat) : ∀ (S : (Nat → Nat → Int32)) (x5 : Int32), Q (F_M_leads_L22 ga x2 x4 f S x5) → Sf_M_leads_L22 ga x2 x4 f S x5 → z_G X zm_M_leads (22, [(0, z_r 78), (2, .inl x2), (3, z_r ga), (4, .inl x4), (5, .inl x5)], [], zW T' G' S n, 1, 30) := by
  induction f with
  | zero => intro S x5 K hs; exact False.elim hs
  | succ f hC =>
    intro S x5 K hs
    rw [F_M_leads_L22] at K
    rw [Sf_M_leads_L22] at hs
    refine z_go2 M.1 22 [(.iload 5, 2), (.bipush 30, 2)] (26, [(0, z_r 78), (2, .inl x2), (3, z_r ga), (4, .inl x4), (5, .inl x5)], [.inl 30, .inl x5], zW T' G' S n, 1, 30) (by decide +kernel) rfl ⟨trivial, trivial, trivial⟩ ?_
    refine z_icmp_ge 89 M.1 (off := 63) (by decide +kernel) (by decide) (fun c26 => ?_) (fun c26 => ?_)
    · rw [if_pos c26] at K hs
      exact z_lvs (lv' := [(0, z_r 78), (2, .inl x2), (3, z_r ga), (4, .inl x4)]) [0, 1, 2, 3] rfl (hE S K)
    · rw [if_neg c26] at K hs
      refine z_go2 M.1 29 [(.iconst 0, 1), (.istore 6, 2)] (32, [(6, .inl 0), (0, z_r 78), (2, .inl x2), (3, z_r ga), (4, .inl x4), (5, .inl x5)], [], zW T' G' S n, 1, 30) (by decide +kernel) rfl ⟨trivial, trivial, trivial⟩ ?_
      refine z_lvs (lv' := [(0, z_r 78), (2, .inl x2), (3, z_r ga), (4, .inl x4), (5, .inl x5), (6, .inl 0)]) [1, 2, 3, 4, 5, 0] rfl ?_
      refine t_M_leads_L32 M ga hga (Q := fun o => F_M_leads_L32 ga x2 x4 x5 1300 S 0 = o) x2 x4 x5 (fun S32 hL32 => ?_) 1300 S 0 rfl hs.1
      replace hs := hs.2
      rw [hL32] at K
      try rw [hL32] at hs
      try dsimp only at K hs
      refine z_go2 M.1 83 [(.iinc 5 1, 3), (.goto (-64), 3)] (22, [(5, .inl (x5 + 1)), (0, z_r 78), (2, .inl x2), (3, z_r ga), (4, .inl x4)], [], zW T' G' S32 n, 1, 30) (by decide +kernel) rfl ⟨trivial, trivial, trivial⟩ ?_
      exact z_lvs (lv' := [(0, z_r 78), (2, .inl x2), (3, z_r ga), (4, .inl x4), (5, .inl (x5 + 1))]) [1, 2, 3, 4, 0] rfl (hC S32 (x5 + 1) K hs)
def F_M_leads_L12 (ga : Nat) (x2 : Int32) : Nat → (Nat → Nat → Int32) → Int32 → ((Nat → Nat → Int32))
  | 0, S, x4 => S
  | f + 1, S, x4 => (if (30 : Int32) ≤ x4 then S else (match F_M_leads_L22 ga x2 x4 1300 S 0 with | S22 => ((F_M_leads_L12 ga x2 f) S22 (x4 + 1))))
def Sf_M_leads_L12 (ga : Nat) (x2 : Int32) : Nat → (Nat → Nat → Int32) → Int32 → Prop
  | 0, _, _ => False
  | f + 1, S, x4 => (if (30 : Int32) ≤ x4 then True else (Sf_M_leads_L22 ga x2 x4 1300 S 0 ∧ (match F_M_leads_L22 ga x2 x4 1300 S 0 with | S22 => ((Sf_M_leads_L12 ga x2 f) S22 (x4 + 1)))))
theorem t_M_leads_L12 {X : z_X} {Post : Option z_V → z_W → Prop} (M : z_M X zm_M_leads rm_M_leads Post) {T' : Nat → Nat × Nat} {G' : Nat → Nat → Option Nat} {n : Nat} (ga : Nat) (hga : zT T' ga = (3, 30)) {Q : ((Nat → Nat → Int32)) → Prop}  (x2 : Int32) (hE : ∀ (S' : (Nat → Nat → Int32)), Q S' → z_G X zm_M_leads (95, [(2, .inl x2), (3, z_r ga)], [], zW T' G' S' n, 1, 30)) (f : Nat) : ∀ (S : (Nat → Nat → Int32)) (x4 : Int32), Q (F_M_leads_L12 ga x2 f S x4) → Sf_M_leads_L12 ga x2 f S x4 → z_G X zm_M_leads (12, [(0, z_r 78), (2, .inl x2), (3, z_r ga), (4, .inl x4)], [], zW T' G' S n, 1, 30) := by
  induction f with
  | zero => intro S x4 K hs; exact False.elim hs
  | succ f hC =>
    intro S x4 K hs
    rw [F_M_leads_L12] at K
    rw [Sf_M_leads_L12] at hs
    refine z_go2 M.1 12 [(.iload 4, 2), (.bipush 30, 2)] (16, [(0, z_r 78), (2, .inl x2), (3, z_r ga), (4, .inl x4)], [.inl 30, .inl x4], zW T' G' S n, 1, 30) (by decide +kernel) rfl ⟨trivial, trivial, trivial⟩ ?_
    refine z_icmp_ge 95 M.1 (off := 79) (by decide +kernel) (by decide) (fun c16 => ?_) (fun c16 => ?_)
    · rw [if_pos c16] at K hs
      exact z_lvs (lv' := [(2, .inl x2), (3, z_r ga)]) [1, 2] rfl (hE S K)
    · rw [if_neg c16] at K hs
      refine z_go2 M.1 19 [(.iconst 0, 1), (.istore 5, 2)] (22, [(5, .inl 0), (0, z_r 78), (2, .inl x2), (3, z_r ga), (4, .inl x4)], [], zW T' G' S n, 1, 30) (by decide +kernel) rfl ⟨trivial, trivial, trivial⟩ ?_
      refine z_lvs (lv' := [(0, z_r 78), (2, .inl x2), (3, z_r ga), (4, .inl x4), (5, .inl 0)]) [1, 2, 3, 4, 0] rfl ?_
      refine t_M_leads_L22 M ga hga (Q := fun o => F_M_leads_L22 ga x2 x4 1300 S 0 = o) x2 x4 (fun S22 hL22 => ?_) 1300 S 0 rfl hs.1
      replace hs := hs.2
      rw [hL22] at K
      try rw [hL22] at hs
      try dsimp only at K hs
      refine z_go2 M.1 89 [(.iinc 4 1, 3), (.goto (-80), 3)] (12, [(4, .inl (x4 + 1)), (0, z_r 78), (2, .inl x2), (3, z_r ga)], [], zW T' G' S22 n, 1, 30) (by decide +kernel) rfl ⟨trivial, trivial, trivial⟩ ?_
      exact z_lvs (lv' := [(0, z_r 78), (2, .inl x2), (3, z_r ga), (4, .inl (x4 + 1))]) [1, 2, 3, 0] rfl (hC S22 (x4 + 1) K hs)
def F_M_leads_j5 (ga : Nat) (S : (Nat → Nat → Int32)) (x1 : Int32) (x2 : Int32) : (Int32 × (Nat → Nat → Int32)) := (match F_M_leads_L12 ga x2 1300 (z_uS S ga (x1).toNatClampNeg (vp_nar .boolean 1)) 0 with | S12 => ((S12 ga (x2).toNatClampNeg), S12))
def Sf_M_leads_j5 (ga : Nat) (S : (Nat → Nat → Int32)) (x1 : Int32) (x2 : Int32) : Prop := ((vp_in x1 30) ∧ (Sf_M_leads_L12 ga x2 1300 (z_uS S ga (x1).toNatClampNeg (vp_nar .boolean 1)) 0 ∧ (match F_M_leads_L12 ga x2 1300 (z_uS S ga (x1).toNatClampNeg (vp_nar .boolean 1)) 0 with | S12 => ((vp_in x2 30) ∧ (narrow .boolean (.int (S12 ga (x2).toNatClampNeg)) = .int (S12 ga (x2).toNatClampNeg) ∧ True)))))
theorem t_M_leads_j5 {X : z_X} {Post : Option z_V → z_W → Prop} (M : z_M X zm_M_leads rm_M_leads Post) {T' : Nat → Nat × Nat} {G' : Nat → Nat → Option Nat} {n : Nat} (ga : Nat) (hga : zT T' ga = (3, 30)) {Q : (Int32 × (Nat → Nat → Int32)) → Prop} (S : (Nat → Nat → Int32)) (x1 : Int32) (x2 : Int32) (hQ : ∀ v S', Q (v, S') → Post (some (.inl v)) (zW T' G' S' n)) (K : Q (F_M_leads_j5 ga S x1 x2)) (hs : Sf_M_leads_j5 ga S x1 x2) : z_G X zm_M_leads (5, [(0, z_r 78), (1, .inl x1), (2, .inl x2), (3, z_r ga)], [], zW T' G' S n, 1, 30) := by
  unfold F_M_leads_j5 at K
  unfold Sf_M_leads_j5 at hs
  refine z_go2 M.1 5 [(.aload_n 3, 1), (.iload_n 1, 1), (.iconst 1, 1)] (8, [(0, z_r 78), (1, .inl x1), (2, .inl x2), (3, z_r ga)], [.inl 1, .inl x1, z_r ga], zW T' G' S n, 1, 30) (by decide +kernel) rfl ⟨trivial, trivial, trivial, trivial⟩ ?_
  refine z_zast M.1 (a := ga) (len := 30) (by decide +kernel) hga hs.1 ?_
  show z_G X zm_M_leads (9, [(0, z_r 78), (1, .inl x1), (2, .inl x2), (3, z_r ga)], [], zW T' G' (z_uS S ga (x1).toNatClampNeg (vp_nar .boolean 1)) n, 1, 30)
  replace hs := hs.2
  refine z_go2 M.1 9 [(.iconst 0, 1), (.istore 4, 2)] (12, [(4, .inl 0), (0, z_r 78), (1, .inl x1), (2, .inl x2), (3, z_r ga)], [], zW T' G' (z_uS S ga (x1).toNatClampNeg (vp_nar .boolean 1)) n, 1, 30) (by decide +kernel) rfl ⟨trivial, trivial, trivial⟩ ?_
  refine z_lvs (lv' := [(0, z_r 78), (2, .inl x2), (3, z_r ga), (4, .inl 0)]) [1, 3, 4, 0] rfl ?_
  refine t_M_leads_L12 M ga hga (Q := fun o => F_M_leads_L12 ga x2 1300 (z_uS S ga (x1).toNatClampNeg (vp_nar .boolean 1)) 0 = o) x2 (fun S12 hL12 => ?_) 1300 (z_uS S ga (x1).toNatClampNeg (vp_nar .boolean 1)) 0 rfl hs.1
  replace hs := hs.2
  rw [hL12] at K
  try rw [hL12] at hs
  try dsimp only at K hs
  refine z_go2 M.1 95 [(.aload_n 3, 1), (.iload_n 2, 1)] (97, [(2, .inl x2), (3, z_r ga)], [.inl x2, z_r ga], zW T' G' S12 n, 1, 30) (by decide +kernel) rfl ⟨trivial, trivial, trivial⟩ ?_
  refine z_zalD M.1 (a := ga) (len := 30) (x := (S12 ga (x2).toNatClampNeg)) (by decide +kernel) hga hs.1 rfl ?_
  replace hs := hs.2
  exact z_iret M (by decide +kernel) .boolean rfl hs.1 (by decide) (by decide) (hQ _ _ K)
def F_M_leads (na : Nat) (S : (Nat → Nat → Int32)) (p1 : Int32) (p2 : Int32) : (Int32 × (Nat → Nat → Int32)) := F_M_leads_j5 na (zSn S na) p1 p2
def Sf_M_leads (na : Nat) (S : (Nat → Nat → Int32)) (p1 : Int32) (p2 : Int32) : Prop := Sf_M_leads_j5 na (zSn S na) p1 p2
theorem c_M_leads (T' : Nat → Nat × Nat) (G' : Nat → Nat → Option Nat) (n : Nat) (hn : 194 ≤ n) (S : (Nat → Nat → Int32)) (p1 : Int32) (p2 : Int32) (hs : Sf_M_leads n S p1 p2) : z_Run rm_M_leads zm_M_leads [z_r 78, .inl p1, .inl p2] (zW T' G' S n) (fun v w' => ∃ T2 G2 n2, zGr T' G' n T2 G2 n2 ∧ v = some (.inl (F_M_leads n S p1 p2).1) ∧ w' = zW T2 G2 (F_M_leads n S p1 p2).2 n2) := by
  refine z_body (by decide) zf_M_ok (Nat.le_of_ble_eq_true rfl) (fun X M => ?_)
  show z_G X zm_M_leads (0, [(0, z_r 78), (1, .inl p1), (2, .inl p2)], [], zW T' G' S n, 0, 0)
  refine z_go2 M.1 0 [(.bipush 30, 2)] (2, [(0, z_r 78), (1, .inl p1), (2, .inl p2)], [.inl 30], zW T' G' S n, 0, 0) (by decide +kernel) rfl ⟨trivial, trivial⟩ ?_
  refine z_newa (aty := .boolean) (N := 30) M.1 (by decide +kernel) M.2.1 (z_wi 1570 (by decide +kernel) rfl) (by decide) (by decide) (by decide) (by decide) (by decide) ?_
  rw [z_nw_zW T' G' S hn]
  refine z_go2 M.1 4 [(.astore_n 3, 1)] (5, [(3, z_r n), (0, z_r 78), (1, .inl p1), (2, .inl p2)], [], zW (zTn T' n (3, 30)) (zGn G' n) (zSn S n) (n + 1), 1, 30) (by decide +kernel) rfl ⟨trivial, trivial⟩ ?_
  exact z_lvs (lv' := [(0, z_r 78), (1, .inl p1), (2, .inl p2), (3, z_r n)]) [1, 2, 3, 0] rfl (t_M_leads_j5 M n (zTn_at T' hn _) (Q := fun o => F_M_leads n S p1 p2 = o) (zSn S n) p1 p2 (fun v S' h => ⟨_, _, n + 1, zGr_nw T' G' hn _, by rw [h], by rw [h]⟩) rfl hs)
abbrev rm_M_ranksAnew : Room := zg 0 1 30
def F_M_ranksAnew_l27_71 (ga : Nat) (rc : (Nat → Nat → Int32) → Int32 → ((Nat → Nat → Int32))) (S : (Nat → Nat → Int32)) (x1 : Int32) (x3 : Int32) (x4 : Int32) (s0 : Int32) (s1 : Int32) : ((Nat → Nat → Int32)) := (rc (z_uS S ga (s1).toNatClampNeg (s0 + 0)) (x4 + 1))
def Sf_M_ranksAnew_l27_71 (ga : Nat) (rc : (Nat → Nat → Int32) → Int32 → ((Nat → Nat → Int32))) (sr : (Nat → Nat → Int32) → Int32 → Prop) (S : (Nat → Nat → Int32)) (x1 : Int32) (x3 : Int32) (x4 : Int32) (s0 : Int32) (s1 : Int32) : Prop := ((vp_in s1 30) ∧ (sr (z_uS S ga (s1).toNatClampNeg (s0 + 0)) (x4 + 1)))
theorem t_M_ranksAnew_l27_71 {X : z_X} {Post : Option z_V → z_W → Prop} (M : z_M X zm_M_ranksAnew rm_M_ranksAnew Post) {T' : Nat → Nat × Nat} {G' : Nat → Nat → Option Nat} {n : Nat} (ga : Nat) (hga : zT T' ga = (2, 30)) {Q : ((Nat → Nat → Int32)) → Prop} (rc : (Nat → Nat → Int32) → Int32 → ((Nat → Nat → Int32))) (sr : (Nat → Nat → Int32) → Int32 → Prop) (S : (Nat → Nat → Int32)) (x1 : Int32) (x3 : Int32) (x4 : Int32) (s0 : Int32) (s1 : Int32) (hE : ∀ (S' : (Nat → Nat → Int32)), Q S' → z_G X zm_M_ranksAnew (80, [(0, z_r 78), (1, .inl x1), (2, z_r ga), (3, .inl x3)], [], zW T' G' S' n, 1, 30)) (hC : ∀ (S : (Nat → Nat → Int32)) (x4 : Int32), Q (rc S x4) → sr S x4 → z_G X zm_M_ranksAnew (27, [(0, z_r 78), (1, .inl x1), (2, z_r ga), (3, .inl x3), (4, .inl x4)], [], zW T' G' S n, 1, 30)) (K : Q (F_M_ranksAnew_l27_71 ga rc S x1 x3 x4 s0 s1)) (hs : Sf_M_ranksAnew_l27_71 ga rc sr S x1 x3 x4 s0 s1) : z_G X zm_M_ranksAnew (71, [(0, z_r 78), (1, .inl x1), (2, z_r ga), (3, .inl x3), (4, .inl x4)], [.inl s0, .inl s1, z_r ga], zW T' G' S n, 1, 30) := by
  unfold F_M_ranksAnew_l27_71 at K
  unfold Sf_M_ranksAnew_l27_71 at hs
  refine z_go2 M.1 71 [(.iconst 0, 1), (.iadd, 1)] (73, [(0, z_r 78), (1, .inl x1), (2, z_r ga), (3, .inl x3), (4, .inl x4)], [.inl (s0 + 0), .inl s1, z_r ga], zW T' G' S n, 1, 30) (by decide +kernel) rfl ⟨trivial, trivial, trivial⟩ ?_
  refine z_iast M.1 (a := ga) (len := 30) (by decide +kernel) hga hs.1 ?_
  show z_G X zm_M_ranksAnew (74, [(0, z_r 78), (1, .inl x1), (2, z_r ga), (3, .inl x3), (4, .inl x4)], [], zW T' G' (z_uS S ga (s1).toNatClampNeg (s0 + 0)) n, 1, 30)
  replace hs := hs.2
  refine z_go2 M.1 74 [(.iinc 4 1, 3), (.goto (-50), 3)] (27, [(4, .inl (x4 + 1)), (0, z_r 78), (1, .inl x1), (2, z_r ga), (3, .inl x3)], [], zW T' G' (z_uS S ga (s1).toNatClampNeg (s0 + 0)) n, 1, 30) (by decide +kernel) rfl ⟨trivial, trivial, trivial⟩ ?_
  exact z_lvs (lv' := [(0, z_r 78), (1, .inl x1), (2, z_r ga), (3, .inl x3), (4, .inl (x4 + 1))]) [1, 2, 3, 4, 0] rfl (hC (z_uS S ga (s1).toNatClampNeg (s0 + 0)) (x4 + 1) K hs)
def F_M_ranksAnew_L27 (ga : Nat) (x1 : Int32) (x3 : Int32) : Nat → (Nat → Nat → Int32) → Int32 → ((Nat → Nat → Int32))
  | 0, S, x4 => S
  | f + 1, S, x4 => (if (S 86 0) ≤ x4 then S else (if x4 = x1 then (F_M_ranksAnew_l27_71 ga (F_M_ranksAnew_L27 ga x1 x3 f) S x1 x3 x4 (S ga (x3).toNatClampNeg) x3) else (if (S 167 (x3).toNatClampNeg) ≤ (S 167 (x4).toNatClampNeg) then (F_M_ranksAnew_l27_71 ga (F_M_ranksAnew_L27 ga x1 x3 f) S x1 x3 x4 (S ga (x3).toNatClampNeg) x3) else ((F_M_ranksAnew_L27 ga x1 x3 f) (z_uS S ga (x3).toNatClampNeg ((S ga (x3).toNatClampNeg) + 1024)) (x4 + 1)))))
def Sf_M_ranksAnew_L27 (ga : Nat) (x1 : Int32) (x3 : Int32) : Nat → (Nat → Nat → Int32) → Int32 → Prop
  | 0, _, _ => False
  | f + 1, S, x4 => (if (S 86 0) ≤ x4 then True else ((vp_in x3 30) ∧ (if x4 = x1 then (Sf_M_ranksAnew_l27_71 ga (F_M_ranksAnew_L27 ga x1 x3 f) (Sf_M_ranksAnew_L27 ga x1 x3 f) S x1 x3 x4 (S ga (x3).toNatClampNeg) x3) else ((vp_in x4 30) ∧ ((vp_in x3 30) ∧ (if (S 167 (x3).toNatClampNeg) ≤ (S 167 (x4).toNatClampNeg) then (Sf_M_ranksAnew_l27_71 ga (F_M_ranksAnew_L27 ga x1 x3 f) (Sf_M_ranksAnew_L27 ga x1 x3 f) S x1 x3 x4 (S ga (x3).toNatClampNeg) x3) else ((vp_in x3 30) ∧ ((Sf_M_ranksAnew_L27 ga x1 x3 f) (z_uS S ga (x3).toNatClampNeg ((S ga (x3).toNatClampNeg) + 1024)) (x4 + 1)))))))))
theorem t_M_ranksAnew_L27 {X : z_X} {Post : Option z_V → z_W → Prop} (M : z_M X zm_M_ranksAnew rm_M_ranksAnew Post) {T' : Nat → Nat × Nat} {G' : Nat → Nat → Option Nat} {n : Nat} (ga : Nat) (hga : zT T' ga = (2, 30)) {Q : ((Nat → Nat → Int32)) → Prop}  (x1 : Int32) (x3 : Int32) (hE : ∀ (S' : (Nat → Nat → Int32)), Q S' → z_G X zm_M_ranksAnew (80, [(0, z_r 78), (1, .inl x1), (2, z_r ga), (3, .inl x3)], [], zW T' G' S' n, 1, 30)) (f : Nat) : ∀ (S : (Nat → Nat → Int32)) (x4 : Int32), Q (F_M_ranksAnew_L27 ga x1 x3 f S x4) → Sf_M_ranksAnew_L27 ga x1 x3 f S x4 → z_G X zm_M_ranksAnew (27, [(0, z_r 78), (1, .inl x1), (2, z_r ga), (3, .inl x3), (4, .inl x4)], [], zW T' G' S n, 1, 30) := by
  induction f with
  | zero => intro S x4 K hs; exact False.elim hs
  | succ f hC =>
    intro S x4 K hs
    rw [F_M_ranksAnew_L27] at K
    rw [Sf_M_ranksAnew_L27] at hs
    refine z_go2 M.1 27 [(.iload 4, 2), (.aload_n 0, 1), (.getfield 34, 3), (.getfield 330, 3)] (36, [(0, z_r 78), (1, .inl x1), (2, z_r ga), (3, .inl x3), (4, .inl x4)], [.inl (S 86 0), .inl x4], zW T' G' S n, 1, 30) (by decide +kernel) rfl ⟨trivial, trivial, rfl, rfl, trivial⟩ ?_
    refine z_icmp_ge 80 M.1 (off := 44) (by decide +kernel) (by decide) (fun c36 => ?_) (fun c36 => ?_)
    · rw [if_pos c36] at K hs
      exact z_lvs (lv' := [(0, z_r 78), (1, .inl x1), (2, z_r ga), (3, .inl x3)]) [0, 1, 2, 3] rfl (hE S K)
    · rw [if_neg c36] at K hs
      refine z_go2 M.1 39 [(.aload_n 2, 1), (.iload_n 3, 1), (.dup2, 1)] (42, [(0, z_r 78), (1, .inl x1), (2, z_r ga), (3, .inl x3), (4, .inl x4)], [.inl x3, z_r ga, .inl x3, z_r ga], zW T' G' S n, 1, 30) (by decide +kernel) rfl ⟨trivial, trivial, ⟨rfl, rfl⟩, trivial⟩ ?_
      refine z_ialD M.1 (a := ga) (len := 30) (x := (S ga (x3).toNatClampNeg)) (by decide +kernel) hga hs.1 rfl ?_
      replace hs := hs.2
      refine z_go2 M.1 43 [(.iload 4, 2), (.iload_n 1, 1)] (46, [(0, z_r 78), (1, .inl x1), (2, z_r ga), (3, .inl x3), (4, .inl x4)], [.inl x1, .inl x4, .inl (S ga (x3).toNatClampNeg), .inl x3, z_r ga], zW T' G' S n, 1, 30) (by decide +kernel) rfl ⟨trivial, trivial, trivial⟩ ?_
      refine z_icmp_eq 71 M.1 (off := 25) (by decide +kernel) (by decide) (fun c46 => ?_) (fun c46 => ?_)
      · rw [if_pos c46] at K hs
        exact z_lvs (lv' := [(0, z_r 78), (1, .inl x1), (2, z_r ga), (3, .inl x3), (4, .inl x4)]) [0, 1, 2, 3, 4] rfl (t_M_ranksAnew_l27_71 M ga hga (F_M_ranksAnew_L27 ga x1 x3 f) (Sf_M_ranksAnew_L27 ga x1 x3 f) S x1 x3 x4 (S ga (x3).toNatClampNeg) x3 hE hC K hs)
      · rw [if_neg c46] at K hs
        refine z_go2 M.1 49 [(.aload_n 0, 1), (.getfield 95, 3), (.iload 4, 2), (.iaload, 1), (.aload_n 0, 1), (.getfield 95, 3), (.iload_n 3, 1), (.iaload, 1)] (62, [(0, z_r 78), (1, .inl x1), (2, z_r ga), (3, .inl x3), (4, .inl x4)], [.inl (S 167 (x3).toNatClampNeg), .inl (S 167 (x4).toNatClampNeg), .inl (S ga (x3).toNatClampNeg), .inl x3, z_r ga], zW T' G' S n, 1, 30) (by decide +kernel) rfl ⟨trivial, rfl, trivial, ⟨rfl, hs.1⟩, trivial, rfl, trivial, ⟨rfl, hs.2.1⟩, trivial⟩ ?_
        replace hs := hs.2.2
        refine z_icmp_ge 71 M.1 (off := 9) (by decide +kernel) (by decide) (fun c62 => ?_) (fun c62 => ?_)
        · rw [if_pos c62] at K hs
          exact z_lvs (lv' := [(0, z_r 78), (1, .inl x1), (2, z_r ga), (3, .inl x3), (4, .inl x4)]) [0, 1, 2, 3, 4] rfl (t_M_ranksAnew_l27_71 M ga hga (F_M_ranksAnew_L27 ga x1 x3 f) (Sf_M_ranksAnew_L27 ga x1 x3 f) S x1 x3 x4 (S ga (x3).toNatClampNeg) x3 hE hC K hs)
        · rw [if_neg c62] at K hs
          refine z_go2 M.1 65 [(.sipush 1024, 3), (.goto 4, 3), (.iadd, 1)] (73, [(0, z_r 78), (1, .inl x1), (2, z_r ga), (3, .inl x3), (4, .inl x4)], [.inl ((S ga (x3).toNatClampNeg) + 1024), .inl x3, z_r ga], zW T' G' S n, 1, 30) (by decide +kernel) rfl ⟨trivial, trivial, trivial, trivial⟩ ?_
          refine z_iast M.1 (a := ga) (len := 30) (by decide +kernel) hga hs.1 ?_
          show z_G X zm_M_ranksAnew (74, [(0, z_r 78), (1, .inl x1), (2, z_r ga), (3, .inl x3), (4, .inl x4)], [], zW T' G' (z_uS S ga (x3).toNatClampNeg ((S ga (x3).toNatClampNeg) + 1024)) n, 1, 30)
          replace hs := hs.2
          refine z_go2 M.1 74 [(.iinc 4 1, 3), (.goto (-50), 3)] (27, [(4, .inl (x4 + 1)), (0, z_r 78), (1, .inl x1), (2, z_r ga), (3, .inl x3)], [], zW T' G' (z_uS S ga (x3).toNatClampNeg ((S ga (x3).toNatClampNeg) + 1024)) n, 1, 30) (by decide +kernel) rfl ⟨trivial, trivial, trivial⟩ ?_
          exact z_lvs (lv' := [(0, z_r 78), (1, .inl x1), (2, z_r ga), (3, .inl x3), (4, .inl (x4 + 1))]) [1, 2, 3, 4, 0] rfl (hC (z_uS S ga (x3).toNatClampNeg ((S ga (x3).toNatClampNeg) + 1024)) (x4 + 1) K hs)
def F_M_ranksAnew_L7 (ga : Nat) (x1 : Int32) : Nat → (Nat → Nat → Int32) → Int32 → ((Nat → Nat → Int32))
  | 0, S, x3 => S
  | f + 1, S, x3 => (if (S 86 0) ≤ x3 then S else (match F_M_ranksAnew_L27 ga x1 x3 1300 (z_uS S ga (x3).toNatClampNeg 1024) 0 with | S27 => ((F_M_ranksAnew_L7 ga x1 f) S27 (x3 + 1))))
def Sf_M_ranksAnew_L7 (ga : Nat) (x1 : Int32) : Nat → (Nat → Nat → Int32) → Int32 → Prop
  | 0, _, _ => False
  | f + 1, S, x3 => (if (S 86 0) ≤ x3 then True else ((vp_in x3 30) ∧ (Sf_M_ranksAnew_L27 ga x1 x3 1300 (z_uS S ga (x3).toNatClampNeg 1024) 0 ∧ (match F_M_ranksAnew_L27 ga x1 x3 1300 (z_uS S ga (x3).toNatClampNeg 1024) 0 with | S27 => ((Sf_M_ranksAnew_L7 ga x1 f) S27 (x3 + 1))))))
theorem t_M_ranksAnew_L7 {X : z_X} {Post : Option z_V → z_W → Prop} (M : z_M X zm_M_ranksAnew rm_M_ranksAnew Post) {T' : Nat → Nat × Nat} {G' : Nat → Nat → Option Nat} {n : Nat} (ga : Nat) (hga : zT T' ga = (2, 30)) {Q : ((Nat → Nat → Int32)) → Prop}  (x1 : Int32) (hE : ∀ (S' : (Nat → Nat → Int32)), Q S' → z_G X zm_M_ranksAnew (86, [(0, z_r 78), (1, .inl x1), (2, z_r ga)], [], zW T' G' S' n, 1, 30)) (f : Nat) : ∀ (S : (Nat → Nat → Int32)) (x3 : Int32), Q (F_M_ranksAnew_L7 ga x1 f S x3) → Sf_M_ranksAnew_L7 ga x1 f S x3 → z_G X zm_M_ranksAnew (7, [(0, z_r 78), (1, .inl x1), (2, z_r ga), (3, .inl x3)], [], zW T' G' S n, 1, 30) := by
  induction f with
  | zero => intro S x3 K hs; exact False.elim hs
  | succ f hC =>
    intro S x3 K hs
    rw [F_M_ranksAnew_L7] at K
    rw [Sf_M_ranksAnew_L7] at hs
    refine z_go2 M.1 7 [(.iload_n 3, 1), (.aload_n 0, 1), (.getfield 34, 3), (.getfield 330, 3)] (15, [(0, z_r 78), (1, .inl x1), (2, z_r ga), (3, .inl x3)], [.inl (S 86 0), .inl x3], zW T' G' S n, 1, 30) (by decide +kernel) rfl ⟨trivial, trivial, rfl, rfl, trivial⟩ ?_
    refine z_icmp_ge 86 M.1 (off := 71) (by decide +kernel) (by decide) (fun c15 => ?_) (fun c15 => ?_)
    · rw [if_pos c15] at K hs
      exact z_lvs (lv' := [(0, z_r 78), (1, .inl x1), (2, z_r ga)]) [0, 1, 2] rfl (hE S K)
    · rw [if_neg c15] at K hs
      refine z_go2 M.1 18 [(.aload_n 2, 1), (.iload_n 3, 1), (.sipush 1024, 3)] (23, [(0, z_r 78), (1, .inl x1), (2, z_r ga), (3, .inl x3)], [.inl 1024, .inl x3, z_r ga], zW T' G' S n, 1, 30) (by decide +kernel) rfl ⟨trivial, trivial, trivial, trivial⟩ ?_
      refine z_iast M.1 (a := ga) (len := 30) (by decide +kernel) hga hs.1 ?_
      show z_G X zm_M_ranksAnew (24, [(0, z_r 78), (1, .inl x1), (2, z_r ga), (3, .inl x3)], [], zW T' G' (z_uS S ga (x3).toNatClampNeg 1024) n, 1, 30)
      replace hs := hs.2
      refine z_go2 M.1 24 [(.iconst 0, 1), (.istore 4, 2)] (27, [(4, .inl 0), (0, z_r 78), (1, .inl x1), (2, z_r ga), (3, .inl x3)], [], zW T' G' (z_uS S ga (x3).toNatClampNeg 1024) n, 1, 30) (by decide +kernel) rfl ⟨trivial, trivial, trivial⟩ ?_
      refine z_lvs (lv' := [(0, z_r 78), (1, .inl x1), (2, z_r ga), (3, .inl x3), (4, .inl 0)]) [1, 2, 3, 4, 0] rfl ?_
      refine t_M_ranksAnew_L27 M ga hga (Q := fun o => F_M_ranksAnew_L27 ga x1 x3 1300 (z_uS S ga (x3).toNatClampNeg 1024) 0 = o) x1 x3 (fun S27 hL27 => ?_) 1300 (z_uS S ga (x3).toNatClampNeg 1024) 0 rfl hs.1
      replace hs := hs.2
      rw [hL27] at K
      try rw [hL27] at hs
      try dsimp only at K hs
      refine z_go2 M.1 80 [(.iinc 3 1, 3), (.goto (-76), 3)] (7, [(3, .inl (x3 + 1)), (0, z_r 78), (1, .inl x1), (2, z_r ga)], [], zW T' G' S27 n, 1, 30) (by decide +kernel) rfl ⟨trivial, trivial, trivial⟩ ?_
      exact z_lvs (lv' := [(0, z_r 78), (1, .inl x1), (2, z_r ga), (3, .inl (x3 + 1))]) [1, 2, 3, 0] rfl (hC S27 (x3 + 1) K hs)
def F_M_ranksAnew_L88 (ga : Nat) (x1 : Int32) : Nat → (Nat → Nat → Int32) → Int32 → ((Nat → Nat → Int32))
  | 0, S, x3 => S
  | f + 1, S, x3 => (if (S 86 0) ≤ x3 then S else (if x3 = x1 then ((F_M_ranksAnew_L88 ga x1 f) (z_uS S 167 (x3).toNatClampNeg (S 167 (x3).toNatClampNeg)) (x3 + 1)) else ((F_M_ranksAnew_L88 ga x1 f) (z_uS S 167 (x3).toNatClampNeg (S ga (x3).toNatClampNeg)) (x3 + 1))))
def Sf_M_ranksAnew_L88 (ga : Nat) (x1 : Int32) : Nat → (Nat → Nat → Int32) → Int32 → Prop
  | 0, _, _ => False
  | f + 1, S, x3 => (if (S 86 0) ≤ x3 then True else (if x3 = x1 then ((vp_in x3 30) ∧ ((vp_in x3 30) ∧ ((Sf_M_ranksAnew_L88 ga x1 f) (z_uS S 167 (x3).toNatClampNeg (S 167 (x3).toNatClampNeg)) (x3 + 1)))) else ((vp_in x3 30) ∧ ((vp_in x3 30) ∧ ((Sf_M_ranksAnew_L88 ga x1 f) (z_uS S 167 (x3).toNatClampNeg (S ga (x3).toNatClampNeg)) (x3 + 1))))))
theorem t_M_ranksAnew_L88 {X : z_X} {Post : Option z_V → z_W → Prop} (M : z_M X zm_M_ranksAnew rm_M_ranksAnew Post) {T' : Nat → Nat × Nat} {G' : Nat → Nat → Option Nat} {n : Nat} (ga : Nat) (hga : zT T' ga = (2, 30)) {Q : ((Nat → Nat → Int32)) → Prop}  (x1 : Int32) (hE : ∀ (S' : (Nat → Nat → Int32)), Q S' → z_G X zm_M_ranksAnew (128, [], [], zW T' G' S' n, 1, 30)) (f : Nat) : ∀ (S : (Nat → Nat → Int32)) (x3 : Int32), Q (F_M_ranksAnew_L88 ga x1 f S x3) → Sf_M_ranksAnew_L88 ga x1 f S x3 → z_G X zm_M_ranksAnew (88, [(0, z_r 78), (1, .inl x1), (2, z_r ga), (3, .inl x3)], [], zW T' G' S n, 1, 30) := by
  induction f with
  | zero => intro S x3 K hs; exact False.elim hs
  | succ f hC =>
    intro S x3 K hs
    rw [F_M_ranksAnew_L88] at K
    rw [Sf_M_ranksAnew_L88] at hs
    refine z_go2 M.1 88 [(.iload_n 3, 1), (.aload_n 0, 1), (.getfield 34, 3), (.getfield 330, 3)] (96, [(0, z_r 78), (1, .inl x1), (2, z_r ga), (3, .inl x3)], [.inl (S 86 0), .inl x3], zW T' G' S n, 1, 30) (by decide +kernel) rfl ⟨trivial, trivial, rfl, rfl, trivial⟩ ?_
    refine z_icmp_ge 128 M.1 (off := 32) (by decide +kernel) (by decide) (fun c96 => ?_) (fun c96 => ?_)
    · rw [if_pos c96] at K hs
      exact z_lvs (lv' := []) [] rfl (hE S K)
    · rw [if_neg c96] at K hs
      refine z_go2 M.1 99 [(.aload_n 0, 1), (.getfield 95, 3), (.iload_n 3, 1), (.iload_n 3, 1), (.iload_n 1, 1)] (106, [(0, z_r 78), (1, .inl x1), (2, z_r ga), (3, .inl x3)], [.inl x1, .inl x3, .inl x3, z_r 167], zW T' G' S n, 1, 30) (by decide +kernel) rfl ⟨trivial, rfl, trivial, trivial, trivial, trivial⟩ ?_
      refine z_icmp_ne 118 M.1 (off := 12) (by decide +kernel) (by decide) (fun c106 => ?_) (fun c106 => ?_)
      · rw [if_neg c106] at K hs
        refine z_go2 M.1 118 [(.aload_n 2, 1), (.iload_n 3, 1)] (120, [(0, z_r 78), (1, .inl x1), (2, z_r ga), (3, .inl x3)], [.inl x3, z_r ga, .inl x3, z_r 167], zW T' G' S n, 1, 30) (by decide +kernel) rfl ⟨trivial, trivial, trivial⟩ ?_
        refine z_ialD M.1 (a := ga) (len := 30) (x := (S ga (x3).toNatClampNeg)) (by decide +kernel) hga hs.1 rfl ?_
        replace hs := hs.2
        refine z_go2 M.1 121 [(.iastore, 1), (.iinc 3 1, 3), (.goto (-37), 3)] (88, [(3, .inl (x3 + 1)), (0, z_r 78), (1, .inl x1), (2, z_r ga)], [], zW T' G' (z_uS S 167 (x3).toNatClampNeg (S ga (x3).toNatClampNeg)) n, 1, 30) (by decide +kernel) rfl ⟨⟨rfl, hs.1⟩, trivial, trivial, trivial⟩ ?_
        replace hs := hs.2
        exact z_lvs (lv' := [(0, z_r 78), (1, .inl x1), (2, z_r ga), (3, .inl (x3 + 1))]) [1, 2, 3, 0] rfl (hC (z_uS S 167 (x3).toNatClampNeg (S ga (x3).toNatClampNeg)) (x3 + 1) K hs)
      · rw [if_pos c106] at K hs
        refine z_go2 M.1 109 [(.aload_n 0, 1), (.getfield 95, 3), (.iload_n 3, 1), (.iaload, 1), (.goto 6, 3), (.iastore, 1), (.iinc 3 1, 3), (.goto (-37), 3)] (88, [(3, .inl (x3 + 1)), (0, z_r 78), (1, .inl x1), (2, z_r ga)], [], zW T' G' (z_uS S 167 (x3).toNatClampNeg (S 167 (x3).toNatClampNeg)) n, 1, 30) (by decide +kernel) rfl ⟨trivial, rfl, trivial, ⟨rfl, hs.1⟩, trivial, ⟨rfl, hs.2.1⟩, trivial, trivial, trivial⟩ ?_
        replace hs := hs.2.2
        exact z_lvs (lv' := [(0, z_r 78), (1, .inl x1), (2, z_r ga), (3, .inl (x3 + 1))]) [1, 2, 3, 0] rfl (hC (z_uS S 167 (x3).toNatClampNeg (S 167 (x3).toNatClampNeg)) (x3 + 1) K hs)
def F_M_ranksAnew_j5 (ga : Nat) (S : (Nat → Nat → Int32)) (x1 : Int32) : (Nat → Nat → Int32) := (match F_M_ranksAnew_L7 ga x1 1300 S 0 with | S7 => (match F_M_ranksAnew_L88 ga x1 1300 S7 0 with | S88 => S88))
def Sf_M_ranksAnew_j5 (ga : Nat) (S : (Nat → Nat → Int32)) (x1 : Int32) : Prop := (Sf_M_ranksAnew_L7 ga x1 1300 S 0 ∧ (match F_M_ranksAnew_L7 ga x1 1300 S 0 with | S7 => (Sf_M_ranksAnew_L88 ga x1 1300 S7 0 ∧ True)))
theorem t_M_ranksAnew_j5 {X : z_X} {Post : Option z_V → z_W → Prop} (M : z_M X zm_M_ranksAnew rm_M_ranksAnew Post) {T' : Nat → Nat × Nat} {G' : Nat → Nat → Option Nat} {n : Nat} (ga : Nat) (hga : zT T' ga = (2, 30)) {Q : (Nat → Nat → Int32) → Prop} (S : (Nat → Nat → Int32)) (x1 : Int32) (hQ : ∀ S', Q S' → Post none (zW T' G' S' n)) (K : Q (F_M_ranksAnew_j5 ga S x1)) (hs : Sf_M_ranksAnew_j5 ga S x1) : z_G X zm_M_ranksAnew (5, [(0, z_r 78), (1, .inl x1), (2, z_r ga)], [], zW T' G' S n, 1, 30) := by
  unfold F_M_ranksAnew_j5 at K
  unfold Sf_M_ranksAnew_j5 at hs
  refine z_go2 M.1 5 [(.iconst 0, 1), (.istore_n 3, 1)] (7, [(3, .inl 0), (0, z_r 78), (1, .inl x1), (2, z_r ga)], [], zW T' G' S n, 1, 30) (by decide +kernel) rfl ⟨trivial, trivial, trivial⟩ ?_
  refine z_lvs (lv' := [(0, z_r 78), (1, .inl x1), (2, z_r ga), (3, .inl 0)]) [1, 2, 3, 0] rfl ?_
  refine t_M_ranksAnew_L7 M ga hga (Q := fun o => F_M_ranksAnew_L7 ga x1 1300 S 0 = o) x1 (fun S7 hL7 => ?_) 1300 S 0 rfl hs.1
  replace hs := hs.2
  rw [hL7] at K
  try rw [hL7] at hs
  try dsimp only at K hs
  refine z_go2 M.1 86 [(.iconst 0, 1), (.istore_n 3, 1)] (88, [(3, .inl 0), (0, z_r 78), (1, .inl x1), (2, z_r ga)], [], zW T' G' S7 n, 1, 30) (by decide +kernel) rfl ⟨trivial, trivial, trivial⟩ ?_
  refine z_lvs (lv' := [(0, z_r 78), (1, .inl x1), (2, z_r ga), (3, .inl 0)]) [1, 2, 3, 0] rfl ?_
  refine t_M_ranksAnew_L88 M ga hga (Q := fun o => F_M_ranksAnew_L88 ga x1 1300 S7 0 = o) x1 (fun S88 hL88 => ?_) 1300 S7 0 rfl hs.1
  replace hs := hs.2
  rw [hL88] at K
  try dsimp only at K
  exact z_vret M (by decide +kernel) rfl (by decide) (by decide) (hQ _ K)
def F_M_ranksAnew (na : Nat) (S : (Nat → Nat → Int32)) (p1 : Int32) : (Nat → Nat → Int32) := F_M_ranksAnew_j5 na (zSn S na) p1
def Sf_M_ranksAnew (na : Nat) (S : (Nat → Nat → Int32)) (p1 : Int32) : Prop := Sf_M_ranksAnew_j5 na (zSn S na) p1
theorem c_M_ranksAnew (T' : Nat → Nat × Nat) (G' : Nat → Nat → Option Nat) (n : Nat) (hn : 194 ≤ n) (S : (Nat → Nat → Int32)) (p1 : Int32) (hs : Sf_M_ranksAnew n S p1) : z_Run rm_M_ranksAnew zm_M_ranksAnew [z_r 78, .inl p1] (zW T' G' S n) (fun v w' => ∃ T2 G2 n2, zGr T' G' n T2 G2 n2 ∧ v = none ∧ w' = zW T2 G2 (F_M_ranksAnew n S p1) n2) := by
  refine z_body (by decide) zf_M_ok (Nat.le_of_ble_eq_true rfl) (fun X M => ?_)
  show z_G X zm_M_ranksAnew (0, [(0, z_r 78), (1, .inl p1)], [], zW T' G' S n, 0, 0)
  refine z_go2 M.1 0 [(.bipush 30, 2)] (2, [(0, z_r 78), (1, .inl p1)], [.inl 30], zW T' G' S n, 0, 0) (by decide +kernel) rfl ⟨trivial, trivial⟩ ?_
  refine z_newa (aty := .int) (N := 30) M.1 (by decide +kernel) M.2.1 (z_wi 235 (by decide +kernel) rfl) (by decide) (by decide) (by decide) (by decide) (by decide) ?_
  rw [z_nw_zW T' G' S hn]
  refine z_go2 M.1 4 [(.astore_n 2, 1)] (5, [(2, z_r n), (0, z_r 78), (1, .inl p1)], [], zW (zTn T' n (2, 30)) (zGn G' n) (zSn S n) (n + 1), 1, 30) (by decide +kernel) rfl ⟨trivial, trivial⟩ ?_
  exact z_lvs (lv' := [(0, z_r 78), (1, .inl p1), (2, z_r n)]) [1, 2, 0] rfl (t_M_ranksAnew_j5 M n (zTn_at T' hn _) (Q := fun o => F_M_ranksAnew n S p1 = o) (zSn S n) p1 (fun S' h => ⟨_, _, n + 1, zGr_nw T' G' hn _, rfl, by rw [h]⟩) rfl hs)
abbrev rm_M_link : Room := zg 7 1 30
def F_M_link_j204 (fl : Nat → Nat) (S : (Nat → Nat → Int32)) : (Int32 × (Nat → Nat → Int32)) := (0, S)
theorem t_M_link_j204 {X : z_X} {Post : Option z_V → z_W → Prop} (M : z_M X zm_M_link rm_M_link Post) {T' : Nat → Nat × Nat} {G' : Nat → Nat → Option Nat} {n : Nat} (fl : Nat → Nat) (hfl : zOK T' G' fl n) {T0 : Nat → Nat × Nat} {G0 : Nat → Nat → Option Nat} {n0 : Nat} (hg : zGr T0 G0 n0 T' G' n) {Q : (Int32 × (Nat → Nat → Int32)) → Prop} (S : (Nat → Nat → Int32)) (hQ : ∀ v S' T2 G2 n2, zGr T0 G0 n0 T2 G2 n2 → Q (v, S') → Post (some (.inl v)) (zW T2 G2 S' n2)) (K : Q (F_M_link_j204 fl S)) : z_G X zm_M_link (204, [], [], zW T' G' S n, 1, 30) := by
  unfold F_M_link_j204 at K
  refine z_go2 M.1 204 [(.iconst 0, 1)] (205, [], [.inl 0], zW T' G' S n, 1, 30) (by decide +kernel) rfl ⟨trivial, trivial⟩ ?_
  exact z_iret M (by decide +kernel) .boolean rfl rfl (by decide) (by decide) (hQ _ _ _ _ _ hg K)
def F_M_link_j185 (fl : Nat → Nat) (S : (Nat → Nat → Int32)) (x7 : Int32) (s0 : Int32) : (Int32 × (Nat → Nat → Int32)) := (if s0 = 0 then (if x7 = 0 then (F_M_link_j204 fl (z_uS S 78 0 s0)) else (1, (z_uS S 78 0 s0))) else (F_M_link_j204 fl (z_uS S 78 0 s0)))
theorem t_M_link_j185 {X : z_X} {Post : Option z_V → z_W → Prop} (M : z_M X zm_M_link rm_M_link Post) {T' : Nat → Nat × Nat} {G' : Nat → Nat → Option Nat} {n : Nat} (fl : Nat → Nat) (hfl : zOK T' G' fl n) {T0 : Nat → Nat × Nat} {G0 : Nat → Nat → Option Nat} {n0 : Nat} (hg : zGr T0 G0 n0 T' G' n) {Q : (Int32 × (Nat → Nat → Int32)) → Prop} (S : (Nat → Nat → Int32)) (x7 : Int32) (s0 : Int32) (hQ : ∀ v S' T2 G2 n2, zGr T0 G0 n0 T2 G2 n2 → Q (v, S') → Post (some (.inl v)) (zW T2 G2 S' n2)) (K : Q (F_M_link_j185 fl S x7 s0)) : z_G X zm_M_link (185, [(0, z_r 78), (7, .inl x7)], [.inl s0, z_r 78], zW T' G' S n, 1, 30) := by
  unfold F_M_link_j185 at K
  refine z_go2 M.1 185 [(.putfield 175, 3), (.aload_n 0, 1), (.getfield 175, 3)] (192, [(0, z_r 78), (7, .inl x7)], [.inl s0], zW T' G' (z_uS S 78 0 s0) n, 1, 30) (by decide +kernel) rfl ⟨⟨rfl, trivial⟩, trivial, rfl, trivial⟩ ?_
  refine z_if_ne 204 M.1 (off := 12) (by decide +kernel) (by decide) (fun c192 => ?_) (fun c192 => ?_)
  · rw [if_neg c192] at K
    exact z_lvs (lv' := []) [] rfl (t_M_link_j204 M fl hfl hg (z_uS S 78 0 s0) hQ K)
  · rw [if_pos c192] at K
    refine z_go2 M.1 195 [(.iload 7, 2)] (197, [(0, z_r 78), (7, .inl x7)], [.inl x7], zW T' G' (z_uS S 78 0 s0) n, 1, 30) (by decide +kernel) rfl ⟨trivial, trivial⟩ ?_
    refine z_if_eq 204 M.1 (off := 7) (by decide +kernel) (by decide) (fun c197 => ?_) (fun c197 => ?_)
    · rw [if_pos c197] at K
      exact z_lvs (lv' := []) [] rfl (t_M_link_j204 M fl hfl hg (z_uS S 78 0 s0) hQ K)
    · rw [if_neg c197] at K
      refine z_go2 M.1 200 [(.iconst 1, 1), (.goto 4, 3)] (205, [(0, z_r 78), (7, .inl x7)], [.inl 1], zW T' G' (z_uS S 78 0 s0) n, 1, 30) (by decide +kernel) rfl ⟨trivial, trivial, trivial⟩ ?_
      exact z_iret M (by decide +kernel) .boolean rfl rfl (by decide) (by decide) (hQ _ _ _ _ _ hg K)
def F_M_link_j169 (fl : Nat → Nat) (S : (Nat → Nat → Int32)) (x7 : Int32) (x8 : Int32) : (Int32 × (Nat → Nat → Int32)) := (match F_M_stays fl S x8 1 with | (r174, S174) => (if r174 = 0 then (F_M_link_j185 fl S174 x7 3) else (F_M_link_j185 fl S174 x7 0)))
def Sf_M_link_j169 (fl : Nat → Nat) (S : (Nat → Nat → Int32)) (x7 : Int32) (x8 : Int32) : Prop := (Sf_M_stays fl S x8 1 ∧ True)
theorem t_M_link_j169 {X : z_X} {Post : Option z_V → z_W → Prop} (M : z_M X zm_M_link rm_M_link Post) {T' : Nat → Nat × Nat} {G' : Nat → Nat → Option Nat} {n : Nat} (fl : Nat → Nat) (hfl : zOK T' G' fl n) {T0 : Nat → Nat × Nat} {G0 : Nat → Nat → Option Nat} {n0 : Nat} (hg : zGr T0 G0 n0 T' G' n) {Q : (Int32 × (Nat → Nat → Int32)) → Prop} (S : (Nat → Nat → Int32)) (x7 : Int32) (x8 : Int32) (hQ : ∀ v S' T2 G2 n2, zGr T0 G0 n0 T2 G2 n2 → Q (v, S') → Post (some (.inl v)) (zW T2 G2 S' n2)) (K : Q (F_M_link_j169 fl S x7 x8)) (hs : Sf_M_link_j169 fl S x7 x8) : z_G X zm_M_link (169, [(0, z_r 78), (7, .inl x7), (8, .inl x8)], [], zW T' G' S n, 1, 30) := by
  unfold F_M_link_j169 at K
  unfold Sf_M_link_j169 at hs
  refine z_go2 M.1 169 [(.aload_n 0, 1), (.aload_n 0, 1), (.iload 8, 2), (.iconst 1, 1)] (174, [(0, z_r 78), (7, .inl x7), (8, .inl x8)], [.inl 1, .inl x8, z_r 78, z_r 78], zW T' G' S n, 1, 30) (by decide +kernel) rfl ⟨trivial, trivial, trivial, trivial, trivial⟩ ?_
  refine z_callV M.1 (av := [.inl x8, .inl 1]) (st := [z_r 78]) (a := 78) (ci := 14) (by decide +kernel) (c_M_stays T' G' n fl hfl S x8 1 hs.1) M.2.1 zl_M_301 zv_M_stays rfl rfl rfl ⟨by decide, by decide, by decide, by decide⟩ rfl (Nat.le_of_ble_eq_true rfl) (fun v w' hv => ?_)
  replace hs := hs.2
  rcases hF174 : F_M_stays fl S x8 1 with ⟨r174, S174⟩
  rw [hF174] at K hv
  try dsimp only at K
  obtain ⟨rfl, rfl⟩ := hv
  show z_G X zm_M_link (177, [(0, z_r 78), (7, .inl x7), (8, .inl x8)], [.inl r174, z_r 78], zW T' G' S174 n, 1, 30)
  refine z_if_eq 184 M.1 (off := 7) (by decide +kernel) (by decide) (fun c177 => ?_) (fun c177 => ?_)
  · rw [if_pos c177] at K
    refine z_go2 M.1 184 [(.iconst 3, 1)] (185, [(0, z_r 78), (7, .inl x7), (8, .inl x8)], [.inl 3, z_r 78], zW T' G' S174 n, 1, 30) (by decide +kernel) rfl ⟨trivial, trivial⟩ ?_
    exact z_lvs (lv' := [(0, z_r 78), (7, .inl x7)]) [0, 1] rfl (t_M_link_j185 M fl hfl hg S174 x7 3 hQ K)
  · rw [if_neg c177] at K
    refine z_go2 M.1 180 [(.iconst 0, 1), (.goto 4, 3)] (185, [(0, z_r 78), (7, .inl x7), (8, .inl x8)], [.inl 0, z_r 78], zW T' G' S174 n, 1, 30) (by decide +kernel) rfl ⟨trivial, trivial, trivial⟩ ?_
    exact z_lvs (lv' := [(0, z_r 78), (7, .inl x7)]) [0, 1] rfl (t_M_link_j185 M fl hfl hg S174 x7 0 hQ K)
def F_M_link_j166 (fl : Nat → Nat) (S : (Nat → Nat → Int32)) (x7 : Int32) (x8 : Int32) (s0 : Int32) (s1 : Int32) (s2 : Int32) (s3 : Int32) (s4 : Int32) (s5 : Int32) : (Int32 × (Nat → Nat → Int32)) := (z_let (F_M_make 86 S s5 s4 s3 s2 s1 s0) (fun S166 => (match F_M_stays fl S166 x8 1 with | (r174, S174) => (if r174 = 0 then (F_M_link_j185 fl S174 x7 3) else (F_M_link_j185 fl S174 x7 0)))))
def Sf_M_link_j166 (fl : Nat → Nat) (S : (Nat → Nat → Int32)) (x7 : Int32) (x8 : Int32) (s0 : Int32) (s1 : Int32) (s2 : Int32) (s3 : Int32) (s4 : Int32) (s5 : Int32) : Prop := (Sf_M_make 86 S s5 s4 s3 s2 s1 s0 ∧ (z_let (F_M_make 86 S s5 s4 s3 s2 s1 s0) (fun S166 => (Sf_M_stays fl S166 x8 1 ∧ True))))
theorem t_M_link_j166 {X : z_X} {Post : Option z_V → z_W → Prop} (M : z_M X zm_M_link rm_M_link Post) {T' : Nat → Nat × Nat} {G' : Nat → Nat → Option Nat} {n : Nat} (fl : Nat → Nat) (hfl : zOK T' G' fl n) {T0 : Nat → Nat × Nat} {G0 : Nat → Nat → Option Nat} {n0 : Nat} (hg : zGr T0 G0 n0 T' G' n) {Q : (Int32 × (Nat → Nat → Int32)) → Prop} (S : (Nat → Nat → Int32)) (x7 : Int32) (x8 : Int32) (s0 : Int32) (s1 : Int32) (s2 : Int32) (s3 : Int32) (s4 : Int32) (s5 : Int32) (hQ : ∀ v S' T2 G2 n2, zGr T0 G0 n0 T2 G2 n2 → Q (v, S') → Post (some (.inl v)) (zW T2 G2 S' n2)) (K : Q (F_M_link_j166 fl S x7 x8 s0 s1 s2 s3 s4 s5)) (hs : Sf_M_link_j166 fl S x7 x8 s0 s1 s2 s3 s4 s5) : z_G X zm_M_link (166, [(0, z_r 78), (7, .inl x7), (8, .inl x8)], [.inl s0, .inl s1, .inl s2, .inl s3, .inl s4, .inl s5, z_r 86, z_r 78], zW T' G' S n, 1, 30) := by
  unfold F_M_link_j166 at K
  unfold Sf_M_link_j166 at hs
  refine z_callV M.1 (av := [z_r 86, .inl s5, .inl s4, .inl s3, .inl s2, .inl s1, .inl s0]) (st := []) (a := 78) (ci := 14) (by decide +kernel) (c_M_make_86 T' G' S n s5 s4 s3 s2 s1 s0 hs.1) M.2.1 zl_M_219 zv_M_make rfl rfl rfl ⟨by decide, by decide, by decide, by decide⟩ rfl (Nat.le_of_ble_eq_true rfl) (fun v w' hv => ?_)
  replace hs := hs.2
  obtain ⟨S166, hF166⟩ : ∃ y, F_M_make 86 S s5 s4 s3 s2 s1 s0 = y := ⟨_, rfl⟩
  rw [hF166] at K hv
  try rw [hF166] at hs
  try dsimp only [z_let] at K hs
  obtain ⟨rfl, rfl⟩ := hv
  show z_G X zm_M_link (169, [(0, z_r 78), (7, .inl x7), (8, .inl x8)], [], zW T' G' S166 n, 1, 30)
  refine z_go2 M.1 169 [(.aload_n 0, 1), (.aload_n 0, 1), (.iload 8, 2), (.iconst 1, 1)] (174, [(0, z_r 78), (7, .inl x7), (8, .inl x8)], [.inl 1, .inl x8, z_r 78, z_r 78], zW T' G' S166 n, 1, 30) (by decide +kernel) rfl ⟨trivial, trivial, trivial, trivial, trivial⟩ ?_
  refine z_callV M.1 (av := [.inl x8, .inl 1]) (st := [z_r 78]) (a := 78) (ci := 14) (by decide +kernel) (c_M_stays T' G' n fl hfl S166 x8 1 hs.1) M.2.1 zl_M_301 zv_M_stays rfl rfl rfl ⟨by decide, by decide, by decide, by decide⟩ rfl (Nat.le_of_ble_eq_true rfl) (fun v w' hv => ?_)
  replace hs := hs.2
  rcases hF174 : F_M_stays fl S166 x8 1 with ⟨r174, S174⟩
  rw [hF174] at K hv
  try dsimp only at K
  obtain ⟨rfl, rfl⟩ := hv
  show z_G X zm_M_link (177, [(0, z_r 78), (7, .inl x7), (8, .inl x8)], [.inl r174, z_r 78], zW T' G' S174 n, 1, 30)
  refine z_if_eq 184 M.1 (off := 7) (by decide +kernel) (by decide) (fun c177 => ?_) (fun c177 => ?_)
  · rw [if_pos c177] at K
    refine z_go2 M.1 184 [(.iconst 3, 1)] (185, [(0, z_r 78), (7, .inl x7), (8, .inl x8)], [.inl 3, z_r 78], zW T' G' S174 n, 1, 30) (by decide +kernel) rfl ⟨trivial, trivial⟩ ?_
    exact z_lvs (lv' := [(0, z_r 78), (7, .inl x7)]) [0, 1] rfl (t_M_link_j185 M fl hfl hg S174 x7 3 hQ K)
  · rw [if_neg c177] at K
    refine z_go2 M.1 180 [(.iconst 0, 1), (.goto 4, 3)] (185, [(0, z_r 78), (7, .inl x7), (8, .inl x8)], [.inl 0, z_r 78], zW T' G' S174 n, 1, 30) (by decide +kernel) rfl ⟨trivial, trivial, trivial⟩ ?_
    exact z_lvs (lv' := [(0, z_r 78), (7, .inl x7)]) [0, 1] rfl (t_M_link_j185 M fl hfl hg S174 x7 0 hQ K)
def F_M_link_j106 (fl : Nat → Nat) (S : (Nat → Nat → Int32)) (x1 : Int32) (x2 : Int32) (x3 : Int32) (x4 : Int32) (x5 : Int32) (s0 : Int32) : (Int32 × (Nat → Nat → Int32)) := (if s0 ≤ 0 then (if (F_MW_isLinked 86 (z_uS S 78 0 s0) x2 x3 x4) = x5 then (F_M_link_j169 fl (z_uS S 78 0 s0) (F_MW_isLinked 86 (z_uS S 78 0 s0) x2 x3 x4) (S 78 2)) else (if x5 = 0 then (F_M_link_j166 fl (z_uS S 78 0 s0) (F_MW_isLinked 86 (z_uS S 78 0 s0) x2 x3 x4) (S 78 2) 0 x4 x2 x3 x1 9) else (F_M_link_j166 fl (z_uS S 78 0 s0) (F_MW_isLinked 86 (z_uS S 78 0 s0) x2 x3 x4) (S 78 2) 1 x4 x2 x3 x1 9))) else (0, (z_uS S 78 0 s0)))
def Sf_M_link_j106 (fl : Nat → Nat) (S : (Nat → Nat → Int32)) (x1 : Int32) (x2 : Int32) (x3 : Int32) (x4 : Int32) (x5 : Int32) (s0 : Int32) : Prop := (if s0 ≤ 0 then (Sf_MW_isLinked 86 (z_uS S 78 0 s0) x2 x3 x4 ∧ (if (F_MW_isLinked 86 (z_uS S 78 0 s0) x2 x3 x4) = x5 then (Sf_M_link_j169 fl (z_uS S 78 0 s0) (F_MW_isLinked 86 (z_uS S 78 0 s0) x2 x3 x4) (S 78 2)) else (if x5 = 0 then (Sf_M_link_j166 fl (z_uS S 78 0 s0) (F_MW_isLinked 86 (z_uS S 78 0 s0) x2 x3 x4) (S 78 2) 0 x4 x2 x3 x1 9) else (Sf_M_link_j166 fl (z_uS S 78 0 s0) (F_MW_isLinked 86 (z_uS S 78 0 s0) x2 x3 x4) (S 78 2) 1 x4 x2 x3 x1 9)))) else True)
theorem t_M_link_j106 {X : z_X} {Post : Option z_V → z_W → Prop} (M : z_M X zm_M_link rm_M_link Post) {T' : Nat → Nat × Nat} {G' : Nat → Nat → Option Nat} {n : Nat} (fl : Nat → Nat) (hfl : zOK T' G' fl n) {T0 : Nat → Nat × Nat} {G0 : Nat → Nat → Option Nat} {n0 : Nat} (hg : zGr T0 G0 n0 T' G' n) {Q : (Int32 × (Nat → Nat → Int32)) → Prop} (S : (Nat → Nat → Int32)) (x1 : Int32) (x2 : Int32) (x3 : Int32) (x4 : Int32) (x5 : Int32) (s0 : Int32) (hQ : ∀ v S' T2 G2 n2, zGr T0 G0 n0 T2 G2 n2 → Q (v, S') → Post (some (.inl v)) (zW T2 G2 S' n2)) (K : Q (F_M_link_j106 fl S x1 x2 x3 x4 x5 s0)) (hs : Sf_M_link_j106 fl S x1 x2 x3 x4 x5 s0) : z_G X zm_M_link (106, [(0, z_r 78), (1, .inl x1), (2, .inl x2), (3, .inl x3), (4, .inl x4), (5, .inl x5)], [.inl s0, z_r 78], zW T' G' S n, 1, 30) := by
  unfold F_M_link_j106 at K
  unfold Sf_M_link_j106 at hs
  refine z_go2 M.1 106 [(.putfield 175, 3), (.aload_n 0, 1), (.getfield 175, 3)] (113, [(0, z_r 78), (1, .inl x1), (2, .inl x2), (3, .inl x3), (4, .inl x4), (5, .inl x5)], [.inl s0], zW T' G' (z_uS S 78 0 s0) n, 1, 30) (by decide +kernel) rfl ⟨⟨rfl, trivial⟩, trivial, rfl, trivial⟩ ?_
  refine z_if_le 118 M.1 (off := 5) (by decide +kernel) (by decide) (fun c113 => ?_) (fun c113 => ?_)
  · rw [if_pos c113] at K hs
    refine z_go2 M.1 118 [(.aload_n 0, 1), (.getfield 34, 3), (.iload_n 2, 1), (.iload_n 3, 1), (.iload 4, 2)] (126, [(0, z_r 78), (1, .inl x1), (2, .inl x2), (3, .inl x3), (4, .inl x4), (5, .inl x5)], [.inl x4, .inl x3, .inl x2, z_r 86], zW T' G' (z_uS S 78 0 s0) n, 1, 30) (by decide +kernel) rfl ⟨trivial, rfl, trivial, trivial, trivial, trivial⟩ ?_
    refine z_callV M.1 (av := [.inl x2, .inl x3, .inl x4]) (st := []) (a := 86) (ci := 13) (by decide +kernel) (c_MW_isLinked_86 T' G' (z_uS S 78 0 s0) n x2 x3 x4 hs.1) M.2.1 zl_M_256 zv_MW_isLinked rfl rfl rfl ⟨by decide, by decide, by decide, by decide⟩ rfl (Nat.le_of_ble_eq_true rfl) (fun v w' hv => ?_)
    obtain ⟨rfl, rfl⟩ := hv
    replace hs := hs.2
    show z_G X zm_M_link (129, [(0, z_r 78), (1, .inl x1), (2, .inl x2), (3, .inl x3), (4, .inl x4), (5, .inl x5)], [.inl (F_MW_isLinked 86 (z_uS S 78 0 s0) x2 x3 x4)], zW T' G' (z_uS S 78 0 s0) n, 1, 30)
    refine z_go2 M.1 129 [(.istore 7, 2), (.aload_n 0, 1), (.getfield 182, 3), (.istore 8, 2), (.iload 7, 2), (.iload 5, 2)] (141, [(8, .inl (S 78 2)), (7, .inl (F_MW_isLinked 86 (z_uS S 78 0 s0) x2 x3 x4)), (0, z_r 78), (1, .inl x1), (2, .inl x2), (3, .inl x3), (4, .inl x4), (5, .inl x5)], [.inl x5, .inl (F_MW_isLinked 86 (z_uS S 78 0 s0) x2 x3 x4)], zW T' G' (z_uS S 78 0 s0) n, 1, 30) (by decide +kernel) rfl ⟨trivial, trivial, rfl, trivial, trivial, trivial, trivial⟩ ?_
    refine z_icmp_eq 169 M.1 (off := 28) (by decide +kernel) (by decide) (fun c141 => ?_) (fun c141 => ?_)
    · rw [if_pos c141] at K hs
      exact z_lvs (lv' := [(0, z_r 78), (7, .inl (F_MW_isLinked 86 (z_uS S 78 0 s0) x2 x3 x4)), (8, .inl (S 78 2))]) [2, 1, 0] rfl (t_M_link_j169 M fl hfl hg (z_uS S 78 0 s0) (F_MW_isLinked 86 (z_uS S 78 0 s0) x2 x3 x4) (S 78 2) hQ K hs)
    · rw [if_neg c141] at K hs
      refine z_go2 M.1 144 [(.aload_n 0, 1), (.aload_n 0, 1), (.getfield 34, 3), (.bipush 9, 2), (.iload_n 1, 1), (.iload_n 3, 1), (.iload_n 2, 1), (.iload 4, 2), (.iload 5, 2)] (158, [(8, .inl (S 78 2)), (7, .inl (F_MW_isLinked 86 (z_uS S 78 0 s0) x2 x3 x4)), (0, z_r 78), (1, .inl x1), (2, .inl x2), (3, .inl x3), (4, .inl x4), (5, .inl x5)], [.inl x5, .inl x4, .inl x2, .inl x3, .inl x1, .inl 9, z_r 86, z_r 78], zW T' G' (z_uS S 78 0 s0) n, 1, 30) (by decide +kernel) rfl ⟨trivial, trivial, rfl, trivial, trivial, trivial, trivial, trivial, trivial, trivial⟩ ?_
      refine z_if_eq 165 M.1 (off := 7) (by decide +kernel) (by decide) (fun c158 => ?_) (fun c158 => ?_)
      · rw [if_pos c158] at K hs
        refine z_go2 M.1 165 [(.iconst 0, 1)] (166, [(8, .inl (S 78 2)), (7, .inl (F_MW_isLinked 86 (z_uS S 78 0 s0) x2 x3 x4)), (0, z_r 78), (1, .inl x1), (2, .inl x2), (3, .inl x3), (4, .inl x4), (5, .inl x5)], [.inl 0, .inl x4, .inl x2, .inl x3, .inl x1, .inl 9, z_r 86, z_r 78], zW T' G' (z_uS S 78 0 s0) n, 1, 30) (by decide +kernel) rfl ⟨trivial, trivial⟩ ?_
        exact z_lvs (lv' := [(0, z_r 78), (7, .inl (F_MW_isLinked 86 (z_uS S 78 0 s0) x2 x3 x4)), (8, .inl (S 78 2))]) [2, 1, 0] rfl (t_M_link_j166 M fl hfl hg (z_uS S 78 0 s0) (F_MW_isLinked 86 (z_uS S 78 0 s0) x2 x3 x4) (S 78 2) 0 x4 x2 x3 x1 9 hQ K hs)
      · rw [if_neg c158] at K hs
        refine z_go2 M.1 161 [(.iconst 1, 1), (.goto 4, 3)] (166, [(8, .inl (S 78 2)), (7, .inl (F_MW_isLinked 86 (z_uS S 78 0 s0) x2 x3 x4)), (0, z_r 78), (1, .inl x1), (2, .inl x2), (3, .inl x3), (4, .inl x4), (5, .inl x5)], [.inl 1, .inl x4, .inl x2, .inl x3, .inl x1, .inl 9, z_r 86, z_r 78], zW T' G' (z_uS S 78 0 s0) n, 1, 30) (by decide +kernel) rfl ⟨trivial, trivial, trivial⟩ ?_
        exact z_lvs (lv' := [(0, z_r 78), (7, .inl (F_MW_isLinked 86 (z_uS S 78 0 s0) x2 x3 x4)), (8, .inl (S 78 2))]) [2, 1, 0] rfl (t_M_link_j166 M fl hfl hg (z_uS S 78 0 s0) (F_MW_isLinked 86 (z_uS S 78 0 s0) x2 x3 x4) (S 78 2) 1 x4 x2 x3 x1 9 hQ K hs)
  · rw [if_neg c113] at K hs
    refine z_go2 M.1 116 [(.iconst 0, 1)] (117, [(0, z_r 78), (1, .inl x1), (2, .inl x2), (3, .inl x3), (4, .inl x4), (5, .inl x5)], [.inl 0], zW T' G' (z_uS S 78 0 s0) n, 1, 30) (by decide +kernel) rfl ⟨trivial, trivial⟩ ?_
    exact z_iret M (by decide +kernel) .boolean rfl rfl (by decide) (by decide) (hQ _ _ _ _ _ hg K)
def F_M_link_j93 (fl : Nat → Nat) (S : (Nat → Nat → Int32)) (x1 : Int32) (x2 : Int32) (x3 : Int32) (x4 : Int32) (x5 : Int32) (s0 : Int32) : (Int32 × (Nat → Nat → Int32)) := (if s0 = 0 then (F_M_link_j106 fl S x1 x2 x3 x4 x5 3) else (F_M_link_j106 fl S x1 x2 x3 x4 x5 0))
def Sf_M_link_j93 (fl : Nat → Nat) (S : (Nat → Nat → Int32)) (x1 : Int32) (x2 : Int32) (x3 : Int32) (x4 : Int32) (x5 : Int32) (s0 : Int32) : Prop := (if s0 = 0 then (Sf_M_link_j106 fl S x1 x2 x3 x4 x5 3) else (Sf_M_link_j106 fl S x1 x2 x3 x4 x5 0))
theorem t_M_link_j93 {X : z_X} {Post : Option z_V → z_W → Prop} (M : z_M X zm_M_link rm_M_link Post) {T' : Nat → Nat × Nat} {G' : Nat → Nat → Option Nat} {n : Nat} (fl : Nat → Nat) (hfl : zOK T' G' fl n) {T0 : Nat → Nat × Nat} {G0 : Nat → Nat → Option Nat} {n0 : Nat} (hg : zGr T0 G0 n0 T' G' n) {Q : (Int32 × (Nat → Nat → Int32)) → Prop} (S : (Nat → Nat → Int32)) (x1 : Int32) (x2 : Int32) (x3 : Int32) (x4 : Int32) (x5 : Int32) (s0 : Int32) (hQ : ∀ v S' T2 G2 n2, zGr T0 G0 n0 T2 G2 n2 → Q (v, S') → Post (some (.inl v)) (zW T2 G2 S' n2)) (K : Q (F_M_link_j93 fl S x1 x2 x3 x4 x5 s0)) (hs : Sf_M_link_j93 fl S x1 x2 x3 x4 x5 s0) : z_G X zm_M_link (93, [(0, z_r 78), (1, .inl x1), (2, .inl x2), (3, .inl x3), (4, .inl x4), (5, .inl x5)], [.inl s0], zW T' G' S n, 1, 30) := by
  unfold F_M_link_j93 at K
  unfold Sf_M_link_j93 at hs
  refine z_go2 M.1 93 [(.istore 6, 2), (.aload_n 0, 1), (.iload 6, 2)] (98, [(6, .inl s0), (0, z_r 78), (1, .inl x1), (2, .inl x2), (3, .inl x3), (4, .inl x4), (5, .inl x5)], [.inl s0, z_r 78], zW T' G' S n, 1, 30) (by decide +kernel) rfl ⟨trivial, trivial, trivial, trivial⟩ ?_
  refine z_if_eq 105 M.1 (off := 7) (by decide +kernel) (by decide) (fun c98 => ?_) (fun c98 => ?_)
  · rw [if_pos c98] at K hs
    refine z_go2 M.1 105 [(.iconst 3, 1)] (106, [(6, .inl s0), (0, z_r 78), (1, .inl x1), (2, .inl x2), (3, .inl x3), (4, .inl x4), (5, .inl x5)], [.inl 3, z_r 78], zW T' G' S n, 1, 30) (by decide +kernel) rfl ⟨trivial, trivial⟩ ?_
    exact z_lvs (lv' := [(0, z_r 78), (1, .inl x1), (2, .inl x2), (3, .inl x3), (4, .inl x4), (5, .inl x5)]) [1, 2, 3, 4, 5, 6] rfl (t_M_link_j106 M fl hfl hg S x1 x2 x3 x4 x5 3 hQ K hs)
  · rw [if_neg c98] at K hs
    refine z_go2 M.1 101 [(.iconst 0, 1), (.goto 4, 3)] (106, [(6, .inl s0), (0, z_r 78), (1, .inl x1), (2, .inl x2), (3, .inl x3), (4, .inl x4), (5, .inl x5)], [.inl 0, z_r 78], zW T' G' S n, 1, 30) (by decide +kernel) rfl ⟨trivial, trivial, trivial⟩ ?_
    exact z_lvs (lv' := [(0, z_r 78), (1, .inl x1), (2, .inl x2), (3, .inl x3), (4, .inl x4), (5, .inl x5)]) [1, 2, 3, 4, 5, 6] rfl (t_M_link_j106 M fl hfl hg S x1 x2 x3 x4 x5 0 hQ K hs)
def F_M_link_j92 (fl : Nat → Nat) (S : (Nat → Nat → Int32)) (x1 : Int32) (x2 : Int32) (x3 : Int32) (x4 : Int32) (x5 : Int32) : (Int32 × (Nat → Nat → Int32)) := (F_M_link_j93 fl S x1 x2 x3 x4 x5 0)
def Sf_M_link_j92 (fl : Nat → Nat) (S : (Nat → Nat → Int32)) (x1 : Int32) (x2 : Int32) (x3 : Int32) (x4 : Int32) (x5 : Int32) : Prop := (Sf_M_link_j93 fl S x1 x2 x3 x4 x5 0)
theorem t_M_link_j92 {X : z_X} {Post : Option z_V → z_W → Prop} (M : z_M X zm_M_link rm_M_link Post) {T' : Nat → Nat × Nat} {G' : Nat → Nat → Option Nat} {n : Nat} (fl : Nat → Nat) (hfl : zOK T' G' fl n) {T0 : Nat → Nat × Nat} {G0 : Nat → Nat → Option Nat} {n0 : Nat} (hg : zGr T0 G0 n0 T' G' n) {Q : (Int32 × (Nat → Nat → Int32)) → Prop} (S : (Nat → Nat → Int32)) (x1 : Int32) (x2 : Int32) (x3 : Int32) (x4 : Int32) (x5 : Int32) (hQ : ∀ v S' T2 G2 n2, zGr T0 G0 n0 T2 G2 n2 → Q (v, S') → Post (some (.inl v)) (zW T2 G2 S' n2)) (K : Q (F_M_link_j92 fl S x1 x2 x3 x4 x5)) (hs : Sf_M_link_j92 fl S x1 x2 x3 x4 x5) : z_G X zm_M_link (92, [(0, z_r 78), (1, .inl x1), (2, .inl x2), (3, .inl x3), (4, .inl x4), (5, .inl x5)], [], zW T' G' S n, 1, 30) := by
  unfold F_M_link_j92 at K
  unfold Sf_M_link_j92 at hs
  refine z_go2 M.1 92 [(.iconst 0, 1)] (93, [(0, z_r 78), (1, .inl x1), (2, .inl x2), (3, .inl x3), (4, .inl x4), (5, .inl x5)], [.inl 0], zW T' G' S n, 1, 30) (by decide +kernel) rfl ⟨trivial, trivial⟩ ?_
  exact z_lvs (lv' := [(0, z_r 78), (1, .inl x1), (2, .inl x2), (3, .inl x3), (4, .inl x4), (5, .inl x5)]) [0, 1, 2, 3, 4, 5] rfl (t_M_link_j93 M fl hfl hg S x1 x2 x3 x4 x5 0 hQ K hs)
def F_M_link_j88 (fl : Nat → Nat) (S : (Nat → Nat → Int32)) (x1 : Int32) (x2 : Int32) (x3 : Int32) (x4 : Int32) (x5 : Int32) : (Int32 × (Nat → Nat → Int32)) := (F_M_link_j93 fl S x1 x2 x3 x4 x5 1)
def Sf_M_link_j88 (fl : Nat → Nat) (S : (Nat → Nat → Int32)) (x1 : Int32) (x2 : Int32) (x3 : Int32) (x4 : Int32) (x5 : Int32) : Prop := (Sf_M_link_j93 fl S x1 x2 x3 x4 x5 1)
theorem t_M_link_j88 {X : z_X} {Post : Option z_V → z_W → Prop} (M : z_M X zm_M_link rm_M_link Post) {T' : Nat → Nat × Nat} {G' : Nat → Nat → Option Nat} {n : Nat} (fl : Nat → Nat) (hfl : zOK T' G' fl n) {T0 : Nat → Nat × Nat} {G0 : Nat → Nat → Option Nat} {n0 : Nat} (hg : zGr T0 G0 n0 T' G' n) {Q : (Int32 × (Nat → Nat → Int32)) → Prop} (S : (Nat → Nat → Int32)) (x1 : Int32) (x2 : Int32) (x3 : Int32) (x4 : Int32) (x5 : Int32) (hQ : ∀ v S' T2 G2 n2, zGr T0 G0 n0 T2 G2 n2 → Q (v, S') → Post (some (.inl v)) (zW T2 G2 S' n2)) (K : Q (F_M_link_j88 fl S x1 x2 x3 x4 x5)) (hs : Sf_M_link_j88 fl S x1 x2 x3 x4 x5) : z_G X zm_M_link (88, [(0, z_r 78), (1, .inl x1), (2, .inl x2), (3, .inl x3), (4, .inl x4), (5, .inl x5)], [], zW T' G' S n, 1, 30) := by
  unfold F_M_link_j88 at K
  unfold Sf_M_link_j88 at hs
  refine z_go2 M.1 88 [(.iconst 1, 1), (.goto 4, 3)] (93, [(0, z_r 78), (1, .inl x1), (2, .inl x2), (3, .inl x3), (4, .inl x4), (5, .inl x5)], [.inl 1], zW T' G' S n, 1, 30) (by decide +kernel) rfl ⟨trivial, trivial, trivial⟩ ?_
  exact z_lvs (lv' := [(0, z_r 78), (1, .inl x1), (2, .inl x2), (3, .inl x3), (4, .inl x4), (5, .inl x5)]) [0, 1, 2, 3, 4, 5] rfl (t_M_link_j93 M fl hfl hg S x1 x2 x3 x4 x5 1 hQ K hs)
def F_M_link_j44 (fl : Nat → Nat) (na : Nat) (S : (Nat → Nat → Int32)) (x1 : Int32) (x2 : Int32) (x3 : Int32) (x4 : Int32) (x5 : Int32) (s0 : Int32) : (Int32 × (Nat → Nat → Int32)) := (if s0 ≤ 0 then (if (F_M_edits 86 (z_uS S 78 0 s0) x1 x3) = 0 then (F_M_link_j92 fl (z_uS S 78 0 s0) x1 x2 x3 x4 x5) else (if x5 = 0 then (F_M_link_j88 fl (z_uS S 78 0 s0) x1 x2 x3 x4 x5) else (if x2 = 0 then (match F_M_leads na (z_uS S 78 0 s0) x4 x3 with | (r82, S82) => (if r82 = 0 then (F_M_link_j88 fl S82 x1 x2 x3 x4 x5) else (F_M_link_j92 fl S82 x1 x2 x3 x4 x5))) else (F_M_link_j88 fl (z_uS S 78 0 s0) x1 x2 x3 x4 x5)))) else (0, (z_uS S 78 0 s0)))
def Sf_M_link_j44 (fl : Nat → Nat) (na : Nat) (S : (Nat → Nat → Int32)) (x1 : Int32) (x2 : Int32) (x3 : Int32) (x4 : Int32) (x5 : Int32) (s0 : Int32) : Prop := (if s0 ≤ 0 then (Sf_M_edits 86 (z_uS S 78 0 s0) x1 x3 ∧ (if (F_M_edits 86 (z_uS S 78 0 s0) x1 x3) = 0 then (Sf_M_link_j92 fl (z_uS S 78 0 s0) x1 x2 x3 x4 x5) else (if x5 = 0 then (Sf_M_link_j88 fl (z_uS S 78 0 s0) x1 x2 x3 x4 x5) else (if x2 = 0 then (Sf_M_leads na (z_uS S 78 0 s0) x4 x3 ∧ (match F_M_leads na (z_uS S 78 0 s0) x4 x3 with | (r82, S82) => (if r82 = 0 then (Sf_M_link_j88 fl S82 x1 x2 x3 x4 x5) else (Sf_M_link_j92 fl S82 x1 x2 x3 x4 x5)))) else (Sf_M_link_j88 fl (z_uS S 78 0 s0) x1 x2 x3 x4 x5))))) else True)
theorem t_M_link_j44 {X : z_X} {Post : Option z_V → z_W → Prop} (M : z_M X zm_M_link rm_M_link Post) {T' : Nat → Nat × Nat} {G' : Nat → Nat → Option Nat} {n : Nat} (fl : Nat → Nat) (hfl : zOK T' G' fl n) (na : Nat) (hna : n = na) {T0 : Nat → Nat × Nat} {G0 : Nat → Nat → Option Nat} {n0 : Nat} (hg : zGr T0 G0 n0 T' G' n) {Q : (Int32 × (Nat → Nat → Int32)) → Prop} (S : (Nat → Nat → Int32)) (x1 : Int32) (x2 : Int32) (x3 : Int32) (x4 : Int32) (x5 : Int32) (s0 : Int32) (hQ : ∀ v S' T2 G2 n2, zGr T0 G0 n0 T2 G2 n2 → Q (v, S') → Post (some (.inl v)) (zW T2 G2 S' n2)) (K : Q (F_M_link_j44 fl na S x1 x2 x3 x4 x5 s0)) (hs : Sf_M_link_j44 fl na S x1 x2 x3 x4 x5 s0) : z_G X zm_M_link (44, [(0, z_r 78), (1, .inl x1), (2, .inl x2), (3, .inl x3), (4, .inl x4), (5, .inl x5)], [.inl s0, z_r 78], zW T' G' S n, 0, 0) := by
  unfold F_M_link_j44 at K
  unfold Sf_M_link_j44 at hs
  refine z_go2 M.1 44 [(.putfield 175, 3), (.aload_n 0, 1), (.getfield 175, 3)] (51, [(0, z_r 78), (1, .inl x1), (2, .inl x2), (3, .inl x3), (4, .inl x4), (5, .inl x5)], [.inl s0], zW T' G' (z_uS S 78 0 s0) n, 0, 0) (by decide +kernel) rfl ⟨⟨rfl, trivial⟩, trivial, rfl, trivial⟩ ?_
  refine z_if_le 56 M.1 (off := 5) (by decide +kernel) (by decide) (fun c51 => ?_) (fun c51 => ?_)
  · rw [if_pos c51] at K hs
    refine z_go2 M.1 56 [(.aload_n 0, 1), (.aload_n 0, 1), (.getfield 34, 3), (.iload_n 1, 1), (.iload_n 3, 1)] (63, [(0, z_r 78), (1, .inl x1), (2, .inl x2), (3, .inl x3), (4, .inl x4), (5, .inl x5)], [.inl x3, .inl x1, z_r 86, z_r 78], zW T' G' (z_uS S 78 0 s0) n, 0, 0) (by decide +kernel) rfl ⟨trivial, trivial, rfl, trivial, trivial, trivial⟩ ?_
    refine z_callV M.1 (av := [z_r 86, .inl x1, .inl x3]) (st := []) (a := 78) (ci := 14) (by decide +kernel) (c_M_edits_86 T' G' (z_uS S 78 0 s0) n x1 x3 hs.1) M.2.1 zl_M_340 zv_M_edits rfl rfl rfl ⟨by decide, by decide, by decide, by decide⟩ rfl (Nat.le_of_ble_eq_true rfl) (fun v w' hv => ?_)
    obtain ⟨rfl, rfl⟩ := hv
    replace hs := hs.2
    show z_G X zm_M_link (66, [(0, z_r 78), (1, .inl x1), (2, .inl x2), (3, .inl x3), (4, .inl x4), (5, .inl x5)], [.inl (F_M_edits 86 (z_uS S 78 0 s0) x1 x3)], zW T' G' (z_uS S 78 0 s0) n, 0, 0)
    refine z_if_eq 92 M.1 (off := 26) (by decide +kernel) (by decide) (fun c66 => ?_) (fun c66 => ?_)
    · rw [if_pos c66] at K hs
      refine z_wid (nc' := 1) (ns' := 30) (by decide) (by decide) ?_
      exact z_lvs (lv' := [(0, z_r 78), (1, .inl x1), (2, .inl x2), (3, .inl x3), (4, .inl x4), (5, .inl x5)]) [0, 1, 2, 3, 4, 5] rfl (t_M_link_j92 M fl hfl hg (z_uS S 78 0 s0) x1 x2 x3 x4 x5 hQ K hs)
    · rw [if_neg c66] at K hs
      refine z_go2 M.1 69 [(.iload 5, 2)] (71, [(0, z_r 78), (1, .inl x1), (2, .inl x2), (3, .inl x3), (4, .inl x4), (5, .inl x5)], [.inl x5], zW T' G' (z_uS S 78 0 s0) n, 0, 0) (by decide +kernel) rfl ⟨trivial, trivial⟩ ?_
      refine z_if_eq 88 M.1 (off := 17) (by decide +kernel) (by decide) (fun c71 => ?_) (fun c71 => ?_)
      · rw [if_pos c71] at K hs
        refine z_wid (nc' := 1) (ns' := 30) (by decide) (by decide) ?_
        exact z_lvs (lv' := [(0, z_r 78), (1, .inl x1), (2, .inl x2), (3, .inl x3), (4, .inl x4), (5, .inl x5)]) [0, 1, 2, 3, 4, 5] rfl (t_M_link_j88 M fl hfl hg (z_uS S 78 0 s0) x1 x2 x3 x4 x5 hQ K hs)
      · rw [if_neg c71] at K hs
        refine z_go2 M.1 74 [(.iload_n 2, 1)] (75, [(0, z_r 78), (1, .inl x1), (2, .inl x2), (3, .inl x3), (4, .inl x4), (5, .inl x5)], [.inl x2], zW T' G' (z_uS S 78 0 s0) n, 0, 0) (by decide +kernel) rfl ⟨trivial, trivial⟩ ?_
        refine z_if_ne 88 M.1 (off := 13) (by decide +kernel) (by decide) (fun c75 => ?_) (fun c75 => ?_)
        · rw [if_neg c75] at K hs
          refine z_wid (nc' := 1) (ns' := 30) (by decide) (by decide) ?_
          exact z_lvs (lv' := [(0, z_r 78), (1, .inl x1), (2, .inl x2), (3, .inl x3), (4, .inl x4), (5, .inl x5)]) [0, 1, 2, 3, 4, 5] rfl (t_M_link_j88 M fl hfl hg (z_uS S 78 0 s0) x1 x2 x3 x4 x5 hQ K hs)
        · rw [if_pos c75] at K hs
          refine z_go2 M.1 78 [(.aload_n 0, 1), (.iload 4, 2), (.iload_n 3, 1)] (82, [(0, z_r 78), (1, .inl x1), (2, .inl x2), (3, .inl x3), (4, .inl x4), (5, .inl x5)], [.inl x3, .inl x4, z_r 78], zW T' G' (z_uS S 78 0 s0) n, 0, 0) (by decide +kernel) rfl ⟨trivial, trivial, trivial, trivial⟩ ?_
          subst hna
          refine z_callV M.1 (av := [.inl x4, .inl x3]) (st := []) (a := 78) (ci := 14) (by decide +kernel) (c_M_leads T' G' n hg.hi (z_uS S 78 0 s0) x4 x3 hs.1) M.2.1 zl_M_365 zv_M_leads rfl rfl rfl ⟨by decide, by decide, by decide, by decide⟩ rfl (Nat.le_of_ble_eq_true rfl) (fun v w' hv => ?_)
          rcases hF82 : F_M_leads n (z_uS S 78 0 s0) x4 x3 with ⟨r82, S82⟩
          rw [hF82] at K hv
          try rw [hF82] at hs
          replace hs := And.right hs
          try dsimp only [z_let] at K hs
          obtain ⟨T', G', n, hA, rfl, rfl⟩ := hv
          replace hg := hg.trans hA
          replace hfl := hfl.gr hA
          show z_G X zm_M_link (85, [(0, z_r 78), (1, .inl x1), (2, .inl x2), (3, .inl x3), (4, .inl x4), (5, .inl x5)], [.inl r82], zW T' G' S82 n, 1, 30)
          refine z_if_ne 92 M.1 (off := 7) (by decide +kernel) (by decide) (fun c85 => ?_) (fun c85 => ?_)
          · rw [if_neg c85] at K hs
            exact z_lvs (lv' := [(0, z_r 78), (1, .inl x1), (2, .inl x2), (3, .inl x3), (4, .inl x4), (5, .inl x5)]) [0, 1, 2, 3, 4, 5] rfl (t_M_link_j92 M fl hfl hg S82 x1 x2 x3 x4 x5 hQ K hs)
          · rw [if_pos c85] at K hs
            exact z_lvs (lv' := [(0, z_r 78), (1, .inl x1), (2, .inl x2), (3, .inl x3), (4, .inl x4), (5, .inl x5)]) [0, 1, 2, 3, 4, 5] rfl (t_M_link_j88 M fl hfl hg S82 x1 x2 x3 x4 x5 hQ K hs)
  · rw [if_neg c51] at K hs
    refine z_go2 M.1 54 [(.iconst 0, 1)] (55, [(0, z_r 78), (1, .inl x1), (2, .inl x2), (3, .inl x3), (4, .inl x4), (5, .inl x5)], [.inl 0], zW T' G' (z_uS S 78 0 s0) n, 0, 0) (by decide +kernel) rfl ⟨trivial, trivial⟩ ?_
    exact z_iret M (by decide +kernel) .boolean rfl rfl (by decide) (by decide) (hQ _ _ _ _ _ hg K)
def F_M_link_j20 (fl : Nat → Nat) (na : Nat) (S : (Nat → Nat → Int32)) (x1 : Int32) (x2 : Int32) (x3 : Int32) (x4 : Int32) (x5 : Int32) : (Int32 × (Nat → Nat → Int32)) := (F_M_link_j44 fl na S x1 x2 x3 x4 x5 1)
def Sf_M_link_j20 (fl : Nat → Nat) (na : Nat) (S : (Nat → Nat → Int32)) (x1 : Int32) (x2 : Int32) (x3 : Int32) (x4 : Int32) (x5 : Int32) : Prop := (Sf_M_link_j44 fl na S x1 x2 x3 x4 x5 1)
theorem t_M_link_j20 {X : z_X} {Post : Option z_V → z_W → Prop} (M : z_M X zm_M_link rm_M_link Post) {T' : Nat → Nat × Nat} {G' : Nat → Nat → Option Nat} {n : Nat} (fl : Nat → Nat) (hfl : zOK T' G' fl n) (na : Nat) (hna : n = na) {T0 : Nat → Nat × Nat} {G0 : Nat → Nat → Option Nat} {n0 : Nat} (hg : zGr T0 G0 n0 T' G' n) {Q : (Int32 × (Nat → Nat → Int32)) → Prop} (S : (Nat → Nat → Int32)) (x1 : Int32) (x2 : Int32) (x3 : Int32) (x4 : Int32) (x5 : Int32) (hQ : ∀ v S' T2 G2 n2, zGr T0 G0 n0 T2 G2 n2 → Q (v, S') → Post (some (.inl v)) (zW T2 G2 S' n2)) (K : Q (F_M_link_j20 fl na S x1 x2 x3 x4 x5)) (hs : Sf_M_link_j20 fl na S x1 x2 x3 x4 x5) : z_G X zm_M_link (20, [(0, z_r 78), (1, .inl x1), (2, .inl x2), (3, .inl x3), (4, .inl x4), (5, .inl x5)], [z_r 78], zW T' G' S n, 0, 0) := by
  unfold F_M_link_j20 at K
  unfold Sf_M_link_j20 at hs
  refine z_go2 M.1 20 [(.iconst 1, 1), (.goto 23, 3)] (44, [(0, z_r 78), (1, .inl x1), (2, .inl x2), (3, .inl x3), (4, .inl x4), (5, .inl x5)], [.inl 1, z_r 78], zW T' G' S n, 0, 0) (by decide +kernel) rfl ⟨trivial, trivial, trivial⟩ ?_
  exact z_lvs (lv' := [(0, z_r 78), (1, .inl x1), (2, .inl x2), (3, .inl x3), (4, .inl x4), (5, .inl x5)]) [0, 1, 2, 3, 4, 5] rfl (t_M_link_j44 M fl hfl na hna hg S x1 x2 x3 x4 x5 1 hQ K hs)
def F_M_link_j43 (fl : Nat → Nat) (na : Nat) (S : (Nat → Nat → Int32)) (x1 : Int32) (x2 : Int32) (x3 : Int32) (x4 : Int32) (x5 : Int32) : (Int32 × (Nat → Nat → Int32)) := (F_M_link_j44 fl na S x1 x2 x3 x4 x5 2)
def Sf_M_link_j43 (fl : Nat → Nat) (na : Nat) (S : (Nat → Nat → Int32)) (x1 : Int32) (x2 : Int32) (x3 : Int32) (x4 : Int32) (x5 : Int32) : Prop := (Sf_M_link_j44 fl na S x1 x2 x3 x4 x5 2)
theorem t_M_link_j43 {X : z_X} {Post : Option z_V → z_W → Prop} (M : z_M X zm_M_link rm_M_link Post) {T' : Nat → Nat × Nat} {G' : Nat → Nat → Option Nat} {n : Nat} (fl : Nat → Nat) (hfl : zOK T' G' fl n) (na : Nat) (hna : n = na) {T0 : Nat → Nat × Nat} {G0 : Nat → Nat → Option Nat} {n0 : Nat} (hg : zGr T0 G0 n0 T' G' n) {Q : (Int32 × (Nat → Nat → Int32)) → Prop} (S : (Nat → Nat → Int32)) (x1 : Int32) (x2 : Int32) (x3 : Int32) (x4 : Int32) (x5 : Int32) (hQ : ∀ v S' T2 G2 n2, zGr T0 G0 n0 T2 G2 n2 → Q (v, S') → Post (some (.inl v)) (zW T2 G2 S' n2)) (K : Q (F_M_link_j43 fl na S x1 x2 x3 x4 x5)) (hs : Sf_M_link_j43 fl na S x1 x2 x3 x4 x5) : z_G X zm_M_link (43, [(0, z_r 78), (1, .inl x1), (2, .inl x2), (3, .inl x3), (4, .inl x4), (5, .inl x5)], [z_r 78], zW T' G' S n, 0, 0) := by
  unfold F_M_link_j43 at K
  unfold Sf_M_link_j43 at hs
  refine z_go2 M.1 43 [(.iconst 2, 1)] (44, [(0, z_r 78), (1, .inl x1), (2, .inl x2), (3, .inl x3), (4, .inl x4), (5, .inl x5)], [.inl 2, z_r 78], zW T' G' S n, 0, 0) (by decide +kernel) rfl ⟨trivial, trivial⟩ ?_
  exact z_lvs (lv' := [(0, z_r 78), (1, .inl x1), (2, .inl x2), (3, .inl x3), (4, .inl x4), (5, .inl x5)]) [0, 1, 2, 3, 4, 5] rfl (t_M_link_j44 M fl hfl na hna hg S x1 x2 x3 x4 x5 2 hQ K hs)
def F_M_link (fl : Nat → Nat) (na : Nat) (S : (Nat → Nat → Int32)) (p1 : Int32) (p2 : Int32) (p3 : Int32) (p4 : Int32) (p5 : Int32) : (Int32 × (Nat → Nat → Int32)) := (if (F_M_isSeen S p1 p3) = 0 then (F_M_link_j20 fl na S p1 p2 p3 p4 p5) else (if (F_M_isSeen S p1 p4) = 0 then (F_M_link_j20 fl na S p1 p2 p3 p4 p5) else (if (F_M_isIn S p2 0 2) = 0 then (F_M_link_j43 fl na S p1 p2 p3 p4 p5) else (if p3 = p4 then (F_M_link_j43 fl na S p1 p2 p3 p4 p5) else (F_M_link_j44 fl na S p1 p2 p3 p4 p5 0)))))
def Sf_M_link (fl : Nat → Nat) (na : Nat) (S : (Nat → Nat → Int32)) (p1 : Int32) (p2 : Int32) (p3 : Int32) (p4 : Int32) (p5 : Int32) : Prop := (Sf_M_isSeen S p1 p3 ∧ (if (F_M_isSeen S p1 p3) = 0 then (Sf_M_link_j20 fl na S p1 p2 p3 p4 p5) else (Sf_M_isSeen S p1 p4 ∧ (if (F_M_isSeen S p1 p4) = 0 then (Sf_M_link_j20 fl na S p1 p2 p3 p4 p5) else (if (F_M_isIn S p2 0 2) = 0 then (Sf_M_link_j43 fl na S p1 p2 p3 p4 p5) else (if p3 = p4 then (Sf_M_link_j43 fl na S p1 p2 p3 p4 p5) else (Sf_M_link_j44 fl na S p1 p2 p3 p4 p5 0)))))))
theorem c_M_link (T' : Nat → Nat × Nat) (G' : Nat → Nat → Option Nat) (n : Nat) (na : Nat) (hna : n = na) (hn : 194 ≤ n) (fl : Nat → Nat) (hfl : zOK T' G' fl n) (S : (Nat → Nat → Int32)) (p1 : Int32) (p2 : Int32) (p3 : Int32) (p4 : Int32) (p5 : Int32) (hs : Sf_M_link fl na S p1 p2 p3 p4 p5) : z_Run rm_M_link zm_M_link [z_r 78, .inl p1, .inl p2, .inl p3, .inl p4, .inl p5] (zW T' G' S n) (fun v w' => ∃ T2 G2 n2, zGr T' G' n T2 G2 n2 ∧ v = some (.inl (F_M_link fl na S p1 p2 p3 p4 p5).1 : z_V) ∧ w' = zW T2 G2 (F_M_link fl na S p1 p2 p3 p4 p5).2 n2) := by
  refine z_body (by decide) zf_M_ok (Nat.le_of_ble_eq_true rfl) (fun X M => ?_)
  obtain ⟨Q, hQ, K⟩ : ∃ Q : (Int32 × (Nat → Nat → Int32)) → Prop, (∀ (v : Int32) S' T2 G2 n2, zGr T' G' n T2 G2 n2 → Q (v, S') → (fun v w' => ∃ T2 G2 n2, zGr T' G' n T2 G2 n2 ∧ v = some (.inl (F_M_link fl na S p1 p2 p3 p4 p5).1 : z_V) ∧ w' = zW T2 G2 (F_M_link fl na S p1 p2 p3 p4 p5).2 n2) (some (.inl v : z_V)) (zW T2 G2 S' n2)) ∧ Q (F_M_link fl na S p1 p2 p3 p4 p5) := ⟨fun o => F_M_link fl na S p1 p2 p3 p4 p5 = o, fun v S' T2 G2 n2 hg h => ⟨T2, G2, n2, hg, by rw [h], by rw [h]⟩, rfl⟩
  have hg : zGr T' G' n T' G' n := zGr.rfl hn
  show z_G X zm_M_link (0, [(0, z_r 78), (1, .inl p1), (2, .inl p2), (3, .inl p3), (4, .inl p4), (5, .inl p5)], [], zW T' G' S n, 0, 0)
  unfold F_M_link at K
  unfold Sf_M_link at hs
  refine z_go2 M.1 0 [(.aload_n 0, 1), (.aload_n 0, 1), (.iload_n 1, 1), (.iload_n 3, 1)] (4, [(0, z_r 78), (1, .inl p1), (2, .inl p2), (3, .inl p3), (4, .inl p4), (5, .inl p5)], [.inl p3, .inl p1, z_r 78, z_r 78], zW T' G' S n, 0, 0) (by decide +kernel) rfl ⟨trivial, trivial, trivial, trivial, trivial⟩ ?_
  refine z_callV M.1 (av := [.inl p1, .inl p3]) (st := [z_r 78]) (a := 78) (ci := 14) (by decide +kernel) (c_M_isSeen T' G' S n p1 p3 hs.1) M.2.1 zl_M_336 zv_M_isSeen rfl rfl rfl ⟨by decide, by decide, by decide, by decide⟩ rfl (Nat.le_of_ble_eq_true rfl) (fun v w' hv => ?_)
  obtain ⟨rfl, rfl⟩ := hv
  replace hs := hs.2
  show z_G X zm_M_link (7, [(0, z_r 78), (1, .inl p1), (2, .inl p2), (3, .inl p3), (4, .inl p4), (5, .inl p5)], [.inl (F_M_isSeen S p1 p3), z_r 78], zW T' G' S n, 0, 0)
  refine z_if_eq 20 M.1 (off := 13) (by decide +kernel) (by decide) (fun c7 => ?_) (fun c7 => ?_)
  · rw [if_pos c7] at K hs
    exact z_lvs (lv' := [(0, z_r 78), (1, .inl p1), (2, .inl p2), (3, .inl p3), (4, .inl p4), (5, .inl p5)]) [0, 1, 2, 3, 4, 5] rfl (t_M_link_j20 M fl hfl na hna hg S p1 p2 p3 p4 p5 hQ K hs)
  · rw [if_neg c7] at K hs
    refine z_go2 M.1 10 [(.aload_n 0, 1), (.iload_n 1, 1), (.iload 4, 2)] (14, [(0, z_r 78), (1, .inl p1), (2, .inl p2), (3, .inl p3), (4, .inl p4), (5, .inl p5)], [.inl p4, .inl p1, z_r 78, z_r 78], zW T' G' S n, 0, 0) (by decide +kernel) rfl ⟨trivial, trivial, trivial, trivial⟩ ?_
    refine z_callV M.1 (av := [.inl p1, .inl p4]) (st := [z_r 78]) (a := 78) (ci := 14) (by decide +kernel) (c_M_isSeen T' G' S n p1 p4 hs.1) M.2.1 zl_M_336 zv_M_isSeen rfl rfl rfl ⟨by decide, by decide, by decide, by decide⟩ rfl (Nat.le_of_ble_eq_true rfl) (fun v w' hv => ?_)
    obtain ⟨rfl, rfl⟩ := hv
    replace hs := hs.2
    show z_G X zm_M_link (17, [(0, z_r 78), (1, .inl p1), (2, .inl p2), (3, .inl p3), (4, .inl p4), (5, .inl p5)], [.inl (F_M_isSeen S p1 p4), z_r 78], zW T' G' S n, 0, 0)
    refine z_if_ne 24 M.1 (off := 7) (by decide +kernel) (by decide) (fun c17 => ?_) (fun c17 => ?_)
    · rw [if_neg c17] at K hs
      refine z_go2 M.1 24 [(.iload_n 2, 1), (.iconst 0, 1), (.iconst 2, 1)] (27, [(0, z_r 78), (1, .inl p1), (2, .inl p2), (3, .inl p3), (4, .inl p4), (5, .inl p5)], [.inl 2, .inl 0, .inl p2, z_r 78], zW T' G' S n, 0, 0) (by decide +kernel) rfl ⟨trivial, trivial, trivial, trivial⟩ ?_
      refine z_callS M.1 (av := [.inl p2, .inl 0, .inl 2]) (st := [z_r 78]) (by decide +kernel) (c_M_isIn T' G' S n p2 0 2) M.2.1 zl_M_178 zs_M_isIn ⟨by decide, by decide, by decide, by decide⟩ rfl (Nat.le_of_ble_eq_true rfl) (fun v w' hv => ?_)
      obtain ⟨rfl, rfl⟩ := hv
      show z_G X zm_M_link (30, [(0, z_r 78), (1, .inl p1), (2, .inl p2), (3, .inl p3), (4, .inl p4), (5, .inl p5)], [.inl (F_M_isIn S p2 0 2), z_r 78], zW T' G' S n, 0, 0)
      refine z_if_eq 43 M.1 (off := 13) (by decide +kernel) (by decide) (fun c30 => ?_) (fun c30 => ?_)
      · rw [if_pos c30] at K hs
        exact z_lvs (lv' := [(0, z_r 78), (1, .inl p1), (2, .inl p2), (3, .inl p3), (4, .inl p4), (5, .inl p5)]) [0, 1, 2, 3, 4, 5] rfl (t_M_link_j43 M fl hfl na hna hg S p1 p2 p3 p4 p5 hQ K hs)
      · rw [if_neg c30] at K hs
        refine z_go2 M.1 33 [(.iload_n 3, 1), (.iload 4, 2)] (36, [(0, z_r 78), (1, .inl p1), (2, .inl p2), (3, .inl p3), (4, .inl p4), (5, .inl p5)], [.inl p4, .inl p3, z_r 78], zW T' G' S n, 0, 0) (by decide +kernel) rfl ⟨trivial, trivial, trivial⟩ ?_
        refine z_icmp_eq 43 M.1 (off := 7) (by decide +kernel) (by decide) (fun c36 => ?_) (fun c36 => ?_)
        · rw [if_pos c36] at K hs
          exact z_lvs (lv' := [(0, z_r 78), (1, .inl p1), (2, .inl p2), (3, .inl p3), (4, .inl p4), (5, .inl p5)]) [0, 1, 2, 3, 4, 5] rfl (t_M_link_j43 M fl hfl na hna hg S p1 p2 p3 p4 p5 hQ K hs)
        · rw [if_neg c36] at K hs
          refine z_go2 M.1 39 [(.iconst 0, 1), (.goto 4, 3)] (44, [(0, z_r 78), (1, .inl p1), (2, .inl p2), (3, .inl p3), (4, .inl p4), (5, .inl p5)], [.inl 0, z_r 78], zW T' G' S n, 0, 0) (by decide +kernel) rfl ⟨trivial, trivial, trivial⟩ ?_
          exact z_lvs (lv' := [(0, z_r 78), (1, .inl p1), (2, .inl p2), (3, .inl p3), (4, .inl p4), (5, .inl p5)]) [0, 1, 2, 3, 4, 5] rfl (t_M_link_j44 M fl hfl na hna hg S p1 p2 p3 p4 p5 0 hQ K hs)
    · rw [if_pos c17] at K hs
      exact z_lvs (lv' := [(0, z_r 78), (1, .inl p1), (2, .inl p2), (3, .inl p3), (4, .inl p4), (5, .inl p5)]) [0, 1, 2, 3, 4, 5] rfl (t_M_link_j20 M fl hfl na hna hg S p1 p2 p3 p4 p5 hQ K hs)

abbrev rm_M_drag : Room := zg 3 1 30
def F_M_drag_j88 (S : (Nat → Nat → Int32)) (x2 : Int32) (x4 : Int32) : (Int32 × (Nat → Nat → Int32)) := (x4, (z_uS S 167 (x2).toNatClampNeg x4))
def Sf_M_drag_j88 (S : (Nat → Nat → Int32)) (x2 : Int32) (x4 : Int32) : Prop := ((vp_in x2 30) ∧ True)
theorem t_M_drag_j88 {X : z_X} {Post : Option z_V → z_W → Prop} (M : z_M X zm_M_drag rm_M_drag Post) {T' : Nat → Nat × Nat} {G' : Nat → Nat → Option Nat} {n : Nat} {T0 : Nat → Nat × Nat} {G0 : Nat → Nat → Option Nat} {n0 : Nat} (hg : zGr T0 G0 n0 T' G' n) {Q : (Int32 × (Nat → Nat → Int32)) → Prop} (S : (Nat → Nat → Int32)) (x2 : Int32) (x4 : Int32) (hQ : ∀ v S' T2 G2 n2, zGr T0 G0 n0 T2 G2 n2 → Q (v, S') → Post (some (.inl v)) (zW T2 G2 S' n2)) (K : Q (F_M_drag_j88 S x2 x4)) (hs : Sf_M_drag_j88 S x2 x4) : z_G X zm_M_drag (88, [(0, z_r 78), (2, .inl x2), (4, .inl x4)], [], zW T' G' S n, 1, 30) := by
  unfold F_M_drag_j88 at K
  unfold Sf_M_drag_j88 at hs
  refine z_go2 M.1 88 [(.aload_n 0, 1), (.getfield 95, 3), (.iload_n 2, 1), (.iload 4, 2), (.iastore, 1), (.iload 4, 2)] (98, [(0, z_r 78), (2, .inl x2), (4, .inl x4)], [.inl x4], zW T' G' (z_uS S 167 (x2).toNatClampNeg x4) n, 1, 30) (by decide +kernel) rfl ⟨trivial, rfl, trivial, trivial, ⟨rfl, hs.1⟩, trivial, trivial⟩ ?_
  replace hs := hs.2
  exact z_iret M (by decide +kernel) .int rfl rfl (by decide) (by decide) (hQ _ _ _ _ _ hg K)
def F_M_drag_j50 (na : Nat) (S : (Nat → Nat → Int32)) (x2 : Int32) (x3 : Int32) (s0 : Int32) : (Int32 × (Nat → Nat → Int32)) := (if s0 ≤ 0 then (if (F_M_between (z_uS S 78 0 s0) x3 x2) = 0 then (z_let (F_M_ranksAnew na (z_uS S 78 0 s0) x2) (fun S77 => (F_M_drag_j88 S77 x2 (F_M_between S77 x3 x2)))) else (F_M_drag_j88 (z_uS S 78 0 s0) x2 (F_M_between (z_uS S 78 0 s0) x3 x2))) else (0, (z_uS S 78 0 s0)))
def Sf_M_drag_j50 (na : Nat) (S : (Nat → Nat → Int32)) (x2 : Int32) (x3 : Int32) (s0 : Int32) : Prop := (if s0 ≤ 0 then (Sf_M_between (z_uS S 78 0 s0) x3 x2 ∧ (if (F_M_between (z_uS S 78 0 s0) x3 x2) = 0 then (Sf_M_ranksAnew na (z_uS S 78 0 s0) x2 ∧ (z_let (F_M_ranksAnew na (z_uS S 78 0 s0) x2) (fun S77 => (Sf_M_between S77 x3 x2 ∧ (Sf_M_drag_j88 S77 x2 (F_M_between S77 x3 x2)))))) else (Sf_M_drag_j88 (z_uS S 78 0 s0) x2 (F_M_between (z_uS S 78 0 s0) x3 x2)))) else True)
theorem t_M_drag_j50 {X : z_X} {Post : Option z_V → z_W → Prop} (M : z_M X zm_M_drag rm_M_drag Post) {T' : Nat → Nat × Nat} {G' : Nat → Nat → Option Nat} {n : Nat} (na : Nat) (hna : n = na) {T0 : Nat → Nat × Nat} {G0 : Nat → Nat → Option Nat} {n0 : Nat} (hg : zGr T0 G0 n0 T' G' n) {Q : (Int32 × (Nat → Nat → Int32)) → Prop} (S : (Nat → Nat → Int32)) (x2 : Int32) (x3 : Int32) (s0 : Int32) (hQ : ∀ v S' T2 G2 n2, zGr T0 G0 n0 T2 G2 n2 → Q (v, S') → Post (some (.inl v)) (zW T2 G2 S' n2)) (K : Q (F_M_drag_j50 na S x2 x3 s0)) (hs : Sf_M_drag_j50 na S x2 x3 s0) : z_G X zm_M_drag (50, [(0, z_r 78), (2, .inl x2), (3, .inl x3)], [.inl s0, z_r 78], zW T' G' S n, 0, 0) := by
  unfold F_M_drag_j50 at K
  unfold Sf_M_drag_j50 at hs
  refine z_go2 M.1 50 [(.putfield 175, 3), (.aload_n 0, 1), (.getfield 175, 3)] (57, [(0, z_r 78), (2, .inl x2), (3, .inl x3)], [.inl s0], zW T' G' (z_uS S 78 0 s0) n, 0, 0) (by decide +kernel) rfl ⟨⟨rfl, trivial⟩, trivial, rfl, trivial⟩ ?_
  refine z_if_le 62 M.1 (off := 5) (by decide +kernel) (by decide) (fun c57 => ?_) (fun c57 => ?_)
  · rw [if_pos c57] at K hs
    refine z_go2 M.1 62 [(.aload_n 0, 1), (.iload_n 3, 1), (.iload_n 2, 1)] (65, [(0, z_r 78), (2, .inl x2), (3, .inl x3)], [.inl x2, .inl x3, z_r 78], zW T' G' (z_uS S 78 0 s0) n, 0, 0) (by decide +kernel) rfl ⟨trivial, trivial, trivial, trivial⟩ ?_
    refine z_callV M.1 (av := [.inl x3, .inl x2]) (st := []) (a := 78) (ci := 14) (by decide +kernel) (c_M_between T' G' (z_uS S 78 0 s0) n x3 x2 hs.1) M.2.1 zl_M_368 zv_M_between rfl rfl rfl ⟨by decide, by decide, by decide, by decide⟩ rfl (Nat.le_of_ble_eq_true rfl) (fun v w' hv => ?_)
    obtain ⟨rfl, rfl⟩ := hv
    replace hs := hs.2
    show z_G X zm_M_drag (68, [(0, z_r 78), (2, .inl x2), (3, .inl x3)], [.inl (F_M_between (z_uS S 78 0 s0) x3 x2)], zW T' G' (z_uS S 78 0 s0) n, 0, 0)
    refine z_go2 M.1 68 [(.istore 4, 2), (.iload 4, 2)] (72, [(4, .inl (F_M_between (z_uS S 78 0 s0) x3 x2)), (0, z_r 78), (2, .inl x2), (3, .inl x3)], [.inl (F_M_between (z_uS S 78 0 s0) x3 x2)], zW T' G' (z_uS S 78 0 s0) n, 0, 0) (by decide +kernel) rfl ⟨trivial, trivial, trivial⟩ ?_
    refine z_if_ne 88 M.1 (off := 16) (by decide +kernel) (by decide) (fun c72 => ?_) (fun c72 => ?_)
    · rw [if_neg c72] at K hs
      refine z_wid (nc' := 1) (ns' := 30) (by decide) (by decide) ?_
      exact z_lvs (lv' := [(0, z_r 78), (2, .inl x2), (4, .inl (F_M_between (z_uS S 78 0 s0) x3 x2))]) [1, 2, 0] rfl (t_M_drag_j88 M hg (z_uS S 78 0 s0) x2 (F_M_between (z_uS S 78 0 s0) x3 x2) hQ K hs)
    · rw [if_pos c72] at K hs
      refine z_go2 M.1 75 [(.aload_n 0, 1), (.iload_n 2, 1)] (77, [(4, .inl (F_M_between (z_uS S 78 0 s0) x3 x2)), (0, z_r 78), (2, .inl x2), (3, .inl x3)], [.inl x2, z_r 78], zW T' G' (z_uS S 78 0 s0) n, 0, 0) (by decide +kernel) rfl ⟨trivial, trivial, trivial⟩ ?_
      subst hna
      refine z_callV M.1 (av := [.inl x2]) (st := []) (a := 78) (ci := 14) (by decide +kernel) (c_M_ranksAnew T' G' n hg.hi (z_uS S 78 0 s0) x2 hs.1) M.2.1 zl_M_371 zv_M_ranksAnew rfl rfl rfl ⟨by decide, by decide, by decide, by decide⟩ rfl (Nat.le_of_ble_eq_true rfl) (fun v w' hv => ?_)
      obtain ⟨S77, hF77⟩ : ∃ y, F_M_ranksAnew n (z_uS S 78 0 s0) x2 = y := ⟨_, rfl⟩
      rw [hF77] at K hv
      try rw [hF77] at hs
      replace hs := And.right hs
      try dsimp only [z_let] at K hs
      obtain ⟨T', G', n, hA, rfl, rfl⟩ := hv
      replace hg := hg.trans hA
      show z_G X zm_M_drag (80, [(4, .inl (F_M_between (z_uS S 78 0 s0) x3 x2)), (0, z_r 78), (2, .inl x2), (3, .inl x3)], [], zW T' G' S77 n, 1, 30)
      refine z_go2 M.1 80 [(.aload_n 0, 1), (.iload_n 3, 1), (.iload_n 2, 1)] (83, [(4, .inl (F_M_between (z_uS S 78 0 s0) x3 x2)), (0, z_r 78), (2, .inl x2), (3, .inl x3)], [.inl x2, .inl x3, z_r 78], zW T' G' S77 n, 1, 30) (by decide +kernel) rfl ⟨trivial, trivial, trivial, trivial⟩ ?_
      refine z_callV M.1 (av := [.inl x3, .inl x2]) (st := []) (a := 78) (ci := 14) (by decide +kernel) (c_M_between T' G' S77 n x3 x2 hs.1) M.2.1 zl_M_368 zv_M_between rfl rfl rfl ⟨by decide, by decide, by decide, by decide⟩ rfl (Nat.le_of_ble_eq_true rfl) (fun v w' hv => ?_)
      obtain ⟨rfl, rfl⟩ := hv
      replace hs := hs.2
      show z_G X zm_M_drag (86, [(4, .inl (F_M_between (z_uS S 78 0 s0) x3 x2)), (0, z_r 78), (2, .inl x2), (3, .inl x3)], [.inl (F_M_between S77 x3 x2)], zW T' G' S77 n, 1, 30)
      refine z_go2 M.1 86 [(.istore 4, 2)] (88, [(4, .inl (F_M_between S77 x3 x2)), (0, z_r 78), (2, .inl x2), (3, .inl x3)], [], zW T' G' S77 n, 1, 30) (by decide +kernel) rfl ⟨trivial, trivial⟩ ?_
      exact z_lvs (lv' := [(0, z_r 78), (2, .inl x2), (4, .inl (F_M_between S77 x3 x2))]) [1, 2, 0] rfl (t_M_drag_j88 M hg S77 x2 (F_M_between S77 x3 x2) hQ K hs)
  · rw [if_neg c57] at K hs
    refine z_go2 M.1 60 [(.iconst 0, 1)] (61, [(0, z_r 78), (2, .inl x2), (3, .inl x3)], [.inl 0], zW T' G' (z_uS S 78 0 s0) n, 0, 0) (by decide +kernel) rfl ⟨trivial, trivial⟩ ?_
    exact z_iret M (by decide +kernel) .int rfl rfl (by decide) (by decide) (hQ _ _ _ _ _ hg K)
def F_M_drag_j19 (na : Nat) (S : (Nat → Nat → Int32)) (x2 : Int32) (x3 : Int32) : (Int32 × (Nat → Nat → Int32)) := (F_M_drag_j50 na S x2 x3 1)
def Sf_M_drag_j19 (na : Nat) (S : (Nat → Nat → Int32)) (x2 : Int32) (x3 : Int32) : Prop := (Sf_M_drag_j50 na S x2 x3 1)
theorem t_M_drag_j19 {X : z_X} {Post : Option z_V → z_W → Prop} (M : z_M X zm_M_drag rm_M_drag Post) {T' : Nat → Nat × Nat} {G' : Nat → Nat → Option Nat} {n : Nat} (na : Nat) (hna : n = na) {T0 : Nat → Nat × Nat} {G0 : Nat → Nat → Option Nat} {n0 : Nat} (hg : zGr T0 G0 n0 T' G' n) {Q : (Int32 × (Nat → Nat → Int32)) → Prop} (S : (Nat → Nat → Int32)) (x2 : Int32) (x3 : Int32) (hQ : ∀ v S' T2 G2 n2, zGr T0 G0 n0 T2 G2 n2 → Q (v, S') → Post (some (.inl v)) (zW T2 G2 S' n2)) (K : Q (F_M_drag_j19 na S x2 x3)) (hs : Sf_M_drag_j19 na S x2 x3) : z_G X zm_M_drag (19, [(0, z_r 78), (2, .inl x2), (3, .inl x3)], [z_r 78], zW T' G' S n, 0, 0) := by
  unfold F_M_drag_j19 at K
  unfold Sf_M_drag_j19 at hs
  refine z_go2 M.1 19 [(.iconst 1, 1), (.goto 30, 3)] (50, [(0, z_r 78), (2, .inl x2), (3, .inl x3)], [.inl 1, z_r 78], zW T' G' S n, 0, 0) (by decide +kernel) rfl ⟨trivial, trivial, trivial⟩ ?_
  exact z_lvs (lv' := [(0, z_r 78), (2, .inl x2), (3, .inl x3)]) [0, 1, 2] rfl (t_M_drag_j50 M na hna hg S x2 x3 1 hQ K hs)
def F_M_drag (na : Nat) (S : (Nat → Nat → Int32)) (p1 : Int32) (p2 : Int32) (p3 : Int32) : (Int32 × (Nat → Nat → Int32)) := (if (F_M_isSeen S p1 p2) = 0 then (F_M_drag_j19 na S p2 p3) else (if (F_M_isSeen S p1 p3) = 0 then (F_M_drag_j19 na S p2 p3) else (if p2 = p3 then (F_M_drag_j50 na S p2 p3 2) else (if (F_M_edits 86 S p1 p2) = 0 then (F_M_drag_j50 na S p2 p3 3) else (F_M_drag_j50 na S p2 p3 0)))))
def Sf_M_drag (na : Nat) (S : (Nat → Nat → Int32)) (p1 : Int32) (p2 : Int32) (p3 : Int32) : Prop := (Sf_M_isSeen S p1 p2 ∧ (if (F_M_isSeen S p1 p2) = 0 then (Sf_M_drag_j19 na S p2 p3) else (Sf_M_isSeen S p1 p3 ∧ (if (F_M_isSeen S p1 p3) = 0 then (Sf_M_drag_j19 na S p2 p3) else (if p2 = p3 then (Sf_M_drag_j50 na S p2 p3 2) else (Sf_M_edits 86 S p1 p2 ∧ (if (F_M_edits 86 S p1 p2) = 0 then (Sf_M_drag_j50 na S p2 p3 3) else (Sf_M_drag_j50 na S p2 p3 0))))))))
theorem c_M_drag (T' : Nat → Nat × Nat) (G' : Nat → Nat → Option Nat) (n : Nat) (na : Nat) (hna : n = na) (hn : 194 ≤ n) (S : (Nat → Nat → Int32)) (p1 : Int32) (p2 : Int32) (p3 : Int32) (hs : Sf_M_drag na S p1 p2 p3) : z_Run rm_M_drag zm_M_drag [z_r 78, .inl p1, .inl p2, .inl p3] (zW T' G' S n) (fun v w' => ∃ T2 G2 n2, zGr T' G' n T2 G2 n2 ∧ v = some (.inl (F_M_drag na S p1 p2 p3).1 : z_V) ∧ w' = zW T2 G2 (F_M_drag na S p1 p2 p3).2 n2) := by
  refine z_body (by decide) zf_M_ok (Nat.le_of_ble_eq_true rfl) (fun X M => ?_)
  obtain ⟨Q, hQ, K⟩ : ∃ Q : (Int32 × (Nat → Nat → Int32)) → Prop, (∀ (v : Int32) S' T2 G2 n2, zGr T' G' n T2 G2 n2 → Q (v, S') → (fun v w' => ∃ T2 G2 n2, zGr T' G' n T2 G2 n2 ∧ v = some (.inl (F_M_drag na S p1 p2 p3).1 : z_V) ∧ w' = zW T2 G2 (F_M_drag na S p1 p2 p3).2 n2) (some (.inl v : z_V)) (zW T2 G2 S' n2)) ∧ Q (F_M_drag na S p1 p2 p3) := ⟨fun o => F_M_drag na S p1 p2 p3 = o, fun v S' T2 G2 n2 hg h => ⟨T2, G2, n2, hg, by rw [h], by rw [h]⟩, rfl⟩
  have hg : zGr T' G' n T' G' n := zGr.rfl hn
  show z_G X zm_M_drag (0, [(0, z_r 78), (1, .inl p1), (2, .inl p2), (3, .inl p3)], [], zW T' G' S n, 0, 0)
  unfold F_M_drag at K
  unfold Sf_M_drag at hs
  refine z_go2 M.1 0 [(.aload_n 0, 1), (.aload_n 0, 1), (.iload_n 1, 1), (.iload_n 2, 1)] (4, [(0, z_r 78), (1, .inl p1), (2, .inl p2), (3, .inl p3)], [.inl p2, .inl p1, z_r 78, z_r 78], zW T' G' S n, 0, 0) (by decide +kernel) rfl ⟨trivial, trivial, trivial, trivial, trivial⟩ ?_
  refine z_callV M.1 (av := [.inl p1, .inl p2]) (st := [z_r 78]) (a := 78) (ci := 14) (by decide +kernel) (c_M_isSeen T' G' S n p1 p2 hs.1) M.2.1 zl_M_336 zv_M_isSeen rfl rfl rfl ⟨by decide, by decide, by decide, by decide⟩ rfl (Nat.le_of_ble_eq_true rfl) (fun v w' hv => ?_)
  obtain ⟨rfl, rfl⟩ := hv
  replace hs := hs.2
  show z_G X zm_M_drag (7, [(0, z_r 78), (1, .inl p1), (2, .inl p2), (3, .inl p3)], [.inl (F_M_isSeen S p1 p2), z_r 78], zW T' G' S n, 0, 0)
  refine z_if_eq 19 M.1 (off := 12) (by decide +kernel) (by decide) (fun c7 => ?_) (fun c7 => ?_)
  · rw [if_pos c7] at K hs
    exact z_lvs (lv' := [(0, z_r 78), (2, .inl p2), (3, .inl p3)]) [0, 2, 3] rfl (t_M_drag_j19 M na hna hg S p2 p3 hQ K hs)
  · rw [if_neg c7] at K hs
    refine z_go2 M.1 10 [(.aload_n 0, 1), (.iload_n 1, 1), (.iload_n 3, 1)] (13, [(0, z_r 78), (1, .inl p1), (2, .inl p2), (3, .inl p3)], [.inl p3, .inl p1, z_r 78, z_r 78], zW T' G' S n, 0, 0) (by decide +kernel) rfl ⟨trivial, trivial, trivial, trivial⟩ ?_
    refine z_callV M.1 (av := [.inl p1, .inl p3]) (st := [z_r 78]) (a := 78) (ci := 14) (by decide +kernel) (c_M_isSeen T' G' S n p1 p3 hs.1) M.2.1 zl_M_336 zv_M_isSeen rfl rfl rfl ⟨by decide, by decide, by decide, by decide⟩ rfl (Nat.le_of_ble_eq_true rfl) (fun v w' hv => ?_)
    obtain ⟨rfl, rfl⟩ := hv
    replace hs := hs.2
    show z_G X zm_M_drag (16, [(0, z_r 78), (1, .inl p1), (2, .inl p2), (3, .inl p3)], [.inl (F_M_isSeen S p1 p3), z_r 78], zW T' G' S n, 0, 0)
    refine z_if_ne 23 M.1 (off := 7) (by decide +kernel) (by decide) (fun c16 => ?_) (fun c16 => ?_)
    · rw [if_neg c16] at K hs
      refine z_go2 M.1 23 [(.iload_n 2, 1), (.iload_n 3, 1)] (25, [(0, z_r 78), (1, .inl p1), (2, .inl p2), (3, .inl p3)], [.inl p3, .inl p2, z_r 78], zW T' G' S n, 0, 0) (by decide +kernel) rfl ⟨trivial, trivial, trivial⟩ ?_
      refine z_icmp_ne 32 M.1 (off := 7) (by decide +kernel) (by decide) (fun c25 => ?_) (fun c25 => ?_)
      · rw [if_neg c25] at K hs
        refine z_go2 M.1 32 [(.aload_n 0, 1), (.aload_n 0, 1), (.getfield 34, 3), (.iload_n 1, 1), (.iload_n 2, 1)] (39, [(0, z_r 78), (1, .inl p1), (2, .inl p2), (3, .inl p3)], [.inl p2, .inl p1, z_r 86, z_r 78, z_r 78], zW T' G' S n, 0, 0) (by decide +kernel) rfl ⟨trivial, trivial, rfl, trivial, trivial, trivial⟩ ?_
        refine z_callV M.1 (av := [z_r 86, .inl p1, .inl p2]) (st := [z_r 78]) (a := 78) (ci := 14) (by decide +kernel) (c_M_edits_86 T' G' S n p1 p2 hs.1) M.2.1 zl_M_340 zv_M_edits rfl rfl rfl ⟨by decide, by decide, by decide, by decide⟩ rfl (Nat.le_of_ble_eq_true rfl) (fun v w' hv => ?_)
        obtain ⟨rfl, rfl⟩ := hv
        replace hs := hs.2
        show z_G X zm_M_drag (42, [(0, z_r 78), (1, .inl p1), (2, .inl p2), (3, .inl p3)], [.inl (F_M_edits 86 S p1 p2), z_r 78], zW T' G' S n, 0, 0)
        refine z_if_eq 49 M.1 (off := 7) (by decide +kernel) (by decide) (fun c42 => ?_) (fun c42 => ?_)
        · rw [if_pos c42] at K hs
          refine z_go2 M.1 49 [(.iconst 3, 1)] (50, [(0, z_r 78), (1, .inl p1), (2, .inl p2), (3, .inl p3)], [.inl 3, z_r 78], zW T' G' S n, 0, 0) (by decide +kernel) rfl ⟨trivial, trivial⟩ ?_
          exact z_lvs (lv' := [(0, z_r 78), (2, .inl p2), (3, .inl p3)]) [0, 2, 3] rfl (t_M_drag_j50 M na hna hg S p2 p3 3 hQ K hs)
        · rw [if_neg c42] at K hs
          refine z_go2 M.1 45 [(.iconst 0, 1), (.goto 4, 3)] (50, [(0, z_r 78), (1, .inl p1), (2, .inl p2), (3, .inl p3)], [.inl 0, z_r 78], zW T' G' S n, 0, 0) (by decide +kernel) rfl ⟨trivial, trivial, trivial⟩ ?_
          exact z_lvs (lv' := [(0, z_r 78), (2, .inl p2), (3, .inl p3)]) [0, 2, 3] rfl (t_M_drag_j50 M na hna hg S p2 p3 0 hQ K hs)
      · rw [if_pos c25] at K hs
        refine z_go2 M.1 28 [(.iconst 2, 1), (.goto 21, 3)] (50, [(0, z_r 78), (1, .inl p1), (2, .inl p2), (3, .inl p3)], [.inl 2, z_r 78], zW T' G' S n, 0, 0) (by decide +kernel) rfl ⟨trivial, trivial, trivial⟩ ?_
        exact z_lvs (lv' := [(0, z_r 78), (2, .inl p2), (3, .inl p3)]) [0, 2, 3] rfl (t_M_drag_j50 M na hna hg S p2 p3 2 hQ K hs)
    · rw [if_pos c16] at K hs
      exact z_lvs (lv' := [(0, z_r 78), (2, .inl p2), (3, .inl p3)]) [0, 2, 3] rfl (t_M_drag_j19 M na hna hg S p2 p3 hQ K hs)

