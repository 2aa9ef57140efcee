/-! THE LAW: one call of each -/
abbrev zm_law : z_Y := (x, code, 7, some .boolean, [])
abbrev zbX (X : z_X) : z_B := X.2.2.2.2.2.2.2.2.2.2.2.2.2.2
section Z37
variable {X : z_X} {Y : z_Y} {pc nc ns idx : Nat} {lv : List (Nat × z_V)} {st : List z_V} {w : z_W}
theorem z_sld {i v : Int32} (C : z_C X Y) (hd : decode Y.2.1 pc = .ok (.iaload, 1)) (hin : vp_in i (zbX X).2.1) (hv : (zbX X).2.2 i.toNatClampNeg = v) (k : z_G X Y (pc + 1, lv, .inl v :: st, w, nc, ns)) : z_G X Y (pc, lv, .inl i :: z_s :: st, w, nc, ns) := by
  obtain ⟨p, l, e, R, s, m, args, below, meth, c, Q, D, cA, N0, b⟩ := X
  obtain ⟨y0, bs, nL, ret, ft⟩ := Y
  obtain ⟨hx, hb, hml, hown, hts, henv, hlk, hrt, hnm, hft, htr, hN0⟩ := C
  intro H locs ls hR hS hl
  subst hv
  exact va_ti hx hb henv.2.2.2.2.2.2.2 hS hin rfl hd (k H locs ls hR hS hl)
theorem z_slen {v : Int32} (C : z_C X Y) (hd : decode Y.2.1 pc = .ok (.arraylength, 1)) (hv : Int32.ofNat (zbX X).2.1 = v) (k : z_G X Y (pc + 1, lv, .inl v :: st, w, nc, ns)) : z_G X Y (pc, lv, z_s :: st, w, nc, ns) := by
  obtain ⟨p, l, e, R, s, m, args, below, meth, c, Q, D, cA, N0, b⟩ := X
  obtain ⟨y0, bs, nL, ret, ft⟩ := Y
  obtain ⟨hx, hb, hml, hown, hts, henv, hlk, hrt, hnm, hft, htr, hN0⟩ := C
  intro H locs ls hR hS hl
  exact va_tlen hx hb henv.2.2.2.2.2.2.2 hS hv hd (k H locs ls hR hS hl)
end Z37
/-- the ints of a block -/
def zArg (X : z_X) (i a1 a2 a3 a4 a5 a6 : Int32) : Prop :=
  (vp_in (i + 1) (zbX X).2.1 ∧ (zbX X).2.2 (i + 1).toNatClampNeg = a1) ∧ (vp_in (i + 2) (zbX X).2.1 ∧ (zbX X).2.2 (i + 2).toNatClampNeg = a2) ∧ (vp_in (i + 3) (zbX X).2.1 ∧ (zbX X).2.2 (i + 3).toNatClampNeg = a3) ∧
  (vp_in (i + 4) (zbX X).2.1 ∧ (zbX X).2.2 (i + 4).toNatClampNeg = a4) ∧ (vp_in (i + 5) (zbX X).2.1 ∧ (zbX X).2.2 (i + 5).toNatClampNeg = a5) ∧ (vp_in (i + 6) (zbX X).2.1 ∧ (zbX X).2.2 (i + 6).toNatClampNeg = a6)
theorem zArg.g1 {X : z_X} {i a1 a2 a3 a4 a5 a6 : Int32} (h : zArg X i a1 a2 a3 a4 a5 a6) : vp_in (i + 1) (zbX X).2.1 ∧ (zbX X).2.2 (i + 1).toNatClampNeg = a1 := h.1
theorem zArg.g2 {X : z_X} {i a1 a2 a3 a4 a5 a6 : Int32} (h : zArg X i a1 a2 a3 a4 a5 a6) : vp_in (i + 2) (zbX X).2.1 ∧ (zbX X).2.2 (i + 2).toNatClampNeg = a2 := h.2.1
theorem zArg.g3 {X : z_X} {i a1 a2 a3 a4 a5 a6 : Int32} (h : zArg X i a1 a2 a3 a4 a5 a6) : vp_in (i + 3) (zbX X).2.1 ∧ (zbX X).2.2 (i + 3).toNatClampNeg = a3 := h.2.2.1
theorem zArg.g4 {X : z_X} {i a1 a2 a3 a4 a5 a6 : Int32} (h : zArg X i a1 a2 a3 a4 a5 a6) : vp_in (i + 4) (zbX X).2.1 ∧ (zbX X).2.2 (i + 4).toNatClampNeg = a4 := h.2.2.2.1
theorem zArg.g5 {X : z_X} {i a1 a2 a3 a4 a5 a6 : Int32} (h : zArg X i a1 a2 a3 a4 a5 a6) : vp_in (i + 5) (zbX X).2.1 ∧ (zbX X).2.2 (i + 5).toNatClampNeg = a5 := h.2.2.2.2.1
theorem zArg.g6 {X : z_X} {i a1 a2 a3 a4 a5 a6 : Int32} (h : zArg X i a1 a2 a3 a4 a5 a6) : vp_in (i + 6) (zbX X).2.1 ∧ (zbX X).2.2 (i + 6).toNatClampNeg = a6 := h.2.2.2.2.2
abbrev zLV (i : Int32) : List (Nat × z_V) := [(0, z_s), (1, z_r 0), (2, z_r 78), (3, z_r 193), (4, .inl i)]
theorem zOK.le {T' : Nat → Nat × Nat} {G' : Nat → Nat → Option Nat} {fl : Nat → Nat} {n n2 : Nat} (h : zOK T' G' fl n) (hn : n ≤ n2) : zOK T' G' fl n2 := by
  have h1 := h.1
  refine ⟨by omega, fun k hk => ⟨(h.2 k hk).1, (h.2 k hk).2.1, ?_⟩⟩
  have := (h.2 k hk).2.2
  omega
theorem zFo.sg {T' : Nat → Nat × Nat} {G1 G2 : Nat → Nat → Option Nat} {f : Nat} (h : zFo T' G1 f) (hg : zG G2 f = zG G1 f) : zFo T' G2 f := ⟨h.1, h.2.1, h.2.2.1, fun j h1 h2 => by rw [hg]; exact h.2.2.2 j h1 h2⟩
theorem zFo.ne36 {T' : Nat → Nat × Nat} {G' : Nat → Nat → Option Nat} {f : Nat} (h : zFo T' G' f) : f ≠ 36 := by
  rintro rfl
  have h1 : ((1, 8) : Nat × Nat) = (1, 12) := h.1
  exact absurd h1 (by decide)
theorem zwG_ne (G' : Nat → Nat → Option Nat) (q : Nat) {k : Nat} (hk : k ≠ 36) : zG (zwG G' q) k = zG G' k := by
  funext j
  unfold zG
  have : zwG G' q k j = G' k j := by simp [zwG, hk]
  rw [this]
/-- the sight's world is no workflow's business -/
theorem zOK.q {T' : Nat → Nat × Nat} {G' : Nat → Nat → Option Nat} {fl : Nat → Nat} {n q : Nat} (h : zOK T' (zwG G' q) fl n) (q2 : Nat) : zOK T' (zwG G' q2) fl n :=
  ⟨h.1, fun k hk => ⟨by rw [zwG_ne _ _ (by decide), ← zwG_ne G' q (by decide)]; exact (h.2 k hk).1, ((h.2 k hk).2.1).sg (by rw [zwG_ne _ _ ((h.2 k hk).2.1).ne36, zwG_ne _ _ ((h.2 k hk).2.1).ne36]), (h.2 k hk).2.2⟩⟩
theorem zwG_self {G2 : Nat → Nat → Option Nat} {q : Nat} (h : zG G2 36 7 = some q) : zG (zwG G2 q) = zG G2 := by
  funext k
  by_cases hk : k = 36
  · subst hk
    funext j
    by_cases hj : j = 7
    · subst hj; rw [h]; rfl
    · unfold zG
      have : zwG G2 q 36 j = G2 36 j := by simp [zwG, hj]
      rw [this]
  · exact zwG_ne _ _ hk
theorem lg_cmp_self (x : Int64) : lg_cmp x x = 0 := by
  unfold lg_cmp
  simp
