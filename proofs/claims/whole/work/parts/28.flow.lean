/-! THE REFERENCE's WORKFLOWS: their cells are made anew when a draft is published; fl says where each kind's lies -/
def zFo (T' : Nat → Nat × Nat) (G' : Nat → Nat → Option Nat) (f : Nat) : Prop :=
  zT T' f = (1, 12) ∧ (∀ i, 1 ≤ i → i < 7 → zT T' (f + i) = (2, 8)) ∧ zT T' (f + 7) = (2, 6) ∧ ∀ j, 2 ≤ j → j < 9 → zG G' f j = some (f + (j - 1))
theorem zFo.t {T' : Nat → Nat × Nat} {G' : Nat → Nat → Option Nat} {f : Nat} (h : zFo T' G' f) : zT T' f = (1, 12) := h.1
theorem zFo.a {T' : Nat → Nat × Nat} {G' : Nat → Nat → Option Nat} {f : Nat} (h : zFo T' G' f) (i : Nat) (h1 : 1 ≤ i) (h2 : i < 7) : zT T' (f + i) = (2, 8) := h.2.1 i h1 h2
theorem zFo.m {T' : Nat → Nat × Nat} {G' : Nat → Nat → Option Nat} {f : Nat} (h : zFo T' G' f) : zT T' (f + 7) = (2, 6) := h.2.2.1
theorem zFo.g {T' : Nat → Nat × Nat} {G' : Nat → Nat → Option Nat} {f : Nat} (h : zFo T' G' f) (j : Nat) (h1 : 2 ≤ j) (h2 : j < 9) : zG G' f j = some (f + (j - 1)) := h.2.2.2 j h1 h2
theorem zFo_st (T' : Nat → Nat × Nat) (G' : Nat → Nat → Option Nat) (f : Nat) (h : f = 132 ∨ f = 140 ∨ f = 148 ∨ f = 156) : zFo T' G' f := by
  have six : ∀ i, 1 ≤ i → i < 7 → i = 1 ∨ i = 2 ∨ i = 3 ∨ i = 4 ∨ i = 5 ∨ i = 6 := fun i h1 h2 => by omega
  have sev : ∀ j, 2 ≤ j → j < 9 → j = 2 ∨ j = 3 ∨ j = 4 ∨ j = 5 ∨ j = 6 ∨ j = 7 ∨ j = 8 := fun i h1 h2 => by omega
  rcases h with rfl | rfl | rfl | rfl
  all_goals
    refine ⟨rfl, fun i h1 h2 => ?_, rfl, fun j h1 h2 => ?_⟩
    · rcases six i h1 h2 with rfl | rfl | rfl | rfl | rfl | rfl <;> rfl
    · rcases sev j h1 h2 with rfl | rfl | rfl | rfl | rfl | rfl | rfl <;> rfl
/-- the workflows lie where fl says, below n -/
def zOK (T' : Nat → Nat × Nat) (G' : Nat → Nat → Option Nat) (fl : Nat → Nat) (n : Nat) : Prop := 194 ≤ n ∧ ∀ k, k < 3 → zG G' 131 k = some (fl k) ∧ zFo T' G' (fl k) ∧ fl k + 7 < n
theorem zOK.fl {T' : Nat → Nat × Nat} {G' : Nat → Nat → Option Nat} {fl : Nat → Nat} {n : Nat} (h : zOK T' G' fl n) {k : Nat} (hk : k < 3) : zG G' 131 k = some (fl k) ∧ zFo T' G' (fl k) := ⟨(h.2 k hk).1, (h.2 k hk).2.1⟩
theorem z_in3 {i : Int32} (h : vp_in i 3) : i.toNatClampNeg < 3 := by
  unfold vp_in at h
  omega
abbrev z_letN {α : Sort _} (a : Nat) (f : Nat → α) : α := f a
section Z28
variable {X : z_X} {Y : z_Y} {pc nc ns idx : Nat} {lv : List (Nat × z_V)} {st : List z_V} {w : z_W}
theorem z_getR {ci j a r : Nat} (C : z_C X Y) (hd : decode Y.2.1 pc = .ok (.getfield idx, 3)) (hf : (idx, ci, j, 5) ∈ Y.2.2.2.2) (hT : w.1 a = (1, ci)) (hg : w.2.1 a j = some r) (k : z_G X Y (pc + 3, lv, z_r r :: st, w, nc, ns)) : z_G X Y (pc, lv, z_r a :: st, w, nc, ns) := by
  refine z_get C hd hf hT ?_
  rw [hg]
  exact k
theorem z_getI {ci j a : Nat} {x : Int32} (C : z_C X Y) (hd : decode Y.2.1 pc = .ok (.getfield idx, 3)) (hf : (idx, ci, j, 0) ∈ Y.2.2.2.2) (hT : w.1 a = (1, ci)) (hx : w.2.2.1 a j = x) (k : z_G X Y (pc + 3, lv, .inl x :: st, w, nc, ns)) : z_G X Y (pc, lv, z_r a :: st, w, nc, ns) := by
  subst hx
  exact z_get C hd hf hT k
theorem z_putI {ci j a : Nat} {x : Int32} (C : z_C X Y) (hd : decode Y.2.1 pc = .ok (.putfield idx, 3)) (hf : (idx, ci, j, 0) ∈ Y.2.2.2.2) (hT : w.1 a = (1, ci)) (k : z_G X Y (pc + 3, lv, st, (w.1, w.2.1, z_uS w.2.2.1 a j x, w.2.2.2), nc, ns)) : z_G X Y (pc, lv, .inl x :: z_r a :: st, w, nc, ns) :=
  z_put C hd hf hT trivial k
theorem z_ialD {a len : Nat} {i x : Int32} (C : z_C X Y) (hd : decode Y.2.1 pc = .ok (.iaload, 1)) (hT : w.1 a = (2, len)) (hin : vp_in i len) (hx : w.2.2.1 a i.toNatClampNeg = x) (k : z_G X Y (pc + 1, lv, .inl x :: st, w, nc, ns)) : z_G X Y (pc, lv, .inl i :: z_r a :: st, w, nc, ns) := by
  subst hx
  exact z_iald C hd hT hin k
theorem z_aalF {a len r : Nat} {i : Int32} (C : z_C X Y) (hd : decode Y.2.1 pc = .ok (.aaload, 1)) (hT : w.1 a = (6, len)) (hin : vp_in i len) (hg : w.2.1 a i.toNatClampNeg = some r) (k : z_G X Y (pc + 1, lv, z_r r :: st, w, nc, ns)) : z_G X Y (pc, lv, .inl i :: z_r a :: st, w, nc, ns) := by
  refine z_aald C hd hT hin ?_
  rw [hg]
  exact k
end Z28
/-- the reading of a query, below: what it does, where it is safe -/
def zRq (dq : Nat) (rq : (Nat → Nat → Int32) → Int32 × (Nat → Nat → Int32)) (sq : (Nat → Nat → Int32) → Prop) : Prop :=
  ∀ (T' : Nat → Nat × Nat) (G' : Nat → Nat → Option Nat) (n : Nat) (S : Nat → Nat → Int32), sq S → z_Run (zr dq) zm_M_query [z_r 78] (zW T' G' S n) (zq (some (.inl (rq S).1)) (zW T' G' (rq S).2 n))
