theorem z_if_eq {X : z_X} {Y : z_Y} {pc nc ns : Nat} {lv : List (Nat × z_V)} {st : List z_V} {w : z_W} {x : Int32} {off : Int} (tgt : Nat) (C : z_C X Y) (hd : decode Y.2.1 pc = .ok (.ifCond .eq off, 3)) (ht : (pc : Int) + off = (tgt : Int)) (kt : x = 0 → z_G X Y (tgt, lv, st, w, nc, ns)) (kf : ¬ x = 0 → z_G X Y (pc + 3, lv, st, w, nc, ns)) : z_G X Y (pc, lv, .inl x :: st, w, nc, ns) := by
  obtain ⟨p, l, e, R, s, m, args, below, meth, c, Q, D, cA, N0, b⟩ := X
  obtain ⟨y0, bs, nL, ret, ft⟩ := Y
  obtain ⟨hx, hb, hml, hown, hts, henv, hlk, hrt, hnm, hft, htr, hN0⟩ := C
  intro H locs ls hR hS hl
  exact lv_if_eq hx hb hd ht (fun h => kt h H locs ls hR hS hl) (fun h => kf h H locs ls hR hS hl)

theorem z_if_ne {X : z_X} {Y : z_Y} {pc nc ns : Nat} {lv : List (Nat × z_V)} {st : List z_V} {w : z_W} {x : Int32} {off : Int} (tgt : Nat) (C : z_C X Y) (hd : decode Y.2.1 pc = .ok (.ifCond .ne off, 3)) (ht : (pc : Int) + off = (tgt : Int)) (kt : ¬ x = 0 → z_G X Y (tgt, lv, st, w, nc, ns)) (kf : x = 0 → z_G X Y (pc + 3, lv, st, w, nc, ns)) : z_G X Y (pc, lv, .inl x :: st, w, nc, ns) := by
  obtain ⟨p, l, e, R, s, m, args, below, meth, c, Q, D, cA, N0, b⟩ := X
  obtain ⟨y0, bs, nL, ret, ft⟩ := Y
  obtain ⟨hx, hb, hml, hown, hts, henv, hlk, hrt, hnm, hft, htr, hN0⟩ := C
  intro H locs ls hR hS hl
  exact lv_if_ne hx hb hd ht (fun h => kt h H locs ls hR hS hl) (fun h => kf h H locs ls hR hS hl)

theorem z_if_lt {X : z_X} {Y : z_Y} {pc nc ns : Nat} {lv : List (Nat × z_V)} {st : List z_V} {w : z_W} {x : Int32} {off : Int} (tgt : Nat) (C : z_C X Y) (hd : decode Y.2.1 pc = .ok (.ifCond .lt off, 3)) (ht : (pc : Int) + off = (tgt : Int)) (kt : x < 0 → z_G X Y (tgt, lv, st, w, nc, ns)) (kf : ¬ x < 0 → z_G X Y (pc + 3, lv, st, w, nc, ns)) : z_G X Y (pc, lv, .inl x :: st, w, nc, ns) := by
  obtain ⟨p, l, e, R, s, m, args, below, meth, c, Q, D, cA, N0, b⟩ := X
  obtain ⟨y0, bs, nL, ret, ft⟩ := Y
  obtain ⟨hx, hb, hml, hown, hts, henv, hlk, hrt, hnm, hft, htr, hN0⟩ := C
  intro H locs ls hR hS hl
  exact lv_if_lt hx hb hd ht (fun h => kt h H locs ls hR hS hl) (fun h => kf h H locs ls hR hS hl)

theorem z_if_ge {X : z_X} {Y : z_Y} {pc nc ns : Nat} {lv : List (Nat × z_V)} {st : List z_V} {w : z_W} {x : Int32} {off : Int} (tgt : Nat) (C : z_C X Y) (hd : decode Y.2.1 pc = .ok (.ifCond .ge off, 3)) (ht : (pc : Int) + off = (tgt : Int)) (kt : 0 ≤ x → z_G X Y (tgt, lv, st, w, nc, ns)) (kf : ¬ 0 ≤ x → z_G X Y (pc + 3, lv, st, w, nc, ns)) : z_G X Y (pc, lv, .inl x :: st, w, nc, ns) := by
  obtain ⟨p, l, e, R, s, m, args, below, meth, c, Q, D, cA, N0, b⟩ := X
  obtain ⟨y0, bs, nL, ret, ft⟩ := Y
  obtain ⟨hx, hb, hml, hown, hts, henv, hlk, hrt, hnm, hft, htr, hN0⟩ := C
  intro H locs ls hR hS hl
  exact lv_if_ge hx hb hd ht (fun h => kt h H locs ls hR hS hl) (fun h => kf h H locs ls hR hS hl)

theorem z_if_gt {X : z_X} {Y : z_Y} {pc nc ns : Nat} {lv : List (Nat × z_V)} {st : List z_V} {w : z_W} {x : Int32} {off : Int} (tgt : Nat) (C : z_C X Y) (hd : decode Y.2.1 pc = .ok (.ifCond .gt off, 3)) (ht : (pc : Int) + off = (tgt : Int)) (kt : 0 < x → z_G X Y (tgt, lv, st, w, nc, ns)) (kf : ¬ 0 < x → z_G X Y (pc + 3, lv, st, w, nc, ns)) : z_G X Y (pc, lv, .inl x :: st, w, nc, ns) := by
  obtain ⟨p, l, e, R, s, m, args, below, meth, c, Q, D, cA, N0, b⟩ := X
  obtain ⟨y0, bs, nL, ret, ft⟩ := Y
  obtain ⟨hx, hb, hml, hown, hts, henv, hlk, hrt, hnm, hft, htr, hN0⟩ := C
  intro H locs ls hR hS hl
  exact lv_if_gt hx hb hd ht (fun h => kt h H locs ls hR hS hl) (fun h => kf h H locs ls hR hS hl)

theorem z_if_le {X : z_X} {Y : z_Y} {pc nc ns : Nat} {lv : List (Nat × z_V)} {st : List z_V} {w : z_W} {x : Int32} {off : Int} (tgt : Nat) (C : z_C X Y) (hd : decode Y.2.1 pc = .ok (.ifCond .le off, 3)) (ht : (pc : Int) + off = (tgt : Int)) (kt : x ≤ 0 → z_G X Y (tgt, lv, st, w, nc, ns)) (kf : ¬ x ≤ 0 → z_G X Y (pc + 3, lv, st, w, nc, ns)) : z_G X Y (pc, lv, .inl x :: st, w, nc, ns) := by
  obtain ⟨p, l, e, R, s, m, args, below, meth, c, Q, D, cA, N0, b⟩ := X
  obtain ⟨y0, bs, nL, ret, ft⟩ := Y
  obtain ⟨hx, hb, hml, hown, hts, henv, hlk, hrt, hnm, hft, htr, hN0⟩ := C
  intro H locs ls hR hS hl
  exact lv_if_le hx hb hd ht (fun h => kt h H locs ls hR hS hl) (fun h => kf h H locs ls hR hS hl)

theorem z_icmp_eq {X : z_X} {Y : z_Y} {pc nc ns : Nat} {lv : List (Nat × z_V)} {st : List z_V} {w : z_W} {x y : Int32} {off : Int} (tgt : Nat) (C : z_C X Y) (hd : decode Y.2.1 pc = .ok (.if_icmp .eq off, 3)) (ht : (pc : Int) + off = (tgt : Int)) (kt : x = y → z_G X Y (tgt, lv, st, w, nc, ns)) (kf : ¬ x = y → z_G X Y (pc + 3, lv, st, w, nc, ns)) : z_G X Y (pc, lv, .inl y :: .inl x :: st, w, nc, ns) := by
  obtain ⟨p, l, e, R, s, m, args, below, meth, c, Q, D, cA, N0, b⟩ := X
  obtain ⟨y0, bs, nL, ret, ft⟩ := Y
  obtain ⟨hx, hb, hml, hown, hts, henv, hlk, hrt, hnm, hft, htr, hN0⟩ := C
  intro H locs ls hR hS hl
  exact lv_icmp_eq hx hb hd ht (fun h => kt h H locs ls hR hS hl) (fun h => kf h H locs ls hR hS hl)

theorem z_icmp_ne {X : z_X} {Y : z_Y} {pc nc ns : Nat} {lv : List (Nat × z_V)} {st : List z_V} {w : z_W} {x y : Int32} {off : Int} (tgt : Nat) (C : z_C X Y) (hd : decode Y.2.1 pc = .ok (.if_icmp .ne off, 3)) (ht : (pc : Int) + off = (tgt : Int)) (kt : ¬ x = y → z_G X Y (tgt, lv, st, w, nc, ns)) (kf : x = y → z_G X Y (pc + 3, lv, st, w, nc, ns)) : z_G X Y (pc, lv, .inl y :: .inl x :: st, w, nc, ns) := by
  obtain ⟨p, l, e, R, s, m, args, below, meth, c, Q, D, cA, N0, b⟩ := X
  obtain ⟨y0, bs, nL, ret, ft⟩ := Y
  obtain ⟨hx, hb, hml, hown, hts, henv, hlk, hrt, hnm, hft, htr, hN0⟩ := C
  intro H locs ls hR hS hl
  exact lv_icmp_ne hx hb hd ht (fun h => kt h H locs ls hR hS hl) (fun h => kf h H locs ls hR hS hl)

theorem z_icmp_lt {X : z_X} {Y : z_Y} {pc nc ns : Nat} {lv : List (Nat × z_V)} {st : List z_V} {w : z_W} {x y : Int32} {off : Int} (tgt : Nat) (C : z_C X Y) (hd : decode Y.2.1 pc = .ok (.if_icmp .lt off, 3)) (ht : (pc : Int) + off = (tgt : Int)) (kt : x < y → z_G X Y (tgt, lv, st, w, nc, ns)) (kf : ¬ x < y → z_G X Y (pc + 3, lv, st, w, nc, ns)) : z_G X Y (pc, lv, .inl y :: .inl x :: st, w, nc, ns) := by
  obtain ⟨p, l, e, R, s, m, args, below, meth, c, Q, D, cA, N0, b⟩ := X
  obtain ⟨y0, bs, nL, ret, ft⟩ := Y
  obtain ⟨hx, hb, hml, hown, hts, henv, hlk, hrt, hnm, hft, htr, hN0⟩ := C
  intro H locs ls hR hS hl
  exact lv_icmp_lt hx hb hd ht (fun h => kt h H locs ls hR hS hl) (fun h => kf h H locs ls hR hS hl)

theorem z_icmp_ge {X : z_X} {Y : z_Y} {pc nc ns : Nat} {lv : List (Nat × z_V)} {st : List z_V} {w : z_W} {x y : Int32} {off : Int} (tgt : Nat) (C : z_C X Y) (hd : decode Y.2.1 pc = .ok (.if_icmp .ge off, 3)) (ht : (pc : Int) + off = (tgt : Int)) (kt : y ≤ x → z_G X Y (tgt, lv, st, w, nc, ns)) (kf : ¬ y ≤ x → z_G X Y (pc + 3, lv, st, w, nc, ns)) : z_G X Y (pc, lv, .inl y :: .inl x :: st, w, nc, ns) := by
  obtain ⟨p, l, e, R, s, m, args, below, meth, c, Q, D, cA, N0, b⟩ := X
  obtain ⟨y0, bs, nL, ret, ft⟩ := Y
  obtain ⟨hx, hb, hml, hown, hts, henv, hlk, hrt, hnm, hft, htr, hN0⟩ := C
  intro H locs ls hR hS hl
  exact lv_icmp_ge hx hb hd ht (fun h => kt h H locs ls hR hS hl) (fun h => kf h H locs ls hR hS hl)

theorem z_icmp_gt {X : z_X} {Y : z_Y} {pc nc ns : Nat} {lv : List (Nat × z_V)} {st : List z_V} {w : z_W} {x y : Int32} {off : Int} (tgt : Nat) (C : z_C X Y) (hd : decode Y.2.1 pc = .ok (.if_icmp .gt off, 3)) (ht : (pc : Int) + off = (tgt : Int)) (kt : y < x → z_G X Y (tgt, lv, st, w, nc, ns)) (kf : ¬ y < x → z_G X Y (pc + 3, lv, st, w, nc, ns)) : z_G X Y (pc, lv, .inl y :: .inl x :: st, w, nc, ns) := by
  obtain ⟨p, l, e, R, s, m, args, below, meth, c, Q, D, cA, N0, b⟩ := X
  obtain ⟨y0, bs, nL, ret, ft⟩ := Y
  obtain ⟨hx, hb, hml, hown, hts, henv, hlk, hrt, hnm, hft, htr, hN0⟩ := C
  intro H locs ls hR hS hl
  exact lv_icmp_gt hx hb hd ht (fun h => kt h H locs ls hR hS hl) (fun h => kf h H locs ls hR hS hl)

theorem z_icmp_le {X : z_X} {Y : z_Y} {pc nc ns : Nat} {lv : List (Nat × z_V)} {st : List z_V} {w : z_W} {x y : Int32} {off : Int} (tgt : Nat) (C : z_C X Y) (hd : decode Y.2.1 pc = .ok (.if_icmp .le off, 3)) (ht : (pc : Int) + off = (tgt : Int)) (kt : x ≤ y → z_G X Y (tgt, lv, st, w, nc, ns)) (kf : ¬ x ≤ y → z_G X Y (pc + 3, lv, st, w, nc, ns)) : z_G X Y (pc, lv, .inl y :: .inl x :: st, w, nc, ns) := by
  obtain ⟨p, l, e, R, s, m, args, below, meth, c, Q, D, cA, N0, b⟩ := X
  obtain ⟨y0, bs, nL, ret, ft⟩ := Y
  obtain ⟨hx, hb, hml, hown, hts, henv, hlk, hrt, hnm, hft, htr, hN0⟩ := C
  intro H locs ls hR hS hl
  exact lv_icmp_le hx hb hd ht (fun h => kt h H locs ls hR hS hl) (fun h => kf h H locs ls hR hS hl)

theorem z_lookup {X : z_X} {Y : z_Y} {pc nc ns : Nat} {lv : List (Nat × z_V)} {st : List z_V} {w : z_W} {dflt : Int} {ps : Array (Int × Int)} {len : Nat} {x : Int32} {off : Int} (tgt : Nat) (C : z_C X Y) (hd : decode Y.2.1 pc = .ok (.lookupswitch dflt ps, len)) (hp : (ps.toList.zip (ps.toList.drop 1)).all (fun (a, next) => a.1 < next.1) = true) (ho : Op.lookupswitch.offset ps.toList dflt x.toInt = off) (ht : (pc : Int) + off = (tgt : Int)) (k : z_G X Y (tgt, lv, st, w, nc, ns)) : z_G X Y (pc, lv, .inl x :: st, w, nc, ns) := by
  obtain ⟨p, l, e, R, s, m, args, below, meth, c, Q, D, cA, N0, b⟩ := X
  obtain ⟨y0, bs, nL, ret, ft⟩ := Y
  obtain ⟨hx, hb, hml, hown, hts, henv, hlk, hrt, hnm, hft, htr, hN0⟩ := C
  intro H locs ls hR hS hl
  exact lv_lookup hx hb hd hp ho ht (k H locs ls hR hS hl)

theorem z_tableOut {X : z_X} {Y : z_Y} {pc nc ns : Nat} {lv : List (Nat × z_V)} {st : List z_V} {w : z_W} {dflt lo hi : Int} {offs : Array Int} {len : Nat} {x : Int32} (tgt : Nat) (C : z_C X Y) (hd : decode Y.2.1 pc = .ok (.tableswitch dflt lo hi offs, len)) (h : x.toInt < lo ∨ hi < x.toInt) (ht : (pc : Int) + dflt = (tgt : Int)) (k : z_G X Y (tgt, lv, st, w, nc, ns)) : z_G X Y (pc, lv, .inl x :: st, w, nc, ns) := by
  obtain ⟨p, l, e, R, s, m, args, below, meth, c, Q, D, cA, N0, b⟩ := X
  obtain ⟨y0, bs, nL, ret, ft⟩ := Y
  obtain ⟨hx, hb, hml, hown, hts, henv, hlk, hrt, hnm, hft, htr, hN0⟩ := C
  intro H locs ls hR hS hl
  exact lv_tableOut hx hb hd h ht (k H locs ls hR hS hl)

theorem z_tableIn {X : z_X} {Y : z_Y} {pc nc ns : Nat} {lv : List (Nat × z_V)} {st : List z_V} {w : z_W} {dflt lo hi : Int} {offs : Array Int} {len : Nat} {x : Int32} {off : Int} (tgt : Nat) (C : z_C X Y) (hd : decode Y.2.1 pc = .ok (.tableswitch dflt lo hi offs, len)) (h1 : ¬ x.toInt < lo) (h2 : ¬ hi < x.toInt) (ho : offs[(x.toInt - lo).toNat]? = some off) (ht : (pc : Int) + off = (tgt : Int)) (k : z_G X Y (tgt, lv, st, w, nc, ns)) : z_G X Y (pc, lv, .inl x :: st, w, nc, ns) := by
  obtain ⟨p, l, e, R, s, m, args, below, meth, c, Q, D, cA, N0, b⟩ := X
  obtain ⟨y0, bs, nL, ret, ft⟩ := Y
  obtain ⟨hx, hb, hml, hown, hts, henv, hlk, hrt, hnm, hft, htr, hN0⟩ := C
  intro H locs ls hR hS hl
  exact lv_tableIn hx hb hd h1 h2 ho ht (k H locs ls hR hS hl)

def z_gv (kd : Nat) (g : Option Nat) (f : Int32) : z_V := match kd with
  | 1 => .inr (.inl g)
  | 5 => .inr (.inl g)
  | _ => .inl f
theorem z_kd_in (d : String) : z_kd d = 0 ∨ z_kd d = 1 ∨ z_kd d = 2 := by
  unfold z_kd
  split
  · exact Or.inl rfl
  · split
    · exact Or.inr (Or.inr rfl)
    · exact Or.inr (Or.inl rfl)
theorem z_fvc {r : vw_C} {j kd : Nat} (h : kd = z_kd (r.2.1 j).2.2.1 + (if (r.2.1 j).2.2.2 = true then 4 else 0)) (N0 : Nat) (b : z_B) (g : Nat → Option Nat) (f : Nat → Int32) : z_fv N0 r g f j = z_c N0 b (z_gv kd (g j) (f j)) := by
  subst h
  unfold z_fv
  cases hq : (r.2.1 j).2.2.2 <;> rcases z_kd_in (r.2.1 j).2.2.1 with h | h | h <;> simp [h, z_gv, z_c]

theorem z_get {X : z_X} {Y : z_Y} {pc nc ns : Nat} {lv : List (Nat × z_V)} {st : List z_V} {w : z_W} {idx ci j kd a : Nat} (C : z_C X Y) (hd : decode Y.2.1 pc = .ok (.getfield idx, 3)) (hf : (idx, ci, j, kd) ∈ Y.2.2.2.2) (hT : w.1 a = (1, ci)) (k : z_G X Y (pc + 3, lv, z_gv kd (w.2.1 a j) (w.2.2.1 a j) :: st, w, nc, ns)) : z_G X Y (pc, lv, z_r a :: st, w, nc, ns) := by
  obtain ⟨p, l, e, R, s, m, args, below, meth, c, Q, D, cA, N0, b⟩ := X
  obtain ⟨y0, bs, nL, ret, ft⟩ := Y
  obtain ⟨hx, hb, hml, hown, hts, henv, hlk, hrt, hnm, hft, htr, hN0⟩ := C
  intro H locs ls hR hS hl
  obtain ⟨r, hr, hk, hkd, hdecl, hlink⟩ := hft _ hf
  dsimp only at hr hk hkd hdecl hlink
  have hA := hR.2 a
  rw [hT] at hA
  obtain ⟨r', hr', hob⟩ := hA
  cases hr.symm.trans hr'
  obtain ⟨C0, T0, N⟩ := r
  dsimp only at hdecl hlink hk hob hr hkd
  have hin := (z_cls hr).2.2
  dsimp only at hin
  have hfs : ∀ j0, j0 < N → vp_V ((List.range N).map (z_fv N0 (C0, T0, N) (w.2.1 a) (w.2.2.1 a))) j0 = z_fv N0 (C0, T0, N) (w.2.1 a) (w.2.2.1 a) j0 := fun j0 h0 => by simp [vp_V, h0]
  have hP : va_P D vwCl [(N0 + a, .inr (ci, (List.range N).map (z_fv N0 (C0, T0, N) (w.2.1 a) (w.2.2.1 a))))] H := by
    intro k0 q hq
    have hz : k0 < 1 := (List.getElem?_eq_some_iff.mp hq).1
    rw [show k0 = 0 by omega] at hq
    cases hq
    exact ⟨(C0, T0, N), hr, hob.to (fun j0 h0 => (hfs j0 h0).symm)⟩
  have hv : ((List.range N).map (z_fv N0 (C0, T0, N) (w.2.1 a) (w.2.2.1 a)))[j]? = some (z_c N0 b (z_gv kd (w.2.1 a j) (w.2.2.1 a j))) := by
    rw [← z_fvc (r := (C0, T0, N)) hkd]; simp [hk]
  rcases hlink with h1 | ⟨host, h1⟩
  · exact va_get hx hb hts hin hown henv.1 hP 0 rfl hr j hk (hts _ h1) (fun x h => by rw [hdecl] at h; exact h) hv hd (k H locs ls hR hS hl)
  · exact va_getN hx hb hts hin hown henv.1 hP 0 rfl hr j hk (va_Nw.use rfl (henv.2.2.2.1 _ h1)) (fun x h => by rw [hdecl] at h; exact h) hv hd (k H locs ls hR hS hl)

def z_wr (w : z_W) (a j : Nat) (v : z_V) : z_W := match v with
  | .inl x => (w.1, w.2.1, z_uS w.2.2.1 a j x, w.2.2.2)
  | .inr (.inl r) => (w.1, z_uG w.2.1 a j r, w.2.2.1, w.2.2.2)
  | _ => w
/-- what may be stored in a field of a kind -/
def z_pok (kd : Nat) (v : z_V) : Prop := match kd, v with
  | 0, .inl _ => True
  | 1, .inr (.inl _) => True
  | 2, .inl x => x = 0 ∨ x = 1
  | _, _ => False
theorem z_fv_put {r : vw_C} {N0 j kd : Nat} {b : z_B} {g : Nat → Option Nat} {f : Nat → Int32} {v : z_V} (hkd : kd = z_kd (r.2.1 j).2.2.1) (hv : z_pok kd v) (w : z_W) (a : Nat) (hg : g = w.2.1 a) (hf : f = w.2.2.1 a) (j0 : Nat) :
    updV (z_fv N0 r g f) j (z_c N0 b v) j0 = z_fv N0 r ((z_wr w a j v).2.1 a) ((z_wr w a j v).2.2.1 a) j0 := by
  subst hg; subst hf; subst hkd
  rcases v with x | r0 | x | u
  · show _ = z_fv N0 r (w.2.1 a) (z_uS w.2.2.1 a j x a) j0
    rw [z_uS_self]
    by_cases hj : j0 = j
    · subst hj
      rcases z_kd_in (r.2.1 j0).2.2.1 with h | h | h
      · simp [updV, z_fv, h, upd, z_c]
      · rw [h] at hv; exact absurd hv (by simp [z_pok])
      · simp [updV, z_fv, h, upd, z_c]
    · simp [updV, z_fv, hj, upd]
  · show _ = z_fv N0 r (z_uG w.2.1 a j r0 a) (w.2.2.1 a) j0
    rw [z_uG_self]
    by_cases hj : j0 = j
    · subst hj
      rcases z_kd_in (r.2.1 j0).2.2.1 with h | h | h
      · rw [h] at hv; exact absurd hv (by simp [z_pok])
      · simp [updV, z_fv, h, z_c]
      · rw [h] at hv; exact absurd hv (by simp [z_pok])
    · simp [updV, z_fv, hj]
  · exact absurd hv (by unfold z_pok; split <;> simp_all)
  · exact absurd hv (by unfold z_pok; split <;> simp_all)
theorem z_wr_o {w : z_W} {a j : Nat} {v : z_V} (i : Nat) (hi : i ≠ a) : (z_wr w a j v).2.1 i = w.2.1 i ∧ (z_wr w a j v).2.2.1 i = w.2.2.1 i := by
  rcases v with x | r0 | x | u
  · exact ⟨rfl, z_uS_ne _ _ _ hi⟩
  · exact ⟨z_uG_ne _ _ _ hi, rfl⟩
  · exact ⟨rfl, rfl⟩
  · exact ⟨rfl, rfl⟩
theorem z_wr_T {w : z_W} {a j : Nat} {v : z_V} : ((z_wr w a j v).1, (z_wr w a j v).2.1, (z_wr w a j v).2.2.1, (z_wr w a j v).2.2.2) = z_wr w a j v := rfl
theorem z_wr_1 {w : z_W} {a j : Nat} {v : z_V} : (z_wr w a j v).1 = w.1 := by rcases v with x | r0 | x | u <;> rfl
theorem z_wr_n {w : z_W} {a j : Nat} {v : z_V} : (z_wr w a j v).2.2.2 = w.2.2.2 := by rcases v with x | r0 | x | u <;> rfl
theorem z_ptype {r : vw_C} {j : Nat} (hr : z_cok r) (hk : j < r.2.2) {v : z_V} (hv : z_pok (z_kd (r.2.1 j).2.2.1) v) (N0 : Nat) (b : z_B) : ∃ ty, parseFieldDescriptor (r.2.1 j).2.2.1 = some ty ∧ narrow ty (z_c N0 b v) = z_c N0 b v ∧ fits ty (z_c N0 b v) = true := by
  obtain ⟨⟨ty0, h1, h2⟩, -⟩ := hr
  refine ⟨ty0 j, h1 j hk, ?_⟩
  obtain ⟨q0, q2, q1⟩ := h2 j hk
  rcases v with x | r0 | x | u
  · rcases z_kd_in (r.2.1 j).2.2.1 with h | h | h
    · rw [q0 h]; exact ⟨rfl, rfl⟩
    · rw [h] at hv; exact absurd hv (by simp [z_pok])
    · rw [h] at hv
      rw [q2 h]
      rcases (show x = 0 ∨ x = 1 from hv) with rfl | rfl <;> exact ⟨rfl, rfl⟩
  · rcases z_kd_in (r.2.1 j).2.2.1 with h | h | h
    · rw [h] at hv; exact absurd hv (by simp [z_pok])
    · rcases q1 h with ⟨n, hn⟩ | ⟨t, ht⟩
      · rw [hn]; cases r0 <;> exact ⟨rfl, rfl⟩
      · rw [ht]; cases r0 <;> exact ⟨rfl, rfl⟩
    · rw [h] at hv; exact absurd hv (by simp [z_pok])
  · exact absurd hv (by unfold z_pok; split <;> simp_all)
  · exact absurd hv (by unfold z_pok; split <;> simp_all)

theorem z_put {X : z_X} {Y : z_Y} {pc nc ns : Nat} {lv : List (Nat × z_V)} {st : List z_V} {w : z_W} {idx ci j kd a : Nat} {v : z_V} (C : z_C X Y) (hd : decode Y.2.1 pc = .ok (.putfield idx, 3)) (hf : (idx, ci, j, kd) ∈ Y.2.2.2.2) (hT : w.1 a = (1, ci)) (hv : z_pok kd v) (k : z_G X Y (pc + 3, lv, st, z_wr w a j v, nc, ns)) : z_G X Y (pc, lv, v :: z_r a :: st, w, nc, ns) := by
  obtain ⟨p, l, e, R, s, m, args, below, meth, c, Q, D, cA, N0, b⟩ := X
  obtain ⟨y0, bs, nL, ret, ft⟩ := Y
  obtain ⟨hx, hb, hml, hown, hts, henv, hlk, hrt, hnm, hft, htr, hN0⟩ := C
  intro H locs ls hR hS hl
  obtain ⟨r, hr, hk, hkd, hdecl, hlink⟩ := hft _ hf
  dsimp only at hr hk hkd hdecl hlink
  have hA := hR.2 a
  rw [hT] at hA
  obtain ⟨r', hr', hob⟩ := hA
  cases hr.symm.trans hr'
  have hcok := z_cls hr
  obtain ⟨C0, T0, N⟩ := r
  dsimp only at hdecl hlink hk hob hr hkd
  have hnf : (T0 j).2.2.2 = false := by
    cases hq : (T0 j).2.2.2 with
    | false => rfl
    | true =>
      rw [hq, if_pos rfl] at hkd
      exact absurd hv (by rw [hkd]; unfold z_pok; split <;> simp_all)
  have hkd' : kd = z_kd (T0 j).2.2.1 := by rw [hkd, hnf]; rfl
  have hv' := hv
  obtain ⟨ty, hd9, hn, hfit⟩ := z_ptype (r := (C0, T0, N)) hcok hk (v := v) (by rw [← hkd']; exact hv) N0 b
  dsimp only at hd9
  obtain ⟨ty0, hty, -⟩ := hcok.1
  have hin := hcok.2.2
  dsimp only at hin hty
  have hap := va_apart (own := y0.cls) hts hin ty0 hty hcok.2.1 henv.1 hr
  obtain ⟨cell, q1, q2, q3, q4⟩ := hob
  obtain ⟨hSl, hfc, kC, hkC, hkind⟩ := henv.1.1 ci _ hr
  obtain ⟨cf, kf, fi, f, hi, hsl⟩ := hSl j hk
  have hlay := hts _ (hin _ (u_in_lay hk))
  unfold u_lay at hlay
  rw [if_neg (by rw [hnf]; decide)] at hlay
  have hst := (u_facts hfc hkC (u_lays hts hin hk) hi).1
  have h6 := u_store hfc hkC hkind hlay hi hd9 hn hfit
  have hrep : ∀ H1 : Heap, H1[N0 + a]? = some (cell.setSlot f.slot (z_c N0 b v)) → H1.size = H.size → (∀ q, q ≠ N0 + a → H1[q]? = H[q]?) → z_rep D cA N0 (z_wr w a j v) H1 := by
    intro H1 e1 e2 e3
    rw [hsl] at e1
    have h9 := z_rep.set (k := a) (z_wr w a j v).2.1 (z_wr w a j v).2.2.1 hR e2 e3 (fun i hi => z_wr_o i hi) (by
      rw [hT]
      exact ⟨(C0, T0, N), hr, t_OB.to (V := updV (z_fv N0 (C0, T0, N) (w.2.1 a) (w.2.2.1 a)) j (z_c N0 b v)) ⟨_, e1, q2, q3, t_set q4 hap hk _⟩ (fun j0 _ => z_fv_put (r := (C0, T0, N)) hkd' hv' w a rfl rfl j0)⟩)
    rw [← z_wr_1 (w := w) (a := a) (j := j) (v := v), ← z_wr_n (w := w) (a := a) (j := j) (v := v)] at h9
    exact h9
  have hcell : (H[N0 + a]?) = some cell := q1
  rcases hlink with h1 | ⟨host, h1⟩
  · refine W.putK hx hb (f := f) ⟨hown, hts _ h1, ⟨_, _, _, by rw [hdecl] at hi; exact hi⟩, hst⟩ (by rw [q2]; exact h6) q1 q3 (by rw [hsl]; exact k2_hasslot (q4 j hk)) rfl rfl hd fun H1 e1 e2 e3 => ?_
    exact k H1 _ ls (hrep H1 e1 e2 e3) (hS.put e2 e3 (Nat.le_add_right _ _)) hl
  · refine va_WputK hx hb (f := f) hown (va_Nw.use rfl (henv.2.2.2.1 _ h1)) (by rw [hdecl] at hi; exact hi) hst (by rw [q2]; exact h6) q1 q3 (by rw [hsl]; exact k2_hasslot (q4 j hk)) rfl rfl hd fun H1 e1 e2 e3 => ?_
    exact k H1 _ ls (hrep H1 e1 e2 e3) (hS.put e2 e3 (Nat.le_add_right _ _)) hl

theorem z_putF {X : z_X} {Y : z_Y} {pc nc ns : Nat} {lv : List (Nat × z_V)} {st : List z_V} {w : z_W} {idx ci j kd a : Nat} {v : z_V} (C : z_C X Y) (hd : decode Y.2.1 pc = .ok (.putfield idx, 3)) (hf : (idx, ci, j, kd + 4) ∈ Y.2.2.2.2) (hin2 : Y.1.name = "<init>") (ho : ∀ r : vw_C, vwCl[ci]? = some r → Y.1.cls = r.1) (hT : w.1 a = (1, ci)) (hv : z_pok kd v) (k : z_G X Y (pc + 3, lv, st, z_wr w a j v, nc, ns)) : z_G X Y (pc, lv, v :: z_r a :: st, w, nc, ns) := by
  obtain ⟨p, l, e, R, s, m, args, below, meth, c, Q, D, cA, N0, b⟩ := X
  obtain ⟨y0, bs, nL, ret, ft⟩ := Y
  obtain ⟨hx, hb, hml, hown, hts, henv, hlk, hrt, hnm, hft, htr, hN0⟩ := C
  intro H locs ls hR hS hl
  obtain ⟨r, hr, hk, hkd, hdecl, hlink⟩ := hft _ hf
  dsimp only at hr hk hkd hdecl hlink
  have hA := hR.2 a
  rw [hT] at hA
  obtain ⟨r', hr', hob⟩ := hA
  cases hr.symm.trans hr'
  have hcok := z_cls hr
  obtain ⟨C0, T0, N⟩ := r
  dsimp only at hdecl hlink hk hob hr hkd
  have hnf : (T0 j).2.2.2 = true := by
    cases hq : (T0 j).2.2.2 with
    | true => rfl
    | false =>
      rw [hq] at hkd
      rcases z_kd_in (T0 j).2.2.1 with h | h | h <;> rw [h] at hkd <;> simp at hkd
  have hkd' : kd = z_kd (T0 j).2.2.1 := by rw [hnf, if_pos rfl] at hkd; omega
  have hv' := hv
  obtain ⟨ty, hd9, hn, hfit⟩ := z_ptype (r := (C0, T0, N)) hcok hk (v := v) (by rw [← hkd']; exact hv) N0 b
  dsimp only at hd9
  obtain ⟨ty0, hty, -⟩ := hcok.1
  have hin := hcok.2.2
  dsimp only at hin hty
  have hap := va_apart (own := y0.cls) hts hin ty0 hty hcok.2.1 henv.1 hr
  obtain ⟨cell, q1, q2, q3, q4⟩ := hob
  obtain ⟨hSl, hfc, kC, hkC, hkind⟩ := henv.1.1 ci _ hr
  obtain ⟨cf, kf, fi, f, hi, hsl⟩ := hSl j hk
  have hlay := hts _ (hin _ (u_in_lay hk))
  unfold u_lay at hlay
  rw [if_pos hnf] at hlay
  have hst := (u_facts hfc hkC (u_lays hts hin hk) hi).1
  have hcf : m.cls = cf := by
    obtain ⟨_, _, c', _, _, _, -, -, hf', -, -, -, hown2, -⟩ := Cond.laysFinal_spec hlay
    have e1 : c' = cf := by have := hi.symm.trans hf'; simp at this; exact this.1.symm
    rw [hdecl, ← (show y0.cls = C0 from ho _ hr)] at hown2
    rw [← e1]; exact Option.some.inj (hown.symm.trans hown2)
  have h6 := u_fits hfc hkC hkind (Or.inr hlay) hi hd9 hn hfit
  have hrep : ∀ H1 : Heap, H1[N0 + a]? = some (cell.setSlot f.slot (z_c N0 b v)) → H1.size = H.size → (∀ q, q ≠ N0 + a → H1[q]? = H[q]?) → z_rep D cA N0 (z_wr w a j v) H1 := by
    intro H1 e1 e2 e3
    rw [hsl] at e1
    have h9 := z_rep.set (k := a) (z_wr w a j v).2.1 (z_wr w a j v).2.2.1 hR e2 e3 (fun i hi => z_wr_o i hi) (by
      rw [hT]
      exact ⟨(C0, T0, N), hr, t_OB.to (V := updV (z_fv N0 (C0, T0, N) (w.2.1 a) (w.2.2.1 a)) j (z_c N0 b v)) ⟨_, e1, q2, q3, t_set q4 hap hk _⟩ (fun j0 _ => z_fv_put (r := (C0, T0, N)) hkd' hv' w a rfl rfl j0)⟩)
    rw [← z_wr_1 (w := w) (a := a) (j := j) (v := v), ← z_wr_n (w := w) (a := a) (j := j) (v := v)] at h9
    exact h9
  rcases hlink with h1 | ⟨host, h1⟩
  · refine W.putFinK hx hb hown (hts _ h1) (by rw [hdecl] at hi; exact hi) hst hcf (hnm.trans hin2) (by rw [q2]; exact h6) q1 q3 (by rw [hsl]; exact k2_hasslot (q4 j hk)) rfl rfl hd fun H1 e1 e2 e3 => ?_
    exact k H1 _ ls (hrep H1 e1 e2 e3) (hS.put e2 e3 (Nat.le_add_right _ _)) hl
  · have ha : N0 + a < H.size := (Array.getElem?_eq_some_iff.mp q1).1
    refine va_Wputf hx hb hown (va_Nw.use rfl (henv.2.2.2.1 _ h1)) (by rw [hdecl] at hi; exact hi) hst (Or.inr ⟨hcf, hnm.trans hin2⟩) q1 (by rw [q3]; exact fun h => by cases h) (by rw [hsl]; exact k2_hasslot (q4 j hk)) h6.1 (by rw [q3, q2]; exact h6.2) rfl rfl hd ?_
    have e1 : (H.setIfInBounds (N0 + a) (cell.setSlot f.slot (z_c N0 b v)))[N0 + a]? = some (cell.setSlot f.slot (z_c N0 b v)) := by simp [Array.getElem?_setIfInBounds, ha]
    have e2 : (H.setIfInBounds (N0 + a) (cell.setSlot f.slot (z_c N0 b v))).size = H.size := by simp
    have e3 : ∀ q, q ≠ N0 + a → (H.setIfInBounds (N0 + a) (cell.setSlot f.slot (z_c N0 b v)))[q]? = H[q]? := fun q hq => by simp [Array.getElem?_setIfInBounds, Ne.symm hq]
    exact k _ _ ls (hrep _ e1 e2 e3) (hS.put e2 e3 (Nat.le_add_right _ _)) hl

