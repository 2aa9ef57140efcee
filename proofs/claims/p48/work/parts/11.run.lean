/-! A RUN: straight rows of instructions, worked out; what must hold for it besides -/
def z_nx (pc : Nat) (i : Instr) (len : Nat) : Nat := match i with
  | .goto off => ((pc : Int) + off).toNat
  | _ => pc + len
def z_bin (f : Int32 → Int32 → Int32) (k : z_K) : Option (Prop × z_K) := match k with
  | (pc, lv, .inl y :: .inl x :: st, w, nc, ns) => some (True, (pc + 1, lv, .inl (f x y) :: st, w, nc, ns))
  | _ => none
def z_div (f : Int32 → Int32 → Int32) (k : z_K) : Option (Prop × z_K) := match k with
  | (pc, lv, .inl y :: .inl x :: st, w, nc, ns) => some (¬ y = 0, (pc + 1, lv, .inl (f x y) :: st, w, nc, ns))
  | _ => none
def z_psh (len : Nat) (v : z_V) (k : z_K) : Option (Prop × z_K) := match k with
  | (pc, lv, st, w, nc, ns) => some (True, (pc + len, lv, v :: st, w, nc, ns))
def z_lod (j len : Nat) (k : z_K) : Option (Prop × z_K) := match k with
  | (pc, lv, st, w, nc, ns) => match z_ld lv j with
    | some (.inl x) => some (True, (pc + len, lv, .inl x :: st, w, nc, ns))
    | _ => none
def z_loda (j len : Nat) (k : z_K) : Option (Prop × z_K) := match k with
  | (pc, lv, st, w, nc, ns) => match z_ld lv j with
    | some (.inr (.inl r)) => some (True, (pc + len, lv, .inr (.inl r) :: st, w, nc, ns))
    | some (.inr (.inr (.inr u))) => some (True, (pc + len, lv, .inr (.inr (.inr u)) :: st, w, nc, ns))
    | _ => none
def z_sto (nL j len : Nat) (k : z_K) : Option (Prop × z_K) := match k with
  | (pc, lv, .inl x :: st, w, nc, ns) => if j < nL then some (True, (pc + len, z_st lv j (.inl x), st, w, nc, ns)) else none
  | _ => none
def z_stoa (nL j len : Nat) (k : z_K) : Option (Prop × z_K) := match k with
  | (pc, lv, .inr (.inl r) :: st, w, nc, ns) => if j < nL then some (True, (pc + len, z_st lv j (.inr (.inl r)), st, w, nc, ns)) else none
  | _ => none
def z_inc (nL j : Nat) (n : Int) (k : z_K) : Option (Prop × z_K) := match k with
  | (pc, lv, st, w, nc, ns) => match z_ld lv j with
    | some (.inl x) => if j < nL then some (True, (pc + 3, z_st lv j (.inl (x + Int32.ofInt n)), st, w, nc, ns)) else none
    | _ => none
def z_un (f : Int32 → z_V) (k : z_K) : Option (Prop × z_K) := match k with
  | (pc, lv, .inl x :: st, w, nc, ns) => some (True, (pc + 1, lv, f x :: st, w, nc, ns))
  | _ => none
def z_cmp (k : z_K) : Option (Prop × z_K) := match k with
  | (pc, lv, .inr (.inr (.inl y)) :: .inr (.inr (.inl x)) :: st, w, nc, ns) => some (True, (pc + 1, lv, .inl (lg_cmp x.toInt64 y.toInt64) :: st, w, nc, ns))
  | _ => none
def z_du (k : z_K) : Option (Prop × z_K) := match k with
  | (pc, lv, v :: st, w, nc, ns) => some (z_ct v = 1, (pc + 1, lv, v :: v :: st, w, nc, ns))
  | _ => none
def z_du2 (k : z_K) : Option (Prop × z_K) := match k with
  | (pc, lv, v :: u :: st, w, nc, ns) => some (z_ct v = 1 ∧ z_ct u = 1, (pc + 1, lv, v :: u :: v :: u :: st, w, nc, ns))
  | _ => none
def z_po (k : z_K) : Option (Prop × z_K) := match k with
  | (pc, lv, v :: st, w, nc, ns) => some (z_ct v = 1, (pc + 1, lv, st, w, nc, ns))
  | _ => none
def z_go (off : Int) (k : z_K) : Option (Prop × z_K) := match k with
  | (pc, lv, st, w, nc, ns) => if 0 ≤ (pc : Int) + off then some (True, (((pc : Int) + off).toNat, lv, st, w, nc, ns)) else none
def z_gf (ft : List (Nat × Nat × Nat × Nat)) (idx : Nat) (k : z_K) : Option (Prop × z_K) := match k with
  | (pc, lv, .inr (.inl (some a)) :: st, w, nc, ns) => match ft.find? (fun q => q.1 == idx) with
    | some (_, ci, j, kd) => some (w.1 a = (1, ci), (pc + 3, lv, z_gv kd (w.2.1 a j) (w.2.2.1 a j) :: st, w, nc, ns))
    | none => none
  | _ => none
def z_pf (ft : List (Nat × Nat × Nat × Nat)) (idx : Nat) (k : z_K) : Option (Prop × z_K) := match k with
  | (pc, lv, v :: .inr (.inl (some a)) :: st, w, nc, ns) => match ft.find? (fun q => q.1 == idx) with
    | some (_, ci, j, kd) => some (w.1 a = (1, ci) ∧ z_pok kd v, (pc + 3, lv, st, z_wr w a j v, nc, ns))
    | none => none
  | _ => none
def z_al (tag : Nat) (f : Int32 → z_V) (k : z_K) : Option (Prop × z_K) := match k with
  | (pc, lv, .inl i :: .inr (.inl (some a)) :: st, w, nc, ns) => some ((w.1 a).1 = tag ∧ vp_in i (w.1 a).2, (pc + 1, lv, f (w.2.2.1 a i.toNatClampNeg) :: st, w, nc, ns))
  | _ => none
def z_alr (k : z_K) : Option (Prop × z_K) := match k with
  | (pc, lv, .inl i :: .inr (.inl (some a)) :: st, w, nc, ns) => some ((w.1 a).1 = 6 ∧ vp_in i (w.1 a).2, (pc + 1, lv, .inr (.inl (w.2.1 a i.toNatClampNeg)) :: st, w, nc, ns))
  | _ => none
def z_as (tag : Nat) (f : Int32 → Int32) (k : z_K) : Option (Prop × z_K) := match k with
  | (pc, lv, .inl x :: .inl i :: .inr (.inl (some a)) :: st, w, nc, ns) => some ((w.1 a).1 = tag ∧ vp_in i (w.1 a).2, (pc + 1, lv, st, (w.1, w.2.1, z_uS w.2.2.1 a i.toNatClampNeg (f x), w.2.2.2), nc, ns))
  | _ => none
def z_asl (k : z_K) : Option (Prop × z_K) := match k with
  | (pc, lv, .inr (.inr (.inl x)) :: .inl i :: .inr (.inl (some a)) :: st, w, nc, ns) => some ((w.1 a).1 = 5 ∧ vp_in i (w.1 a).2, (pc + 1, lv, st, (w.1, w.2.1, z_uS w.2.2.1 a i.toNatClampNeg x, w.2.2.2), nc, ns))
  | _ => none
def z_len (k : z_K) : Option (Prop × z_K) := match k with
  | (pc, lv, .inr (.inl (some a)) :: st, w, nc, ns) => some ((w.1 a).1 = 2, (pc + 1, lv, .inl (Int32.ofNat (w.1 a).2) :: st, w, nc, ns))
  | _ => none
def z_step (Y : z_Y) (i : Instr) (len : Nat) (k : z_K) : Option (Prop × z_K) :=
  match i, len with
  | .iadd, 1 => z_bin (fun x y => x + y) k
  | .isub, 1 => z_bin (fun x y => x - y) k
  | .imul, 1 => z_bin (fun x y => x * y) k
  | .iand, 1 => z_bin (fun x y => x &&& y) k
  | .ior, 1 => z_bin (fun x y => x ||| y) k
  | .ixor, 1 => z_bin (fun x y => x ^^^ y) k
  | .ishl, 1 => z_bin (fun x y => x <<< (y &&& 31)) k
  | .ishr, 1 => z_bin (fun x y => x >>> (y &&& 31)) k
  | .iushr, 1 => z_bin (fun x y => (x.toUInt32 >>> (y.toUInt32 &&& Int32.toUInt32 31)).toInt32) k
  | .idiv, 1 => z_div (fun x y => x / y) k
  | .irem, 1 => z_div (fun x y => x - x / y * y) k
  | .iconst n, 1 => z_psh 1 (.inl (Int32.ofInt n)) k
  | .bipush n, 2 => z_psh 2 (.inl (Int8.ofInt n).toInt32) k
  | .sipush n, 3 => z_psh 3 (.inl (Int16.ofInt n).toInt32) k
  | .lconst 0, 1 => z_psh 1 (z_l 0) k
  | .lconst 1, 1 => z_psh 1 (z_l 1) k
  | .aconst_null, 1 => z_psh 1 z_n k
  | .iload_n j, 1 => z_lod j 1 k
  | .iload j, 2 => z_lod j 2 k
  | .aload_n j, 1 => z_loda j 1 k
  | .aload j, 2 => z_loda j 2 k
  | .istore_n j, 1 => z_sto Y.2.2.1 j 1 k
  | .istore j, 2 => z_sto Y.2.2.1 j 2 k
  | .astore_n j, 1 => z_stoa Y.2.2.1 j 1 k
  | .astore j, 2 => z_stoa Y.2.2.1 j 2 k
  | .iinc j n, 3 => z_inc Y.2.2.1 j n k
  | .i2l, 1 => z_un (fun x => z_l x) k
  | .i2c, 1 => z_un (fun x => .inl (x.toUInt32 % 65536).toInt32) k
  | .lcmp, 1 => z_cmp k
  | .dup, 1 => z_du k
  | .dup2, 1 => z_du2 k
  | .pop, 1 => z_po k
  | .goto off, 3 => z_go off k
  | .getfield idx, 3 => z_gf Y.2.2.2.2 idx k
  | .putfield idx, 3 => z_pf Y.2.2.2.2 idx k
  | .iaload, 1 => z_al 2 (fun x => .inl x) k
  | .caload, 1 => z_al 4 (fun x => .inl x) k
  | .iastore, 1 => z_as 2 (fun x => x) k
  | .castore, 1 => z_as 4 (fun x => vp_nar .char x) k
  | .arraylength, 1 => z_len k
  | _, _ => none
section ZSTEP
variable {X : z_X} {Y : z_Y} {k k' : z_K} {P : Prop}
theorem z_find {ft : List (Nat × Nat × Nat × Nat)} {idx i ci j kd : Nat} (h : ft.find? (fun q => q.1 == idx) = some (i, ci, j, kd)) : (idx, ci, j, kd) ∈ ft := by
  have h1 := List.find?_some h
  have h2 := List.mem_of_find?_eq_some h
  have h3 : i = idx := by simpa using h1
  rw [h3] at h2; exact h2
theorem z_T1 {t : Nat × Nat} {n : Nat} (h : t.1 = n) : t = (n, t.2) := by rw [← h]
theorem z_bin_ok {f : Int32 → Int32 → Int32} (h : z_bin f k = some (P, k')) : ∃ (pc : Nat) (lv : List (Nat × z_V)) (st : List z_V) (w : z_W) (nc ns : Nat) (x y : Int32), k = (pc, lv, .inl y :: .inl x :: st, w, nc, ns) ∧ P = True ∧ k' = (pc + 1, lv, .inl (f x y) :: st, w, nc, ns) := by
  obtain ⟨pc, lv, st, w, nc, ns⟩ := k
  unfold z_bin at h
  split at h
  · rename_i heq
    cases heq
    cases h
    exact ⟨_, _, _, _, _, _, _, _, rfl, rfl, rfl⟩
  · cases h

theorem z_div_ok {f : Int32 → Int32 → Int32} (h : z_div f k = some (P, k')) : ∃ (pc : Nat) (lv : List (Nat × z_V)) (st : List z_V) (w : z_W) (nc ns : Nat) (x y : Int32), k = (pc, lv, .inl y :: .inl x :: st, w, nc, ns) ∧ P = (¬ y = 0) ∧ k' = (pc + 1, lv, .inl (f x y) :: st, w, nc, ns) := by
  obtain ⟨pc, lv, st, w, nc, ns⟩ := k
  unfold z_div at h
  split at h
  · rename_i heq
    cases heq
    cases h
    exact ⟨_, _, _, _, _, _, _, _, rfl, rfl, rfl⟩
  · cases h

theorem z_psh_ok {len : Nat} {v : z_V} (h : z_psh len v k = some (P, k')) : ∃ (pc : Nat) (lv : List (Nat × z_V)) (st : List z_V) (w : z_W) (nc ns : Nat) , k = (pc, lv, st, w, nc, ns) ∧ P = True ∧ k' = (pc + len, lv, v :: st, w, nc, ns) := by
  obtain ⟨pc, lv, st, w, nc, ns⟩ := k
  cases h
  exact ⟨_, _, _, _, _, _, rfl, rfl, rfl⟩

theorem z_un_ok {f : Int32 → z_V} (h : z_un f k = some (P, k')) : ∃ (pc : Nat) (lv : List (Nat × z_V)) (st : List z_V) (w : z_W) (nc ns : Nat) (x : Int32), k = (pc, lv, .inl x :: st, w, nc, ns) ∧ P = True ∧ k' = (pc + 1, lv, f x :: st, w, nc, ns) := by
  obtain ⟨pc, lv, st, w, nc, ns⟩ := k
  unfold z_un at h
  split at h
  · rename_i heq
    cases heq
    cases h
    exact ⟨_, _, _, _, _, _, _, rfl, rfl, rfl⟩
  · cases h

theorem z_cmp_ok  (h : z_cmp k = some (P, k')) : ∃ (pc : Nat) (lv : List (Nat × z_V)) (st : List z_V) (w : z_W) (nc ns : Nat) (x y : Int32), k = (pc, lv, z_l y :: z_l x :: st, w, nc, ns) ∧ P = True ∧ k' = (pc + 1, lv, .inl (lg_cmp x.toInt64 y.toInt64) :: st, w, nc, ns) := by
  obtain ⟨pc, lv, st, w, nc, ns⟩ := k
  unfold z_cmp at h
  split at h
  · rename_i heq
    cases heq
    cases h
    exact ⟨_, _, _, _, _, _, _, _, rfl, rfl, rfl⟩
  · cases h

theorem z_du_ok  (h : z_du k = some (P, k')) : ∃ (pc : Nat) (lv : List (Nat × z_V)) (st : List z_V) (w : z_W) (nc ns : Nat) (v : z_V), k = (pc, lv, v :: st, w, nc, ns) ∧ P = (z_ct v = 1) ∧ k' = (pc + 1, lv, v :: v :: st, w, nc, ns) := by
  obtain ⟨pc, lv, st, w, nc, ns⟩ := k
  unfold z_du at h
  split at h
  · rename_i heq
    cases heq
    cases h
    exact ⟨_, _, _, _, _, _, _, rfl, rfl, rfl⟩
  · cases h

theorem z_du2_ok  (h : z_du2 k = some (P, k')) : ∃ (pc : Nat) (lv : List (Nat × z_V)) (st : List z_V) (w : z_W) (nc ns : Nat) (v u : z_V), k = (pc, lv, v :: u :: st, w, nc, ns) ∧ P = (z_ct v = 1 ∧ z_ct u = 1) ∧ k' = (pc + 1, lv, v :: u :: v :: u :: st, w, nc, ns) := by
  obtain ⟨pc, lv, st, w, nc, ns⟩ := k
  unfold z_du2 at h
  split at h
  · rename_i heq
    cases heq
    cases h
    exact ⟨_, _, _, _, _, _, _, _, rfl, rfl, rfl⟩
  · cases h

theorem z_po_ok  (h : z_po k = some (P, k')) : ∃ (pc : Nat) (lv : List (Nat × z_V)) (st : List z_V) (w : z_W) (nc ns : Nat) (v : z_V), k = (pc, lv, v :: st, w, nc, ns) ∧ P = (z_ct v = 1) ∧ k' = (pc + 1, lv, st, w, nc, ns) := by
  obtain ⟨pc, lv, st, w, nc, ns⟩ := k
  unfold z_po at h
  split at h
  · rename_i heq
    cases heq
    cases h
    exact ⟨_, _, _, _, _, _, _, rfl, rfl, rfl⟩
  · cases h

theorem z_al_ok {tag : Nat} {f : Int32 → z_V} (h : z_al tag f k = some (P, k')) : ∃ (pc : Nat) (lv : List (Nat × z_V)) (st : List z_V) (w : z_W) (nc ns : Nat) (a : Nat) (i : Int32), k = (pc, lv, .inl i :: z_r a :: st, w, nc, ns) ∧ P = ((w.1 a).1 = tag ∧ vp_in i (w.1 a).2) ∧ k' = (pc + 1, lv, f (w.2.2.1 a i.toNatClampNeg) :: st, w, nc, ns) := by
  obtain ⟨pc, lv, st, w, nc, ns⟩ := k
  unfold z_al at h
  split at h
  · rename_i heq
    cases heq
    cases h
    exact ⟨_, _, _, _, _, _, _, _, rfl, rfl, rfl⟩
  · cases h

theorem z_alr_ok  (h : z_alr k = some (P, k')) : ∃ (pc : Nat) (lv : List (Nat × z_V)) (st : List z_V) (w : z_W) (nc ns : Nat) (a : Nat) (i : Int32), k = (pc, lv, .inl i :: z_r a :: st, w, nc, ns) ∧ P = ((w.1 a).1 = 6 ∧ vp_in i (w.1 a).2) ∧ k' = (pc + 1, lv, .inr (.inl (w.2.1 a i.toNatClampNeg)) :: st, w, nc, ns) := by
  obtain ⟨pc, lv, st, w, nc, ns⟩ := k
  unfold z_alr at h
  split at h
  · rename_i heq
    cases heq
    cases h
    exact ⟨_, _, _, _, _, _, _, _, rfl, rfl, rfl⟩
  · cases h

theorem z_as_ok {tag : Nat} {f : Int32 → Int32} (h : z_as tag f k = some (P, k')) : ∃ (pc : Nat) (lv : List (Nat × z_V)) (st : List z_V) (w : z_W) (nc ns : Nat) (a : Nat) (i x : Int32), k = (pc, lv, .inl x :: .inl i :: z_r a :: st, w, nc, ns) ∧ P = ((w.1 a).1 = tag ∧ vp_in i (w.1 a).2) ∧ k' = (pc + 1, lv, st, (w.1, w.2.1, z_uS w.2.2.1 a i.toNatClampNeg (f x), w.2.2.2), nc, ns) := by
  obtain ⟨pc, lv, st, w, nc, ns⟩ := k
  unfold z_as at h
  split at h
  · rename_i heq
    cases heq
    cases h
    exact ⟨_, _, _, _, _, _, _, _, _, rfl, rfl, rfl⟩
  · cases h

theorem z_asl_ok  (h : z_asl k = some (P, k')) : ∃ (pc : Nat) (lv : List (Nat × z_V)) (st : List z_V) (w : z_W) (nc ns : Nat) (a : Nat) (i x : Int32), k = (pc, lv, z_l x :: .inl i :: z_r a :: st, w, nc, ns) ∧ P = ((w.1 a).1 = 5 ∧ vp_in i (w.1 a).2) ∧ k' = (pc + 1, lv, st, (w.1, w.2.1, z_uS w.2.2.1 a i.toNatClampNeg x, w.2.2.2), nc, ns) := by
  obtain ⟨pc, lv, st, w, nc, ns⟩ := k
  unfold z_asl at h
  split at h
  · rename_i heq
    cases heq
    cases h
    exact ⟨_, _, _, _, _, _, _, _, _, rfl, rfl, rfl⟩
  · cases h

theorem z_len_ok  (h : z_len k = some (P, k')) : ∃ (pc : Nat) (lv : List (Nat × z_V)) (st : List z_V) (w : z_W) (nc ns : Nat) (a : Nat), k = (pc, lv, z_r a :: st, w, nc, ns) ∧ P = ((w.1 a).1 = 2) ∧ k' = (pc + 1, lv, .inl (Int32.ofNat (w.1 a).2) :: st, w, nc, ns) := by
  obtain ⟨pc, lv, st, w, nc, ns⟩ := k
  unfold z_len at h
  split at h
  · rename_i heq
    cases heq
    cases h
    exact ⟨_, _, _, _, _, _, _, rfl, rfl, rfl⟩
  · cases h

theorem z_lod_ok {j len : Nat} (h : z_lod j len k = some (P, k')) : ∃ (pc : Nat) (lv : List (Nat × z_V)) (st : List z_V) (w : z_W) (nc ns : Nat) (x : Int32), k = (pc, lv, st, w, nc, ns) ∧ z_ld lv j = some (.inl x) ∧ P = True ∧ k' = (pc + len, lv, .inl x :: st, w, nc, ns) := by
  obtain ⟨pc, lv, st, w, nc, ns⟩ := k
  unfold z_lod at h
  dsimp only at h
  split at h
  · rename_i hl
    cases h
    exact ⟨_, _, _, _, _, _, _, rfl, hl, rfl, rfl⟩
  · cases h

theorem z_loda_ok {j len : Nat} (h : z_loda j len k = some (P, k')) : ∃ (pc : Nat) (lv : List (Nat × z_V)) (st : List z_V) (w : z_W) (nc ns : Nat) (v : z_V), k = (pc, lv, st, w, nc, ns) ∧ z_ld lv j = some v ∧ ((∃ r, v = .inr (.inl r)) ∨ v = z_s) ∧ P = True ∧ k' = (pc + len, lv, v :: st, w, nc, ns) := by
  obtain ⟨pc, lv, st, w, nc, ns⟩ := k
  unfold z_loda at h
  dsimp only at h
  split at h
  · rename_i hl
    cases h
    exact ⟨_, _, _, _, _, _, _, rfl, hl, Or.inl ⟨_, rfl⟩, rfl, rfl⟩
  · rename_i hl
    cases h
    exact ⟨_, _, _, _, _, _, _, rfl, hl, Or.inr rfl, rfl, rfl⟩
  · cases h

theorem z_sto_ok {nL j len : Nat} (h : z_sto nL j len k = some (P, k')) : ∃ (pc : Nat) (lv : List (Nat × z_V)) (st : List z_V) (w : z_W) (nc ns : Nat) (x : Int32), k = (pc, lv, .inl x :: st, w, nc, ns) ∧ j < nL ∧ P = True ∧ k' = (pc + len, z_st lv j (.inl x), st, w, nc, ns) := by
  obtain ⟨pc, lv, st, w, nc, ns⟩ := k
  unfold z_sto at h
  split at h
  · rename_i heq
    cases heq
    split at h
    · rename_i hj
      cases h
      exact ⟨_, _, _, _, _, _, _, rfl, hj, rfl, rfl⟩
    · cases h
  · cases h

theorem z_stoa_ok {nL j len : Nat} (h : z_stoa nL j len k = some (P, k')) : ∃ (pc : Nat) (lv : List (Nat × z_V)) (st : List z_V) (w : z_W) (nc ns : Nat) (r : Option Nat), k = (pc, lv, .inr (.inl r) :: st, w, nc, ns) ∧ j < nL ∧ P = True ∧ k' = (pc + len, z_st lv j (.inr (.inl r)), st, w, nc, ns) := by
  obtain ⟨pc, lv, st, w, nc, ns⟩ := k
  unfold z_stoa at h
  split at h
  · rename_i heq
    cases heq
    split at h
    · rename_i hj
      cases h
      exact ⟨_, _, _, _, _, _, _, rfl, hj, rfl, rfl⟩
    · cases h
  · cases h

theorem z_inc_ok {nL j : Nat} {n : Int} (h : z_inc nL j n k = some (P, k')) : ∃ (pc : Nat) (lv : List (Nat × z_V)) (st : List z_V) (w : z_W) (nc ns : Nat) (x : Int32), k = (pc, lv, st, w, nc, ns) ∧ z_ld lv j = some (.inl x) ∧ j < nL ∧ P = True ∧ k' = (pc + 3, z_st lv j (.inl (x + Int32.ofInt n)), st, w, nc, ns) := by
  obtain ⟨pc, lv, st, w, nc, ns⟩ := k
  unfold z_inc at h
  dsimp only at h
  split at h
  · rename_i hl
    split at h
    · rename_i hj
      cases h
      exact ⟨_, _, _, _, _, _, _, rfl, hl, hj, rfl, rfl⟩
    · cases h
  · cases h

theorem z_go_ok {off : Int} (h : z_go off k = some (P, k')) : ∃ (pc : Nat) (lv : List (Nat × z_V)) (st : List z_V) (w : z_W) (nc ns : Nat) , k = (pc, lv, st, w, nc, ns) ∧ 0 ≤ (pc : Int) + off ∧ P = True ∧ k' = (((pc : Int) + off).toNat, lv, st, w, nc, ns) := by
  obtain ⟨pc, lv, st, w, nc, ns⟩ := k
  unfold z_go at h
  dsimp only at h
  split at h
  · rename_i hj
    cases h
    exact ⟨_, _, _, _, _, _, rfl, hj, rfl, rfl⟩
  · cases h

theorem z_gf_ok {ft : List (Nat × Nat × Nat × Nat)} {idx : Nat} (h : z_gf ft idx k = some (P, k')) : ∃ (pc : Nat) (lv : List (Nat × z_V)) (st : List z_V) (w : z_W) (nc ns : Nat) (a ci j kd : Nat), k = (pc, lv, z_r a :: st, w, nc, ns) ∧ (idx, ci, j, kd) ∈ ft ∧ P = (w.1 a = (1, ci)) ∧ k' = (pc + 3, lv, z_gv kd (w.2.1 a j) (w.2.2.1 a j) :: st, w, nc, ns) := by
  obtain ⟨pc, lv, st, w, nc, ns⟩ := k
  unfold z_gf at h
  split at h
  · rename_i heq
    cases heq
    split at h
    · rename_i hf
      cases h
      exact ⟨_, _, _, _, _, _, _, _, _, _, rfl, z_find hf, rfl, rfl⟩
    · cases h
  · cases h

theorem z_pf_ok {ft : List (Nat × Nat × Nat × Nat)} {idx : Nat} (h : z_pf ft idx k = some (P, k')) : ∃ (pc : Nat) (lv : List (Nat × z_V)) (st : List z_V) (w : z_W) (nc ns : Nat) (a ci j kd : Nat) (v : z_V), k = (pc, lv, v :: z_r a :: st, w, nc, ns) ∧ (idx, ci, j, kd) ∈ ft ∧ P = (w.1 a = (1, ci) ∧ z_pok kd v) ∧ k' = (pc + 3, lv, st, z_wr w a j v, nc, ns) := by
  obtain ⟨pc, lv, st, w, nc, ns⟩ := k
  unfold z_pf at h
  split at h
  · rename_i heq
    cases heq
    split at h
    · rename_i hf
      cases h
      exact ⟨_, _, _, _, _, _, _, _, _, _, _, rfl, z_find hf, rfl, rfl⟩
    · cases h
  · cases h

theorem z_step_ok (C : z_C X Y) {i : Instr} {len : Nat} (hd : decode Y.2.1 k.1 = .ok (i, len)) (h : z_step Y i len k = some (P, k')) (hP : P) (g : z_G X Y k') : z_G X Y k := by
  unfold z_step at h
  split at h
  all_goals first
    | (cases h; done)
    | (obtain ⟨pc, lv, st, w, nc, ns, x, y, rfl, rfl, rfl⟩ := z_bin_ok h
       first | exact z_iadd C hd g | exact z_isub C hd g | exact z_imul C hd g | exact z_iand C hd g | exact z_ior C hd g | exact z_ixor C hd g | exact z_ishl C hd g | exact z_ishr C hd g | exact z_iushr C hd g)
    | (obtain ⟨pc, lv, st, w, nc, ns, x, y, rfl, rfl, rfl⟩ := z_div_ok h
       first | exact z_idiv C hd hP g | exact z_irem C hd hP g)
    | (obtain ⟨pc, lv, st, w, nc, ns, rfl, rfl, rfl⟩ := z_psh_ok h
       first | exact z_iconst C hd g | exact z_bipush C hd g | exact z_sipush C hd g | exact z_lconst C hd (by decide) g | exact z_null C hd g)
    | (obtain ⟨pc, lv, st, w, nc, ns, x, rfl, hl, rfl, rfl⟩ := z_lod_ok h
       first | exact z_iload_n C hd hl g | exact z_iload C hd hl g)
    | (obtain ⟨pc, lv, st, w, nc, ns, v, rfl, hl, ⟨r, rfl⟩ | rfl, rfl, rfl⟩ := z_loda_ok h
       · first | exact z_aload_n C hd hl g | exact z_aload C hd hl g
       · first | exact z_sload_n C hd hl g | exact z_sload C hd hl g)
    | (obtain ⟨pc, lv, st, w, nc, ns, x, rfl, hj, rfl, rfl⟩ := z_sto_ok h
       first | exact z_istore_n C hd hj g | exact z_istore C hd hj g)
    | (obtain ⟨pc, lv, st, w, nc, ns, x, rfl, hj, rfl, rfl⟩ := z_stoa_ok h
       first | exact z_astore_n C hd hj g | exact z_astore C hd hj g)
    | (obtain ⟨pc, lv, st, w, nc, ns, x, rfl, hl, hj, rfl, rfl⟩ := z_inc_ok h
       exact z_iinc C hd hl hj g)
    | (obtain ⟨pc, lv, st, w, nc, ns, x, rfl, rfl, rfl⟩ := z_un_ok h
       first | exact z_i2l C hd g | exact z_i2c C hd g)
    | (obtain ⟨pc, lv, st, w, nc, ns, x, y, rfl, rfl, rfl⟩ := z_cmp_ok h
       exact z_lcmp C hd g)
    | (obtain ⟨pc, lv, st, w, nc, ns, v, rfl, rfl, rfl⟩ := z_du_ok h
       exact z_dup C hd hP g)
    | (obtain ⟨pc, lv, st, w, nc, ns, v, u, rfl, rfl, rfl⟩ := z_du2_ok h
       exact z_dup2 C hd hP.1 hP.2 g)
    | (obtain ⟨pc, lv, st, w, nc, ns, v, rfl, rfl, rfl⟩ := z_po_ok h
       exact z_pop C hd hP g)
    | (obtain ⟨pc, lv, st, w, nc, ns, rfl, h0, rfl, rfl⟩ := z_go_ok h
       exact z_goto C hd (Int.toNat_of_nonneg h0).symm g)
    | (obtain ⟨pc, lv, st, w, nc, ns, a, ci, j, kd, rfl, hf, rfl, rfl⟩ := z_gf_ok h
       exact z_get C hd hf hP g)
    | (obtain ⟨pc, lv, st, w, nc, ns, a, ci, j, kd, v, rfl, hf, rfl, rfl⟩ := z_pf_ok h
       exact z_put C hd hf hP.1 hP.2 g)
    | (obtain ⟨pc, lv, st, w, nc, ns, a, j, rfl, rfl, rfl⟩ := z_al_ok h
       first | exact z_iald C hd (z_T1 hP.1) hP.2 g | exact z_cald C hd (z_T1 hP.1) hP.2 g)
    | (obtain ⟨pc, lv, st, w, nc, ns, a, j, x, rfl, rfl, rfl⟩ := z_as_ok h
       first | exact z_iast C hd (z_T1 hP.1) hP.2 g | exact z_cast C hd (z_T1 hP.1) hP.2 g)
    | (obtain ⟨pc, lv, st, w, nc, ns, a, rfl, rfl, rfl⟩ := z_len_ok h
       exact z_alen C hd (z_T1 hP) g)
theorem z_step_pc {i : Instr} {len : Nat} (h : z_step Y i len k = some (P, k')) : k'.1 = z_nx k.1 i len := by
  unfold z_step at h
  split at h
  all_goals first
    | (cases h; done)
    | (obtain ⟨pc, lv, st, w, nc, ns, x, y, rfl, rfl, rfl⟩ := z_bin_ok h; rfl)
    | (obtain ⟨pc, lv, st, w, nc, ns, x, y, rfl, rfl, rfl⟩ := z_div_ok h; rfl)
    | (obtain ⟨pc, lv, st, w, nc, ns, rfl, rfl, rfl⟩ := z_psh_ok h; rfl)
    | (obtain ⟨pc, lv, st, w, nc, ns, x, rfl, hl, rfl, rfl⟩ := z_lod_ok h; rfl)
    | (obtain ⟨pc, lv, st, w, nc, ns, v, rfl, hl, -, rfl, rfl⟩ := z_loda_ok h; rfl)
    | (obtain ⟨pc, lv, st, w, nc, ns, x, rfl, hj, rfl, rfl⟩ := z_sto_ok h; rfl)
    | (obtain ⟨pc, lv, st, w, nc, ns, x, rfl, hj, rfl, rfl⟩ := z_stoa_ok h; rfl)
    | (obtain ⟨pc, lv, st, w, nc, ns, x, rfl, hl, hj, rfl, rfl⟩ := z_inc_ok h; rfl)
    | (obtain ⟨pc, lv, st, w, nc, ns, x, rfl, rfl, rfl⟩ := z_un_ok h; rfl)
    | (obtain ⟨pc, lv, st, w, nc, ns, x, y, rfl, rfl, rfl⟩ := z_cmp_ok h; rfl)
    | (obtain ⟨pc, lv, st, w, nc, ns, v, rfl, rfl, rfl⟩ := z_du_ok h; rfl)
    | (obtain ⟨pc, lv, st, w, nc, ns, v, u, rfl, rfl, rfl⟩ := z_du2_ok h; rfl)
    | (obtain ⟨pc, lv, st, w, nc, ns, v, rfl, rfl, rfl⟩ := z_po_ok h; rfl)
    | (obtain ⟨pc, lv, st, w, nc, ns, rfl, h0, rfl, rfl⟩ := z_go_ok h; rfl)
    | (obtain ⟨pc, lv, st, w, nc, ns, a, ci, j, kd, rfl, hf, rfl, rfl⟩ := z_gf_ok h; rfl)
    | (obtain ⟨pc, lv, st, w, nc, ns, a, ci, j, kd, v, rfl, hf, rfl, rfl⟩ := z_pf_ok h; rfl)
    | (obtain ⟨pc, lv, st, w, nc, ns, a, j, rfl, rfl, rfl⟩ := z_al_ok h; rfl)
    | (obtain ⟨pc, lv, st, w, nc, ns, a, j, rfl, rfl, rfl⟩ := z_alr_ok h; rfl)
    | (obtain ⟨pc, lv, st, w, nc, ns, a, j, x, rfl, rfl, rfl⟩ := z_as_ok h; rfl)
    | (obtain ⟨pc, lv, st, w, nc, ns, a, j, x, rfl, rfl, rfl⟩ := z_asl_ok h; rfl)
    | (obtain ⟨pc, lv, st, w, nc, ns, a, rfl, rfl, rfl⟩ := z_len_ok h; rfl)
/-- the bytes from pc on are these instructions -/
def z_chk (bs : ByteArray) : Nat → List (Instr × Nat) → Bool
  | _, [] => true
  | pc, q :: is => decide (decode bs pc = .ok q) && z_chk bs (z_nx pc q.1 q.2) is
def z_run (Y : z_Y) : List (Instr × Nat) → z_K → Option (Prop × z_K)
  | [], k => some (True, k)
  | q :: is, k => match z_step Y q.1 q.2 k with
    | some (P, k1) => match z_run Y is k1 with
      | some (P2, k2) => some (P ∧ P2, k2)
      | none => none
    | none => none
theorem z_go_on (C : z_C X Y) (is : List (Instr × Nat)) : ∀ {k k' : z_K} {P : Prop}, z_chk Y.2.1 k.1 is = true → z_run Y is k = some (P, k') → P → z_G X Y k' → z_G X Y k := by
  induction is with
  | nil =>
    intro k k' P _ h hP g
    cases h
    exact g
  | cons q is ih =>
    intro k k' P hc h hP g
    simp only [z_chk, Bool.and_eq_true, decide_eq_true_eq] at hc
    unfold z_run at h
    split at h
    · rename_i P1 k1 h1
      split at h
      · rename_i P2 k2 h2
        cases h
        refine z_step_ok C hc.1 h1 hP.1 (ih ?_ h2 hP.2 g)
        rw [z_step_pc h1]; exact hc.2
      · cases h
    · cases h
end ZSTEP
