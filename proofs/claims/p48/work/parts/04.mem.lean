/-! AN ABSTRACT MEMORY, and a small machine over it. Cells by their number from N0 on: T what each is, G its references, S its numbers, n how many -/
abbrev z_V : Type := Int32 ⊕ (Option Nat ⊕ (Int32 ⊕ Unit))
abbrev z_i (x : Int32) : z_V := .inl x
abbrev z_r (k : Nat) : z_V := .inr (.inl (some k))
abbrev z_n : z_V := .inr (.inl none)
abbrev z_l (x : Int32) : z_V := .inr (.inr (.inl x))
abbrev z_s : z_V := .inr (.inr (.inr ()))
/-- the script: where it lies, its length, its ints -/
abbrev z_B : Type := Nat × Nat × (Nat → Int32)
def z_c (N0 : Nat) (b : z_B) : z_V → Value
  | .inl x => .int x
  | .inr (.inl r) => va_rf (r.map (fun k => N0 + k))
  | .inr (.inr (.inl x)) => .long x.toInt64
  | .inr (.inr (.inr _)) => .ref b.1
def z_ct : z_V → Nat
  | .inl _ => 1
  | .inr (.inl _) => 1
  | .inr (.inr (.inl _)) => 2
  | .inr (.inr (.inr _)) => 1
theorem z_ct_c (N0 : Nat) (b : z_B) (v : z_V) : (z_c N0 b v).category = z_ct v := by
  rcases v with x | r | x | u
  · rfl
  · cases r <;> rfl
  · rfl
  · rfl
abbrev z_W : Type := (Nat → Nat × Nat) × (Nat → Nat → Option Nat) × (Nat → Nat → Int32) × Nat
def z_kd (d : String) : Nat := if d = "I" then 0 else if d = "Z" then 2 else 1
def z_fv (N0 : Nat) (r : vw_C) (g : Nat → Option Nat) (f : Nat → Int32) (j : Nat) : Value := if z_kd (r.2.1 j).2.2.1 = 1 then va_rf ((g j).map (fun k => N0 + k)) else .int (f j)
def z_at (D : va_G) (cA : Nat → ClassId) (N0 : Nat) (sh : Nat × Nat) (g : Nat → Option Nat) (f : Nat → Int32) (a : Nat) (H : Heap) : Prop :=
  match sh.1 with
  | 0 => True
  | 1 => ∃ r : vw_C, vwCl[sh.2]? = some r ∧ t_OB a (D.1 sh.2) r.2.2 (D.2 sh.2) H (z_fv N0 r g f)
  | 2 => H[a]? = some (arrV (cA 0) sh.2 (fun j => .int (f j)))
  | 3 => H[a]? = some (arrV (cA 1) sh.2 (fun j => .int (f j)))
  | 4 => H[a]? = some (arrV (cA 2) sh.2 (fun j => .int (f j)))
  | 5 => H[a]? = some (arrV (cA 3) sh.2 (fun j => .long (f j).toInt64))
  | 6 => H[a]? = some (arrV (cA 4) sh.2 (fun j => va_rf ((g j).map (fun k => N0 + k))))
  | _ => True
theorem z_at.kept {D : va_G} {cA : Nat → ClassId} {N0 : Nat} {sh : Nat × Nat} {g : Nat → Option Nat} {f : Nat → Int32} {a : Nat} {H H1 : Heap} (h : z_at D cA N0 sh g f a H) (hq : H1[a]? = H[a]?) : z_at D cA N0 sh g f a H1 := by
  obtain ⟨t, c⟩ := sh
  match t, h with
  | 0, _ => trivial
  | 1, ⟨r, h1, h2⟩ => exact ⟨r, h1, h2.kept hq⟩
  | 2, h => exact hq.trans h
  | 3, h => exact hq.trans h
  | 4, h => exact hq.trans h
  | 5, h => exact hq.trans h
  | 6, h => exact hq.trans h
  | _ + 7, _ => trivial
def z_rep (D : va_G) (cA : Nat → ClassId) (N0 : Nat) (w : z_W) (H : Heap) : Prop := H.size = N0 + w.2.2.2 ∧ ∀ k : Nat, z_at D cA N0 (w.1 k) (w.2.1 k) (w.2.2.1 k) (N0 + k) H
theorem z_rep.set {D : va_G} {cA : Nat → ClassId} {N0 : Nat} {w : z_W} {H H1 : Heap} {k : Nat} (G' : Nat → Nat → Option Nat) (S' : Nat → Nat → Int32) (h : z_rep D cA N0 w H) (hz : H1.size = H.size) (hq : ∀ q : Nat, q ≠ N0 + k → H1[q]? = H[q]?)
    (ho : ∀ j, j ≠ k → G' j = w.2.1 j ∧ S' j = w.2.2.1 j) (ha : z_at D cA N0 (w.1 k) (G' k) (S' k) (N0 + k) H1) : z_rep D cA N0 (w.1, G', S', w.2.2.2) H1 := by
  refine ⟨hz.trans h.1, fun j => ?_⟩
  by_cases hj : j = k
  · subst hj; exact ha
  · obtain ⟨h1, h2⟩ := ho j hj
    show z_at D cA N0 (w.1 j) (G' j) (S' j) (N0 + j) H1
    rw [h1, h2]
    exact (h.2 j).kept (hq _ (fun e => hj (by omega)))
def z_uS (S : Nat → Nat → Int32) (k j : Nat) (v : Int32) : Nat → Nat → Int32 := fun k' => if k' = k then upd (S k) j v else S k'
def z_uG (G : Nat → Nat → Option Nat) (k j : Nat) (v : Option Nat) : Nat → Nat → Option Nat := fun k' => if k' = k then (fun j' => if j' = j then v else G k j') else G k'
theorem z_uS_self (S : Nat → Nat → Int32) (k j : Nat) (v : Int32) : z_uS S k j v k = upd (S k) j v := by simp [z_uS]
theorem z_uS_ne (S : Nat → Nat → Int32) {k k' : Nat} (j : Nat) (v : Int32) (h : k' ≠ k) : z_uS S k j v k' = S k' := by simp [z_uS, h]
theorem z_uG_self (G : Nat → Nat → Option Nat) (k j : Nat) (v : Option Nat) : z_uG G k j v k = (fun j' => if j' = j then v else G k j') := by simp [z_uG]
theorem z_uG_ne (G : Nat → Nat → Option Nat) {k k' : Nat} (j : Nat) (v : Option Nat) (h : k' ≠ k) : z_uG G k j v k' = G k' := by simp [z_uG, h]
/-- a machine that stands in a method: program, launch, .., its end Q; the classes' numbers D, the array classes' cA, the first own cell N0, the script b -/
abbrev z_X : Type := Program × Launch × Env × Room × State × MethodId × Array Value × List Frame × Method × Code × (State → Prop) × va_G × (Nat → ClassId) × Nat × z_B
/-- a method: name, bytes, locals, what it returns, the fields that it names: pool index, class, slot, kind -/
abbrev z_Y : Type := MethodName × ByteArray × Nat × Option FieldType × List (Nat × Nat × Nat × Nat)
/-- where it is: pc, locals, stack, memory, cells and slots used -/
abbrev z_K : Type := Nat × List (Nat × z_V) × List z_V × z_W × Nat × Nat
def z_tys (cA : Nat → ClassId) : List (ClassId × FieldType) := [(cA 0, .int), (cA 1, .int), (cA 2, .char)]
def z_WB : List Cond := lw_tbl.filter goodWord
/-- words that stay, but not as the good ones do -/
def z_isN : Cond → Bool
  | .fieldLinkNest .. => true
  | .methodLinkNest .. => true
  | .castable .. => true
  | .declares .. => true
  | _ => false
def z_NB : List Cond := lw_tbl.filter z_isN
theorem z_warmD {x : MethodName} {s U : State} (hW : s.WarmedH U.vm) (hZ : va_Nw (.declares x) s) : va_Nw (.declares x) U := va_tabs rfl (rfl : (s.setVm U.vm).vm = U.vm) (by rw [Cond.declares_setVm hW.alike]; exact hZ)
theorem z_N_warm {w : Cond} (hw : z_isN w = true) {s U : State} (hW : s.WarmedH U.vm) (h : va_Nw w s) : va_Nw w U := by
  cases w <;> first | (cases hw; done) | exact va_Nw.warmF hW h | exact va_Nw.warmM hW h | exact va_Nw.warmC hW h | exact z_warmD hW h
theorem z_N_tab {w : Cond} (hw : z_isN w = true) : w.onTables = true := by
  cases w <;> first | (cases hw; done) | rfl
def z_fok (own : String) (q : Nat × Nat × Nat × Nat) : Prop :=
  ∃ r : vw_C, vwCl[q.2.1]? = some r ∧ q.2.2.1 < r.2.2 ∧ q.2.2.2 = z_kd (r.2.1 q.2.2.1).2.2.1 + (if (r.2.1 q.2.2.1).2.2.2 = true then 4 else 0) ∧ (r.2.1 q.2.2.1).1 = r.1 ∧
    (Cond.fieldLink own q.1 r.1 (r.2.1 q.2.2.1).2.1 (r.2.1 q.2.2.1).2.2.1 ∈ z_WB ∨ ∃ host : String, Cond.fieldLinkNest own q.1 r.1 (r.2.1 q.2.2.1).2.1 (r.2.1 q.2.2.1).2.2.1 host ∈ z_NB)
/-- what every own class keeps to -/
def z_cok (r : vw_C) : Prop := (∃ ty0 : Nat → FieldType, (∀ k, k < r.2.2 → parseFieldDescriptor (r.2.1 k).2.2.1 = some (ty0 k)) ∧
    ∀ k, k < r.2.2 → (z_kd (r.2.1 k).2.2.1 = 0 → ty0 k = .int) ∧ (z_kd (r.2.1 k).2.2.1 = 2 → ty0 k = .boolean) ∧ (z_kd (r.2.1 k).2.2.1 = 1 → (∃ n, ty0 k = .object n) ∨ ∃ t, ty0 k = .array t)) ∧
  (∀ a, a < r.2.2 → ∀ b, b < r.2.2 → a ≠ b → (r.2.1 a).2.1 ≠ (r.2.1 b).2.1) ∧ (∀ w ∈ u_ws r.1 r.2.1 r.2.2, w ∈ z_WB)
/-- the class's own texts; the exceptions that aren't each other -/
def z_SR : List (String × Nat × String) := [("TrackHouse", 402, "no such person, project, kind, item, rule, day or place"), ("TrackHouse", 409, "an argument is out of its range"), ("TrackHouse", 414, "that is refused as things stand")]
def z_NC : List (String × String) := [("java/lang/IllegalArgumentException", "java/lang/IllegalStateException"), ("java/lang/IllegalArgumentException", "java/lang/IndexOutOfBoundsException"), ("java/lang/IllegalStateException", "java/lang/IllegalArgumentException"), ("java/lang/IllegalStateException", "java/lang/IndexOutOfBoundsException"), ("java/lang/IndexOutOfBoundsException", "java/lang/IllegalArgumentException"), ("java/lang/IndexOutOfBoundsException", "java/lang/IllegalStateException")]
def z_env (D : va_G) (cA : Nat → ClassId) (N0 : Nat) (b : z_B) (U : State) (H : Heap) : Prop :=
  va_K D vwCl (z_tys cA) U ∧ vx_Zq Bundle.tN "UNASSIGNED_STACK" Bundle.steD (fun q => N0 ≤ q) U H ∧ vx_Zq Bundle.tN "SUPPRESSED_SENTINEL" Bundle.listD (fun q => N0 ≤ q) U H ∧ (∀ w ∈ z_NB, va_Nw w U) ∧ (∀ q ∈ z_SR, ∃ a, vk_R q.1 q.2.1 q.2.2 a U) ∧ (∀ q ∈ z_NC, va_Nc q.1 q.2 U) ∧ va_T .int b.1 b.2.1 (fun j => .int (b.2.2 j)) (fun q => N0 ≤ q) U H
def z_C (X : z_X) (Y : z_Y) : Prop :=
  match X, Y with
  | (p, l, _, _, s, m, args, _, meth, c, _, D, cA, N0, b), (y, bs, nL, ret, ft) =>
    p.tables.exec = Jvm.exec ∧ c.code = bs ∧ c.maxLocals = nL ∧ s.vm.findClass y.cls = some m.cls ∧ (∀ w ∈ z_WB, w.before args s = true) ∧ z_env D cA N0 b s s.heap ∧ meth.locks = false ∧ meth.sig.returnType = ret ∧ meth.name = y.name ∧
      (∀ q ∈ ft, z_fok y.cls q) ∧ l.stackTraces = false ∧ N0 ≤ s.heap.size
def z_G (X : z_X) (Y : z_Y) (k : z_K) : Prop :=
  match X with
  | (p, l, e, R, s, m, args, below, meth, c, Q, D, cA, N0, b) => ∀ (H : Heap) (locs : List Loc) (ls : Array Slot), z_rep D cA N0 k.2.2.2.1 H → va_S (fun q => N0 ≤ q) s.heap H locs →
      lv_has ls Y.2.2.1 (k.2.1.map (fun q => (q.1, z_c N0 b q.2))) → W p l e R s m args below meth c H locs k.2.2.2.2.1 k.2.2.2.2.2 Q (F0 m k.1 ls (k.2.2.1.map (z_c N0 b)))
def z_ld (lv : List (Nat × z_V)) (i : Nat) : Option z_V := (lv.find? (fun q => q.1 == i)).map (fun q => q.2)
def z_st (lv : List (Nat × z_V)) (i : Nat) (v : z_V) : List (Nat × z_V) := (i, v) :: lv.filter (fun q => !(q.1 == i) && !(q.1 + 1 == i && z_ct q.2 == 2))
theorem z_ld_ok {lv : List (Nat × z_V)} {i : Nat} {v : z_V} {N0 nL : Nat} {b : z_B} {ls : Array Slot} (h : lv_has ls nL (lv.map (fun q => (q.1, z_c N0 b q.2)))) (hi : z_ld lv i = some v) : ls[i]? = some (.val (z_c N0 b v)) := by
  unfold z_ld at hi
  cases hf : lv.find? (fun q => q.1 == i) with
  | none => rw [hf] at hi; cases hi
  | some q =>
    rw [hf] at hi
    have h1 := List.find?_some hf
    have h2 : q ∈ lv := List.mem_of_find?_eq_some hf
    have h3 : q.1 = i := by simpa using h1
    have h4 : q.2 = v := Option.some.inj hi
    have h5 := h.2.2 (q.1, z_c N0 b q.2) (List.mem_map.mpr ⟨q, h2, rfl⟩)
    rw [← h3, ← h4]; exact h5
theorem z_st_eq (lv : List (Nat × z_V)) (i : Nat) (v : z_V) (N0 : Nat) (b : z_B) : (i, z_c N0 b v) :: (lv.map (fun q => (q.1, z_c N0 b q.2))).filter (fun q => !(q.1 == i) && !(q.1 + 1 == i && q.2.category == 2)) = (z_st lv i v).map (fun q => (q.1, z_c N0 b q.2)) := by
  unfold z_st
  rw [List.filter_map, List.map_cons]
  congr 1
  congr 1
  congr 1
  funext q
  simp [z_ct_c]
