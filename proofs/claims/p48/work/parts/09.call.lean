/-! METHODS: what a method owes, its end, its body, and calls of it -/
def z_Qc (D : va_G) (cA : Nat → ClassId) (N0 : Nat) (b : z_B) (Post : Option z_V → z_W → Prop) : Array Value → State → Outcome → State → Prop := fun _ st o t =>
  (∃ (v : Option z_V) (w' : z_W), o = .returned (v.map (z_c N0 b)) ∧ Post v w' ∧ z_rep D cA N0 w' t.heap) ∧ va_F (fun q => N0 ≤ q) st t
def z_XC (D : va_G) (cA : Nat → ClassId) (N0 : Nat) (PX : String → z_W → Prop) : String → State → State → Prop := fun E st t => (∃ w' : z_W, PX E w' ∧ z_rep D cA N0 w' t.heap) ∧ va_F (fun q => N0 ≤ q) st t
/-- this end takes a return -/
def z_RT (X : z_X) (rm : Room) (Post : Option z_V → z_W → Prop) : Prop :=
  match X with
  | (p, l, e, R, s, m, args, below, meth, c, Q, D, cA, N0, b) => ∀ (H : Heap) (locs : List Loc) (g : JFrame), W p l e R s m args below meth c H locs rm.cells rm.slots (MQ below (z_Qc D cA N0 b Post) args s rm.cells rm.slots (fun q => N0 ≤ q)) g →
      W p l e R s m args below meth c H locs rm.cells rm.slots Q g
def z_M (X : z_X) (Y : z_Y) (rm : Room) (Post : Option z_V → z_W → Prop) : Prop := z_C X Y ∧ X.2.2.2.1 = rm ∧ z_RT X rm Post
/-- thrown: the frame at pc, an exception of class E over it -/
def z_GX (X : z_X) (Y : z_Y) (E : String) (k : z_K) : Prop :=
  match X with
  | (p, l, e, R, s, m, args, below, meth, c, Q, D, cA, N0, b) => ∀ (H : Heap) (locs : List Loc) (ls : Array Slot) (ce : Cell) (q : Addr), z_rep D cA N0 k.2.2.2.1 H → va_S (fun q => N0 ≤ q) s.heap H locs →
      lv_has ls Y.2.2.1 (k.2.1.map (fun q => (q.1, z_c N0 b q.2))) → H[q]? = some ce → ce.vm = .none → s.vm.findClass E = some ce.cls → vx_W p l e R s m args below meth c H locs k.2.2.2.2.1 k.2.2.2.2.2 Q (F0 m k.1 ls (k.2.2.1.map (z_c N0 b))) q
/-- this end takes a throw -/
def z_XT (X : z_X) (Y : z_Y) (rm : Room) (PX : String → z_W → Prop) : Prop := ∀ (E : String) (k : z_K), PX E k.2.2.2.1 → k.2.2.2.2.1 ≤ rm.cells → k.2.2.2.2.2 ≤ rm.slots → z_GX X Y E k
def z_MX (X : z_X) (Y : z_Y) (rm : Room) (Post : Option z_V → z_W → Prop) (PX : String → z_W → Prop) : Prop := z_M X Y rm Post ∧ z_XT X Y rm PX
theorem z_iret {X : z_X} {Y : z_Y} {rm : Room} {Post : Option z_V → z_W → Prop} {pc nc ns : Nat} {lv : List (Nat × z_V)} {w : z_W} {x : Int32} (M : z_M X Y rm Post) (hd : decode Y.2.1 pc = .ok (.ireturn, 1)) (ty : FieldType) (hty : Y.2.2.2.1 = some ty) (hn : narrow ty (.int x) = .int x)
    (hc : nc ≤ rm.cells) (hs : ns ≤ rm.slots) (hp : Post (some (.inl x)) w) : z_G X Y (pc, lv, [.inl x], w, nc, ns) := by
  obtain ⟨C, hrm, hRT⟩ := M
  obtain ⟨p, l, e, R, s, m, args, below, meth, c, Q, D, cA, N0, b⟩ := X
  obtain ⟨y0, bs, nL, ret, ft⟩ := Y
  obtain ⟨hx, hb, hml, hown, hts, henv, hlk, hrt, hnm, hft, htr, hN0⟩ := C
  intro H locs ls hR hS hl
  exact W.widen hc hs (hRT _ _ _ (W.zret hx hb (hrt.trans hty) hn (fun t ht hW => ⟨⟨some (.inl x), w, rfl, hp, by rw [ht]; exact hR⟩, hS.F ht⟩) hS.2.2 hd hlk))
theorem z_vret {X : z_X} {Y : z_Y} {rm : Room} {Post : Option z_V → z_W → Prop} {pc nc ns : Nat} {lv : List (Nat × z_V)} {w : z_W} (M : z_M X Y rm Post) (hd : decode Y.2.1 pc = .ok (.return_, 1)) (hty : Y.2.2.2.1 = none)
    (hc : nc ≤ rm.cells) (hs : ns ≤ rm.slots) (hp : Post none w) : z_G X Y (pc, lv, [], w, nc, ns) := by
  obtain ⟨C, hrm, hRT⟩ := M
  obtain ⟨p, l, e, R, s, m, args, below, meth, c, Q, D, cA, N0, b⟩ := X
  obtain ⟨y0, bs, nL, ret, ft⟩ := Y
  obtain ⟨hx, hb, hml, hown, hts, henv, hlk, hrt, hnm, hft, htr, hN0⟩ := C
  intro H locs ls hR hS hl
  exact W.widen hc hs (hRT _ _ _ (W.vret hx hb (hrt.trans hty) (fun t ht hW => ⟨⟨none, w, rfl, hp, by rw [ht]; exact hR⟩, hS.F ht⟩) hS.2.2 hd hlk))
theorem z_env.same {D : va_G} {cA : Nat → ClassId} {N0 : Nat} {b : z_B} {u U : State} {H : Heap} (hvm : u.vm = U.vm) (h : z_env D cA N0 b u H) : z_env D cA N0 b U H := by
  have ha : u.vm.Alike U.vm := by rw [hvm]; exact Vm.Alike.refl _
  exact ⟨va_K.moved ha h.1, vx_Zq.moved ha h.2.1, vx_Zq.moved ha h.2.2.1, fun w hw => va_Nw.same (z_N_tab (List.mem_filter.mp hw).2) hvm (h.2.2.2.1 w hw), fun q hq => (h.2.2.2.2.1 q hq).imp fun a ha => vk_R.same hvm.symm ha, fun q hq => va_Nc.moved ha (h.2.2.2.2.2.1 q hq), va_T.moved ha h.2.2.2.2.2.2⟩
theorem z_env.warm {D : va_G} {cA : Nat → ClassId} {N0 : Nat} {b : z_B} {u U : State} {H : Heap} (hW : u.WarmedH U.vm) (h : z_env D cA N0 b u H) : z_env D cA N0 b U H :=
  ⟨va_K.moved hW.alike h.1, vx_Zq.moved hW.alike h.2.1, vx_Zq.moved hW.alike h.2.2.1, fun w hw => z_N_warm (List.mem_filter.mp hw).2 hW (h.2.2.2.1 w hw), fun q hq => (h.2.2.2.2.1 q hq).imp fun a ha => vk_R.warm hW ha, fun q hq => va_Nc.moved hW.alike (h.2.2.2.2.2.1 q hq), va_T.moved hW.alike h.2.2.2.2.2.2⟩
theorem z_env.kept {D : va_G} {cA : Nat → ClassId} {N0 : Nat} {b : z_B} {U : State} {H H1 : Heap} (h : z_env D cA N0 b U H) (hq : ∀ a : Nat, a < H.size → ¬ N0 ≤ a → H1[a]? = H[a]?) : z_env D cA N0 b U H1 := ⟨h.1, vx_Zq.kept h.2.1 hq, vx_Zq.kept h.2.2.1 hq, h.2.2.2.1, h.2.2.2.2.1, h.2.2.2.2.2.1, va_T.kept h.2.2.2.2.2.2 hq⟩
def z_wsY (Y : z_Y) : List Cond := Cond.code Y.1 Y.2.1 Y.2.2.1 Y.2.2.2.1 :: z_WB
/-- what a method needs at its start -/
def z_Pc (D : va_G) (cA : Nat → ClassId) (N0 : Nat) (b : z_B) (av : List z_V) (w : z_W) : Array Value → State → Prop := va_Pc (av.map (z_c N0 b)) (fun U => z_env D cA N0 b U U.heap ∧ z_rep D cA N0 w U.heap)
theorem z_Pc_blind {D : va_G} {cA : Nat → ClassId} {N0 : Nat} {b : z_B} {av : List z_V} {w : z_W} : FrameBlind (z_Pc D cA N0 b av w) := fun a U g mk h => ⟨h.1, z_env.same (u := U) (U := U.calling g mk a) rfl h.2.1, h.2.2⟩
/-- a method's contract: from these arguments and this memory it returns, and Post -/
def z_Run (rm : Room) (Y : z_Y) (av : List z_V) (w : z_W) (Post : Option z_V → z_W → Prop) : Prop :=
  ∀ (l : Launch) (D : va_G) (cA : Nat → ClassId) (N0 : Nat) (b : z_B), l.stackTraces = false → Met l Y.1 (z_wsY Y) rm (z_Pc D cA N0 b av w) (z_Qc D cA N0 b Post) rm.cells rm.slots (fun q => N0 ≤ q)
/-- .. it returns, and Post, or throws, and PX -/
def z_RunX (rm : Room) (Y : z_Y) (av : List z_V) (w : z_W) (Post : Option z_V → z_W → Prop) (PX : String → z_W → Prop) : Prop :=
  ∀ (l : Launch) (D : va_G) (cA : Nat → ClassId) (N0 : Nat) (b : z_B), l.stackTraces = false → vx_Met l Y.1 (z_wsY Y) rm (z_Pc D cA N0 b av w) (z_Qc D cA N0 b Post) (z_XC D cA N0 PX) rm.cells rm.slots (fun q => N0 ≤ q)
def z_args : Nat → List z_V → List (Nat × z_V)
  | _, [] => []
  | i, v :: vs => (i, v) :: z_args (if z_ct v = 2 then i + 2 else i + 1) vs
theorem z_args_eq (N0 : Nat) (b : z_B) (vs : List z_V) : ∀ i, lv_args i (vs.map (z_c N0 b)) = (z_args i vs).map (fun q => (q.1, z_c N0 b q.2)) := by
  induction vs with
  | nil => intro i; rfl
  | cons v vs ih =>
    intro i
    show (i, z_c N0 b v) :: lv_args (if (z_c N0 b v).category = 2 then i + 2 else i + 1) (vs.map (z_c N0 b)) = (i, z_c N0 b v) :: (z_args (if z_ct v = 2 then i + 2 else i + 1) vs).map _
    rw [z_ct_c, ih]
theorem z_sl_len (N0 : Nat) (b : z_B) (vs : List z_V) : (lg_sl (vs.map (z_c N0 b))).length = (vs.map z_ct).sum := by
  induction vs with
  | nil => rfl
  | cons v vs ih =>
    have h : lg_sl ((v :: vs).map (z_c N0 b)) = (if (z_c N0 b v).category = 2 then [Slot.val (z_c N0 b v), Slot.second] else [Slot.val (z_c N0 b v)]) ++ lg_sl (vs.map (z_c N0 b)) := by simp [lg_sl]
    rw [h, List.length_append, ih, List.map_cons, List.sum_cons, z_ct_c]
    rcases v with x | r | x | u <;> simp [z_ct]
theorem z_body {rm : Room} {Y : z_Y} {av : List z_V} {w : z_W} {Post : Option z_V → z_W → Prop} (hy : plainName Y.1.cls = true) (hft : ∀ q ∈ Y.2.2.2.2, z_fok Y.1.cls q) (hn : (av.map z_ct).sum ≤ Y.2.2.1)
    (hb : ∀ X : z_X, z_M X Y rm Post → z_G X Y (0, z_args 0 av, [], w, 0, 0)) : z_Run rm Y av w Post := by
  intro l D cA N0 b htr
  obtain ⟨y, bs, nL, ret, ft⟩ := Y
  refine Met.ofW (cc := bs) (maxL := nL) (ret := ret) hy rfl ?_
  intro p e s m args below meth c s₁ B hml hv
  obtain ⟨rfl, henv, hrep⟩ := hv
  have hts := atoms_spec (ws := z_wsY (y, bs, nL, ret, ft)) B.pre
  have hl := lv_entry (av.map (z_c N0 b)) (n := nL) (by rw [z_sl_len]; exact hn)
  rw [z_args_eq] at hl
  rw [lg_entry_eq]
  refine hb (p, l, e, rm, s, m, (av.map (z_c N0 b)).toArray, below, meth, c, MQ below (z_Qc D cA N0 b Post) (av.map (z_c N0 b)).toArray s rm.cells rm.slots (fun q => N0 ≤ q), D, cA, N0, b)
    ⟨⟨B.exec, B.bytes, hml, findClass_of_methodNamed B.named, fun w h => hts w (List.mem_cons_of_mem _ h), henv, B.notSynchronized, B.returns, (name_of_methodNamed B.named B.method).1, hft, htr, by have := hrep.1; omega⟩, rfl, fun H locs g k => k⟩ s.heap [] _ hrep va_S.rf hl
theorem z_bodyX {rm : Room} {Y : z_Y} {av : List z_V} {w : z_W} {Post : Option z_V → z_W → Prop} {PX : String → z_W → Prop} (hy : plainName Y.1.cls = true) (hft : ∀ q ∈ Y.2.2.2.2, z_fok Y.1.cls q) (hn : (av.map z_ct).sum ≤ Y.2.2.1)
    (hb : ∀ X : z_X, z_MX X Y rm Post PX → z_G X Y (0, z_args 0 av, [], w, 0, 0)) : z_RunX rm Y av w Post PX := by
  intro l D cA N0 b htr
  obtain ⟨y, bs, nL, ret, ft⟩ := Y
  refine vx_ofW (cc := bs) (maxL := nL) (ret := ret) hy rfl ?_
  intro p e s m args below meth c s₁ B hml htab hv
  obtain ⟨rfl, henv, hrep⟩ := hv
  have hts := atoms_spec (ws := z_wsY (y, bs, nL, ret, ft)) B.pre
  have hl := lv_entry (av.map (z_c N0 b)) (n := nL) (by rw [z_sl_len]; exact hn)
  rw [z_args_eq] at hl
  rw [lg_entry_eq]
  refine hb (p, l, e, rm, s, m, (av.map (z_c N0 b)).toArray, below, meth, c, vx_MQ below (z_Qc D cA N0 b Post) (z_XC D cA N0 PX) (av.map (z_c N0 b)).toArray s rm.cells rm.slots (fun q => N0 ≤ q), D, cA, N0, b)
    ⟨⟨⟨B.exec, B.bytes, hml, findClass_of_methodNamed B.named, fun w h => hts w (List.mem_cons_of_mem _ h), henv, B.notSynchronized, B.returns, (name_of_methodNamed B.named B.method).1, hft, htr, by have := hrep.1; omega⟩, rfl, fun H locs g k => vx_ret k⟩, fun E k hpx hc hs H locs ls ce q hR hS hl h1 h2 h3 => ?_⟩ s.heap [] _ hrep va_S.rf hl
  exact vx_out (fun x hx => (htab x hx).elim) B.notSynchronized h1 h2 h3 (fun t ht hvm => ⟨⟨k.2.2.2.1, hpx, by rw [ht]; exact hR⟩, hS.F ht⟩) hS.2.2 hc hs
section ZC
variable {p : Program} {l : Launch} {e : Env} {R : Room} {s : State} {m : MethodId} {args : Array Value} {below : List Frame} {meth : Method} {c : Code} {H : Heap} {locs : List Loc} {cells slots : Nat} {Q : State → Prop}
theorem z_cont {D : va_G} {cA : Nat → ClassId} {N0 pc mc ms : Nat} {b : z_B} {ls : Array Slot} {st0 rest : List Value} {a : Array Value} {Post : Option z_V → z_W → Prop} (hr : va_Run p l e R s m args below meth c H locs cells slots mc ms (F0 m pc ls st0) rest (z_Qc D cA N0 b Post a) (fun q => N0 ≤ q)) (hS : va_S (fun q => N0 ≤ q) s.heap H locs)
    (kk : ∀ (v : Option z_V) (w' : z_W) (H1 : Heap) (locs1 : List Loc), Post v w' → z_rep D cA N0 w' H1 → va_S (fun q => N0 ≤ q) s.heap H1 locs1 → W p l e R s m args below meth c H1 locs1 (cells + mc) (slots + ms) Q (F0 m (pc + 3) ls ((v.map (z_c N0 b)).toList ++ rest))) : W p l e R s m args below meth c H locs cells slots Q (F0 m pc ls st0) := by
  intro T hT X
  obtain ⟨v, st₀, t, T', L, h0, X', hL, e1, e2, ⟨⟨u, w', hv, hp, hb⟩, hz, hk⟩, st⟩ := hr T hT X
  cases hv
  rw [h0] at hz hk
  obtain ⟨t2, a1, b1⟩ := kk u w' T'.heap (locs ++ L) hp (by rw [e1]; exact hb)
    ⟨Nat.le_trans hS.1 (by rw [e1]; exact hz), fun q h1 h2 => by rw [e1, hk q (Nat.lt_of_lt_of_le h1 hS.1) h2]; exact hS.2.1 q h1 h2, fun q hq => by
      rcases List.mem_append.mp hq with h | h
      · exact hS.2.2 q h
      · exact hL q h⟩ T' rfl X'
  exact ⟨t2, st t2 a1, b1⟩
theorem z_contX {D : va_G} {cA : Nat → ClassId} {N0 pc mc ms : Nat} {b : z_B} {ls : Array Slot} {st0 rest : List Value} {a : Array Value} {Post : Option z_V → z_W → Prop} {PX : String → z_W → Prop} (hr : vx_Run p l e R s m args below meth c H locs cells slots mc ms (F0 m pc ls st0) rest (z_Qc D cA N0 b Post a) (z_XC D cA N0 PX) (fun q => N0 ≤ q)) (hS : va_S (fun q => N0 ≤ q) s.heap H locs)
    (kx : ∀ (E : String) (w' : z_W) (H1 : Heap) (locs1 : List Loc) (ce : Cell) (q : Addr), PX E w' → z_rep D cA N0 w' H1 → va_S (fun q => N0 ≤ q) s.heap H1 locs1 → H1[q]? = some ce → ce.vm = .none → s.vm.findClass E = some ce.cls → vx_W p l e R s m args below meth c H1 locs1 (cells + mc) (slots + ms) Q (F0 m pc ls rest) q)
    (kk : ∀ (v : Option z_V) (w' : z_W) (H1 : Heap) (locs1 : List Loc), Post v w' → z_rep D cA N0 w' H1 → va_S (fun q => N0 ≤ q) s.heap H1 locs1 → W p l e R s m args below meth c H1 locs1 (cells + mc) (slots + ms) Q (F0 m (pc + 3) ls ((v.map (z_c N0 b)).toList ++ rest))) : W p l e R s m args below meth c H locs cells slots Q (F0 m pc ls st0) := by
  intro T hT X
  rcases hr T hT X with ⟨v, st₀, t, T', L, h0, X', hL, e1, e2, ⟨⟨u, w', hv, hp, hb⟩, hF⟩, st⟩ | ⟨q, st₀, t, T', L, E, ce, h0, X', hL, e1, e2, ⟨⟨w', hp, hb⟩, hF⟩, hce, hcv, hcl, st⟩
  · cases hv
    obtain ⟨-, -, k3⟩ := vx_keep h0 e1 hS (fun _ _ h => h) (fun _ h => h) hL hF
    obtain ⟨t2, a1, b1⟩ := kk u w' T'.heap (locs ++ L) hp (by rw [e1]; exact hb) k3 T' rfl X'
    exact ⟨t2, st t2 a1, b1⟩
  · obtain ⟨-, -, k3⟩ := vx_keep h0 e1 hS (fun _ _ h => h) (fun _ h => h) hL hF
    obtain ⟨t2, a1, b1⟩ := kx E w' T'.heap (locs ++ L) ce q hp (by rw [e1]; exact hb) k3 (by rw [e1]; exact hce) hcv hcl T' rfl X'
    exact ⟨t2, st.trans a1, b1⟩
end ZC
/-- what the tables say of a call, but its kind: the method's code, its class, how many arguments, the link -/
def z_lk (own : String) (idx : Nat) (Y' : z_Y) (n : Nat) : Prop :=
  Cond.code Y'.1 Y'.2.1 Y'.2.2.1 Y'.2.2.2.1 ∈ z_WB ∧ Cond.initialized Y'.1.cls ∈ z_WB ∧ (Y'.1.cls ≠ "java/lang/invoke/MethodHandle" ∧ Y'.1.cls ≠ "java/lang/invoke/VarHandle") ∧ (parseMethodDescriptor Y'.1.desc).map (fun d => d.parameters.length) = some n ∧
    (Cond.methodLink own idx Y'.1 ∈ z_WB ∨ ∃ host : String, Cond.methodLinkNest own idx Y'.1 host ∈ z_NB)
def z_fit (rm rm' : Room) (Y' : z_Y) (nc ns : Nat) : Prop := rm'.frames + 1 ≤ rm.frames ∧ 8 + (Y'.2.2.1 + 11) + rm'.locals ≤ rm.locals ∧ nc + rm'.cells ≤ rm.cells ∧ ns + rm'.slots ≤ rm.slots
theorem z_good {args : Array Value} {s : State} (hts : ∀ w ∈ z_WB, w.before args s = true) {Y' : z_Y} (hc : Cond.code Y'.1 Y'.2.1 Y'.2.2.1 Y'.2.2.2.1 ∈ z_WB) : ∀ w ∈ z_wsY Y', ∀ (a' : Array Value) (U : State), s.WarmedH U.vm → w.before a' U = true := by
  have h1 : GoodIn z_WB (z_wsY Y') := by
    intro w hw
    have hm : w ∈ z_WB := by
      rcases List.mem_cons.mp hw with h | h
      · rw [h]; exact hc
      · exact h
    exact ⟨hm, good_of_word (List.mem_filter.mp hm).2⟩
  exact pay_in hts h1
theorem z_cat (N0 : Nat) (b : z_B) (st : List z_V) : ((st.map (z_c N0 b)).map fun v => v.category).sum = (st.map z_ct).sum := by
  rw [List.map_map]
  congr 1
  apply List.map_congr_left
  intro v _
  exact z_ct_c N0 b v
