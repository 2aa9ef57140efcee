/-! THE CLAIM IS FALSE: at a start with that script the law returns, and more than 162 cells are new -/
def R_law : String := "TrackHouseLaw"
def f_P (args : Array Value) (s : State) : Prop := args = #[Value.ref 0] ∧ s.IntsAt 0 f_list ∧ (Jvm.Cond.and given_1 narrow_1).before args s = true
def f_Q (_ : Array Value) (s : State) (_ : Outcome) (t : State) : Prop := s.heap.size + 163 ≤ t.heap.size
def f_Z (below : List Frame) (s : State) : State → Prop := fun t => ∃ o, t.status = .running ∧ Ended t below o ∧ f_Q #[] s o t
theorem f_ret {p : Program} {l : Launch} {e : Env} {s : State} {m : MethodId} {args : Array Value} {below : List Frame} {meth : Method} {c : Code} (hx : p.tables.exec = Jvm.exec) (hb : c.code = code) (hr : meth.sig.returnType = ret) (hlocks : meth.locks = false) {pc : Nat} {H : Heap} {locs : List Loc} {ls : Array Slot} {nc ns : Nat} (hdg : decode code pc = .ok (.ireturn, 1)) (hsz : s.heap.size + 163 ≤ H.size) :
    W p l e f_room s m args below meth c H locs nc ns (f_Z below s) (F0 m pc ls [.int 1]) := by
  intro T hT X
  obtain ⟨fs, hret, hrun, hended, hW, hframe⟩ := X.leave (v := some (.int 1)) (hlocks := hlocks) (fun h => by rw [hr] at h; cases h)
  have hmeth' : T.vm.method? m = some meth := X.method'
  refine ⟨T.setFrames fs, ?_, .returned (some (.int 1)), hrun, hended, by show s.heap.size + 163 ≤ T.heap.size; rw [hT]; exact hsz⟩
  jvm_step X.here [X.here.top, hx, hb, hdg, hmeth', hr, ret, narrow_b1]
  (try refine ⟨rfl, ?_⟩); (try refine ⟨rfl, ?_⟩)
  first | (intro acts; rw [hret _ acts rfl rfl rfl]) | rw [hret _ _ rfl rfl rfl]
  exact Steps.refl _
set_option maxHeartbeats 4000000 in
theorem f_walk (l : Launch) (hflags : l.flags = flags0) : MetFree l x (headSpec (Jvm.Cond.code x code maxLocals ret :: tables_1) f_room) f_P (fun _ _ _ _ _ => True) f_Q := by
  refine MetFree.of_bodyS (code := code) (maxLocals := maxLocals) (ret := ret) (by decide) ?_ ?_
  · intro args s m h hn
    obtain ⟨meth, c, h1, h2, h3, h4, h5, h6, -, -⟩ := Cond.code_spec hn (atoms_spec (ws := Jvm.Cond.code x code maxLocals ret :: tables_1) h _ List.mem_cons_self)
    exact ⟨meth, c, h1, h2, h3, h4, h5, h6⟩
  · intro p e s m args below meth c s₁ B hml0 hP _
    obtain ⟨rfl, hx, hgv⟩ := hP
    obtain ⟨scr, harrAt, hlist, hof, hsmall⟩ := hx
    obtain ⟨hcb, hkn, -, -⟩ := State.arrayAt?_spec harrAt
    have hown : s.vm.findClass R_law = some m.cls := findClass_of_methodNamed B.named
    have hts0 : ∀ c ∈ (Jvm.Cond.code x code maxLocals ret :: tables_1), c.before #[Value.ref 0] s = true := atoms_spec (ws := Jvm.Cond.code x code maxLocals ret :: tables_1) B.pre
    have hts : ∀ w ∈ lw_tbl, w.before #[Value.ref 0] s = true := k2_hts_sels lw_privs (fun w hw => hts0 w (List.mem_cons_of_mem _ hw)) lw_privs_ok
    have hml : c.maxLocals = 29 := B.maxLocals_eq (hts0 _ List.mem_cons_self)
    have X₀ : Stand p l e f_room s m #[Value.ref 0] below meth c s₁ [] 0 0 := Stand.of_body B
    have hh0 : s₁.heap = s.heap := by rw [B.state]; rfl
    have hsz : scr.slots.size = f_list.length := by rw [← Array.length_toList, hlist, List.length_map]
    have hval : ∀ j : Nat, j < f_list.length → scr.slots[j]? = some (.int (f_list.getD j 0)) := fun j hj => by
      rw [← Array.getElem?_toList, hlist]
      simp [hj]
    have hbl : 0 < s.heap.size := (Array.getElem?_eq_some_iff.mp hcb).1
    have hX : va_X 0 f_list.length (fun j => f_list.getD j 0) s s.heap := ⟨scr, hcb, hof, hkn, hsz, hval⟩
    have htr : l.stackTraces = false := by rw [Launch.stackTraces, hflags]; decide
    obtain ⟨D, cA, henv⟩ := z_env_start hts hX hbl hgv
    have C : z_C (p, l, e, f_room, s, m, #[Value.ref 0], below, meth, c, f_Z below s, D, cA, s.heap.size, (0, f_list.length, fun j => f_list.getD j 0)) zm_law :=
      ⟨B.exec, B.bytes, hml, hown, fun w hw => hts w (List.mem_filter.mp hw).1, henv, B.notSynchronized, B.returns, (name_of_methodNamed B.named B.method).1, (fun q (h : q ∈ ([] : List (Nat × Nat × Nat × Nat))) => nomatch h), htr, Nat.le_refl _⟩
    have hl := lv_entry ([Value.ref 0]) (n := 29) (Nat.le_of_ble_eq_true rfl)
    have K : W p l e f_room s m #[Value.ref 0] below meth c s₁.heap [] 0 0 (f_Z below s) (entryFrame m ([Value.ref 0] : List Value).toArray 29) := by
      rw [hh0, lg_entry_eq]
      refine law_start C rfl ⟨(show f_list.length = 115 from rfl), fun j _ => rfl⟩ ?_ s.heap [] _ ⟨rfl, fun k => trivial⟩ va_S.rf hl
      intro T' G' S n nc ns hn H locs ls hR hS hl
      exact f_ret (pc := 2711) B.exec B.bytes B.returns B.notSynchronized (by decide +kernel) (by have h9 := hR.1; rw [h9]; exact Nat.add_le_add_left hn _)
    obtain ⟨t, a1, o, b1, b2, b3⟩ := K s₁ rfl X₀
    exact ⟨t, o, a1, b1, b2, b3⟩
theorem f_ints : f_s.IntsAt 0 f_list := ⟨_, rfl, rfl, ⟨(fun k h => by cases h), _, rfl, _, rfl⟩, by decide +kernel⟩
/-- the claim's first limb is false -/
theorem p48_false : ¬ Claimed_1_1 := by
  intro h
  obtain ⟨n, o, h1, -, h3, h4⟩ := h launch0 rfl lists_1 trivial start1.p0 start1.e0 (launch0.admits_env _ _ _) fairChoices_fair.cas fairChoices_fair.clock f_s ⟨0, 0⟩ start1.args0 Lib.HandBits.below0 rfl f_fit f_heap f_app1 ⟨trivial, f_rest, f_given⟩
  obtain ⟨k, o', g1, -, g3, g4⟩ := f_walk launch0 rfl start1.p0 start1.e0 (launch0.admits_env _ _ _) fairChoices_fair.cas fairChoices_fair.clock f_s ⟨0, 0⟩ start1.args0 Lib.HandBits.below0 rfl ((Spec.applies_iff_loose rfl).mp f_app).1 ⟨rfl, f_ints, f_given⟩ trivial
  have hnk : n = k := by
    rcases Nat.lt_trichotomy n k with h | h | h
    · exact absurd (g1 n h) h3.not_within
    · exact h
    · exact absurd (h1 k h) g3.not_within
  subst hnk
  have h5 : f_s.heap.size + 163 ≤ (stepsAlone start1.p0.tables start1.e0 n f_s).heap.size := g4
  have h6 : (stepsAlone start1.p0.tables start1.e0 n f_s).heap.size ≤ f_s.heap.size + 162 := h4.2.2.2.2.2.1
  omega
/-- one run of it: it ends, as it should, and the heap has grown by more than the claim's room -/
theorem f_run : ∃ (n : Nat) (o : Outcome), (∀ k : Nat, k < n → Within (stepsAlone start1.p0.tables start1.e0 k f_s) Lib.HandBits.below0) ∧ (stepsAlone start1.p0.tables start1.e0 n f_s).status = Status.running ∧ Ended (stepsAlone start1.p0.tables start1.e0 n f_s) Lib.HandBits.below0 o ∧ f_s.heap.size + 163 ≤ (stepsAlone start1.p0.tables start1.e0 n f_s).heap.size := by
  obtain ⟨k, o, g1, g2, g3, g4⟩ := f_walk launch0 rfl start1.p0 start1.e0 (launch0.admits_env _ _ _) fairChoices_fair.cas fairChoices_fair.clock f_s ⟨0, 0⟩ start1.args0 Lib.HandBits.below0 rfl ((Spec.applies_iff_loose rfl).mp f_app).1 ⟨rfl, f_ints, f_given⟩ trivial
  exact ⟨k, o, g1, g2, g3, g4⟩
theorem f_unframed {t : State} {o : Outcome} {L : List Loc} (h : f_s.heap.size + 163 ≤ t.heap.size) : ¬ Framed f_s o t L 162 11779 := fun hF => by
  have h6 : t.heap.size ≤ f_s.heap.size + 162 := hF.2.2.2.2.1
  omega
/-- the Statement's own words for 'refuted', of both limbs -/
theorem p48_falls_1 : RefutedClaimed_1_1 := by
  obtain ⟨n, o, h0, h1, h2, h3⟩ := f_run
  exact ⟨launch0, start1.p0, start1.e0, f_s, ⟨0, 0⟩, start1.args0, Lib.HandBits.below0, rfl, f_start, n, o, h0, h1, h2, fun hp => f_unframed h3 hp.2⟩
theorem p48_falls_2 : RefutedClaimed_1_2 := by
  obtain ⟨n, o, h0, h1, h2, h3⟩ := f_run
  exact ⟨launch0, start1.p0, start1.e0, f_s, ⟨0, 0⟩, start1.args0, Lib.HandBits.below0, rfl, f_start, n, o, h0, h1, h2, fun hp => f_unframed h3 hp.2⟩
/-- what is owed can't be had -/
theorem p48_refuted : ¬ (Claimed_1_1 ∧ Claimed_1_2) := fun h => p48_false h.1
