/-! A START with a script of its own: nothing else differs from the printed one -/
def f_cells : Array Value := #[.int 0, .int 0, .int 0, .int 0, .int 2, .int 0, .int 0, .int 11, .int 10, .int 0, .int 0, .int 11, .int 3, .int 11, .int 3, .int 11, .int 3, .int 11, .int 3, .int 11, .int 3, .int 11, .int 3, .int 11, .int 3, .int 11, .int 3, .int 11, .int 3, .int 11, .int 3, .int 11, .int 3, .int 11, .int 3, .int 11, .int 3, .int 11, .int 3, .int 11, .int 3, .int 11, .int 3, .int 11, .int 3, .int 11, .int 3, .int 11, .int 3, .int 11, .int 3, .int 11, .int 3, .int 11, .int 3, .int 11, .int 3, .int 11, .int 3, .int 11, .int 3, .int 11, .int 3, .int 11, .int 3, .int 11, .int 3, .int 11, .int 3, .int 11, .int 3, .int 11, .int 3, .int 11, .int 3, .int 11, .int 3, .int 11, .int 3, .int 11, .int 3, .int 11, .int 3, .int 11, .int 3, .int 11, .int 3, .int 11, .int 3, .int 11, .int 3, .int 11, .int 3, .int 11, .int 3, .int 11, .int 3, .int 11, .int 3, .int 11, .int 3, .int 11, .int 3, .int 11, .int 3, .int 11, .int 3, .int 11, .int 3, .int 11, .int 3, .int 11, .int 3, .int 11, .int 3]
def f_list : List Int32 := [0, 0, 0, 0, 2, 0, 0, 11, 10, 0, 0, 11, 3, 11, 3, 11, 3, 11, 3, 11, 3, 11, 3, 11, 3, 11, 3, 11, 3, 11, 3, 11, 3, 11, 3, 11, 3, 11, 3, 11, 3, 11, 3, 11, 3, 11, 3, 11, 3, 11, 3, 11, 3, 11, 3, 11, 3, 11, 3, 11, 3, 11, 3, 11, 3, 11, 3, 11, 3, 11, 3, 11, 3, 11, 3, 11, 3, 11, 3, 11, 3, 11, 3, 11, 3, 11, 3, 11, 3, 11, 3, 11, 3, 11, 3, 11, 3, 11, 3, 11, 3, 11, 3, 11, 3, 11, 3, 11, 3, 11, 3, 11, 3, 11, 3]
def f_s : State := start1.aboutOf f_cells
abbrev f_room : Room := { frames := 40, cells := 4000, slots := 60000, locals := 8000 }
set_option maxRecDepth 16384 in
theorem f_on : (Cond.code x code maxLocals ret :: tables_1).all (fun c => c.onTables || c.before start1.args0 f_s) = true := by decide +kernel
theorem f_words : ∀ c ∈ (Cond.code x code maxLocals ret :: tables_1), c.before start1.args0 f_s = true := fun c hc => by
  have h := List.all_eq_true.mp f_on c hc
  simp only [Bool.or_eq_true] at h
  rcases h with h | h
  · exact va_tabs (u := start1.about) (U := f_s) h rfl (start1.words c hc)
  · exact h
set_option maxRecDepth 16384 in
theorem f_fit : argsFit f_s.vm ⟨0, 0⟩ start1.args0 = true := by decide +kernel
set_option maxRecDepth 16384 in
theorem f_heap : heapFits f_s = true := by decide +kernel
set_option maxRecDepth 16384 in
theorem f_app1 : (headSpec (Cond.code x code maxLocals ret :: tables_1) room_1).applies x start1.e0.platform f_s = true :=
  (Spec.applies_iff rfl).mpr ⟨rfl, rfl, rfl, by decide +kernel, by decide +kernel, by decide +kernel, launch0.hasRoom_least _ room_1 (by decide +kernel) (by decide +kernel) (by decide +kernel) (by decide +kernel) (by decide +kernel) (by decide +kernel), atoms_intro f_words⟩
set_option maxRecDepth 16384 in
theorem f_app : (headSpec (Cond.code x code maxLocals ret :: tables_1) f_room).applies x start1.e0.platform f_s = true :=
  (Spec.applies_iff rfl).mpr ⟨rfl, rfl, rfl, by decide +kernel, by decide +kernel, by decide +kernel, launch0.hasRoom_least _ f_room (by decide +kernel) (by decide +kernel) (by decide +kernel) (by decide +kernel) (by decide +kernel) (by decide +kernel), atoms_intro f_words⟩
set_option maxRecDepth 16384 in
theorem f_rest : rest_1_c.before start1.args0 f_s = true := by decide +kernel
set_option maxRecDepth 16384 in
theorem f_given : (Cond.and given_1 narrow_1).before start1.args0 f_s = true := by decide +kernel
theorem f_start : AtStart classFile x code maxLocals ret World_1 tables_1 room_1 Calls_1 rest_1 Pre_1 launch0 start1.p0 start1.e0 f_s ⟨0, 0⟩ start1.args0 Lib.HandBits.below0 :=
  ⟨lists_1, trivial, launch0.admits_env _ _ _, launch0.least_env, fairChoices_fair.cas, fairChoices_fair.clock, rfl, f_fit, f_heap, f_app1, trivial, f_rest, f_given⟩
