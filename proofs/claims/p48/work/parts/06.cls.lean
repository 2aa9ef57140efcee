theorem z_inWB {w : Cond} (h : w ∈ lw_tbl) (g : goodWord w = true) : w ∈ z_WB := List.mem_filter.mpr ⟨h, g⟩
theorem z_inWBs {ws : List Cond} (h : ws.all (fun w => decide (w ∈ lw_tbl) && goodWord w) = true) : ∀ w ∈ ws, w ∈ z_WB := by
  intro w hw
  have h1 := List.all_eq_true.mp h w hw
  simp only [Bool.and_eq_true, decide_eq_true_eq] at h1
  exact z_inWB h1.1 h1.2
set_option maxRecDepth 100000 in
theorem z_ws0 : ∀ w ∈ u_ws RX0 TX0 5, w ∈ z_WB := z_inWBs (by decide +kernel)
theorem z_kds0 : ∀ k, k < 5 → (z_kd (TX0 k).2.2.1 = 0 → tyX0 k = .int) ∧ (z_kd (TX0 k).2.2.1 = 2 → tyX0 k = .boolean) ∧ (z_kd (TX0 k).2.2.1 = 1 → (match tyX0 k with | .object _ => true | .array _ => true | _ => false) = true) := by decide +kernel
theorem z_cok0 : z_cok (RX0, TX0, 5) := ⟨⟨tyX0, tyX0_ok, fun k hk => ⟨(z_kds0 k hk).1, (z_kds0 k hk).2.1, fun h => by
  have h1 := (z_kds0 k hk).2.2 h
  generalize tyX0 k = t at h1
  cases t <;> simp at h1 ⊢⟩⟩, nmX0, z_ws0⟩
set_option maxRecDepth 100000 in
theorem z_ws1 : ∀ w ∈ u_ws RX1 TX1 4, w ∈ z_WB := z_inWBs (by decide +kernel)
theorem z_kds1 : ∀ k, k < 4 → (z_kd (TX1 k).2.2.1 = 0 → tyX1 k = .int) ∧ (z_kd (TX1 k).2.2.1 = 2 → tyX1 k = .boolean) ∧ (z_kd (TX1 k).2.2.1 = 1 → (match tyX1 k with | .object _ => true | .array _ => true | _ => false) = true) := by decide +kernel
theorem z_cok1 : z_cok (RX1, TX1, 4) := ⟨⟨tyX1, tyX1_ok, fun k hk => ⟨(z_kds1 k hk).1, (z_kds1 k hk).2.1, fun h => by
  have h1 := (z_kds1 k hk).2.2 h
  generalize tyX1 k = t at h1
  cases t <;> simp at h1 ⊢⟩⟩, nmX1, z_ws1⟩
set_option maxRecDepth 100000 in
theorem z_ws2 : ∀ w ∈ u_ws RX2 TX2 5, w ∈ z_WB := z_inWBs (by decide +kernel)
theorem z_kds2 : ∀ k, k < 5 → (z_kd (TX2 k).2.2.1 = 0 → tyX2 k = .int) ∧ (z_kd (TX2 k).2.2.1 = 2 → tyX2 k = .boolean) ∧ (z_kd (TX2 k).2.2.1 = 1 → (match tyX2 k with | .object _ => true | .array _ => true | _ => false) = true) := by decide +kernel
theorem z_cok2 : z_cok (RX2, TX2, 5) := ⟨⟨tyX2, tyX2_ok, fun k hk => ⟨(z_kds2 k hk).1, (z_kds2 k hk).2.1, fun h => by
  have h1 := (z_kds2 k hk).2.2 h
  generalize tyX2 k = t at h1
  cases t <;> simp at h1 ⊢⟩⟩, nmX2, z_ws2⟩
set_option maxRecDepth 100000 in
theorem z_ws3 : ∀ w ∈ u_ws RX3 TX3 6, w ∈ z_WB := z_inWBs (by decide +kernel)
theorem z_kds3 : ∀ k, k < 6 → (z_kd (TX3 k).2.2.1 = 0 → tyX3 k = .int) ∧ (z_kd (TX3 k).2.2.1 = 2 → tyX3 k = .boolean) ∧ (z_kd (TX3 k).2.2.1 = 1 → (match tyX3 k with | .object _ => true | .array _ => true | _ => false) = true) := by decide +kernel
theorem z_cok3 : z_cok (RX3, TX3, 6) := ⟨⟨tyX3, tyX3_ok, fun k hk => ⟨(z_kds3 k hk).1, (z_kds3 k hk).2.1, fun h => by
  have h1 := (z_kds3 k hk).2.2 h
  generalize tyX3 k = t at h1
  cases t <;> simp at h1 ⊢⟩⟩, nmX3, z_ws3⟩
set_option maxRecDepth 100000 in
theorem z_ws4 : ∀ w ∈ u_ws RX4 TX4 8, w ∈ z_WB := z_inWBs (by decide +kernel)
theorem z_kds4 : ∀ k, k < 8 → (z_kd (TX4 k).2.2.1 = 0 → tyX4 k = .int) ∧ (z_kd (TX4 k).2.2.1 = 2 → tyX4 k = .boolean) ∧ (z_kd (TX4 k).2.2.1 = 1 → (match tyX4 k with | .object _ => true | .array _ => true | _ => false) = true) := by decide +kernel
theorem z_cok4 : z_cok (RX4, TX4, 8) := ⟨⟨tyX4, tyX4_ok, fun k hk => ⟨(z_kds4 k hk).1, (z_kds4 k hk).2.1, fun h => by
  have h1 := (z_kds4 k hk).2.2 h
  generalize tyX4 k = t at h1
  cases t <;> simp at h1 ⊢⟩⟩, nmX4, z_ws4⟩
set_option maxRecDepth 100000 in
theorem z_ws5 : ∀ w ∈ u_ws RX5 TX5 12, w ∈ z_WB := z_inWBs (by decide +kernel)
theorem z_kds5 : ∀ k, k < 12 → (z_kd (TX5 k).2.2.1 = 0 → tyX5 k = .int) ∧ (z_kd (TX5 k).2.2.1 = 2 → tyX5 k = .boolean) ∧ (z_kd (TX5 k).2.2.1 = 1 → (match tyX5 k with | .object _ => true | .array _ => true | _ => false) = true) := by decide +kernel
theorem z_cok5 : z_cok (RX5, TX5, 12) := ⟨⟨tyX5, tyX5_ok, fun k hk => ⟨(z_kds5 k hk).1, (z_kds5 k hk).2.1, fun h => by
  have h1 := (z_kds5 k hk).2.2 h
  generalize tyX5 k = t at h1
  cases t <;> simp at h1 ⊢⟩⟩, nmX5, z_ws5⟩
set_option maxRecDepth 100000 in
theorem z_ws6 : ∀ w ∈ u_ws RX6 TX6 3, w ∈ z_WB := z_inWBs (by decide +kernel)
theorem z_kds6 : ∀ k, k < 3 → (z_kd (TX6 k).2.2.1 = 0 → tyX6 k = .int) ∧ (z_kd (TX6 k).2.2.1 = 2 → tyX6 k = .boolean) ∧ (z_kd (TX6 k).2.2.1 = 1 → (match tyX6 k with | .object _ => true | .array _ => true | _ => false) = true) := by decide +kernel
theorem z_cok6 : z_cok (RX6, TX6, 3) := ⟨⟨tyX6, tyX6_ok, fun k hk => ⟨(z_kds6 k hk).1, (z_kds6 k hk).2.1, fun h => by
  have h1 := (z_kds6 k hk).2.2 h
  generalize tyX6 k = t at h1
  cases t <;> simp at h1 ⊢⟩⟩, nmX6, z_ws6⟩
set_option maxRecDepth 100000 in
theorem z_ws7 : ∀ w ∈ u_ws RX7 TX7 9, w ∈ z_WB := z_inWBs (by decide +kernel)
theorem z_kds7 : ∀ k, k < 9 → (z_kd (TX7 k).2.2.1 = 0 → tyX7 k = .int) ∧ (z_kd (TX7 k).2.2.1 = 2 → tyX7 k = .boolean) ∧ (z_kd (TX7 k).2.2.1 = 1 → (match tyX7 k with | .object _ => true | .array _ => true | _ => false) = true) := by decide +kernel
theorem z_cok7 : z_cok (RX7, TX7, 9) := ⟨⟨tyX7, tyX7_ok, fun k hk => ⟨(z_kds7 k hk).1, (z_kds7 k hk).2.1, fun h => by
  have h1 := (z_kds7 k hk).2.2 h
  generalize tyX7 k = t at h1
  cases t <;> simp at h1 ⊢⟩⟩, nmX7, z_ws7⟩
set_option maxRecDepth 100000 in
theorem z_ws8 : ∀ w ∈ u_ws RX8 TX8 10, w ∈ z_WB := z_inWBs (by decide +kernel)
theorem z_kds8 : ∀ k, k < 10 → (z_kd (TX8 k).2.2.1 = 0 → tyX8 k = .int) ∧ (z_kd (TX8 k).2.2.1 = 2 → tyX8 k = .boolean) ∧ (z_kd (TX8 k).2.2.1 = 1 → (match tyX8 k with | .object _ => true | .array _ => true | _ => false) = true) := by decide +kernel
theorem z_cok8 : z_cok (RX8, TX8, 10) := ⟨⟨tyX8, tyX8_ok, fun k hk => ⟨(z_kds8 k hk).1, (z_kds8 k hk).2.1, fun h => by
  have h1 := (z_kds8 k hk).2.2 h
  generalize tyX8 k = t at h1
  cases t <;> simp at h1 ⊢⟩⟩, nmX8, z_ws8⟩
set_option maxRecDepth 100000 in
theorem z_ws9 : ∀ w ∈ u_ws RX9 TX9 6, w ∈ z_WB := z_inWBs (by decide +kernel)
theorem z_kds9 : ∀ k, k < 6 → (z_kd (TX9 k).2.2.1 = 0 → tyX9 k = .int) ∧ (z_kd (TX9 k).2.2.1 = 2 → tyX9 k = .boolean) ∧ (z_kd (TX9 k).2.2.1 = 1 → (match tyX9 k with | .object _ => true | .array _ => true | _ => false) = true) := by decide +kernel
theorem z_cok9 : z_cok (RX9, TX9, 6) := ⟨⟨tyX9, tyX9_ok, fun k hk => ⟨(z_kds9 k hk).1, (z_kds9 k hk).2.1, fun h => by
  have h1 := (z_kds9 k hk).2.2 h
  generalize tyX9 k = t at h1
  cases t <;> simp at h1 ⊢⟩⟩, nmX9, z_ws9⟩
set_option maxRecDepth 100000 in
theorem z_ws10 : ∀ w ∈ u_ws RX10 TX10 4, w ∈ z_WB := z_inWBs (by decide +kernel)
theorem z_kds10 : ∀ k, k < 4 → (z_kd (TX10 k).2.2.1 = 0 → tyX10 k = .int) ∧ (z_kd (TX10 k).2.2.1 = 2 → tyX10 k = .boolean) ∧ (z_kd (TX10 k).2.2.1 = 1 → (match tyX10 k with | .object _ => true | .array _ => true | _ => false) = true) := by decide +kernel
theorem z_cok10 : z_cok (RX10, TX10, 4) := ⟨⟨tyX10, tyX10_ok, fun k hk => ⟨(z_kds10 k hk).1, (z_kds10 k hk).2.1, fun h => by
  have h1 := (z_kds10 k hk).2.2 h
  generalize tyX10 k = t at h1
  cases t <;> simp at h1 ⊢⟩⟩, nmX10, z_ws10⟩
set_option maxRecDepth 100000 in
theorem z_ws11 : ∀ w ∈ u_ws RX11 TX11 16, w ∈ z_WB := z_inWBs (by decide +kernel)
theorem z_kds11 : ∀ k, k < 16 → (z_kd (TX11 k).2.2.1 = 0 → tyX11 k = .int) ∧ (z_kd (TX11 k).2.2.1 = 2 → tyX11 k = .boolean) ∧ (z_kd (TX11 k).2.2.1 = 1 → (match tyX11 k with | .object _ => true | .array _ => true | _ => false) = true) := by decide +kernel
theorem z_cok11 : z_cok (RX11, TX11, 16) := ⟨⟨tyX11, tyX11_ok, fun k hk => ⟨(z_kds11 k hk).1, (z_kds11 k hk).2.1, fun h => by
  have h1 := (z_kds11 k hk).2.2 h
  generalize tyX11 k = t at h1
  cases t <;> simp at h1 ⊢⟩⟩, nmX11, z_ws11⟩
theorem z_cls {ci : Nat} {r : vw_C} (h : vwCl[ci]? = some r) : z_cok r := by
  match ci, h with
  | 0, h => cases h; exact z_cok0
  | 1, h => cases h; exact z_cok1
  | 2, h => cases h; exact z_cok2
  | 3, h => cases h; exact z_cok3
  | 4, h => cases h; exact z_cok4
  | 5, h => cases h; exact z_cok5
  | 6, h => cases h; exact z_cok6
  | 7, h => cases h; exact z_cok7
  | 8, h => cases h; exact z_cok8
  | 9, h => cases h; exact z_cok9
  | 10, h => cases h; exact z_cok10
  | 11, h => cases h; exact z_cok11
  | n + 12, h => simp [vwCl] at h
