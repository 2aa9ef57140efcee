theorem z_go2 {X : z_X} {Y : z_Y} (C : z_C X Y) (pc : Nat) (is : List (Instr × Nat)) {lv : List (Nat × z_V)} {st : List z_V} {w : z_W} {nc ns : Nat} (k' : z_K) {P : Prop} (hc : z_chk Y.2.1 pc is = true) (h : z_run Y is (pc, lv, st, w, nc, ns) = some (P, k')) (hP : P) (g : z_G X Y k') : z_G X Y (pc, lv, st, w, nc, ns) := z_go_on C is hc h hP g
def zAt (f : Nat → Int32) (len : Nat) (i : Int32) : Int32 := if i < 0 ∨ len ≤ i.toNatClampNeg then 0 else f i.toNatClampNeg
theorem z_notin {i : Int32} {len : Nat} (hl : len < 2147483648) (h : Int32.ofNat len ≤ i) : i < 0 ∨ len ≤ i.toNatClampNeg := by
  by_cases h0 : i < 0
  · exact Or.inl h0
  · obtain ⟨j, hj, rfl⟩ := nI_of h0
    refine Or.inr ?_
    rw [nI_clamp hj]
    exact (nI_leI (by omega) hj).mp h
theorem z_isin {i : Int32} {len : Nat} (hl : len < 2147483648) (h0 : ¬ i < 0) (h : ¬ Int32.ofNat len ≤ i) : vp_in i len := by
  obtain ⟨j, hj, rfl⟩ := nI_of h0
  refine vp_in_nI ?_ (by omega)
  exact Nat.lt_of_not_le fun q => h ((nI_leI (by omega) hj).mpr q)
theorem c_at (w : z_W) (a len : Nat) (hT : w.1 a = (2, len)) (hlen : len < 2147483648) (i : Int32) : z_Run (zr 0) zm_T_at [z_r a, .inl i] w (zq (some (.inl (zAt (w.2.2.1 a) len i))) w) := by
  refine z_body (by decide) zf_T_ok (Nat.le_of_ble_eq_true rfl) (fun X M => ?_)
  refine z_go2 M.1 0 [(.iload_n 1, 1)] (1, [(0, z_r a), (1, .inl i)], [.inl i], w, 0, 0) (by decide +kernel) rfl ⟨trivial, trivial⟩ ?_
  refine z_if_lt 16 M.1 (off := 15) (by decide +kernel) (by decide) (fun h1 => ?_) (fun h1 => ?_)
  · refine z_go2 M.1 16 [(.iconst 0, 1)] (17, [(0, z_r a), (1, .inl i)], [.inl 0], w, 0, 0) (by decide +kernel) rfl ⟨trivial, trivial⟩ ?_
    exact z_iret M (by decide +kernel) .int rfl rfl (Nat.le_refl _) (Nat.le_refl _) ⟨by rw [zAt, if_pos (Or.inl h1)], rfl⟩
  · refine z_go2 M.1 4 [(.iload_n 1, 1), (.aload_n 0, 1), (.arraylength, 1)] (7, [(0, z_r a), (1, .inl i)], [.inl (Int32.ofNat (w.1 a).2), .inl i], w, 0, 0) (by decide +kernel) rfl ⟨trivial, trivial, by rw [hT], trivial⟩ ?_
    refine z_icmp_ge 16 M.1 (off := 9) (by decide +kernel) (by decide) (fun h2 => ?_) (fun h2 => ?_)
    · rw [hT] at h2
      refine z_go2 M.1 16 [(.iconst 0, 1)] (17, [(0, z_r a), (1, .inl i)], [.inl 0], w, 0, 0) (by decide +kernel) rfl ⟨trivial, trivial⟩ ?_
      exact z_iret M (by decide +kernel) .int rfl rfl (Nat.le_refl _) (Nat.le_refl _) ⟨by rw [zAt, if_pos (z_notin hlen h2)], rfl⟩
    · rw [hT] at h2
      have hin := z_isin hlen h1 h2
      refine z_go2 M.1 10 [(.aload_n 0, 1), (.iload_n 1, 1), (.iaload, 1), (.goto 4, 3)] (17, [(0, z_r a), (1, .inl i)], [.inl (w.2.2.1 a i.toNatClampNeg)], w, 0, 0) (by decide +kernel) rfl ⟨trivial, trivial, ⟨by rw [hT], by rw [hT]; exact hin⟩, trivial, trivial⟩ ?_
      exact z_iret M (by decide +kernel) .int rfl rfl (Nat.le_refl _) (Nat.le_refl _) ⟨by rw [zAt, if_neg hin], rfl⟩
def zPut (S : Nat → Nat → Int32) (a len : Nat) (i x : Int32) : Nat → Nat → Int32 := if i < 0 ∨ len ≤ i.toNatClampNeg then S else z_uS S a i.toNatClampNeg x
theorem c_put (w : z_W) (a len : Nat) (hT : w.1 a = (2, len)) (hlen : len < 2147483648) (i x : Int32) : z_Run (zr 0) zm_T_put [z_r a, .inl i, .inl x] w (zq none (w.1, w.2.1, zPut w.2.2.1 a len i x, w.2.2.2)) := by
  refine z_body (by decide) zf_T_ok (Nat.le_of_ble_eq_true rfl) (fun X M => ?_)
  refine z_go2 M.1 0 [(.iload_n 1, 1)] (1, [(0, z_r a), (1, .inl i), (2, .inl x)], [.inl i], w, 0, 0) (by decide +kernel) rfl ⟨trivial, trivial⟩ ?_
  refine z_if_lt 14 M.1 (off := 13) (by decide +kernel) (by decide) (fun h1 => ?_) (fun h1 => ?_)
  · exact z_vret M (by decide +kernel) rfl (Nat.le_refl _) (Nat.le_refl _) ⟨rfl, by rw [zPut, if_pos (Or.inl h1)]⟩
  · refine z_go2 M.1 4 [(.iload_n 1, 1), (.aload_n 0, 1), (.arraylength, 1)] (7, [(0, z_r a), (1, .inl i), (2, .inl x)], [.inl (Int32.ofNat (w.1 a).2), .inl i], w, 0, 0) (by decide +kernel) rfl ⟨trivial, trivial, by rw [hT], trivial⟩ ?_
    refine z_icmp_ge 14 M.1 (off := 7) (by decide +kernel) (by decide) (fun h2 => ?_) (fun h2 => ?_)
    · rw [hT] at h2
      exact z_vret M (by decide +kernel) rfl (Nat.le_refl _) (Nat.le_refl _) ⟨rfl, by rw [zPut, if_pos (z_notin hlen h2)]⟩
    · rw [hT] at h2
      have hin := z_isin hlen h1 h2
      refine z_go2 M.1 10 [(.aload_n 0, 1), (.iload_n 1, 1), (.iload_n 2, 1), (.iastore, 1)] (14, [(0, z_r a), (1, .inl i), (2, .inl x)], [], (w.1, w.2.1, z_uS w.2.2.1 a i.toNatClampNeg x, w.2.2.2), 0, 0) (by decide +kernel) rfl ⟨trivial, trivial, trivial, ⟨by rw [hT], by rw [hT]; exact hin⟩, trivial⟩ ?_
      exact z_vret M (by decide +kernel) rfl (Nat.le_refl _) (Nat.le_refl _) ⟨rfl, by rw [zPut, if_neg hin]⟩

