/-! publish: a workflow made anew -/
def zGs (G' : Nat → Nat → Option Nat) (i f : Nat) : Nat → Nat → Option Nat := fun k j => if k = 131 ∧ j = i then some f else G' k j
def zflp (fl : Nat → Nat) (i f : Nat) : Nat → Nat := fun k => if k = i then f else fl k
theorem zG_131 (G' : Nat → Nat → Option Nat) (j : Nat) : zG G' 131 j = G' 131 j := by
  unfold zG
  have h : (zG0.getD (131 / 16) []).getD (131 % 16) [] = [] := by decide +kernel
  rw [h]
  rfl
theorem zGs_put (G' : Nat → Nat → Option Nat) (i f : Nat) : z_uG (zG G') 131 i (some f) = zG (zGs G' i f) := by
  funext k
  by_cases hk : k = 131
  · subst hk
    rw [z_uG_self]
    funext j
    rw [zG_131, zG_131]
    by_cases hj : j = i
    · simp [zGs, hj]
    · simp [zGs, hj]
  · rw [z_uG_ne _ _ _ hk]
    funext j
    unfold zG
    have : zGs G' i f k j = G' k j := by simp [zGs, hk]
    rw [this]
theorem zGs_ne (G' : Nat → Nat → Option Nat) (i f : Nat) {k : Nat} (hk : k ≠ 131) : zG (zGs G' i f) k = zG G' k := by
  funext j
  unfold zG
  have : zGs G' i f k j = G' k j := by simp [zGs, hk]
  rw [this]
theorem zFo.ne131 {T' : Nat → Nat × Nat} {G' : Nat → Nat → Option Nat} {f : Nat} (h : zFo T' G' f) : f ≠ 131 := by
  rintro rfl
  have h1 : ((6, 3) : Nat × Nat) = (1, 12) := h.1
  exact absurd h1 (by decide)
theorem zOK.put {T' : Nat → Nat × Nat} {G' : Nat → Nat → Option Nat} {fl : Nat → Nat} {n f : Nat} {i : Int32} (h : zOK T' G' fl n) (hi : vp_in i 3) (hf : zFo T' G' f) (hlt : f + 7 < n) : zOK T' (zGs G' i.toNatClampNeg f) (zflp fl i.toNatClampNeg f) n := by
  refine ⟨h.1, fun k hk => ?_⟩
  by_cases hki : k = i.toNatClampNeg
  · refine ⟨?_, ?_, ?_⟩
    · rw [zG_131]; simp [zGs, zflp, hki]
    · have : zflp fl i.toNatClampNeg f k = f := by simp [zflp, hki]
      rw [this]; exact hf.sg (zGs_ne _ _ _ hf.ne131)
    · have : zflp fl i.toNatClampNeg f k = f := by simp [zflp, hki]
      rw [this]; exact hlt
  · have e : zflp fl i.toNatClampNeg f k = fl k := by simp [zflp, hki]
    refine ⟨?_, ?_, ?_⟩
    · rw [e, zG_131]
      have := (h.2 k hk).1
      rw [zG_131] at this
      simp [zGs, hki, this]
    · rw [e]; exact ((h.2 k hk).2.1).sg (zGs_ne _ _ _ ((h.2 k hk).2.1).ne131)
    · rw [e]; exact (h.2 k hk).2.2
theorem z_uG_hi (G' : Nat → Nat → Option Nat) {f : Nat} (hf : 194 ≤ f) (j : Nat) (v : Option Nat) : z_uG (zG G') f j v = zG (z_uG G' f j v) := by
  funext k
  by_cases hk : k = f
  · subst hk
    rw [z_uG_self]
    funext j'
    rw [zG_hi _ hf, zG_hi _ hf, z_uG_self]
  · rw [z_uG_ne _ _ _ hk]
    funext j'
    unfold zG
    rw [z_uG_ne _ _ _ hk]
section Z38
variable {X : z_X} {Y : z_Y} {pc nc ns idx : Nat} {lv : List (Nat × z_V)} {st : List z_V}
theorem z_aasF {T' : Nat → Nat × Nat} {G' : Nat → Nat → Option Nat} {S : Nat → Nat → Int32} {n f : Nat} {i : Int32} (C : z_C X Y) (hd : decode Y.2.1 pc = .ok (.aastore, 1)) (hin : vp_in i 3) (hf : zFo T' G' f) (k : z_G X Y (pc + 1, lv, st, zW T' (zGs G' i.toNatClampNeg f) S n, nc, ns)) : z_G X Y (pc, lv, z_r f :: .inl i :: z_r 131 :: st, zW T' G' S n, nc, ns) := by
  refine z_aast (len := 3) C hd rfl hin hf.1 ?_
  show z_G X Y (pc + 1, lv, st, (zT T', z_uG (zG G') 131 i.toNatClampNeg (some f), S, n), nc, ns)
  rw [zGs_put]
  exact k
end Z38

def zTf (T' : Nat → Nat × Nat) (n : Nat) : Nat → Nat × Nat := zTn (zTn (zTn (zTn (zTn (zTn (zTn (zTn T' n (1, 12)) (n + 1) (2, 8)) (n + 2) (2, 8)) (n + 3) (2, 8)) (n + 4) (2, 8)) (n + 5) (2, 8)) (n + 6) (2, 8)) (n + 7) (2, 6)
def zGf (G' : Nat → Nat → Option Nat) (n : Nat) : Nat → Nat → Option Nat := z_uG (zGn (z_uG (zGn (z_uG (zGn (z_uG (zGn (z_uG (zGn (z_uG (zGn (z_uG (zGn (zGn G' n) (n + 1)) n 2 (some (n + 1))) (n + 2)) n 3 (some (n + 2))) (n + 3)) n 4 (some (n + 3))) (n + 4)) n 5 (some (n + 4))) (n + 5)) n 6 (some (n + 5))) (n + 6)) n 7 (some (n + 6))) (n + 7)) n 8 (some (n + 7))
def zSf (S : (Nat → Nat → Int32)) (n : Nat) : (Nat → Nat → Int32) := zSn (zSn (zSn (zSn (zSn (zSn (zSn (z_uS (S) n 0 1) (n + 1)) (n + 2)) (n + 3)) (n + 4)) (n + 5)) (n + 6)) (n + 7)
theorem c_MF_init (T' : Nat → Nat × Nat) (G' : Nat → Nat → Option Nat) (S : (Nat → Nat → Int32)) (n : Nat) (hn : 194 ≤ n) : z_Run (zg 1 7 54) zm_MF_init [z_r n] (zW (zTn T' n (1, 12)) (zGn G' n) S (n + 1)) (zq none (zW (zTf T' n) (zGf G' n) (zSf S n) (n + 8))) := by
  refine z_body (by decide) zf_MF_ok (Nat.le_of_ble_eq_true rfl) (fun X M => ?_)
  show z_G X zm_MF_init (0, [(0, z_r n)], [], zW (zTn T' n (1, 12)) (zGn G' n) S (n + 1), 0, 0)
  refine z_go2 M.1 0 [(.aload_n 0, 1)] (1, [(0, z_r n)], [z_r n], zW (zTn T' n (1, 12)) (zGn G' n) (S) (n + 1), 0, 0) (by decide +kernel) rfl ⟨trivial, trivial⟩ ?_
  refine z_objInit (idx := 1) M.1 (by decide +kernel) M.2.1 (z_wi 1577 (by decide +kernel) rfl) (z_wi 184 (by decide +kernel) rfl) (z_wi 185 (by decide +kernel) rfl) rfl (by decide) (by decide) (Nat.le_of_ble_eq_true rfl) ?_
  refine z_go2 M.1 4 [(.aload_n 0, 1), (.iconst 1, 1)] (6, [(0, z_r n)], [.inl 1, z_r n], zW (zTn T' n (1, 12)) (zGn G' n) (S) (n + 1), 0, 0) (by decide +kernel) rfl ⟨trivial, trivial, trivial⟩ ?_
  refine z_put (idx := 7) (ci := 12) (j := 0) (kd := 0) M.1 (by decide +kernel) (by decide) (by show zT _ n = _; rw [zT_hi _ hn]; simp [zTn]) trivial ?_
  show z_G X zm_MF_init (9, [(0, z_r n)], [], zW (zTn T' n (1, 12)) (zGn G' n) (z_uS (S) n 0 1) (n + 1), 0, 0)
  refine z_go2 M.1 9 [(.aload_n 0, 1), (.bipush 8, 2)] (12, [(0, z_r n)], [.inl 8, z_r n], zW (zTn T' n (1, 12)) (zGn G' n) (z_uS (S) n 0 1) (n + 1), 0, 0) (by decide +kernel) rfl ⟨trivial, trivial, trivial⟩ ?_
  refine z_newa (aty := .int) (N := 8) M.1 (by decide +kernel) M.2.1 (z_wi 235 (by decide +kernel) rfl) (by decide) (by decide) (by decide) (by decide) (by decide) ?_
  rw [z_nw_zW _ _ _ (by omega)]
  show z_G X zm_MF_init (14, [(0, z_r n)], [z_r (n + 1), z_r n], zW (zTn (zTn T' n (1, 12)) (n + 1) (2, 8)) (zGn (zGn G' n) (n + 1)) (zSn (z_uS (S) n 0 1) (n + 1)) (n + 2), 1, 8)
  refine z_putF (idx := 13) (ci := 12) (j := 2) (kd := 1) M.1 (by decide +kernel) (by decide) rfl (fun r h => by injection h with h; subst h; rfl) (by show zT _ n = _; rw [zT_hi _ hn]; simp [zTn]) trivial ?_
  show z_G X zm_MF_init (17, [(0, z_r n)], [], (zT (zTn (zTn T' n (1, 12)) (n + 1) (2, 8)), z_uG (zG (zGn (zGn G' n) (n + 1))) n 2 (some (n + 1)), zSn (z_uS (S) n 0 1) (n + 1), n + 2), 1, 8)
  rw [z_uG_hi _ hn]
  show z_G X zm_MF_init (17, [(0, z_r n)], [], zW (zTn (zTn T' n (1, 12)) (n + 1) (2, 8)) (z_uG (zGn (zGn G' n) (n + 1)) n 2 (some (n + 1))) (zSn (z_uS (S) n 0 1) (n + 1)) (n + 2), 1, 8)
  refine z_go2 M.1 17 [(.aload_n 0, 1), (.bipush 8, 2)] (20, [(0, z_r n)], [.inl 8, z_r n], zW (zTn (zTn T' n (1, 12)) (n + 1) (2, 8)) (z_uG (zGn (zGn G' n) (n + 1)) n 2 (some (n + 1))) (zSn (z_uS (S) n 0 1) (n + 1)) (n + 2), 1, 8) (by decide +kernel) rfl ⟨trivial, trivial, trivial⟩ ?_
  refine z_newa (aty := .int) (N := 8) M.1 (by decide +kernel) M.2.1 (z_wi 235 (by decide +kernel) rfl) (by decide) (by decide) (by decide) (by decide) (by decide) ?_
  rw [z_nw_zW _ _ _ (by omega)]
  show z_G X zm_MF_init (22, [(0, z_r n)], [z_r (n + 2), z_r n], zW (zTn (zTn (zTn T' n (1, 12)) (n + 1) (2, 8)) (n + 2) (2, 8)) (zGn (z_uG (zGn (zGn G' n) (n + 1)) n 2 (some (n + 1))) (n + 2)) (zSn (zSn (z_uS (S) n 0 1) (n + 1)) (n + 2)) (n + 3), 2, 16)
  refine z_putF (idx := 17) (ci := 12) (j := 3) (kd := 1) M.1 (by decide +kernel) (by decide) rfl (fun r h => by injection h with h; subst h; rfl) (by show zT _ n = _; rw [zT_hi _ hn]; simp [zTn]) trivial ?_
  show z_G X zm_MF_init (25, [(0, z_r n)], [], (zT (zTn (zTn (zTn T' n (1, 12)) (n + 1) (2, 8)) (n + 2) (2, 8)), z_uG (zG (zGn (z_uG (zGn (zGn G' n) (n + 1)) n 2 (some (n + 1))) (n + 2))) n 3 (some (n + 2)), zSn (zSn (z_uS (S) n 0 1) (n + 1)) (n + 2), n + 3), 2, 16)
  rw [z_uG_hi _ hn]
  show z_G X zm_MF_init (25, [(0, z_r n)], [], zW (zTn (zTn (zTn T' n (1, 12)) (n + 1) (2, 8)) (n + 2) (2, 8)) (z_uG (zGn (z_uG (zGn (zGn G' n) (n + 1)) n 2 (some (n + 1))) (n + 2)) n 3 (some (n + 2))) (zSn (zSn (z_uS (S) n 0 1) (n + 1)) (n + 2)) (n + 3), 2, 16)
  refine z_go2 M.1 25 [(.aload_n 0, 1), (.bipush 8, 2)] (28, [(0, z_r n)], [.inl 8, z_r n], zW (zTn (zTn (zTn T' n (1, 12)) (n + 1) (2, 8)) (n + 2) (2, 8)) (z_uG (zGn (z_uG (zGn (zGn G' n) (n + 1)) n 2 (some (n + 1))) (n + 2)) n 3 (some (n + 2))) (zSn (zSn (z_uS (S) n 0 1) (n + 1)) (n + 2)) (n + 3), 2, 16) (by decide +kernel) rfl ⟨trivial, trivial, trivial⟩ ?_
  refine z_newa (aty := .int) (N := 8) M.1 (by decide +kernel) M.2.1 (z_wi 235 (by decide +kernel) rfl) (by decide) (by decide) (by decide) (by decide) (by decide) ?_
  rw [z_nw_zW _ _ _ (by omega)]
  show z_G X zm_MF_init (30, [(0, z_r n)], [z_r (n + 3), z_r n], zW (zTn (zTn (zTn (zTn T' n (1, 12)) (n + 1) (2, 8)) (n + 2) (2, 8)) (n + 3) (2, 8)) (zGn (z_uG (zGn (z_uG (zGn (zGn G' n) (n + 1)) n 2 (some (n + 1))) (n + 2)) n 3 (some (n + 2))) (n + 3)) (zSn (zSn (zSn (z_uS (S) n 0 1) (n + 1)) (n + 2)) (n + 3)) (n + 4), 3, 24)
  refine z_putF (idx := 20) (ci := 12) (j := 4) (kd := 1) M.1 (by decide +kernel) (by decide) rfl (fun r h => by injection h with h; subst h; rfl) (by show zT _ n = _; rw [zT_hi _ hn]; simp [zTn]) trivial ?_
  show z_G X zm_MF_init (33, [(0, z_r n)], [], (zT (zTn (zTn (zTn (zTn T' n (1, 12)) (n + 1) (2, 8)) (n + 2) (2, 8)) (n + 3) (2, 8)), z_uG (zG (zGn (z_uG (zGn (z_uG (zGn (zGn G' n) (n + 1)) n 2 (some (n + 1))) (n + 2)) n 3 (some (n + 2))) (n + 3))) n 4 (some (n + 3)), zSn (zSn (zSn (z_uS (S) n 0 1) (n + 1)) (n + 2)) (n + 3), n + 4), 3, 24)
  rw [z_uG_hi _ hn]
  show z_G X zm_MF_init (33, [(0, z_r n)], [], zW (zTn (zTn (zTn (zTn T' n (1, 12)) (n + 1) (2, 8)) (n + 2) (2, 8)) (n + 3) (2, 8)) (z_uG (zGn (z_uG (zGn (z_uG (zGn (zGn G' n) (n + 1)) n 2 (some (n + 1))) (n + 2)) n 3 (some (n + 2))) (n + 3)) n 4 (some (n + 3))) (zSn (zSn (zSn (z_uS (S) n 0 1) (n + 1)) (n + 2)) (n + 3)) (n + 4), 3, 24)
  refine z_go2 M.1 33 [(.aload_n 0, 1), (.bipush 8, 2)] (36, [(0, z_r n)], [.inl 8, z_r n], zW (zTn (zTn (zTn (zTn T' n (1, 12)) (n + 1) (2, 8)) (n + 2) (2, 8)) (n + 3) (2, 8)) (z_uG (zGn (z_uG (zGn (z_uG (zGn (zGn G' n) (n + 1)) n 2 (some (n + 1))) (n + 2)) n 3 (some (n + 2))) (n + 3)) n 4 (some (n + 3))) (zSn (zSn (zSn (z_uS (S) n 0 1) (n + 1)) (n + 2)) (n + 3)) (n + 4), 3, 24) (by decide +kernel) rfl ⟨trivial, trivial, trivial⟩ ?_
  refine z_newa (aty := .int) (N := 8) M.1 (by decide +kernel) M.2.1 (z_wi 235 (by decide +kernel) rfl) (by decide) (by decide) (by decide) (by decide) (by decide) ?_
  rw [z_nw_zW _ _ _ (by omega)]
  show z_G X zm_MF_init (38, [(0, z_r n)], [z_r (n + 4), z_r n], zW (zTn (zTn (zTn (zTn (zTn T' n (1, 12)) (n + 1) (2, 8)) (n + 2) (2, 8)) (n + 3) (2, 8)) (n + 4) (2, 8)) (zGn (z_uG (zGn (z_uG (zGn (z_uG (zGn (zGn G' n) (n + 1)) n 2 (some (n + 1))) (n + 2)) n 3 (some (n + 2))) (n + 3)) n 4 (some (n + 3))) (n + 4)) (zSn (zSn (zSn (zSn (z_uS (S) n 0 1) (n + 1)) (n + 2)) (n + 3)) (n + 4)) (n + 5), 4, 32)
  refine z_putF (idx := 23) (ci := 12) (j := 5) (kd := 1) M.1 (by decide +kernel) (by decide) rfl (fun r h => by injection h with h; subst h; rfl) (by show zT _ n = _; rw [zT_hi _ hn]; simp [zTn]) trivial ?_
  show z_G X zm_MF_init (41, [(0, z_r n)], [], (zT (zTn (zTn (zTn (zTn (zTn T' n (1, 12)) (n + 1) (2, 8)) (n + 2) (2, 8)) (n + 3) (2, 8)) (n + 4) (2, 8)), z_uG (zG (zGn (z_uG (zGn (z_uG (zGn (z_uG (zGn (zGn G' n) (n + 1)) n 2 (some (n + 1))) (n + 2)) n 3 (some (n + 2))) (n + 3)) n 4 (some (n + 3))) (n + 4))) n 5 (some (n + 4)), zSn (zSn (zSn (zSn (z_uS (S) n 0 1) (n + 1)) (n + 2)) (n + 3)) (n + 4), n + 5), 4, 32)
  rw [z_uG_hi _ hn]
  show z_G X zm_MF_init (41, [(0, z_r n)], [], zW (zTn (zTn (zTn (zTn (zTn T' n (1, 12)) (n + 1) (2, 8)) (n + 2) (2, 8)) (n + 3) (2, 8)) (n + 4) (2, 8)) (z_uG (zGn (z_uG (zGn (z_uG (zGn (z_uG (zGn (zGn G' n) (n + 1)) n 2 (some (n + 1))) (n + 2)) n 3 (some (n + 2))) (n + 3)) n 4 (some (n + 3))) (n + 4)) n 5 (some (n + 4))) (zSn (zSn (zSn (zSn (z_uS (S) n 0 1) (n + 1)) (n + 2)) (n + 3)) (n + 4)) (n + 5), 4, 32)
  refine z_go2 M.1 41 [(.aload_n 0, 1), (.bipush 8, 2)] (44, [(0, z_r n)], [.inl 8, z_r n], zW (zTn (zTn (zTn (zTn (zTn T' n (1, 12)) (n + 1) (2, 8)) (n + 2) (2, 8)) (n + 3) (2, 8)) (n + 4) (2, 8)) (z_uG (zGn (z_uG (zGn (z_uG (zGn (z_uG (zGn (zGn G' n) (n + 1)) n 2 (some (n + 1))) (n + 2)) n 3 (some (n + 2))) (n + 3)) n 4 (some (n + 3))) (n + 4)) n 5 (some (n + 4))) (zSn (zSn (zSn (zSn (z_uS (S) n 0 1) (n + 1)) (n + 2)) (n + 3)) (n + 4)) (n + 5), 4, 32) (by decide +kernel) rfl ⟨trivial, trivial, trivial⟩ ?_
  refine z_newa (aty := .int) (N := 8) M.1 (by decide +kernel) M.2.1 (z_wi 235 (by decide +kernel) rfl) (by decide) (by decide) (by decide) (by decide) (by decide) ?_
  rw [z_nw_zW _ _ _ (by omega)]
  show z_G X zm_MF_init (46, [(0, z_r n)], [z_r (n + 5), z_r n], zW (zTn (zTn (zTn (zTn (zTn (zTn T' n (1, 12)) (n + 1) (2, 8)) (n + 2) (2, 8)) (n + 3) (2, 8)) (n + 4) (2, 8)) (n + 5) (2, 8)) (zGn (z_uG (zGn (z_uG (zGn (z_uG (zGn (z_uG (zGn (zGn G' n) (n + 1)) n 2 (some (n + 1))) (n + 2)) n 3 (some (n + 2))) (n + 3)) n 4 (some (n + 3))) (n + 4)) n 5 (some (n + 4))) (n + 5)) (zSn (zSn (zSn (zSn (zSn (z_uS (S) n 0 1) (n + 1)) (n + 2)) (n + 3)) (n + 4)) (n + 5)) (n + 6), 5, 40)
  refine z_putF (idx := 26) (ci := 12) (j := 6) (kd := 1) M.1 (by decide +kernel) (by decide) rfl (fun r h => by injection h with h; subst h; rfl) (by show zT _ n = _; rw [zT_hi _ hn]; simp [zTn]) trivial ?_
  show z_G X zm_MF_init (49, [(0, z_r n)], [], (zT (zTn (zTn (zTn (zTn (zTn (zTn T' n (1, 12)) (n + 1) (2, 8)) (n + 2) (2, 8)) (n + 3) (2, 8)) (n + 4) (2, 8)) (n + 5) (2, 8)), z_uG (zG (zGn (z_uG (zGn (z_uG (zGn (z_uG (zGn (z_uG (zGn (zGn G' n) (n + 1)) n 2 (some (n + 1))) (n + 2)) n 3 (some (n + 2))) (n + 3)) n 4 (some (n + 3))) (n + 4)) n 5 (some (n + 4))) (n + 5))) n 6 (some (n + 5)), zSn (zSn (zSn (zSn (zSn (z_uS (S) n 0 1) (n + 1)) (n + 2)) (n + 3)) (n + 4)) (n + 5), n + 6), 5, 40)
  rw [z_uG_hi _ hn]
  show z_G X zm_MF_init (49, [(0, z_r n)], [], zW (zTn (zTn (zTn (zTn (zTn (zTn T' n (1, 12)) (n + 1) (2, 8)) (n + 2) (2, 8)) (n + 3) (2, 8)) (n + 4) (2, 8)) (n + 5) (2, 8)) (z_uG (zGn (z_uG (zGn (z_uG (zGn (z_uG (zGn (z_uG (zGn (zGn G' n) (n + 1)) n 2 (some (n + 1))) (n + 2)) n 3 (some (n + 2))) (n + 3)) n 4 (some (n + 3))) (n + 4)) n 5 (some (n + 4))) (n + 5)) n 6 (some (n + 5))) (zSn (zSn (zSn (zSn (zSn (z_uS (S) n 0 1) (n + 1)) (n + 2)) (n + 3)) (n + 4)) (n + 5)) (n + 6), 5, 40)
  refine z_go2 M.1 49 [(.aload_n 0, 1), (.bipush 8, 2)] (52, [(0, z_r n)], [.inl 8, z_r n], zW (zTn (zTn (zTn (zTn (zTn (zTn T' n (1, 12)) (n + 1) (2, 8)) (n + 2) (2, 8)) (n + 3) (2, 8)) (n + 4) (2, 8)) (n + 5) (2, 8)) (z_uG (zGn (z_uG (zGn (z_uG (zGn (z_uG (zGn (z_uG (zGn (zGn G' n) (n + 1)) n 2 (some (n + 1))) (n + 2)) n 3 (some (n + 2))) (n + 3)) n 4 (some (n + 3))) (n + 4)) n 5 (some (n + 4))) (n + 5)) n 6 (some (n + 5))) (zSn (zSn (zSn (zSn (zSn (z_uS (S) n 0 1) (n + 1)) (n + 2)) (n + 3)) (n + 4)) (n + 5)) (n + 6), 5, 40) (by decide +kernel) rfl ⟨trivial, trivial, trivial⟩ ?_
  refine z_newa (aty := .int) (N := 8) M.1 (by decide +kernel) M.2.1 (z_wi 235 (by decide +kernel) rfl) (by decide) (by decide) (by decide) (by decide) (by decide) ?_
  rw [z_nw_zW _ _ _ (by omega)]
  show z_G X zm_MF_init (54, [(0, z_r n)], [z_r (n + 6), z_r n], zW (zTn (zTn (zTn (zTn (zTn (zTn (zTn T' n (1, 12)) (n + 1) (2, 8)) (n + 2) (2, 8)) (n + 3) (2, 8)) (n + 4) (2, 8)) (n + 5) (2, 8)) (n + 6) (2, 8)) (zGn (z_uG (zGn (z_uG (zGn (z_uG (zGn (z_uG (zGn (z_uG (zGn (zGn G' n) (n + 1)) n 2 (some (n + 1))) (n + 2)) n 3 (some (n + 2))) (n + 3)) n 4 (some (n + 3))) (n + 4)) n 5 (some (n + 4))) (n + 5)) n 6 (some (n + 5))) (n + 6)) (zSn (zSn (zSn (zSn (zSn (zSn (z_uS (S) n 0 1) (n + 1)) (n + 2)) (n + 3)) (n + 4)) (n + 5)) (n + 6)) (n + 7), 6, 48)
  refine z_putF (idx := 29) (ci := 12) (j := 7) (kd := 1) M.1 (by decide +kernel) (by decide) rfl (fun r h => by injection h with h; subst h; rfl) (by show zT _ n = _; rw [zT_hi _ hn]; simp [zTn]) trivial ?_
  show z_G X zm_MF_init (57, [(0, z_r n)], [], (zT (zTn (zTn (zTn (zTn (zTn (zTn (zTn T' n (1, 12)) (n + 1) (2, 8)) (n + 2) (2, 8)) (n + 3) (2, 8)) (n + 4) (2, 8)) (n + 5) (2, 8)) (n + 6) (2, 8)), z_uG (zG (zGn (z_uG (zGn (z_uG (zGn (z_uG (zGn (z_uG (zGn (z_uG (zGn (zGn G' n) (n + 1)) n 2 (some (n + 1))) (n + 2)) n 3 (some (n + 2))) (n + 3)) n 4 (some (n + 3))) (n + 4)) n 5 (some (n + 4))) (n + 5)) n 6 (some (n + 5))) (n + 6))) n 7 (some (n + 6)), zSn (zSn (zSn (zSn (zSn (zSn (z_uS (S) n 0 1) (n + 1)) (n + 2)) (n + 3)) (n + 4)) (n + 5)) (n + 6), n + 7), 6, 48)
  rw [z_uG_hi _ hn]
  show z_G X zm_MF_init (57, [(0, z_r n)], [], zW (zTn (zTn (zTn (zTn (zTn (zTn (zTn T' n (1, 12)) (n + 1) (2, 8)) (n + 2) (2, 8)) (n + 3) (2, 8)) (n + 4) (2, 8)) (n + 5) (2, 8)) (n + 6) (2, 8)) (z_uG (zGn (z_uG (zGn (z_uG (zGn (z_uG (zGn (z_uG (zGn (z_uG (zGn (zGn G' n) (n + 1)) n 2 (some (n + 1))) (n + 2)) n 3 (some (n + 2))) (n + 3)) n 4 (some (n + 3))) (n + 4)) n 5 (some (n + 4))) (n + 5)) n 6 (some (n + 5))) (n + 6)) n 7 (some (n + 6))) (zSn (zSn (zSn (zSn (zSn (zSn (z_uS (S) n 0 1) (n + 1)) (n + 2)) (n + 3)) (n + 4)) (n + 5)) (n + 6)) (n + 7), 6, 48)
  refine z_go2 M.1 57 [(.aload_n 0, 1), (.bipush 6, 2)] (60, [(0, z_r n)], [.inl 6, z_r n], zW (zTn (zTn (zTn (zTn (zTn (zTn (zTn T' n (1, 12)) (n + 1) (2, 8)) (n + 2) (2, 8)) (n + 3) (2, 8)) (n + 4) (2, 8)) (n + 5) (2, 8)) (n + 6) (2, 8)) (z_uG (zGn (z_uG (zGn (z_uG (zGn (z_uG (zGn (z_uG (zGn (z_uG (zGn (zGn G' n) (n + 1)) n 2 (some (n + 1))) (n + 2)) n 3 (some (n + 2))) (n + 3)) n 4 (some (n + 3))) (n + 4)) n 5 (some (n + 4))) (n + 5)) n 6 (some (n + 5))) (n + 6)) n 7 (some (n + 6))) (zSn (zSn (zSn (zSn (zSn (zSn (z_uS (S) n 0 1) (n + 1)) (n + 2)) (n + 3)) (n + 4)) (n + 5)) (n + 6)) (n + 7), 6, 48) (by decide +kernel) rfl ⟨trivial, trivial, trivial⟩ ?_
  refine z_newa (aty := .int) (N := 6) M.1 (by decide +kernel) M.2.1 (z_wi 235 (by decide +kernel) rfl) (by decide) (by decide) (by decide) (by decide) (by decide) ?_
  rw [z_nw_zW _ _ _ (by omega)]
  show z_G X zm_MF_init (62, [(0, z_r n)], [z_r (n + 7), z_r n], zW (zTn (zTn (zTn (zTn (zTn (zTn (zTn (zTn T' n (1, 12)) (n + 1) (2, 8)) (n + 2) (2, 8)) (n + 3) (2, 8)) (n + 4) (2, 8)) (n + 5) (2, 8)) (n + 6) (2, 8)) (n + 7) (2, 6)) (zGn (z_uG (zGn (z_uG (zGn (z_uG (zGn (z_uG (zGn (z_uG (zGn (z_uG (zGn (zGn G' n) (n + 1)) n 2 (some (n + 1))) (n + 2)) n 3 (some (n + 2))) (n + 3)) n 4 (some (n + 3))) (n + 4)) n 5 (some (n + 4))) (n + 5)) n 6 (some (n + 5))) (n + 6)) n 7 (some (n + 6))) (n + 7)) (zSn (zSn (zSn (zSn (zSn (zSn (zSn (z_uS (S) n 0 1) (n + 1)) (n + 2)) (n + 3)) (n + 4)) (n + 5)) (n + 6)) (n + 7)) (n + 8), 7, 54)
  refine z_putF (idx := 32) (ci := 12) (j := 8) (kd := 1) M.1 (by decide +kernel) (by decide) rfl (fun r h => by injection h with h; subst h; rfl) (by show zT _ n = _; rw [zT_hi _ hn]; simp [zTn]) trivial ?_
  show z_G X zm_MF_init (65, [(0, z_r n)], [], (zT (zTn (zTn (zTn (zTn (zTn (zTn (zTn (zTn T' n (1, 12)) (n + 1) (2, 8)) (n + 2) (2, 8)) (n + 3) (2, 8)) (n + 4) (2, 8)) (n + 5) (2, 8)) (n + 6) (2, 8)) (n + 7) (2, 6)), z_uG (zG (zGn (z_uG (zGn (z_uG (zGn (z_uG (zGn (z_uG (zGn (z_uG (zGn (z_uG (zGn (zGn G' n) (n + 1)) n 2 (some (n + 1))) (n + 2)) n 3 (some (n + 2))) (n + 3)) n 4 (some (n + 3))) (n + 4)) n 5 (some (n + 4))) (n + 5)) n 6 (some (n + 5))) (n + 6)) n 7 (some (n + 6))) (n + 7))) n 8 (some (n + 7)), zSn (zSn (zSn (zSn (zSn (zSn (zSn (z_uS (S) n 0 1) (n + 1)) (n + 2)) (n + 3)) (n + 4)) (n + 5)) (n + 6)) (n + 7), n + 8), 7, 54)
  rw [z_uG_hi _ hn]
  show z_G X zm_MF_init (65, [(0, z_r n)], [], zW (zTn (zTn (zTn (zTn (zTn (zTn (zTn (zTn T' n (1, 12)) (n + 1) (2, 8)) (n + 2) (2, 8)) (n + 3) (2, 8)) (n + 4) (2, 8)) (n + 5) (2, 8)) (n + 6) (2, 8)) (n + 7) (2, 6)) (z_uG (zGn (z_uG (zGn (z_uG (zGn (z_uG (zGn (z_uG (zGn (z_uG (zGn (z_uG (zGn (zGn G' n) (n + 1)) n 2 (some (n + 1))) (n + 2)) n 3 (some (n + 2))) (n + 3)) n 4 (some (n + 3))) (n + 4)) n 5 (some (n + 4))) (n + 5)) n 6 (some (n + 5))) (n + 6)) n 7 (some (n + 6))) (n + 7)) n 8 (some (n + 7))) (zSn (zSn (zSn (zSn (zSn (zSn (zSn (z_uS (S) n 0 1) (n + 1)) (n + 2)) (n + 3)) (n + 4)) (n + 5)) (n + 6)) (n + 7)) (n + 8), 7, 54)
  exact z_vret M (by decide +kernel) rfl (by decide) (by decide) ⟨rfl, rfl⟩
theorem zFo_new (T' : Nat → Nat × Nat) (G' : Nat → Nat → Option Nat) (n : Nat) (hn : 194 ≤ n) : zFo (zTf T' n) (zGf G' n) n := by
  refine ⟨?_, fun i h1 h2 => ?_, ?_, fun j h1 h2 => ?_⟩
  · rw [zT_hi _ hn]; simp [zTf, zTn]
  · rw [zT_hi _ (by omega)]
    have : i = 1 ∨ i = 2 ∨ i = 3 ∨ i = 4 ∨ i = 5 ∨ i = 6 := by omega
    rcases this with rfl | rfl | rfl | rfl | rfl | rfl <;> simp [zTf, zTn]
  · rw [zT_hi _ (by omega)]; simp [zTf, zTn]
  · rw [zG_hi _ hn]
    have : j = 2 ∨ j = 3 ∨ j = 4 ∨ j = 5 ∨ j = 6 ∨ j = 7 ∨ j = 8 := by omega
    rcases this with rfl | rfl | rfl | rfl | rfl | rfl | rfl <;> simp [zGf, zGn, z_uG]
theorem zTf_old (T' : Nat → Nat × Nat) (G' : Nat → Nat → Option Nat) (n : Nat) {k : Nat} (hk : k < n) : zT (zTf T' n) k = zT T' k ∧ zG (zGf G' n) k = zG G' k := by
  constructor
  · unfold zT
    have : zTf T' n k = T' k := by
      unfold zTf zTn
      repeat rw [if_neg (by omega)]
    rw [this]
  · funext j
    unfold zG
    have : zGf G' n k = G' k := by
      simp only [zGf, zGn, z_uG]
      repeat rw [if_neg (by omega)]
    rw [this]
theorem zGr_new (T' : Nat → Nat × Nat) (G' : Nat → Nat → Option Nat) (n : Nat) (hn : 194 ≤ n) : zGr T' G' n (zTf T' n) (zGf G' n) (n + 8) := ⟨hn, by omega, fun k hk => zTf_old T' G' n hk⟩
abbrev rm_M_publish : Room := zg 7 8 63
def F_M_publishB_j174 (fl : Nat → Nat) (f127 : Nat) (S : (Nat → Nat → Int32)) (x3 : Int32) (s0 : Int32) : (Int32 × (Nat → Nat → Int32) × (Nat → Nat)) := (if s0 ≤ 0 then (x3, (z_uS (z_uS S 78 0 s0) 78 26 (-1)), fl) else (0, (z_uS S 78 0 s0), (zflp fl (S 78 26).toNatClampNeg f127)))
def Sf_M_publishB_j174 (fl : Nat → Nat) (f127 : Nat) (S : (Nat → Nat → Int32)) (x3 : Int32) (s0 : Int32) : Prop := (if s0 ≤ 0 then True else ((vp_in (S 78 26) 3) ∧ True))
theorem t_M_publishB_j174 {X : z_X} {Post : Option z_V → z_W → Prop} (M : z_M X zm_M_publish rm_M_publish Post) {T' : Nat → Nat × Nat} {G' : Nat → Nat → Option Nat} {n : Nat} (fl : Nat → Nat) (hfl : zOK T' G' fl n) (f127 : Nat) (hf127 : zFo T' G' f127) (hlt : f127 + 7 < n) {Q : (Int32 × (Nat → Nat → Int32) × (Nat → Nat)) → Prop} (S : (Nat → Nat → Int32)) (x3 : Int32) (s0 : Int32) (hQ : ∀ v S' fl2 G2, zOK T' G2 fl2 n → (∀ k, k ≠ 131 → zG G2 k = zG G' k) → Q (v, S', fl2) → Post (some (.inl v)) (zW T' G2 S' n)) (K : Q (F_M_publishB_j174 fl f127 S x3 s0)) (hs : Sf_M_publishB_j174 fl f127 S x3 s0) : z_G X zm_M_publish (174, [(0, z_r 78), (3, .inl x3), (4, z_r f127)], [.inl s0, z_r 78], zW T' G' S n, 8, 63) := by
  unfold F_M_publishB_j174 at K
  unfold Sf_M_publishB_j174 at hs
  refine z_go2 M.1 174 [(.putfield 175, 3), (.aload_n 0, 1), (.getfield 175, 3)] (181, [(0, z_r 78), (3, .inl x3), (4, z_r f127)], [.inl s0], zW T' G' (z_uS S 78 0 s0) n, 8, 63) (by decide +kernel) rfl ⟨⟨rfl, trivial⟩, trivial, rfl, trivial⟩ ?_
  refine z_if_le 197 M.1 (off := 16) (by decide +kernel) (by decide) (fun c181 => ?_) (fun c181 => ?_)
  · rw [if_pos c181] at K hs
    refine z_go2 M.1 197 [(.aload_n 0, 1), (.iconst (-1), 1), (.putfield 82, 3), (.iload_n 3, 1)] (203, [(0, z_r 78), (3, .inl x3), (4, z_r f127)], [.inl x3], zW T' G' (z_uS (z_uS S 78 0 s0) 78 26 (-1)) n, 8, 63) (by decide +kernel) rfl ⟨trivial, trivial, ⟨rfl, trivial⟩, trivial, trivial⟩ ?_
    exact z_iret M (by decide +kernel) .int rfl rfl (by decide) (by decide) (hQ _ _ _ _ hfl (fun _ _ => rfl) K)
  · rw [if_neg c181] at K hs
    refine z_go2 M.1 184 [(.aload_n 0, 1), (.getfield 74, 3), (.aload_n 0, 1), (.getfield 82, 3), (.aload 4, 2)] (194, [(0, z_r 78), (3, .inl x3), (4, z_r f127)], [z_r f127, .inl (S 78 26), z_r 131], zW T' G' (z_uS S 78 0 s0) n, 8, 63) (by decide +kernel) rfl ⟨trivial, rfl, trivial, rfl, trivial, trivial⟩ ?_
    obtain ⟨hin, hs⟩ := hs
    refine z_aasF M.1 (by decide +kernel) hin hf127 ?_
    refine z_go2 M.1 195 [(.iconst 0, 1)] (196, [(0, z_r 78), (3, .inl x3), (4, z_r f127)], [.inl 0], zW T' (zGs G' (S 78 26).toNatClampNeg f127) (z_uS S 78 0 s0) n, 8, 63) (by decide +kernel) rfl ⟨trivial, trivial⟩ ?_
    exact z_iret M (by decide +kernel) .int rfl rfl (by decide) (by decide) (hQ _ _ _ _ (hfl.put hin hf127 hlt) (fun k hk => zGs_ne G' (S 78 26).toNatClampNeg f127 hk) K)
def F_M_publishB_j159 (fl : Nat → Nat) (f127 : Nat) (S : (Nat → Nat → Int32)) (x2 : Int32) (x3 : Int32) : (Int32 × (Nat → Nat → Int32) × (Nat → Nat)) := (match F_M_stays fl S x2 1 with | (r163, S163) => (if r163 = 0 then (F_M_publishB_j174 fl f127 S163 x3 2) else (F_M_publishB_j174 fl f127 S163 x3 0)))
def Sf_M_publishB_j159 (fl : Nat → Nat) (f127 : Nat) (S : (Nat → Nat → Int32)) (x2 : Int32) (x3 : Int32) : Prop := (Sf_M_stays fl S x2 1 ∧ (match F_M_stays fl S x2 1 with | (r163, S163) => (if r163 = 0 then (Sf_M_publishB_j174 fl f127 S163 x3 2) else (Sf_M_publishB_j174 fl f127 S163 x3 0))))
theorem t_M_publishB_j159 {X : z_X} {Post : Option z_V → z_W → Prop} (M : z_M X zm_M_publish rm_M_publish Post) {T' : Nat → Nat × Nat} {G' : Nat → Nat → Option Nat} {n : Nat} (fl : Nat → Nat) (hfl : zOK T' G' fl n) (f127 : Nat) (hf127 : zFo T' G' f127) (hlt : f127 + 7 < n) {Q : (Int32 × (Nat → Nat → Int32) × (Nat → Nat)) → Prop} (S : (Nat → Nat → Int32)) (x2 : Int32) (x3 : Int32) (hQ : ∀ v S' fl2 G2, zOK T' G2 fl2 n → (∀ k, k ≠ 131 → zG G2 k = zG G' k) → Q (v, S', fl2) → Post (some (.inl v)) (zW T' G2 S' n)) (K : Q (F_M_publishB_j159 fl f127 S x2 x3)) (hs : Sf_M_publishB_j159 fl f127 S x2 x3) : z_G X zm_M_publish (159, [(0, z_r 78), (2, .inl x2), (3, .inl x3), (4, z_r f127)], [], zW T' G' S n, 8, 63) := by
  unfold F_M_publishB_j159 at K
  unfold Sf_M_publishB_j159 at hs
  refine z_go2 M.1 159 [(.aload_n 0, 1), (.aload_n 0, 1), (.iload_n 2, 1), (.iconst 1, 1)] (163, [(0, z_r 78), (2, .inl x2), (3, .inl x3), (4, z_r f127)], [.inl 1, .inl x2, z_r 78, z_r 78], zW T' G' S n, 8, 63) (by decide +kernel) rfl ⟨trivial, trivial, trivial, trivial, trivial⟩ ?_
  refine z_callV M.1 (av := [.inl x2, .inl 1]) (st := [z_r 78]) (a := 78) (ci := 14) (by decide +kernel) (c_M_stays T' G' n fl hfl S x2 1 hs.1) M.2.1 zl_M_301 zv_M_stays rfl rfl rfl ⟨by decide, by decide, by decide, by decide⟩ rfl (Nat.le_of_ble_eq_true rfl) (fun v w' hv => ?_)
  replace hs := hs.2
  rcases hF163 : F_M_stays fl S x2 1 with ⟨r163, S163⟩
  rw [hF163] at K hv
  try rw [hF163] at hs
  try dsimp only at K hs
  obtain ⟨rfl, rfl⟩ := hv
  show z_G X zm_M_publish (166, [(0, z_r 78), (2, .inl x2), (3, .inl x3), (4, z_r f127)], [.inl r163, z_r 78], zW T' G' S163 n, 8, 63)
  refine z_if_eq 173 M.1 (off := 7) (by decide +kernel) (by decide) (fun c166 => ?_) (fun c166 => ?_)
  · rw [if_pos c166] at K hs
    refine z_go2 M.1 173 [(.iconst 2, 1)] (174, [(0, z_r 78), (2, .inl x2), (3, .inl x3), (4, z_r f127)], [.inl 2, z_r 78], zW T' G' S163 n, 8, 63) (by decide +kernel) rfl ⟨trivial, trivial⟩ ?_
    exact z_lvs (lv' := [(0, z_r 78), (3, .inl x3), (4, z_r f127)]) [0, 2, 3] rfl (t_M_publishB_j174 M fl hfl f127 hf127 hlt S163 x3 2 hQ K hs)
  · rw [if_neg c166] at K hs
    refine z_go2 M.1 169 [(.iconst 0, 1), (.goto 4, 3)] (174, [(0, z_r 78), (2, .inl x2), (3, .inl x3), (4, z_r f127)], [.inl 0, z_r 78], zW T' G' S163 n, 8, 63) (by decide +kernel) rfl ⟨trivial, trivial, trivial⟩ ?_
    exact z_lvs (lv' := [(0, z_r 78), (3, .inl x3), (4, z_r f127)]) [0, 2, 3] rfl (t_M_publishB_j174 M fl hfl f127 hf127 hlt S163 x3 0 hQ K hs)
def F_M_publish_n (na : Nat) (fl : Nat → Nat) (f127 : Nat) (S : (Nat → Nat → Int32)) (x2 x3 : Int32) : Int32 × (Nat → Nat → Int32) × (Nat → Nat) :=
  z_let (F_MF_copy na 156 (zSf (zSn S na) na)) (fun S1 => F_M_publishB_j159 (zflp fl (S1 78 26).toNatClampNeg na) f127 S1 x2 x3)
def Sf_M_publish_n (na : Nat) (fl : Nat → Nat) (f127 : Nat) (S : (Nat → Nat → Int32)) (x2 x3 : Int32) : Prop :=
  Sf_MF_copy na 156 (zSf (zSn S na) na) ∧ z_let (F_MF_copy na 156 (zSf (zSn S na) na)) (fun S1 => vp_in (S1 78 26) 3 ∧ Sf_M_publishB_j159 (zflp fl (S1 78 26).toNatClampNeg na) f127 S1 x2 x3)
theorem t_M_publish_n {X : z_X} {Post : Option z_V → z_W → Prop} (M : z_M X zm_M_publish rm_M_publish Post) {T' : Nat → Nat × Nat} {G' : Nat → Nat → Option Nat} {n : Nat} (fl : Nat → Nat) (hfl : zOK T' G' fl n) (f127 : Nat) (hf127 : zFo T' G' f127) (hlt : f127 + 7 < n) {Q : Int32 × (Nat → Nat → Int32) × (Nat → Nat) → Prop} (S : (Nat → Nat → Int32)) (x2 x3 : Int32)
    (hQ : ∀ v S' fl2 T2 G2 n2, n ≤ n2 → zOK T2 G2 fl2 n2 → (∀ k, k < n → k ≠ 131 → zT T2 k = zT T' k ∧ zG G2 k = zG G' k) → Q (v, S', fl2) → Post (some (.inl v)) (zW T2 G2 S' n2)) (K : Q (F_M_publish_n n fl f127 S x2 x3)) (hs : Sf_M_publish_n n fl f127 S x2 x3) : z_G X zm_M_publish (130, [(0, z_r 78), (2, .inl x2), (3, .inl x3), (4, z_r f127)], [], zW T' G' S n, 0, 0) := by
  have hn : 194 ≤ n := hfl.1
  have hg := zGr_new T' G' n hn
  refine z_new (idx := 71) (ci := 12) (r := (RX12, TX12, 9)) M.1 (by decide +kernel) M.2.1 rfl (z_wi 1571 (by decide +kernel) rfl) (z_wi 1573 (by decide +kernel) rfl) (z_wi 168 (by decide +kernel) rfl) (by decide) (by decide) ?_
  rw [z_nw_zW _ _ _ hn]
  refine z_go2 M.1 133 [(.dup, 1)] (134, [(0, z_r 78), (2, .inl x2), (3, .inl x3), (4, z_r f127)], [z_r n, z_r n], zW (zTn T' n (1, 12)) (zGn G' n) (zSn S n) (n + 1), 1, 9) (by decide +kernel) rfl ⟨rfl, trivial⟩ ?_
  refine z_callI M.1 (av := []) (st := [z_r n]) (a := n) (by decide +kernel) (c_MF_init T' G' (zSn S n) n hn) M.2.1 zl_M_73 rfl rfl zi_MF_init ⟨by decide, by decide, by decide, by decide⟩ rfl (Nat.le_of_ble_eq_true rfl) (fun v w' hv => ?_)
  obtain ⟨rfl, rfl⟩ := hv
  show z_G X zm_M_publish (137, [(0, z_r 78), (2, .inl x2), (3, .inl x3), (4, z_r f127)], [z_r n], zW (zTf T' n) (zGf G' n) (zSf (zSn S n) n) (n + 8), 8, 63)
  have hfn : zFo (zTf T' n) (zGf G' n) n := zFo_new T' G' n hn
  have hfl2 : zOK (zTf T' n) (zGf G' n) fl (n + 8) := hfl.gr hg
  have hf4 : zFo (zTf T' n) (zGf G' n) f127 := hf127.gr hg hlt
  refine z_go2 M.1 137 [(.astore 5, 2), (.aload 5, 2), (.aload_n 0, 1), (.getfield 78, 3)] (145, (5, z_r n) :: [(0, z_r 78), (2, .inl x2), (3, .inl x3), (4, z_r f127)], [z_r 156, z_r n], zW (zTf T' n) (zGf G' n) (zSf (zSn S n) n) (n + 8), 8, 63) (by decide +kernel) rfl ⟨trivial, trivial, trivial, rfl, trivial⟩ ?_
  refine z_callV M.1 (av := [z_r 156]) (st := []) (a := n) (ci := 12) (by decide +kernel) (c_MF_copy (zTf T' n) (zGf G' n) (n + 8) n hfn 156 (zFo_st (zTf T' n) (zGf G' n) 156 (by decide)) (zSf (zSn S n) n) hs.1) M.2.1 zl_M_308 zv_MF_copy hfn.t rfl rfl ⟨by decide, by decide, by decide, by decide⟩ rfl (Nat.le_of_ble_eq_true rfl) (fun v w' hv => ?_)
  replace hs := hs.2
  unfold F_M_publish_n at K
  obtain ⟨S1, hS1⟩ : ∃ y, F_MF_copy n 156 (zSf (zSn S n) n) = y := ⟨_, rfl⟩
  rw [hS1] at K hv hs
  try dsimp only [z_let] at K hs
  obtain ⟨rfl, rfl⟩ := hv
  show z_G X zm_M_publish (148, (5, z_r n) :: [(0, z_r 78), (2, .inl x2), (3, .inl x3), (4, z_r f127)], [], zW (zTf T' n) (zGf G' n) S1 (n + 8), 8, 63)
  refine z_go2 M.1 148 [(.aload_n 0, 1), (.getfield 74, 3), (.aload_n 0, 1), (.getfield 82, 3), (.aload 5, 2)] (158, (5, z_r n) :: [(0, z_r 78), (2, .inl x2), (3, .inl x3), (4, z_r f127)], [z_r n, .inl (S1 78 26), z_r 131], zW (zTf T' n) (zGf G' n) S1 (n + 8), 8, 63) (by decide +kernel) rfl ⟨trivial, rfl, trivial, rfl, trivial, trivial⟩ ?_
  obtain ⟨hin, hs⟩ := hs
  refine z_aasF M.1 (by decide +kernel) hin hfn ?_
  refine z_lvs (lv' := [(0, z_r 78), (2, .inl x2), (3, .inl x3), (4, z_r f127)]) [1, 2, 3, 4] rfl ?_
  have hne : ∀ {k : Nat}, k ≠ 131 → zG (zGs (zGf G' n) (S1 78 26).toNatClampNeg n) k = zG (zGf G' n) k := fun hk => zGs_ne _ _ _ hk
  refine t_M_publishB_j159 M (zflp fl (S1 78 26).toNatClampNeg n) (hfl2.put hin hfn (by omega)) f127 (hf4.sg (hne hf4.ne131)) (by omega) S1 x2 x3 (fun v S' fl2 G3 h1 h2 h3 => hQ v S' fl2 _ _ _ (by omega) h1 (fun k hk h131 => ⟨(hg.2.2 k hk).1, ?_⟩) h3) K hs
  rw [h2 k h131, hne h131]
  exact (hg.2.2 k hk).2
def F_M_publish_L44 (fl : Nat → Nat) (na : Nat) (x1 : Int32) (x2 : Int32) : Nat → (Nat → Nat → Int32) → Int32 → ((Nat → Nat → Int32))
  | 0, S, x3 => S
  | f + 1, S, x3 => (if (30 : Int32) ≤ x3 then S else (if (S 95 (x3).toNatClampNeg) = 0 then ((F_M_publish_L44 fl na x1 x2 f) S (x3 + 1)) else (if (S 88 (x3).toNatClampNeg) = (S 78 26) then (z_let (F_M_change 86 S 2 x1 x3 0 (F_MF_mapped 156 S (S 89 (x3).toNatClampNeg))) (fun S103 => ((F_M_publish_L44 fl na x1 x2 f) S103 (x3 + 1)))) else ((F_M_publish_L44 fl na x1 x2 f) S (x3 + 1)))))
def Sf_M_publish_L44 (fl : Nat → Nat) (na : Nat) (x1 : Int32) (x2 : Int32) : Nat → (Nat → Nat → Int32) → Int32 → Prop
  | 0, _, _ => False
  | f + 1, S, x3 => (if (30 : Int32) ≤ x3 then True else ((vp_in x3 30) ∧ (if (S 95 (x3).toNatClampNeg) = 0 then ((Sf_M_publish_L44 fl na x1 x2 f) S (x3 + 1)) else ((vp_in x3 30) ∧ (if (S 88 (x3).toNatClampNeg) = (S 78 26) then ((vp_in x3 30) ∧ (Sf_MF_mapped 156 S (S 89 (x3).toNatClampNeg) ∧ (Sf_M_change 86 S 2 x1 x3 0 (F_MF_mapped 156 S (S 89 (x3).toNatClampNeg)) ∧ (z_let (F_M_change 86 S 2 x1 x3 0 (F_MF_mapped 156 S (S 89 (x3).toNatClampNeg))) (fun S103 => ((Sf_M_publish_L44 fl na x1 x2 f) S103 (x3 + 1))))))) else ((Sf_M_publish_L44 fl na x1 x2 f) S (x3 + 1)))))))
theorem t_M_publish_L44 {X : z_X} {Post : Option z_V → z_W → Prop} (M : z_M X zm_M_publish rm_M_publish Post) {T' : Nat → Nat × Nat} {G' : Nat → Nat → Option Nat} {n : Nat} (fl : Nat → Nat) (hfl : zOK T' G' fl n) (na : Nat) (hna : n = na) {Q : ((Nat → Nat → Int32)) → Prop}  (x1 : Int32) (x2 : Int32) (hE : ∀ (S' : (Nat → Nat → Int32)), Q S' → z_G X zm_M_publish (112, [(0, z_r 78), (2, .inl x2)], [], zW T' G' S' n, 0, 0)) (f : Nat) : ∀ (S : (Nat → Nat → Int32)) (x3 : Int32), Q (F_M_publish_L44 fl na x1 x2 f S x3) → Sf_M_publish_L44 fl na x1 x2 f S x3 → z_G X zm_M_publish (44, [(0, z_r 78), (1, .inl x1), (2, .inl x2), (3, .inl x3)], [], zW T' G' S n, 0, 0) := by
  induction f with
  | zero => intro S x3 K hs; exact False.elim hs
  | succ f hC =>
    intro S x3 K hs
    rw [F_M_publish_L44] at K
    rw [Sf_M_publish_L44] at hs
    refine z_go2 M.1 44 [(.iload_n 3, 1), (.bipush 30, 2)] (47, [(0, z_r 78), (1, .inl x1), (2, .inl x2), (3, .inl x3)], [.inl 30, .inl x3], zW T' G' S n, 0, 0) (by decide +kernel) rfl ⟨trivial, trivial, trivial⟩ ?_
    refine z_icmp_ge 112 M.1 (off := 65) (by decide +kernel) (by decide) (fun c47 => ?_) (fun c47 => ?_)
    · rw [if_pos c47] at K hs
      exact z_lvs (lv' := [(0, z_r 78), (2, .inl x2)]) [0, 2] rfl (hE S K)
    · rw [if_neg c47] at K hs
      refine z_go2 M.1 50 [(.aload_n 0, 1), (.getfield 34, 3), (.getfield 226, 3), (.iload_n 3, 1), (.baload, 1)] (59, [(0, z_r 78), (1, .inl x1), (2, .inl x2), (3, .inl x3)], [.inl (S 95 (x3).toNatClampNeg)], zW T' G' S n, 0, 0) (by decide +kernel) rfl ⟨trivial, rfl, rfl, trivial, ⟨rfl, hs.1⟩, trivial⟩ ?_
      replace hs := hs.2
      refine z_if_eq 106 M.1 (off := 47) (by decide +kernel) (by decide) (fun c59 => ?_) (fun c59 => ?_)
      · rw [if_pos c59] at K hs
        refine z_go2 M.1 106 [(.iinc 3 1, 3), (.goto (-65), 3)] (44, [(3, .inl (x3 + 1)), (0, z_r 78), (1, .inl x1), (2, .inl x2)], [], zW T' G' S n, 0, 0) (by decide +kernel) rfl ⟨trivial, trivial, trivial⟩ ?_
        exact z_lvs (lv' := [(0, z_r 78), (1, .inl x1), (2, .inl x2), (3, .inl (x3 + 1))]) [1, 2, 3, 0] rfl (hC S (x3 + 1) K hs)
      · rw [if_neg c59] at K hs
        refine z_go2 M.1 62 [(.aload_n 0, 1), (.getfield 34, 3), (.getfield 237, 3), (.iload_n 3, 1), (.iaload, 1), (.aload_n 0, 1), (.getfield 82, 3)] (75, [(0, z_r 78), (1, .inl x1), (2, .inl x2), (3, .inl x3)], [.inl (S 78 26), .inl (S 88 (x3).toNatClampNeg)], zW T' G' S n, 0, 0) (by decide +kernel) rfl ⟨trivial, rfl, rfl, trivial, ⟨rfl, hs.1⟩, trivial, rfl, trivial⟩ ?_
        replace hs := hs.2
        refine z_icmp_ne 106 M.1 (off := 31) (by decide +kernel) (by decide) (fun c75 => ?_) (fun c75 => ?_)
        · rw [if_neg c75] at K hs
          refine z_go2 M.1 106 [(.iinc 3 1, 3), (.goto (-65), 3)] (44, [(3, .inl (x3 + 1)), (0, z_r 78), (1, .inl x1), (2, .inl x2)], [], zW T' G' S n, 0, 0) (by decide +kernel) rfl ⟨trivial, trivial, trivial⟩ ?_
          exact z_lvs (lv' := [(0, z_r 78), (1, .inl x1), (2, .inl x2), (3, .inl (x3 + 1))]) [1, 2, 3, 0] rfl (hC S (x3 + 1) K hs)
        · rw [if_pos c75] at K hs
          refine z_go2 M.1 78 [(.aload_n 0, 1), (.aload_n 0, 1), (.getfield 34, 3), (.iconst 2, 1), (.iload_n 1, 1), (.iload_n 3, 1), (.iconst 0, 1), (.aload_n 0, 1), (.getfield 78, 3), (.aload_n 0, 1), (.getfield 34, 3), (.getfield 198, 3), (.iload_n 3, 1), (.iaload, 1)] (100, [(0, z_r 78), (1, .inl x1), (2, .inl x2), (3, .inl x3)], [.inl (S 89 (x3).toNatClampNeg), z_r 156, .inl 0, .inl x3, .inl x1, .inl 2, z_r 86, z_r 78], zW T' G' S n, 0, 0) (by decide +kernel) rfl ⟨trivial, trivial, rfl, trivial, trivial, trivial, trivial, trivial, rfl, trivial, rfl, rfl, trivial, ⟨rfl, hs.1⟩, trivial⟩ ?_
          replace hs := hs.2
          refine z_callV M.1 (av := [.inl (S 89 (x3).toNatClampNeg)]) (st := [.inl 0, .inl x3, .inl x1, .inl 2, z_r 86, z_r 78]) (a := 156) (ci := 12) (by decide +kernel) (c_MF_mapped T' G' n 156 (zFo_st T' G' 156 (by decide)) S (S 89 (x3).toNatClampNeg) hs.1) M.2.1 zl_M_326 zv_MF_mapped rfl rfl rfl ⟨by decide, by decide, by decide, by decide⟩ rfl (Nat.le_of_ble_eq_true rfl) (fun v w' hv => ?_)
          obtain ⟨rfl, rfl⟩ := hv
          replace hs := hs.2
          show z_G X zm_M_publish (103, [(0, z_r 78), (1, .inl x1), (2, .inl x2), (3, .inl x3)], [.inl (F_MF_mapped 156 S (S 89 (x3).toNatClampNeg)), .inl 0, .inl x3, .inl x1, .inl 2, z_r 86, z_r 78], zW T' G' S n, 0, 0)
          refine z_callV M.1 (av := [z_r 86, .inl 2, .inl x1, .inl x3, .inl 0, .inl (F_MF_mapped 156 S (S 89 (x3).toNatClampNeg))]) (st := []) (a := 78) (ci := 14) (by decide +kernel) (c_M_change_86 T' G' S n 2 x1 x3 0 (F_MF_mapped 156 S (S 89 (x3).toNatClampNeg)) hs.1) M.2.1 zl_M_259 zv_M_change rfl rfl rfl ⟨by decide, by decide, by decide, by decide⟩ rfl (Nat.le_of_ble_eq_true rfl) (fun v w' hv => ?_)
          replace hs := hs.2
          obtain ⟨S103, hF103⟩ : ∃ y, F_M_change 86 S 2 x1 x3 0 (F_MF_mapped 156 S (S 89 (x3).toNatClampNeg)) = y := ⟨_, rfl⟩
          rw [hF103] at K hv
          try rw [hF103] at hs
          try dsimp only [z_let] at K hs
          obtain ⟨rfl, rfl⟩ := hv
          show z_G X zm_M_publish (106, [(0, z_r 78), (1, .inl x1), (2, .inl x2), (3, .inl x3)], [], zW T' G' S103 n, 0, 0)
          refine z_go2 M.1 106 [(.iinc 3 1, 3), (.goto (-65), 3)] (44, [(3, .inl (x3 + 1)), (0, z_r 78), (1, .inl x1), (2, .inl x2)], [], zW T' G' S103 n, 0, 0) (by decide +kernel) rfl ⟨trivial, trivial, trivial⟩ ?_
          exact z_lvs (lv' := [(0, z_r 78), (1, .inl x1), (2, .inl x2), (3, .inl (x3 + 1))]) [1, 2, 3, 0] rfl (hC S103 (x3 + 1) K hs)
def F_M_publish_j25 (fl : Nat → Nat) (na : Nat) (S : (Nat → Nat → Int32)) (x1 : Int32) (s0 : Int32) : (Int32 × (Nat → Nat → Int32) × (Nat → Nat)) := (if s0 ≤ 0 then (match F_M_publish_L44 fl na x1 (S 78 2) 1300 (z_uS S 78 0 s0) 0 with | S44 => (z_letN (fl (S44 78 26).toNatClampNeg) (fun f127 => (F_M_publish_n na fl f127 S44 (S 78 2) ((S44 78 2) - (S 78 2)))))) else (0, (z_uS S 78 0 s0), fl))
def Sf_M_publish_j25 (fl : Nat → Nat) (na : Nat) (S : (Nat → Nat → Int32)) (x1 : Int32) (s0 : Int32) : Prop := (if s0 ≤ 0 then (Sf_M_publish_L44 fl na x1 (S 78 2) 1300 (z_uS S 78 0 s0) 0 ∧ (match F_M_publish_L44 fl na x1 (S 78 2) 1300 (z_uS S 78 0 s0) 0 with | S44 => (z_letN (fl (S44 78 26).toNatClampNeg) (fun f127 => ((vp_in (S44 78 26) 3) ∧ (Sf_M_publish_n na fl f127 S44 (S 78 2) ((S44 78 2) - (S 78 2)))))))) else True)
theorem t_M_publish_j25 {X : z_X} {Post : Option z_V → z_W → Prop} (M : z_M X zm_M_publish rm_M_publish Post) {T' : Nat → Nat × Nat} {G' : Nat → Nat → Option Nat} {n : Nat} (fl : Nat → Nat) (hfl : zOK T' G' fl n) (na : Nat) (hna : n = na) {Q : (Int32 × (Nat → Nat → Int32) × (Nat → Nat)) → Prop} (S : (Nat → Nat → Int32)) (x1 : Int32) (s0 : Int32) (hQ : ∀ v S' fl2 T2 G2 n2, n ≤ n2 → zOK T2 G2 fl2 n2 → (∀ k, k < n → k ≠ 131 → zT T2 k = zT T' k ∧ zG G2 k = zG G' k) → Q (v, S', fl2) → Post (some (.inl v)) (zW T2 G2 S' n2)) (K : Q (F_M_publish_j25 fl na S x1 s0)) (hs : Sf_M_publish_j25 fl na S x1 s0) : z_G X zm_M_publish (25, [(0, z_r 78), (1, .inl x1)], [.inl s0, z_r 78], zW T' G' S n, 0, 0) := by
  unfold F_M_publish_j25 at K
  unfold Sf_M_publish_j25 at hs
  refine z_go2 M.1 25 [(.putfield 175, 3), (.aload_n 0, 1), (.getfield 175, 3)] (32, [(0, z_r 78), (1, .inl x1)], [.inl s0], zW T' G' (z_uS S 78 0 s0) n, 0, 0) (by decide +kernel) rfl ⟨⟨rfl, trivial⟩, trivial, rfl, trivial⟩ ?_
  refine z_if_le 37 M.1 (off := 5) (by decide +kernel) (by decide) (fun c32 => ?_) (fun c32 => ?_)
  · rw [if_pos c32] at K hs
    refine z_go2 M.1 37 [(.aload_n 0, 1), (.getfield 182, 3), (.istore_n 2, 1), (.iconst 0, 1), (.istore_n 3, 1)] (44, [(3, .inl 0), (2, .inl (S 78 2)), (0, z_r 78), (1, .inl x1)], [], zW T' G' (z_uS S 78 0 s0) n, 0, 0) (by decide +kernel) rfl ⟨trivial, rfl, trivial, trivial, trivial, trivial⟩ ?_
    refine z_lvs (lv' := [(0, z_r 78), (1, .inl x1), (2, .inl (S 78 2)), (3, .inl 0)]) [2, 3, 1, 0] rfl ?_
    refine t_M_publish_L44 M fl hfl na hna (Q := fun o => F_M_publish_L44 fl na x1 (S 78 2) 1300 (z_uS S 78 0 s0) 0 = o) x1 (S 78 2) (fun S44 hL44 => ?_) 1300 (z_uS S 78 0 s0) 0 rfl hs.1
    replace hs := hs.2
    rw [hL44] at K
    try rw [hL44] at hs
    try dsimp only at K hs
    refine z_go2 M.1 112 [(.aload_n 0, 1), (.getfield 182, 3), (.iload_n 2, 1), (.isub, 1), (.istore_n 3, 1), (.aload_n 0, 1), (.getfield 74, 3), (.aload_n 0, 1), (.getfield 82, 3)] (127, [(3, .inl ((S44 78 2) - (S 78 2))), (0, z_r 78), (2, .inl (S 78 2))], [.inl (S44 78 26), z_r 131], zW T' G' S44 n, 0, 0) (by decide +kernel) rfl ⟨trivial, rfl, trivial, trivial, trivial, trivial, rfl, trivial, rfl, trivial⟩ ?_
    have hin127 := hs.1
    obtain ⟨f127, he127⟩ : ∃ y, fl (S44 78 26).toNatClampNeg = y := ⟨_, rfl⟩
    have hf127 : zFo T' G' f127 := he127 ▸ (hfl.fl (z_in3 hs.1)).2
    refine z_aalF M.1 (a := 131) (len := 3) (r := f127) (by decide +kernel) rfl hs.1 ((hfl.fl (z_in3 hs.1)).1.trans (congrArg some he127)) ?_
    rw [he127] at K hs
    try dsimp only [z_letN] at K hs
    replace hs := hs.2
    refine z_go2 M.1 128 [(.astore 4, 2)] (130, [(4, z_r f127), (3, .inl ((S44 78 2) - (S 78 2))), (0, z_r 78), (2, .inl (S 78 2))], [], zW T' G' S44 n, 0, 0) (by decide +kernel) rfl ⟨trivial, trivial⟩ ?_
    subst hna
    exact z_lvs (lv' := [(0, z_r 78), (2, .inl (S 78 2)), (3, .inl ((S44 78 2) - (S 78 2))), (4, z_r f127)]) [2, 3, 1, 0] rfl (t_M_publish_n M fl hfl f127 hf127 (by rw [← he127]; exact (hfl.2 _ (z_in3 hin127)).2.2)  S44 (S 78 2) ((S44 78 2) - (S 78 2)) hQ K hs)
  · rw [if_neg c32] at K hs
    refine z_go2 M.1 35 [(.iconst 0, 1)] (36, [(0, z_r 78), (1, .inl x1)], [.inl 0], zW T' G' (z_uS S 78 0 s0) n, 0, 0) (by decide +kernel) rfl ⟨trivial, trivial⟩ ?_
    exact z_iret M (by decide +kernel) .int rfl rfl (by decide) (by decide) (hQ _ _ _ _ _ _ (Nat.le_refl n) hfl (fun k _ _ => ⟨rfl, rfl⟩) K)
def F_M_publish (fl : Nat → Nat) (na : Nat) (S : (Nat → Nat → Int32)) (p1 : Int32) : (Int32 × (Nat → Nat → Int32) × (Nat → Nat)) := (if (F_M_isPerson S p1) = 0 then (F_M_publish_j25 fl na S p1 1) else (if (S 78 26) = (-1) then (F_M_publish_j25 fl na S p1 2) else (F_M_publish_j25 fl na S p1 0)))
def Sf_M_publish (fl : Nat → Nat) (na : Nat) (S : (Nat → Nat → Int32)) (p1 : Int32) : Prop := (Sf_M_isPerson S p1 ∧ (if (F_M_isPerson S p1) = 0 then (Sf_M_publish_j25 fl na S p1 1) else (if (S 78 26) = (-1) then (Sf_M_publish_j25 fl na S p1 2) else (Sf_M_publish_j25 fl na S p1 0))))
theorem c_M_publish (T' : Nat → Nat × Nat) (G' : Nat → Nat → Option Nat) (n : Nat) (fl : Nat → Nat) (hfl : zOK T' G' fl n) (na : Nat) (hna : n = na) (S : (Nat → Nat → Int32)) (p1 : Int32) (hs : Sf_M_publish fl na S p1) : z_Run rm_M_publish zm_M_publish [z_r 78, .inl p1] (zW T' G' S n) (fun v w' => ∃ T2 G2 n2, n ≤ n2 ∧ zOK T2 G2 (F_M_publish fl na S p1).2.2 n2 ∧ (∀ k, k < n → k ≠ 131 → zT T2 k = zT T' k ∧ zG G2 k = zG G' k) ∧ v = some (.inl (F_M_publish fl na S p1).1 : z_V) ∧ w' = zW T2 G2 (F_M_publish fl na S p1).2.1 n2) := by
  refine z_body (by decide) zf_M_ok (Nat.le_of_ble_eq_true rfl) (fun X M => ?_)
  obtain ⟨Q, hQ, K⟩ : ∃ Q : (Int32 × (Nat → Nat → Int32) × (Nat → Nat)) → Prop, (∀ (v : Int32) S' fl2 T2 G2 n2, n ≤ n2 → zOK T2 G2 fl2 n2 → (∀ k, k < n → k ≠ 131 → zT T2 k = zT T' k ∧ zG G2 k = zG G' k) → Q (v, S', fl2) → (fun v w' => ∃ T2 G2 n2, n ≤ n2 ∧ zOK T2 G2 (F_M_publish fl na S p1).2.2 n2 ∧ (∀ k, k < n → k ≠ 131 → zT T2 k = zT T' k ∧ zG G2 k = zG G' k) ∧ v = some (.inl (F_M_publish fl na S p1).1 : z_V) ∧ w' = zW T2 G2 (F_M_publish fl na S p1).2.1 n2) (some (.inl v : z_V)) (zW T2 G2 S' n2)) ∧ Q (F_M_publish fl na S p1) := ⟨fun o => F_M_publish fl na S p1 = o, fun v S' fl2 T2 G2 n2 h1 h2 h3 h => ⟨T2, G2, n2, h1, by rw [h]; exact h2, h3, by rw [h], by rw [h]⟩, rfl⟩
  show z_G X zm_M_publish (0, [(0, z_r 78), (1, .inl p1)], [], zW T' G' S n, 0, 0)
  unfold F_M_publish at K
  unfold Sf_M_publish at hs
  refine z_go2 M.1 0 [(.aload_n 0, 1), (.iload_n 1, 1)] (2, [(0, z_r 78), (1, .inl p1)], [.inl p1, z_r 78], zW T' G' S n, 0, 0) (by decide +kernel) rfl ⟨trivial, trivial, trivial⟩ ?_
  refine z_callS M.1 (av := [.inl p1]) (st := [z_r 78]) (by decide +kernel) (c_M_isPerson T' G' S n p1 hs.1) M.2.1 zl_M_295 zs_M_isPerson ⟨by decide, by decide, by decide, by decide⟩ rfl (Nat.le_of_ble_eq_true rfl) (fun v w' hv => ?_)
  obtain ⟨rfl, rfl⟩ := hv
  replace hs := hs.2
  show z_G X zm_M_publish (5, [(0, z_r 78), (1, .inl p1)], [.inl (F_M_isPerson S p1), z_r 78], zW T' G' S n, 0, 0)
  refine z_if_ne 12 M.1 (off := 7) (by decide +kernel) (by decide) (fun c5 => ?_) (fun c5 => ?_)
  · rw [if_neg c5] at K hs
    refine z_go2 M.1 12 [(.aload_n 0, 1), (.getfield 82, 3), (.iconst (-1), 1)] (17, [(0, z_r 78), (1, .inl p1)], [.inl (-1), .inl (S 78 26), z_r 78], zW T' G' S n, 0, 0) (by decide +kernel) rfl ⟨trivial, rfl, trivial, trivial⟩ ?_
    refine z_icmp_ne 24 M.1 (off := 7) (by decide +kernel) (by decide) (fun c17 => ?_) (fun c17 => ?_)
    · rw [if_neg c17] at K hs
      refine z_go2 M.1 24 [(.iconst 0, 1)] (25, [(0, z_r 78), (1, .inl p1)], [.inl 0, z_r 78], zW T' G' S n, 0, 0) (by decide +kernel) rfl ⟨trivial, trivial⟩ ?_
      exact z_lvs (lv' := [(0, z_r 78), (1, .inl p1)]) [0, 1] rfl (t_M_publish_j25 M fl hfl na hna S p1 0 hQ K hs)
    · rw [if_pos c17] at K hs
      refine z_go2 M.1 20 [(.iconst 2, 1), (.goto 4, 3)] (25, [(0, z_r 78), (1, .inl p1)], [.inl 2, z_r 78], zW T' G' S n, 0, 0) (by decide +kernel) rfl ⟨trivial, trivial, trivial⟩ ?_
      exact z_lvs (lv' := [(0, z_r 78), (1, .inl p1)]) [0, 1] rfl (t_M_publish_j25 M fl hfl na hna S p1 2 hQ K hs)
  · rw [if_pos c5] at K hs
    refine z_go2 M.1 8 [(.iconst 1, 1), (.goto 16, 3)] (25, [(0, z_r 78), (1, .inl p1)], [.inl 1, z_r 78], zW T' G' S n, 0, 0) (by decide +kernel) rfl ⟨trivial, trivial, trivial⟩ ?_
    exact z_lvs (lv' := [(0, z_r 78), (1, .inl p1)]) [0, 1] rfl (t_M_publish_j25 M fl hfl na hna S p1 1 hQ K hs)

