/-! PURE: create -/
theorem bits_c : ∀ c, c < 31 → F_bitCount (zI (2 ^ c - 1)) = zI c ∧ ∀ k, k < 32 → zB (zI (2 ^ c - 1)) k = decide (k < c) := by decide +kernel
theorem World_size_I {S : Nat → Nat → Int32} {d : Nat} {A : zA} (hC : zWC 9 S A.2.2) (hA : zOk d A) : F_World_size 9 S = zI (zCnt A.1 A.2.1) := by
  have hc := hA.cnt
  obtain ⟨b1, b2⟩ := bits_c (zCnt A.1 A.2.1) (by omega)
  have e : S 9 3 = zI (2 ^ zCnt A.1 A.2.1 - 1) := zB_ext fun k hk => by
    rw [b2 k hk]
    by_cases q : k < 30
    · rw [hC.has k q, hA.there k q]
    · rw [hC.hi k (by omega)]; exact (decide_eq_false (by omega)).symm
  unfold F_World_size
  rw [e, b1]
def aBo (d p c k x : Nat) (A : zA) : zA := aPush d p (1, c, k, x, 0, 0) A
theorem aBo_ok {d p k x : Nat} {A : zA} (h : zOk d A) (hc : zCnt A.1 A.2.1 < 30) (hk : k < 3) (hx : x < 3) (hp : p < 8) : zOk d (aBo d p (zCnt A.1 A.2.1) k x A) := by
  refine h.push (Or.inr (Or.inl ⟨rfl, hc, hk, hx⟩)) ⟨fun q => absurd q (by simp), fun _ => ?_, fun q => absurd q (by simp), fun q => absurd q (by simp)⟩ ⟨fun q => absurd q (by simp), fun q => absurd q (by simp), fun q => absurd q (by simp), fun q => absurd q (by simp)⟩ (fun _ => rfl) hp
  show A.2.2.1 (zCnt A.1 A.2.1) = false
  rw [h.there _ hc]; exact decide_eq_false (Nat.lt_irrefl _)
theorem T_born_I {S : Nat → Nat → Int32} {d p c k x : Nat} {A : zA} (hC : zRC S A) (hn : A.2.1 ≤ 800) (hc : c < 30) (hk : k < 3) (hx : x < 3) : ∃ V0 V, F_Log_add S (zI d) (zI p) (zI c) 13 (zI k) (-1) (zI x) = V0 ∧ Sf_Log_add S (zI d) (zI p) (zI c) 13 (zI k) (-1) (zI x) ∧ F_World_redo 9 V0 (zI A.2.1) = V ∧ Sf_World_redo 9 V0 (zI A.2.1) ∧ zFC S V ∧ zRC V (aBo d p c k x A) := by
  have he : zEok (1, c, k, x, 0, 0) := Or.inr (Or.inl ⟨rfl, hc, hk, hx⟩)
  obtain ⟨V0, v1, v2, v3, v4, v5, v6⟩ := T_push_I (d := d) (p := p) hC (by omega) (e := (1, c, k, x, 0, 0)) he (fun q => absurd rfl q)
  have v1' : F_Log_add S (zI d) (zI p) (zI c) 13 (zI k) (-1) (zI x) = V0 := v1
  have v2' : Sf_Log_add S (zI d) (zI p) (zI c) 13 (zI k) (-1) (zI x) := v2
  have hl := (v3.2 A.2.1 (by omega)).1
  rw [zPush_n] at hl
  obtain ⟨V, w1, w2, w3, w4, w5⟩ := World_redo_I v4 (show A.2.1 < 900 by omega) hl he
  refine ⟨V0, V, v1', v2', w1, w2, ⟨fun k hk => by rw [w4 k (by omega), v5 k (by omega)], fun j hj => by rw [w4 1 (by omega), v6 j hj], fun j hj => by rw [w5 j hj, v5 9 (by omega)]⟩, ⟨v3.ag (by rw [w4 1 (by omega)]) (fun k k1 k2 => w4 k (by omega)), w3⟩⟩
theorem M_born_I {U : Nat → Nat → Int32} {d p k x : Nat} {A : zA} (hd : U 78 1 = zI d) (hC : zRM 86 U A) (hA : zOk d A) (hn : A.2.1 ≤ 800) (hc : zCnt A.1 A.2.1 < 30) (hk : k < 3) (hx : x < 3) : ∃ V, F_M_make 86 U 1 (zI p) (zI (zCnt A.1 A.2.1)) (zI x) (-1) (zI k) = V ∧ Sf_M_make 86 U 1 (zI p) (zI (zCnt A.1 A.2.1)) (zI x) (-1) (zI k) ∧ zFMX U V ∧ zRM 86 V (aBo d p (zCnt A.1 A.2.1) k x A) := by
  obtain ⟨V, v1, v2, v3, v4⟩ := M_push_I (b := 86) (by omega) hC (by omega) p hd (e := (1, zCnt A.1 A.2.1, k, x, 0, 0)) (Or.inr (Or.inl ⟨rfl, hc, hk, hx⟩)) (fun _ => rfl) hA.cnt
  exact ⟨V, v1, v2, v4.mx, v3⟩
/-- the greatest rank -/
def rG (R : Nat → Nat) : Nat → Nat
  | 0 => 0
  | x + 1 => if rG R x < R x then R x else rG R x
theorem rG_ge {R : Nat → Nat} : ∀ n y, y < n → R y ≤ rG R n := by
  intro n
  induction n with
  | zero => intro y h; omega
  | succ n ih =>
    intro y hy
    unfold rG
    by_cases e : y = n
    · rw [e]; split <;> omega
    · have := ih y (by omega); split <;> omega
theorem rG_le {R : Nat → Nat} {B : Nat} : ∀ n, (∀ x, x < n → R x ≤ B) → rG R n ≤ B := by
  intro n
  induction n with
  | zero => intro _; exact Nat.zero_le _
  | succ n ih =>
    intro h
    unfold rG
    have := ih fun x hx => h x (by omega)
    split
    · exact h n (by omega)
    · exact this
theorem T_app_L {S : Nat → Nat → Int32} {n : Nat} {R : Nat → Nat} (x1 : Int32) (hn : n ≤ 30) (h68 : S 68 2 = zI n) (hR : ∀ x, x < n → R x ≤ 1024 * n ∧ S 69 x = zI (R x)) : ∀ (m x f : Nat), m + x = n → m < f → F_Ranks_append_L4 x1 f S (zI (rG R x)) (zI x) = (zI (rG R n), S) ∧ Sf_Ranks_append_L4 x1 f S (zI (rG R x)) (zI x) := by
  intro m
  induction m with
  | zero =>
    intro x f hx hf
    obtain ⟨f, rfl⟩ : ∃ q, f = q + 1 := ⟨f - 1, by omega⟩
    have hl : S 68 2 ≤ zI x := by rw [h68, zI_le (by omega) (by omega)]; omega
    unfold F_Ranks_append_L4 Sf_Ranks_append_L4
    rw [if_pos hl, if_pos hl, show x = n by omega]
    exact ⟨rfl, trivial⟩
  | succ m ih =>
    intro x f hx hf
    obtain ⟨f, rfl⟩ : ∃ q, f = q + 1 := ⟨f - 1, by omega⟩
    have hl : ¬ S 68 2 ≤ zI x := by rw [h68, zI_le (by omega) (by omega)]; omega
    have hg := rG_le (B := 1024 * n) x fun y hy => (hR y (by omega)).1
    have hx2 := hR x (by omega)
    have em : F_Math_max S (zI (rG R x)) (zI (R x)) = zI (rG R (x + 1)) := by
      have cs : rG R (x + 1) = if rG R x < R x then R x else rG R x := rfl
      unfold F_Math_max
      rw [cs]
      by_cases q3 : rG R x < R x
      · rw [if_pos q3, if_pos ((zI_lt (by omega) (by omega)).mpr q3)]
      · rw [if_neg q3, if_neg (fun z => q3 ((zI_lt (by omega) (by omega)).mp z))]
    unfold F_Ranks_append_L4 Sf_Ranks_append_L4
    rw [if_neg hl, if_neg hl, zAt_I (show x < 30 by omega) (by omega), hx2.2, em, zI_succ]
    exact ih (x + 1) f (by omega) (by omega)
theorem T_append_I {S : Nat → Nat → Int32} {n : Nat} {R : Nat → Nat} (hn : n < 30) (h68 : S 68 2 = zI n) (hR : ∀ x, x < n → R x ≤ 1024 * n ∧ S 69 x = zI (R x)) : F_Ranks_append S (zI n) = z_uS (z_uS S 69 n (zI (rG R n + 1024))) 68 2 (zI (n + 1)) ∧ Sf_Ranks_append S (zI n) := by
  obtain ⟨g1, g2⟩ := T_app_L (zI n) (by omega) h68 hR n 0 1300 (by omega) (by omega)
  rw [show rG R 0 = 0 from rfl, zI_0] at g1 g2
  unfold F_Ranks_append Sf_Ranks_append
  simp only [g1, z_let, zPut_I (show n < 30 by omega) (show 30 ≤ 2147483648 by omega), zI_succ]
  refine ⟨?_, g2, trivial⟩
  rw [show (1024 : Int32) = zI 1024 from rfl, zI_add]
theorem M_ahd_L {U : Nat → Nat → Int32} {n : Nat} {R : Nat → Nat} (hn : n ≤ 30) (h86 : U 86 0 = zI n) (hR : ∀ x, x < n → (1 ≤ R x ∧ R x ≤ 1024 * n) ∧ U 167 x = zI (R x)) : ∀ (m x f : Nat) (v : Int32), m + x = n → m < f → (x = 0 ∧ v = -1 ∨ ∃ a, a < x ∧ v = zI a ∧ R a = rG R x) → ∃ w, F_M_ahead_L4 U (-1) f v (zI x) = w ∧ Sf_M_ahead_L4 U (-1) f v (zI x) ∧ (n = 0 ∧ w = -1 ∨ ∃ a, a < n ∧ w = zI a ∧ R a = rG R n) := by
  intro m
  induction m with
  | zero =>
    intro x f v hx hf hv
    obtain ⟨f, rfl⟩ : ∃ q, f = q + 1 := ⟨f - 1, by omega⟩
    have hl : U 86 0 ≤ zI x := by rw [h86, zI_le (by omega) (by omega)]; omega
    unfold F_M_ahead_L4 Sf_M_ahead_L4
    rw [if_pos hl, if_pos hl]
    have e : x = n := by omega
    subst e
    exact ⟨v, rfl, trivial, hv⟩
  | succ m ih =>
    intro x f v hx hf hv
    obtain ⟨f, rfl⟩ : ∃ q, f = q + 1 := ⟨f - 1, by omega⟩
    have hl : ¬ U 86 0 ≤ zI x := by rw [h86, zI_le (by omega) (by omega)]; omega
    have hx2 := hR x (by omega)
    have vx : vp_in (zI x) 30 := vp_in_I (by omega) (by omega)
    have cs : rG R (x + 1) = if rG R x < R x then R x else rG R x := rfl
    unfold F_M_ahead_L4 Sf_M_ahead_L4 F_M_ahead_l4_44 Sf_M_ahead_l4_44 F_M_ahead_l4_40 Sf_M_ahead_l4_40
    rw [if_neg hl, if_neg hl, if_neg (m1_ne x (by omega)), if_neg (m1_ne x (by omega)), zI_succ, zI_clamp (show x < 2147483648 by omega), hx2.2]
    rcases hv with ⟨e0, rfl⟩ | ⟨a, ha, rfl, hag⟩
    · rw [if_pos rfl, if_pos rfl]
      have r0 : rG R x = 0 := by rw [e0]; rfl
      exact ih (x + 1) f (zI x) (by omega) (by omega) (Or.inr ⟨x, by omega, rfl, by rw [cs, if_pos (by omega)]⟩)
    · have ha2 := hR a (by omega)
      have va : vp_in (zI a) 30 := vp_in_I (by omega) (by omega)
      rw [if_neg (m1_ne a (by omega)), if_neg (m1_ne a (by omega)), zI_clamp (show a < 2147483648 by omega), ha2.2]
      by_cases q : R x ≤ R a
      · rw [if_pos ((rk_le (by omega) (by omega)).mpr q), if_pos ((rk_le (by omega) (by omega)).mpr q)]
        obtain ⟨w, w1, w2, w3⟩ := ih (x + 1) f (zI a) (by omega) (by omega) (Or.inr ⟨a, by omega, rfl, by rw [cs, if_neg (by omega)]; exact hag⟩)
        exact ⟨w, w1, ⟨vx, va, w2⟩, w3⟩
      · rw [if_neg (fun z => q ((rk_le (by omega) (by omega)).mp z)), if_neg (fun z => q ((rk_le (by omega) (by omega)).mp z))]
        obtain ⟨w, w1, w2, w3⟩ := ih (x + 1) f (zI x) (by omega) (by omega) (Or.inr ⟨x, by omega, rfl, by rw [cs, if_pos (by omega)]⟩)
        exact ⟨w, w1, ⟨vx, va, w2⟩, w3⟩
theorem M_ahead_I {U : Nat → Nat → Int32} {n : Nat} {R : Nat → Nat} (hn : n ≤ 30) (h86 : U 86 0 = zI n) (hR : ∀ x, x < n → (1 ≤ R x ∧ R x ≤ 1024 * n) ∧ U 167 x = zI (R x)) : ∃ w, F_M_ahead U (-1) = w ∧ Sf_M_ahead U (-1) ∧ (n = 0 ∧ w = -1 ∨ ∃ a, a < n ∧ w = zI a ∧ R a = rG R n) := by
  obtain ⟨w, w1, w2, w3⟩ := M_ahd_L hn h86 hR n 0 1300 (-1) (by omega) (by omega) (Or.inl ⟨rfl, rfl⟩)
  rw [zI_0] at w1 w2
  unfold F_M_ahead Sf_M_ahead
  exact ⟨w, w1, ⟨w2, trivial⟩, w3⟩
theorem rG_new {R : Nat → Nat} {n : Nat} (hR : ∀ x, x < n → 1 ≤ R x ∧ R x ≤ 1024 * n) (hinj : ∀ i, i < n → ∀ j, j < n → R i = R j → i = j) : (∀ x, x < n + 1 → 1 ≤ (if x = n then rG R n + 1024 else R x) ∧ (if x = n then rG R n + 1024 else R x) ≤ 1024 * (n + 1)) ∧ ∀ i, i < n + 1 → ∀ j, j < n + 1 → (if i = n then rG R n + 1024 else R i) = (if j = n then rG R n + 1024 else R j) → i = j := by
  have hg := rG_le (B := 1024 * n) n fun x hx => (hR x hx).2
  refine ⟨fun x hx => ?_, fun i hi j hj he => ?_⟩
  · by_cases e : x = n
    · rw [if_pos e]; omega
    · rw [if_neg e]; have := hR x (by omega); omega
  · by_cases ei : i = n
    · by_cases ej : j = n
      · omega
      · rw [if_pos ei, if_neg ej] at he; have := rG_ge (R := R) n j (by omega); omega
    · by_cases ej : j = n
      · rw [if_neg ei, if_pos ej] at he; have := rG_ge (R := R) n i (by omega); omega
      · rw [if_neg ei, if_neg ej] at he; exact hinj i (by omega) j (by omega) he
def zW14 : List zLoc := (68, some 2) :: (69, none) :: (167, none) :: zWI
theorem zW14_in : ∀ q ∈ zWI, q ∈ zW14 := fun q h => List.mem_cons_of_mem _ (List.mem_cons_of_mem _ (List.mem_cons_of_mem _ h))
def zEndK (S F : Nat → Nat → Int32) (d : Nat) : Prop := zWr zW14 S F ∧ ∃ B, zOk d B ∧ B.2.1 ≤ 800 ∧ zRC F B ∧ zRM 86 F B ∧ zRK F (zCnt B.1 B.2.1) ∧ zPre S B
theorem zEnd.rk {fl : Nat → Nat} {S F : Nat → Nat → Int32} {d : Nat} {A : zA} {rn : Nat} (h : zB0 fl S d A rn) (g : zEnd S F d) (hK : zRK S (zCnt A.1 A.2.1)) : ∃ B, zOk d B ∧ B.2.1 ≤ 800 ∧ zRC F B ∧ zRM 86 F B ∧ zRK F (zCnt B.1 B.2.1) ∧ zPre S B := by
  obtain ⟨g1, B, b1, b2, b3, b4, b5⟩ := g
  have e : zCnt B.1 B.2.1 = zCnt A.1 A.2.1 := by
    have c1 := b1.cnt
    have c2 := h.ok.cnt
    exact (zI_inj (by omega) (by omega)).mp (b5.1.symm.trans h.cn.1)
  exact ⟨B, b1, b2, b3, b4, by rw [e]; exact hK.ag (g1.ag (by decide +kernel)), b5.2⟩
theorem zEnd.k {fl : Nat → Nat} {S F : Nat → Nat → Int32} {d : Nat} {A : zA} {rn : Nat} (h : zB0 fl S d A rn) (g : zEnd S F d) (hK : zRK S (zCnt A.1 A.2.1)) : zEndK S F d := ⟨g.1.mono zW14_in, g.rk h hK⟩
