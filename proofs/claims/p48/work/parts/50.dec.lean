/-! The safety words can be decided: they are worked out by the kernel -/
def z_dI {c A B : Prop} {dc : Decidable c} (dA : Decidable A) (dB : Decidable B) : Decidable (@ite Prop c dc A B) := match dc with
  | .isTrue _ => dA
  | .isFalse _ => dB
def z_dL {a : Nat → Nat → Int32} {f : (Nat → Nat → Int32) → Prop} (d : ∀ S, Decidable (f S)) : Decidable (z_let a f) := d a
def z_dP {x : Int32 × (Nat → Nat → Int32)} {f : Int32 → (Nat → Nat → Int32) → Prop} (d : ∀ a b, Decidable (f a b)) : Decidable (match x with | (a, b) => f a b) := match x with
  | (a, b) => d a b
def z_dv (i : Int32) (n : Nat) : Decidable (vp_in i n) := by unfold vp_in; exact inferInstance
def z_dn (v : Int32) : Decidable (narrow .boolean (.int v) = .int v) := decidable_of_iff (vp_nar .boolean v = v) ⟨fun h => (show narrow .boolean (.int v) = .int (vp_nar .boolean v) from rfl).trans (by rw [h]), fun h => by
  have h1 : (Value.int (vp_nar .boolean v)) = .int v := (show narrow .boolean (.int v) = .int (vp_nar .boolean v) from rfl).symm.trans h
  injection h1⟩

def dS_World_cell_j27 (r : Nat) (S : (Nat → Nat → Int32)) (x1 : Int32) (x2 : Int32) (s0 : Int32) : Decidable (Sf_World_cell_j27 r S x1 x2 s0) := by
  delta Sf_World_cell_j27
  exact (z_dI instDecidableTrue (z_dI instDecidableTrue (z_dI instDecidableTrue (@instDecidableAnd _ _ (z_dv ((x1 * 10) + x2) 300) instDecidableTrue))))
def dS_World_cell_j26 (r : Nat) (S : (Nat → Nat → Int32)) (x1 : Int32) (x2 : Int32) : Decidable (Sf_World_cell_j26 r S x1 x2) := by
  delta Sf_World_cell_j26
  exact (dS_World_cell_j27 r S x1 x2 0)
def dS_World_cell (r : Nat) (S : (Nat → Nat → Int32)) (p1 : Int32) (p2 : Int32) : Decidable (Sf_World_cell r S p1 p2) := by
  delta Sf_World_cell
  exact (z_dI (dS_World_cell_j26 r S p1 p2) (z_dI (dS_World_cell_j26 r S p1 p2) (z_dI (dS_World_cell_j27 r S p1 p2 1) (dS_World_cell_j26 r S p1 p2))))
def dS_World_linksOf_j24 (r : Nat) (S : (Nat → Nat → Int32)) (x1 : Int32) (x2 : Int32) (s0 : Int32) : Decidable (Sf_World_linksOf_j24 r S x1 x2 s0) := by
  delta Sf_World_linksOf_j24
  exact (z_dI instDecidableTrue (@instDecidableAnd _ _ (z_dv ((x1 * 30) + x2) 90) instDecidableTrue))
def dS_World_linksOf_j23 (r : Nat) (S : (Nat → Nat → Int32)) (x1 : Int32) (x2 : Int32) : Decidable (Sf_World_linksOf_j23 r S x1 x2) := by
  delta Sf_World_linksOf_j23
  exact (dS_World_linksOf_j24 r S x1 x2 0)
def dS_World_linksOf (r : Nat) (S : (Nat → Nat → Int32)) (p1 : Int32) (p2 : Int32) : Decidable (Sf_World_linksOf r S p1 p2) := by
  delta Sf_World_linksOf
  exact (z_dI (dS_World_linksOf_j23 r S p1 p2) (z_dI (dS_World_linksOf_j23 r S p1 p2) (z_dI (dS_World_linksOf_j23 r S p1 p2) (z_dI (dS_World_linksOf_j23 r S p1 p2) (dS_World_linksOf_j24 r S p1 p2 1)))))
def dS_World_childrenOf_L4 (r : Nat) (S : (Nat → Nat → Int32)) (x1 : Int32) : ∀ (f : Nat) (x2 : Int32) (x3 : Int32), Decidable (Sf_World_childrenOf_L4 r S x1 f x2 x3)
  | 0, x2, x3 => instDecidableFalse
  | f + 1, x2, x3 => (show Decidable (if (30 : Int32) ≤ x3 then True else (if (F_World_has r S x3) = 0 then ((Sf_World_childrenOf_L4 r S x1 f) x2 (x3 + 1)) else (Sf_World_cell r S x3 5 ∧ (if (F_World_cell r S x3 5) = x1 then ((Sf_World_childrenOf_L4 r S x1 f) (x2 ||| (F_T_bit S x3)) (x3 + 1)) else ((Sf_World_childrenOf_L4 r S x1 f) x2 (x3 + 1)))))) from (z_dI instDecidableTrue (z_dI (dS_World_childrenOf_L4 r S x1 f x2 (x3 + 1)) (@instDecidableAnd _ _ (dS_World_cell r S x3 5) (z_dI (dS_World_childrenOf_L4 r S x1 f (x2 ||| (F_T_bit S x3)) (x3 + 1)) (dS_World_childrenOf_L4 r S x1 f x2 (x3 + 1)))))))
def dS_World_childrenOf (r : Nat) (S : (Nat → Nat → Int32)) (p1 : Int32) : Decidable (Sf_World_childrenOf r S p1) := by
  delta Sf_World_childrenOf
  exact (@instDecidableAnd _ _ (dS_World_childrenOf_L4 r S p1 1300 0 0) instDecidableTrue)
def dS_World_current (r : Nat) (S : (Nat → Nat → Int32)) (p1 : Int32) (p2 : Int32) (p3 : Int32) : Decidable (Sf_World_current r S p1 p2 p3) := by
  delta Sf_World_current
  exact (z_dI instDecidableTrue (z_dI (@instDecidableAnd _ _ (dS_World_cell r S p1 p2) instDecidableTrue) (@instDecidableAnd _ _ (dS_World_linksOf r S (p2 - 10) p1) instDecidableTrue)))
def dS_World_connect_j86 (r : Nat) (S : (Nat → Nat → Int32)) (s0 : Int32) (s1 : Int32) : Decidable (Sf_World_connect_j86 r S s0 s1) := by
  delta Sf_World_connect_j86
  exact (@instDecidableAnd _ _ (z_dv s1 90) instDecidableTrue)
def dS_World_connect_j34 (r : Nat) (S : (Nat → Nat → Int32)) (x1 : Int32) (x2 : Int32) (x3 : Int32) (x4 : Int32) (s0 : Int32) : Decidable (Sf_World_connect_j34 r S x1 x2 x3 x4 s0) := by
  delta Sf_World_connect_j34
  exact (z_dI instDecidableTrue (@instDecidableAnd _ _ (z_dv ((x1 * 30) + x2) 90) (z_dI (dS_World_connect_j86 r S ((S (r + 2) ((x1 * 30) + x2).toNatClampNeg) &&& (((1 : Int32) <<< (x3 &&& 31)) ^^^ (-1))) ((x1 * 30) + x2)) (dS_World_connect_j86 r S ((S (r + 2) ((x1 * 30) + x2).toNatClampNeg) ||| ((1 : Int32) <<< (x3 &&& 31))) ((x1 * 30) + x2)))))
def dS_World_connect_j33 (r : Nat) (S : (Nat → Nat → Int32)) (x1 : Int32) (x2 : Int32) (x3 : Int32) (x4 : Int32) : Decidable (Sf_World_connect_j33 r S x1 x2 x3 x4) := by
  delta Sf_World_connect_j33
  exact (dS_World_connect_j34 r S x1 x2 x3 x4 0)
def dS_World_connect (r : Nat) (S : (Nat → Nat → Int32)) (p1 : Int32) (p2 : Int32) (p3 : Int32) (p4 : Int32) : Decidable (Sf_World_connect r S p1 p2 p3 p4) := by
  delta Sf_World_connect
  exact (z_dI (dS_World_connect_j33 r S p1 p2 p3 p4) (z_dI (dS_World_connect_j33 r S p1 p2 p3 p4) (z_dI (dS_World_connect_j33 r S p1 p2 p3 p4) (z_dI (dS_World_connect_j33 r S p1 p2 p3 p4) (z_dI (dS_World_connect_j33 r S p1 p2 p3 p4) (z_dI (dS_World_connect_j33 r S p1 p2 p3 p4) (dS_World_connect_j34 r S p1 p2 p3 p4 1)))))))
def dS_World_write_j67 (r : Nat) (S : (Nat → Nat → Int32)) (s0 : Int32) (s1 : Int32) (s2 : Int32) (s3 : Int32) : Decidable (Sf_World_write_j67 r S s0 s1 s2 s3) := by
  delta Sf_World_write_j67
  exact (@instDecidableAnd _ _ (dS_World_connect r S s3 s2 s1 s0) instDecidableTrue)
def dS_World_write_j43 (r : Nat) (S : (Nat → Nat → Int32)) (x1 : Int32) (x2 : Int32) (x3 : Int32) (x4 : Int32) (s0 : Int32) (s1 : Int32) (s2 : Int32) (s3 : Int32) : Decidable (Sf_World_write_j43 r S x1 x2 x3 x4 s0 s1 s2 s3) := by
  delta Sf_World_write_j43
  exact (@instDecidableAnd _ _ (dS_World_connect r S s3 s2 s1 s0) (z_dL (fun S43 => (z_dI (z_dI (dS_World_write_j67 r S43 1 x1 x3 1) (dS_World_write_j67 r S43 0 x1 x3 1)) instDecidableTrue))))
def dS_World_write (r : Nat) (S : (Nat → Nat → Int32)) (p1 : Int32) (p2 : Int32) (p3 : Int32) (p4 : Int32) : Decidable (Sf_World_write r S p1 p2 p3 p4) := by
  delta Sf_World_write
  exact (z_dI instDecidableTrue (z_dI instDecidableTrue (z_dI (dS_World_write_j43 r S p1 p2 p3 p4 1 p3 p1 (p2 - 10)) (dS_World_write_j43 r S p1 p2 p3 p4 0 p3 p1 (p2 - 10)))))
def dS_World_begin_L16 (r : Nat) (x1 : Int32) (x2 : Int32) (x3 : Int32) : ∀ (f : Nat) (S : (Nat → Nat → Int32)) (x4 : Int32), Decidable (Sf_World_begin_L16 r x1 x2 x3 f S x4)
  | 0, S, x4 => instDecidableFalse
  | f + 1, S, x4 => (show Decidable (if (10 : Int32) ≤ x4 then True else (z_let (zPut S (r + 1) 300 ((x1 * 10) + x4) (-1)) (fun S35 => ((Sf_World_begin_L16 r x1 x2 x3 f) S35 (x4 + 1))))) from (z_dI instDecidableTrue (z_dL (fun S35 => (dS_World_begin_L16 r x1 x2 x3 f S35 (x4 + 1))))))
def dS_World_begin (r : Nat) (S : (Nat → Nat → Int32)) (p1 : Int32) (p2 : Int32) (p3 : Int32) : Decidable (Sf_World_begin r S p1 p2 p3) := by
  delta Sf_World_begin
  exact (@instDecidableAnd _ _ (dS_World_begin_L16 r p1 p2 p3 1300 (z_uS S r 3 ((S r 3) ||| (F_T_bit S p1))) 0) instDecidableTrue)
def dS_World_redo (r : Nat) (S : (Nat → Nat → Int32)) (p2 : Int32) : Decidable (Sf_World_redo r S p2) := by
  delta Sf_World_redo
  exact (z_dI (@instDecidableAnd _ _ (dS_World_begin r S (zAt (S 4) 900 p2) (zAt (S 6) 900 p2) (zAt (S 8) 900 p2)) instDecidableTrue) (@instDecidableAnd _ _ (dS_World_write r S (zAt (S 4) 900 p2) (zAt (S 5) 900 p2) (zAt (S 6) 900 p2) (zAt (S 8) 900 p2)) instDecidableTrue))
def dS_World_undo (r : Nat) (S : (Nat → Nat → Int32)) (p2 : Int32) : Decidable (Sf_World_undo r S p2) := by
  delta Sf_World_undo
  exact (z_dI instDecidableTrue (@instDecidableAnd _ _ (dS_World_write r S (zAt (S 4) 900 p2) (zAt (S 5) 900 p2) (zAt (S 6) 900 p2) (zAt (S 7) 900 p2)) instDecidableTrue))
def dS_Log_add (S : (Nat → Nat → Int32)) (p1 : Int32) (p2 : Int32) (p3 : Int32) (p4 : Int32) (p5 : Int32) (p6 : Int32) (p7 : Int32) : Decidable (Sf_Log_add S p1 p2 p3 p4 p5 p6 p7) := by
  delta Sf_Log_add
  exact (z_dI instDecidableTrue (z_dI instDecidableTrue (@instDecidableAnd _ _ (z_dv (S 1 7) 900) (@instDecidableAnd _ _ (z_dv (S 1 7) 900) (@instDecidableAnd _ _ (z_dv (S 1 7) 900) (@instDecidableAnd _ _ (z_dv (S 1 7) 900) (@instDecidableAnd _ _ (z_dv (S 1 7) 900) (@instDecidableAnd _ _ (z_dv (S 1 7) 900) (@instDecidableAnd _ _ (z_dv (S 1 7) 900) instDecidableTrue)))))))))
def dS_Kinds_has (S : (Nat → Nat → Int32)) (p1 : Int32) (p2 : Int32) : Decidable (Sf_Kinds_has S p1 p2) := by
  delta Sf_Kinds_has
  exact (z_dI instDecidableTrue (z_dI instDecidableTrue (z_dI instDecidableTrue (z_dI instDecidableTrue (@instDecidableAnd _ _ (z_dv p1 3) instDecidableTrue)))))
def dS_Flows_has (S : (Nat → Nat → Int32)) (p1 : Int32) (p2 : Int32) : Decidable (Sf_Flows_has S p1 p2) := by
  delta Sf_Flows_has
  exact (@instDecidableAnd _ _ (z_dn _) instDecidableTrue)
def dS_Flows_begin_L34 (x1 : Int32) : ∀ (f : Nat) (S : (Nat → Nat → Int32)) (x2 : Int32), Decidable (Sf_Flows_begin_L34 x1 f S x2)
  | 0, S, x2 => instDecidableFalse
  | f + 1, S, x2 => (show Decidable (if (48 : Int32) ≤ x2 then True else (z_let (zPut S 57 192 ((144 : Int32) + x2) (zAt (S 57) 192 (((x1 * 8) * 6) + x2))) (fun S65 => ((Sf_Flows_begin_L34 x1 f) S65 (x2 + 1))))) from (z_dI instDecidableTrue (z_dL (fun S65 => (dS_Flows_begin_L34 x1 f S65 (x2 + 1))))))
def dS_Flows_begin (S : (Nat → Nat → Int32)) (p1 : Int32) : Decidable (Sf_Flows_begin S p1) := by
  delta Sf_Flows_begin
  exact (z_dL (fun S13 => (z_dL (fun S29 => (@instDecidableAnd _ _ (dS_Flows_begin_L34 p1 1300 S29 0) instDecidableTrue)))))
def dS_Flows_mappedFrom_L4 (S : (Nat → Nat → Int32)) : ∀ (f : Nat) (x2 : Int32) (x3 : Int32), Decidable (Sf_Flows_mappedFrom_L4 S f x2 x3)
  | 0, x2, x3 => instDecidableFalse
  | f + 1, x2, x3 => (show Decidable (if (6 : Int32) ≤ x3 then True else (Sf_Flows_has S 3 x2 ∧ (if (F_Flows_has S 3 x2) = 0 then ((Sf_Flows_mappedFrom_L4 S f) (zAt (S 58) 6 x2) (x3 + 1)) else True))) from (z_dI instDecidableTrue (@instDecidableAnd _ _ (dS_Flows_has S 3 x2) (z_dI (dS_Flows_mappedFrom_L4 S f (zAt (S 58) 6 x2) (x3 + 1)) instDecidableTrue))))
def dS_Flows_mappedFrom (S : (Nat → Nat → Int32)) (p1 : Int32) : Decidable (Sf_Flows_mappedFrom S p1) := by
  delta Sf_Flows_mappedFrom
  exact (@instDecidableAnd _ _ (dS_Flows_mappedFrom_L4 S 1300 p1 0) instDecidableTrue)
def dS_Flows_exchange_L20 (x1 : Int32) : ∀ (f : Nat) (S : (Nat → Nat → Int32)) (x2 : Int32), Decidable (Sf_Flows_exchange_L20 x1 f S x2)
  | 0, S, x2 => instDecidableFalse
  | f + 1, S, x2 => (show Decidable (if (48 : Int32) ≤ x2 then True else (z_let (F_Flows_swap_57 S ((144 : Int32) + x2) (((x1 * 8) * 6) + x2)) (fun S44 => ((Sf_Flows_exchange_L20 x1 f) S44 (x2 + 1))))) from (z_dI instDecidableTrue (z_dL (fun S44 => (dS_Flows_exchange_L20 x1 f S44 (x2 + 1))))))
def dS_Flows_exchange (S : (Nat → Nat → Int32)) (p1 : Int32) : Decidable (Sf_Flows_exchange S p1) := by
  delta Sf_Flows_exchange
  exact (z_dL (fun S6 => (z_dL (fun S15 => (@instDecidableAnd _ _ (dS_Flows_exchange_L20 p1 1300 S15 0) instDecidableTrue)))))
def dS_Ranks_append_L4 (x1 : Int32) : ∀ (f : Nat) (S : (Nat → Nat → Int32)) (x2 : Int32) (x3 : Int32), Decidable (Sf_Ranks_append_L4 x1 f S x2 x3)
  | 0, S, x2, x3 => instDecidableFalse
  | f + 1, S, x2, x3 => (show Decidable (if (S 68 2) ≤ x3 then True else ((Sf_Ranks_append_L4 x1 f) S (F_Math_max S x2 (zAt (S 69) 30 x3)) (x3 + 1))) from (z_dI instDecidableTrue (dS_Ranks_append_L4 x1 f S (F_Math_max S x2 (zAt (S 69) 30 x3)) (x3 + 1))))
def dS_Ranks_append (S : (Nat → Nat → Int32)) (p1 : Int32) : Decidable (Sf_Ranks_append S p1) := by
  delta Sf_Ranks_append
  exact (@instDecidableAnd _ _ (dS_Ranks_append_L4 p1 1300 S 0 0) instDecidableTrue)
def dS_Sight_tell (wd : Nat) (S : (Nat → Nat → Int32)) (p1 : Int32) (p2 : Int32) : Decidable (Sf_Sight_tell wd S p1 p2) := by
  delta Sf_Sight_tell
  exact (@instDecidableAnd _ _ (dS_World_cell wd S p1 9) (@instDecidableAnd _ _ (dS_Kinds_has S (F_World_cell wd S p1 9) p2) (z_dI instDecidableTrue (@instDecidableAnd _ _ (dS_World_cell wd S p1 ((1 : Int32) + p2)) instDecidableTrue))))
def dS_Sight_sees (S : (Nat → Nat → Int32)) (p1 : Int32) : Decidable (Sf_Sight_sees S p1) := by
  delta Sf_Sight_sees
  exact (@instDecidableAnd _ _ (z_dn _) instDecidableTrue)
def dS_Sight_canRead (S : (Nat → Nat → Int32)) (p1 : Int32) (p2 : Int32) : Decidable (Sf_Sight_canRead S p1 p2) := by
  delta Sf_Sight_canRead
  exact (@instDecidableAnd _ _ (z_dn _) instDecidableTrue)
def dS_Sight_computed_l38_119 (wd : Nat) (rc : Int32 → Int32 → Int32 → Int32 → Int32 → (Int32 × Int32 × Int32 × Int32)) (sr : Int32 → Int32 → Int32 → Int32 → Int32 → Prop) (ds : ∀ z0 z1 z2 z3 z4, Decidable (sr z0 z1 z2 z3 z4)) (S : (Nat → Nat → Int32)) (x1 : Int32) (x2 : Int32) (x3 : Int32) (x4 : Int32) (x5 : Int32) (x7 : Int32) (x8 : Int32) (x9 : Int32) (s0 : Int32) : Decidable (Sf_Sight_computed_l38_119 wd rc sr S x1 x2 x3 x4 x5 x7 x8 x9 s0) := by
  delta Sf_Sight_computed_l38_119
  exact (ds x4 x5 s0 (F_Math_max S x7 x9) (x8 + 1))
def dS_Sight_computed_l38_112 (wd : Nat) (rc : Int32 → Int32 → Int32 → Int32 → Int32 → (Int32 × Int32 × Int32 × Int32)) (sr : Int32 → Int32 → Int32 → Int32 → Int32 → Prop) (ds : ∀ z0 z1 z2 z3 z4, Decidable (sr z0 z1 z2 z3 z4)) (S : (Nat → Nat → Int32)) (x1 : Int32) (x2 : Int32) (x3 : Int32) (x4 : Int32) (x5 : Int32) (x7 : Int32) (x8 : Int32) (x9 : Int32) : Decidable (Sf_Sight_computed_l38_112 wd rc sr S x1 x2 x3 x4 x5 x7 x8 x9) := by
  delta Sf_Sight_computed_l38_112
  exact (dS_Sight_computed_l38_119 wd rc sr ds S x1 x2 x3 x4 x5 x7 x8 x9 x9)
def dS_Sight_computed_L38 (wd : Nat) (S : (Nat → Nat → Int32)) (x1 : Int32) (x2 : Int32) (x3 : Int32) : ∀ (f : Nat) (x4 : Int32) (x5 : Int32) (x6 : Int32) (x7 : Int32) (x8 : Int32), Decidable (Sf_Sight_computed_L38 wd S x1 x2 x3 f x4 x5 x6 x7 x8)
  | 0, x4, x5, x6, x7, x8 => instDecidableFalse
  | f + 1, x4, x5, x6, x7, x8 => (show Decidable (if (30 : Int32) ≤ x8 then True else (if (F_T_isIn S (zAt (S 42) 3 x3) x8) = 0 then ((Sf_Sight_computed_L38 wd S x1 x2 x3 f) x4 x5 x6 x7 (x8 + 1)) else (Sf_World_cell wd S x8 5 ∧ (if (F_World_cell wd S x8 5) = x1 then (Sf_World_cell wd S x8 ((1 : Int32) + x3) ∧ (if x6 = (-1) then (Sf_Sight_computed_l38_112 wd (F_Sight_computed_L38 wd S x1 x2 x3 f) (Sf_Sight_computed_L38 wd S x1 x2 x3 f) S x1 x2 x3 (x4 + 1) (x5 + (F_World_cell wd S x8 ((1 : Int32) + x3))) x7 x8 (F_World_cell wd S x8 ((1 : Int32) + x3))) else (if x6 ≤ (F_World_cell wd S x8 ((1 : Int32) + x3)) then (Sf_Sight_computed_l38_119 wd (F_Sight_computed_L38 wd S x1 x2 x3 f) (Sf_Sight_computed_L38 wd S x1 x2 x3 f) S x1 x2 x3 (x4 + 1) (x5 + (F_World_cell wd S x8 ((1 : Int32) + x3))) x7 x8 (F_World_cell wd S x8 ((1 : Int32) + x3)) x6) else (Sf_Sight_computed_l38_112 wd (F_Sight_computed_L38 wd S x1 x2 x3 f) (Sf_Sight_computed_L38 wd S x1 x2 x3 f) S x1 x2 x3 (x4 + 1) (x5 + (F_World_cell wd S x8 ((1 : Int32) + x3))) x7 x8 (F_World_cell wd S x8 ((1 : Int32) + x3)))))) else ((Sf_Sight_computed_L38 wd S x1 x2 x3 f) x4 x5 x6 x7 (x8 + 1)))))) from (z_dI instDecidableTrue (z_dI (dS_Sight_computed_L38 wd S x1 x2 x3 f x4 x5 x6 x7 (x8 + 1)) (@instDecidableAnd _ _ (dS_World_cell wd S x8 5) (z_dI (@instDecidableAnd _ _ (dS_World_cell wd S x8 ((1 : Int32) + x3)) (z_dI (dS_Sight_computed_l38_112 wd (F_Sight_computed_L38 wd S x1 x2 x3 f) (Sf_Sight_computed_L38 wd S x1 x2 x3 f) (dS_Sight_computed_L38 wd S x1 x2 x3 f) S x1 x2 x3 (x4 + 1) (x5 + (F_World_cell wd S x8 ((1 : Int32) + x3))) x7 x8 (F_World_cell wd S x8 ((1 : Int32) + x3))) (z_dI (dS_Sight_computed_l38_119 wd (F_Sight_computed_L38 wd S x1 x2 x3 f) (Sf_Sight_computed_L38 wd S x1 x2 x3 f) (dS_Sight_computed_L38 wd S x1 x2 x3 f) S x1 x2 x3 (x4 + 1) (x5 + (F_World_cell wd S x8 ((1 : Int32) + x3))) x7 x8 (F_World_cell wd S x8 ((1 : Int32) + x3)) x6) (dS_Sight_computed_l38_112 wd (F_Sight_computed_L38 wd S x1 x2 x3 f) (Sf_Sight_computed_L38 wd S x1 x2 x3 f) (dS_Sight_computed_L38 wd S x1 x2 x3 f) S x1 x2 x3 (x4 + 1) (x5 + (F_World_cell wd S x8 ((1 : Int32) + x3))) x7 x8 (F_World_cell wd S x8 ((1 : Int32) + x3)))))) (dS_Sight_computed_L38 wd S x1 x2 x3 f x4 x5 x6 x7 (x8 + 1)))))))
def dS_Sight_computed (wd : Nat) (S : (Nat → Nat → Int32)) (p1 : Int32) : Decidable (Sf_Sight_computed wd S p1) := by
  delta Sf_Sight_computed
  exact (@instDecidableAnd _ _ (dS_World_cell wd S p1 9) (@instDecidableAnd _ _ (dS_Sight_computed_L38 wd S p1 (F_World_cell wd S p1 9) (zAt (S 46) 3 (F_World_cell wd S p1 9)) 1300 0 0 (-1) (-1) 0) instDecidableTrue))
def dS_Sight_lookAt_L114 (wd : Nat) (x1 : Int32) (x2 : Int32) : ∀ (f : Nat) (S : (Nat → Nat → Int32)) (x6 : Int32), Decidable (Sf_Sight_lookAt_L114 wd x1 x2 f S x6)
  | 0, S, x6 => instDecidableFalse
  | f + 1, S, x6 => (show Decidable (if (3 : Int32) < x6 then True else (if (x2 &&& (zAt (S 40) 4 x6)) = 0 then ((Sf_Sight_lookAt_L114 wd x1 x2 f) S (x6 + 1)) else (z_let (zPut S 41 4 x6 ((zAt (S 41) 4 x6) ||| (F_T_bit S x1))) (fun S154 => (Sf_Sight_tell wd S154 x1 x6 ∧ (z_let (F_Sight_tell wd S154 x1 x6) (fun S161 => ((Sf_Sight_lookAt_L114 wd x1 x2 f) S161 (x6 + 1))))))))) from (z_dI instDecidableTrue (z_dI (dS_Sight_lookAt_L114 wd x1 x2 f S (x6 + 1)) (z_dL (fun S154 => (@instDecidableAnd _ _ (dS_Sight_tell wd S154 x1 x6) (z_dL (fun S161 => (dS_Sight_lookAt_L114 wd x1 x2 f S161 (x6 + 1))))))))))
def dS_Sight_lookAt_j107 (wd : Nat) (S : (Nat → Nat → Int32)) (x1 : Int32) (x2 : Int32) (s0 : Int32) (s1 : Int32) : Decidable (Sf_Sight_lookAt_j107 wd S x1 x2 s0 s1) := by
  delta Sf_Sight_lookAt_j107
  exact (@instDecidableAnd _ _ (dS_Sight_lookAt_L114 wd x1 x2 1300 (z_uS S 36 9 (s1 ||| s0)) 0) instDecidableTrue)
def dS_Sight_lookAt_j47 (wd : Nat) (S : (Nat → Nat → Int32)) (x1 : Int32) (x2 : Int32) (x3 : Int32) (s0 : Int32) : Decidable (Sf_Sight_lookAt_j47 wd S x1 x2 x3 s0) := by
  delta Sf_Sight_lookAt_j47
  exact (z_dI instDecidableTrue (z_dI instDecidableTrue (z_dI (dS_Sight_lookAt_j107 wd (z_uS S 36 8 ((S 36 8) ||| (F_T_bit S x1))) x1 x2 0 (S 36 9)) (dS_Sight_lookAt_j107 wd (z_uS S 36 8 ((S 36 8) ||| (F_T_bit S x1))) x1 x2 (F_T_bit (z_uS S 36 8 ((S 36 8) ||| (F_T_bit S x1))) x1) (S 36 9)))))
def dS_Sight_lookAt_j42 (wd : Nat) (S : (Nat → Nat → Int32)) (x1 : Int32) (x2 : Int32) (x3 : Int32) : Decidable (Sf_Sight_lookAt_j42 wd S x1 x2 x3) := by
  delta Sf_Sight_lookAt_j42
  exact (dS_Sight_lookAt_j47 wd S x1 x2 x3 1)
def dS_Sight_lookAt (wd : Nat) (S : (Nat → Nat → Int32)) (p1 : Int32) (p2 : Int32) : Decidable (Sf_Sight_lookAt wd S p1 p2) := by
  delta Sf_Sight_lookAt
  exact (@instDecidableAnd _ _ (dS_World_cell wd S p1 8) (@instDecidableAnd _ _ (dS_World_cell wd S p1 6) (z_dI (dS_Sight_lookAt_j42 wd S p1 p2 (F_World_cell wd S p1 8)) (z_dI (dS_Sight_lookAt_j47 wd S p1 p2 (F_World_cell wd S p1 8) 0) (dS_Sight_lookAt_j42 wd S p1 p2 (F_World_cell wd S p1 8))))))
def dS_Sight_value (wd : Nat) (S : (Nat → Nat → Int32)) (p1 : Int32) (p2 : Int32) : Decidable (Sf_Sight_value wd S p1 p2) := by
  delta Sf_Sight_value
  exact (z_dI (@instDecidableAnd _ _ (dS_Sight_canRead S p1 p2) (z_dI instDecidableTrue (@instDecidableAnd _ _ (dS_Sight_computed wd S p1) instDecidableTrue))) (z_dI instDecidableTrue (@instDecidableAnd _ _ (dS_World_cell wd S p1 ((1 : Int32) + p2)) instDecidableTrue)))
def dS_Sight_look_L33 (a : Nat) (x2 : Int32) : ∀ (f : Nat) (S : (Nat → Nat → Int32)) (x3 : Int32), Decidable (Sf_Sight_look_L33 a x2 f S x3)
  | 0, S, x3 => instDecidableFalse
  | f + 1, S, x3 => (show Decidable (if (30 : Int32) ≤ x3 then True else (if (F_World_has a S x3) = 0 then ((Sf_Sight_look_L33 a x2 f) S (x3 + 1)) else (Sf_World_cell a S x3 8 ∧ (Sf_Sight_lookAt a S x3 (F_World_rolesOf a S x2 (F_World_cell a S x3 8)) ∧ (z_let (F_Sight_lookAt a S x3 (F_World_rolesOf a S x2 (F_World_cell a S x3 8))) (fun S70 => ((Sf_Sight_look_L33 a x2 f) S70 (x3 + 1)))))))) from (z_dI instDecidableTrue (z_dI (dS_Sight_look_L33 a x2 f S (x3 + 1)) (@instDecidableAnd _ _ (dS_World_cell a S x3 8) (@instDecidableAnd _ _ (dS_Sight_lookAt a S x3 (F_World_rolesOf a S x2 (F_World_cell a S x3 8))) (z_dL (fun S70 => (dS_Sight_look_L33 a x2 f S70 (x3 + 1)))))))))
def dS_Sight_look (a : Nat) (S : (Nat → Nat → Int32)) (p2 : Int32) : Decidable (Sf_Sight_look a S p2) := by
  delta Sf_Sight_look
  exact (z_dL (fun S20 => (z_dL (fun S28 => (@instDecidableAnd _ _ (dS_Sight_look_L33 a p2 1300 S28 0) instDecidableTrue)))))
def dS_T_isMet (S : (Nat → Nat → Int32)) (p1 : Int32) (p2 : Int32) (p3 : Int32) : Decidable (Sf_T_isMet S p1 p2 p3) := by
  delta Sf_T_isMet
  exact (z_dI instDecidableTrue (@instDecidableAnd _ _ (dS_World_cell 9 S p1 9) (@instDecidableAnd _ _ (dS_Kinds_has S (F_World_cell 9 S p1 9) p2) (z_dI instDecidableTrue (@instDecidableAnd _ _ (dS_World_cell 9 S p1 ((1 : Int32) + p2)) instDecidableTrue)))))
def dS_T_change (S : (Nat → Nat → Int32)) (p1 : Int32) (p2 : Int32) (p3 : Int32) (p4 : Int32) (p5 : Int32) : Decidable (Sf_T_change S p1 p2 p3 p4 p5) := by
  delta Sf_T_change
  exact (@instDecidableAnd _ _ (dS_World_current 9 S p2 p3 p4) (z_dI instDecidableTrue (@instDecidableAnd _ _ (dS_Log_add S (S 0 14) p1 p2 p3 p4 (F_World_current 9 S p2 p3 p4) p5) (z_dL (fun S37 => (@instDecidableAnd _ _ (dS_World_write 9 S37 p2 p3 p4 p5) instDecidableTrue))))))
def dS_T_isWoken_j79 (S : (Nat → Nat → Int32)) (x1 : Int32) (x3 : Int32) : Decidable (Sf_T_isWoken_j79 S x1 x3) := by
  delta Sf_T_isWoken_j79
  exact (@instDecidableAnd _ _ (dS_T_isMet S x3 (zAt (S 66) 6 x1) (zAt (S 67) 6 x1)) instDecidableTrue)
def dS_T_isWoken (S : (Nat → Nat → Int32)) (p1 : Int32) (p2 : Int32) : Decidable (Sf_T_isWoken S p1 p2) := by
  delta Sf_T_isWoken
  exact (z_dI instDecidableTrue (z_dI (dS_T_isWoken_j79 S p1 (zAt (S 4) 900 p2)) (@instDecidableAnd _ _ (dS_World_cell 9 S (zAt (S 4) 900 p2) 9) (z_dI (dS_T_isWoken_j79 S p1 (zAt (S 4) 900 p2)) instDecidableTrue))))
def dS_T_targetsOf (S : (Nat → Nat → Int32)) (p1 : Int32) (p2 : Int32) : Decidable (Sf_T_targetsOf S p1 p2) := by
  delta Sf_T_targetsOf
  exact (z_dI instDecidableTrue (z_dI (@instDecidableAnd _ _ (dS_World_cell 9 S p1 5) instDecidableTrue) (z_dI (@instDecidableAnd _ _ (dS_World_childrenOf 9 S p1) instDecidableTrue) (@instDecidableAnd _ _ (dS_World_linksOf 9 S 0 p1) instDecidableTrue))))
def dS_T_canTake (S : (Nat → Nat → Int32)) (p1 : Int32) (p2 : Int32) : Decidable (Sf_T_canTake S p1 p2) := by
  delta Sf_T_canTake
  exact (z_dI (@instDecidableAnd _ _ (dS_Flows_has S p2 (zAt (S 64) 6 p1)) (@instDecidableAnd _ _ (z_dn _) instDecidableTrue)) (z_dI instDecidableTrue (@instDecidableAnd _ _ (dS_Kinds_has S p2 ((zAt (S 63) 6 p1) - 1)) instDecidableTrue)))
def dS_T_takeBack_L10 (x1 : Int32) : ∀ (f : Nat) (S : (Nat → Nat → Int32)) (x2 : Int32), Decidable (Sf_T_takeBack_L10 x1 f S x2)
  | 0, S, x2 => instDecidableFalse
  | f + 1, S, x2 => (show Decidable (if x2 < x1 then True else (Sf_World_undo 9 S x2 ∧ (z_let (F_World_undo 9 S x2) (fun S24 => ((Sf_T_takeBack_L10 x1 f) S24 (x2 + (-1))))))) from (z_dI instDecidableTrue (@instDecidableAnd _ _ (dS_World_undo 9 S x2) (z_dL (fun S24 => (dS_T_takeBack_L10 x1 f S24 (x2 + (-1))))))))
def dS_T_takeBack (S : (Nat → Nat → Int32)) (p1 : Int32) : Decidable (Sf_T_takeBack S p1) := by
  delta Sf_T_takeBack
  exact (@instDecidableAnd _ _ (dS_T_takeBack_L10 p1 1300 S ((S 1 7) - 1)) instDecidableTrue)
def dS_T_wake_L88 (x1 : Int32) (x2 : Int32) (x3 : Int32) (x4 : Int32) (x5 : Int32) (x6 : Int32) (x7 : Int32) (x8 : Int32) : ∀ (f : Nat) (S : (Nat → Nat → Int32)) (x9 : Int32), Decidable (Sf_T_wake_L88 x1 x2 x3 x4 x5 x6 x7 x8 f S x9)
  | 0, S, x9 => instDecidableFalse
  | f + 1, S, x9 => (show Decidable (if (30 : Int32) ≤ x9 then True else (if x4 < (S 1 7) then True else (if (F_T_isIn S x8 x9) = 0 then ((Sf_T_wake_L88 x1 x2 x3 x4 x5 x6 x7 x8 f) S (x9 + 1)) else (Sf_World_cell 9 S x9 9 ∧ (Sf_T_canTake S x7 (F_World_cell 9 S x9 9) ∧ (if (F_T_canTake S x7 (F_World_cell 9 S x9 9)) = 0 then ((Sf_T_wake_L88 x1 x2 x3 x4 x5 x6 x7 x8 f) S (x9 + 1)) else (Sf_T_change S x2 x9 (zAt (S 63) 6 x7) 0 (zAt (S 64) 6 x7) ∧ (z_let (F_T_change S x2 x9 (zAt (S 63) 6 x7) 0 (zAt (S 64) 6 x7)) (fun S166 => ((Sf_T_wake_L88 x1 x2 x3 x4 x5 x6 x7 x8 f) S166 (x9 + 1))))))))))) from (z_dI instDecidableTrue (z_dI instDecidableTrue (z_dI (dS_T_wake_L88 x1 x2 x3 x4 x5 x6 x7 x8 f S (x9 + 1)) (@instDecidableAnd _ _ (dS_World_cell 9 S x9 9) (@instDecidableAnd _ _ (dS_T_canTake S x7 (F_World_cell 9 S x9 9)) (z_dI (dS_T_wake_L88 x1 x2 x3 x4 x5 x6 x7 x8 f S (x9 + 1)) (@instDecidableAnd _ _ (dS_T_change S x2 x9 (zAt (S 63) 6 x7) 0 (zAt (S 64) 6 x7)) (z_dL (fun S166 => (dS_T_wake_L88 x1 x2 x3 x4 x5 x6 x7 x8 f S166 (x9 + 1))))))))))))
def dS_T_wake_l16_83 (rc : (Nat → Nat → Int32) → Int32 → ((Nat → Nat → Int32))) (sr : (Nat → Nat → Int32) → Int32 → Prop) (ds : ∀ z0 z1, Decidable (sr z0 z1)) (S : (Nat → Nat → Int32)) (x1 : Int32) (x2 : Int32) (x3 : Int32) (x4 : Int32) (x5 : Int32) (x6 : Int32) (x7 : Int32) (s0 : Int32) : Decidable (Sf_T_wake_l16_83 rc sr S x1 x2 x3 x4 x5 x6 x7 s0) := by
  delta Sf_T_wake_l16_83
  exact (@instDecidableAnd _ _ (dS_T_wake_L88 x1 x2 x3 x4 x5 x6 x7 s0 1300 S 0) (ds (F_T_wake_L88 x1 x2 x3 x4 x5 x6 x7 s0 1300 S 0) (x6 + 1)))
def dS_T_wake_l16_49 (rc : (Nat → Nat → Int32) → Int32 → ((Nat → Nat → Int32))) (sr : (Nat → Nat → Int32) → Int32 → Prop) (ds : ∀ z0 z1, Decidable (sr z0 z1)) (S : (Nat → Nat → Int32)) (x1 : Int32) (x2 : Int32) (x3 : Int32) (x4 : Int32) (x5 : Int32) (x6 : Int32) (s0 : Int32) : Decidable (Sf_T_wake_l16_49 rc sr S x1 x2 x3 x4 x5 x6 s0) := by
  delta Sf_T_wake_l16_49
  exact (@instDecidableAnd _ _ (dS_T_isWoken S s0 x1) (z_dI (dS_T_wake_l16_83 rc sr ds S x1 x2 x3 x4 x5 x6 s0 0) (@instDecidableAnd _ _ (dS_T_targetsOf S x5 (zAt (S 62) 6 s0)) (dS_T_wake_l16_83 rc sr ds S x1 x2 x3 x4 x5 x6 s0 (F_T_targetsOf S x5 (zAt (S 62) 6 s0))))))
def dS_T_wake_L16 (x1 : Int32) (x2 : Int32) (x3 : Int32) (x4 : Int32) (x5 : Int32) : ∀ (f : Nat) (S : (Nat → Nat → Int32)) (x6 : Int32), Decidable (Sf_T_wake_L16 x1 x2 x3 x4 x5 f S x6)
  | 0, S, x6 => instDecidableFalse
  | f + 1, S, x6 => (show Decidable (if (S 59 8) ≤ x6 then True else (if x3 = 0 then (Sf_T_wake_l16_49 (F_T_wake_L16 x1 x2 x3 x4 x5 f) (Sf_T_wake_L16 x1 x2 x3 x4 x5 f) S x1 x2 x3 x4 x5 x6 x6) else (Sf_T_wake_l16_49 (F_T_wake_L16 x1 x2 x3 x4 x5 f) (Sf_T_wake_L16 x1 x2 x3 x4 x5 f) S x1 x2 x3 x4 x5 x6 (((S 59 8) - 1) - x6)))) from (z_dI instDecidableTrue (z_dI (dS_T_wake_l16_49 (F_T_wake_L16 x1 x2 x3 x4 x5 f) (Sf_T_wake_L16 x1 x2 x3 x4 x5 f) (dS_T_wake_L16 x1 x2 x3 x4 x5 f) S x1 x2 x3 x4 x5 x6 x6) (dS_T_wake_l16_49 (F_T_wake_L16 x1 x2 x3 x4 x5 f) (Sf_T_wake_L16 x1 x2 x3 x4 x5 f) (dS_T_wake_L16 x1 x2 x3 x4 x5 f) S x1 x2 x3 x4 x5 x6 (((S 59 8) - 1) - x6)))))
def dS_T_wake (S : (Nat → Nat → Int32)) (p1 : Int32) (p2 : Int32) (p3 : Int32) (p4 : Int32) : Decidable (Sf_T_wake S p1 p2 p3 p4) := by
  delta Sf_T_wake
  exact (@instDecidableAnd _ _ (dS_T_wake_L16 p1 p2 p3 p4 (zAt (S 4) 900 p1) 1300 S 0) instDecidableTrue)
def dS_T_isWithinLimit_j18 (S : (Nat → Nat → Int32)) (x1 : Int32) (s0 : Int32) : Decidable (Sf_T_isWithinLimit_j18 S x1 s0) := by
  delta Sf_T_isWithinLimit_j18
  exact (z_dI (@instDecidableAnd _ _ (dS_T_takeBack S x1) (z_dL (fun S25 => (@instDecidableAnd _ _ (z_dn _) instDecidableTrue)))) (@instDecidableAnd _ _ (z_dn _) instDecidableTrue))
def dS_T_isWithinLimit (S : (Nat → Nat → Int32)) (p1 : Int32) : Decidable (Sf_T_isWithinLimit S p1) := by
  delta Sf_T_isWithinLimit
  exact (z_dI (dS_T_isWithinLimit_j18 S p1 0) (dS_T_isWithinLimit_j18 S p1 1))
def dS_T_goesThrough_L15 (x2 : Int32) (x3 : Int32) (x4 : Int32) : ∀ (f : Nat) (S : (Nat → Nat → Int32)) (x5 : Int32), Decidable (Sf_T_goesThrough_L15 x2 x3 x4 f S x5)
  | 0, S, x5 => instDecidableFalse
  | f + 1, S, x5 => (show Decidable (if (S 1 7) ≤ x5 then True else (if x4 < (S 1 7) then True else (Sf_T_wake S x5 x2 x3 x4 ∧ (z_let (F_T_wake S x5 x2 x3 x4) (fun S46 => ((Sf_T_goesThrough_L15 x2 x3 x4 f) S46 (x5 + 1))))))) from (z_dI instDecidableTrue (z_dI instDecidableTrue (@instDecidableAnd _ _ (dS_T_wake S x5 x2 x3 x4) (z_dL (fun S46 => (dS_T_goesThrough_L15 x2 x3 x4 f S46 (x5 + 1))))))))
def dS_T_goesThrough (S : (Nat → Nat → Int32)) (p1 : Int32) (p2 : Int32) (p3 : Int32) : Decidable (Sf_T_goesThrough S p1 p2 p3) := by
  delta Sf_T_goesThrough
  exact (@instDecidableAnd _ _ (dS_T_goesThrough_L15 p2 p3 ((S 1 7) + 20) 1300 S p1) instDecidableTrue)
def dS_T_isSettled_j80 (S : (Nat → Nat → Int32)) (x1 : Int32) (s0 : Int32) : Decidable (Sf_T_isSettled_j80 S x1 s0) := by
  delta Sf_T_isSettled_j80
  exact (z_dI (@instDecidableAnd _ _ (dS_T_takeBack S x1) (z_dL (fun S89 => (@instDecidableAnd _ _ (z_dn _) instDecidableTrue)))) (@instDecidableAnd _ _ (z_dn _) instDecidableTrue))
def dS_T_isSettled_j79 (S : (Nat → Nat → Int32)) (x1 : Int32) : Decidable (Sf_T_isSettled_j79 S x1) := by
  delta Sf_T_isSettled_j79
  exact (dS_T_isSettled_j80 S x1 0)
def dS_T_isSettled (S : (Nat → Nat → Int32)) (p1 : Int32) (p2 : Int32) : Decidable (Sf_T_isSettled S p1 p2) := by
  delta Sf_T_isSettled
  exact (@instDecidableAnd _ _ (dS_T_goesThrough S p1 p2 1) (by generalize F_T_goesThrough S p1 p2 1 = z9; rcases z9 with ⟨r12, S12⟩; exact (z_dL (fun S25 => (@instDecidableAnd _ _ (dS_T_takeBack S25 (S 1 7)) (z_dL (fun S30 => (z_dI (dS_T_isSettled_j79 S30 p1) (@instDecidableAnd _ _ (dS_T_goesThrough S30 p1 p2 0) (by generalize F_T_goesThrough S30 p1 p2 0 = z9; rcases z9 with ⟨r42, S42⟩; exact (z_dI (dS_T_isSettled_j79 S42 p1) (@instDecidableAnd _ _ (dS_World_isLike S42) (z_dI (dS_T_isSettled_j79 S42 p1) (z_dI (dS_T_isSettled_j79 S42 p1) (dS_T_isSettled_j80 S42 p1 1)))))))))))))))
def dS_T_isSeen (S : (Nat → Nat → Int32)) (p1 : Int32) (p2 : Int32) : Decidable (Sf_T_isSeen S p1 p2) := by
  delta Sf_T_isSeen
  exact (@instDecidableAnd _ _ (dS_Sight_look 9 S p1) (z_dL (fun S9 => (@instDecidableAnd _ _ (dS_Sight_sees S9 p2) (@instDecidableAnd _ _ (z_dn _) instDecidableTrue)))))
def dS_T_grant (S : (Nat → Nat → Int32)) (p1 : Int32) (p2 : Int32) (p3 : Int32) : Decidable (Sf_T_grant S p1 p2 p3) := by
  delta Sf_T_grant
  exact (z_dI instDecidableTrue (z_dI instDecidableTrue (z_dI instDecidableTrue (@instDecidableAnd _ _ (dS_T_change S p1 (-1) 14 ((p1 * 3) + p2) p3) (z_dL (fun S60 => (@instDecidableAnd _ _ (dS_T_isWithinLimit S60 (S 1 7)) instDecidableTrue)))))))
def dS_T_draft (S : (Nat → Nat → Int32)) (p1 : Int32) : Decidable (Sf_T_draft S p1) := by
  delta Sf_T_draft
  exact (z_dI instDecidableTrue (z_dI (@instDecidableAnd _ _ (dS_Flows_begin S p1) instDecidableTrue) instDecidableTrue))
def dS_T_state (S : (Nat → Nat → Int32)) (p1 : Int32) : Decidable (Sf_T_state S p1) := by
  delta Sf_T_state
  exact (z_dI instDecidableTrue (z_dI instDecidableTrue (z_dI instDecidableTrue (@instDecidableAnd _ _ (dS_Flows_has S 3 p1) instDecidableTrue))))
def dS_T_transition_j92 (S : (Nat → Nat → Int32)) (x1 : Int32) (x2 : Int32) (x3 : Int32) (x4 : Int32) (x5 : Int32) (x6 : Int32) : Decidable (Sf_T_transition_j92 S x1 x2 x3 x4 x5 x6) := by
  delta Sf_T_transition_j92
  exact (z_dI instDecidableTrue (@instDecidableAnd _ _ (dS_Flows_has S 3 x1) (z_dI instDecidableTrue (@instDecidableAnd _ _ (dS_Flows_has S 3 x2) instDecidableTrue))))
def dS_T_transition_j48 (S : (Nat → Nat → Int32)) (x1 : Int32) (x2 : Int32) (x3 : Int32) (x4 : Int32) (x5 : Int32) (x6 : Int32) : Decidable (Sf_T_transition_j48 S x1 x2 x3 x4 x5 x6) := by
  delta Sf_T_transition_j48
  exact (z_dI instDecidableTrue (z_dI instDecidableTrue (z_dI instDecidableTrue (z_dI instDecidableTrue (z_dI (z_dI instDecidableTrue (dS_T_transition_j92 S x1 x2 x3 x4 x5 x6)) (dS_T_transition_j92 S x1 x2 x3 x4 x5 x6))))))
def dS_T_transition (S : (Nat → Nat → Int32)) (p1 : Int32) (p2 : Int32) (p3 : Int32) (p4 : Int32) (p5 : Int32) (p6 : Int32) : Decidable (Sf_T_transition S p1 p2 p3 p4 p5 p6) := by
  delta Sf_T_transition
  exact (z_dI instDecidableTrue (z_dI instDecidableTrue (z_dI instDecidableTrue (z_dI instDecidableTrue (z_dI (dS_T_transition_j48 S p1 p2 p3 p4 p5 p6) (z_dI instDecidableTrue (dS_T_transition_j48 S p1 p2 p3 p4 p5 p6)))))))
def dS_T_publish_L36 (x1 : Int32) (x2 : Int32) : ∀ (f : Nat) (S : (Nat → Nat → Int32)) (x3 : Int32), Decidable (Sf_T_publish_L36 x1 x2 f S x3)
  | 0, S, x3 => instDecidableFalse
  | f + 1, S, x3 => (show Decidable (if (30 : Int32) ≤ x3 then True else (Sf_World_cell 9 S x3 0 ∧ (if (F_World_has 9 S x3) = 0 then ((Sf_T_publish_L36 x1 x2 f) S (x3 + 1)) else (Sf_World_cell 9 S x3 9 ∧ (if (F_World_cell 9 S x3 9) = (S 54 4) then (Sf_Flows_has S 3 (F_World_cell 9 S x3 0) ∧ (if (F_Flows_has S 3 (F_World_cell 9 S x3 0)) = 0 then (Sf_Flows_mappedFrom S (F_World_cell 9 S x3 0) ∧ (Sf_T_change S x1 x3 0 0 (F_Flows_mappedFrom S (F_World_cell 9 S x3 0)) ∧ (z_let (F_T_change S x1 x3 0 0 (F_Flows_mappedFrom S (F_World_cell 9 S x3 0))) (fun S111 => ((Sf_T_publish_L36 x1 x2 f) S111 (x3 + 1)))))) else ((Sf_T_publish_L36 x1 x2 f) S (x3 + 1)))) else ((Sf_T_publish_L36 x1 x2 f) S (x3 + 1))))))) from (z_dI instDecidableTrue (@instDecidableAnd _ _ (dS_World_cell 9 S x3 0) (z_dI (dS_T_publish_L36 x1 x2 f S (x3 + 1)) (@instDecidableAnd _ _ (dS_World_cell 9 S x3 9) (z_dI (@instDecidableAnd _ _ (dS_Flows_has S 3 (F_World_cell 9 S x3 0)) (z_dI (@instDecidableAnd _ _ (dS_Flows_mappedFrom S (F_World_cell 9 S x3 0)) (@instDecidableAnd _ _ (dS_T_change S x1 x3 0 0 (F_Flows_mappedFrom S (F_World_cell 9 S x3 0))) (z_dL (fun S111 => (dS_T_publish_L36 x1 x2 f S111 (x3 + 1)))))) (dS_T_publish_L36 x1 x2 f S (x3 + 1)))) (dS_T_publish_L36 x1 x2 f S (x3 + 1))))))))
def dS_T_publish (S : (Nat → Nat → Int32)) (p1 : Int32) : Decidable (Sf_T_publish S p1) := by
  delta Sf_T_publish
  exact (z_dI instDecidableTrue (z_dI instDecidableTrue (@instDecidableAnd _ _ (dS_T_publish_L36 p1 (S 1 7) 1300 S 0) (@instDecidableAnd _ _ (dS_Flows_exchange (F_T_publish_L36 p1 (S 1 7) 1300 S 0) ((F_T_publish_L36 p1 (S 1 7) 1300 S 0) 54 4)) (z_dL (fun S141 => (@instDecidableAnd _ _ (dS_T_isSettled S141 (S 1 7) p1) (by generalize F_T_isSettled S141 (S 1 7) p1 = z9; rcases z9 with ⟨r147, S147⟩; exact (z_dI (@instDecidableAnd _ _ (dS_Flows_exchange S147 (S147 54 4)) instDecidableTrue) instDecidableTrue)))))))))
def dS_T_create (S : (Nat → Nat → Int32)) (p1 : Int32) (p2 : Int32) (p3 : Int32) : Decidable (Sf_T_create S p1 p2 p3) := by
  delta Sf_T_create
  exact (z_dI instDecidableTrue (z_dI instDecidableTrue (z_dI instDecidableTrue (z_dI instDecidableTrue (z_dI instDecidableTrue (@instDecidableAnd _ _ (dS_Log_add S (S 0 14) p1 (F_World_size 9 S) 13 p3 (-1) p2) (z_dL (fun S87 => (@instDecidableAnd _ _ (dS_World_redo 9 S87 (S 1 7)) (z_dL (fun S100 => (@instDecidableAnd _ _ (dS_T_isSettled S100 (S 1 7) p1) (by generalize F_T_isSettled S100 (S 1 7) p1 = z9; rcases z9 with ⟨r107, S107⟩; exact (z_dI instDecidableTrue (@instDecidableAnd _ _ (dS_Ranks_append S107 (F_World_size 9 S)) instDecidableTrue)))))))))))))))
def dS_T_stateOn_l32_98 (rc : Int32 → Int32 → (Int32)) (sr : Int32 → Int32 → Prop) (ds : ∀ z0 z1, Decidable (sr z0 z1)) (S : (Nat → Nat → Int32)) (x1 : Int32) (x2 : Int32) (x3 : Int32) (x4 : Int32) : Decidable (Sf_T_stateOn_l32_98 rc sr S x1 x2 x3 x4) := by
  delta Sf_T_stateOn_l32_98
  exact (z_dI (z_dI (ds (zAt (S 8) 900 x4) (x4 + 1)) (ds x3 (x4 + 1))) (ds x3 (x4 + 1)))
def dS_T_stateOn_L32 (S : (Nat → Nat → Int32)) (x1 : Int32) (x2 : Int32) : ∀ (f : Nat) (x3 : Int32) (x4 : Int32), Decidable (Sf_T_stateOn_L32 S x1 x2 f x3 x4)
  | 0, x3, x4 => instDecidableFalse
  | f + 1, x3, x4 => (show Decidable (if (S 1 7) ≤ x4 then True else (if x2 < (zAt (S 2) 900 x4) then True else (if (zAt (S 4) 900 x4) = x1 then (if (zAt (S 5) 900 x4) = 13 then ((Sf_T_stateOn_L32 S x1 x2 f) 0 (x4 + 1)) else (Sf_T_stateOn_l32_98 (F_T_stateOn_L32 S x1 x2 f) (Sf_T_stateOn_L32 S x1 x2 f) S x1 x2 x3 x4)) else (Sf_T_stateOn_l32_98 (F_T_stateOn_L32 S x1 x2 f) (Sf_T_stateOn_L32 S x1 x2 f) S x1 x2 x3 x4)))) from (z_dI instDecidableTrue (z_dI instDecidableTrue (z_dI (z_dI (dS_T_stateOn_L32 S x1 x2 f 0 (x4 + 1)) (dS_T_stateOn_l32_98 (F_T_stateOn_L32 S x1 x2 f) (Sf_T_stateOn_L32 S x1 x2 f) (dS_T_stateOn_L32 S x1 x2 f) S x1 x2 x3 x4)) (dS_T_stateOn_l32_98 (F_T_stateOn_L32 S x1 x2 f) (Sf_T_stateOn_L32 S x1 x2 f) (dS_T_stateOn_L32 S x1 x2 f) S x1 x2 x3 x4)))))
def dS_T_stateOn (S : (Nat → Nat → Int32)) (p1 : Int32) (p2 : Int32) : Decidable (Sf_T_stateOn S p1 p2) := by
  delta Sf_T_stateOn
  exact (z_dI instDecidableTrue (z_dI instDecidableTrue (@instDecidableAnd _ _ (dS_T_stateOn_L32 S p1 p2 1300 (-1) 0) instDecidableTrue)))
def dS_T_stateOnAnew_l48_107 (rc : Int32 → Int32 → (Int32)) (sr : Int32 → Int32 → Prop) (ds : ∀ z0 z1, Decidable (sr z0 z1)) (S : (Nat → Nat → Int32)) (x1 : Int32) (x2 : Int32) (x3 : Int32) (x4 : Int32) : Decidable (Sf_T_stateOnAnew_l48_107 rc sr S x1 x2 x3 x4) := by
  delta Sf_T_stateOnAnew_l48_107
  exact (z_dI (z_dI (ds (zAt (S 7) 900 x4) (x4 + (-1))) (ds x3 (x4 + (-1)))) (ds x3 (x4 + (-1))))
def dS_T_stateOnAnew_L48 (S : (Nat → Nat → Int32)) (x1 : Int32) (x2 : Int32) : ∀ (f : Nat) (x3 : Int32) (x4 : Int32), Decidable (Sf_T_stateOnAnew_L48 S x1 x2 f x3 x4)
  | 0, x3, x4 => instDecidableFalse
  | f + 1, x3, x4 => (show Decidable (if x4 < 0 then True else (if (zAt (S 2) 900 x4) ≤ x2 then True else (if (zAt (S 4) 900 x4) = x1 then (if (zAt (S 5) 900 x4) = 13 then ((Sf_T_stateOnAnew_L48 S x1 x2 f) (-1) (x4 + (-1))) else (Sf_T_stateOnAnew_l48_107 (F_T_stateOnAnew_L48 S x1 x2 f) (Sf_T_stateOnAnew_L48 S x1 x2 f) S x1 x2 x3 x4)) else (Sf_T_stateOnAnew_l48_107 (F_T_stateOnAnew_L48 S x1 x2 f) (Sf_T_stateOnAnew_L48 S x1 x2 f) S x1 x2 x3 x4)))) from (z_dI instDecidableTrue (z_dI instDecidableTrue (z_dI (z_dI (dS_T_stateOnAnew_L48 S x1 x2 f (-1) (x4 + (-1))) (dS_T_stateOnAnew_l48_107 (F_T_stateOnAnew_L48 S x1 x2 f) (Sf_T_stateOnAnew_L48 S x1 x2 f) (dS_T_stateOnAnew_L48 S x1 x2 f) S x1 x2 x3 x4)) (dS_T_stateOnAnew_l48_107 (F_T_stateOnAnew_L48 S x1 x2 f) (Sf_T_stateOnAnew_L48 S x1 x2 f) (dS_T_stateOnAnew_L48 S x1 x2 f) S x1 x2 x3 x4)))))
def dS_T_stateOnAnew (S : (Nat → Nat → Int32)) (p1 : Int32) (p2 : Int32) : Decidable (Sf_T_stateOnAnew S p1 p2) := by
  delta Sf_T_stateOnAnew
  exact (z_dI instDecidableTrue (z_dI instDecidableTrue (@instDecidableAnd _ _ (dS_World_cell 9 S p1 0) (@instDecidableAnd _ _ (dS_T_stateOnAnew_L48 S p1 p2 1300 (F_World_cell 9 S p1 0) ((S 1 7) - 1)) instDecidableTrue))))
def dS_T_field (S : (Nat → Nat → Int32)) (p1 : Int32) (p2 : Int32) (p3 : Int32) : Decidable (Sf_T_field S p1 p2 p3) := by
  delta Sf_T_field
  exact (z_dI instDecidableTrue (@instDecidableAnd _ _ (dS_T_isSeen S p1 p2) (by generalize F_T_isSeen S p1 p2 = z9; rcases z9 with ⟨r10, S10⟩; exact (z_dI instDecidableTrue (z_dI instDecidableTrue (@instDecidableAnd _ _ (dS_Sight_value 9 S10 p2 p3) instDecidableTrue))))))
