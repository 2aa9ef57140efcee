/-! THE LAW's LOOP: what a call keeps, and the walk over all of them -/
/-- before the m-th call, with the workflows at fl: what holds of the memory, so that each call answers alike, and keeps it -/
def zSteps (Inv : Nat → (Nat → Nat) → (Nat → Nat → Int32) → Prop) : Prop :=
  (∀ (m : Nat) (fl : Nat → Nat) (S : (Nat → Nat → Int32)), m < 512 → Inv m fl S → Inv (m + 1) fl S) ∧
  (∀ (m : Nat) (fl : Nat → Nat) (S : (Nat → Nat → Int32)) (a1 a2 a3 a4 a5 a6 : Int32), m < 512 → Inv m fl S → Sl_0 fl S a1 a2 a3 a4 a5 a6 ∧ Inv (m + 1) fl (Fl_0 fl S a1 a2 a3 a4 a5 a6)) ∧
  (∀ (m : Nat) (fl : Nat → Nat) (S : (Nat → Nat → Int32)) (a1 a2 a3 a4 a5 a6 : Int32), m < 512 → Inv m fl S → Sl_1 fl S a1 a2 a3 a4 a5 a6 ∧ Inv (m + 1) fl (Fl_1 fl S a1 a2 a3 a4 a5 a6)) ∧
  (∀ (m : Nat) (fl : Nat → Nat) (S : (Nat → Nat → Int32)) (a1 a2 a3 a4 a5 a6 : Int32), m < 512 → Inv m fl S → Sl_2 fl S a1 a2 a3 a4 a5 a6 ∧ Inv (m + 1) fl (Fl_2 fl S a1 a2 a3 a4 a5 a6)) ∧
  (∀ (m : Nat) (fl : Nat → Nat) (S : (Nat → Nat → Int32)) (a1 a2 a3 a4 a5 a6 : Int32), m < 512 → Inv m fl S → Sl_3 fl S a1 a2 a3 a4 a5 a6 ∧ Inv (m + 1) fl (Fl_3 fl S a1 a2 a3 a4 a5 a6)) ∧
  (∀ (m : Nat) (fl : Nat → Nat) (S : (Nat → Nat → Int32)) (a1 a2 a3 a4 a5 a6 : Int32), m < 512 → Inv m fl S → Sl_4 fl S a1 a2 a3 a4 a5 a6 ∧ Inv (m + 1) fl (Fl_4 fl S a1 a2 a3 a4 a5 a6)) ∧
  (∀ (m : Nat) (fl : Nat → Nat) (S : (Nat → Nat → Int32)) (a1 a2 a3 a4 a5 a6 : Int32), m < 512 → Inv m fl S → Sl_5 fl S a1 a2 a3 a4 a5 a6 ∧ Inv (m + 1) fl (Fl_5 fl S a1 a2 a3 a4 a5 a6)) ∧
  (∀ (m : Nat) (fl : Nat → Nat) (S : (Nat → Nat → Int32)) (a1 a2 a3 a4 a5 a6 : Int32), m < 512 → Inv m fl S → Sl_6 fl S a1 a2 a3 a4 a5 a6 ∧ Inv (m + 1) fl (Fl_6 fl S a1 a2 a3 a4 a5 a6)) ∧
  (∀ (m : Nat) (fl : Nat → Nat) (S : (Nat → Nat → Int32)) (a1 a2 a3 a4 a5 a6 : Int32), m < 512 → Inv m fl S → Sl_7 fl S a1 a2 a3 a4 a5 a6 ∧ Inv (m + 1) fl (Fl_7 fl S a1 a2 a3 a4 a5 a6)) ∧
  (∀ (m : Nat) (fl : Nat → Nat) (S : (Nat → Nat → Int32)) (a1 a2 a3 a4 a5 a6 : Int32), m < 512 → Inv m fl S → Sl_8 fl S a1 a2 a3 a4 a5 a6 ∧ Inv (m + 1) fl (Fl_8 fl S a1 a2 a3 a4 a5 a6)) ∧
  (∀ (m : Nat) (fl : Nat → Nat) (S : (Nat → Nat → Int32)) (a1 a2 a3 a4 a5 a6 : Int32), m < 512 → Inv m fl S → Sl_9 fl S a1 a2 a3 a4 a5 a6 ∧ Inv (m + 1) fl (Fl_9 fl S a1 a2 a3 a4 a5 a6)) ∧
  (∀ (m : Nat) (fl : Nat → Nat) (S : (Nat → Nat → Int32)) (a1 a2 a3 a4 a5 a6 : Int32), m < 512 → Inv m fl S → Sl_10 fl S a1 a2 a3 a4 a5 a6 ∧ Inv (m + 1) fl (Fl_10 fl S a1 a2 a3 a4 a5 a6)) ∧
  (∀ (m : Nat) (fl : Nat → Nat) (S : (Nat → Nat → Int32)) (a1 a2 a3 a4 a5 a6 : Int32), m < 512 → Inv m fl S → Sl_11 fl S a1 a2 a3 a4 a5 a6 ∧ Inv (m + 1) fl (Fl_11 fl S a1 a2 a3 a4 a5 a6)) ∧
  (∀ (m : Nat) (fl : Nat → Nat) (S : (Nat → Nat → Int32)) (a1 a2 a3 a4 a5 a6 : Int32) (na : Nat), m < 512 → Inv m fl S → 194 ≤ na → (∀ k, k < 3 → fl k + 7 < na) → Sl_12 fl na S a1 a2 a3 a4 a5 a6 ∧ Inv (m + 1) (Fg_12 fl na S a1 a2 a3 a4 a5 a6) (Fl_12 fl na S a1 a2 a3 a4 a5 a6)) ∧
  (∀ (m : Nat) (fl : Nat → Nat) (S : (Nat → Nat → Int32)) (a1 a2 a3 a4 a5 a6 : Int32), m < 512 → Inv m fl S → Sl_13 fl S a1 a2 a3 a4 a5 a6 ∧ Inv (m + 1) fl (Fl_13 fl S a1 a2 a3 a4 a5 a6)) ∧
  (∀ (m : Nat) (fl : Nat → Nat) (S : (Nat → Nat → Int32)) (a1 a2 a3 a4 a5 a6 : Int32), m < 512 → Inv m fl S → Sl_14 fl S a1 a2 a3 a4 a5 a6 ∧ Inv (m + 1) fl (Fl_14 fl S a1 a2 a3 a4 a5 a6)) ∧
  (∀ (m : Nat) (fl : Nat → Nat) (S : (Nat → Nat → Int32)) (a1 a2 a3 a4 a5 a6 : Int32), m < 512 → Inv m fl S → Sl_15 fl S a1 a2 a3 a4 a5 a6 ∧ Inv (m + 1) fl (Fl_15 fl S a1 a2 a3 a4 a5 a6)) ∧
  (∀ (m : Nat) (fl : Nat → Nat) (S : (Nat → Nat → Int32)) (a1 a2 a3 a4 a5 a6 : Int32), m < 512 → Inv m fl S → Sl_16 fl S a1 a2 a3 a4 a5 a6 ∧ Inv (m + 1) fl (Fl_16 fl S a1 a2 a3 a4 a5 a6)) ∧
  (∀ (m : Nat) (fl : Nat → Nat) (S : (Nat → Nat → Int32)) (a1 a2 a3 a4 a5 a6 : Int32), m < 512 → Inv m fl S → Sl_17 fl S a1 a2 a3 a4 a5 a6 ∧ Inv (m + 1) fl (Fl_17 fl S a1 a2 a3 a4 a5 a6)) ∧
  (∀ (m : Nat) (fl : Nat → Nat) (S : (Nat → Nat → Int32)) (a1 a2 a3 a4 a5 a6 : Int32), m < 512 → Inv m fl S → Sl_18 fl S a1 a2 a3 a4 a5 a6 ∧ Inv (m + 1) fl (Fl_18 fl S a1 a2 a3 a4 a5 a6)) ∧
  (∀ (m : Nat) (fl : Nat → Nat) (S : (Nat → Nat → Int32)) (a1 a2 a3 a4 a5 a6 : Int32) (na : Nat), m < 512 → Inv m fl S → 194 ≤ na → (∀ k, k < 3 → fl k + 7 < na) → Sl_19 fl na S a1 a2 a3 a4 a5 a6 ∧ Inv (m + 1) fl (Fl_19 fl na S a1 a2 a3 a4 a5 a6)) ∧
  (∀ (m : Nat) (fl : Nat → Nat) (S : (Nat → Nat → Int32)) (a1 a2 a3 a4 a5 a6 : Int32), m < 512 → Inv m fl S → Sl_20 fl S a1 a2 a3 a4 a5 a6 ∧ Inv (m + 1) fl (Fl_20 fl S a1 a2 a3 a4 a5 a6)) ∧
  (∀ (m : Nat) (fl : Nat → Nat) (S : (Nat → Nat → Int32)) (a1 a2 a3 a4 a5 a6 : Int32), m < 512 → Inv m fl S → Sl_21 fl S a1 a2 a3 a4 a5 a6 ∧ Inv (m + 1) fl (Fl_21 fl S a1 a2 a3 a4 a5 a6)) ∧
  (∀ (m : Nat) (fl : Nat → Nat) (S : (Nat → Nat → Int32)) (a1 a2 a3 a4 a5 a6 : Int32), m < 512 → Inv m fl S → Sl_22 fl S a1 a2 a3 a4 a5 a6 ∧ Inv (m + 1) fl (Fl_22 fl S a1 a2 a3 a4 a5 a6)) ∧
  (∀ (m : Nat) (fl : Nat → Nat) (S : (Nat → Nat → Int32)) (a1 a2 a3 a4 a5 a6 : Int32) (na : Nat), m < 512 → Inv m fl S → 194 ≤ na → (∀ k, k < 3 → fl k + 7 < na) → Sl_23 fl na S a1 a2 a3 a4 a5 a6 ∧ Inv (m + 1) fl (Fl_23 fl na S a1 a2 a3 a4 a5 a6)) ∧
  (∀ (m : Nat) (fl : Nat → Nat) (S : (Nat → Nat → Int32)) (a1 a2 a3 a4 a5 a6 : Int32), m < 512 → Inv m fl S → Sl_24 fl S a1 a2 a3 a4 a5 a6 ∧ Inv (m + 1) fl (Fl_24 fl S a1 a2 a3 a4 a5 a6)) ∧
  (∀ (m : Nat) (fl : Nat → Nat) (S : (Nat → Nat → Int32)) (a1 a2 a3 a4 a5 a6 : Int32), m < 512 → Inv m fl S → Sl_25 fl S a1 a2 a3 a4 a5 a6 ∧ Inv (m + 1) fl (Fl_25 fl S a1 a2 a3 a4 a5 a6)) ∧
  (∀ (m : Nat) (fl : Nat → Nat) (S : (Nat → Nat → Int32)) (a1 a2 a3 a4 a5 a6 : Int32), m < 512 → Inv m fl S → Sl_26 fl S a1 a2 a3 a4 a5 a6 ∧ Inv (m + 1) fl (Fl_26 fl S a1 a2 a3 a4 a5 a6)) ∧
  (∀ (m : Nat) (fl : Nat → Nat) (S : (Nat → Nat → Int32)) (a1 a2 a3 a4 a5 a6 : Int32), m < 512 → Inv m fl S → Sl_27 fl S a1 a2 a3 a4 a5 a6 ∧ Inv (m + 1) fl (Fl_27 fl S a1 a2 a3 a4 a5 a6)) ∧
  (∀ (m : Nat) (fl : Nat → Nat) (S : (Nat → Nat → Int32)) (a1 a2 a3 a4 a5 a6 : Int32), m < 512 → Inv m fl S → Sl_28 fl S a1 a2 a3 a4 a5 a6 ∧ Inv (m + 1) fl (Fl_28 fl S a1 a2 a3 a4 a5 a6)) ∧
  (∀ (m : Nat) (fl : Nat → Nat) (S : (Nat → Nat → Int32)) (a1 a2 a3 a4 a5 a6 : Int32), m < 512 → Inv m fl S → Sl_29 fl S a1 a2 a3 a4 a5 a6 ∧ Inv (m + 1) fl (Fl_29 fl S a1 a2 a3 a4 a5 a6)) ∧
  (∀ (m : Nat) (fl : Nat → Nat) (S : (Nat → Nat → Int32)) (a1 a2 a3 a4 a5 a6 : Int32), m < 512 → Inv m fl S → Sl_30 fl S a1 a2 a3 a4 a5 a6 ∧ Inv (m + 1) fl (Fl_30 fl S a1 a2 a3 a4 a5 a6)) ∧
  (∀ (m : Nat) (fl : Nat → Nat) (S : (Nat → Nat → Int32)) (a1 a2 a3 a4 a5 a6 : Int32), m < 512 → Inv m fl S → Sl_31 fl S a1 a2 a3 a4 a5 a6 ∧ Inv (m + 1) fl (Fl_31 fl S a1 a2 a3 a4 a5 a6)) ∧
  (∀ (m : Nat) (fl : Nat → Nat) (S : (Nat → Nat → Int32)) (a1 a2 a3 a4 a5 a6 : Int32), m < 512 → Inv m fl S → Sl_32 fl S a1 a2 a3 a4 a5 a6 ∧ Inv (m + 1) fl (Fl_32 fl S a1 a2 a3 a4 a5 a6)) ∧
  (∀ (m : Nat) (fl : Nat → Nat) (S : (Nat → Nat → Int32)) (a1 a2 a3 a4 a5 a6 : Int32), m < 512 → Inv m fl S → Sl_33 fl S a1 a2 a3 a4 a5 a6 ∧ Inv (m + 1) fl (Fl_33 fl S a1 a2 a3 a4 a5 a6)) ∧
  (∀ (m : Nat) (fl : Nat → Nat) (S : (Nat → Nat → Int32)) (a1 a2 a3 a4 a5 a6 : Int32), m < 512 → Inv m fl S → Sl_34 fl S a1 a2 a3 a4 a5 a6 ∧ Inv (m + 1) fl (Fl_34 fl S a1 a2 a3 a4 a5 a6)) ∧
  (∀ (m : Nat) (fl : Nat → Nat) (S : (Nat → Nat → Int32)) (a1 a2 a3 a4 a5 a6 : Int32), m < 512 → Inv m fl S → Sl_35 fl S a1 a2 a3 a4 a5 a6 ∧ Inv (m + 1) fl (Fl_35 fl S a1 a2 a3 a4 a5 a6)) ∧
  (∀ (m : Nat) (fl : Nat → Nat) (S : (Nat → Nat → Int32)) (a1 a2 a3 a4 a5 a6 : Int32), m < 512 → Inv m fl S → Sl_36 fl S a1 a2 a3 a4 a5 a6 ∧ Inv (m + 1) fl (Fl_36 fl S a1 a2 a3 a4 a5 a6)) ∧
  (∀ (m : Nat) (fl : Nat → Nat) (S : (Nat → Nat → Int32)) (a1 a2 a3 a4 a5 a6 : Int32), m < 512 → Inv m fl S → Sl_37 fl S a1 a2 a3 a4 a5 a6 ∧ Inv (m + 1) fl (Fl_37 fl S a1 a2 a3 a4 a5 a6)) ∧
  (∀ (m : Nat) (fl : Nat → Nat) (S : (Nat → Nat → Int32)) (a1 a2 a3 a4 a5 a6 : Int32), m < 512 → Inv m fl S → Sl_38 fl S a1 a2 a3 a4 a5 a6 ∧ Inv (m + 1) fl (Fl_38 fl S a1 a2 a3 a4 a5 a6)) ∧
  (∀ (m : Nat) (fl : Nat → Nat) (S : (Nat → Nat → Int32)) (a1 a2 a3 a4 a5 a6 : Int32), m < 512 → Inv m fl S → Sl_39 fl S a1 a2 a3 a4 a5 a6 ∧ Inv (m + 1) fl (Fl_39 fl S a1 a2 a3 a4 a5 a6)) ∧
  (∀ (m : Nat) (fl : Nat → Nat) (S : (Nat → Nat → Int32)) (a1 a2 a3 a4 a5 a6 : Int32), m < 512 → Inv m fl S → Sl_40 fl S a1 a2 a3 a4 a5 a6 ∧ Inv (m + 1) fl (Fl_40 fl S a1 a2 a3 a4 a5 a6)) ∧
  (∀ (m : Nat) (fl : Nat → Nat) (S : (Nat → Nat → Int32)) (a1 a2 a3 a4 a5 a6 : Int32), m < 512 → Inv m fl S → Sl_41 fl S a1 a2 a3 a4 a5 a6 ∧ Inv (m + 1) fl (Fl_41 fl S a1 a2 a3 a4 a5 a6)) ∧
  (∀ (m : Nat) (fl : Nat → Nat) (S : (Nat → Nat → Int32)) (a1 a2 a3 a4 a5 a6 : Int32), m < 512 → Inv m fl S → Sl_42 fl S a1 a2 a3 a4 a5 a6 ∧ Inv (m + 1) fl (Fl_42 fl S a1 a2 a3 a4 a5 a6)) ∧
  (∀ (m : Nat) (fl : Nat → Nat) (S : (Nat → Nat → Int32)) (a1 a2 a3 a4 a5 a6 : Int32), m < 512 → Inv m fl S → Sl_43 fl S a1 a2 a3 a4 a5 a6 ∧ Inv (m + 1) fl (Fl_43 fl S a1 a2 a3 a4 a5 a6)) ∧
  (∀ (m : Nat) (fl : Nat → Nat) (S : (Nat → Nat → Int32)) (a1 a2 a3 a4 a5 a6 : Int32), m < 512 → Inv m fl S → Sl_44 fl S a1 a2 a3 a4 a5 a6 ∧ Inv (m + 1) fl (Fl_44 fl S a1 a2 a3 a4 a5 a6))
theorem zSteps.nop {Inv : Nat → (Nat → Nat) → (Nat → Nat → Int32) → Prop} (h : zSteps Inv) : ∀ (m : Nat) (fl : Nat → Nat) (S : (Nat → Nat → Int32)), m < 512 → Inv m fl S → Inv (m + 1) fl S := h.1
theorem zSteps.s0 {Inv : Nat → (Nat → Nat) → (Nat → Nat → Int32) → Prop} (h : zSteps Inv) : ∀ (m : Nat) (fl : Nat → Nat) (S : (Nat → Nat → Int32)) (a1 a2 a3 a4 a5 a6 : Int32), m < 512 → Inv m fl S → Sl_0 fl S a1 a2 a3 a4 a5 a6 ∧ Inv (m + 1) fl (Fl_0 fl S a1 a2 a3 a4 a5 a6) := h.2.1
theorem zSteps.s1 {Inv : Nat → (Nat → Nat) → (Nat → Nat → Int32) → Prop} (h : zSteps Inv) : ∀ (m : Nat) (fl : Nat → Nat) (S : (Nat → Nat → Int32)) (a1 a2 a3 a4 a5 a6 : Int32), m < 512 → Inv m fl S → Sl_1 fl S a1 a2 a3 a4 a5 a6 ∧ Inv (m + 1) fl (Fl_1 fl S a1 a2 a3 a4 a5 a6) := h.2.2.1
theorem zSteps.s2 {Inv : Nat → (Nat → Nat) → (Nat → Nat → Int32) → Prop} (h : zSteps Inv) : ∀ (m : Nat) (fl : Nat → Nat) (S : (Nat → Nat → Int32)) (a1 a2 a3 a4 a5 a6 : Int32), m < 512 → Inv m fl S → Sl_2 fl S a1 a2 a3 a4 a5 a6 ∧ Inv (m + 1) fl (Fl_2 fl S a1 a2 a3 a4 a5 a6) := h.2.2.2.1
theorem zSteps.s3 {Inv : Nat → (Nat → Nat) → (Nat → Nat → Int32) → Prop} (h : zSteps Inv) : ∀ (m : Nat) (fl : Nat → Nat) (S : (Nat → Nat → Int32)) (a1 a2 a3 a4 a5 a6 : Int32), m < 512 → Inv m fl S → Sl_3 fl S a1 a2 a3 a4 a5 a6 ∧ Inv (m + 1) fl (Fl_3 fl S a1 a2 a3 a4 a5 a6) := h.2.2.2.2.1
theorem zSteps.s4 {Inv : Nat → (Nat → Nat) → (Nat → Nat → Int32) → Prop} (h : zSteps Inv) : ∀ (m : Nat) (fl : Nat → Nat) (S : (Nat → Nat → Int32)) (a1 a2 a3 a4 a5 a6 : Int32), m < 512 → Inv m fl S → Sl_4 fl S a1 a2 a3 a4 a5 a6 ∧ Inv (m + 1) fl (Fl_4 fl S a1 a2 a3 a4 a5 a6) := h.2.2.2.2.2.1
theorem zSteps.s5 {Inv : Nat → (Nat → Nat) → (Nat → Nat → Int32) → Prop} (h : zSteps Inv) : ∀ (m : Nat) (fl : Nat → Nat) (S : (Nat → Nat → Int32)) (a1 a2 a3 a4 a5 a6 : Int32), m < 512 → Inv m fl S → Sl_5 fl S a1 a2 a3 a4 a5 a6 ∧ Inv (m + 1) fl (Fl_5 fl S a1 a2 a3 a4 a5 a6) := h.2.2.2.2.2.2.1
theorem zSteps.s6 {Inv : Nat → (Nat → Nat) → (Nat → Nat → Int32) → Prop} (h : zSteps Inv) : ∀ (m : Nat) (fl : Nat → Nat) (S : (Nat → Nat → Int32)) (a1 a2 a3 a4 a5 a6 : Int32), m < 512 → Inv m fl S → Sl_6 fl S a1 a2 a3 a4 a5 a6 ∧ Inv (m + 1) fl (Fl_6 fl S a1 a2 a3 a4 a5 a6) := h.2.2.2.2.2.2.2.1
theorem zSteps.s7 {Inv : Nat → (Nat → Nat) → (Nat → Nat → Int32) → Prop} (h : zSteps Inv) : ∀ (m : Nat) (fl : Nat → Nat) (S : (Nat → Nat → Int32)) (a1 a2 a3 a4 a5 a6 : Int32), m < 512 → Inv m fl S → Sl_7 fl S a1 a2 a3 a4 a5 a6 ∧ Inv (m + 1) fl (Fl_7 fl S a1 a2 a3 a4 a5 a6) := h.2.2.2.2.2.2.2.2.1
theorem zSteps.s8 {Inv : Nat → (Nat → Nat) → (Nat → Nat → Int32) → Prop} (h : zSteps Inv) : ∀ (m : Nat) (fl : Nat → Nat) (S : (Nat → Nat → Int32)) (a1 a2 a3 a4 a5 a6 : Int32), m < 512 → Inv m fl S → Sl_8 fl S a1 a2 a3 a4 a5 a6 ∧ Inv (m + 1) fl (Fl_8 fl S a1 a2 a3 a4 a5 a6) := h.2.2.2.2.2.2.2.2.2.1
theorem zSteps.s9 {Inv : Nat → (Nat → Nat) → (Nat → Nat → Int32) → Prop} (h : zSteps Inv) : ∀ (m : Nat) (fl : Nat → Nat) (S : (Nat → Nat → Int32)) (a1 a2 a3 a4 a5 a6 : Int32), m < 512 → Inv m fl S → Sl_9 fl S a1 a2 a3 a4 a5 a6 ∧ Inv (m + 1) fl (Fl_9 fl S a1 a2 a3 a4 a5 a6) := h.2.2.2.2.2.2.2.2.2.2.1
theorem zSteps.s10 {Inv : Nat → (Nat → Nat) → (Nat → Nat → Int32) → Prop} (h : zSteps Inv) : ∀ (m : Nat) (fl : Nat → Nat) (S : (Nat → Nat → Int32)) (a1 a2 a3 a4 a5 a6 : Int32), m < 512 → Inv m fl S → Sl_10 fl S a1 a2 a3 a4 a5 a6 ∧ Inv (m + 1) fl (Fl_10 fl S a1 a2 a3 a4 a5 a6) := h.2.2.2.2.2.2.2.2.2.2.2.1
theorem zSteps.s11 {Inv : Nat → (Nat → Nat) → (Nat → Nat → Int32) → Prop} (h : zSteps Inv) : ∀ (m : Nat) (fl : Nat → Nat) (S : (Nat → Nat → Int32)) (a1 a2 a3 a4 a5 a6 : Int32), m < 512 → Inv m fl S → Sl_11 fl S a1 a2 a3 a4 a5 a6 ∧ Inv (m + 1) fl (Fl_11 fl S a1 a2 a3 a4 a5 a6) := h.2.2.2.2.2.2.2.2.2.2.2.2.1
theorem zSteps.s12 {Inv : Nat → (Nat → Nat) → (Nat → Nat → Int32) → Prop} (h : zSteps Inv) : ∀ (m : Nat) (fl : Nat → Nat) (S : (Nat → Nat → Int32)) (a1 a2 a3 a4 a5 a6 : Int32) (na : Nat), m < 512 → Inv m fl S → 194 ≤ na → (∀ k, k < 3 → fl k + 7 < na) → Sl_12 fl na S a1 a2 a3 a4 a5 a6 ∧ Inv (m + 1) (Fg_12 fl na S a1 a2 a3 a4 a5 a6) (Fl_12 fl na S a1 a2 a3 a4 a5 a6) := h.2.2.2.2.2.2.2.2.2.2.2.2.2.1
theorem zSteps.s13 {Inv : Nat → (Nat → Nat) → (Nat → Nat → Int32) → Prop} (h : zSteps Inv) : ∀ (m : Nat) (fl : Nat → Nat) (S : (Nat → Nat → Int32)) (a1 a2 a3 a4 a5 a6 : Int32), m < 512 → Inv m fl S → Sl_13 fl S a1 a2 a3 a4 a5 a6 ∧ Inv (m + 1) fl (Fl_13 fl S a1 a2 a3 a4 a5 a6) := h.2.2.2.2.2.2.2.2.2.2.2.2.2.2.1
theorem zSteps.s14 {Inv : Nat → (Nat → Nat) → (Nat → Nat → Int32) → Prop} (h : zSteps Inv) : ∀ (m : Nat) (fl : Nat → Nat) (S : (Nat → Nat → Int32)) (a1 a2 a3 a4 a5 a6 : Int32), m < 512 → Inv m fl S → Sl_14 fl S a1 a2 a3 a4 a5 a6 ∧ Inv (m + 1) fl (Fl_14 fl S a1 a2 a3 a4 a5 a6) := h.2.2.2.2.2.2.2.2.2.2.2.2.2.2.2.1
theorem zSteps.s15 {Inv : Nat → (Nat → Nat) → (Nat → Nat → Int32) → Prop} (h : zSteps Inv) : ∀ (m : Nat) (fl : Nat → Nat) (S : (Nat → Nat → Int32)) (a1 a2 a3 a4 a5 a6 : Int32), m < 512 → Inv m fl S → Sl_15 fl S a1 a2 a3 a4 a5 a6 ∧ Inv (m + 1) fl (Fl_15 fl S a1 a2 a3 a4 a5 a6) := h.2.2.2.2.2.2.2.2.2.2.2.2.2.2.2.2.1
theorem zSteps.s16 {Inv : Nat → (Nat → Nat) → (Nat → Nat → Int32) → Prop} (h : zSteps Inv) : ∀ (m : Nat) (fl : Nat → Nat) (S : (Nat → Nat → Int32)) (a1 a2 a3 a4 a5 a6 : Int32), m < 512 → Inv m fl S → Sl_16 fl S a1 a2 a3 a4 a5 a6 ∧ Inv (m + 1) fl (Fl_16 fl S a1 a2 a3 a4 a5 a6) := h.2.2.2.2.2.2.2.2.2.2.2.2.2.2.2.2.2.1
theorem zSteps.s17 {Inv : Nat → (Nat → Nat) → (Nat → Nat → Int32) → Prop} (h : zSteps Inv) : ∀ (m : Nat) (fl : Nat → Nat) (S : (Nat → Nat → Int32)) (a1 a2 a3 a4 a5 a6 : Int32), m < 512 → Inv m fl S → Sl_17 fl S a1 a2 a3 a4 a5 a6 ∧ Inv (m + 1) fl (Fl_17 fl S a1 a2 a3 a4 a5 a6) := h.2.2.2.2.2.2.2.2.2.2.2.2.2.2.2.2.2.2.1
theorem zSteps.s18 {Inv : Nat → (Nat → Nat) → (Nat → Nat → Int32) → Prop} (h : zSteps Inv) : ∀ (m : Nat) (fl : Nat → Nat) (S : (Nat → Nat → Int32)) (a1 a2 a3 a4 a5 a6 : Int32), m < 512 → Inv m fl S → Sl_18 fl S a1 a2 a3 a4 a5 a6 ∧ Inv (m + 1) fl (Fl_18 fl S a1 a2 a3 a4 a5 a6) := h.2.2.2.2.2.2.2.2.2.2.2.2.2.2.2.2.2.2.2.1
theorem zSteps.s19 {Inv : Nat → (Nat → Nat) → (Nat → Nat → Int32) → Prop} (h : zSteps Inv) : ∀ (m : Nat) (fl : Nat → Nat) (S : (Nat → Nat → Int32)) (a1 a2 a3 a4 a5 a6 : Int32) (na : Nat), m < 512 → Inv m fl S → 194 ≤ na → (∀ k, k < 3 → fl k + 7 < na) → Sl_19 fl na S a1 a2 a3 a4 a5 a6 ∧ Inv (m + 1) fl (Fl_19 fl na S a1 a2 a3 a4 a5 a6) := h.2.2.2.2.2.2.2.2.2.2.2.2.2.2.2.2.2.2.2.2.1
theorem zSteps.s20 {Inv : Nat → (Nat → Nat) → (Nat → Nat → Int32) → Prop} (h : zSteps Inv) : ∀ (m : Nat) (fl : Nat → Nat) (S : (Nat → Nat → Int32)) (a1 a2 a3 a4 a5 a6 : Int32), m < 512 → Inv m fl S → Sl_20 fl S a1 a2 a3 a4 a5 a6 ∧ Inv (m + 1) fl (Fl_20 fl S a1 a2 a3 a4 a5 a6) := h.2.2.2.2.2.2.2.2.2.2.2.2.2.2.2.2.2.2.2.2.2.1
theorem zSteps.s21 {Inv : Nat → (Nat → Nat) → (Nat → Nat → Int32) → Prop} (h : zSteps Inv) : ∀ (m : Nat) (fl : Nat → Nat) (S : (Nat → Nat → Int32)) (a1 a2 a3 a4 a5 a6 : Int32), m < 512 → Inv m fl S → Sl_21 fl S a1 a2 a3 a4 a5 a6 ∧ Inv (m + 1) fl (Fl_21 fl S a1 a2 a3 a4 a5 a6) := h.2.2.2.2.2.2.2.2.2.2.2.2.2.2.2.2.2.2.2.2.2.2.1
theorem zSteps.s22 {Inv : Nat → (Nat → Nat) → (Nat → Nat → Int32) → Prop} (h : zSteps Inv) : ∀ (m : Nat) (fl : Nat → Nat) (S : (Nat → Nat → Int32)) (a1 a2 a3 a4 a5 a6 : Int32), m < 512 → Inv m fl S → Sl_22 fl S a1 a2 a3 a4 a5 a6 ∧ Inv (m + 1) fl (Fl_22 fl S a1 a2 a3 a4 a5 a6) := h.2.2.2.2.2.2.2.2.2.2.2.2.2.2.2.2.2.2.2.2.2.2.2.1
theorem zSteps.s23 {Inv : Nat → (Nat → Nat) → (Nat → Nat → Int32) → Prop} (h : zSteps Inv) : ∀ (m : Nat) (fl : Nat → Nat) (S : (Nat → Nat → Int32)) (a1 a2 a3 a4 a5 a6 : Int32) (na : Nat), m < 512 → Inv m fl S → 194 ≤ na → (∀ k, k < 3 → fl k + 7 < na) → Sl_23 fl na S a1 a2 a3 a4 a5 a6 ∧ Inv (m + 1) fl (Fl_23 fl na S a1 a2 a3 a4 a5 a6) := h.2.2.2.2.2.2.2.2.2.2.2.2.2.2.2.2.2.2.2.2.2.2.2.2.1
theorem zSteps.s24 {Inv : Nat → (Nat → Nat) → (Nat → Nat → Int32) → Prop} (h : zSteps Inv) : ∀ (m : Nat) (fl : Nat → Nat) (S : (Nat → Nat → Int32)) (a1 a2 a3 a4 a5 a6 : Int32), m < 512 → Inv m fl S → Sl_24 fl S a1 a2 a3 a4 a5 a6 ∧ Inv (m + 1) fl (Fl_24 fl S a1 a2 a3 a4 a5 a6) := h.2.2.2.2.2.2.2.2.2.2.2.2.2.2.2.2.2.2.2.2.2.2.2.2.2.1
theorem zSteps.s25 {Inv : Nat → (Nat → Nat) → (Nat → Nat → Int32) → Prop} (h : zSteps Inv) : ∀ (m : Nat) (fl : Nat → Nat) (S : (Nat → Nat → Int32)) (a1 a2 a3 a4 a5 a6 : Int32), m < 512 → Inv m fl S → Sl_25 fl S a1 a2 a3 a4 a5 a6 ∧ Inv (m + 1) fl (Fl_25 fl S a1 a2 a3 a4 a5 a6) := h.2.2.2.2.2.2.2.2.2.2.2.2.2.2.2.2.2.2.2.2.2.2.2.2.2.2.1
theorem zSteps.s26 {Inv : Nat → (Nat → Nat) → (Nat → Nat → Int32) → Prop} (h : zSteps Inv) : ∀ (m : Nat) (fl : Nat → Nat) (S : (Nat → Nat → Int32)) (a1 a2 a3 a4 a5 a6 : Int32), m < 512 → Inv m fl S → Sl_26 fl S a1 a2 a3 a4 a5 a6 ∧ Inv (m + 1) fl (Fl_26 fl S a1 a2 a3 a4 a5 a6) := h.2.2.2.2.2.2.2.2.2.2.2.2.2.2.2.2.2.2.2.2.2.2.2.2.2.2.2.1
theorem zSteps.s27 {Inv : Nat → (Nat → Nat) → (Nat → Nat → Int32) → Prop} (h : zSteps Inv) : ∀ (m : Nat) (fl : Nat → Nat) (S : (Nat → Nat → Int32)) (a1 a2 a3 a4 a5 a6 : Int32), m < 512 → Inv m fl S → Sl_27 fl S a1 a2 a3 a4 a5 a6 ∧ Inv (m + 1) fl (Fl_27 fl S a1 a2 a3 a4 a5 a6) := h.2.2.2.2.2.2.2.2.2.2.2.2.2.2.2.2.2.2.2.2.2.2.2.2.2.2.2.2.1
theorem zSteps.s28 {Inv : Nat → (Nat → Nat) → (Nat → Nat → Int32) → Prop} (h : zSteps Inv) : ∀ (m : Nat) (fl : Nat → Nat) (S : (Nat → Nat → Int32)) (a1 a2 a3 a4 a5 a6 : Int32), m < 512 → Inv m fl S → Sl_28 fl S a1 a2 a3 a4 a5 a6 ∧ Inv (m + 1) fl (Fl_28 fl S a1 a2 a3 a4 a5 a6) := h.2.2.2.2.2.2.2.2.2.2.2.2.2.2.2.2.2.2.2.2.2.2.2.2.2.2.2.2.2.1
theorem zSteps.s29 {Inv : Nat → (Nat → Nat) → (Nat → Nat → Int32) → Prop} (h : zSteps Inv) : ∀ (m : Nat) (fl : Nat → Nat) (S : (Nat → Nat → Int32)) (a1 a2 a3 a4 a5 a6 : Int32), m < 512 → Inv m fl S → Sl_29 fl S a1 a2 a3 a4 a5 a6 ∧ Inv (m + 1) fl (Fl_29 fl S a1 a2 a3 a4 a5 a6) := h.2.2.2.2.2.2.2.2.2.2.2.2.2.2.2.2.2.2.2.2.2.2.2.2.2.2.2.2.2.2.1
theorem zSteps.s30 {Inv : Nat → (Nat → Nat) → (Nat → Nat → Int32) → Prop} (h : zSteps Inv) : ∀ (m : Nat) (fl : Nat → Nat) (S : (Nat → Nat → Int32)) (a1 a2 a3 a4 a5 a6 : Int32), m < 512 → Inv m fl S → Sl_30 fl S a1 a2 a3 a4 a5 a6 ∧ Inv (m + 1) fl (Fl_30 fl S a1 a2 a3 a4 a5 a6) := h.2.2.2.2.2.2.2.2.2.2.2.2.2.2.2.2.2.2.2.2.2.2.2.2.2.2.2.2.2.2.2.1
theorem zSteps.s31 {Inv : Nat → (Nat → Nat) → (Nat → Nat → Int32) → Prop} (h : zSteps Inv) : ∀ (m : Nat) (fl : Nat → Nat) (S : (Nat → Nat → Int32)) (a1 a2 a3 a4 a5 a6 : Int32), m < 512 → Inv m fl S → Sl_31 fl S a1 a2 a3 a4 a5 a6 ∧ Inv (m + 1) fl (Fl_31 fl S a1 a2 a3 a4 a5 a6) := h.2.2.2.2.2.2.2.2.2.2.2.2.2.2.2.2.2.2.2.2.2.2.2.2.2.2.2.2.2.2.2.2.1
theorem zSteps.s32 {Inv : Nat → (Nat → Nat) → (Nat → Nat → Int32) → Prop} (h : zSteps Inv) : ∀ (m : Nat) (fl : Nat → Nat) (S : (Nat → Nat → Int32)) (a1 a2 a3 a4 a5 a6 : Int32), m < 512 → Inv m fl S → Sl_32 fl S a1 a2 a3 a4 a5 a6 ∧ Inv (m + 1) fl (Fl_32 fl S a1 a2 a3 a4 a5 a6) := h.2.2.2.2.2.2.2.2.2.2.2.2.2.2.2.2.2.2.2.2.2.2.2.2.2.2.2.2.2.2.2.2.2.1
theorem zSteps.s33 {Inv : Nat → (Nat → Nat) → (Nat → Nat → Int32) → Prop} (h : zSteps Inv) : ∀ (m : Nat) (fl : Nat → Nat) (S : (Nat → Nat → Int32)) (a1 a2 a3 a4 a5 a6 : Int32), m < 512 → Inv m fl S → Sl_33 fl S a1 a2 a3 a4 a5 a6 ∧ Inv (m + 1) fl (Fl_33 fl S a1 a2 a3 a4 a5 a6) := h.2.2.2.2.2.2.2.2.2.2.2.2.2.2.2.2.2.2.2.2.2.2.2.2.2.2.2.2.2.2.2.2.2.2.1
theorem zSteps.s34 {Inv : Nat → (Nat → Nat) → (Nat → Nat → Int32) → Prop} (h : zSteps Inv) : ∀ (m : Nat) (fl : Nat → Nat) (S : (Nat → Nat → Int32)) (a1 a2 a3 a4 a5 a6 : Int32), m < 512 → Inv m fl S → Sl_34 fl S a1 a2 a3 a4 a5 a6 ∧ Inv (m + 1) fl (Fl_34 fl S a1 a2 a3 a4 a5 a6) := h.2.2.2.2.2.2.2.2.2.2.2.2.2.2.2.2.2.2.2.2.2.2.2.2.2.2.2.2.2.2.2.2.2.2.2.1
theorem zSteps.s35 {Inv : Nat → (Nat → Nat) → (Nat → Nat → Int32) → Prop} (h : zSteps Inv) : ∀ (m : Nat) (fl : Nat → Nat) (S : (Nat → Nat → Int32)) (a1 a2 a3 a4 a5 a6 : Int32), m < 512 → Inv m fl S → Sl_35 fl S a1 a2 a3 a4 a5 a6 ∧ Inv (m + 1) fl (Fl_35 fl S a1 a2 a3 a4 a5 a6) := h.2.2.2.2.2.2.2.2.2.2.2.2.2.2.2.2.2.2.2.2.2.2.2.2.2.2.2.2.2.2.2.2.2.2.2.2.1
theorem zSteps.s36 {Inv : Nat → (Nat → Nat) → (Nat → Nat → Int32) → Prop} (h : zSteps Inv) : ∀ (m : Nat) (fl : Nat → Nat) (S : (Nat → Nat → Int32)) (a1 a2 a3 a4 a5 a6 : Int32), m < 512 → Inv m fl S → Sl_36 fl S a1 a2 a3 a4 a5 a6 ∧ Inv (m + 1) fl (Fl_36 fl S a1 a2 a3 a4 a5 a6) := h.2.2.2.2.2.2.2.2.2.2.2.2.2.2.2.2.2.2.2.2.2.2.2.2.2.2.2.2.2.2.2.2.2.2.2.2.2.1
theorem zSteps.s37 {Inv : Nat → (Nat → Nat) → (Nat → Nat → Int32) → Prop} (h : zSteps Inv) : ∀ (m : Nat) (fl : Nat → Nat) (S : (Nat → Nat → Int32)) (a1 a2 a3 a4 a5 a6 : Int32), m < 512 → Inv m fl S → Sl_37 fl S a1 a2 a3 a4 a5 a6 ∧ Inv (m + 1) fl (Fl_37 fl S a1 a2 a3 a4 a5 a6) := h.2.2.2.2.2.2.2.2.2.2.2.2.2.2.2.2.2.2.2.2.2.2.2.2.2.2.2.2.2.2.2.2.2.2.2.2.2.2.1
theorem zSteps.s38 {Inv : Nat → (Nat → Nat) → (Nat → Nat → Int32) → Prop} (h : zSteps Inv) : ∀ (m : Nat) (fl : Nat → Nat) (S : (Nat → Nat → Int32)) (a1 a2 a3 a4 a5 a6 : Int32), m < 512 → Inv m fl S → Sl_38 fl S a1 a2 a3 a4 a5 a6 ∧ Inv (m + 1) fl (Fl_38 fl S a1 a2 a3 a4 a5 a6) := h.2.2.2.2.2.2.2.2.2.2.2.2.2.2.2.2.2.2.2.2.2.2.2.2.2.2.2.2.2.2.2.2.2.2.2.2.2.2.2.1
theorem zSteps.s39 {Inv : Nat → (Nat → Nat) → (Nat → Nat → Int32) → Prop} (h : zSteps Inv) : ∀ (m : Nat) (fl : Nat → Nat) (S : (Nat → Nat → Int32)) (a1 a2 a3 a4 a5 a6 : Int32), m < 512 → Inv m fl S → Sl_39 fl S a1 a2 a3 a4 a5 a6 ∧ Inv (m + 1) fl (Fl_39 fl S a1 a2 a3 a4 a5 a6) := h.2.2.2.2.2.2.2.2.2.2.2.2.2.2.2.2.2.2.2.2.2.2.2.2.2.2.2.2.2.2.2.2.2.2.2.2.2.2.2.2.1
theorem zSteps.s40 {Inv : Nat → (Nat → Nat) → (Nat → Nat → Int32) → Prop} (h : zSteps Inv) : ∀ (m : Nat) (fl : Nat → Nat) (S : (Nat → Nat → Int32)) (a1 a2 a3 a4 a5 a6 : Int32), m < 512 → Inv m fl S → Sl_40 fl S a1 a2 a3 a4 a5 a6 ∧ Inv (m + 1) fl (Fl_40 fl S a1 a2 a3 a4 a5 a6) := h.2.2.2.2.2.2.2.2.2.2.2.2.2.2.2.2.2.2.2.2.2.2.2.2.2.2.2.2.2.2.2.2.2.2.2.2.2.2.2.2.2.1
theorem zSteps.s41 {Inv : Nat → (Nat → Nat) → (Nat → Nat → Int32) → Prop} (h : zSteps Inv) : ∀ (m : Nat) (fl : Nat → Nat) (S : (Nat → Nat → Int32)) (a1 a2 a3 a4 a5 a6 : Int32), m < 512 → Inv m fl S → Sl_41 fl S a1 a2 a3 a4 a5 a6 ∧ Inv (m + 1) fl (Fl_41 fl S a1 a2 a3 a4 a5 a6) := h.2.2.2.2.2.2.2.2.2.2.2.2.2.2.2.2.2.2.2.2.2.2.2.2.2.2.2.2.2.2.2.2.2.2.2.2.2.2.2.2.2.2.1
theorem zSteps.s42 {Inv : Nat → (Nat → Nat) → (Nat → Nat → Int32) → Prop} (h : zSteps Inv) : ∀ (m : Nat) (fl : Nat → Nat) (S : (Nat → Nat → Int32)) (a1 a2 a3 a4 a5 a6 : Int32), m < 512 → Inv m fl S → Sl_42 fl S a1 a2 a3 a4 a5 a6 ∧ Inv (m + 1) fl (Fl_42 fl S a1 a2 a3 a4 a5 a6) := h.2.2.2.2.2.2.2.2.2.2.2.2.2.2.2.2.2.2.2.2.2.2.2.2.2.2.2.2.2.2.2.2.2.2.2.2.2.2.2.2.2.2.2.1
theorem zSteps.s43 {Inv : Nat → (Nat → Nat) → (Nat → Nat → Int32) → Prop} (h : zSteps Inv) : ∀ (m : Nat) (fl : Nat → Nat) (S : (Nat → Nat → Int32)) (a1 a2 a3 a4 a5 a6 : Int32), m < 512 → Inv m fl S → Sl_43 fl S a1 a2 a3 a4 a5 a6 ∧ Inv (m + 1) fl (Fl_43 fl S a1 a2 a3 a4 a5 a6) := h.2.2.2.2.2.2.2.2.2.2.2.2.2.2.2.2.2.2.2.2.2.2.2.2.2.2.2.2.2.2.2.2.2.2.2.2.2.2.2.2.2.2.2.2.1
theorem zSteps.s44 {Inv : Nat → (Nat → Nat) → (Nat → Nat → Int32) → Prop} (h : zSteps Inv) : ∀ (m : Nat) (fl : Nat → Nat) (S : (Nat → Nat → Int32)) (a1 a2 a3 a4 a5 a6 : Int32), m < 512 → Inv m fl S → Sl_44 fl S a1 a2 a3 a4 a5 a6 ∧ Inv (m + 1) fl (Fl_44 fl S a1 a2 a3 a4 a5 a6) := h.2.2.2.2.2.2.2.2.2.2.2.2.2.2.2.2.2.2.2.2.2.2.2.2.2.2.2.2.2.2.2.2.2.2.2.2.2.2.2.2.2.2.2.2.2
theorem d_law_40 : decode zm_law.2.1 40 = .ok (.tableswitch 3272 0 44 #[196, 276, 356, 424, 492, 548, 561, 574, 646, 702, 758, 826, 944, 1000, 1013, 1093, 1185, 1265, 1345, 1425, 1552, 1639, 1719, 1799, 1879, 1937, 1950, 1963, 2031, 2111, 2191, 2259, 2327, 2407, 2475, 2555, 2673, 2745, 2837, 2893, 2949, 3029, 3073, 3141, 3216], 196) := by decide +kernel
theorem zl_add (a b : Nat) : nI a + Int32.ofNat b = nI (a + b) := (Int32.ofNat_add a b).symm
theorem zl_in {a b L : Nat} (h : a + b < L) (hL : L ≤ 3584) : vp_in (nI a + Int32.ofNat b) L := by
  rw [zl_add]
  exact vp_in_nI h (by omega)
theorem zl_43 (v : Int32) (h : ¬ (v.toInt < 0 ∨ 44 < v.toInt)) : ∃ t : Nat, t ≤ 44 ∧ v = Int32.ofNat t := by
  refine ⟨v.toInt.toNat, by omega, ?_⟩
  refine Int32.toInt_inj.mp ?_
  rw [show Int32.ofNat v.toInt.toNat = nI v.toInt.toNat from rfl, nI_toInt (by omega)]
  omega
theorem zl_lt {m L : Nat} (hL2 : L ≤ 3584) (h : L < 7 * m + 7) (hm : m ≤ 512 := by omega) : Int32.ofNat L - 7 < nI (7 * m) := by
  rw [Int32.lt_iff_toInt_lt, Int32.toInt_sub]
  have e1 : (Int32.ofNat L).toInt = L := nI_toInt (by omega)
  have e2 : (nI (7 * m)).toInt = (7 * m : Nat) := nI_toInt (by omega)
  have e3 : (7 : Int32).toInt = 7 := by decide
  rw [e1, e2, e3, Int.bmod_eq_of_le (by omega) (by omega)]
  omega
theorem law_loop {Inv : Nat → (Nat → Nat) → (Nat → Nat → Int32) → Prop} (hI : zSteps Inv) {X : z_X} (C : z_C X zm_law) (hrm : X.2.2.2.1 = room_1) (L : Nat) (hL : (zbX X).2.1 = L) (hL2 : L ≤ 3584)
    (hend : ∀ (T' : Nat → Nat × Nat) (G' : Nat → Nat → Option Nat) (S : (Nat → Nat → Int32)) (i : Int32) (n nc ns : Nat), nc ≤ 601024 → ns ≤ 7293034 → z_G X zm_law (3318, zLV i, [], zW T' G' S n, nc, ns)) :
    ∀ (k m : Nat), 512 - m = k → m ≤ 512 → ∀ (T' : Nat → Nat × Nat) (G' : Nat → Nat → Option Nat) (q : Nat) (fl : Nat → Nat) (S : (Nat → Nat → Int32)) (n : Nat), zOK T' (zwG G' q) fl n → Inv m fl S → z_G X zm_law (23, zLV (nI (7 * m)), [], zW T' (zwG G' q) S n, 194 + 20 * m, 39207 + 200 * m) := by
  intro k
  induction k with
  | zero =>
    intro m hk hm T' G' q fl S n hfl hInv
    have hm9 : m = 512 := by omega
    subst hm9
    refine z_go2 C 23 [(.iload 4, 2), (.aload_n 0, 1)] (26, zLV (nI (7 * 512)), [z_s, .inl (nI (7 * 512))], zW T' (zwG G' q) S n, 194 + 20 * 512, 39207 + 200 * 512) (by decide +kernel) rfl ⟨trivial, trivial, trivial⟩ ?_
    refine z_slen (v := Int32.ofNat L) C (by decide +kernel) (by rw [hL]) ?_
    refine z_go2 C 27 [(.bipush 7, 2), (.isub, 1)] (30, zLV (nI (7 * 512)), [.inl (Int32.ofNat L - 7), .inl (nI (7 * 512))], zW T' (zwG G' q) S n, 194 + 20 * 512, 39207 + 200 * 512) (by decide +kernel) rfl ⟨trivial, trivial, trivial⟩ ?_
    refine z_icmp_gt 3318 C (off := 3288) (by decide +kernel) (by decide) (fun c => hend _ _ _ _ _ _ _ (by omega) (by omega)) (fun c => ?_)
    exact absurd (zl_lt (m := 512) hL2 (by omega)) c
  | succ k ih =>
    intro m hk hm T' G' q fl S n hfl hInv
    have hm9 : m < 512 := by omega
    refine z_go2 C 23 [(.iload 4, 2), (.aload_n 0, 1)] (26, zLV (nI (7 * m)), [z_s, .inl (nI (7 * m))], zW T' (zwG G' q) S n, 194 + 20 * m, 39207 + 200 * m) (by decide +kernel) rfl ⟨trivial, trivial, trivial⟩ ?_
    refine z_slen (v := Int32.ofNat L) C (by decide +kernel) (by rw [hL]) ?_
    refine z_go2 C 27 [(.bipush 7, 2), (.isub, 1)] (30, zLV (nI (7 * m)), [.inl (Int32.ofNat L - 7), .inl (nI (7 * m))], zW T' (zwG G' q) S n, 194 + 20 * m, 39207 + 200 * m) (by decide +kernel) rfl ⟨trivial, trivial, trivial⟩ ?_
    refine z_icmp_gt 3318 C (off := 3288) (by decide +kernel) (by decide) (fun c => hend _ _ _ _ _ _ _ (by omega) (by omega)) (fun c => ?_)
    have h7 : 7 * m + 7 ≤ L := by
      refine Nat.not_lt.mp fun hlt => c (zl_lt hL2 hlt)
    have hnc : 194 + 20 * m + 20 ≤ 601024 := by omega
    have hns : 39207 + 200 * m + 200 ≤ 7293034 := by omega
    have hA : zArg X (nI (7 * m)) ((zbX X).2.2 (nI (7 * m) + 1).toNatClampNeg) ((zbX X).2.2 (nI (7 * m) + 2).toNatClampNeg) ((zbX X).2.2 (nI (7 * m) + 3).toNatClampNeg) ((zbX X).2.2 (nI (7 * m) + 4).toNatClampNeg) ((zbX X).2.2 (nI (7 * m) + 5).toNatClampNeg) ((zbX X).2.2 (nI (7 * m) + 6).toNatClampNeg) := by
      unfold zArg
      rw [hL]
      exact ⟨⟨zl_in (b := 1) (by omega) hL2, rfl⟩, ⟨zl_in (b := 2) (by omega) hL2, rfl⟩, ⟨zl_in (b := 3) (by omega) hL2, rfl⟩, ⟨zl_in (b := 4) (by omega) hL2, rfl⟩, ⟨zl_in (b := 5) (by omega) hL2, rfl⟩, ⟨zl_in (b := 6) (by omega) hL2, rfl⟩⟩
    have hnext : ∀ (T2 : Nat → Nat × Nat) (G2 : Nat → Nat → Option Nat) (q2 n2 : Nat) (fl2 : Nat → Nat) (S2 : (Nat → Nat → Int32)), zOK T2 (zwG G2 q2) fl2 n2 → Inv (m + 1) fl2 S2 → z_G X zm_law (3312, zLV (nI (7 * m)), [], zW T2 (zwG G2 q2) S2 n2, 194 + 20 * m + 20, 39207 + 200 * m + 200) := by
      intro T2 G2 q2 n2 fl2 S2 h1 h2
      refine z_go2 C 3312 [(.iinc 4 7, 3), (.goto (-3292), 3)] (23, [(4, .inl (nI (7 * m) + 7)), (0, z_s), (1, z_r 0), (2, z_r 78), (3, z_r 193)], [], zW T2 (zwG G2 q2) S2 n2, 194 + 20 * m + 20, 39207 + 200 * m + 200) (by decide +kernel) rfl ⟨trivial, trivial, trivial⟩ ?_
      have e7 : nI (7 * m) + 7 = nI (7 * (m + 1)) := (zl_add (7 * m) 7).trans (congrArg nI (by omega))
      rw [e7, show 194 + 20 * m + 20 = 194 + 20 * (m + 1) by omega, show 39207 + 200 * m + 200 = 39207 + 200 * (m + 1) by omega]
      exact z_lvs (lv' := zLV (nI (7 * (m + 1)))) [1, 2, 3, 4, 0] rfl (ih (m + 1) (by omega) (by omega) T2 G2 q2 fl2 S2 n2 h1 h2)
    refine z_go2 C 33 [(.aload_n 0, 1), (.iload 4, 2)] (36, zLV (nI (7 * m)), [.inl (nI (7 * m)), z_s], zW T' (zwG G' q) S n, 194 + 20 * m, 39207 + 200 * m) (by decide +kernel) rfl ⟨trivial, trivial, trivial⟩ ?_
    refine z_sld (v := (zbX X).2.2 (nI (7 * m)).toNatClampNeg) C (by decide +kernel) (by rw [hL]; exact vp_in_nI (by omega) (by omega)) rfl ?_
    refine z_go2 C 37 [(.bipush 63, 2), (.iand, 1)] (40, zLV (nI (7 * m)), [.inl ((zbX X).2.2 (nI (7 * m)).toNatClampNeg &&& 63)], zW T' (zwG G' q) S n, 194 + 20 * m, 39207 + 200 * m) (by decide +kernel) rfl ⟨trivial, trivial, trivial⟩ ?_
    by_cases hout : ((zbX X).2.2 (nI (7 * m)).toNatClampNeg &&& 63).toInt < 0 ∨ 44 < ((zbX X).2.2 (nI (7 * m)).toNatClampNeg &&& 63).toInt
    · refine z_tableOut 3312 C d_law_40 hout (by decide) ?_
      exact z_wid (Nat.le_add_right _ 20) (Nat.le_add_right _ 200) (hnext T' G' q n fl S hfl (hI.nop m fl S hm9 hInv))
    · obtain ⟨t, ht, hv⟩ := zl_43 _ hout
      have htt : t = 0 ∨ t = 1 ∨ t = 2 ∨ t = 3 ∨ t = 4 ∨ t = 5 ∨ t = 6 ∨ t = 7 ∨ t = 8 ∨ t = 9 ∨ t = 10 ∨ t = 11 ∨ t = 12 ∨ t = 13 ∨ t = 14 ∨ t = 15 ∨ t = 16 ∨ t = 17 ∨ t = 18 ∨ t = 19 ∨ t = 20 ∨ t = 21 ∨ t = 22 ∨ t = 23 ∨ t = 24 ∨ t = 25 ∨ t = 26 ∨ t = 27 ∨ t = 28 ∨ t = 29 ∨ t = 30 ∨ t = 31 ∨ t = 32 ∨ t = 33 ∨ t = 34 ∨ t = 35 ∨ t = 36 ∨ t = 37 ∨ t = 38 ∨ t = 39 ∨ t = 40 ∨ t = 41 ∨ t = 42 ∨ t = 43 ∨ t = 44 := by omega
      rcases htt with rfl | rfl | rfl | rfl | rfl | rfl | rfl | rfl | rfl | rfl | rfl | rfl | rfl | rfl | rfl | rfl | rfl | rfl | rfl | rfl | rfl | rfl | rfl | rfl | rfl | rfl | rfl | rfl | rfl | rfl | rfl | rfl | rfl | rfl | rfl | rfl | rfl | rfl | rfl | rfl | rfl | rfl | rfl | rfl | rfl
      · refine z_tabE (v := 0) (off := 196) 236 C hv d_law_40 (by decide) (by decide) (by decide) (by decide) ?_
        exact l_0 C hrm S (nI (7 * m)) _ _ _ _ _ _ hA hfl hnc hns (hI.s0 m fl S _ _ _ _ _ _ hm9 hInv).1 (fun T2 G2 n2 q2 hn hOK => hnext T2 G2 q2 n2 _ _ hOK (hI.s0 m fl S _ _ _ _ _ _ hm9 hInv).2)
      · refine z_tabE (v := 1) (off := 276) 316 C hv d_law_40 (by decide) (by decide) (by decide) (by decide) ?_
        exact l_1 C hrm S (nI (7 * m)) _ _ _ _ _ _ hA hfl hnc hns (hI.s1 m fl S _ _ _ _ _ _ hm9 hInv).1 (fun T2 G2 n2 q2 hn hOK => hnext T2 G2 q2 n2 _ _ hOK (hI.s1 m fl S _ _ _ _ _ _ hm9 hInv).2)
      · refine z_tabE (v := 2) (off := 356) 396 C hv d_law_40 (by decide) (by decide) (by decide) (by decide) ?_
        exact l_2 C hrm S (nI (7 * m)) _ _ _ _ _ _ hA hfl hnc hns (hI.s2 m fl S _ _ _ _ _ _ hm9 hInv).1 (fun T2 G2 n2 q2 hn hOK => hnext T2 G2 q2 n2 _ _ hOK (hI.s2 m fl S _ _ _ _ _ _ hm9 hInv).2)
      · refine z_tabE (v := 3) (off := 424) 464 C hv d_law_40 (by decide) (by decide) (by decide) (by decide) ?_
        exact l_3 C hrm S (nI (7 * m)) _ _ _ _ _ _ hA hfl hnc hns (hI.s3 m fl S _ _ _ _ _ _ hm9 hInv).1 (fun T2 G2 n2 q2 hn hOK => hnext T2 G2 q2 n2 _ _ hOK (hI.s3 m fl S _ _ _ _ _ _ hm9 hInv).2)
      · refine z_tabE (v := 4) (off := 492) 532 C hv d_law_40 (by decide) (by decide) (by decide) (by decide) ?_
        exact l_4 C hrm S (nI (7 * m)) _ _ _ _ _ _ hA hfl hnc hns (hI.s4 m fl S _ _ _ _ _ _ hm9 hInv).1 (fun T2 G2 n2 q2 hn hOK => hnext T2 G2 q2 n2 _ _ hOK (hI.s4 m fl S _ _ _ _ _ _ hm9 hInv).2)
      · refine z_tabE (v := 5) (off := 548) 588 C hv d_law_40 (by decide) (by decide) (by decide) (by decide) ?_
        exact l_5 C hrm S (nI (7 * m)) _ _ _ _ _ _ hA hfl hnc hns (hI.s5 m fl S _ _ _ _ _ _ hm9 hInv).1 (fun T2 G2 n2 q2 hn hOK => hnext T2 G2 q2 n2 _ _ hOK (hI.s5 m fl S _ _ _ _ _ _ hm9 hInv).2)
      · refine z_tabE (v := 6) (off := 561) 601 C hv d_law_40 (by decide) (by decide) (by decide) (by decide) ?_
        exact l_6 C hrm S (nI (7 * m)) _ _ _ _ _ _ hA hfl hnc hns (hI.s6 m fl S _ _ _ _ _ _ hm9 hInv).1 (fun T2 G2 n2 q2 hn hOK => hnext T2 G2 q2 n2 _ _ hOK (hI.s6 m fl S _ _ _ _ _ _ hm9 hInv).2)
      · refine z_tabE (v := 7) (off := 574) 614 C hv d_law_40 (by decide) (by decide) (by decide) (by decide) ?_
        exact l_7 C hrm S (nI (7 * m)) _ _ _ _ _ _ hA hfl hnc hns (hI.s7 m fl S _ _ _ _ _ _ hm9 hInv).1 (fun T2 G2 n2 q2 hn hOK => hnext T2 G2 q2 n2 _ _ hOK (hI.s7 m fl S _ _ _ _ _ _ hm9 hInv).2)
      · refine z_tabE (v := 8) (off := 646) 686 C hv d_law_40 (by decide) (by decide) (by decide) (by decide) ?_
        exact l_8 C hrm S (nI (7 * m)) _ _ _ _ _ _ hA hfl hnc hns (hI.s8 m fl S _ _ _ _ _ _ hm9 hInv).1 (fun T2 G2 n2 q2 hn hOK => hnext T2 G2 q2 n2 _ _ hOK (hI.s8 m fl S _ _ _ _ _ _ hm9 hInv).2)
      · refine z_tabE (v := 9) (off := 702) 742 C hv d_law_40 (by decide) (by decide) (by decide) (by decide) ?_
        exact l_9 C hrm S (nI (7 * m)) _ _ _ _ _ _ hA hfl hnc hns (hI.s9 m fl S _ _ _ _ _ _ hm9 hInv).1 (fun T2 G2 n2 q2 hn hOK => hnext T2 G2 q2 n2 _ _ hOK (hI.s9 m fl S _ _ _ _ _ _ hm9 hInv).2)
      · refine z_tabE (v := 10) (off := 758) 798 C hv d_law_40 (by decide) (by decide) (by decide) (by decide) ?_
        exact l_10 C hrm S (nI (7 * m)) _ _ _ _ _ _ hA hfl hnc hns (hI.s10 m fl S _ _ _ _ _ _ hm9 hInv).1 (fun T2 G2 n2 q2 hn hOK => hnext T2 G2 q2 n2 _ _ hOK (hI.s10 m fl S _ _ _ _ _ _ hm9 hInv).2)
      · refine z_tabE (v := 11) (off := 826) 866 C hv d_law_40 (by decide) (by decide) (by decide) (by decide) ?_
        exact l_11 C hrm S (nI (7 * m)) _ _ _ _ _ _ hA hfl hnc hns (hI.s11 m fl S _ _ _ _ _ _ hm9 hInv).1 (fun T2 G2 n2 q2 hn hOK => hnext T2 G2 q2 n2 _ _ hOK (hI.s11 m fl S _ _ _ _ _ _ hm9 hInv).2)
      · refine z_tabE (v := 12) (off := 944) 984 C hv d_law_40 (by decide) (by decide) (by decide) (by decide) ?_
        exact l_12 C hrm S (nI (7 * m)) _ _ _ _ _ _ hA hfl hnc hns (fun na hna => (hI.s12 m fl S _ _ _ _ _ _ na hm9 hInv (Nat.le_trans hfl.1 hna) (fun k hk => Nat.lt_of_lt_of_le (hfl.2 k hk).2.2 hna)).1) (fun T2 G2 n2 q2 na hna hn hOK => hnext T2 G2 q2 n2 _ _ hOK (hI.s12 m fl S _ _ _ _ _ _ na hm9 hInv (Nat.le_trans hfl.1 hna) (fun k hk => Nat.lt_of_lt_of_le (hfl.2 k hk).2.2 hna)).2)
      · refine z_tabE (v := 13) (off := 1000) 1040 C hv d_law_40 (by decide) (by decide) (by decide) (by decide) ?_
        exact l_13 C hrm S (nI (7 * m)) _ _ _ _ _ _ hA hfl hnc hns (hI.s13 m fl S _ _ _ _ _ _ hm9 hInv).1 (fun T2 G2 n2 q2 hn hOK => hnext T2 G2 q2 n2 _ _ hOK (hI.s13 m fl S _ _ _ _ _ _ hm9 hInv).2)
      · refine z_tabE (v := 14) (off := 1013) 1053 C hv d_law_40 (by decide) (by decide) (by decide) (by decide) ?_
        exact l_14 C hrm S (nI (7 * m)) _ _ _ _ _ _ hA hfl hnc hns (hI.s14 m fl S _ _ _ _ _ _ hm9 hInv).1 (fun T2 G2 n2 q2 hn hOK => hnext T2 G2 q2 n2 _ _ hOK (hI.s14 m fl S _ _ _ _ _ _ hm9 hInv).2)
      · refine z_tabE (v := 15) (off := 1093) 1133 C hv d_law_40 (by decide) (by decide) (by decide) (by decide) ?_
        exact l_15 C hrm S (nI (7 * m)) _ _ _ _ _ _ hA hfl hnc hns (hI.s15 m fl S _ _ _ _ _ _ hm9 hInv).1 (fun T2 G2 n2 q2 hn hOK => hnext T2 G2 q2 n2 _ _ hOK (hI.s15 m fl S _ _ _ _ _ _ hm9 hInv).2)
      · refine z_tabE (v := 16) (off := 1185) 1225 C hv d_law_40 (by decide) (by decide) (by decide) (by decide) ?_
        exact l_16 C hrm S (nI (7 * m)) _ _ _ _ _ _ hA hfl hnc hns (hI.s16 m fl S _ _ _ _ _ _ hm9 hInv).1 (fun T2 G2 n2 q2 hn hOK => hnext T2 G2 q2 n2 _ _ hOK (hI.s16 m fl S _ _ _ _ _ _ hm9 hInv).2)
      · refine z_tabE (v := 17) (off := 1265) 1305 C hv d_law_40 (by decide) (by decide) (by decide) (by decide) ?_
        exact l_17 C hrm S (nI (7 * m)) _ _ _ _ _ _ hA hfl hnc hns (hI.s17 m fl S _ _ _ _ _ _ hm9 hInv).1 (fun T2 G2 n2 q2 hn hOK => hnext T2 G2 q2 n2 _ _ hOK (hI.s17 m fl S _ _ _ _ _ _ hm9 hInv).2)
      · refine z_tabE (v := 18) (off := 1345) 1385 C hv d_law_40 (by decide) (by decide) (by decide) (by decide) ?_
        exact l_18 C hrm S (nI (7 * m)) _ _ _ _ _ _ hA hfl hnc hns (hI.s18 m fl S _ _ _ _ _ _ hm9 hInv).1 (fun T2 G2 n2 q2 hn hOK => hnext T2 G2 q2 n2 _ _ hOK (hI.s18 m fl S _ _ _ _ _ _ hm9 hInv).2)
      · refine z_tabE (v := 19) (off := 1425) 1465 C hv d_law_40 (by decide) (by decide) (by decide) (by decide) ?_
        exact l_19 C hrm S (nI (7 * m)) _ _ _ _ _ _ hA hfl hnc hns (fun na hna => (hI.s19 m fl S _ _ _ _ _ _ na hm9 hInv (Nat.le_trans hfl.1 hna) (fun k hk => Nat.lt_of_lt_of_le (hfl.2 k hk).2.2 hna)).1) (fun T2 G2 n2 q2 na hna hn hOK => hnext T2 G2 q2 n2 _ _ hOK (hI.s19 m fl S _ _ _ _ _ _ na hm9 hInv (Nat.le_trans hfl.1 hna) (fun k hk => Nat.lt_of_lt_of_le (hfl.2 k hk).2.2 hna)).2)
      · refine z_tabE (v := 20) (off := 1552) 1592 C hv d_law_40 (by decide) (by decide) (by decide) (by decide) ?_
        exact l_20 C hrm S (nI (7 * m)) _ _ _ _ _ _ hA hfl hnc hns (hI.s20 m fl S _ _ _ _ _ _ hm9 hInv).1 (fun T2 G2 n2 q2 hn hOK => hnext T2 G2 q2 n2 _ _ hOK (hI.s20 m fl S _ _ _ _ _ _ hm9 hInv).2)
      · refine z_tabE (v := 21) (off := 1639) 1679 C hv d_law_40 (by decide) (by decide) (by decide) (by decide) ?_
        exact l_21 C hrm S (nI (7 * m)) _ _ _ _ _ _ hA hfl hnc hns (hI.s21 m fl S _ _ _ _ _ _ hm9 hInv).1 (fun T2 G2 n2 q2 hn hOK => hnext T2 G2 q2 n2 _ _ hOK (hI.s21 m fl S _ _ _ _ _ _ hm9 hInv).2)
      · refine z_tabE (v := 22) (off := 1719) 1759 C hv d_law_40 (by decide) (by decide) (by decide) (by decide) ?_
        exact l_22 C hrm S (nI (7 * m)) _ _ _ _ _ _ hA hfl hnc hns (hI.s22 m fl S _ _ _ _ _ _ hm9 hInv).1 (fun T2 G2 n2 q2 hn hOK => hnext T2 G2 q2 n2 _ _ hOK (hI.s22 m fl S _ _ _ _ _ _ hm9 hInv).2)
      · refine z_tabE (v := 23) (off := 1799) 1839 C hv d_law_40 (by decide) (by decide) (by decide) (by decide) ?_
        exact l_23 C hrm S (nI (7 * m)) _ _ _ _ _ _ hA hfl hnc hns (fun na hna => (hI.s23 m fl S _ _ _ _ _ _ na hm9 hInv (Nat.le_trans hfl.1 hna) (fun k hk => Nat.lt_of_lt_of_le (hfl.2 k hk).2.2 hna)).1) (fun T2 G2 n2 q2 na hna hn hOK => hnext T2 G2 q2 n2 _ _ hOK (hI.s23 m fl S _ _ _ _ _ _ na hm9 hInv (Nat.le_trans hfl.1 hna) (fun k hk => Nat.lt_of_lt_of_le (hfl.2 k hk).2.2 hna)).2)
      · refine z_tabE (v := 24) (off := 1879) 1919 C hv d_law_40 (by decide) (by decide) (by decide) (by decide) ?_
        exact l_24 C hrm S (nI (7 * m)) _ _ _ _ _ _ hA hfl hnc hns (hI.s24 m fl S _ _ _ _ _ _ hm9 hInv).1 (fun T2 G2 n2 q2 hn hOK => hnext T2 G2 q2 n2 _ _ hOK (hI.s24 m fl S _ _ _ _ _ _ hm9 hInv).2)
      · refine z_tabE (v := 25) (off := 1937) 1977 C hv d_law_40 (by decide) (by decide) (by decide) (by decide) ?_
        exact l_25 C hrm S (nI (7 * m)) _ _ _ _ _ _ hA hfl hnc hns (hI.s25 m fl S _ _ _ _ _ _ hm9 hInv).1 (fun T2 G2 n2 q2 hn hOK => hnext T2 G2 q2 n2 _ _ hOK (hI.s25 m fl S _ _ _ _ _ _ hm9 hInv).2)
      · refine z_tabE (v := 26) (off := 1950) 1990 C hv d_law_40 (by decide) (by decide) (by decide) (by decide) ?_
        exact l_26 C hrm S (nI (7 * m)) _ _ _ _ _ _ hA hfl hnc hns (hI.s26 m fl S _ _ _ _ _ _ hm9 hInv).1 (fun T2 G2 n2 q2 hn hOK => hnext T2 G2 q2 n2 _ _ hOK (hI.s26 m fl S _ _ _ _ _ _ hm9 hInv).2)
      · refine z_tabE (v := 27) (off := 1963) 2003 C hv d_law_40 (by decide) (by decide) (by decide) (by decide) ?_
        exact l_27 C hrm S (nI (7 * m)) _ _ _ _ _ _ hA hfl hnc hns (hI.s27 m fl S _ _ _ _ _ _ hm9 hInv).1 (fun T2 G2 n2 q2 hn hOK => hnext T2 G2 q2 n2 _ _ hOK (hI.s27 m fl S _ _ _ _ _ _ hm9 hInv).2)
      · refine z_tabE (v := 28) (off := 2031) 2071 C hv d_law_40 (by decide) (by decide) (by decide) (by decide) ?_
        exact l_28 C hrm S (nI (7 * m)) _ _ _ _ _ _ hA hfl hnc hns (hI.s28 m fl S _ _ _ _ _ _ hm9 hInv).1 (fun T2 G2 n2 q2 hn hOK => hnext T2 G2 q2 n2 _ _ hOK (hI.s28 m fl S _ _ _ _ _ _ hm9 hInv).2)
      · refine z_tabE (v := 29) (off := 2111) 2151 C hv d_law_40 (by decide) (by decide) (by decide) (by decide) ?_
        exact l_29 C hrm S (nI (7 * m)) _ _ _ _ _ _ hA hfl hnc hns (hI.s29 m fl S _ _ _ _ _ _ hm9 hInv).1 (fun T2 G2 n2 q2 hn hOK => hnext T2 G2 q2 n2 _ _ hOK (hI.s29 m fl S _ _ _ _ _ _ hm9 hInv).2)
      · refine z_tabE (v := 30) (off := 2191) 2231 C hv d_law_40 (by decide) (by decide) (by decide) (by decide) ?_
        exact l_30 C hrm S (nI (7 * m)) _ _ _ _ _ _ hA hfl hnc hns (hI.s30 m fl S _ _ _ _ _ _ hm9 hInv).1 (fun T2 G2 n2 q2 hn hOK => hnext T2 G2 q2 n2 _ _ hOK (hI.s30 m fl S _ _ _ _ _ _ hm9 hInv).2)
      · refine z_tabE (v := 31) (off := 2259) 2299 C hv d_law_40 (by decide) (by decide) (by decide) (by decide) ?_
        exact l_31 C hrm S (nI (7 * m)) _ _ _ _ _ _ hA hfl hnc hns (hI.s31 m fl S _ _ _ _ _ _ hm9 hInv).1 (fun T2 G2 n2 q2 hn hOK => hnext T2 G2 q2 n2 _ _ hOK (hI.s31 m fl S _ _ _ _ _ _ hm9 hInv).2)
      · refine z_tabE (v := 32) (off := 2327) 2367 C hv d_law_40 (by decide) (by decide) (by decide) (by decide) ?_
        exact l_32 C hrm S (nI (7 * m)) _ _ _ _ _ _ hA hfl hnc hns (hI.s32 m fl S _ _ _ _ _ _ hm9 hInv).1 (fun T2 G2 n2 q2 hn hOK => hnext T2 G2 q2 n2 _ _ hOK (hI.s32 m fl S _ _ _ _ _ _ hm9 hInv).2)
      · refine z_tabE (v := 33) (off := 2407) 2447 C hv d_law_40 (by decide) (by decide) (by decide) (by decide) ?_
        exact l_33 C hrm S (nI (7 * m)) _ _ _ _ _ _ hA hfl hnc hns (hI.s33 m fl S _ _ _ _ _ _ hm9 hInv).1 (fun T2 G2 n2 q2 hn hOK => hnext T2 G2 q2 n2 _ _ hOK (hI.s33 m fl S _ _ _ _ _ _ hm9 hInv).2)
      · refine z_tabE (v := 34) (off := 2475) 2515 C hv d_law_40 (by decide) (by decide) (by decide) (by decide) ?_
        exact l_34 C hrm S (nI (7 * m)) _ _ _ _ _ _ hA hfl hnc hns (hI.s34 m fl S _ _ _ _ _ _ hm9 hInv).1 (fun T2 G2 n2 q2 hn hOK => hnext T2 G2 q2 n2 _ _ hOK (hI.s34 m fl S _ _ _ _ _ _ hm9 hInv).2)
      · refine z_tabE (v := 35) (off := 2555) 2595 C hv d_law_40 (by decide) (by decide) (by decide) (by decide) ?_
        exact l_35 C hrm S (nI (7 * m)) _ _ _ _ _ _ hA hfl hnc hns (hI.s35 m fl S _ _ _ _ _ _ hm9 hInv).1 (fun T2 G2 n2 q2 hn hOK => hnext T2 G2 q2 n2 _ _ hOK (hI.s35 m fl S _ _ _ _ _ _ hm9 hInv).2)
      · refine z_tabE (v := 36) (off := 2673) 2713 C hv d_law_40 (by decide) (by decide) (by decide) (by decide) ?_
        exact l_36 C hrm S (nI (7 * m)) _ _ _ _ _ _ hA hfl hnc hns (hI.s36 m fl S _ _ _ _ _ _ hm9 hInv).1 (fun T2 G2 n2 q2 hn hOK => hnext T2 G2 q2 n2 _ _ hOK (hI.s36 m fl S _ _ _ _ _ _ hm9 hInv).2)
      · refine z_tabE (v := 37) (off := 2745) 2785 C hv d_law_40 (by decide) (by decide) (by decide) (by decide) ?_
        exact l_37 C hrm S (nI (7 * m)) _ _ _ _ _ _ hA hfl hnc hns (hI.s37 m fl S _ _ _ _ _ _ hm9 hInv).1 (fun T2 G2 n2 q2 hn hOK => hnext T2 G2 q2 n2 _ _ hOK (hI.s37 m fl S _ _ _ _ _ _ hm9 hInv).2)
      · refine z_tabE (v := 38) (off := 2837) 2877 C hv d_law_40 (by decide) (by decide) (by decide) (by decide) ?_
        exact l_38 C hrm S (nI (7 * m)) _ _ _ _ _ _ hA hfl hnc hns (hI.s38 m fl S _ _ _ _ _ _ hm9 hInv).1 (fun T2 G2 n2 q2 hn hOK => hnext T2 G2 q2 n2 _ _ hOK (hI.s38 m fl S _ _ _ _ _ _ hm9 hInv).2)
      · refine z_tabE (v := 39) (off := 2893) 2933 C hv d_law_40 (by decide) (by decide) (by decide) (by decide) ?_
        exact l_39 C hrm S (nI (7 * m)) _ _ _ _ _ _ hA hfl hnc hns (hI.s39 m fl S _ _ _ _ _ _ hm9 hInv).1 (fun T2 G2 n2 q2 hn hOK => hnext T2 G2 q2 n2 _ _ hOK (hI.s39 m fl S _ _ _ _ _ _ hm9 hInv).2)
      · refine z_tabE (v := 40) (off := 2949) 2989 C hv d_law_40 (by decide) (by decide) (by decide) (by decide) ?_
        exact l_40 C hrm S (nI (7 * m)) _ _ _ _ _ _ hA hfl hnc hns (hI.s40 m fl S _ _ _ _ _ _ hm9 hInv).1 (fun T2 G2 n2 q2 hn hOK => hnext T2 G2 q2 n2 _ _ hOK (hI.s40 m fl S _ _ _ _ _ _ hm9 hInv).2)
      · refine z_tabE (v := 41) (off := 3029) 3069 C hv d_law_40 (by decide) (by decide) (by decide) (by decide) ?_
        exact l_41 C hrm S (nI (7 * m)) _ _ _ _ _ _ hA hfl hnc hns (hI.s41 m fl S _ _ _ _ _ _ hm9 hInv).1 (fun T2 G2 n2 q2 hn hOK => hnext T2 G2 q2 n2 _ _ hOK (hI.s41 m fl S _ _ _ _ _ _ hm9 hInv).2)
      · refine z_tabE (v := 42) (off := 3073) 3113 C hv d_law_40 (by decide) (by decide) (by decide) (by decide) ?_
        exact l_42 C hrm S (nI (7 * m)) _ _ _ _ _ _ hA hfl hnc hns (hI.s42 m fl S _ _ _ _ _ _ hm9 hInv).1 (fun T2 G2 n2 q2 hn hOK => hnext T2 G2 q2 n2 _ _ hOK (hI.s42 m fl S _ _ _ _ _ _ hm9 hInv).2)
      · refine z_tabE (v := 43) (off := 3141) 3181 C hv d_law_40 (by decide) (by decide) (by decide) (by decide) ?_
        exact l_43 C hrm S (nI (7 * m)) _ _ _ _ _ _ hA hfl hnc hns (hI.s43 m fl S _ _ _ _ _ _ hm9 hInv).1 (fun T2 G2 n2 q2 hn hOK => hnext T2 G2 q2 n2 _ _ hOK (hI.s43 m fl S _ _ _ _ _ _ hm9 hInv).2)
      · refine z_tabE (v := 44) (off := 3216) 3256 C hv d_law_40 (by decide) (by decide) (by decide) (by decide) ?_
        exact l_44 C hrm S (nI (7 * m)) _ _ _ _ _ _ hA hfl hnc hns (hI.s44 m fl S _ _ _ _ _ _ hm9 hInv).1 (fun T2 G2 n2 q2 hn hOK => hnext T2 G2 q2 n2 _ _ hOK (hI.s44 m fl S _ _ _ _ _ _ hm9 hInv).2)
