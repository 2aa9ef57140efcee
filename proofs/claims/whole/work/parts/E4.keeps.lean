/-! PURE: each call keeps what holds, 1 -/
theorem zIst.chA {fl : Nat → Nat} {S F : Nat → Nat → Int32} {W : List zLoc} (h : zIst fl S) (c : zCA F) (w : zWr W S F) (gK : zDisj W zDK = true) (gI : zDisj W zDI = true) (gF : zDisj W zDF = true) (gQ : zDisj W zDQ = true) (gR : zDisj W zDR = true) (gW : zDisj W zDW = true) : zIst fl F := by
  obtain ⟨⟨cA, cK, cI, cF, cQ, cR, cW⟩, hk, hg⟩ := h
  exact ⟨⟨c, cK.ag (w.ag gK), cI.ag (w.ag gI), cF.ag (w.ag gF), cQ.ag (w.ag gQ), cR.ag (w.ag gR), cW.ag (w.ag gW)⟩, hk.ag (zAg.cell (w.ag (D := zDK) gK) (by decide)) (zAg.cell (w.ag (D := zDK) gK) (by decide)), hg.ag (zAg.cell (w.ag (D := zDK) gK) (by decide)) (zAg.cell (w.ag (D := zDK) gK) (by decide))⟩
theorem zIst.chK {fl : Nat → Nat} {S F : Nat → Nat → Int32} {W : List zLoc} (h : zIst fl S) (c : zCK F) (e : eK F) (e2 : zKG2 F) (w : zWr W S F) (gA : zDisj W zDA = true) (gI : zDisj W zDI = true) (gF : zDisj W zDF = true) (gQ : zDisj W zDQ = true) (gR : zDisj W zDR = true) (gW : zDisj W zDW = true) : zIst fl F := by
  obtain ⟨⟨cA, cK, cI, cF, cQ, cR, cW⟩, hk, hg⟩ := h
  exact ⟨⟨cA.ag (w.ag gA), c, cI.ag (w.ag gI), cF.ag (w.ag gF), cQ.ag (w.ag gQ), cR.ag (w.ag gR), cW.ag (w.ag gW)⟩, e, e2⟩
theorem zIst.chI {fl : Nat → Nat} {S F : Nat → Nat → Int32} {W : List zLoc} (h : zIst fl S) (c : zCI F) (w : zWr W S F) (gA : zDisj W zDA = true) (gK : zDisj W zDK = true) (gF : zDisj W zDF = true) (gQ : zDisj W zDQ = true) (gR : zDisj W zDR = true) (gW : zDisj W zDW = true) : zIst fl F := by
  obtain ⟨⟨cA, cK, cI, cF, cQ, cR, cW⟩, hk, hg⟩ := h
  exact ⟨⟨cA.ag (w.ag gA), cK.ag (w.ag gK), c, cF.ag (w.ag gF), cQ.ag (w.ag gQ), cR.ag (w.ag gR), cW.ag (w.ag gW)⟩, hk.ag (zAg.cell (w.ag (D := zDK) gK) (by decide)) (zAg.cell (w.ag (D := zDK) gK) (by decide)), hg.ag (zAg.cell (w.ag (D := zDK) gK) (by decide)) (zAg.cell (w.ag (D := zDK) gK) (by decide))⟩
theorem zIst.chF {fl : Nat → Nat} {S F : Nat → Nat → Int32} {W : List zLoc} (h : zIst fl S) (c : zCF fl F F) (w : zWr W S F) (gA : zDisj W zDA = true) (gK : zDisj W zDK = true) (gI : zDisj W zDI = true) (gQ : zDisj W zDQ = true) (gR : zDisj W zDR = true) (gW : zDisj W zDW = true) : zIst fl F := by
  obtain ⟨⟨cA, cK, cI, cF, cQ, cR, cW⟩, hk, hg⟩ := h
  exact ⟨⟨cA.ag (w.ag gA), cK.ag (w.ag gK), cI.ag (w.ag gI), c, cQ.ag (w.ag gQ), cR.ag (w.ag gR), cW.ag (w.ag gW)⟩, hk.ag (zAg.cell (w.ag (D := zDK) gK) (by decide)) (zAg.cell (w.ag (D := zDK) gK) (by decide)), hg.ag (zAg.cell (w.ag (D := zDK) gK) (by decide)) (zAg.cell (w.ag (D := zDK) gK) (by decide))⟩
theorem zIst.chQ {fl : Nat → Nat} {S F : Nat → Nat → Int32} {W : List zLoc} (h : zIst fl S) (c : zCQ F) (w : zWr W S F) (gA : zDisj W zDA = true) (gK : zDisj W zDK = true) (gI : zDisj W zDI = true) (gF : zDisj W zDF = true) (gR : zDisj W zDR = true) (gW : zDisj W zDW = true) : zIst fl F := by
  obtain ⟨⟨cA, cK, cI, cF, cQ, cR, cW⟩, hk, hg⟩ := h
  exact ⟨⟨cA.ag (w.ag gA), cK.ag (w.ag gK), cI.ag (w.ag gI), cF.ag (w.ag gF), c, cR.ag (w.ag gR), cW.ag (w.ag gW)⟩, hk.ag (zAg.cell (w.ag (D := zDK) gK) (by decide)) (zAg.cell (w.ag (D := zDK) gK) (by decide)), hg.ag (zAg.cell (w.ag (D := zDK) gK) (by decide)) (zAg.cell (w.ag (D := zDK) gK) (by decide))⟩
theorem zIst.chR {fl : Nat → Nat} {S F : Nat → Nat → Int32} {W : List zLoc} (h : zIst fl S) (c : zCR F) (w : zWr W S F) (gA : zDisj W zDA = true) (gK : zDisj W zDK = true) (gI : zDisj W zDI = true) (gF : zDisj W zDF = true) (gQ : zDisj W zDQ = true) (gW : zDisj W zDW = true) : zIst fl F := by
  obtain ⟨⟨cA, cK, cI, cF, cQ, cR, cW⟩, hk, hg⟩ := h
  exact ⟨⟨cA.ag (w.ag gA), cK.ag (w.ag gK), cI.ag (w.ag gI), cF.ag (w.ag gF), cQ.ag (w.ag gQ), c, cW.ag (w.ag gW)⟩, hk.ag (zAg.cell (w.ag (D := zDK) gK) (by decide)) (zAg.cell (w.ag (D := zDK) gK) (by decide)), hg.ag (zAg.cell (w.ag (D := zDK) gK) (by decide)) (zAg.cell (w.ag (D := zDK) gK) (by decide))⟩
theorem zIst.chW {fl : Nat → Nat} {S F : Nat → Nat → Int32} {W : List zLoc} (h : zIst fl S) (c : zCW F) (w : zWr W S F) (gA : zDisj W zDA = true) (gK : zDisj W zDK = true) (gI : zDisj W zDI = true) (gF : zDisj W zDF = true) (gQ : zDisj W zDQ = true) (gR : zDisj W zDR = true) : zIst fl F := by
  obtain ⟨⟨cA, cK, cI, cF, cQ, cR, cW⟩, hk, hg⟩ := h
  exact ⟨⟨cA.ag (w.ag gA), cK.ag (w.ag gK), cI.ag (w.ag gI), cF.ag (w.ag gF), cQ.ag (w.ag gQ), cR.ag (w.ag gR), c⟩, hk.ag (zAg.cell (w.ag (D := zDK) gK) (by decide)) (zAg.cell (w.ag (D := zDK) gK) (by decide)), hg.ag (zAg.cell (w.ag (D := zDK) gK) (by decide)) (zAg.cell (w.ag (D := zDK) gK) (by decide))⟩
theorem i_0 {m : Nat} {fl : Nat → Nat} {S : Nat → Nat → Int32} (hm : m < 512) (h : zInv m fl S) (a1 a2 a3 a4 a5 a6 : Int32) : Sl_0 fl S a1 a2 a3 a4 a5 a6 ∧ zInv (m + 1) fl (Fl_0 fl S a1 a2 a3 a4 a5 a6) := by
  obtain ⟨d, A, rn, m', h0, hK, hB, hm', s⟩ := h.b0
  obtain ⟨g1, g2⟩ := o_0 h0 a1 a2 a3 a4 a5 a6
  exact ⟨g1, h.item h0 hK hB hm' s g2⟩
theorem i_15 {m : Nat} {fl : Nat → Nat} {S : Nat → Nat → Int32} (hm : m < 512) (h : zInv m fl S) (a1 a2 a3 a4 a5 a6 : Int32) : Sl_15 fl S a1 a2 a3 a4 a5 a6 ∧ zInv (m + 1) fl (Fl_15 fl S a1 a2 a3 a4 a5 a6) := by
  obtain ⟨d, A, rn, m', h0, hK, hB, hm', s⟩ := h.b0
  obtain ⟨g1, g2⟩ := o_15 h0 a1 a2 a3 a4 a5 a6
  exact ⟨g1, h.item h0 hK hB hm' s g2⟩
theorem i_16 {m : Nat} {fl : Nat → Nat} {S : Nat → Nat → Int32} (hm : m < 512) (h : zInv m fl S) (a1 a2 a3 a4 a5 a6 : Int32) : Sl_16 fl S a1 a2 a3 a4 a5 a6 ∧ zInv (m + 1) fl (Fl_16 fl S a1 a2 a3 a4 a5 a6) := by
  obtain ⟨d, A, rn, m', h0, hK, hB, hm', s⟩ := h.b0
  obtain ⟨g1, g2⟩ := o_16 h0 a1 a2 a3 a4 a5 a6
  exact ⟨g1, h.item h0 hK hB hm' s g2⟩
theorem i_18 {m : Nat} {fl : Nat → Nat} {S : Nat → Nat → Int32} (hm : m < 512) (h : zInv m fl S) (a1 a2 a3 a4 a5 a6 : Int32) : Sl_18 fl S a1 a2 a3 a4 a5 a6 ∧ zInv (m + 1) fl (Fl_18 fl S a1 a2 a3 a4 a5 a6) := by
  obtain ⟨d, A, rn, m', h0, hK, hB, hm', s⟩ := h.b0
  obtain ⟨g1, g2⟩ := o_18 h0 a1 a2 a3 a4 a5 a6
  exact ⟨g1, h.item h0 hK hB hm' s g2⟩
theorem i_20 {m : Nat} {fl : Nat → Nat} {S : Nat → Nat → Int32} (hm : m < 512) (h : zInv m fl S) (a1 a2 a3 a4 a5 a6 : Int32) : Sl_20 fl S a1 a2 a3 a4 a5 a6 ∧ zInv (m + 1) fl (Fl_20 fl S a1 a2 a3 a4 a5 a6) := by
  obtain ⟨d, A, rn, m', h0, hK, hB, hm', s⟩ := h.b0
  obtain ⟨g1, g2⟩ := o_20 h0 a1 a2 a3 a4 a5 a6
  exact ⟨g1, h.item h0 hK hB hm' s g2⟩
theorem i_21 {m : Nat} {fl : Nat → Nat} {S : Nat → Nat → Int32} (hm : m < 512) (h : zInv m fl S) (a1 a2 a3 a4 a5 a6 : Int32) : Sl_21 fl S a1 a2 a3 a4 a5 a6 ∧ zInv (m + 1) fl (Fl_21 fl S a1 a2 a3 a4 a5 a6) := by
  obtain ⟨d, A, rn, m', h0, hK, hB, hm', s⟩ := h.b0
  obtain ⟨g1, g2⟩ := o_21 h0 a1 a2 a3 a4 a5 a6
  exact ⟨g1, h.item h0 hK hB hm' s g2⟩
theorem i_22 {m : Nat} {fl : Nat → Nat} {S : Nat → Nat → Int32} (hm : m < 512) (h : zInv m fl S) (a1 a2 a3 a4 a5 a6 : Int32) : Sl_22 fl S a1 a2 a3 a4 a5 a6 ∧ zInv (m + 1) fl (Fl_22 fl S a1 a2 a3 a4 a5 a6) := by
  obtain ⟨d, A, rn, m', h0, hK, hB, hm', s⟩ := h.b0
  obtain ⟨g1, g2⟩ := o_22 h0 a1 a2 a3 a4 a5 a6
  exact ⟨g1, h.item h0 hK hB hm' s g2⟩
theorem i_32 {m : Nat} {fl : Nat → Nat} {S : Nat → Nat → Int32} (hm : m < 512) (h : zInv m fl S) (a1 a2 a3 a4 a5 a6 : Int32) : Sl_32 fl S a1 a2 a3 a4 a5 a6 ∧ zInv (m + 1) fl (Fl_32 fl S a1 a2 a3 a4 a5 a6) := by
  obtain ⟨d, A, rn, m', h0, hK, hB, hm', s⟩ := h.b0
  obtain ⟨g1, g2⟩ := o_32 h0 a1 a2 a3 a4 a5 a6
  exact ⟨g1, h.item h0 hK hB hm' s g2⟩
theorem i_17 {m : Nat} {fl : Nat → Nat} {S : Nat → Nat → Int32} (hm : m < 512) (h : zInv m fl S) (a1 a2 a3 a4 a5 a6 : Int32) : Sl_17 fl S a1 a2 a3 a4 a5 a6 ∧ zInv (m + 1) fl (Fl_17 fl S a1 a2 a3 a4 a5 a6) := by
  obtain ⟨d, A, rn, m', h0, hK, hB, hm', s⟩ := h.b0
  obtain ⟨g1, g2⟩ := o_17 h0 h.1.1.2.2.2.1 a1 a2 a3 a4 a5 a6
  exact ⟨g1, h.item h0 hK hB hm' s g2⟩
theorem i_27 {m : Nat} {fl : Nat → Nat} {S : Nat → Nat → Int32} (hm : m < 512) (h : zInv m fl S) (a1 a2 a3 a4 a5 a6 : Int32) : Sl_27 fl S a1 a2 a3 a4 a5 a6 ∧ zInv (m + 1) fl (Fl_27 fl S a1 a2 a3 a4 a5 a6) := by
  obtain ⟨d, A, rn, m', h0, hK, hB, hm', s⟩ := h.b0
  obtain ⟨g1, g2⟩ := o_27 h0 h.1.1.2.2.1 h.1.1.2.2.2.2.1 a1 a2 a3 a4 a5 a6
  exact ⟨g1, h.still g2 (by decide +kernel) (by decide +kernel)⟩
theorem i_28 {m : Nat} {fl : Nat → Nat} {S : Nat → Nat → Int32} (hm : m < 512) (h : zInv m fl S) (a1 a2 a3 a4 a5 a6 : Int32) : Sl_28 fl S a1 a2 a3 a4 a5 a6 ∧ zInv (m + 1) fl (Fl_28 fl S a1 a2 a3 a4 a5 a6) := by
  obtain ⟨d, A, rn, m', h0, hK, hB, hm', s⟩ := h.b0
  obtain ⟨g1, g2⟩ := o_28 h0 h.1.1.2.2.1 h.1.1.2.2.2.2.1 a1 a2 a3 a4 a5 a6
  exact ⟨g1, h.still g2 (by decide +kernel) (by decide +kernel)⟩
theorem i_29 {m : Nat} {fl : Nat → Nat} {S : Nat → Nat → Int32} (hm : m < 512) (h : zInv m fl S) (a1 a2 a3 a4 a5 a6 : Int32) : Sl_29 fl S a1 a2 a3 a4 a5 a6 ∧ zInv (m + 1) fl (Fl_29 fl S a1 a2 a3 a4 a5 a6) := by
  obtain ⟨d, A, rn, m', h0, hK, hB, hm', s⟩ := h.b0
  obtain ⟨g1, g2⟩ := o_29 h0 h.1.1.2.2.1 h.1.1.2.2.2.2.1 a1 a2 a3 a4 a5 a6
  exact ⟨g1, h.still g2 (by decide +kernel) (by decide +kernel)⟩
theorem i_30 {m : Nat} {fl : Nat → Nat} {S : Nat → Nat → Int32} (hm : m < 512) (h : zInv m fl S) (a1 a2 a3 a4 a5 a6 : Int32) : Sl_30 fl S a1 a2 a3 a4 a5 a6 ∧ zInv (m + 1) fl (Fl_30 fl S a1 a2 a3 a4 a5 a6) := by
  obtain ⟨d, A, rn, m', h0, hK, hB, hm', s⟩ := h.b0
  obtain ⟨g1, g2⟩ := o_30 h0 a1 a2 a3 a4 a5 a6
  exact ⟨g1, h.still g2 (by decide +kernel) (by decide +kernel)⟩
theorem i_31 {m : Nat} {fl : Nat → Nat} {S : Nat → Nat → Int32} (hm : m < 512) (h : zInv m fl S) (a1 a2 a3 a4 a5 a6 : Int32) : Sl_31 fl S a1 a2 a3 a4 a5 a6 ∧ zInv (m + 1) fl (Fl_31 fl S a1 a2 a3 a4 a5 a6) := by
  obtain ⟨d, A, rn, m', h0, hK, hB, hm', s⟩ := h.b0
  obtain ⟨g1, g2⟩ := o_31 h0 a1 a2 a3 a4 a5 a6
  exact ⟨g1, h.still g2 (by decide +kernel) (by decide +kernel)⟩
theorem i_33 {m : Nat} {fl : Nat → Nat} {S : Nat → Nat → Int32} (hm : m < 512) (h : zInv m fl S) (a1 a2 a3 a4 a5 a6 : Int32) : Sl_33 fl S a1 a2 a3 a4 a5 a6 ∧ zInv (m + 1) fl (Fl_33 fl S a1 a2 a3 a4 a5 a6) := by
  obtain ⟨d, A, rn, m', h0, hK, hB, hm', s⟩ := h.b0
  obtain ⟨g1, g2⟩ := o_33 h0 hK a1 a2 a3 a4 a5 a6
  exact ⟨g1, h.still g2 (by decide +kernel) (by decide +kernel)⟩
theorem i_34 {m : Nat} {fl : Nat → Nat} {S : Nat → Nat → Int32} (hm : m < 512) (h : zInv m fl S) (a1 a2 a3 a4 a5 a6 : Int32) : Sl_34 fl S a1 a2 a3 a4 a5 a6 ∧ zInv (m + 1) fl (Fl_34 fl S a1 a2 a3 a4 a5 a6) := by
  obtain ⟨d, A, rn, m', h0, hK, hB, hm', s⟩ := h.b0
  obtain ⟨g1, g2⟩ := o_34 h0 h.1.1.2.2.1 h.1.2.2 a1 a2 a3 a4 a5 a6
  exact ⟨g1, h.still g2 (by decide +kernel) (by decide +kernel)⟩
theorem i_38 {m : Nat} {fl : Nat → Nat} {S : Nat → Nat → Int32} (hm : m < 512) (h : zInv m fl S) (a1 a2 a3 a4 a5 a6 : Int32) : Sl_38 fl S a1 a2 a3 a4 a5 a6 ∧ zInv (m + 1) fl (Fl_38 fl S a1 a2 a3 a4 a5 a6) := by
  obtain ⟨d, A, rn, m', h0, hK, hB, hm', s⟩ := h.b0
  obtain ⟨g1, g2⟩ := o_38 h0 h.1.2.2.1 a1 a2 a3 a4 a5 a6
  exact ⟨g1, h.still g2 (by decide +kernel) (by decide +kernel)⟩
theorem i_39 {m : Nat} {fl : Nat → Nat} {S : Nat → Nat → Int32} (hm : m < 512) (h : zInv m fl S) (a1 a2 a3 a4 a5 a6 : Int32) : Sl_39 fl S a1 a2 a3 a4 a5 a6 ∧ zInv (m + 1) fl (Fl_39 fl S a1 a2 a3 a4 a5 a6) := by
  obtain ⟨d, A, rn, m', h0, hK, hB, hm', s⟩ := h.b0
  obtain ⟨g1, g2⟩ := o_39 h0 h.1.2.2.1 a1 a2 a3 a4 a5 a6
  exact ⟨g1, h.still g2 (by decide +kernel) (by decide +kernel)⟩
theorem i_26 {m : Nat} {fl : Nat → Nat} {S : Nat → Nat → Int32} (hm : m < 512) (h : zInv m fl S) (a1 a2 a3 a4 a5 a6 : Int32) : Sl_26 fl S a1 a2 a3 a4 a5 a6 ∧ zInv (m + 1) fl (Fl_26 fl S a1 a2 a3 a4 a5 a6) := by
  obtain ⟨g1, g2⟩ := o_26 fl a1 a2 a3 a4 a5 a6 h.1.1.2.2.2.2.1
  exact ⟨g1, h.still g2 (by decide +kernel) (by decide +kernel)⟩
theorem i_6 {m : Nat} {fl : Nat → Nat} {S : Nat → Nat → Int32} (hm : m < 512) (h : zInv m fl S) (a1 a2 a3 a4 a5 a6 : Int32) : Sl_6 fl S a1 a2 a3 a4 a5 a6 ∧ zInv (m + 1) fl (Fl_6 fl S a1 a2 a3 a4 a5 a6) := by
  obtain ⟨d, A, rn, m', h0, hK, hB, hm', s⟩ := h.b0
  obtain ⟨g1, g2⟩ := o_6 fl a1 a2 a3 a4 a5 a6 (h0.c.1.size.trans h0.m.1.size.symm)
  exact ⟨g1, h.still g2 (by decide +kernel) (by decide +kernel)⟩
theorem i_1 {m : Nat} {fl : Nat → Nat} {S : Nat → Nat → Int32} (hm : m < 512) (h : zInv m fl S) (a1 a2 a3 a4 a5 a6 : Int32) : Sl_1 fl S a1 a2 a3 a4 a5 a6 ∧ zInv (m + 1) fl (Fl_1 fl S a1 a2 a3 a4 a5 a6) := by
  obtain ⟨g1, g2, g3⟩ := o_1 fl a1 a2 a3 a4 a5 a6 h.1.1.1
  exact ⟨g1, zInv.up ⟨h.1.chA g2 g3 (by decide +kernel) (by decide +kernel) (by decide +kernel) (by decide +kernel) (by decide +kernel) (by decide +kernel), h.2.keep (g3.ag (by decide +kernel))⟩⟩
theorem i_2 {m : Nat} {fl : Nat → Nat} {S : Nat → Nat → Int32} (hm : m < 512) (h : zInv m fl S) (a1 a2 a3 a4 a5 a6 : Int32) : Sl_2 fl S a1 a2 a3 a4 a5 a6 ∧ zInv (m + 1) fl (Fl_2 fl S a1 a2 a3 a4 a5 a6) := by
  obtain ⟨g1, g2, g3⟩ := o_2 fl a1 a2 a3 a4 a5 a6 h.1.1.1
  exact ⟨g1, zInv.up ⟨h.1.chA g2 g3 (by decide +kernel) (by decide +kernel) (by decide +kernel) (by decide +kernel) (by decide +kernel) (by decide +kernel), h.2.keep (g3.ag (by decide +kernel))⟩⟩
theorem i_3 {m : Nat} {fl : Nat → Nat} {S : Nat → Nat → Int32} (hm : m < 512) (h : zInv m fl S) (a1 a2 a3 a4 a5 a6 : Int32) : Sl_3 fl S a1 a2 a3 a4 a5 a6 ∧ zInv (m + 1) fl (Fl_3 fl S a1 a2 a3 a4 a5 a6) := by
  obtain ⟨g1, g2, g3⟩ := o_3 fl a1 a2 a3 a4 a5 a6 h.1.1.1
  exact ⟨g1, zInv.up ⟨h.1.chA g2 g3 (by decide +kernel) (by decide +kernel) (by decide +kernel) (by decide +kernel) (by decide +kernel) (by decide +kernel), h.2.keep (g3.ag (by decide +kernel))⟩⟩
theorem i_8 {m : Nat} {fl : Nat → Nat} {S : Nat → Nat → Int32} (hm : m < 512) (h : zInv m fl S) (a1 a2 a3 a4 a5 a6 : Int32) : Sl_8 fl S a1 a2 a3 a4 a5 a6 ∧ zInv (m + 1) fl (Fl_8 fl S a1 a2 a3 a4 a5 a6) := by
  obtain ⟨g1, g2, g3⟩ := o_8 fl a1 a2 a3 a4 a5 a6 h.1.1.2.2.2.1
  exact ⟨g1, zInv.up ⟨h.1.chF g2 g3 (by decide +kernel) (by decide +kernel) (by decide +kernel) (by decide +kernel) (by decide +kernel) (by decide +kernel), h.2.keep (g3.ag (by decide +kernel))⟩⟩
theorem i_9 {m : Nat} {fl : Nat → Nat} {S : Nat → Nat → Int32} (hm : m < 512) (h : zInv m fl S) (a1 a2 a3 a4 a5 a6 : Int32) : Sl_9 fl S a1 a2 a3 a4 a5 a6 ∧ zInv (m + 1) fl (Fl_9 fl S a1 a2 a3 a4 a5 a6) := by
  obtain ⟨g1, g2, g3⟩ := o_9 fl a1 a2 a3 a4 a5 a6 h.1.1.2.2.2.1
  exact ⟨g1, zInv.up ⟨h.1.chF g2 g3 (by decide +kernel) (by decide +kernel) (by decide +kernel) (by decide +kernel) (by decide +kernel) (by decide +kernel), h.2.keep (g3.ag (by decide +kernel))⟩⟩
theorem i_10 {m : Nat} {fl : Nat → Nat} {S : Nat → Nat → Int32} (hm : m < 512) (h : zInv m fl S) (a1 a2 a3 a4 a5 a6 : Int32) : Sl_10 fl S a1 a2 a3 a4 a5 a6 ∧ zInv (m + 1) fl (Fl_10 fl S a1 a2 a3 a4 a5 a6) := by
  obtain ⟨g1, g2, g3⟩ := o_10 fl a1 a2 a3 a4 a5 a6 h.1.1.2.2.2.1
  exact ⟨g1, zInv.up ⟨h.1.chF g2 g3 (by decide +kernel) (by decide +kernel) (by decide +kernel) (by decide +kernel) (by decide +kernel) (by decide +kernel), h.2.keep (g3.ag (by decide +kernel))⟩⟩
theorem i_11 {m : Nat} {fl : Nat → Nat} {S : Nat → Nat → Int32} (hm : m < 512) (h : zInv m fl S) (a1 a2 a3 a4 a5 a6 : Int32) : Sl_11 fl S a1 a2 a3 a4 a5 a6 ∧ zInv (m + 1) fl (Fl_11 fl S a1 a2 a3 a4 a5 a6) := by
  obtain ⟨g1, g2, g3⟩ := o_11 fl a1 a2 a3 a4 a5 a6 h.1.1.2.2.2.1
  exact ⟨g1, zInv.up ⟨h.1.chF g2 g3 (by decide +kernel) (by decide +kernel) (by decide +kernel) (by decide +kernel) (by decide +kernel) (by decide +kernel), h.2.keep (g3.ag (by decide +kernel))⟩⟩
theorem i_24 {m : Nat} {fl : Nat → Nat} {S : Nat → Nat → Int32} (hm : m < 512) (h : zInv m fl S) (a1 a2 a3 a4 a5 a6 : Int32) : Sl_24 fl S a1 a2 a3 a4 a5 a6 ∧ zInv (m + 1) fl (Fl_24 fl S a1 a2 a3 a4 a5 a6) := by
  obtain ⟨g1, g2, g3⟩ := o_24 fl a1 a2 a3 a4 a5 a6 h.1.1.2.2.2.2.1
  exact ⟨g1, zInv.up ⟨h.1.chQ g2 g3 (by decide +kernel) (by decide +kernel) (by decide +kernel) (by decide +kernel) (by decide +kernel) (by decide +kernel), h.2.keep (g3.ag (by decide +kernel))⟩⟩
theorem i_25 {m : Nat} {fl : Nat → Nat} {S : Nat → Nat → Int32} (hm : m < 512) (h : zInv m fl S) (a1 a2 a3 a4 a5 a6 : Int32) : Sl_25 fl S a1 a2 a3 a4 a5 a6 ∧ zInv (m + 1) fl (Fl_25 fl S a1 a2 a3 a4 a5 a6) := by
  obtain ⟨g1, g2, g3⟩ := o_25 fl a1 a2 a3 a4 a5 a6 h.1.1.2.2.2.2.1
  exact ⟨g1, zInv.up ⟨h.1.chQ g2 g3 (by decide +kernel) (by decide +kernel) (by decide +kernel) (by decide +kernel) (by decide +kernel) (by decide +kernel), h.2.keep (g3.ag (by decide +kernel))⟩⟩
theorem i_35 {m : Nat} {fl : Nat → Nat} {S : Nat → Nat → Int32} (hm : m < 512) (h : zInv m fl S) (a1 a2 a3 a4 a5 a6 : Int32) : Sl_35 fl S a1 a2 a3 a4 a5 a6 ∧ zInv (m + 1) fl (Fl_35 fl S a1 a2 a3 a4 a5 a6) := by
  obtain ⟨g1, g2, g3⟩ := o_35 fl a1 a2 a3 a4 a5 a6 h.1.1.2.2.2.2.2.1
  exact ⟨g1, zInv.up ⟨h.1.chR g2 g3 (by decide +kernel) (by decide +kernel) (by decide +kernel) (by decide +kernel) (by decide +kernel) (by decide +kernel), h.2.keep (g3.ag (by decide +kernel))⟩⟩
theorem i_36 {m : Nat} {fl : Nat → Nat} {S : Nat → Nat → Int32} (hm : m < 512) (h : zInv m fl S) (a1 a2 a3 a4 a5 a6 : Int32) : Sl_36 fl S a1 a2 a3 a4 a5 a6 ∧ zInv (m + 1) fl (Fl_36 fl S a1 a2 a3 a4 a5 a6) := by
  obtain ⟨g1, g2, g3⟩ := o_36 fl a1 a2 a3 a4 a5 a6 h.1.1.2.2.2.2.2.1
  exact ⟨g1, zInv.up ⟨h.1.chR g2 g3 (by decide +kernel) (by decide +kernel) (by decide +kernel) (by decide +kernel) (by decide +kernel) (by decide +kernel), h.2.keep (g3.ag (by decide +kernel))⟩⟩
theorem i_5 {m : Nat} {fl : Nat → Nat} {S : Nat → Nat → Int32} (hm : m < 512) (h : zInv m fl S) (a1 a2 a3 a4 a5 a6 : Int32) : Sl_5 fl S a1 a2 a3 a4 a5 a6 ∧ zInv (m + 1) fl (Fl_5 fl S a1 a2 a3 a4 a5 a6) := by
  obtain ⟨d, A, rn, m', h0, hK, hB, hm', s⟩ := h.b0
  obtain ⟨g1, g2, g3, g4⟩ := o_5 fl a1 a2 a3 a4 a5 a6 (h0.c.1.size.trans h0.m.1.size.symm)
  exact ⟨g1, zInv.up ⟨h.1.chI g2 g3 (by decide +kernel) (by decide +kernel) (by decide +kernel) (by decide +kernel) (by decide +kernel) (by decide +kernel), h.2.keep (g3.ag (by decide +kernel))⟩⟩
theorem i_43 {m : Nat} {fl : Nat → Nat} {S : Nat → Nat → Int32} (hm : m < 512) (h : zInv m fl S) (a1 a2 a3 a4 a5 a6 : Int32) : Sl_43 fl S a1 a2 a3 a4 a5 a6 ∧ zInv (m + 1) fl (Fl_43 fl S a1 a2 a3 a4 a5 a6) := by
  obtain ⟨d, A, rn, m', h0, hK, hB, hm', s⟩ := h.b0
  obtain ⟨g1, g2, g3⟩ := o_43 h0 h.1.1.2.2.2.2.2.2 a1 a2 a3 a4 a5 a6
  exact ⟨g1, zInv.up ⟨h.1.chW g3 g2 (by decide +kernel) (by decide +kernel) (by decide +kernel) (by decide +kernel) (by decide +kernel) (by decide +kernel), h.2.keep (g2.ag (by decide +kernel))⟩⟩
theorem i_44 {m : Nat} {fl : Nat → Nat} {S : Nat → Nat → Int32} (hm : m < 512) (h : zInv m fl S) (a1 a2 a3 a4 a5 a6 : Int32) : Sl_44 fl S a1 a2 a3 a4 a5 a6 ∧ zInv (m + 1) fl (Fl_44 fl S a1 a2 a3 a4 a5 a6) := by
  obtain ⟨d, A, rn, m', h0, hK, hB, hm', s⟩ := h.b0
  obtain ⟨g1, g2, g3⟩ := o_44 h0 h.1.1.2.2.2.2.2.2 a1 a2 a3 a4 a5 a6
  exact ⟨g1, zInv.up ⟨h.1.chW g3 g2 (by decide +kernel) (by decide +kernel) (by decide +kernel) (by decide +kernel) (by decide +kernel) (by decide +kernel), h.2.keep (g2.ag (by decide +kernel))⟩⟩
