/-! PURE: bulk, the class: its shape, over any parts -/
abbrev zStt := Nat → Nat → Int32
theorem bulk_gen {RR : zStt → Int32 → zStt} {KK : Nat → zStt → Int32 → zStt} {HH : Nat → zStt → Int32 × zStt} {LL : Int32 → Int32 → Int32 → Int32 → Int32 → Nat → zStt → Int32 → Int32 → Int32 × zStt} {GG : zStt → Int32 → Int32 → Int32 × zStt} {PP : zStt → Int32 → Int32 → Int32 → Int32 → zStt} {V0 V1 V2 V3 V4 V5 Y : zStt} {D P F v x n e c y : Int32} {t : Bool} (r1 : RR V0 D = V1) (l1 : KK 28 V1 P = V2) (x1 : HH 28 V2 = (x, V3)) (e17 : V3 1 7 = n) (b1 : LL P F v x n 1300 V3 0 0 = (y, V4)) (s1 : GG V4 n P = (if t = true then 1 else 0, V5)) (e4 : V4 1 7 = e) (es : e - n = c) (ph : PP V5 P F n c = Y) :
    (z_let (RR V0 D) (fun S60 => (z_let (KK 28 S60 P) (fun S75 => (match HH 28 S75 with | (r82, S82) => (match LL P F v r82 (S82 1 7) 1300 S82 0 0 with | (y5_102, S102) => (match GG S102 (S82 1 7) P with | (r179, S179) => (if r179 = 0 then ((.inl "java/lang/IllegalStateException" : String ⊕ Int32), S179) else (z_let (PP S179 P F (S82 1 7) ((S102 1 7) - (S82 1 7))) (fun S195 => ((.inr (((100 : Int32) * ((S102 1 7) - (S82 1 7))) + y5_102) : String ⊕ Int32), S195)))))))))))
    = (if t = true then ((.inr ((100 : Int32) * c + y) : String ⊕ Int32), Y) else (.inl "java/lang/IllegalStateException", V5)) := by
  simp only [z_let, r1, l1, x1, e17, b1, s1, e4, es]
  cases t
  · simp only [Bool.false_eq_true, if_false, if_true]
  · simp only [if_true, if_neg ne_10, ph]
theorem bulk_genS {RR : zStt → Int32 → zStt} {KK : Nat → zStt → Int32 → zStt} {HH : Nat → zStt → Int32 × zStt} {LL : Int32 → Int32 → Int32 → Int32 → Int32 → Nat → zStt → Int32 → Int32 → Int32 × zStt} {sRR : zStt → Int32 → Prop} {sKK : Nat → zStt → Int32 → Prop} {sHH : Nat → zStt → Prop} {sLL : Int32 → Int32 → Int32 → Int32 → Int32 → Nat → zStt → Int32 → Int32 → Prop} {sGG : zStt → Int32 → Int32 → Prop} {V0 V1 V2 V3 V4 : zStt} {D P F v x n y : Int32} (r1 : RR V0 D = V1) (l1 : KK 28 V1 P = V2) (x1 : HH 28 V2 = (x, V3)) (e17 : V3 1 7 = n) (b1 : LL P F v x n 1300 V3 0 0 = (y, V4)) (r2 : sRR V0 D) (l2 : sKK 28 V1 P) (x2 : sHH 28 V2) (b2 : sLL P F v x n 1300 V3 0 0) (s2 : sGG V4 n P) :
    (sRR V0 D ∧ (z_let (RR V0 D) (fun S60 => (sKK 28 S60 P ∧ (z_let (KK 28 S60 P) (fun S75 => (sHH 28 S75 ∧ (match HH 28 S75 with | (r82, S82) => (sLL P F v r82 (S82 1 7) 1300 S82 0 0 ∧ (match LL P F v r82 (S82 1 7) 1300 S82 0 0 with | (_, S102) => (sGG S102 (S82 1 7) P ∧ True))))))))))) := by
  simp only [z_let, r1, l1, x1, e17, b1]
  exact ⟨r2, l2, x2, b2, s2, trivial⟩
