theorem z_ni {w : Cond} (i : Nat) (h : lw_tbl[i]? = some w) (g : z_isN w = true) : w ∈ z_NB := List.mem_filter.mpr ⟨List.mem_of_getElem? h, g⟩
theorem z_wi {w : Cond} (i : Nat) (h : lw_tbl[i]? = some w) (g : goodWord w = true) : w ∈ z_WB := z_inWB (List.mem_of_getElem? h) g
def z_fokb (own : String) (x : (Nat × Nat × Nat × Nat) × Nat × Option String) : Bool := match vwCl[x.1.2.1]? with
  | some r => decide (x.1.2.2.1 < r.2.2) && decide (x.1.2.2.2 = z_kd (r.2.1 x.1.2.2.1).2.2.1 + (if (r.2.1 x.1.2.2.1).2.2.2 = true then 4 else 0)) && decide ((r.2.1 x.1.2.2.1).1 = r.1) && (match x.2.2 with
    | none => decide (lw_tbl[x.2.1]? = some (Cond.fieldLink own x.1.1 r.1 (r.2.1 x.1.2.2.1).2.1 (r.2.1 x.1.2.2.1).2.2.1)) && goodWord (Cond.fieldLink own x.1.1 r.1 (r.2.1 x.1.2.2.1).2.1 (r.2.1 x.1.2.2.1).2.2.1)
    | some h => decide (lw_tbl[x.2.1]? = some (Cond.fieldLinkNest own x.1.1 r.1 (r.2.1 x.1.2.2.1).2.1 (r.2.1 x.1.2.2.1).2.2.1 h)) && z_isN (Cond.fieldLinkNest own x.1.1 r.1 (r.2.1 x.1.2.2.1).2.1 (r.2.1 x.1.2.2.1).2.2.1 h))
  | none => false
theorem z_fokb_ok {own : String} {x : (Nat × Nat × Nat × Nat) × Nat × Option String} (h : z_fokb own x = true) : z_fok own x.1 := by
  unfold z_fokb at h
  split at h
  · rename_i r hr
    simp only [Bool.and_eq_true, decide_eq_true_eq] at h
    obtain ⟨⟨⟨h1, h2⟩, h3⟩, h4⟩ := h
    refine ⟨r, hr, h1, h2, h3, ?_⟩
    split at h4
    · simp only [Bool.and_eq_true, decide_eq_true_eq] at h4
      exact Or.inl (z_wi _ h4.1 h4.2)
    · simp only [Bool.and_eq_true, decide_eq_true_eq] at h4
      exact Or.inr ⟨_, z_ni _ h4.1 h4.2⟩
  · cases h
theorem z_foks {own : String} (xs : List ((Nat × Nat × Nat × Nat) × Nat × Option String)) (h : xs.all (fun x => z_fokb own x) = true) : ∀ q ∈ xs.map (fun x => x.1), z_fok own q := by
  intro q hq
  obtain ⟨x, hx, rfl⟩ := List.mem_map.mp hq
  exact z_fokb_ok (List.all_eq_true.mp h x hx)

abbrev zf_T : List (Nat × Nat × Nat × Nat) := [(12, 11, 0, 5), (19, 11, 1, 5), (23, 11, 2, 5), (29, 11, 3, 5), (33, 1, 1, 5), (37, 11, 4, 5), (38, 1, 2, 5), (42, 11, 5, 5), (43, 1, 3, 5), (47, 11, 6, 5), (48, 8, 6, 5), (54, 11, 7, 5), (58, 11, 8, 5), (65, 11, 9, 5), (72, 11, 10, 5), (79, 11, 11, 5), (83, 11, 12, 5), (87, 11, 13, 5), (90, 11, 14, 0), (94, 11, 15, 0), (118, 4, 7, 0), (131, 8, 0, 5), (138, 8, 1, 5), (145, 8, 2, 5), (151, 8, 3, 5), (160, 3, 0, 5), (165, 3, 1, 5), (168, 3, 2, 5), (171, 2, 4, 0), (178, 2, 0, 5), (197, 2, 1, 5), (282, 5, 7, 0), (313, 4, 0, 5), (316, 4, 2, 5), (319, 4, 3, 5), (322, 4, 6, 5), (325, 4, 5, 5), (346, 9, 0, 5), (361, 7, 8, 0), (460, 7, 2, 5), (469, 7, 3, 5), (472, 7, 4, 5), (475, 7, 5, 5), (480, 7, 6, 5), (481, 7, 7, 5)]
set_option maxRecDepth 100000 in
theorem zf_T_ok : ∀ q ∈ zf_T, z_fok "TrackHouse" q := z_foks (own := "TrackHouse") [((12, 11, 0, 5), 468, none), ((19, 11, 1, 5), 469, none), ((23, 11, 2, 5), 470, none), ((29, 11, 3, 5), 471, none), ((33, 1, 1, 5), 349, some "TrackHouse"), ((37, 11, 4, 5), 472, none), ((38, 1, 2, 5), 351, some "TrackHouse"), ((42, 11, 5, 5), 473, none), ((43, 1, 3, 5), 353, some "TrackHouse"), ((47, 11, 6, 5), 474, none), ((48, 8, 6, 5), 321, some "TrackHouse"), ((54, 11, 7, 5), 475, none), ((58, 11, 8, 5), 476, none), ((65, 11, 9, 5), 477, none), ((72, 11, 10, 5), 478, none), ((79, 11, 11, 5), 479, none), ((83, 11, 12, 5), 480, none), ((87, 11, 13, 5), 481, none), ((90, 11, 14, 0), 482, none), ((94, 11, 15, 0), 483, none), ((118, 4, 7, 0), 140, some "TrackHouse"), ((131, 8, 0, 5), 311, some "TrackHouse"), ((138, 8, 1, 5), 313, some "TrackHouse"), ((145, 8, 2, 5), 315, some "TrackHouse"), ((151, 8, 3, 5), 317, some "TrackHouse"), ((160, 3, 0, 5), 284, some "TrackHouse"), ((165, 3, 1, 5), 286, some "TrackHouse"), ((168, 3, 2, 5), 290, some "TrackHouse"), ((171, 2, 4, 0), 377, some "TrackHouse"), ((178, 2, 0, 5), 371, some "TrackHouse"), ((197, 2, 1, 5), 373, some "TrackHouse"), ((282, 5, 7, 0), 203, some "TrackHouse"), ((313, 4, 0, 5), 118, some "TrackHouse"), ((316, 4, 2, 5), 124, some "TrackHouse"), ((319, 4, 3, 5), 128, some "TrackHouse"), ((322, 4, 6, 5), 137, some "TrackHouse"), ((325, 4, 5, 5), 133, some "TrackHouse"), ((346, 9, 0, 5), 245, some "TrackHouse"), ((361, 7, 8, 0), 410, some "TrackHouse"), ((460, 7, 2, 5), 398, some "TrackHouse"), ((469, 7, 3, 5), 400, some "TrackHouse"), ((472, 7, 4, 5), 402, some "TrackHouse"), ((475, 7, 5, 5), 404, some "TrackHouse"), ((480, 7, 6, 5), 406, some "TrackHouse"), ((481, 7, 7, 5), 408, some "TrackHouse")] (by decide +kernel)
abbrev zf_Bulks : List (Nat × Nat × Nat × Nat) := [(9, 0, 0, 5), (15, 0, 1, 5), (18, 0, 2, 5), (21, 0, 3, 5), (24, 0, 4, 0)]
set_option maxRecDepth 100000 in
theorem zf_Bulks_ok : ∀ q ∈ zf_Bulks, z_fok "TrackHouse$Bulks" q := z_foks (own := "TrackHouse$Bulks") [((9, 0, 0, 5), 452, none), ((15, 0, 1, 5), 453, none), ((18, 0, 2, 5), 454, none), ((21, 0, 3, 5), 455, none), ((24, 0, 4, 0), 456, none)] (by decide +kernel)
abbrev zf_Finder : List (Nat × Nat × Nat × Nat) := [(9, 1, 0, 5), (18, 1, 1, 5), (25, 1, 2, 5), (32, 1, 3, 5), (36, 5, 8, 0), (40, 5, 1, 5), (55, 5, 2, 5), (66, 8, 8, 0), (69, 9, 0, 5), (73, 10, 3, 0), (101, 5, 4, 5), (104, 5, 3, 5), (107, 9, 1, 5), (114, 9, 4, 5), (117, 9, 5, 0), (120, 9, 3, 5)]
set_option maxRecDepth 100000 in
theorem zf_Finder_ok : ∀ q ∈ zf_Finder, z_fok "TrackHouse$Finder" q := z_foks (own := "TrackHouse$Finder") [((9, 1, 0, 5), 347, none), ((18, 1, 1, 5), 348, none), ((25, 1, 2, 5), 350, none), ((32, 1, 3, 5), 352, none), ((36, 5, 8, 0), 205, some "TrackHouse"), ((40, 5, 1, 5), 193, some "TrackHouse"), ((55, 5, 2, 5), 195, some "TrackHouse"), ((66, 8, 8, 0), 324, some "TrackHouse"), ((69, 9, 0, 5), 244, some "TrackHouse"), ((73, 10, 3, 0), 169, some "TrackHouse"), ((101, 5, 4, 5), 199, some "TrackHouse"), ((104, 5, 3, 5), 197, some "TrackHouse"), ((107, 9, 1, 5), 247, some "TrackHouse"), ((114, 9, 4, 5), 252, some "TrackHouse"), ((117, 9, 5, 0), 254, some "TrackHouse"), ((120, 9, 3, 5), 250, some "TrackHouse")] (by decide +kernel)
abbrev zf_Flows : List (Nat × Nat × Nat × Nat) := [(9, 2, 0, 5), (15, 2, 1, 5), (18, 2, 2, 5), (21, 2, 3, 5), (24, 2, 4, 0)]
set_option maxRecDepth 100000 in
theorem zf_Flows_ok : ∀ q ∈ zf_Flows, z_fok "TrackHouse$Flows" q := z_foks (own := "TrackHouse$Flows") [((9, 2, 0, 5), 370, none), ((15, 2, 1, 5), 372, none), ((18, 2, 2, 5), 374, none), ((21, 2, 3, 5), 375, none), ((24, 2, 4, 0), 376, none)] (by decide +kernel)
abbrev zf_Kinds : List (Nat × Nat × Nat × Nat) := [(9, 3, 0, 5), (15, 3, 1, 5), (18, 3, 2, 5), (21, 3, 3, 5), (24, 3, 4, 5), (27, 3, 5, 5)]
set_option maxRecDepth 100000 in
theorem zf_Kinds_ok : ∀ q ∈ zf_Kinds, z_fok "TrackHouse$Kinds" q := z_foks (own := "TrackHouse$Kinds") [((9, 3, 0, 5), 283, none), ((15, 3, 1, 5), 285, none), ((18, 3, 2, 5), 288, none), ((21, 3, 3, 5), 291, none), ((24, 3, 4, 5), 292, none), ((27, 3, 5, 5), 293, none)] (by decide +kernel)
abbrev zf_Log : List (Nat × Nat × Nat × Nat) := [(9, 4, 0, 5), (15, 4, 1, 5), (18, 4, 2, 5), (21, 4, 3, 5), (24, 4, 4, 5), (27, 4, 5, 5), (30, 4, 6, 5), (33, 4, 7, 0)]
set_option maxRecDepth 100000 in
theorem zf_Log_ok : ∀ q ∈ zf_Log, z_fok "TrackHouse$Log" q := z_foks (own := "TrackHouse$Log") [((9, 4, 0, 5), 116, none), ((15, 4, 1, 5), 119, none), ((18, 4, 2, 5), 121, none), ((21, 4, 3, 5), 125, none), ((24, 4, 4, 5), 129, none), ((27, 4, 5, 5), 131, none), ((30, 4, 6, 5), 134, none), ((33, 4, 7, 0), 138, none)] (by decide +kernel)
abbrev zf_Query : List (Nat × Nat × Nat × Nat) := [(9, 5, 0, 5), (15, 5, 1, 5), (19, 5, 2, 5), (22, 5, 3, 5), (25, 5, 4, 5), (28, 5, 5, 5), (31, 5, 6, 5), (34, 5, 7, 0), (38, 5, 8, 0), (41, 5, 9, 0), (44, 5, 10, 0), (47, 5, 11, 2)]
set_option maxRecDepth 100000 in
theorem zf_Query_ok : ∀ q ∈ zf_Query, z_fok "TrackHouse$Query" q := z_foks (own := "TrackHouse$Query") [((9, 5, 0, 5), 191, none), ((15, 5, 1, 5), 192, none), ((19, 5, 2, 5), 194, none), ((22, 5, 3, 5), 196, none), ((25, 5, 4, 5), 198, none), ((28, 5, 5, 5), 200, none), ((31, 5, 6, 5), 201, none), ((34, 5, 7, 0), 202, none), ((38, 5, 8, 0), 204, none), ((41, 5, 9, 0), 206, none), ((44, 5, 10, 0), 207, none), ((47, 5, 11, 2), 208, none)] (by decide +kernel)
abbrev zf_Ranks : List (Nat × Nat × Nat × Nat) := [(9, 6, 0, 5), (15, 6, 1, 5), (18, 6, 2, 0)]
set_option maxRecDepth 100000 in
theorem zf_Ranks_ok : ∀ q ∈ zf_Ranks, z_fok "TrackHouse$Ranks" q := z_foks (own := "TrackHouse$Ranks") [((9, 6, 0, 5), 436, none), ((15, 6, 1, 5), 437, none), ((18, 6, 2, 0), 438, none)] (by decide +kernel)
abbrev zf_Rules : List (Nat × Nat × Nat × Nat) := [(9, 7, 0, 5), (15, 7, 1, 5), (18, 7, 2, 5), (21, 7, 3, 5), (24, 7, 4, 5), (27, 7, 5, 5), (30, 7, 6, 5), (33, 7, 7, 5), (36, 7, 8, 0)]
set_option maxRecDepth 100000 in
theorem zf_Rules_ok : ∀ q ∈ zf_Rules, z_fok "TrackHouse$Rules" q := z_foks (own := "TrackHouse$Rules") [((9, 7, 0, 5), 395, none), ((15, 7, 1, 5), 396, none), ((18, 7, 2, 5), 397, none), ((21, 7, 3, 5), 399, none), ((24, 7, 4, 5), 401, none), ((27, 7, 5, 5), 403, none), ((30, 7, 6, 5), 405, none), ((33, 7, 7, 5), 407, none), ((36, 7, 8, 0), 409, none)] (by decide +kernel)
abbrev zf_Sight : List (Nat × Nat × Nat × Nat) := [(9, 8, 0, 5), (15, 8, 1, 5), (18, 8, 2, 5), (21, 8, 3, 5), (24, 8, 4, 5), (27, 8, 5, 5), (33, 8, 6, 5), (40, 8, 7, 1), (44, 8, 8, 0), (48, 8, 9, 0), (99, 3, 2, 5), (107, 3, 1, 5)]
set_option maxRecDepth 100000 in
theorem zf_Sight_ok : ∀ q ∈ zf_Sight, z_fok "TrackHouse$Sight" q := z_foks (own := "TrackHouse$Sight") [((9, 8, 0, 5), 310, none), ((15, 8, 1, 5), 312, none), ((18, 8, 2, 5), 314, none), ((21, 8, 3, 5), 316, none), ((24, 8, 4, 5), 318, none), ((27, 8, 5, 5), 319, none), ((33, 8, 6, 5), 320, none), ((40, 8, 7, 1), 322, none), ((44, 8, 8, 0), 323, none), ((48, 8, 9, 0), 325, none), ((99, 3, 2, 5), 289, some "TrackHouse"), ((107, 3, 1, 5), 287, some "TrackHouse")] (by decide +kernel)
abbrev zf_View : List (Nat × Nat × Nat × Nat) := [(12, 9, 0, 5), (18, 9, 1, 5), (22, 9, 2, 5), (25, 9, 3, 5), (28, 9, 4, 5), (31, 9, 5, 0), (38, 4, 7, 0), (43, 4, 0, 5), (54, 4, 2, 5), (57, 4, 3, 5), (64, 4, 1, 5), (79, 4, 6, 5)]
set_option maxRecDepth 100000 in
theorem zf_View_ok : ∀ q ∈ zf_View, z_fok "TrackHouse$View" q := z_foks (own := "TrackHouse$View") [((12, 9, 0, 5), 243, none), ((18, 9, 1, 5), 246, none), ((22, 9, 2, 5), 248, none), ((25, 9, 3, 5), 249, none), ((28, 9, 4, 5), 251, none), ((31, 9, 5, 0), 253, none), ((38, 4, 7, 0), 139, some "TrackHouse"), ((43, 4, 0, 5), 117, some "TrackHouse"), ((54, 4, 2, 5), 122, some "TrackHouse"), ((57, 4, 3, 5), 126, some "TrackHouse"), ((64, 4, 1, 5), 120, some "TrackHouse"), ((79, 4, 6, 5), 135, some "TrackHouse")] (by decide +kernel)
abbrev zf_World : List (Nat × Nat × Nat × Nat) := [(9, 10, 0, 5), (15, 10, 1, 5), (18, 10, 2, 5), (21, 10, 3, 0), (67, 4, 2, 5), (72, 4, 3, 5), (75, 4, 4, 5), (78, 4, 6, 5), (89, 4, 5, 5)]
set_option maxRecDepth 100000 in
theorem zf_World_ok : ∀ q ∈ zf_World, z_fok "TrackHouse$World" q := z_foks (own := "TrackHouse$World") [((9, 10, 0, 5), 165, none), ((15, 10, 1, 5), 166, none), ((18, 10, 2, 5), 167, none), ((21, 10, 3, 0), 168, none), ((67, 4, 2, 5), 123, some "TrackHouse"), ((72, 4, 3, 5), 127, some "TrackHouse"), ((75, 4, 4, 5), 130, some "TrackHouse"), ((78, 4, 6, 5), 136, some "TrackHouse"), ((89, 4, 5, 5), 132, some "TrackHouse")] (by decide +kernel)
