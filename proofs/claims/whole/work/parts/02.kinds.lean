def zALl : List (Nat × Int) := [(1, 0), (2, 0), (3, 0), (4, 0), (5, 0), (6, 0), (7, 0), (8, 0), (9, 0), (10, 0), (10, 1), (10, 2), (10, 3), (10, 4), (10, 5), (10, 6), (10, 7), (10, 8), (10, 9), (10, 10), (10, 11), (10, 12), (10, 13), (10, 14), (10, 15), (10, 16), (10, 17), (10, 18), (10, 19), (10, 20), (10, 21), (10, 22), (10, 23), (10, 24), (10, 25), (10, 26), (10, 27), (10, 28), (10, 29), (10, 30), (10, 31), (10, 32), (10, 33), (10, 34), (10, 35), (10, 36), (10, 37), (10, 38), (10, 39), (10, 40), (10, 41), (10, 42), (10, 43), (10, 44), (10, 45), (10, 46), (10, 47), (10, 48), (10, 49), (10, 50), (10, 51), (10, 52), (10, 53), (10, 54), (10, 55), (10, 56), (10, 57), (10, 58), (10, 59), (10, 60), (10, 61), (10, 62), (10, 63), (11, 0), (12, 0), (13, 0), (14, 0), (15, 0), (16, 0), (17, 0), (18, 0), (19, 0), (20, 0), (21, 0), (22, 0), (23, 0), (23, 1), (24, 0), (25, 0), (26, 0), (28, 0), (24, 1), (25, 1), (26, 1), (28, 1), (24, 2), (25, 2), (26, 2), (28, 2), (24, 3), (25, 3), (26, 3), (28, 3), (24, 4), (25, 4), (26, 4), (28, 4), (24, 5), (25, 5), (26, 5), (28, 5), (29, 0), (30, 0), (31, 0), (32, 0), (33, 0), (34, 0), (35, 0), (30, 1), (31, 1), (32, 1), (33, 1), (34, 1), (35, 1), (36, 0), (36, 1), (36, 2), (36, 3), (36, 4), (36, 5), (37, 0), (38, 0), (39, 0), (40, 0), (41, 0), (42, 0), (43, 0), (44, 0), (45, 0), (46, 0), (47, 0), (48, 0), (49, 0), (50, 0), (51, 0), (52, 0), (53, 0), (54, 0), (55, 0), (56, 0), (57, 0), (58, 0), (59, 0), (60, 0), (61, 0), (62, 0), (63, 0), (64, 0), (65, 0), (66, 0), (67, 0), (68, 0), (69, 0), (70, 0), (71, 0), (72, 0), (73, 0), (74, 0), (75, 0), (76, 0), (77, 0), (78, 0), (79, 0), (80, 0)]
def zAL (i : Nat) : Nat × Int := zALl.getD i (0, 0)
def zTOT : Nat := 174
def zObl : List Nat := [999, 0, 1, 2, 3, 4, 5, 6, 7, 8, 9, 73, 74, 75, 76, 77, 78, 79, 80, 81, 82, 83, 84, 85, 87, 88, 89, 999, 90, 111, 112, 113, 114, 115, 116, 117, 124, 130, 131, 132, 133, 134, 135, 136, 137, 138, 139, 140, 141, 142, 143, 144, 145, 146, 147, 148, 149, 150, 151, 152, 153, 154, 155, 156, 157, 158, 159, 160, 161, 162, 163, 164, 165, 166, 167, 168, 169, 170, 171, 172, 173]
def zOsl : List Nat := [0, 999, 999, 999, 999, 999, 999, 999, 999, 999, 1, 999, 999, 999, 999, 999, 999, 999, 999, 999, 999, 999, 999, 1, 4, 4, 4, 999, 4, 999, 6, 6, 6, 6, 6, 6, 1, 999, 999, 999, 999, 999, 999, 999, 999, 999, 999, 999, 999, 999, 999, 999, 999, 999, 999, 999, 999, 999, 999, 999, 999, 999, 999, 999, 999, 999, 999, 999, 999, 999, 999, 999, 999, 999, 999, 999, 999, 999, 999, 999, 999]
def zOff (k : Nat) (j : Int) : Nat := zObl.getD k 999 + zOsl.getD k 0 * j.toNat
def zShl : List (Nat ⊕ (Nat × Nat)) := [.inr (9, 0), .inl 11, .inl 7, .inr (1, 400), .inl 2, .inr (0, 256), .inr (0, 256), .inl 5, .inr (0, 64), .inr (4, 64), .inl 3, .inl 8, .inr (0, 60), .inr (0, 60), .inr (0, 60), .inr (0, 60), .inr (0, 60), .inl 1, .inr (3, 6), .inl 4, .inr (6, 4816), .inr (6, 16), .inr (6, 16), .inr (6, 16), .inl 0, .inl 6, .inr (0, 301), .inr (0, 301), .inr (0, 301), .inr (5, 6), .inl 10, .inr (0, 256), .inr (0, 256), .inr (0, 1024), .inr (0, 10), .inr (0, 6), .inl 9, .inl 12, .inr (1, 400), .inr (0, 512), .inr (0, 256), .inr (0, 256), .inr (0, 256), .inr (2, 256), .inr (0, 256), .inr (0, 64), .inr (0, 60), .inr (0, 60), .inr (0, 60), .inr (0, 60), .inr (0, 60), .inr (0, 1806), .inr (0, 6), .inr (0, 6), .inr (0, 6), .inr (0, 1806), .inr (0, 1806), .inr (2, 231168), .inr (2, 231168), .inr (0, 400), .inr (0, 400), .inr (0, 400), .inr (0, 400), .inr (0, 400), .inr (0, 400), .inr (0, 400), .inr (2, 6), .inr (0, 6), .inr (0, 6), .inr (0, 6), .inr (0, 6), .inr (2, 6), .inr (0, 6), .inr (0, 6), .inr (2, 6), .inr (0, 6), .inr (0, 6), .inr (0, 6), .inr (0, 6), .inr (0, 6), .inr (0, 6)]
def zSh (k : Nat) : Nat ⊕ (Nat × Nat) := zShl.getD k (.inr (9, 0))
/-- which fields of a kind of object hold references -/
def zRFl : List (List Bool) := [[true, false, false, false, false, false, false], [true, true, false, false, false], [true, true, false, false, false], [false, false, false, false, false, false, false], [true, true, true, true, true, true, true, false, false, false, false, false, false, false], [true, true, false, false, false, false], [true, true, false, false, false, false, false, false], [true, false], [true, true, true, true, true, false, false, false], [false, false, false, false, false, false], [true, true, true, true, true, false, false, false, false], [true, true, true, true, true, true, true, true, false, false, false], [false, true, false, false, false, false, false, true, true, false, false, true, true, false, false, true, true, false, true, false, false, false, true, true, true, true, true, true, true, true, true, true, true, true, true, false, false, false, true, true, true, true, true, true, true, true, true, true, true, true, true, true, true, false, true, true, true, true, true, true, true, false, false, false, false]]
def zRF (c s : Nat) : Bool := (zRFl.getD c []).getD s false
def zNF (c : Nat) : Nat := (zRFl.getD c []).length
theorem zTab : ∀ i, i < zTOT → zOff (zAL i).1 (zAL i).2 = i := by decide +kernel
theorem zSh_1 : zSh 1 = .inl 11 := rfl
theorem zSh_2 : zSh 2 = .inl 7 := rfl
theorem zSh_3 : zSh 3 = .inr (1, 400) := rfl
theorem zSh_4 : zSh 4 = .inl 2 := rfl
theorem zSh_5 : zSh 5 = .inr (0, 256) := rfl
theorem zSh_6 : zSh 6 = .inr (0, 256) := rfl
theorem zSh_7 : zSh 7 = .inl 5 := rfl
theorem zSh_8 : zSh 8 = .inr (0, 64) := rfl
theorem zSh_9 : zSh 9 = .inr (4, 64) := rfl
theorem zSh_10 : zSh 10 = .inl 3 := rfl
theorem zSh_11 : zSh 11 = .inl 8 := rfl
theorem zSh_12 : zSh 12 = .inr (0, 60) := rfl
theorem zSh_13 : zSh 13 = .inr (0, 60) := rfl
theorem zSh_14 : zSh 14 = .inr (0, 60) := rfl
theorem zSh_15 : zSh 15 = .inr (0, 60) := rfl
theorem zSh_16 : zSh 16 = .inr (0, 60) := rfl
theorem zSh_17 : zSh 17 = .inl 1 := rfl
theorem zSh_18 : zSh 18 = .inr (3, 6) := rfl
theorem zSh_19 : zSh 19 = .inl 4 := rfl
theorem zSh_20 : zSh 20 = .inr (6, 4816) := rfl
theorem zSh_21 : zSh 21 = .inr (6, 16) := rfl
theorem zSh_22 : zSh 22 = .inr (6, 16) := rfl
theorem zSh_23 : zSh 23 = .inr (6, 16) := rfl
theorem zSh_24 : zSh 24 = .inl 0 := rfl
theorem zSh_25 : zSh 25 = .inl 6 := rfl
theorem zSh_26 : zSh 26 = .inr (0, 301) := rfl
theorem zSh_27 : zSh 27 = .inr (0, 301) := rfl
theorem zSh_28 : zSh 28 = .inr (0, 301) := rfl
theorem zSh_29 : zSh 29 = .inr (5, 6) := rfl
theorem zSh_30 : zSh 30 = .inl 10 := rfl
theorem zSh_31 : zSh 31 = .inr (0, 256) := rfl
theorem zSh_32 : zSh 32 = .inr (0, 256) := rfl
theorem zSh_33 : zSh 33 = .inr (0, 1024) := rfl
theorem zSh_34 : zSh 34 = .inr (0, 10) := rfl
theorem zSh_35 : zSh 35 = .inr (0, 6) := rfl
theorem zSh_36 : zSh 36 = .inl 9 := rfl
theorem zSh_37 : zSh 37 = .inl 12 := rfl
theorem zSh_38 : zSh 38 = .inr (1, 400) := rfl
theorem zSh_39 : zSh 39 = .inr (0, 512) := rfl
theorem zSh_40 : zSh 40 = .inr (0, 256) := rfl
theorem zSh_41 : zSh 41 = .inr (0, 256) := rfl
theorem zSh_42 : zSh 42 = .inr (0, 256) := rfl
theorem zSh_43 : zSh 43 = .inr (2, 256) := rfl
theorem zSh_44 : zSh 44 = .inr (0, 256) := rfl
theorem zSh_45 : zSh 45 = .inr (0, 64) := rfl
theorem zSh_46 : zSh 46 = .inr (0, 60) := rfl
theorem zSh_47 : zSh 47 = .inr (0, 60) := rfl
theorem zSh_48 : zSh 48 = .inr (0, 60) := rfl
theorem zSh_49 : zSh 49 = .inr (0, 60) := rfl
theorem zSh_50 : zSh 50 = .inr (0, 60) := rfl
theorem zSh_51 : zSh 51 = .inr (0, 1806) := rfl
theorem zSh_52 : zSh 52 = .inr (0, 6) := rfl
theorem zSh_53 : zSh 53 = .inr (0, 6) := rfl
theorem zSh_54 : zSh 54 = .inr (0, 6) := rfl
theorem zSh_55 : zSh 55 = .inr (0, 1806) := rfl
theorem zSh_56 : zSh 56 = .inr (0, 1806) := rfl
theorem zSh_57 : zSh 57 = .inr (2, 231168) := rfl
theorem zSh_58 : zSh 58 = .inr (2, 231168) := rfl
theorem zSh_59 : zSh 59 = .inr (0, 400) := rfl
theorem zSh_60 : zSh 60 = .inr (0, 400) := rfl
theorem zSh_61 : zSh 61 = .inr (0, 400) := rfl
theorem zSh_62 : zSh 62 = .inr (0, 400) := rfl
theorem zSh_63 : zSh 63 = .inr (0, 400) := rfl
theorem zSh_64 : zSh 64 = .inr (0, 400) := rfl
theorem zSh_65 : zSh 65 = .inr (0, 400) := rfl
theorem zSh_66 : zSh 66 = .inr (2, 6) := rfl
theorem zSh_67 : zSh 67 = .inr (0, 6) := rfl
theorem zSh_68 : zSh 68 = .inr (0, 6) := rfl
theorem zSh_69 : zSh 69 = .inr (0, 6) := rfl
theorem zSh_70 : zSh 70 = .inr (0, 6) := rfl
theorem zSh_71 : zSh 71 = .inr (2, 6) := rfl
theorem zSh_72 : zSh 72 = .inr (0, 6) := rfl
theorem zSh_73 : zSh 73 = .inr (0, 6) := rfl
theorem zSh_74 : zSh 74 = .inr (2, 6) := rfl
theorem zSh_75 : zSh 75 = .inr (0, 6) := rfl
theorem zSh_76 : zSh 76 = .inr (0, 6) := rfl
theorem zSh_77 : zSh 77 = .inr (0, 6) := rfl
theorem zSh_78 : zSh 78 = .inr (0, 6) := rfl
theorem zSh_79 : zSh 79 = .inr (0, 6) := rfl
theorem zSh_80 : zSh 80 = .inr (0, 6) := rfl
