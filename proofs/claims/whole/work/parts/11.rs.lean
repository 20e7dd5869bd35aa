def RSc (hr : zR) : Prop :=
  hr 1 0 0 = some (2, 0) ∧
  hr 1 0 1 = some (4, 0) ∧
  hr 1 0 2 = some (7, 0) ∧
  hr 1 0 3 = some (11, 0) ∧
  hr 1 0 4 = some (17, 0) ∧
  hr 1 0 5 = some (29, 0) ∧
  hr 2 0 0 = some (3, 0) ∧
  hr 4 0 0 = some (5, 0) ∧
  hr 4 0 1 = some (6, 0) ∧
  hr 7 0 0 = some (8, 0) ∧
  hr 7 0 1 = some (9, 0) ∧
  hr 11 0 0 = some (12, 0) ∧
  hr 11 0 1 = some (13, 0) ∧
  hr 11 0 2 = some (14, 0) ∧
  hr 11 0 3 = some (15, 0) ∧
  hr 11 0 4 = some (16, 0) ∧
  hr 17 0 0 = some (18, 0) ∧
  hr 17 0 1 = some (19, 0) ∧
  (∀ x : Int, 0 ≤ x ∧ x < 6 → hr 18 0 x = some (24, x)) ∧
  hr 19 0 0 = some (20, 0) ∧
  hr 19 0 1 = some (21, 0) ∧
  hr 19 0 2 = some (22, 0) ∧
  (∀ j : Int, 0 ≤ j ∧ j < 6 → hr 24 j 0 = some (25, j)) ∧
  (∀ j : Int, 0 ≤ j ∧ j < 6 → hr 25 j 0 = some (26, j)) ∧
  (∀ j : Int, 0 ≤ j ∧ j < 6 → hr 25 j 1 = some (28, j)) ∧
  (∀ x : Int, 0 ≤ x ∧ x < 6 → hr 29 0 x = some (36, x)) ∧
  (∀ j : Int, 0 ≤ j ∧ j < 2 → hr 30 j 0 = some (31, j)) ∧
  (∀ j : Int, 0 ≤ j ∧ j < 2 → hr 30 j 1 = some (32, j)) ∧
  (∀ j : Int, 0 ≤ j ∧ j < 2 → hr 30 j 2 = some (33, j)) ∧
  (∀ j : Int, 0 ≤ j ∧ j < 2 → hr 30 j 3 = some (34, j)) ∧
  (∀ j : Int, 0 ≤ j ∧ j < 2 → hr 30 j 4 = some (35, j))
theorem rs_1_0 {hr : zR} (h : RSc hr) : hr 1 0 0 = some (2, 0) := h.1
theorem rs_1_1 {hr : zR} (h : RSc hr) : hr 1 0 1 = some (4, 0) := h.2.1
theorem rs_1_2 {hr : zR} (h : RSc hr) : hr 1 0 2 = some (7, 0) := h.2.2.1
theorem rs_1_3 {hr : zR} (h : RSc hr) : hr 1 0 3 = some (11, 0) := h.2.2.2.1
theorem rs_1_4 {hr : zR} (h : RSc hr) : hr 1 0 4 = some (17, 0) := h.2.2.2.2.1
theorem rs_1_5 {hr : zR} (h : RSc hr) : hr 1 0 5 = some (29, 0) := h.2.2.2.2.2.1
theorem rs_2_0 {hr : zR} (h : RSc hr) : hr 2 0 0 = some (3, 0) := h.2.2.2.2.2.2.1
theorem rs_4_0 {hr : zR} (h : RSc hr) : hr 4 0 0 = some (5, 0) := h.2.2.2.2.2.2.2.1
theorem rs_4_1 {hr : zR} (h : RSc hr) : hr 4 0 1 = some (6, 0) := h.2.2.2.2.2.2.2.2.1
theorem rs_7_0 {hr : zR} (h : RSc hr) : hr 7 0 0 = some (8, 0) := h.2.2.2.2.2.2.2.2.2.1
theorem rs_7_1 {hr : zR} (h : RSc hr) : hr 7 0 1 = some (9, 0) := h.2.2.2.2.2.2.2.2.2.2.1
theorem rs_11_0 {hr : zR} (h : RSc hr) : hr 11 0 0 = some (12, 0) := h.2.2.2.2.2.2.2.2.2.2.2.1
theorem rs_11_1 {hr : zR} (h : RSc hr) : hr 11 0 1 = some (13, 0) := h.2.2.2.2.2.2.2.2.2.2.2.2.1
theorem rs_11_2 {hr : zR} (h : RSc hr) : hr 11 0 2 = some (14, 0) := h.2.2.2.2.2.2.2.2.2.2.2.2.2.1
theorem rs_11_3 {hr : zR} (h : RSc hr) : hr 11 0 3 = some (15, 0) := h.2.2.2.2.2.2.2.2.2.2.2.2.2.2.1
theorem rs_11_4 {hr : zR} (h : RSc hr) : hr 11 0 4 = some (16, 0) := h.2.2.2.2.2.2.2.2.2.2.2.2.2.2.2.1
theorem rs_17_0 {hr : zR} (h : RSc hr) : hr 17 0 0 = some (18, 0) := h.2.2.2.2.2.2.2.2.2.2.2.2.2.2.2.2.1
theorem rs_17_1 {hr : zR} (h : RSc hr) : hr 17 0 1 = some (19, 0) := h.2.2.2.2.2.2.2.2.2.2.2.2.2.2.2.2.2.1
theorem rs_18_e {hr : zR} (h : RSc hr) : (∀ x : Int, 0 ≤ x ∧ x < 6 → hr 18 0 x = some (24, x)) := h.2.2.2.2.2.2.2.2.2.2.2.2.2.2.2.2.2.2.1
theorem rs_19_0 {hr : zR} (h : RSc hr) : hr 19 0 0 = some (20, 0) := h.2.2.2.2.2.2.2.2.2.2.2.2.2.2.2.2.2.2.2.1
theorem rs_19_1 {hr : zR} (h : RSc hr) : hr 19 0 1 = some (21, 0) := h.2.2.2.2.2.2.2.2.2.2.2.2.2.2.2.2.2.2.2.2.1
theorem rs_19_2 {hr : zR} (h : RSc hr) : hr 19 0 2 = some (22, 0) := h.2.2.2.2.2.2.2.2.2.2.2.2.2.2.2.2.2.2.2.2.2.1
theorem rs_24_0 {hr : zR} (h : RSc hr) : (∀ j : Int, 0 ≤ j ∧ j < 6 → hr 24 j 0 = some (25, j)) := h.2.2.2.2.2.2.2.2.2.2.2.2.2.2.2.2.2.2.2.2.2.2.1
theorem rs_25_0 {hr : zR} (h : RSc hr) : (∀ j : Int, 0 ≤ j ∧ j < 6 → hr 25 j 0 = some (26, j)) := h.2.2.2.2.2.2.2.2.2.2.2.2.2.2.2.2.2.2.2.2.2.2.2.1
theorem rs_25_1 {hr : zR} (h : RSc hr) : (∀ j : Int, 0 ≤ j ∧ j < 6 → hr 25 j 1 = some (28, j)) := h.2.2.2.2.2.2.2.2.2.2.2.2.2.2.2.2.2.2.2.2.2.2.2.2.1
theorem rs_29_e {hr : zR} (h : RSc hr) : (∀ x : Int, 0 ≤ x ∧ x < 6 → hr 29 0 x = some (36, x)) := h.2.2.2.2.2.2.2.2.2.2.2.2.2.2.2.2.2.2.2.2.2.2.2.2.2.1
theorem rs_30_0 {hr : zR} (h : RSc hr) : (∀ j : Int, 0 ≤ j ∧ j < 2 → hr 30 j 0 = some (31, j)) := h.2.2.2.2.2.2.2.2.2.2.2.2.2.2.2.2.2.2.2.2.2.2.2.2.2.2.1
theorem rs_30_1 {hr : zR} (h : RSc hr) : (∀ j : Int, 0 ≤ j ∧ j < 2 → hr 30 j 1 = some (32, j)) := h.2.2.2.2.2.2.2.2.2.2.2.2.2.2.2.2.2.2.2.2.2.2.2.2.2.2.2.1
theorem rs_30_2 {hr : zR} (h : RSc hr) : (∀ j : Int, 0 ≤ j ∧ j < 2 → hr 30 j 2 = some (33, j)) := h.2.2.2.2.2.2.2.2.2.2.2.2.2.2.2.2.2.2.2.2.2.2.2.2.2.2.2.2.1
theorem rs_30_3 {hr : zR} (h : RSc hr) : (∀ j : Int, 0 ≤ j ∧ j < 2 → hr 30 j 3 = some (34, j)) := h.2.2.2.2.2.2.2.2.2.2.2.2.2.2.2.2.2.2.2.2.2.2.2.2.2.2.2.2.2.1
theorem rs_30_4 {hr : zR} (h : RSc hr) : (∀ j : Int, 0 ≤ j ∧ j < 2 → hr 30 j 4 = some (35, j)) := h.2.2.2.2.2.2.2.2.2.2.2.2.2.2.2.2.2.2.2.2.2.2.2.2.2.2.2.2.2.2
def RSm (hr : zR) : Prop :=
  hr 37 0 1 = some (38, 0) ∧
  hr 37 0 7 = some (39, 0) ∧
  hr 37 0 8 = some (40, 0) ∧
  hr 37 0 11 = some (41, 0) ∧
  hr 37 0 12 = some (42, 0) ∧
  hr 37 0 15 = some (43, 0) ∧
  hr 37 0 16 = some (44, 0) ∧
  hr 37 0 18 = some (45, 0) ∧
  hr 37 0 22 = some (46, 0) ∧
  hr 37 0 23 = some (47, 0) ∧
  hr 37 0 24 = some (48, 0) ∧
  hr 37 0 25 = some (49, 0) ∧
  hr 37 0 26 = some (50, 0) ∧
  hr 37 0 27 = some (51, 0) ∧
  hr 37 0 28 = some (52, 0) ∧
  hr 37 0 29 = some (53, 0) ∧
  hr 37 0 30 = some (54, 0) ∧
  hr 37 0 31 = some (55, 0) ∧
  hr 37 0 32 = some (56, 0) ∧
  hr 37 0 33 = some (57, 0) ∧
  hr 37 0 34 = some (58, 0) ∧
  hr 37 0 38 = some (59, 0) ∧
  hr 37 0 39 = some (60, 0) ∧
  hr 37 0 40 = some (61, 0) ∧
  hr 37 0 41 = some (62, 0) ∧
  hr 37 0 42 = some (63, 0) ∧
  hr 37 0 43 = some (64, 0) ∧
  hr 37 0 44 = some (65, 0) ∧
  hr 37 0 45 = some (66, 0) ∧
  hr 37 0 46 = some (67, 0) ∧
  hr 37 0 47 = some (68, 0) ∧
  hr 37 0 48 = some (69, 0) ∧
  hr 37 0 49 = some (70, 0) ∧
  hr 37 0 50 = some (71, 0) ∧
  hr 37 0 51 = some (72, 0) ∧
  hr 37 0 52 = some (73, 0) ∧
  hr 37 0 54 = some (74, 0) ∧
  hr 37 0 55 = some (75, 0) ∧
  hr 37 0 56 = some (76, 0) ∧
  hr 37 0 57 = some (77, 0) ∧
  hr 37 0 58 = some (78, 0) ∧
  hr 37 0 59 = some (79, 0) ∧
  hr 37 0 60 = some (80, 0)
theorem rs_37_1 {hr : zR} (h : RSm hr) : hr 37 0 1 = some (38, 0) := h.1
theorem rs_37_7 {hr : zR} (h : RSm hr) : hr 37 0 7 = some (39, 0) := h.2.1
theorem rs_37_8 {hr : zR} (h : RSm hr) : hr 37 0 8 = some (40, 0) := h.2.2.1
theorem rs_37_11 {hr : zR} (h : RSm hr) : hr 37 0 11 = some (41, 0) := h.2.2.2.1
theorem rs_37_12 {hr : zR} (h : RSm hr) : hr 37 0 12 = some (42, 0) := h.2.2.2.2.1
theorem rs_37_15 {hr : zR} (h : RSm hr) : hr 37 0 15 = some (43, 0) := h.2.2.2.2.2.1
theorem rs_37_16 {hr : zR} (h : RSm hr) : hr 37 0 16 = some (44, 0) := h.2.2.2.2.2.2.1
theorem rs_37_18 {hr : zR} (h : RSm hr) : hr 37 0 18 = some (45, 0) := h.2.2.2.2.2.2.2.1
theorem rs_37_22 {hr : zR} (h : RSm hr) : hr 37 0 22 = some (46, 0) := h.2.2.2.2.2.2.2.2.1
theorem rs_37_23 {hr : zR} (h : RSm hr) : hr 37 0 23 = some (47, 0) := h.2.2.2.2.2.2.2.2.2.1
theorem rs_37_24 {hr : zR} (h : RSm hr) : hr 37 0 24 = some (48, 0) := h.2.2.2.2.2.2.2.2.2.2.1
theorem rs_37_25 {hr : zR} (h : RSm hr) : hr 37 0 25 = some (49, 0) := h.2.2.2.2.2.2.2.2.2.2.2.1
theorem rs_37_26 {hr : zR} (h : RSm hr) : hr 37 0 26 = some (50, 0) := h.2.2.2.2.2.2.2.2.2.2.2.2.1
theorem rs_37_27 {hr : zR} (h : RSm hr) : hr 37 0 27 = some (51, 0) := h.2.2.2.2.2.2.2.2.2.2.2.2.2.1
theorem rs_37_28 {hr : zR} (h : RSm hr) : hr 37 0 28 = some (52, 0) := h.2.2.2.2.2.2.2.2.2.2.2.2.2.2.1
theorem rs_37_29 {hr : zR} (h : RSm hr) : hr 37 0 29 = some (53, 0) := h.2.2.2.2.2.2.2.2.2.2.2.2.2.2.2.1
theorem rs_37_30 {hr : zR} (h : RSm hr) : hr 37 0 30 = some (54, 0) := h.2.2.2.2.2.2.2.2.2.2.2.2.2.2.2.2.1
theorem rs_37_31 {hr : zR} (h : RSm hr) : hr 37 0 31 = some (55, 0) := h.2.2.2.2.2.2.2.2.2.2.2.2.2.2.2.2.2.1
theorem rs_37_32 {hr : zR} (h : RSm hr) : hr 37 0 32 = some (56, 0) := h.2.2.2.2.2.2.2.2.2.2.2.2.2.2.2.2.2.2.1
theorem rs_37_33 {hr : zR} (h : RSm hr) : hr 37 0 33 = some (57, 0) := h.2.2.2.2.2.2.2.2.2.2.2.2.2.2.2.2.2.2.2.1
theorem rs_37_34 {hr : zR} (h : RSm hr) : hr 37 0 34 = some (58, 0) := h.2.2.2.2.2.2.2.2.2.2.2.2.2.2.2.2.2.2.2.2.1
theorem rs_37_38 {hr : zR} (h : RSm hr) : hr 37 0 38 = some (59, 0) := h.2.2.2.2.2.2.2.2.2.2.2.2.2.2.2.2.2.2.2.2.2.1
theorem rs_37_39 {hr : zR} (h : RSm hr) : hr 37 0 39 = some (60, 0) := h.2.2.2.2.2.2.2.2.2.2.2.2.2.2.2.2.2.2.2.2.2.2.1
theorem rs_37_40 {hr : zR} (h : RSm hr) : hr 37 0 40 = some (61, 0) := h.2.2.2.2.2.2.2.2.2.2.2.2.2.2.2.2.2.2.2.2.2.2.2.1
theorem rs_37_41 {hr : zR} (h : RSm hr) : hr 37 0 41 = some (62, 0) := h.2.2.2.2.2.2.2.2.2.2.2.2.2.2.2.2.2.2.2.2.2.2.2.2.1
theorem rs_37_42 {hr : zR} (h : RSm hr) : hr 37 0 42 = some (63, 0) := h.2.2.2.2.2.2.2.2.2.2.2.2.2.2.2.2.2.2.2.2.2.2.2.2.2.1
theorem rs_37_43 {hr : zR} (h : RSm hr) : hr 37 0 43 = some (64, 0) := h.2.2.2.2.2.2.2.2.2.2.2.2.2.2.2.2.2.2.2.2.2.2.2.2.2.2.1
theorem rs_37_44 {hr : zR} (h : RSm hr) : hr 37 0 44 = some (65, 0) := h.2.2.2.2.2.2.2.2.2.2.2.2.2.2.2.2.2.2.2.2.2.2.2.2.2.2.2.1
theorem rs_37_45 {hr : zR} (h : RSm hr) : hr 37 0 45 = some (66, 0) := h.2.2.2.2.2.2.2.2.2.2.2.2.2.2.2.2.2.2.2.2.2.2.2.2.2.2.2.2.1
theorem rs_37_46 {hr : zR} (h : RSm hr) : hr 37 0 46 = some (67, 0) := h.2.2.2.2.2.2.2.2.2.2.2.2.2.2.2.2.2.2.2.2.2.2.2.2.2.2.2.2.2.1
theorem rs_37_47 {hr : zR} (h : RSm hr) : hr 37 0 47 = some (68, 0) := h.2.2.2.2.2.2.2.2.2.2.2.2.2.2.2.2.2.2.2.2.2.2.2.2.2.2.2.2.2.2.1
theorem rs_37_48 {hr : zR} (h : RSm hr) : hr 37 0 48 = some (69, 0) := h.2.2.2.2.2.2.2.2.2.2.2.2.2.2.2.2.2.2.2.2.2.2.2.2.2.2.2.2.2.2.2.1
theorem rs_37_49 {hr : zR} (h : RSm hr) : hr 37 0 49 = some (70, 0) := h.2.2.2.2.2.2.2.2.2.2.2.2.2.2.2.2.2.2.2.2.2.2.2.2.2.2.2.2.2.2.2.2.1
theorem rs_37_50 {hr : zR} (h : RSm hr) : hr 37 0 50 = some (71, 0) := h.2.2.2.2.2.2.2.2.2.2.2.2.2.2.2.2.2.2.2.2.2.2.2.2.2.2.2.2.2.2.2.2.2.1
theorem rs_37_51 {hr : zR} (h : RSm hr) : hr 37 0 51 = some (72, 0) := h.2.2.2.2.2.2.2.2.2.2.2.2.2.2.2.2.2.2.2.2.2.2.2.2.2.2.2.2.2.2.2.2.2.2.1
theorem rs_37_52 {hr : zR} (h : RSm hr) : hr 37 0 52 = some (73, 0) := h.2.2.2.2.2.2.2.2.2.2.2.2.2.2.2.2.2.2.2.2.2.2.2.2.2.2.2.2.2.2.2.2.2.2.2.1
theorem rs_37_54 {hr : zR} (h : RSm hr) : hr 37 0 54 = some (74, 0) := h.2.2.2.2.2.2.2.2.2.2.2.2.2.2.2.2.2.2.2.2.2.2.2.2.2.2.2.2.2.2.2.2.2.2.2.2.1
theorem rs_37_55 {hr : zR} (h : RSm hr) : hr 37 0 55 = some (75, 0) := h.2.2.2.2.2.2.2.2.2.2.2.2.2.2.2.2.2.2.2.2.2.2.2.2.2.2.2.2.2.2.2.2.2.2.2.2.2.1
theorem rs_37_56 {hr : zR} (h : RSm hr) : hr 37 0 56 = some (76, 0) := h.2.2.2.2.2.2.2.2.2.2.2.2.2.2.2.2.2.2.2.2.2.2.2.2.2.2.2.2.2.2.2.2.2.2.2.2.2.2.1
theorem rs_37_57 {hr : zR} (h : RSm hr) : hr 37 0 57 = some (77, 0) := h.2.2.2.2.2.2.2.2.2.2.2.2.2.2.2.2.2.2.2.2.2.2.2.2.2.2.2.2.2.2.2.2.2.2.2.2.2.2.2.1
theorem rs_37_58 {hr : zR} (h : RSm hr) : hr 37 0 58 = some (78, 0) := h.2.2.2.2.2.2.2.2.2.2.2.2.2.2.2.2.2.2.2.2.2.2.2.2.2.2.2.2.2.2.2.2.2.2.2.2.2.2.2.2.1
theorem rs_37_59 {hr : zR} (h : RSm hr) : hr 37 0 59 = some (79, 0) := h.2.2.2.2.2.2.2.2.2.2.2.2.2.2.2.2.2.2.2.2.2.2.2.2.2.2.2.2.2.2.2.2.2.2.2.2.2.2.2.2.2.1
theorem rs_37_60 {hr : zR} (h : RSm hr) : hr 37 0 60 = some (80, 0) := h.2.2.2.2.2.2.2.2.2.2.2.2.2.2.2.2.2.2.2.2.2.2.2.2.2.2.2.2.2.2.2.2.2.2.2.2.2.2.2.2.2.2
