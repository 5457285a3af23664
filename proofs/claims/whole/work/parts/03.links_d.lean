def zVN : List (List (Nat × Nat)) := [[(20, 2), (35, 1), (50, 1), (56, 2), (60, 0), (64, 0), (67, 1), (70, 1), (75, 1)], [(32, 2), (36, 1), (44, 4), (55, 1), (51, 2)], [(17, 2), (44, 1), (48, 1), (55, 2), (59, 1)], [(81, 0), (58, 2), (84, 1), (45, 1), (88, 4), (115, 3), (119, 3), (123, 4), (54, 2), (62, 3), (102, 1), (106, 1), (99, 4)], [(33, 1), (37, 0), (41, 2), (50, 1), (53, 3), (59, 3), (63, 0), (72, 1), (76, 1), (66, 1), (80, 0), (85, 1)], [(32, 2), (43, 1), (47, 1), (72, 0), (76, 1), (83, 1), (86, 0), (89, 1), (93, 1)], [(15, 3), (27, 1), (19, 2), (23, 1)], [(33, 4), (43, 2), (47, 1), (58, 1), (61, 2), (65, 2)], [(25, 1)], [(64, 1), (68, 1), (76, 0), (80, 3), (84, 1), (87, 2), (95, 2), (99, 2), (111, 3), (115, 0), (118, 1), (126, 1), (143, 1), (256, 2), (296, 3), (157, 2), (165, 4), (169, 1), (173, 0), (176, 1), (180, 2), (214, 2), (218, 1), (221, 1), (250, 2), (247, 2), (226, 1), (237, 0), (300, 1), (303, 1), (241, 2), (253, 1), (262, 1), (265, 2), (269, 2), (275, 1)], [(139, 1), (200, 1), (203, 4), (117, 1), (207, 3), (128, 3), (135, 2), (214, 4), (217, 3), (88, 7), (73, 3), (81, 1), (220, 3), (223, 1), (229, 4), (232, 6), (226, 1), (146, 6), (131, 6), (239, 2), (242, 1), (156, 4), (160, 3), (163, 3), (166, 5), (170, 3), (152, 3), (110, 5), (114, 3), (102, 3), (149, 3), (245, 1), (182, 2), (185, 2), (188, 2), (179, 5), (250, 1), (253, 1), (256, 0), (259, 1), (264, 1), (267, 2), (270, 3), (273, 1), (341, 1), (297, 1), (313, 1), (335, 1), (338, 1), (320, 0), (323, 0), (326, 1), (300, 0), (303, 2), (291, 0), (317, 2), (347, 1), (350, 1), (353, 2), (356, 2)], [(7, 4), (17, 5), (23, 2), (27, 3), (33, 1), (37, 1), (40, 1), (43, 4), (46, 4), (50, 6), (54, 5), (58, 1), (61, 3), (65, 1), (68, 1), (71, 1), (74, 3), (77, 5), (80, 3), (83, 2), (86, 3), (89, 1), (93, 2), (96, 2), (100, 2), (103, 4), (106, 6), (110, 1), (113, 1), (116, 2), (119, 1), (122, 1), (134, 4), (135, 0), (142, 5), (146, 2), (150, 3), (154, 1), (157, 1), (160, 1), (163, 4), (167, 4), (171, 6), (175, 5), (178, 1), (182, 3), (185, 1), (188, 1), (191, 1), (194, 3), (197, 5), (200, 3), (203, 2), (206, 3), (209, 1), (212, 2), (215, 2), (218, 2), (221, 4), (225, 6), (228, 1), (229, 0), (232, 0), (235, 1), (238, 2), (241, 1), (244, 1)], [], [], []]
def zOI_0_0 : List (Nat × Nat) := []
set_option maxRecDepth 100000 in
theorem zOI_0_0_ok : zOI_0_0.all (zckO 0) = true := by decide +kernel
def zOI_0 : List (Nat × Nat) := zOI_0_0
theorem zOI_0_ok : ∀ q ∈ zOI_0, zckO 0 q = true := List.all_eq_true.mp zOI_0_0_ok
def zOI_1_0 : List (Nat × Nat) := []
set_option maxRecDepth 100000 in
theorem zOI_1_0_ok : zOI_1_0.all (zckO 1) = true := by decide +kernel
def zOI_1 : List (Nat × Nat) := zOI_1_0
theorem zOI_1_ok : ∀ q ∈ zOI_1, zckO 1 q = true := List.all_eq_true.mp zOI_1_0_ok
def zOI_2_0 : List (Nat × Nat) := []
set_option maxRecDepth 100000 in
theorem zOI_2_0_ok : zOI_2_0.all (zckO 2) = true := by decide +kernel
def zOI_2 : List (Nat × Nat) := zOI_2_0
theorem zOI_2_ok : ∀ q ∈ zOI_2, zckO 2 q = true := List.all_eq_true.mp zOI_2_0_ok
def zOI_3_0 : List (Nat × Nat) := [(3, 1090)]
set_option maxRecDepth 100000 in
theorem zOI_3_0_ok : zOI_3_0.all (zckO 3) = true := by decide +kernel
def zOI_3 : List (Nat × Nat) := zOI_3_0
theorem zOI_3_ok : ∀ q ∈ zOI_3, zckO 3 q = true := List.all_eq_true.mp zOI_3_0_ok
def zOI_4_0 : List (Nat × Nat) := [(3, 1161)]
set_option maxRecDepth 100000 in
theorem zOI_4_0_ok : zOI_4_0.all (zckO 4) = true := by decide +kernel
def zOI_4 : List (Nat × Nat) := zOI_4_0
theorem zOI_4_ok : ∀ q ∈ zOI_4, zckO 4 q = true := List.all_eq_true.mp zOI_4_0_ok
def zOI_5_0 : List (Nat × Nat) := []
set_option maxRecDepth 100000 in
theorem zOI_5_0_ok : zOI_5_0.all (zckO 5) = true := by decide +kernel
def zOI_5 : List (Nat × Nat) := zOI_5_0
theorem zOI_5_ok : ∀ q ∈ zOI_5, zckO 5 q = true := List.all_eq_true.mp zOI_5_0_ok
def zOI_6_0 : List (Nat × Nat) := [(1, 1040)]
set_option maxRecDepth 100000 in
theorem zOI_6_0_ok : zOI_6_0.all (zckO 6) = true := by decide +kernel
def zOI_6 : List (Nat × Nat) := zOI_6_0
theorem zOI_6_ok : ∀ q ∈ zOI_6, zckO 6 q = true := List.all_eq_true.mp zOI_6_0_ok
def zOI_7_0 : List (Nat × Nat) := []
set_option maxRecDepth 100000 in
theorem zOI_7_0_ok : zOI_7_0.all (zckO 7) = true := by decide +kernel
def zOI_7 : List (Nat × Nat) := zOI_7_0
theorem zOI_7_ok : ∀ q ∈ zOI_7, zckO 7 q = true := List.all_eq_true.mp zOI_7_0_ok
def zOI_8_0 : List (Nat × Nat) := [(3, 1145)]
set_option maxRecDepth 100000 in
theorem zOI_8_0_ok : zOI_8_0.all (zckO 8) = true := by decide +kernel
def zOI_8 : List (Nat × Nat) := zOI_8_0
theorem zOI_8_ok : ∀ q ∈ zOI_8, zckO 8 q = true := List.all_eq_true.mp zOI_8_0_ok
def zOI_9_0 : List (Nat × Nat) := [(1, 1029)]
set_option maxRecDepth 100000 in
theorem zOI_9_0_ok : zOI_9_0.all (zckO 9) = true := by decide +kernel
def zOI_9 : List (Nat × Nat) := zOI_9_0
theorem zOI_9_ok : ∀ q ∈ zOI_9, zckO 9 q = true := List.all_eq_true.mp zOI_9_0_ok
def zOI_10_0 : List (Nat × Nat) := [(1, 5111)]
set_option maxRecDepth 100000 in
theorem zOI_10_0_ok : zOI_10_0.all (zckO 10) = true := by decide +kernel
def zOI_10 : List (Nat × Nat) := zOI_10_0
theorem zOI_10_ok : ∀ q ∈ zOI_10, zckO 10 q = true := List.all_eq_true.mp zOI_10_0_ok
def zOI_11_0 : List (Nat × Nat) := []
set_option maxRecDepth 100000 in
theorem zOI_11_0_ok : zOI_11_0.all (zckO 11) = true := by decide +kernel
def zOI_11 : List (Nat × Nat) := zOI_11_0
theorem zOI_11_ok : ∀ q ∈ zOI_11, zckO 11 q = true := List.all_eq_true.mp zOI_11_0_ok
def zOI_12_0 : List (Nat × Nat) := []
set_option maxRecDepth 100000 in
theorem zOI_12_0_ok : zOI_12_0.all (zckO 12) = true := by decide +kernel
def zOI_12 : List (Nat × Nat) := zOI_12_0
theorem zOI_12_ok : ∀ q ∈ zOI_12, zckO 12 q = true := List.all_eq_true.mp zOI_12_0_ok
def zOI_13_0 : List (Nat × Nat) := []
set_option maxRecDepth 100000 in
theorem zOI_13_0_ok : zOI_13_0.all (zckO 13) = true := by decide +kernel
def zOI_13 : List (Nat × Nat) := zOI_13_0
theorem zOI_13_ok : ∀ q ∈ zOI_13, zckO 13 q = true := List.all_eq_true.mp zOI_13_0_ok
def zOI_14_0 : List (Nat × Nat) := []
set_option maxRecDepth 100000 in
theorem zOI_14_0_ok : zOI_14_0.all (zckO 14) = true := by decide +kernel
def zOI_14 : List (Nat × Nat) := zOI_14_0
theorem zOI_14_ok : ∀ q ∈ zOI_14, zckO 14 q = true := List.all_eq_true.mp zOI_14_0_ok
def zOI : List (List (Nat × Nat)) := [zOI_0, zOI_1, zOI_2, zOI_3, zOI_4, zOI_5, zOI_6, zOI_7, zOI_8, zOI_9, zOI_10, zOI_11, zOI_12, zOI_13, zOI_14]
theorem zOI_ok : ∀ (o : Nat) (l : List (Nat × Nat)), zOI[o]? = some l → ∀ q ∈ l, zckO o q = true := by
  intro o l h
  match o, h with
  | 0, h => cases h; exact zOI_0_ok
  | 1, h => cases h; exact zOI_1_ok
  | 2, h => cases h; exact zOI_2_ok
  | 3, h => cases h; exact zOI_3_ok
  | 4, h => cases h; exact zOI_4_ok
  | 5, h => cases h; exact zOI_5_ok
  | 6, h => cases h; exact zOI_6_ok
  | 7, h => cases h; exact zOI_7_ok
  | 8, h => cases h; exact zOI_8_ok
  | 9, h => cases h; exact zOI_9_ok
  | 10, h => cases h; exact zOI_10_ok
  | 11, h => cases h; exact zOI_11_ok
  | 12, h => cases h; exact zOI_12_ok
  | 13, h => cases h; exact zOI_13_ok
  | 14, h => cases h; exact zOI_14_ok
  | k + 15, h => simp [zOI] at h
def zAC_0_0 : List (Nat × Nat) := []
set_option maxRecDepth 100000 in
theorem zAC_0_0_ok : zAC_0_0.all (zckAC 0) = true := by decide +kernel
def zAC_0 : List (Nat × Nat) := zAC_0_0
theorem zAC_0_ok : ∀ q ∈ zAC_0, zckAC 0 q = true := List.all_eq_true.mp zAC_0_0_ok
def zAC_1_0 : List (Nat × Nat) := []
set_option maxRecDepth 100000 in
theorem zAC_1_0_ok : zAC_1_0.all (zckAC 1) = true := by decide +kernel
def zAC_1 : List (Nat × Nat) := zAC_1_0
theorem zAC_1_ok : ∀ q ∈ zAC_1, zckAC 1 q = true := List.all_eq_true.mp zAC_1_0_ok
def zAC_2_0 : List (Nat × Nat) := []
set_option maxRecDepth 100000 in
theorem zAC_2_0_ok : zAC_2_0.all (zckAC 2) = true := by decide +kernel
def zAC_2 : List (Nat × Nat) := zAC_2_0
theorem zAC_2_ok : ∀ q ∈ zAC_2, zckAC 2 q = true := List.all_eq_true.mp zAC_2_0_ok
def zAC_3_0 : List (Nat × Nat) := [(66, 2113)]
set_option maxRecDepth 100000 in
theorem zAC_3_0_ok : zAC_3_0.all (zckAC 3) = true := by decide +kernel
def zAC_3 : List (Nat × Nat) := zAC_3_0
theorem zAC_3_ok : ∀ q ∈ zAC_3, zckAC 3 q = true := List.all_eq_true.mp zAC_3_0_ok
def zAC_4_0 : List (Nat × Nat) := []
set_option maxRecDepth 100000 in
theorem zAC_4_0_ok : zAC_4_0.all (zckAC 4) = true := by decide +kernel
def zAC_4 : List (Nat × Nat) := zAC_4_0
theorem zAC_4_ok : ∀ q ∈ zAC_4, zckAC 4 q = true := List.all_eq_true.mp zAC_4_0_ok
def zAC_5_0 : List (Nat × Nat) := []
set_option maxRecDepth 100000 in
theorem zAC_5_0_ok : zAC_5_0.all (zckAC 5) = true := by decide +kernel
def zAC_5 : List (Nat × Nat) := zAC_5_0
theorem zAC_5_ok : ∀ q ∈ zAC_5, zckAC 5 q = true := List.all_eq_true.mp zAC_5_0_ok
def zAC_6_0 : List (Nat × Nat) := []
set_option maxRecDepth 100000 in
theorem zAC_6_0_ok : zAC_6_0.all (zckAC 6) = true := by decide +kernel
def zAC_6 : List (Nat × Nat) := zAC_6_0
theorem zAC_6_ok : ∀ q ∈ zAC_6, zckAC 6 q = true := List.all_eq_true.mp zAC_6_0_ok
def zAC_7_0 : List (Nat × Nat) := []
set_option maxRecDepth 100000 in
theorem zAC_7_0_ok : zAC_7_0.all (zckAC 7) = true := by decide +kernel
def zAC_7 : List (Nat × Nat) := zAC_7_0
theorem zAC_7_ok : ∀ q ∈ zAC_7, zckAC 7 q = true := List.all_eq_true.mp zAC_7_0_ok
def zAC_8_0 : List (Nat × Nat) := []
set_option maxRecDepth 100000 in
theorem zAC_8_0_ok : zAC_8_0.all (zckAC 8) = true := by decide +kernel
def zAC_8 : List (Nat × Nat) := zAC_8_0
theorem zAC_8_ok : ∀ q ∈ zAC_8, zckAC 8 q = true := List.all_eq_true.mp zAC_8_0_ok
def zAC_9_0 : List (Nat × Nat) := []
set_option maxRecDepth 100000 in
theorem zAC_9_0_ok : zAC_9_0.all (zckAC 9) = true := by decide +kernel
def zAC_9 : List (Nat × Nat) := zAC_9_0
theorem zAC_9_ok : ∀ q ∈ zAC_9, zckAC 9 q = true := List.all_eq_true.mp zAC_9_0_ok
def zAC_10_0 : List (Nat × Nat) := []
set_option maxRecDepth 100000 in
theorem zAC_10_0_ok : zAC_10_0.all (zckAC 10) = true := by decide +kernel
def zAC_10 : List (Nat × Nat) := zAC_10_0
theorem zAC_10_ok : ∀ q ∈ zAC_10, zckAC 10 q = true := List.all_eq_true.mp zAC_10_0_ok
def zAC_11_0 : List (Nat × Nat) := []
set_option maxRecDepth 100000 in
theorem zAC_11_0_ok : zAC_11_0.all (zckAC 11) = true := by decide +kernel
def zAC_11 : List (Nat × Nat) := zAC_11_0
theorem zAC_11_ok : ∀ q ∈ zAC_11, zckAC 11 q = true := List.all_eq_true.mp zAC_11_0_ok
def zAC_12_0 : List (Nat × Nat) := []
set_option maxRecDepth 100000 in
theorem zAC_12_0_ok : zAC_12_0.all (zckAC 12) = true := by decide +kernel
def zAC_12 : List (Nat × Nat) := zAC_12_0
theorem zAC_12_ok : ∀ q ∈ zAC_12, zckAC 12 q = true := List.all_eq_true.mp zAC_12_0_ok
def zAC_13_0 : List (Nat × Nat) := []
set_option maxRecDepth 100000 in
theorem zAC_13_0_ok : zAC_13_0.all (zckAC 13) = true := by decide +kernel
def zAC_13 : List (Nat × Nat) := zAC_13_0
theorem zAC_13_ok : ∀ q ∈ zAC_13, zckAC 13 q = true := List.all_eq_true.mp zAC_13_0_ok
def zAC_14_0 : List (Nat × Nat) := []
set_option maxRecDepth 100000 in
theorem zAC_14_0_ok : zAC_14_0.all (zckAC 14) = true := by decide +kernel
def zAC_14 : List (Nat × Nat) := zAC_14_0
theorem zAC_14_ok : ∀ q ∈ zAC_14, zckAC 14 q = true := List.all_eq_true.mp zAC_14_0_ok
def zAC : List (List (Nat × Nat)) := [zAC_0, zAC_1, zAC_2, zAC_3, zAC_4, zAC_5, zAC_6, zAC_7, zAC_8, zAC_9, zAC_10, zAC_11, zAC_12, zAC_13, zAC_14]
theorem zAC_ok : ∀ (o : Nat) (l : List (Nat × Nat)), zAC[o]? = some l → ∀ q ∈ l, zckAC o q = true := by
  intro o l h
  match o, h with
  | 0, h => cases h; exact zAC_0_ok
  | 1, h => cases h; exact zAC_1_ok
  | 2, h => cases h; exact zAC_2_ok
  | 3, h => cases h; exact zAC_3_ok
  | 4, h => cases h; exact zAC_4_ok
  | 5, h => cases h; exact zAC_5_ok
  | 6, h => cases h; exact zAC_6_ok
  | 7, h => cases h; exact zAC_7_ok
  | 8, h => cases h; exact zAC_8_ok
  | 9, h => cases h; exact zAC_9_ok
  | 10, h => cases h; exact zAC_10_ok
  | 11, h => cases h; exact zAC_11_ok
  | 12, h => cases h; exact zAC_12_ok
  | 13, h => cases h; exact zAC_13_ok
  | 14, h => cases h; exact zAC_14_ok
  | k + 15, h => simp [zAC] at h
def zXH_0_0 : List (Nat × Nat × Nat) := []
set_option maxRecDepth 100000 in
theorem zXH_0_0_ok : zXH_0_0.all (zckXH 0) = true := by decide +kernel
def zXH_0 : List (Nat × Nat × Nat) := zXH_0_0
theorem zXH_0_ok : ∀ q ∈ zXH_0, zckXH 0 q = true := List.all_eq_true.mp zXH_0_0_ok
def zXH_1_0 : List (Nat × Nat × Nat) := []
set_option maxRecDepth 100000 in
theorem zXH_1_0_ok : zXH_1_0.all (zckXH 1) = true := by decide +kernel
def zXH_1 : List (Nat × Nat × Nat) := zXH_1_0
theorem zXH_1_ok : ∀ q ∈ zXH_1, zckXH 1 q = true := List.all_eq_true.mp zXH_1_0_ok
def zXH_2_0 : List (Nat × Nat × Nat) := []
set_option maxRecDepth 100000 in
theorem zXH_2_0_ok : zXH_2_0.all (zckXH 2) = true := by decide +kernel
def zXH_2 : List (Nat × Nat × Nat) := zXH_2_0
theorem zXH_2_ok : ∀ q ∈ zXH_2, zckXH 2 q = true := List.all_eq_true.mp zXH_2_0_ok
def zXH_3_0 : List (Nat × Nat × Nat) := []
set_option maxRecDepth 100000 in
theorem zXH_3_0_ok : zXH_3_0.all (zckXH 3) = true := by decide +kernel
def zXH_3 : List (Nat × Nat × Nat) := zXH_3_0
theorem zXH_3_ok : ∀ q ∈ zXH_3, zckXH 3 q = true := List.all_eq_true.mp zXH_3_0_ok
def zXH_4_0 : List (Nat × Nat × Nat) := []
set_option maxRecDepth 100000 in
theorem zXH_4_0_ok : zXH_4_0.all (zckXH 4) = true := by decide +kernel
def zXH_4 : List (Nat × Nat × Nat) := zXH_4_0
theorem zXH_4_ok : ∀ q ∈ zXH_4, zckXH 4 q = true := List.all_eq_true.mp zXH_4_0_ok
def zXH_5_0 : List (Nat × Nat × Nat) := []
set_option maxRecDepth 100000 in
theorem zXH_5_0_ok : zXH_5_0.all (zckXH 5) = true := by decide +kernel
def zXH_5 : List (Nat × Nat × Nat) := zXH_5_0
theorem zXH_5_ok : ∀ q ∈ zXH_5, zckXH 5 q = true := List.all_eq_true.mp zXH_5_0_ok
def zXH_6_0 : List (Nat × Nat × Nat) := []
set_option maxRecDepth 100000 in
theorem zXH_6_0_ok : zXH_6_0.all (zckXH 6) = true := by decide +kernel
def zXH_6 : List (Nat × Nat × Nat) := zXH_6_0
theorem zXH_6_ok : ∀ q ∈ zXH_6, zckXH 6 q = true := List.all_eq_true.mp zXH_6_0_ok
def zXH_7_0 : List (Nat × Nat × Nat) := []
set_option maxRecDepth 100000 in
theorem zXH_7_0_ok : zXH_7_0.all (zckXH 7) = true := by decide +kernel
def zXH_7 : List (Nat × Nat × Nat) := zXH_7_0
theorem zXH_7_ok : ∀ q ∈ zXH_7, zckXH 7 q = true := List.all_eq_true.mp zXH_7_0_ok
def zXH_8_0 : List (Nat × Nat × Nat) := []
set_option maxRecDepth 100000 in
theorem zXH_8_0_ok : zXH_8_0.all (zckXH 8) = true := by decide +kernel
def zXH_8 : List (Nat × Nat × Nat) := zXH_8_0
theorem zXH_8_ok : ∀ q ∈ zXH_8, zckXH 8 q = true := List.all_eq_true.mp zXH_8_0_ok
def zXH_9_0 : List (Nat × Nat × Nat) := []
set_option maxRecDepth 100000 in
theorem zXH_9_0_ok : zXH_9_0.all (zckXH 9) = true := by decide +kernel
def zXH_9 : List (Nat × Nat × Nat) := zXH_9_0
theorem zXH_9_ok : ∀ q ∈ zXH_9, zckXH 9 q = true := List.all_eq_true.mp zXH_9_0_ok
def zXH_10_0 : List (Nat × Nat × Nat) := []
set_option maxRecDepth 100000 in
theorem zXH_10_0_ok : zXH_10_0.all (zckXH 10) = true := by decide +kernel
def zXH_10 : List (Nat × Nat × Nat) := zXH_10_0
theorem zXH_10_ok : ∀ q ∈ zXH_10, zckXH 10 q = true := List.all_eq_true.mp zXH_10_0_ok
def zXH_11_0 : List (Nat × Nat × Nat) := [(13, 0, 1214), (15, 2, 2052), (21, 1, 2119), (31, 3, 2202)]
set_option maxRecDepth 100000 in
theorem zXH_11_0_ok : zXH_11_0.all (zckXH 11) = true := by decide +kernel
def zXH_11 : List (Nat × Nat × Nat) := zXH_11_0
theorem zXH_11_ok : ∀ q ∈ zXH_11, zckXH 11 q = true := List.all_eq_true.mp zXH_11_0_ok
def zXH_12_0 : List (Nat × Nat × Nat) := []
set_option maxRecDepth 100000 in
theorem zXH_12_0_ok : zXH_12_0.all (zckXH 12) = true := by decide +kernel
def zXH_12 : List (Nat × Nat × Nat) := zXH_12_0
theorem zXH_12_ok : ∀ q ∈ zXH_12, zckXH 12 q = true := List.all_eq_true.mp zXH_12_0_ok
def zXH_13_0 : List (Nat × Nat × Nat) := []
set_option maxRecDepth 100000 in
theorem zXH_13_0_ok : zXH_13_0.all (zckXH 13) = true := by decide +kernel
def zXH_13 : List (Nat × Nat × Nat) := zXH_13_0
theorem zXH_13_ok : ∀ q ∈ zXH_13, zckXH 13 q = true := List.all_eq_true.mp zXH_13_0_ok
def zXH_14_0 : List (Nat × Nat × Nat) := []
set_option maxRecDepth 100000 in
theorem zXH_14_0_ok : zXH_14_0.all (zckXH 14) = true := by decide +kernel
def zXH_14 : List (Nat × Nat × Nat) := zXH_14_0
theorem zXH_14_ok : ∀ q ∈ zXH_14, zckXH 14 q = true := List.all_eq_true.mp zXH_14_0_ok
def zXH : List (List (Nat × Nat × Nat)) := [zXH_0, zXH_1, zXH_2, zXH_3, zXH_4, zXH_5, zXH_6, zXH_7, zXH_8, zXH_9, zXH_10, zXH_11, zXH_12, zXH_13, zXH_14]
theorem zXH_ok : ∀ (o : Nat) (l : List (Nat × Nat × Nat)), zXH[o]? = some l → ∀ q ∈ l, zckXH o q = true := by
  intro o l h
  match o, h with
  | 0, h => cases h; exact zXH_0_ok
  | 1, h => cases h; exact zXH_1_ok
  | 2, h => cases h; exact zXH_2_ok
  | 3, h => cases h; exact zXH_3_ok
  | 4, h => cases h; exact zXH_4_ok
  | 5, h => cases h; exact zXH_5_ok
  | 6, h => cases h; exact zXH_6_ok
  | 7, h => cases h; exact zXH_7_ok
  | 8, h => cases h; exact zXH_8_ok
  | 9, h => cases h; exact zXH_9_ok
  | 10, h => cases h; exact zXH_10_ok
  | 11, h => cases h; exact zXH_11_ok
  | 12, h => cases h; exact zXH_12_ok
  | 13, h => cases h; exact zXH_13_ok
  | 14, h => cases h; exact zXH_14_ok
  | k + 15, h => simp [zXH] at h
theorem zOIw : (Cond.instanceMethod Lib.objectInit ∈ zB ∧ Cond.code Lib.objectInit ⟨#[0xb1]⟩ 1 none ∈ zB) := ⟨List.mem_filter.mpr ⟨by decide +kernel, rfl⟩, List.mem_filter.mpr ⟨by decide +kernel, rfl⟩⟩
theorem zACw : Cond.native arraycopyName ∈ zB ∧ Cond.static arraycopyName ∈ zB ∧ Cond.initialized "java/lang/System" ∈ zB := ⟨List.mem_filter.mpr ⟨by decide +kernel, rfl⟩, List.mem_filter.mpr ⟨by decide +kernel, rfl⟩, List.mem_filter.mpr ⟨by decide +kernel, rfl⟩⟩
theorem zAKw : Cond.arrayClass .int ∈ zB ∧ Cond.arrayClass .long ∈ zB := ⟨List.mem_filter.mpr ⟨by decide +kernel, rfl⟩, List.mem_filter.mpr ⟨by decide +kernel, rfl⟩⟩
theorem zCAw : ∀ ci ∈ [0, 1, 4], ∀ q, zcl[ci]? = some q → Cond.castable q.1 "RingMatrices$Ring" ∈ zNws := by
  intro ci hci q hq
  simp only [List.mem_cons, List.not_mem_nil, or_false] at hci
  rcases hci with rfl | rfl | rfl <;> (cases hq; exact List.mem_filter.mpr ⟨by decide +kernel, rfl⟩)
theorem zpr_ok {mi : Nat} {M : zM} (h : zpr mi = some M) : zckD M = true ∧ zcw M ∈ lw_tbl ∧ ∃ q, zckM M q = true := by
  obtain ⟨L, hL, hM⟩ := Option.bind_eq_some_iff.mp h
  exact zPR_ok L (List.mem_of_getElem? hL) M (List.mem_of_getElem? hM)
theorem zcw_in {M : zM} (h : zcw M ∈ lw_tbl) : zcw M ∈ zB := by
  refine List.mem_filter.mpr ⟨h, ?_⟩
  unfold zcw
  split <;> rfl
theorem zcl_ws : ∀ q ∈ zcl, ∀ w ∈ u_ws q.1 q.2.1 q.2.2, w ∈ zB := by
  have h : zcl.all (fun q => (u_ws q.1 q.2.1 q.2.2).all (fun w => goodWord w && decide (w ∈ lw_tbl))) = true := by decide +kernel
  intro q hq w hw
  have h1 := List.all_eq_true.mp (List.all_eq_true.mp h q hq) w hw
  simp only [Bool.and_eq_true, decide_eq_true_eq] at h1
  exact List.mem_filter.mpr ⟨h1.2, h1.1⟩
theorem zcl_nm : ∀ q ∈ zcl, ∀ a, a < q.2.2 → ∀ b, b < q.2.2 → a ≠ b → (q.2.1 a).2.1 ≠ (q.2.1 b).2.1 := by
  intro q hq
  simp only [zcl, List.mem_cons, List.not_mem_nil, or_false] at hq
  rcases hq with rfl | rfl | rfl | rfl | rfl | rfl | rfl | rfl
  · exact nmX0
  · exact nmX2
  · exact nmX3
  · exact nmX4
  · exact nmX5
  · exact nmX8
  · exact nmX9
  · exact nmX10
def zty (ci : Nat) : Nat → FieldType := match ci with
  | 0 => tyX0
  | 1 => tyX2
  | 2 => tyX3
  | 3 => tyX4
  | 4 => tyX5
  | 5 => tyX8
  | 6 => tyX9
  | _ => tyX10
theorem zcl_ty : ∀ (ci : Nat) (q : vw_C), zcl[ci]? = some q → ∀ k, k < q.2.2 → parseFieldDescriptor (q.2.1 k).2.2.1 = some (zty ci k) := by
  intro ci q hq
  match ci, hq with
  | 0, hq => cases hq; exact tyX0_ok
  | 1, hq => cases hq; exact tyX2_ok
  | 2, hq => cases hq; exact tyX3_ok
  | 3, hq => cases hq; exact tyX4_ok
  | 4, hq => cases hq; exact tyX5_ok
  | 5, hq => cases hq; exact tyX8_ok
  | 6, hq => cases hq; exact tyX9_ok
  | 7, hq => cases hq; exact tyX10_ok
  | k + 8, hq => simp [zcl] at hq
def zf1 {α : Type} : List (Nat × α) → Nat → Option α
  | [], _ => none
  | q :: t, a => bif Nat.beq q.1 a then some q.2 else zf1 t a
def zf2 {α : Type} : List (Nat × Nat × α) → Nat → Nat → Option α
  | [], _, _ => none
  | q :: t, a, b => bif Nat.beq q.1 a && Nat.beq q.2.1 b then some q.2.2 else zf2 t a b
theorem zf1_mem {α : Type} {l : List (Nat × α)} {a : Nat} {x : α} (h : zf1 l a = some x) : (a, x) ∈ l := by
  induction l with
  | nil => simp [zf1] at h
  | cons q t ih =>
    obtain ⟨q1, q3⟩ := q
    simp only [zf1] at h
    cases hc : Nat.beq q1 a with
    | true =>
      rw [hc] at h
      cases h
      rw [Nat.eq_of_beq_eq_true hc]
      exact List.mem_cons_self
    | false => rw [hc] at h; exact List.mem_cons_of_mem _ (ih h)
theorem zf2_mem {α : Type} {l : List (Nat × Nat × α)} {a b : Nat} {x : α} (h : zf2 l a b = some x) : (a, b, x) ∈ l := by
  induction l with
  | nil => simp [zf2] at h
  | cons q t ih =>
    obtain ⟨q1, q2, q3⟩ := q
    simp only [zf2] at h
    cases hc : (Nat.beq q1 a && Nat.beq q2 b) with
    | true =>
      rw [hc] at h
      simp only [Bool.and_eq_true] at hc
      cases h
      rw [Nat.eq_of_beq_eq_true hc.1, Nat.eq_of_beq_eq_true hc.2]
      exact List.mem_cons_self
    | false => rw [hc] at h; exact List.mem_cons_of_mem _ (ih h)
/-- an entry by class and index -/
def zq1 {α : Type} (T : List (List (Nat × α))) (o idx : Nat) : Option α := match T[o]? with
  | some l => zf1 l idx
  | none => none
def zq2 {α : Type} (T : List (List (Nat × Nat × α))) (o idx ci : Nat) : Option α := match T[o]? with
  | some l => zf2 l idx ci
  | none => none
theorem zq1_ok {α : Type} {T : List (List (Nat × α))} {ck : Nat → Nat × α → Bool} (hT : ∀ (o : Nat) (l : List (Nat × α)), T[o]? = some l → ∀ q ∈ l, ck o q = true) {o idx : Nat} {x : α} (h : zq1 T o idx = some x) : ck o (idx, x) = true := by
  unfold zq1 at h
  split at h
  · rename_i l hl
    exact hT o l hl _ (zf1_mem h)
  · cases h
theorem zq2_ok {α : Type} {T : List (List (Nat × Nat × α))} {ck : Nat → Nat × Nat × α → Bool} (hT : ∀ (o : Nat) (l : List (Nat × Nat × α)), T[o]? = some l → ∀ q ∈ l, ck o q = true) {o idx ci : Nat} {x : α} (h : zq2 T o idx ci = some x) : ck o (idx, ci, x) = true := by
  unfold zq2 at h
  split at h
  · rename_i l hl
    exact hT o l hl _ (zf2_mem h)
  · cases h
