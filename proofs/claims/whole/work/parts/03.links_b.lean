def zFL_0_0 : List (Nat × Nat × Nat × Nat × Bool) := []
set_option maxRecDepth 100000 in
theorem zFL_0_0_ok : zFL_0_0.all (zckF 0) = true := by decide +kernel
def zFL_0 : List (Nat × Nat × Nat × Nat × Bool) := zFL_0_0
theorem zFL_0_ok : ∀ q ∈ zFL_0, zckF 0 q = true := List.all_eq_true.mp zFL_0_0_ok
def zFL_1_0 : List (Nat × Nat × Nat × Nat × Bool) := [(9, 2, 2, 1099, true), (15, 2, 1, 1096, true), (28, 2, 0, 1092, true)]
set_option maxRecDepth 100000 in
theorem zFL_1_0_ok : zFL_1_0.all (zckF 1) = true := by decide +kernel
def zFL_1 : List (Nat × Nat × Nat × Nat × Bool) := zFL_1_0
theorem zFL_1_ok : ∀ q ∈ zFL_1, zckF 1 q = true := List.all_eq_true.mp zFL_1_0_ok
def zFL_2_0 : List (Nat × Nat × Nat × Nat × Bool) := []
set_option maxRecDepth 100000 in
theorem zFL_2_0_ok : zFL_2_0.all (zckF 2) = true := by decide +kernel
def zFL_2 : List (Nat × Nat × Nat × Nat × Bool) := zFL_2_0
theorem zFL_2_ok : ∀ q ∈ zFL_2, zckF 2 q = true := List.all_eq_true.mp zFL_2_0_ok
def zFL_3_0 : List (Nat × Nat × Nat × Nat × Bool) := [(9, 2, 0, 1091, false), (15, 2, 3, 1103, false), (19, 2, 4, 1104, false), (22, 2, 5, 1105, false), (25, 2, 7, 1108, false), (29, 2, 8, 1110, false), (32, 2, 9, 1112, false), (35, 2, 10, 1114, false), (38, 2, 1, 1095, false), (42, 2, 2, 1100, false), (72, 2, 6, 1107, false), (49, 0, 0, 1042, false), (49, 1, 0, 1042, false), (49, 4, 0, 1042, false)]
set_option maxRecDepth 100000 in
theorem zFL_3_0_ok : zFL_3_0.all (zckF 3) = true := by decide +kernel
def zFL_3 : List (Nat × Nat × Nat × Nat × Bool) := zFL_3_0
theorem zFL_3_ok : ∀ q ∈ zFL_3, zckF 3 q = true := List.all_eq_true.mp zFL_3_0_ok
def zFL_4_0 : List (Nat × Nat × Nat × Nat × Bool) := [(9, 3, 0, 1162, false), (15, 3, 1, 1163, false), (19, 3, 2, 1164, false), (23, 3, 3, 1166, false), (26, 3, 4, 1167, false), (29, 3, 5, 1168, false), (45, 5, 1, 1149, true)]
set_option maxRecDepth 100000 in
theorem zFL_4_0_ok : zFL_4_0.all (zckF 4) = true := by decide +kernel
def zFL_4 : List (Nat × Nat × Nat × Nat × Bool) := zFL_4_0
theorem zFL_4_ok : ∀ q ∈ zFL_4, zckF 4 q = true := List.all_eq_true.mp zFL_4_0_ok
def zFL_5_0 : List (Nat × Nat × Nat × Nat × Bool) := [(13, 4, 1, 1066, false), (19, 4, 2, 1067, false), (22, 4, 3, 1068, false), (26, 4, 4, 1069, false), (29, 4, 5, 1070, false), (67, 3, 2, 1165, true)]
set_option maxRecDepth 100000 in
theorem zFL_5_0_ok : zFL_5_0.all (zckF 5) = true := by decide +kernel
def zFL_5 : List (Nat × Nat × Nat × Nat × Bool) := zFL_5_0
theorem zFL_5_ok : ∀ q ∈ zFL_5, zckF 5 q = true := List.all_eq_true.mp zFL_5_0_ok
def zFL_6_0 : List (Nat × Nat × Nat × Nat × Bool) := [(7, 0, 0, 1041, false), (7, 1, 0, 1041, false), (7, 4, 0, 1041, false)]
set_option maxRecDepth 100000 in
theorem zFL_6_0_ok : zFL_6_0.all (zckF 6) = true := by decide +kernel
def zFL_6 : List (Nat × Nat × Nat × Nat × Bool) := zFL_6_0
theorem zFL_6_ok : ∀ q ∈ zFL_6, zckF 6 q = true := List.all_eq_true.mp zFL_6_0_ok
def zFL_7_0 : List (Nat × Nat × Nat × Nat × Bool) := [(39, 2, 0, 1093, true), (51, 2, 1, 1097, true), (55, 2, 2, 1101, true)]
set_option maxRecDepth 100000 in
theorem zFL_7_0_ok : zFL_7_0.all (zckF 7) = true := by decide +kernel
def zFL_7 : List (Nat × Nat × Nat × Nat × Bool) := zFL_7_0
theorem zFL_7_ok : ∀ q ∈ zFL_7, zckF 7 q = true := List.all_eq_true.mp zFL_7_0_ok
def zFL_8_0 : List (Nat × Nat × Nat × Nat × Bool) := [(15, 5, 0, 1147, false), (21, 5, 1, 1148, false)]
set_option maxRecDepth 100000 in
theorem zFL_8_0_ok : zFL_8_0.all (zckF 8) = true := by decide +kernel
def zFL_8 : List (Nat × Nat × Nat × Nat × Bool) := zFL_8_0
theorem zFL_8_ok : ∀ q ∈ zFL_8, zckF 8 q = true := List.all_eq_true.mp zFL_8_0_ok
def zFL_9_0 : List (Nat × Nat × Nat × Nat × Bool) := [(20, 6, 0, 1182, false), (31, 6, 1, 1183, false), (35, 6, 5, 1187, false), (39, 6, 6, 1188, false), (42, 6, 7, 1189, false), (48, 6, 2, 1184, false), (52, 6, 3, 1185, false), (60, 6, 4, 1186, false), (259, 5, 1, 1150, true), (146, 0, 0, 1043, false), (146, 1, 0, 1043, false), (146, 4, 0, 1043, false), (91, 2, 0, 1094, true), (122, 2, 6, 1106, true), (130, 2, 2, 1102, true), (133, 2, 1, 1098, true), (200, 2, 7, 1109, true), (204, 2, 8, 1111, true), (207, 2, 9, 1113, true), (210, 2, 10, 1115, true)]
set_option maxRecDepth 100000 in
theorem zFL_9_0_ok : zFL_9_0.all (zckF 9) = true := by decide +kernel
def zFL_9 : List (Nat × Nat × Nat × Nat × Bool) := zFL_9_0
theorem zFL_9_ok : ∀ q ∈ zFL_9, zckF 9 q = true := List.all_eq_true.mp zFL_9_0_ok
def zFL_10_0 : List (Nat × Nat × Nat × Nat × Bool) := [(7, 7, 0, 5112, false), (13, 7, 5, 5117, false), (16, 7, 6, 5118, false), (19, 7, 7, 5119, false), (22, 7, 10, 5122, false), (25, 7, 11, 5123, false), (28, 7, 12, 5124, false), (31, 7, 18, 5130, false), (34, 7, 21, 5133, false), (37, 7, 1, 5113, false), (59, 7, 4, 5116, false), (63, 7, 2, 5114, false), (66, 7, 3, 5115, false), (173, 7, 8, 5120, false), (176, 7, 9, 5121, false), (278, 7, 13, 5125, false), (281, 7, 14, 5126, false), (288, 7, 15, 5127, false), (329, 7, 19, 5131, false), (332, 7, 20, 5132, false), (307, 7, 16, 5128, false), (310, 7, 17, 5129, false), (344, 7, 22, 5134, false)]
set_option maxRecDepth 100000 in
theorem zFL_10_0_ok : zFL_10_0.all (zckF 10) = true := by decide +kernel
def zFL_10 : List (Nat × Nat × Nat × Nat × Bool) := zFL_10_0
theorem zFL_10_ok : ∀ q ∈ zFL_10, zckF 10 q = true := List.all_eq_true.mp zFL_10_0_ok
def zFL_11_0 : List (Nat × Nat × Nat × Nat × Bool) := []
set_option maxRecDepth 100000 in
theorem zFL_11_0_ok : zFL_11_0.all (zckF 11) = true := by decide +kernel
def zFL_11 : List (Nat × Nat × Nat × Nat × Bool) := zFL_11_0
theorem zFL_11_ok : ∀ q ∈ zFL_11, zckF 11 q = true := List.all_eq_true.mp zFL_11_0_ok
def zFL_12_0 : List (Nat × Nat × Nat × Nat × Bool) := []
set_option maxRecDepth 100000 in
theorem zFL_12_0_ok : zFL_12_0.all (zckF 12) = true := by decide +kernel
def zFL_12 : List (Nat × Nat × Nat × Nat × Bool) := zFL_12_0
theorem zFL_12_ok : ∀ q ∈ zFL_12, zckF 12 q = true := List.all_eq_true.mp zFL_12_0_ok
def zFL_13_0 : List (Nat × Nat × Nat × Nat × Bool) := []
set_option maxRecDepth 100000 in
theorem zFL_13_0_ok : zFL_13_0.all (zckF 13) = true := by decide +kernel
def zFL_13 : List (Nat × Nat × Nat × Nat × Bool) := zFL_13_0
theorem zFL_13_ok : ∀ q ∈ zFL_13, zckF 13 q = true := List.all_eq_true.mp zFL_13_0_ok
def zFL_14_0 : List (Nat × Nat × Nat × Nat × Bool) := []
set_option maxRecDepth 100000 in
theorem zFL_14_0_ok : zFL_14_0.all (zckF 14) = true := by decide +kernel
def zFL_14 : List (Nat × Nat × Nat × Nat × Bool) := zFL_14_0
theorem zFL_14_ok : ∀ q ∈ zFL_14, zckF 14 q = true := List.all_eq_true.mp zFL_14_0_ok
def zFL : List (List (Nat × Nat × Nat × Nat × Bool)) := [zFL_0, zFL_1, zFL_2, zFL_3, zFL_4, zFL_5, zFL_6, zFL_7, zFL_8, zFL_9, zFL_10, zFL_11, zFL_12, zFL_13, zFL_14]
theorem zFL_ok : ∀ (o : Nat) (l : List (Nat × Nat × Nat × Nat × Bool)), zFL[o]? = some l → ∀ q ∈ l, zckF o q = true := by
  intro o l h
  match o, h with
  | 0, h => cases h; exact zFL_0_ok
  | 1, h => cases h; exact zFL_1_ok
  | 2, h => cases h; exact zFL_2_ok
  | 3, h => cases h; exact zFL_3_ok
  | 4, h => cases h; exact zFL_4_ok
  | 5, h => cases h; exact zFL_5_ok
  | 6, h => cases h; exact zFL_6_ok
  | 7, h => cases h; exact zFL_7_ok
  | 8, h => cases h; exact zFL_8_ok
  | 9, h => cases h; exact zFL_9_ok
  | 10, h => cases h; exact zFL_10_ok
  | 11, h => cases h; exact zFL_11_ok
  | 12, h => cases h; exact zFL_12_ok
  | 13, h => cases h; exact zFL_13_ok
  | 14, h => cases h; exact zFL_14_ok
  | k + 15, h => simp [zFL] at h
def zCI_0_0 : List (Nat × Int32 × Nat) := []
set_option maxRecDepth 100000 in
theorem zCI_0_0_ok : zCI_0_0.all (zckCI 0) = true := by decide +kernel
def zCI_0 : List (Nat × Int32 × Nat) := zCI_0_0
theorem zCI_0_ok : ∀ q ∈ zCI_0, zckCI 0 q = true := List.all_eq_true.mp zCI_0_0_ok
def zCI_1_0 : List (Nat × Int32 × Nat) := []
set_option maxRecDepth 100000 in
theorem zCI_1_0_ok : zCI_1_0.all (zckCI 1) = true := by decide +kernel
def zCI_1 : List (Nat × Int32 × Nat) := zCI_1_0
theorem zCI_1_ok : ∀ q ∈ zCI_1, zckCI 1 q = true := List.all_eq_true.mp zCI_1_0_ok
def zCI_2_0 : List (Nat × Int32 × Nat) := [(54, (1000000000), 5042)]
set_option maxRecDepth 100000 in
theorem zCI_2_0_ok : zCI_2_0.all (zckCI 2) = true := by decide +kernel
def zCI_2 : List (Nat × Int32 × Nat) := zCI_2_0
theorem zCI_2_ok : ∀ q ∈ zCI_2, zckCI 2 q = true := List.all_eq_true.mp zCI_2_0_ok
def zCI_3_0 : List (Nat × Int32 × Nat) := []
set_option maxRecDepth 100000 in
theorem zCI_3_0_ok : zCI_3_0.all (zckCI 3) = true := by decide +kernel
def zCI_3 : List (Nat × Int32 × Nat) := zCI_3_0
theorem zCI_3_ok : ∀ q ∈ zCI_3, zckCI 3 q = true := List.all_eq_true.mp zCI_3_0_ok
def zCI_4_0 : List (Nat × Int32 × Nat) := []
set_option maxRecDepth 100000 in
theorem zCI_4_0_ok : zCI_4_0.all (zckCI 4) = true := by decide +kernel
def zCI_4 : List (Nat × Int32 × Nat) := zCI_4_0
theorem zCI_4_ok : ∀ q ∈ zCI_4, zckCI 4 q = true := List.all_eq_true.mp zCI_4_0_ok
def zCI_5_0 : List (Nat × Int32 × Nat) := []
set_option maxRecDepth 100000 in
theorem zCI_5_0_ok : zCI_5_0.all (zckCI 5) = true := by decide +kernel
def zCI_5 : List (Nat × Int32 × Nat) := zCI_5_0
theorem zCI_5_ok : ∀ q ∈ zCI_5, zckCI 5 q = true := List.all_eq_true.mp zCI_5_0_ok
def zCI_6_0 : List (Nat × Int32 × Nat) := []
set_option maxRecDepth 100000 in
theorem zCI_6_0_ok : zCI_6_0.all (zckCI 6) = true := by decide +kernel
def zCI_6 : List (Nat × Int32 × Nat) := zCI_6_0
theorem zCI_6_ok : ∀ q ∈ zCI_6, zckCI 6 q = true := List.all_eq_true.mp zCI_6_0_ok
def zCI_7_0 : List (Nat × Int32 × Nat) := []
set_option maxRecDepth 100000 in
theorem zCI_7_0_ok : zCI_7_0.all (zckCI 7) = true := by decide +kernel
def zCI_7 : List (Nat × Int32 × Nat) := zCI_7_0
theorem zCI_7_ok : ∀ q ∈ zCI_7, zckCI 7 q = true := List.all_eq_true.mp zCI_7_0_ok
def zCI_8_0 : List (Nat × Int32 × Nat) := []
set_option maxRecDepth 100000 in
theorem zCI_8_0_ok : zCI_8_0.all (zckCI 8) = true := by decide +kernel
def zCI_8 : List (Nat × Int32 × Nat) := zCI_8_0
theorem zCI_8_ok : ∀ q ∈ zCI_8, zckCI 8 q = true := List.all_eq_true.mp zCI_8_0_ok
def zCI_9_0 : List (Nat × Int32 × Nat) := []
set_option maxRecDepth 100000 in
theorem zCI_9_0_ok : zCI_9_0.all (zckCI 9) = true := by decide +kernel
def zCI_9 : List (Nat × Int32 × Nat) := zCI_9_0
theorem zCI_9_ok : ∀ q ∈ zCI_9, zckCI 9 q = true := List.all_eq_true.mp zCI_9_0_ok
def zCI_10_0 : List (Nat × Int32 × Nat) := []
set_option maxRecDepth 100000 in
theorem zCI_10_0_ok : zCI_10_0.all (zckCI 10) = true := by decide +kernel
def zCI_10 : List (Nat × Int32 × Nat) := zCI_10_0
theorem zCI_10_ok : ∀ q ∈ zCI_10, zckCI 10 q = true := List.all_eq_true.mp zCI_10_0_ok
def zCI_11_0 : List (Nat × Int32 × Nat) := []
set_option maxRecDepth 100000 in
theorem zCI_11_0_ok : zCI_11_0.all (zckCI 11) = true := by decide +kernel
def zCI_11 : List (Nat × Int32 × Nat) := zCI_11_0
theorem zCI_11_ok : ∀ q ∈ zCI_11, zckCI 11 q = true := List.all_eq_true.mp zCI_11_0_ok
def zCI_12_0 : List (Nat × Int32 × Nat) := []
set_option maxRecDepth 100000 in
theorem zCI_12_0_ok : zCI_12_0.all (zckCI 12) = true := by decide +kernel
def zCI_12 : List (Nat × Int32 × Nat) := zCI_12_0
theorem zCI_12_ok : ∀ q ∈ zCI_12, zckCI 12 q = true := List.all_eq_true.mp zCI_12_0_ok
def zCI_13_0 : List (Nat × Int32 × Nat) := []
set_option maxRecDepth 100000 in
theorem zCI_13_0_ok : zCI_13_0.all (zckCI 13) = true := by decide +kernel
def zCI_13 : List (Nat × Int32 × Nat) := zCI_13_0
theorem zCI_13_ok : ∀ q ∈ zCI_13, zckCI 13 q = true := List.all_eq_true.mp zCI_13_0_ok
def zCI_14_0 : List (Nat × Int32 × Nat) := []
set_option maxRecDepth 100000 in
theorem zCI_14_0_ok : zCI_14_0.all (zckCI 14) = true := by decide +kernel
def zCI_14 : List (Nat × Int32 × Nat) := zCI_14_0
theorem zCI_14_ok : ∀ q ∈ zCI_14, zckCI 14 q = true := List.all_eq_true.mp zCI_14_0_ok
def zCI : List (List (Nat × Int32 × Nat)) := [zCI_0, zCI_1, zCI_2, zCI_3, zCI_4, zCI_5, zCI_6, zCI_7, zCI_8, zCI_9, zCI_10, zCI_11, zCI_12, zCI_13, zCI_14]
theorem zCI_ok : ∀ (o : Nat) (l : List (Nat × Int32 × Nat)), zCI[o]? = some l → ∀ q ∈ l, zckCI o q = true := by
  intro o l h
  match o, h with
  | 0, h => cases h; exact zCI_0_ok
  | 1, h => cases h; exact zCI_1_ok
  | 2, h => cases h; exact zCI_2_ok
  | 3, h => cases h; exact zCI_3_ok
  | 4, h => cases h; exact zCI_4_ok
  | 5, h => cases h; exact zCI_5_ok
  | 6, h => cases h; exact zCI_6_ok
  | 7, h => cases h; exact zCI_7_ok
  | 8, h => cases h; exact zCI_8_ok
  | 9, h => cases h; exact zCI_9_ok
  | 10, h => cases h; exact zCI_10_ok
  | 11, h => cases h; exact zCI_11_ok
  | 12, h => cases h; exact zCI_12_ok
  | 13, h => cases h; exact zCI_13_ok
  | 14, h => cases h; exact zCI_14_ok
  | k + 15, h => simp [zCI] at h
def zCL_0_0 : List (Nat × Int64 × Nat) := [(9, (-30000), 2157), (11, (30000), 2158), (39, (2), 4006), (46, (-1), 4029), (48, (4294967296), 4030)]
set_option maxRecDepth 100000 in
theorem zCL_0_0_ok : zCL_0_0.all (zckCL 0) = true := by decide +kernel
def zCL_0 : List (Nat × Int64 × Nat) := zCL_0_0
theorem zCL_0_ok : ∀ q ∈ zCL_0, zckCL 0 q = true := List.all_eq_true.mp zCL_0_0_ok
def zCL_1_0 : List (Nat × Int64 × Nat) := [(42, (4294967296), 4039)]
set_option maxRecDepth 100000 in
theorem zCL_1_0_ok : zCL_1_0.all (zckCL 1) = true := by decide +kernel
def zCL_1 : List (Nat × Int64 × Nat) := zCL_1_0
theorem zCL_1_ok : ∀ q ∈ zCL_1, zckCL 1 q = true := List.all_eq_true.mp zCL_1_0_ok
def zCL_2_0 : List (Nat × Int64 × Nat) := [(9, (-1000000000), 2162), (11, (1000000000), 2163), (42, (-1), 4034)]
set_option maxRecDepth 100000 in
theorem zCL_2_0_ok : zCL_2_0.all (zckCL 2) = true := by decide +kernel
def zCL_2 : List (Nat × Int64 × Nat) := zCL_2_0
theorem zCL_2_ok : ∀ q ∈ zCL_2, zckCL 2 q = true := List.all_eq_true.mp zCL_2_0_ok
def zCL_3_0 : List (Nat × Int64 × Nat) := []
set_option maxRecDepth 100000 in
theorem zCL_3_0_ok : zCL_3_0.all (zckCL 3) = true := by decide +kernel
def zCL_3 : List (Nat × Int64 × Nat) := zCL_3_0
theorem zCL_3_ok : ∀ q ∈ zCL_3, zckCL 3 q = true := List.all_eq_true.mp zCL_3_0_ok
def zCL_4_0 : List (Nat × Int64 × Nat) := [(83, (10), 5030)]
set_option maxRecDepth 100000 in
theorem zCL_4_0_ok : zCL_4_0.all (zckCL 4) = true := by decide +kernel
def zCL_4 : List (Nat × Int64 × Nat) := zCL_4_0
theorem zCL_4_ok : ∀ q ∈ zCL_4, zckCL 4 q = true := List.all_eq_true.mp zCL_4_0_ok
def zCL_5_0 : List (Nat × Int64 × Nat) := [(57, (4294967296), 4038)]
set_option maxRecDepth 100000 in
theorem zCL_5_0_ok : zCL_5_0.all (zckCL 5) = true := by decide +kernel
def zCL_5 : List (Nat × Int64 × Nat) := zCL_5_0
theorem zCL_5_ok : ∀ q ∈ zCL_5, zckCL 5 q = true := List.all_eq_true.mp zCL_5_0_ok
def zCL_6_0 : List (Nat × Int64 × Nat) := [(13, (4294967295), 2178)]
set_option maxRecDepth 100000 in
theorem zCL_6_0_ok : zCL_6_0.all (zckCL 6) = true := by decide +kernel
def zCL_6 : List (Nat × Int64 × Nat) := zCL_6_0
theorem zCL_6_ok : ∀ q ∈ zCL_6, zckCL 6 q = true := List.all_eq_true.mp zCL_6_0_ok
def zCL_7_0 : List (Nat × Int64 × Nat) := [(31, (4294967296), 4079)]
set_option maxRecDepth 100000 in
theorem zCL_7_0_ok : zCL_7_0.all (zckCL 7) = true := by decide +kernel
def zCL_7 : List (Nat × Int64 × Nat) := zCL_7_0
theorem zCL_7_ok : ∀ q ∈ zCL_7, zckCL 7 q = true := List.all_eq_true.mp zCL_7_0_ok
def zCL_8_0 : List (Nat × Int64 × Nat) := [(29, (1000000000), 5083), (31, (10), 5084)]
set_option maxRecDepth 100000 in
theorem zCL_8_0_ok : zCL_8_0.all (zckCL 8) = true := by decide +kernel
def zCL_8 : List (Nat × Int64 × Nat) := zCL_8_0
theorem zCL_8_ok : ∀ q ∈ zCL_8, zckCL 8 q = true := List.all_eq_true.mp zCL_8_0_ok
def zCL_9_0 : List (Nat × Int64 × Nat) := [(224, (4294967296), 3041), (230, (1000000000000000000), 4158)]
set_option maxRecDepth 100000 in
theorem zCL_9_0_ok : zCL_9_0.all (zckCL 9) = true := by decide +kernel
def zCL_9 : List (Nat × Int64 × Nat) := zCL_9_0
theorem zCL_9_ok : ∀ q ∈ zCL_9, zckCL 9 q = true := List.all_eq_true.mp zCL_9_0_ok
def zCL_10_0 : List (Nat × Int64 × Nat) := [(198, (4), 5205), (98, (2), 5193), (41, (3), 5204), (47, (-30000), 5229), (49, (30000), 5230), (51, (-1000000000), 5231), (53, (1000000000), 5232), (96, (2000000000), 6157), (100, (60000), 6158), (248, (-1), 6209), (262, (1000000000000000000), 7006), (276, (255), 7047), (295, (10), 7094), (284, (48), 7092), (286, (57), 7093)]
set_option maxRecDepth 100000 in
theorem zCL_10_0_ok : zCL_10_0.all (zckCL 10) = true := by decide +kernel
def zCL_10 : List (Nat × Int64 × Nat) := zCL_10_0
theorem zCL_10_ok : ∀ q ∈ zCL_10, zckCL 10 q = true := List.all_eq_true.mp zCL_10_0_ok
def zCL_11_0 : List (Nat × Int64 × Nat) := []
set_option maxRecDepth 100000 in
theorem zCL_11_0_ok : zCL_11_0.all (zckCL 11) = true := by decide +kernel
def zCL_11 : List (Nat × Int64 × Nat) := zCL_11_0
theorem zCL_11_ok : ∀ q ∈ zCL_11, zckCL 11 q = true := List.all_eq_true.mp zCL_11_0_ok
def zCL_12_0 : List (Nat × Int64 × Nat) := []
set_option maxRecDepth 100000 in
theorem zCL_12_0_ok : zCL_12_0.all (zckCL 12) = true := by decide +kernel
def zCL_12 : List (Nat × Int64 × Nat) := zCL_12_0
theorem zCL_12_ok : ∀ q ∈ zCL_12, zckCL 12 q = true := List.all_eq_true.mp zCL_12_0_ok
def zCL_13_0 : List (Nat × Int64 × Nat) := []
set_option maxRecDepth 100000 in
theorem zCL_13_0_ok : zCL_13_0.all (zckCL 13) = true := by decide +kernel
def zCL_13 : List (Nat × Int64 × Nat) := zCL_13_0
theorem zCL_13_ok : ∀ q ∈ zCL_13, zckCL 13 q = true := List.all_eq_true.mp zCL_13_0_ok
def zCL_14_0 : List (Nat × Int64 × Nat) := []
set_option maxRecDepth 100000 in
theorem zCL_14_0_ok : zCL_14_0.all (zckCL 14) = true := by decide +kernel
def zCL_14 : List (Nat × Int64 × Nat) := zCL_14_0
theorem zCL_14_ok : ∀ q ∈ zCL_14, zckCL 14 q = true := List.all_eq_true.mp zCL_14_0_ok
def zCL : List (List (Nat × Int64 × Nat)) := [zCL_0, zCL_1, zCL_2, zCL_3, zCL_4, zCL_5, zCL_6, zCL_7, zCL_8, zCL_9, zCL_10, zCL_11, zCL_12, zCL_13, zCL_14]
theorem zCL_ok : ∀ (o : Nat) (l : List (Nat × Int64 × Nat)), zCL[o]? = some l → ∀ q ∈ l, zckCL o q = true := by
  intro o l h
  match o, h with
  | 0, h => cases h; exact zCL_0_ok
  | 1, h => cases h; exact zCL_1_ok
  | 2, h => cases h; exact zCL_2_ok
  | 3, h => cases h; exact zCL_3_ok
  | 4, h => cases h; exact zCL_4_ok
  | 5, h => cases h; exact zCL_5_ok
  | 6, h => cases h; exact zCL_6_ok
  | 7, h => cases h; exact zCL_7_ok
  | 8, h => cases h; exact zCL_8_ok
  | 9, h => cases h; exact zCL_9_ok
  | 10, h => cases h; exact zCL_10_ok
  | 11, h => cases h; exact zCL_11_ok
  | 12, h => cases h; exact zCL_12_ok
  | 13, h => cases h; exact zCL_13_ok
  | 14, h => cases h; exact zCL_14_ok
  | k + 15, h => simp [zCL] at h
def zNW_0_0 : List (Nat × Nat × Nat × Nat × Nat) := []
set_option maxRecDepth 100000 in
theorem zNW_0_0_ok : zNW_0_0.all (zckNW 0) = true := by decide +kernel
def zNW_0 : List (Nat × Nat × Nat × Nat × Nat) := zNW_0_0
theorem zNW_0_ok : ∀ q ∈ zNW_0, zckNW 0 q = true := List.all_eq_true.mp zNW_0_0_ok
def zNW_1_0 : List (Nat × Nat × Nat × Nat × Nat) := []
set_option maxRecDepth 100000 in
theorem zNW_1_0_ok : zNW_1_0.all (zckNW 1) = true := by decide +kernel
def zNW_1 : List (Nat × Nat × Nat × Nat × Nat) := zNW_1_0
theorem zNW_1_ok : ∀ q ∈ zNW_1, zckNW 1 q = true := List.all_eq_true.mp zNW_1_0_ok
def zNW_2_0 : List (Nat × Nat × Nat × Nat × Nat) := []
set_option maxRecDepth 100000 in
theorem zNW_2_0_ok : zNW_2_0.all (zckNW 2) = true := by decide +kernel
def zNW_2 : List (Nat × Nat × Nat × Nat × Nat) := zNW_2_0
theorem zNW_2_ok : ∀ q ∈ zNW_2, zckNW 2 q = true := List.all_eq_true.mp zNW_2_0_ok
def zNW_3_0 : List (Nat × Nat × Nat × Nat × Nat) := []
set_option maxRecDepth 100000 in
theorem zNW_3_0_ok : zNW_3_0.all (zckNW 3) = true := by decide +kernel
def zNW_3 : List (Nat × Nat × Nat × Nat × Nat) := zNW_3_0
theorem zNW_3_ok : ∀ q ∈ zNW_3, zckNW 3 q = true := List.all_eq_true.mp zNW_3_0_ok
def zNW_4_0 : List (Nat × Nat × Nat × Nat × Nat) := []
set_option maxRecDepth 100000 in
theorem zNW_4_0_ok : zNW_4_0.all (zckNW 4) = true := by decide +kernel
def zNW_4 : List (Nat × Nat × Nat × Nat × Nat) := zNW_4_0
theorem zNW_4_ok : ∀ q ∈ zNW_4, zckNW 4 q = true := List.all_eq_true.mp zNW_4_0_ok
def zNW_5_0 : List (Nat × Nat × Nat × Nat × Nat) := []
set_option maxRecDepth 100000 in
theorem zNW_5_0_ok : zNW_5_0.all (zckNW 5) = true := by decide +kernel
def zNW_5 : List (Nat × Nat × Nat × Nat × Nat) := zNW_5_0
theorem zNW_5_ok : ∀ q ∈ zNW_5, zckNW 5 q = true := List.all_eq_true.mp zNW_5_0_ok
def zNW_6_0 : List (Nat × Nat × Nat × Nat × Nat) := []
set_option maxRecDepth 100000 in
theorem zNW_6_0_ok : zNW_6_0.all (zckNW 6) = true := by decide +kernel
def zNW_6 : List (Nat × Nat × Nat × Nat × Nat) := zNW_6_0
theorem zNW_6_ok : ∀ q ∈ zNW_6, zckNW 6 q = true := List.all_eq_true.mp zNW_6_0_ok
def zNW_7_0 : List (Nat × Nat × Nat × Nat × Nat) := []
set_option maxRecDepth 100000 in
theorem zNW_7_0_ok : zNW_7_0.all (zckNW 7) = true := by decide +kernel
def zNW_7 : List (Nat × Nat × Nat × Nat × Nat) := zNW_7_0
theorem zNW_7_ok : ∀ q ∈ zNW_7, zckNW 7 q = true := List.all_eq_true.mp zNW_7_0_ok
def zNW_8_0 : List (Nat × Nat × Nat × Nat × Nat) := []
set_option maxRecDepth 100000 in
theorem zNW_8_0_ok : zNW_8_0.all (zckNW 8) = true := by decide +kernel
def zNW_8 : List (Nat × Nat × Nat × Nat × Nat) := zNW_8_0
theorem zNW_8_ok : ∀ q ∈ zNW_8, zckNW 8 q = true := List.all_eq_true.mp zNW_8_0_ok
def zNW_9_0 : List (Nat × Nat × Nat × Nat × Nat) := [(7, 1, 1032, 1033, 1003), (12, 0, 1049, 1050, 1004), (15, 4, 1057, 1058, 1005), (26, 2, 1084, 1086, 1007), (45, 5, 1140, 1141, 1008), (55, 3, 1156, 1157, 1009)]
set_option maxRecDepth 100000 in
theorem zNW_9_0_ok : zNW_9_0.all (zckNW 9) = true := by decide +kernel
def zNW_9 : List (Nat × Nat × Nat × Nat × Nat) := zNW_9_0
theorem zNW_9_ok : ∀ q ∈ zNW_9, zckNW 9 q = true := List.all_eq_true.mp zNW_9_0_ok
def zNW_10_0 : List (Nat × Nat × Nat × Nat × Nat) := []
set_option maxRecDepth 100000 in
theorem zNW_10_0_ok : zNW_10_0.all (zckNW 10) = true := by decide +kernel
def zNW_10 : List (Nat × Nat × Nat × Nat × Nat) := zNW_10_0
theorem zNW_10_ok : ∀ q ∈ zNW_10, zckNW 10 q = true := List.all_eq_true.mp zNW_10_0_ok
def zNW_11_0 : List (Nat × Nat × Nat × Nat × Nat) := [(8, 6, 1024, 1025, 1001), (126, 7, 5106, 5107, 1010)]
set_option maxRecDepth 100000 in
theorem zNW_11_0_ok : zNW_11_0.all (zckNW 11) = true := by decide +kernel
def zNW_11 : List (Nat × Nat × Nat × Nat × Nat) := zNW_11_0
theorem zNW_11_ok : ∀ q ∈ zNW_11, zckNW 11 q = true := List.all_eq_true.mp zNW_11_0_ok
def zNW_12_0 : List (Nat × Nat × Nat × Nat × Nat) := []
set_option maxRecDepth 100000 in
theorem zNW_12_0_ok : zNW_12_0.all (zckNW 12) = true := by decide +kernel
def zNW_12 : List (Nat × Nat × Nat × Nat × Nat) := zNW_12_0
theorem zNW_12_ok : ∀ q ∈ zNW_12, zckNW 12 q = true := List.all_eq_true.mp zNW_12_0_ok
def zNW_13_0 : List (Nat × Nat × Nat × Nat × Nat) := []
set_option maxRecDepth 100000 in
theorem zNW_13_0_ok : zNW_13_0.all (zckNW 13) = true := by decide +kernel
def zNW_13 : List (Nat × Nat × Nat × Nat × Nat) := zNW_13_0
theorem zNW_13_ok : ∀ q ∈ zNW_13, zckNW 13 q = true := List.all_eq_true.mp zNW_13_0_ok
def zNW_14_0 : List (Nat × Nat × Nat × Nat × Nat) := []
set_option maxRecDepth 100000 in
theorem zNW_14_0_ok : zNW_14_0.all (zckNW 14) = true := by decide +kernel
def zNW_14 : List (Nat × Nat × Nat × Nat × Nat) := zNW_14_0
theorem zNW_14_ok : ∀ q ∈ zNW_14, zckNW 14 q = true := List.all_eq_true.mp zNW_14_0_ok
def zNW : List (List (Nat × Nat × Nat × Nat × Nat)) := [zNW_0, zNW_1, zNW_2, zNW_3, zNW_4, zNW_5, zNW_6, zNW_7, zNW_8, zNW_9, zNW_10, zNW_11, zNW_12, zNW_13, zNW_14]
theorem zNW_ok : ∀ (o : Nat) (l : List (Nat × Nat × Nat × Nat × Nat)), zNW[o]? = some l → ∀ q ∈ l, zckNW o q = true := by
  intro o l h
  match o, h with
  | 0, h => cases h; exact zNW_0_ok
  | 1, h => cases h; exact zNW_1_ok
  | 2, h => cases h; exact zNW_2_ok
  | 3, h => cases h; exact zNW_3_ok
  | 4, h => cases h; exact zNW_4_ok
  | 5, h => cases h; exact zNW_5_ok
  | 6, h => cases h; exact zNW_6_ok
  | 7, h => cases h; exact zNW_7_ok
  | 8, h => cases h; exact zNW_8_ok
  | 9, h => cases h; exact zNW_9_ok
  | 10, h => cases h; exact zNW_10_ok
  | 11, h => cases h; exact zNW_11_ok
  | 12, h => cases h; exact zNW_12_ok
  | 13, h => cases h; exact zNW_13_ok
  | 14, h => cases h; exact zNW_14_ok
  | k + 15, h => simp [zNW] at h
def zAW_0_0 : List (Nat × Nat × Nat) := []
set_option maxRecDepth 100000 in
theorem zAW_0_0_ok : zAW_0_0.all (zckAW 0) = true := by decide +kernel
def zAW_0 : List (Nat × Nat × Nat) := zAW_0_0
theorem zAW_0_ok : ∀ q ∈ zAW_0, zckAW 0 q = true := List.all_eq_true.mp zAW_0_0_ok
def zAW_1_0 : List (Nat × Nat × Nat) := []
set_option maxRecDepth 100000 in
theorem zAW_1_0_ok : zAW_1_0.all (zckAW 1) = true := by decide +kernel
def zAW_1 : List (Nat × Nat × Nat) := zAW_1_0
theorem zAW_1_ok : ∀ q ∈ zAW_1, zckAW 1 q = true := List.all_eq_true.mp zAW_1_0_ok
def zAW_2_0 : List (Nat × Nat × Nat) := []
set_option maxRecDepth 100000 in
theorem zAW_2_0_ok : zAW_2_0.all (zckAW 2) = true := by decide +kernel
def zAW_2 : List (Nat × Nat × Nat) := zAW_2_0
theorem zAW_2_ok : ∀ q ∈ zAW_2, zckAW 2 q = true := List.all_eq_true.mp zAW_2_0_ok
def zAW_3_0 : List (Nat × Nat × Nat) := []
set_option maxRecDepth 100000 in
theorem zAW_3_0_ok : zAW_3_0.all (zckAW 3) = true := by decide +kernel
def zAW_3 : List (Nat × Nat × Nat) := zAW_3_0
theorem zAW_3_ok : ∀ q ∈ zAW_3, zckAW 3 q = true := List.all_eq_true.mp zAW_3_0_ok
def zAW_4_0 : List (Nat × Nat × Nat) := []
set_option maxRecDepth 100000 in
theorem zAW_4_0_ok : zAW_4_0.all (zckAW 4) = true := by decide +kernel
def zAW_4 : List (Nat × Nat × Nat) := zAW_4_0
theorem zAW_4_ok : ∀ q ∈ zAW_4, zckAW 4 q = true := List.all_eq_true.mp zAW_4_0_ok
def zAW_5_0 : List (Nat × Nat × Nat) := []
set_option maxRecDepth 100000 in
theorem zAW_5_0_ok : zAW_5_0.all (zckAW 5) = true := by decide +kernel
def zAW_5 : List (Nat × Nat × Nat) := zAW_5_0
theorem zAW_5_ok : ∀ q ∈ zAW_5, zckAW 5 q = true := List.all_eq_true.mp zAW_5_0_ok
def zAW_6_0 : List (Nat × Nat × Nat) := []
set_option maxRecDepth 100000 in
theorem zAW_6_0_ok : zAW_6_0.all (zckAW 6) = true := by decide +kernel
def zAW_6 : List (Nat × Nat × Nat) := zAW_6_0
theorem zAW_6_ok : ∀ q ∈ zAW_6, zckAW 6 q = true := List.all_eq_true.mp zAW_6_0_ok
def zAW_7_0 : List (Nat × Nat × Nat) := []
set_option maxRecDepth 100000 in
theorem zAW_7_0_ok : zAW_7_0.all (zckAW 7) = true := by decide +kernel
def zAW_7 : List (Nat × Nat × Nat) := zAW_7_0
theorem zAW_7_ok : ∀ q ∈ zAW_7, zckAW 7 q = true := List.all_eq_true.mp zAW_7_0_ok
def zAW_8_0 : List (Nat × Nat × Nat) := []
set_option maxRecDepth 100000 in
theorem zAW_8_0_ok : zAW_8_0.all (zckAW 8) = true := by decide +kernel
def zAW_8 : List (Nat × Nat × Nat) := zAW_8_0
theorem zAW_8_ok : ∀ q ∈ zAW_8, zckAW 8 q = true := List.all_eq_true.mp zAW_8_0_ok
def zAW_9_0 : List (Nat × Nat × Nat) := [(10, 3, 1047), (26, 2, 1084)]
set_option maxRecDepth 100000 in
theorem zAW_9_0_ok : zAW_9_0.all (zckAW 9) = true := by decide +kernel
def zAW_9 : List (Nat × Nat × Nat) := zAW_9_0
theorem zAW_9_ok : ∀ q ∈ zAW_9, zckAW 9 q = true := List.all_eq_true.mp zAW_9_0_ok
def zAW_10_0 : List (Nat × Nat × Nat) := []
set_option maxRecDepth 100000 in
theorem zAW_10_0_ok : zAW_10_0.all (zckAW 10) = true := by decide +kernel
def zAW_10 : List (Nat × Nat × Nat) := zAW_10_0
theorem zAW_10_ok : ∀ q ∈ zAW_10, zckAW 10 q = true := List.all_eq_true.mp zAW_10_0_ok
def zAW_11_0 : List (Nat × Nat × Nat) := []
set_option maxRecDepth 100000 in
theorem zAW_11_0_ok : zAW_11_0.all (zckAW 11) = true := by decide +kernel
def zAW_11 : List (Nat × Nat × Nat) := zAW_11_0
theorem zAW_11_ok : ∀ q ∈ zAW_11, zckAW 11 q = true := List.all_eq_true.mp zAW_11_0_ok
def zAW_12_0 : List (Nat × Nat × Nat) := []
set_option maxRecDepth 100000 in
theorem zAW_12_0_ok : zAW_12_0.all (zckAW 12) = true := by decide +kernel
def zAW_12 : List (Nat × Nat × Nat) := zAW_12_0
theorem zAW_12_ok : ∀ q ∈ zAW_12, zckAW 12 q = true := List.all_eq_true.mp zAW_12_0_ok
def zAW_13_0 : List (Nat × Nat × Nat) := []
set_option maxRecDepth 100000 in
theorem zAW_13_0_ok : zAW_13_0.all (zckAW 13) = true := by decide +kernel
def zAW_13 : List (Nat × Nat × Nat) := zAW_13_0
theorem zAW_13_ok : ∀ q ∈ zAW_13, zckAW 13 q = true := List.all_eq_true.mp zAW_13_0_ok
def zAW_14_0 : List (Nat × Nat × Nat) := []
set_option maxRecDepth 100000 in
theorem zAW_14_0_ok : zAW_14_0.all (zckAW 14) = true := by decide +kernel
def zAW_14 : List (Nat × Nat × Nat) := zAW_14_0
theorem zAW_14_ok : ∀ q ∈ zAW_14, zckAW 14 q = true := List.all_eq_true.mp zAW_14_0_ok
def zAW : List (List (Nat × Nat × Nat)) := [zAW_0, zAW_1, zAW_2, zAW_3, zAW_4, zAW_5, zAW_6, zAW_7, zAW_8, zAW_9, zAW_10, zAW_11, zAW_12, zAW_13, zAW_14]
theorem zAW_ok : ∀ (o : Nat) (l : List (Nat × Nat × Nat)), zAW[o]? = some l → ∀ q ∈ l, zckAW o q = true := by
  intro o l h
  match o, h with
  | 0, h => cases h; exact zAW_0_ok
  | 1, h => cases h; exact zAW_1_ok
  | 2, h => cases h; exact zAW_2_ok
  | 3, h => cases h; exact zAW_3_ok
  | 4, h => cases h; exact zAW_4_ok
  | 5, h => cases h; exact zAW_5_ok
  | 6, h => cases h; exact zAW_6_ok
  | 7, h => cases h; exact zAW_7_ok
  | 8, h => cases h; exact zAW_8_ok
  | 9, h => cases h; exact zAW_9_ok
  | 10, h => cases h; exact zAW_10_ok
  | 11, h => cases h; exact zAW_11_ok
  | 12, h => cases h; exact zAW_12_ok
  | 13, h => cases h; exact zAW_13_ok
  | 14, h => cases h; exact zAW_14_ok
  | k + 15, h => simp [zAW] at h
def zTS_0_0 : List (Nat × Nat × Nat × Bool × Nat × String × Nat × Nat) := [(24, 26, 28, false, 3, "a Gaussian integer is out of range", 3007, 1021)]
set_option maxRecDepth 100000 in
theorem zTS_0_0_ok : zTS_0_0.all (zckTS 0) = true := by decide +kernel
def zTS_0 : List (Nat × Nat × Nat × Bool × Nat × String × Nat × Nat) := zTS_0_0
theorem zTS_0_ok : ∀ q ∈ zTS_0, zckTS 0 q = true := List.all_eq_true.mp zTS_0_0_ok
def zTS_1_0 : List (Nat × Nat × Nat × Bool × Nat × String × Nat × Nat) := []
set_option maxRecDepth 100000 in
theorem zTS_1_0_ok : zTS_1_0.all (zckTS 1) = true := by decide +kernel
def zTS_1 : List (Nat × Nat × Nat × Bool × Nat × String × Nat × Nat) := zTS_1_0
theorem zTS_1_ok : ∀ q ∈ zTS_1, zckTS 1 q = true := List.all_eq_true.mp zTS_1_0_ok
def zTS_2_0 : List (Nat × Nat × Nat × Bool × Nat × String × Nat × Nat) := [(21, 23, 25, false, 3, "an integer is out of range", 3018, 1021)]
set_option maxRecDepth 100000 in
theorem zTS_2_0_ok : zTS_2_0.all (zckTS 2) = true := by decide +kernel
def zTS_2 : List (Nat × Nat × Nat × Bool × Nat × String × Nat × Nat) := zTS_2_0
theorem zTS_2_ok : ∀ q ∈ zTS_2, zckTS 2 q = true := List.all_eq_true.mp zTS_2_0_ok
def zTS_3_0 : List (Nat × Nat × Nat × Bool × Nat × String × Nat × Nat) := [(92, 94, 96, false, 3, "the log is full", 3104, 1021)]
set_option maxRecDepth 100000 in
theorem zTS_3_0_ok : zTS_3_0.all (zckTS 3) = true := by decide +kernel
def zTS_3 : List (Nat × Nat × Nat × Bool × Nat × String × Nat × Nat) := zTS_3_0
theorem zTS_3_ok : ∀ q ∈ zTS_3, zckTS 3 q = true := List.all_eq_true.mp zTS_3_0_ok
def zTS_4_0 : List (Nat × Nat × Nat × Bool × Nat × String × Nat × Nat) := []
set_option maxRecDepth 100000 in
theorem zTS_4_0_ok : zTS_4_0.all (zckTS 4) = true := by decide +kernel
def zTS_4 : List (Nat × Nat × Nat × Bool × Nat × String × Nat × Nat) := zTS_4_0
theorem zTS_4_ok : ∀ q ∈ zTS_4, zckTS 4 q = true := List.all_eq_true.mp zTS_4_0_ok
def zTS_5_0 : List (Nat × Nat × Nat × Bool × Nat × String × Nat × Nat) := [(36, 38, 40, false, 3, "a polynomial is out of range", 3032, 1021)]
set_option maxRecDepth 100000 in
theorem zTS_5_0_ok : zTS_5_0.all (zckTS 5) = true := by decide +kernel
def zTS_5 : List (Nat × Nat × Nat × Bool × Nat × String × Nat × Nat) := zTS_5_0
theorem zTS_5_ok : ∀ q ∈ zTS_5, zckTS 5 q = true := List.all_eq_true.mp zTS_5_0_ok
def zTS_6_0 : List (Nat × Nat × Nat × Bool × Nat × String × Nat × Nat) := []
set_option maxRecDepth 100000 in
theorem zTS_6_0_ok : zTS_6_0.all (zckTS 6) = true := by decide +kernel
def zTS_6 : List (Nat × Nat × Nat × Bool × Nat × String × Nat × Nat) := zTS_6_0
theorem zTS_6_ok : ∀ q ∈ zTS_6, zckTS 6 q = true := List.all_eq_true.mp zTS_6_0_ok
def zTS_7_0 : List (Nat × Nat × Nat × Bool × Nat × String × Nat × Nat) := []
set_option maxRecDepth 100000 in
theorem zTS_7_0_ok : zTS_7_0.all (zckTS 7) = true := by decide +kernel
def zTS_7 : List (Nat × Nat × Nat × Bool × Nat × String × Nat × Nat) := zTS_7_0
theorem zTS_7_ok : ∀ q ∈ zTS_7, zckTS 7 q = true := List.all_eq_true.mp zTS_7_0_ok
def zTS_8_0 : List (Nat × Nat × Nat × Bool × Nat × String × Nat × Nat) := []
set_option maxRecDepth 100000 in
theorem zTS_8_0_ok : zTS_8_0.all (zckTS 8) = true := by decide +kernel
def zTS_8 : List (Nat × Nat × Nat × Bool × Nat × String × Nat × Nat) := zTS_8_0
theorem zTS_8_ok : ∀ q ∈ zTS_8, zckTS 8 q = true := List.all_eq_true.mp zTS_8_0_ok
def zTS_9_0 : List (Nat × Nat × Nat × Bool × Nat × String × Nat × Nat) := [(193, 279, 197, true, 0, "no such slot", 2061, 1014), (281, 283, 285, true, 2, "no such ring", 2078, 1017), (281, 286, 285, true, 2, "an argument is out of range", 2078, 1017), (288, 290, 292, true, 1, "the slots or the text do not allow this call", 2131, 1020)]
set_option maxRecDepth 100000 in
theorem zTS_9_0_ok : zTS_9_0.all (zckTS 9) = true := by decide +kernel
def zTS_9_1 : List (Nat × Nat × Nat × Bool × Nat × String × Nat × Nat) := [(193, 195, 197, false, 0, "no such step", 2061, 1014), (232, 234, 236, false, 3, "the order is too large", 4159, 1021), (232, 245, 236, false, 3, "the divisor is 0", 4159, 1021), (193, 273, 197, true, 0, "no such byte", 2061, 1014)]
set_option maxRecDepth 100000 in
theorem zTS_9_1_ok : zTS_9_1.all (zckTS 9) = true := by decide +kernel
def zTS_9 : List (Nat × Nat × Nat × Bool × Nat × String × Nat × Nat) := zTS_9_0 ++ (zTS_9_1)
theorem zTS_9_ok : ∀ q ∈ zTS_9, zckTS 9 q = true := List.forall_mem_append.mpr ⟨List.all_eq_true.mp zTS_9_0_ok, List.all_eq_true.mp zTS_9_1_ok⟩
def zTS_10_0 : List (Nat × Nat × Nat × Bool × Nat × String × Nat × Nat) := []
set_option maxRecDepth 100000 in
theorem zTS_10_0_ok : zTS_10_0.all (zckTS 10) = true := by decide +kernel
def zTS_10 : List (Nat × Nat × Nat × Bool × Nat × String × Nat × Nat) := zTS_10_0
theorem zTS_10_ok : ∀ q ∈ zTS_10, zckTS 10 q = true := List.all_eq_true.mp zTS_10_0_ok
def zTS_11_0 : List (Nat × Nat × Nat × Bool × Nat × String × Nat × Nat) := []
set_option maxRecDepth 100000 in
theorem zTS_11_0_ok : zTS_11_0.all (zckTS 11) = true := by decide +kernel
def zTS_11 : List (Nat × Nat × Nat × Bool × Nat × String × Nat × Nat) := zTS_11_0
theorem zTS_11_ok : ∀ q ∈ zTS_11, zckTS 11 q = true := List.all_eq_true.mp zTS_11_0_ok
def zTS_12_0 : List (Nat × Nat × Nat × Bool × Nat × String × Nat × Nat) := []
set_option maxRecDepth 100000 in
theorem zTS_12_0_ok : zTS_12_0.all (zckTS 12) = true := by decide +kernel
def zTS_12 : List (Nat × Nat × Nat × Bool × Nat × String × Nat × Nat) := zTS_12_0
theorem zTS_12_ok : ∀ q ∈ zTS_12, zckTS 12 q = true := List.all_eq_true.mp zTS_12_0_ok
def zTS_13_0 : List (Nat × Nat × Nat × Bool × Nat × String × Nat × Nat) := []
set_option maxRecDepth 100000 in
theorem zTS_13_0_ok : zTS_13_0.all (zckTS 13) = true := by decide +kernel
def zTS_13 : List (Nat × Nat × Nat × Bool × Nat × String × Nat × Nat) := zTS_13_0
theorem zTS_13_ok : ∀ q ∈ zTS_13, zckTS 13 q = true := List.all_eq_true.mp zTS_13_0_ok
def zTS_14_0 : List (Nat × Nat × Nat × Bool × Nat × String × Nat × Nat) := []
set_option maxRecDepth 100000 in
theorem zTS_14_0_ok : zTS_14_0.all (zckTS 14) = true := by decide +kernel
def zTS_14 : List (Nat × Nat × Nat × Bool × Nat × String × Nat × Nat) := zTS_14_0
theorem zTS_14_ok : ∀ q ∈ zTS_14, zckTS 14 q = true := List.all_eq_true.mp zTS_14_0_ok
def zTS : List (List (Nat × Nat × Nat × Bool × Nat × String × Nat × Nat)) := [zTS_0, zTS_1, zTS_2, zTS_3, zTS_4, zTS_5, zTS_6, zTS_7, zTS_8, zTS_9, zTS_10, zTS_11, zTS_12, zTS_13, zTS_14]
theorem zTS_ok : ∀ (o : Nat) (l : List (Nat × Nat × Nat × Bool × Nat × String × Nat × Nat)), zTS[o]? = some l → ∀ q ∈ l, zckTS o q = true := by
  intro o l h
  match o, h with
  | 0, h => cases h; exact zTS_0_ok
  | 1, h => cases h; exact zTS_1_ok
  | 2, h => cases h; exact zTS_2_ok
  | 3, h => cases h; exact zTS_3_ok
  | 4, h => cases h; exact zTS_4_ok
  | 5, h => cases h; exact zTS_5_ok
  | 6, h => cases h; exact zTS_6_ok
  | 7, h => cases h; exact zTS_7_ok
  | 8, h => cases h; exact zTS_8_ok
  | 9, h => cases h; exact zTS_9_ok
  | 10, h => cases h; exact zTS_10_ok
  | 11, h => cases h; exact zTS_11_ok
  | 12, h => cases h; exact zTS_12_ok
  | 13, h => cases h; exact zTS_13_ok
  | 14, h => cases h; exact zTS_14_ok
  | k + 15, h => simp [zTS] at h
