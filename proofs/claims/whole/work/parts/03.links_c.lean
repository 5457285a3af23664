def zSV_0_0 : List (Nat × Nat × Nat × Nat × String × Nat × Nat × Nat) := [(13, 75, 1, 1, "RingMatrices$Gaussians", 3000, 2173, 3001), (17, 78, 1, 1, "RingMatrices$Gaussians", 3002, 3004, 3003), (31, 76, 2, 1, "RingMatrices$Gaussians", 3010, 2176, 3011), (41, 281, 2, 0, "java/lang/Math", 4007, 4008, 0)]
set_option maxRecDepth 100000 in
theorem zSV_0_0_ok : zSV_0_0.all (zckSV 0) = true := by decide +kernel
def zSV_0 : List (Nat × Nat × Nat × Nat × String × Nat × Nat × Nat) := zSV_0_0
theorem zSV_0_ok : ∀ q ∈ zSV_0, zckSV 0 q = true := List.all_eq_true.mp zSV_0_0_ok
def zSV_1_0 : List (Nat × Nat × Nat × Nat × String × Nat × Nat × Nat) := [(18, 12, 3, 0, "RingMatrices$HermiteForm", 3223, 3224, 0), (24, 13, 3, 0, "RingMatrices$HermiteForm", 3228, 3229, 0), (48, 14, 3, 0, "RingMatrices$HermiteForm", 4040, 4041, 0)]
set_option maxRecDepth 100000 in
theorem zSV_1_0_ok : zSV_1_0.all (zckSV 1) = true := by decide +kernel
def zSV_1 : List (Nat × Nat × Nat × Nat × String × Nat × Nat × Nat) := zSV_1_0
theorem zSV_1_ok : ∀ q ∈ zSV_1, zckSV 1 q = true := List.all_eq_true.mp zSV_1_0_ok
def zSV_2_0 : List (Nat × Nat × Nat × Nat × String × Nat × Nat × Nat) := [(13, 75, 1, 1, "RingMatrices$Integers", 3015, 2173, 3016), (28, 76, 2, 1, "RingMatrices$Integers", 3021, 2176, 3022), (32, 280, 1, 0, "java/lang/Math", 3155, 3156, 0), (38, 282, 2, 0, "java/lang/Math", 4013, 4014, 0)]
set_option maxRecDepth 100000 in
theorem zSV_2_0_ok : zSV_2_0.all (zckSV 2) = true := by decide +kernel
def zSV_2 : List (Nat × Nat × Nat × Nat × String × Nat × Nat × Nat) := zSV_2_0
theorem zSV_2_ok : ∀ q ∈ zSV_2, zckSV 2 q = true := List.all_eq_true.mp zSV_2_0_ok
def zSV_3_0 : List (Nat × Nat × Nat × Nat × String × Nat × Nat × Nat) := [(75, 283, 2, 0, "java/util/Arrays", 2106, 2107, 0), (109, 279, 2, 0, "java/lang/Math", 3111, 3112, 0)]
set_option maxRecDepth 100000 in
theorem zSV_3_0_ok : zSV_3_0.all (zckSV 3) = true := by decide +kernel
def zSV_3 : List (Nat × Nat × Nat × Nat × String × Nat × Nat × Nat) := zSV_3_0
theorem zSV_3_ok : ∀ q ∈ zSV_3, zckSV 3 q = true := List.all_eq_true.mp zSV_3_0_ok
def zSV_4_0 : List (Nat × Nat × Nat × Nat × String × Nat × Nat × Nat) := []
set_option maxRecDepth 100000 in
theorem zSV_4_0_ok : zSV_4_0.all (zckSV 4) = true := by decide +kernel
def zSV_4 : List (Nat × Nat × Nat × Nat × String × Nat × Nat × Nat) := zSV_4_0
theorem zSV_4_ok : ∀ q ∈ zSV_4, zckSV 4 q = true := List.all_eq_true.mp zSV_4_0_ok
def zSV_5_0 : List (Nat × Nat × Nat × Nat × String × Nat × Nat × Nat) := [(7, 278, 2, 0, "java/lang/Math", 1063, 1064, 0), (63, 75, 1, 1, "RingMatrices$Polynomials", 3030, 2173, 3031), (59, 76, 2, 1, "RingMatrices$Polynomials", 3039, 2176, 3040), (51, 284, 2, 0, "java/util/Arrays", 4019, 4020, 0), (79, 71, 2, 0, "RingMatrices$Polynomials", 5049, 5050, 0), (98, 73, 3, 0, "RingMatrices$Polynomials", 5094, 5095, 0)]
set_option maxRecDepth 100000 in
theorem zSV_5_0_ok : zSV_5_0.all (zckSV 5) = true := by decide +kernel
def zSV_5 : List (Nat × Nat × Nat × Nat × String × Nat × Nat × Nat) := zSV_5_0
theorem zSV_5_ok : ∀ q ∈ zSV_5, zckSV 5 q = true := List.all_eq_true.mp zSV_5_0_ok
def zSV_6_0 : List (Nat × Nat × Nat × Nat × String × Nat × Nat × Nat) := []
set_option maxRecDepth 100000 in
theorem zSV_6_0_ok : zSV_6_0.all (zckSV 6) = true := by decide +kernel
def zSV_6 : List (Nat × Nat × Nat × Nat × String × Nat × Nat × Nat) := zSV_6_0
theorem zSV_6_ok : ∀ q ∈ zSV_6, zckSV 6 q = true := List.all_eq_true.mp zSV_6_0_ok
def zSV_7_0 : List (Nat × Nat × Nat × Nat × String × Nat × Nat × Nat) := [(9, 83, 2, 0, "RingMatrices$SmithForm", 4053, 4054, 0), (15, 84, 2, 0, "RingMatrices$SmithForm", 4059, 4060, 0), (19, 85, 2, 0, "RingMatrices$SmithForm", 4063, 4064, 0), (22, 86, 2, 0, "RingMatrices$SmithForm", 4066, 4067, 0), (25, 87, 2, 0, "RingMatrices$SmithForm", 4069, 4070, 0)]
set_option maxRecDepth 100000 in
theorem zSV_7_0_ok : zSV_7_0.all (zckSV 7) = true := by decide +kernel
def zSV_7 : List (Nat × Nat × Nat × Nat × String × Nat × Nat × Nat) := zSV_7_0
theorem zSV_7_ok : ∀ q ∈ zSV_7, zckSV 7 q = true := List.all_eq_true.mp zSV_7_0_ok
def zSV_8_0 : List (Nat × Nat × Nat × Nat × String × Nat × Nat × Nat) := [(9, 278, 2, 0, "java/lang/Math", 1146, 1064, 0)]
set_option maxRecDepth 100000 in
theorem zSV_8_0_ok : zSV_8_0.all (zckSV 8) = true := by decide +kernel
def zSV_8 : List (Nat × Nat × Nat × Nat × String × Nat × Nat × Nat) := zSV_8_0
theorem zSV_8_ok : ∀ q ∈ zSV_8, zckSV 8 q = true := List.all_eq_true.mp zSV_8_0_ok
def zSV_9_0 : List (Nat × Nat × Nat × Nat × String × Nat × Nat × Nat) := [(72, 97, 1, 0, "RingMatrices", 2094, 2095, 0), (103, 75, 1, 0, "RingMatrices$Ring", 2172, 2173, 0), (107, 76, 2, 0, "RingMatrices$Ring", 2175, 2176, 0), (136, 100, 1, 0, "RingMatrices", 2128, 2129, 0), (139, 103, 4, 0, "RingMatrices", 2224, 2225, 0), (149, 108, 1, 0, "RingMatrices", 3075, 3076, 0), (153, 109, 2, 0, "RingMatrices", 3078, 3079, 0), (293, 78, 1, 0, "RingMatrices$Ring", 3081, 3004, 0), (161, 111, 2, 0, "RingMatrices", 3097, 3098, 0), (184, 11, 1, 0, "RingMatrices$HermiteForm", 3220, 3221, 0), (190, 82, 1, 0, "RingMatrices$SmithForm", 4050, 4051, 0)]
set_option maxRecDepth 100000 in
theorem zSV_9_0_ok : zSV_9_0.all (zckSV 9) = true := by decide +kernel
def zSV_9 : List (Nat × Nat × Nat × Nat × String × Nat × Nat × Nat) := zSV_9_0
theorem zSV_9_ok : ∀ q ∈ zSV_9, zckSV 9 q = true := List.all_eq_true.mp zSV_9_0_ok
def zSV_10_0 : List (Nat × Nat × Nat × Nat × String × Nat × Nat × Nat) := [(191, 140, 1, 0, "RingMatricesModel", 5190, 5191, 0), (195, 143, 1, 0, "RingMatricesModel", 5201, 5202, 0), (43, 141, 3, 0, "RingMatricesModel", 5194, 5195, 0), (211, 149, 3, 0, "RingMatricesModel", 5226, 5227, 0), (120, 151, 3, 0, "RingMatricesModel", 5236, 5237, 0), (55, 150, 1, 0, "RingMatricesModel", 5233, 5234, 0), (77, 159, 3, 0, "RingMatricesModel", 6027, 6028, 0), (69, 161, 2, 0, "RingMatricesModel", 6034, 6035, 0), (124, 176, 4, 0, "RingMatricesModel", 6093, 6094, 0), (236, 179, 3, 0, "RingMatricesModel", 6104, 6105, 0), (142, 186, 2, 0, "RingMatricesModel", 6131, 6132, 0), (92, 192, 2, 0, "RingMatricesModel", 6154, 6155, 0), (106, 194, 2, 0, "RingMatricesModel", 6163, 6164, 0), (85, 196, 1, 0, "RingMatricesModel", 6170, 6171, 0)]
set_option maxRecDepth 100000 in
theorem zSV_10_0_ok : zSV_10_0.all (zckSV 10) = true := by decide +kernel
def zSV_10 : List (Nat × Nat × Nat × Nat × String × Nat × Nat × Nat) := zSV_10_0
theorem zSV_10_ok : ∀ q ∈ zSV_10, zckSV 10 q = true := List.all_eq_true.mp zSV_10_0_ok
def zSV_11_0 : List (Nat × Nat × Nat × Nat × String × Nat × Nat × Nat) := [(129, 246, 6, 0, "RingMatricesLaw", 1211, 1212, 0), (139, 247, 7, 0, "RingMatricesLaw", 2116, 2117, 0), (143, 248, 4, 0, "RingMatricesLaw", 2184, 2185, 0), (147, 249, 5, 0, "RingMatricesLaw", 2199, 2200, 0), (151, 250, 3, 0, "RingMatricesLaw", 3047, 3048, 0), (155, 251, 3, 0, "RingMatricesLaw", 3054, 3055, 0), (158, 252, 3, 0, "RingMatricesLaw", 3061, 3062, 0), (161, 253, 6, 0, "RingMatricesLaw", 3068, 3069, 0), (164, 254, 6, 0, "RingMatricesLaw", 3082, 3083, 0), (168, 255, 8, 0, "RingMatricesLaw", 3125, 3126, 0), (172, 256, 7, 0, "RingMatricesLaw", 3132, 3133, 0), (176, 257, 3, 0, "RingMatricesLaw", 3161, 3162, 0), (179, 258, 5, 0, "RingMatricesLaw", 3200, 3201, 0), (183, 259, 3, 0, "RingMatricesLaw", 3213, 3214, 0), (186, 260, 3, 0, "RingMatricesLaw", 4043, 4044, 0), (189, 261, 3, 0, "RingMatricesLaw", 4081, 4082, 0), (192, 262, 5, 0, "RingMatricesLaw", 4088, 4089, 0), (195, 263, 7, 0, "RingMatricesLaw", 4096, 4097, 0), (198, 264, 5, 0, "RingMatricesLaw", 4107, 4108, 0), (201, 265, 4, 0, "RingMatricesLaw", 4124, 4125, 0)]
set_option maxRecDepth 100000 in
theorem zSV_11_0_ok : zSV_11_0.all (zckSV 11) = true := by decide +kernel
def zSV_11_1 : List (Nat × Nat × Nat × Nat × String × Nat × Nat × Nat) := [(204, 266, 5, 0, "RingMatricesLaw", 4131, 4132, 0), (207, 267, 3, 0, "RingMatricesLaw", 4138, 4139, 0), (210, 268, 4, 0, "RingMatricesLaw", 4162, 4163, 0), (213, 269, 4, 0, "RingMatricesLaw", 4175, 4176, 0), (216, 270, 4, 0, "RingMatricesLaw", 4186, 4187, 0), (219, 271, 6, 0, "RingMatricesLaw", 4193, 4194, 0), (222, 272, 8, 0, "RingMatricesLaw", 4201, 4202, 0), (226, 273, 3, 0, "RingMatricesLaw", 4209, 4210, 0), (233, 274, 3, 0, "RingMatricesLaw", 4220, 4221, 0), (236, 275, 4, 0, "RingMatricesLaw", 5058, 5059, 0), (239, 276, 3, 0, "RingMatricesLaw", 5065, 5066, 0), (242, 277, 3, 0, "RingMatricesLaw", 5097, 5098, 0)]
set_option maxRecDepth 100000 in
theorem zSV_11_1_ok : zSV_11_1.all (zckSV 11) = true := by decide +kernel
def zSV_11 : List (Nat × Nat × Nat × Nat × String × Nat × Nat × Nat) := zSV_11_0 ++ (zSV_11_1)
theorem zSV_11_ok : ∀ q ∈ zSV_11, zckSV 11 q = true := List.forall_mem_append.mpr ⟨List.all_eq_true.mp zSV_11_0_ok, List.all_eq_true.mp zSV_11_1_ok⟩
def zSV_12_0 : List (Nat × Nat × Nat × Nat × String × Nat × Nat × Nat) := []
set_option maxRecDepth 100000 in
theorem zSV_12_0_ok : zSV_12_0.all (zckSV 12) = true := by decide +kernel
def zSV_12 : List (Nat × Nat × Nat × Nat × String × Nat × Nat × Nat) := zSV_12_0
theorem zSV_12_ok : ∀ q ∈ zSV_12, zckSV 12 q = true := List.all_eq_true.mp zSV_12_0_ok
def zSV_13_0 : List (Nat × Nat × Nat × Nat × String × Nat × Nat × Nat) := []
set_option maxRecDepth 100000 in
theorem zSV_13_0_ok : zSV_13_0.all (zckSV 13) = true := by decide +kernel
def zSV_13 : List (Nat × Nat × Nat × Nat × String × Nat × Nat × Nat) := zSV_13_0
theorem zSV_13_ok : ∀ q ∈ zSV_13, zckSV 13 q = true := List.all_eq_true.mp zSV_13_0_ok
def zSV_14_0 : List (Nat × Nat × Nat × Nat × String × Nat × Nat × Nat) := []
set_option maxRecDepth 100000 in
theorem zSV_14_0_ok : zSV_14_0.all (zckSV 14) = true := by decide +kernel
def zSV_14 : List (Nat × Nat × Nat × Nat × String × Nat × Nat × Nat) := zSV_14_0
theorem zSV_14_ok : ∀ q ∈ zSV_14, zckSV 14 q = true := List.all_eq_true.mp zSV_14_0_ok
def zSV : List (List (Nat × Nat × Nat × Nat × String × Nat × Nat × Nat)) := [zSV_0, zSV_1, zSV_2, zSV_3, zSV_4, zSV_5, zSV_6, zSV_7, zSV_8, zSV_9, zSV_10, zSV_11, zSV_12, zSV_13, zSV_14]
theorem zSV_ok : ∀ (o : Nat) (l : List (Nat × Nat × Nat × Nat × String × Nat × Nat × Nat)), zSV[o]? = some l → ∀ q ∈ l, zckSV o q = true := by
  intro o l h
  match o, h with
  | 0, h => cases h; exact zSV_0_ok
  | 1, h => cases h; exact zSV_1_ok
  | 2, h => cases h; exact zSV_2_ok
  | 3, h => cases h; exact zSV_3_ok
  | 4, h => cases h; exact zSV_4_ok
  | 5, h => cases h; exact zSV_5_ok
  | 6, h => cases h; exact zSV_6_ok
  | 7, h => cases h; exact zSV_7_ok
  | 8, h => cases h; exact zSV_8_ok
  | 9, h => cases h; exact zSV_9_ok
  | 10, h => cases h; exact zSV_10_ok
  | 11, h => cases h; exact zSV_11_ok
  | 12, h => cases h; exact zSV_12_ok
  | 13, h => cases h; exact zSV_13_ok
  | 14, h => cases h; exact zSV_14_ok
  | k + 15, h => simp [zSV] at h
def zSC_0_0 : List (Nat × Nat × Nat × Nat × Nat) := [(1, 74, 1, 1054, 1038)]
set_option maxRecDepth 100000 in
theorem zSC_0_0_ok : zSC_0_0.all (zckSC 0) = true := by decide +kernel
def zSC_0 : List (Nat × Nat × Nat × Nat × Nat) := zSC_0_0
theorem zSC_0_ok : ∀ q ∈ zSC_0, zckSC 0 q = true := List.all_eq_true.mp zSC_0_0_ok
def zSC_1_0 : List (Nat × Nat × Nat × Nat × Nat) := []
set_option maxRecDepth 100000 in
theorem zSC_1_0_ok : zSC_1_0.all (zckSC 1) = true := by decide +kernel
def zSC_1 : List (Nat × Nat × Nat × Nat × Nat) := zSC_1_0
theorem zSC_1_ok : ∀ q ∈ zSC_1, zckSC 1 q = true := List.all_eq_true.mp zSC_1_0_ok
def zSC_2_0 : List (Nat × Nat × Nat × Nat × Nat) := [(1, 74, 1, 1037, 1038)]
set_option maxRecDepth 100000 in
theorem zSC_2_0_ok : zSC_2_0.all (zckSC 2) = true := by decide +kernel
def zSC_2 : List (Nat × Nat × Nat × Nat × Nat) := zSC_2_0
theorem zSC_2_ok : ∀ q ∈ zSC_2, zckSC 2 q = true := List.all_eq_true.mp zSC_2_0_ok
def zSC_3_0 : List (Nat × Nat × Nat × Nat × Nat) := []
set_option maxRecDepth 100000 in
theorem zSC_3_0_ok : zSC_3_0.all (zckSC 3) = true := by decide +kernel
def zSC_3 : List (Nat × Nat × Nat × Nat × Nat) := zSC_3_0
theorem zSC_3_ok : ∀ q ∈ zSC_3, zckSC 3 q = true := List.all_eq_true.mp zSC_3_0_ok
def zSC_4_0 : List (Nat × Nat × Nat × Nat × Nat) := []
set_option maxRecDepth 100000 in
theorem zSC_4_0_ok : zSC_4_0.all (zckSC 4) = true := by decide +kernel
def zSC_4 : List (Nat × Nat × Nat × Nat × Nat) := zSC_4_0
theorem zSC_4_ok : ∀ q ∈ zSC_4, zckSC 4 q = true := List.all_eq_true.mp zSC_4_0_ok
def zSC_5_0 : List (Nat × Nat × Nat × Nat × Nat) := [(1, 74, 1, 1062, 1038)]
set_option maxRecDepth 100000 in
theorem zSC_5_0_ok : zSC_5_0.all (zckSC 5) = true := by decide +kernel
def zSC_5 : List (Nat × Nat × Nat × Nat × Nat) := zSC_5_0
theorem zSC_5_ok : ∀ q ∈ zSC_5, zckSC 5 q = true := List.all_eq_true.mp zSC_5_0_ok
def zSC_6_0 : List (Nat × Nat × Nat × Nat × Nat) := []
set_option maxRecDepth 100000 in
theorem zSC_6_0_ok : zSC_6_0.all (zckSC 6) = true := by decide +kernel
def zSC_6 : List (Nat × Nat × Nat × Nat × Nat) := zSC_6_0
theorem zSC_6_ok : ∀ q ∈ zSC_6, zckSC 6 q = true := List.all_eq_true.mp zSC_6_0_ok
def zSC_7_0 : List (Nat × Nat × Nat × Nat × Nat) := []
set_option maxRecDepth 100000 in
theorem zSC_7_0_ok : zSC_7_0.all (zckSC 7) = true := by decide +kernel
def zSC_7 : List (Nat × Nat × Nat × Nat × Nat) := zSC_7_0
theorem zSC_7_ok : ∀ q ∈ zSC_7, zckSC 7 q = true := List.all_eq_true.mp zSC_7_0_ok
def zSC_8_0 : List (Nat × Nat × Nat × Nat × Nat) := []
set_option maxRecDepth 100000 in
theorem zSC_8_0_ok : zSC_8_0.all (zckSC 8) = true := by decide +kernel
def zSC_8 : List (Nat × Nat × Nat × Nat × Nat) := zSC_8_0
theorem zSC_8_ok : ∀ q ∈ zSC_8, zckSC 8 q = true := List.all_eq_true.mp zSC_8_0_ok
def zSC_9_0 : List (Nat × Nat × Nat × Nat × Nat) := [(9, 15, 0, 1034, 1035), (14, 0, 0, 1051, 1052), (17, 58, 1, 1059, 1060), (28, 26, 1, 1087, 1088), (47, 88, 1, 1142, 1143), (57, 48, 1, 1158, 1159)]
set_option maxRecDepth 100000 in
theorem zSC_9_0_ok : zSC_9_0.all (zckSC 9) = true := by decide +kernel
def zSC_9 : List (Nat × Nat × Nat × Nat × Nat) := zSC_9_0
theorem zSC_9_ok : ∀ q ∈ zSC_9, zckSC 9 q = true := List.all_eq_true.mp zSC_9_0_ok
def zSC_10_0 : List (Nat × Nat × Nat × Nat × Nat) := []
set_option maxRecDepth 100000 in
theorem zSC_10_0_ok : zSC_10_0.all (zckSC 10) = true := by decide +kernel
def zSC_10 : List (Nat × Nat × Nat × Nat × Nat) := zSC_10_0
theorem zSC_10_ok : ∀ q ∈ zSC_10, zckSC 10 q = true := List.all_eq_true.mp zSC_10_0_ok
def zSC_11_0 : List (Nat × Nat × Nat × Nat × Nat) := [(125, 92, 0, 1026, 1027), (128, 137, 0, 5108, 5109)]
set_option maxRecDepth 100000 in
theorem zSC_11_0_ok : zSC_11_0.all (zckSC 11) = true := by decide +kernel
def zSC_11 : List (Nat × Nat × Nat × Nat × Nat) := zSC_11_0
theorem zSC_11_ok : ∀ q ∈ zSC_11, zckSC 11 q = true := List.all_eq_true.mp zSC_11_0_ok
def zSC_12_0 : List (Nat × Nat × Nat × Nat × Nat) := []
set_option maxRecDepth 100000 in
theorem zSC_12_0_ok : zSC_12_0.all (zckSC 12) = true := by decide +kernel
def zSC_12 : List (Nat × Nat × Nat × Nat × Nat) := zSC_12_0
theorem zSC_12_ok : ∀ q ∈ zSC_12, zckSC 12 q = true := List.all_eq_true.mp zSC_12_0_ok
def zSC_13_0 : List (Nat × Nat × Nat × Nat × Nat) := []
set_option maxRecDepth 100000 in
theorem zSC_13_0_ok : zSC_13_0.all (zckSC 13) = true := by decide +kernel
def zSC_13 : List (Nat × Nat × Nat × Nat × Nat) := zSC_13_0
theorem zSC_13_ok : ∀ q ∈ zSC_13, zckSC 13 q = true := List.all_eq_true.mp zSC_13_0_ok
def zSC_14_0 : List (Nat × Nat × Nat × Nat × Nat) := []
set_option maxRecDepth 100000 in
theorem zSC_14_0_ok : zSC_14_0.all (zckSC 14) = true := by decide +kernel
def zSC_14 : List (Nat × Nat × Nat × Nat × Nat) := zSC_14_0
theorem zSC_14_ok : ∀ q ∈ zSC_14, zckSC 14 q = true := List.all_eq_true.mp zSC_14_0_ok
def zSC : List (List (Nat × Nat × Nat × Nat × Nat)) := [zSC_0, zSC_1, zSC_2, zSC_3, zSC_4, zSC_5, zSC_6, zSC_7, zSC_8, zSC_9, zSC_10, zSC_11, zSC_12, zSC_13, zSC_14]
theorem zSC_ok : ∀ (o : Nat) (l : List (Nat × Nat × Nat × Nat × Nat)), zSC[o]? = some l → ∀ q ∈ l, zckSC o q = true := by
  intro o l h
  match o, h with
  | 0, h => cases h; exact zSC_0_ok
  | 1, h => cases h; exact zSC_1_ok
  | 2, h => cases h; exact zSC_2_ok
  | 3, h => cases h; exact zSC_3_ok
  | 4, h => cases h; exact zSC_4_ok
  | 5, h => cases h; exact zSC_5_ok
  | 6, h => cases h; exact zSC_6_ok
  | 7, h => cases h; exact zSC_7_ok
  | 8, h => cases h; exact zSC_8_ok
  | 9, h => cases h; exact zSC_9_ok
  | 10, h => cases h; exact zSC_10_ok
  | 11, h => cases h; exact zSC_11_ok
  | 12, h => cases h; exact zSC_12_ok
  | 13, h => cases h; exact zSC_13_ok
  | 14, h => cases h; exact zSC_14_ok
  | k + 15, h => simp [zSC] at h
def zVV_0_0 : List (Nat × Nat × Nat × Nat × Nat × String × Nat × Nat × Nat × Nat) := [(20, 0, 1, 2, 0, "RingMatrices$Gaussians", 3006, 7136, 2155, 0), (35, 0, 3, 1, 0, "RingMatrices$Gaussians", 4005, 7138, 3150, 0), (50, 3, 51, 1, 0, "RingMatrices$MatrixReader", 5021, 4237, 4236, 0), (56, 3, 55, 2, 0, "RingMatrices$MatrixReader", 5022, 5024, 5023, 0), (60, 3, 53, 0, 0, "RingMatrices$MatrixReader", 5035, 5009, 5008, 0), (64, 3, 56, 0, 0, "RingMatrices$MatrixReader", 5036, 5028, 5027, 0), (67, 3, 50, 1, 0, "RingMatrices$MatrixReader", 5037, 4233, 4232, 0), (70, 5, 91, 1, 0, "RingMatrices$Text", 5078, 5080, 5079, 0), (75, 5, 89, 1, 0, "RingMatrices$Text", 5085, 4218, 4217, 0)]
set_option maxRecDepth 100000 in
theorem zVV_0_0_ok : zVV_0_0.all (zckVV 0) = true := by decide +kernel
def zVV_0 : List (Nat × Nat × Nat × Nat × Nat × String × Nat × Nat × Nat × Nat) := zVV_0_0
theorem zVV_0_ok : ∀ q ∈ zVV_0, zckVV 0 q = true := List.all_eq_true.mp zVV_0_0_ok
def zVV_1_0 : List (Nat × Nat × Nat × Nat × Nat × String × Nat × Nat × Nat × Nat) := [(32, 2, 31, 2, 0, "RingMatrices$Matrix", 3226, 2169, 2168, 0), (36, 0, 7, 1, 1, "RingMatrices$Ring", 4023, 4026, 4027, 4025), (36, 1, 22, 1, 1, "RingMatrices$Ring", 4023, 4031, 4032, 4025), (36, 4, 68, 1, 1, "RingMatrices$Ring", 4023, 4035, 4036, 4025), (44, 2, 39, 4, 0, "RingMatrices$Matrix", 3231, 3102, 3101, 0), (55, 0, 3, 1, 1, "RingMatrices$Ring", 3227, 3149, 3150, 3148), (55, 1, 18, 1, 1, "RingMatrices$Ring", 3227, 3152, 3153, 3148), (55, 4, 63, 1, 1, "RingMatrices$Ring", 3227, 3158, 3159, 3148), (51, 0, 80, 2, 2, "RingMatrices$Ring", 3232, 3235, 3233, 3234), (51, 1, 80, 2, 2, "RingMatrices$Ring", 3232, 3236, 3233, 3234), (51, 4, 80, 2, 2, "RingMatrices$Ring", 3232, 3237, 3233, 3234)]
set_option maxRecDepth 100000 in
theorem zVV_1_0_ok : zVV_1_0.all (zckVV 1) = true := by decide +kernel
def zVV_1 : List (Nat × Nat × Nat × Nat × Nat × String × Nat × Nat × Nat × Nat) := zVV_1_0
theorem zVV_1_ok : ∀ q ∈ zVV_1, zckVV 1 q = true := List.all_eq_true.mp zVV_1_0_ok
def zVV_2_0 : List (Nat × Nat × Nat × Nat × Nat × String × Nat × Nat × Nat × Nat) := [(17, 1, 16, 2, 0, "RingMatrices$Integers", 3017, 7137, 2160, 0), (44, 1, 18, 1, 0, "RingMatrices$Integers", 4154, 7139, 3153, 0), (48, 3, 51, 1, 0, "RingMatrices$MatrixReader", 5041, 4237, 4236, 0), (55, 3, 55, 2, 0, "RingMatrices$MatrixReader", 5043, 5024, 5023, 0), (59, 5, 91, 1, 0, "RingMatrices$Text", 5089, 5080, 5079, 0)]
set_option maxRecDepth 100000 in
theorem zVV_2_0_ok : zVV_2_0.all (zckVV 2) = true := by decide +kernel
def zVV_2 : List (Nat × Nat × Nat × Nat × Nat × String × Nat × Nat × Nat × Nat) := zVV_2_0
theorem zVV_2_ok : ∀ q ∈ zVV_2, zckVV 2 q = true := List.all_eq_true.mp zVV_2_0_ok
def zVV_3_0 : List (Nat × Nat × Nat × Nat × Nat × String × Nat × Nat × Nat × Nat) := [(81, 2, 29, 0, 0, "RingMatrices$Matrix", 2109, 2111, 2110, 0), (58, 2, 30, 2, 0, "RingMatrices$Matrix", 2171, 2149, 2148, 0), (84, 2, 34, 1, 0, "RingMatrices$Matrix", 2195, 4, 2197, 0), (45, 2, 38, 1, 0, "RingMatrices$Matrix", 3093, 3095, 3094, 0), (88, 2, 40, 4, 0, "RingMatrices$Matrix", 3107, 7, 3109, 0), (115, 2, 41, 3, 0, "RingMatrices$Matrix", 3114, 8, 3116, 0), (119, 0, 2, 3, 1, "RingMatrices$Ring", 3119, 2237, 2238, 2236), (119, 1, 17, 3, 1, "RingMatrices$Ring", 3119, 3012, 3013, 2236), (119, 4, 60, 3, 1, "RingMatrices$Ring", 3119, 3023, 3024, 2236), (123, 2, 42, 4, 0, "RingMatrices$Matrix", 3120, 9, 3122, 0), (54, 2, 31, 2, 0, "RingMatrices$Matrix", 3118, 2169, 2168, 0), (62, 2, 32, 3, 0, "RingMatrices$Matrix", 3124, 2181, 2180, 0), (102, 0, 4, 1, 1, "RingMatrices$Ring", 3172, 3175, 3176, 3174), (102, 1, 19, 1, 1, "RingMatrices$Ring", 3172, 3178, 3179, 3174), (102, 4, 64, 1, 1, "RingMatrices$Ring", 3172, 3181, 3182, 3174), (106, 0, 5, 1, 1, "RingMatrices$Ring", 3184, 3187, 3188, 3186), (106, 1, 20, 1, 1, "RingMatrices$Ring", 3184, 3190, 3191, 3186), (106, 4, 65, 1, 1, "RingMatrices$Ring", 3184, 3193, 3194, 3186), (99, 2, 39, 4, 0, "RingMatrices$Matrix", 3212, 3102, 3101, 0)]
set_option maxRecDepth 100000 in
theorem zVV_3_0_ok : zVV_3_0.all (zckVV 3) = true := by decide +kernel
def zVV_3 : List (Nat × Nat × Nat × Nat × Nat × String × Nat × Nat × Nat × Nat) := zVV_3_0
theorem zVV_3_ok : ∀ q ∈ zVV_3, zckVV 3 q = true := List.all_eq_true.mp zVV_3_0_ok
def zVV_4_0 : List (Nat × Nat × Nat × Nat × Nat × String × Nat × Nat × Nat × Nat) := [(33, 3, 50, 1, 0, "RingMatrices$MatrixReader", 4231, 4233, 4232, 0), (37, 3, 53, 0, 0, "RingMatrices$MatrixReader", 5007, 5009, 5008, 0), (41, 3, 54, 2, 0, "RingMatrices$MatrixReader", 5011, 13, 5013, 0), (50, 3, 52, 1, 0, "RingMatrices$MatrixReader", 5003, 5005, 5004, 0), (53, 2, 28, 3, 0, "RingMatrices$Matrix", 5055, 2104, 2103, 0), (59, 2, 32, 3, 0, "RingMatrices$Matrix", 5056, 2181, 2180, 0), (63, 2, 29, 0, 0, "RingMatrices$Matrix", 5057, 2111, 2110, 0), (72, 3, 51, 1, 0, "RingMatrices$MatrixReader", 4235, 4237, 4236, 0), (76, 5, 90, 1, 0, "RingMatrices$Text", 4239, 5001, 5000, 0), (66, 0, 9, 1, 1, "RingMatrices$Ring", 5015, 5018, 5019, 5017), (66, 1, 24, 1, 1, "RingMatrices$Ring", 5015, 5038, 5039, 5017), (66, 4, 70, 1, 1, "RingMatrices$Ring", 5015, 5044, 5045, 5017), (80, 3, 56, 0, 0, "RingMatrices$MatrixReader", 5026, 5028, 5027, 0), (85, 3, 57, 1, 0, "RingMatrices$MatrixReader", 5031, 5033, 5032, 0)]
set_option maxRecDepth 100000 in
theorem zVV_4_0_ok : zVV_4_0.all (zckVV 4) = true := by decide +kernel
def zVV_4 : List (Nat × Nat × Nat × Nat × Nat × String × Nat × Nat × Nat × Nat) := zVV_4_0
theorem zVV_4_ok : ∀ q ∈ zVV_4, zckVV 4 q = true := List.all_eq_true.mp zVV_4_0_ok
def zVV_5_0 : List (Nat × Nat × Nat × Nat × Nat × String × Nat × Nat × Nat × Nat) := [(32, 4, 61, 2, 0, "RingMatrices$Polynomials", 3026, 5, 3028, 0), (43, 4, 62, 1, 0, "RingMatrices$Polynomials", 3035, 6, 3037, 0), (47, 4, 66, 1, 0, "RingMatrices$Polynomials", 3196, 10, 3198, 0), (72, 3, 56, 0, 0, "RingMatrices$MatrixReader", 5047, 5028, 5027, 0), (76, 3, 57, 1, 0, "RingMatrices$MatrixReader", 5048, 5033, 5032, 0), (83, 3, 52, 1, 0, "RingMatrices$MatrixReader", 5053, 5005, 5004, 0), (86, 3, 53, 0, 0, "RingMatrices$MatrixReader", 5054, 5009, 5008, 0), (89, 3, 51, 1, 0, "RingMatrices$MatrixReader", 5052, 4237, 4236, 0), (93, 5, 89, 1, 0, "RingMatrices$Text", 5093, 4218, 4217, 0)]
set_option maxRecDepth 100000 in
theorem zVV_5_0_ok : zVV_5_0.all (zckVV 5) = true := by decide +kernel
def zVV_5 : List (Nat × Nat × Nat × Nat × Nat × String × Nat × Nat × Nat × Nat) := zVV_5_0
theorem zVV_5_ok : ∀ q ∈ zVV_5, zckVV 5 q = true := List.all_eq_true.mp zVV_5_0_ok
def zVV_6_0 : List (Nat × Nat × Nat × Nat × Nat × String × Nat × Nat × Nat × Nat) := [(15, 0, 2, 3, 1, "RingMatrices$Ring", 2234, 2237, 2238, 2236), (15, 1, 17, 3, 1, "RingMatrices$Ring", 2234, 3012, 3013, 2236), (15, 4, 60, 3, 1, "RingMatrices$Ring", 2234, 3023, 3024, 2236), (27, 0, 3, 1, 1, "RingMatrices$Ring", 3146, 3149, 3150, 3148), (27, 1, 18, 1, 1, "RingMatrices$Ring", 3146, 3152, 3153, 3148), (27, 4, 63, 1, 1, "RingMatrices$Ring", 3146, 3158, 3159, 3148), (19, 0, 6, 2, 1, "RingMatrices$Ring", 3239, 4002, 4003, 4001), (19, 1, 21, 2, 1, "RingMatrices$Ring", 3239, 4010, 4011, 4001), (19, 4, 67, 2, 1, "RingMatrices$Ring", 3239, 4016, 4017, 4001), (23, 0, 4, 1, 1, "RingMatrices$Ring", 4022, 3175, 3176, 3174), (23, 1, 19, 1, 1, "RingMatrices$Ring", 4022, 3178, 3179, 3174), (23, 4, 64, 1, 1, "RingMatrices$Ring", 4022, 3181, 3182, 3174)]
set_option maxRecDepth 100000 in
theorem zVV_6_0_ok : zVV_6_0.all (zckVV 6) = true := by decide +kernel
def zVV_6 : List (Nat × Nat × Nat × Nat × Nat × String × Nat × Nat × Nat × Nat) := zVV_6_0
theorem zVV_6_ok : ∀ q ∈ zVV_6, zckVV 6 q = true := List.all_eq_true.mp zVV_6_0_ok
def zVV_7_0 : List (Nat × Nat × Nat × Nat × Nat × String × Nat × Nat × Nat × Nat) := [(33, 2, 39, 4, 0, "RingMatrices$Matrix", 4058, 3102, 3101, 0), (43, 2, 31, 2, 0, "RingMatrices$Matrix", 4056, 2169, 2168, 0), (47, 0, 7, 1, 1, "RingMatrices$Ring", 4080, 4026, 4027, 4025), (47, 1, 22, 1, 1, "RingMatrices$Ring", 4080, 4031, 4032, 4025), (47, 4, 68, 1, 1, "RingMatrices$Ring", 4080, 4035, 4036, 4025), (58, 0, 3, 1, 1, "RingMatrices$Ring", 4057, 3149, 3150, 3148), (58, 1, 18, 1, 1, "RingMatrices$Ring", 4057, 3152, 3153, 3148), (58, 4, 63, 1, 1, "RingMatrices$Ring", 4057, 3158, 3159, 3148), (61, 0, 80, 2, 2, "RingMatrices$Ring", 4062, 3235, 3233, 3234), (61, 1, 80, 2, 2, "RingMatrices$Ring", 4062, 3236, 3233, 3234), (61, 4, 80, 2, 2, "RingMatrices$Ring", 4062, 3237, 3233, 3234), (65, 0, 81, 2, 2, "RingMatrices$Ring", 4072, 4075, 4073, 4074), (65, 1, 81, 2, 2, "RingMatrices$Ring", 4072, 4076, 4073, 4074), (65, 4, 81, 2, 2, "RingMatrices$Ring", 4072, 4077, 4073, 4074)]
set_option maxRecDepth 100000 in
theorem zVV_7_0_ok : zVV_7_0.all (zckVV 7) = true := by decide +kernel
def zVV_7 : List (Nat × Nat × Nat × Nat × Nat × String × Nat × Nat × Nat × Nat) := zVV_7_0
theorem zVV_7_ok : ∀ q ∈ zVV_7, zckVV 7 q = true := List.all_eq_true.mp zVV_7_0_ok
def zVV_8_0 : List (Nat × Nat × Nat × Nat × Nat × String × Nat × Nat × Nat × Nat) := [(25, 5, 89, 1, 0, "RingMatrices$Text", 5082, 4218, 4217, 0)]
set_option maxRecDepth 100000 in
theorem zVV_8_0_ok : zVV_8_0.all (zckVV 8) = true := by decide +kernel
def zVV_8 : List (Nat × Nat × Nat × Nat × Nat × String × Nat × Nat × Nat × Nat) := zVV_8_0
theorem zVV_8_ok : ∀ q ∈ zVV_8, zckVV 8 q = true := List.all_eq_true.mp zVV_8_0_ok
def zVV_9_0 : List (Nat × Nat × Nat × Nat × Nat × String × Nat × Nat × Nat × Nat) := [(64, 6, 95, 1, 0, "RingMatrices", 2057, 1, 2059, 0), (68, 6, 96, 1, 0, "RingMatrices", 2074, 2, 2076, 0), (76, 2, 27, 0, 0, "RingMatrices$Matrix", 2098, 2100, 2099, 0), (80, 2, 28, 3, 0, "RingMatrices$Matrix", 2102, 2104, 2103, 0), (84, 6, 99, 1, 0, "RingMatrices", 2124, 3, 2126, 0), (87, 2, 30, 2, 0, "RingMatrices$Matrix", 2147, 2149, 2148, 0), (95, 0, 1, 2, 1, "RingMatrices$Ring", 2151, 2154, 2155, 2153), (95, 1, 16, 2, 1, "RingMatrices$Ring", 2151, 2159, 2160, 2153), (95, 4, 59, 2, 1, "RingMatrices$Ring", 2151, 2164, 2165, 2153), (99, 2, 31, 2, 0, "RingMatrices$Matrix", 2167, 2169, 2168, 0), (111, 2, 32, 3, 0, "RingMatrices$Matrix", 2179, 2181, 2180, 0), (115, 2, 29, 0, 0, "RingMatrices$Matrix", 2183, 2111, 2110, 0), (118, 2, 33, 1, 0, "RingMatrices$Matrix", 2191, 2193, 2192, 0), (126, 2, 35, 1, 0, "RingMatrices$Matrix", 2220, 2222, 2221, 0), (143, 2, 36, 1, 0, "RingMatrices$Matrix", 3043, 3045, 3044, 0), (256, 0, 77, 2, 2, "RingMatrices$Ring", 2227, 2230, 2228, 2229), (256, 1, 77, 2, 2, "RingMatrices$Ring", 2227, 2231, 2228, 2229), (256, 4, 77, 2, 2, "RingMatrices$Ring", 2227, 2232, 2228, 2229), (296, 0, 2, 3, 1, "RingMatrices$Ring", 3042, 2237, 2238, 2236), (296, 1, 17, 3, 1, "RingMatrices$Ring", 3042, 3012, 3013, 2236)]
set_option maxRecDepth 100000 in
theorem zVV_9_0_ok : zVV_9_0.all (zckVV 9) = true := by decide +kernel
def zVV_9_1 : List (Nat × Nat × Nat × Nat × Nat × String × Nat × Nat × Nat × Nat) := [(296, 4, 60, 3, 1, "RingMatrices$Ring", 3042, 3023, 3024, 2236), (157, 2, 37, 2, 0, "RingMatrices$Matrix", 3089, 3091, 3090, 0), (165, 2, 39, 4, 0, "RingMatrices$Matrix", 3100, 3102, 3101, 0), (169, 0, 79, 1, 2, "RingMatrices$Ring", 3139, 3142, 3140, 3141), (169, 1, 79, 1, 2, "RingMatrices$Ring", 3139, 3143, 3140, 3141), (169, 4, 79, 1, 2, "RingMatrices$Ring", 3139, 3144, 3140, 3141), (173, 2, 43, 0, 0, "RingMatrices$Matrix", 3168, 3170, 3169, 0), (176, 2, 38, 1, 0, "RingMatrices$Matrix", 3207, 3095, 3094, 0), (180, 2, 44, 2, 0, "RingMatrices$Matrix", 3208, 3210, 3209, 0), (214, 2, 45, 2, 0, "RingMatrices$Matrix", 4103, 4105, 4104, 0), (218, 6, 122, 1, 0, "RingMatrices", 4114, 11, 4116, 0), (221, 2, 46, 1, 0, "RingMatrices$Matrix", 4120, 4122, 4121, 0), (250, 0, 81, 2, 2, "RingMatrices$Ring", 4118, 4075, 4073, 4074), (250, 1, 81, 2, 2, "RingMatrices$Ring", 4118, 4076, 4073, 4074), (250, 4, 81, 2, 2, "RingMatrices$Ring", 4118, 4077, 4073, 4074), (247, 0, 6, 2, 1, "RingMatrices$Ring", 4119, 4002, 4003, 4001), (247, 1, 21, 2, 1, "RingMatrices$Ring", 4119, 4010, 4011, 4001), (247, 4, 67, 2, 1, "RingMatrices$Ring", 4119, 4016, 4017, 4001), (226, 0, 8, 1, 1, "RingMatrices$Ring", 4145, 4148, 4149, 4147), (226, 1, 23, 1, 1, "RingMatrices$Ring", 4145, 4151, 4152, 4147)]
set_option maxRecDepth 100000 in
theorem zVV_9_1_ok : zVV_9_1.all (zckVV 9) = true := by decide +kernel
def zVV_9_2 : List (Nat × Nat × Nat × Nat × Nat × String × Nat × Nat × Nat × Nat) := [(226, 4, 69, 1, 1, "RingMatrices$Ring", 4145, 4155, 4156, 4147), (237, 6, 127, 0, 0, "RingMatrices", 4169, 12, 4171, 0), (300, 0, 4, 1, 1, "RingMatrices$Ring", 4173, 3175, 3176, 3174), (300, 1, 19, 1, 1, "RingMatrices$Ring", 4173, 3178, 3179, 3174), (300, 4, 64, 1, 1, "RingMatrices$Ring", 4173, 3181, 3182, 3174), (303, 0, 5, 1, 1, "RingMatrices$Ring", 4174, 3187, 3188, 3186), (303, 1, 20, 1, 1, "RingMatrices$Ring", 4174, 3190, 3191, 3186), (303, 4, 65, 1, 1, "RingMatrices$Ring", 4174, 3193, 3194, 3186), (241, 2, 47, 2, 0, "RingMatrices$Matrix", 4182, 4184, 4183, 0), (253, 0, 7, 1, 1, "RingMatrices$Ring", 4208, 4026, 4027, 4025), (253, 1, 22, 1, 1, "RingMatrices$Ring", 4208, 4031, 4032, 4025), (253, 4, 68, 1, 1, "RingMatrices$Ring", 4208, 4035, 4036, 4025), (262, 5, 89, 1, 0, "RingMatrices$Text", 4216, 4218, 4217, 0), (265, 3, 49, 2, 0, "RingMatrices$MatrixReader", 4227, 4229, 4228, 0), (269, 0, 10, 2, 1, "RingMatrices$Ring", 5072, 5075, 5076, 5074), (269, 1, 25, 2, 1, "RingMatrices$Ring", 5072, 5086, 5087, 5074), (269, 4, 72, 2, 1, "RingMatrices$Ring", 5072, 5090, 5091, 5074), (275, 5, 90, 1, 0, "RingMatrices$Text", 5105, 5001, 5000, 0)]
set_option maxRecDepth 100000 in
theorem zVV_9_2_ok : zVV_9_2.all (zckVV 9) = true := by decide +kernel
def zVV_9 : List (Nat × Nat × Nat × Nat × Nat × String × Nat × Nat × Nat × Nat) := zVV_9_0 ++ (zVV_9_1 ++ (zVV_9_2))
theorem zVV_9_ok : ∀ q ∈ zVV_9, zckVV 9 q = true := List.forall_mem_append.mpr ⟨List.all_eq_true.mp zVV_9_0_ok, List.forall_mem_append.mpr ⟨List.all_eq_true.mp zVV_9_1_ok, List.all_eq_true.mp zVV_9_2_ok⟩⟩
def zVV_10_0 : List (Nat × Nat × Nat × Nat × Nat × String × Nat × Nat × Nat × Nat) := [(139, 7, 142, 1, 0, "RingMatricesModel", 5197, 14, 5199, 0), (200, 7, 144, 1, 0, "RingMatricesModel", 5206, 15, 5208, 0), (203, 7, 145, 4, 0, "RingMatricesModel", 5210, 16, 5212, 0), (117, 7, 146, 1, 0, "RingMatricesModel", 5214, 17, 5216, 0), (207, 7, 148, 3, 0, "RingMatricesModel", 5222, 18, 5224, 0), (128, 7, 152, 3, 0, "RingMatricesModel", 5239, 19, 6001, 0), (135, 7, 154, 2, 0, "RingMatricesModel", 6007, 20, 6009, 0), (214, 7, 156, 4, 0, "RingMatricesModel", 6015, 21, 6017, 0), (217, 7, 162, 3, 0, "RingMatricesModel", 6037, 25, 6039, 0), (88, 7, 157, 7, 0, "RingMatricesModel", 6019, 22, 6021, 0), (73, 7, 158, 3, 0, "RingMatricesModel", 6023, 23, 6025, 0), (81, 7, 160, 1, 0, "RingMatricesModel", 6030, 24, 6032, 0), (220, 7, 164, 3, 0, "RingMatricesModel", 6045, 26, 6047, 0), (223, 7, 169, 1, 0, "RingMatricesModel", 6065, 27, 6067, 0), (229, 7, 171, 4, 0, "RingMatricesModel", 6073, 28, 6075, 0), (232, 7, 172, 6, 0, "RingMatricesModel", 6077, 29, 6079, 0), (226, 7, 173, 1, 0, "RingMatricesModel", 6081, 30, 6083, 0), (146, 7, 174, 6, 0, "RingMatricesModel", 6085, 31, 6087, 0), (131, 7, 175, 6, 0, "RingMatricesModel", 6089, 32, 6091, 0), (239, 7, 181, 2, 0, "RingMatricesModel", 6111, 33, 6113, 0)]
set_option maxRecDepth 100000 in
theorem zVV_10_0_ok : zVV_10_0.all (zckVV 10) = true := by decide +kernel
def zVV_10_1 : List (Nat × Nat × Nat × Nat × Nat × String × Nat × Nat × Nat × Nat) := [(242, 7, 184, 1, 0, "RingMatricesModel", 6123, 34, 6125, 0), (156, 7, 185, 4, 0, "RingMatricesModel", 6127, 35, 6129, 0), (160, 7, 187, 3, 0, "RingMatricesModel", 6134, 36, 6136, 0), (163, 7, 188, 3, 0, "RingMatricesModel", 6138, 37, 6140, 0), (166, 7, 190, 5, 0, "RingMatricesModel", 6146, 39, 6148, 0), (170, 7, 197, 3, 0, "RingMatricesModel", 6173, 43, 6175, 0), (152, 7, 189, 3, 0, "RingMatricesModel", 6142, 38, 6144, 0), (110, 7, 191, 5, 0, "RingMatricesModel", 6150, 40, 6152, 0), (114, 7, 195, 3, 0, "RingMatricesModel", 6166, 42, 6168, 0), (102, 7, 193, 3, 0, "RingMatricesModel", 6159, 41, 6161, 0), (149, 7, 198, 3, 0, "RingMatricesModel", 6177, 44, 6179, 0), (245, 7, 200, 1, 0, "RingMatricesModel", 6185, 45, 6187, 0), (182, 7, 201, 2, 0, "RingMatricesModel", 6189, 46, 6191, 0), (185, 7, 202, 2, 0, "RingMatricesModel", 6193, 47, 6195, 0), (188, 7, 203, 2, 0, "RingMatricesModel", 6197, 48, 6199, 0), (179, 7, 204, 5, 0, "RingMatricesModel", 6201, 49, 6203, 0), (250, 7, 208, 1, 0, "RingMatricesModel", 6218, 50, 6220, 0), (253, 7, 209, 1, 0, "RingMatricesModel", 6222, 51, 6224, 0), (256, 7, 210, 0, 0, "RingMatricesModel", 6226, 52, 6228, 0), (259, 7, 213, 1, 0, "RingMatricesModel", 6238, 53, 7000, 0)]
set_option maxRecDepth 100000 in
theorem zVV_10_1_ok : zVV_10_1.all (zckVV 10) = true := by decide +kernel
def zVV_10_2 : List (Nat × Nat × Nat × Nat × Nat × String × Nat × Nat × Nat × Nat) := [(264, 7, 216, 1, 0, "RingMatricesModel", 7011, 54, 7013, 0), (267, 7, 218, 2, 0, "RingMatricesModel", 7019, 55, 7021, 0), (270, 7, 219, 3, 0, "RingMatricesModel", 7023, 56, 7025, 0), (273, 7, 220, 1, 0, "RingMatricesModel", 7027, 57, 7029, 0), (341, 7, 227, 1, 0, "RingMatricesModel", 7056, 58, 7058, 0), (297, 7, 228, 1, 0, "RingMatricesModel", 7060, 59, 7062, 0), (313, 7, 229, 1, 0, "RingMatricesModel", 7064, 60, 7066, 0), (335, 7, 230, 1, 0, "RingMatricesModel", 7068, 61, 7070, 0), (338, 7, 231, 1, 0, "RingMatricesModel", 7072, 62, 7074, 0), (320, 7, 232, 0, 0, "RingMatricesModel", 7076, 63, 7078, 0), (323, 7, 236, 0, 0, "RingMatricesModel", 7095, 67, 7097, 0), (326, 7, 237, 1, 0, "RingMatricesModel", 7099, 68, 7101, 0), (300, 7, 233, 0, 0, "RingMatricesModel", 7080, 64, 7082, 0), (303, 7, 234, 2, 0, "RingMatricesModel", 7084, 65, 7086, 0), (291, 7, 235, 0, 0, "RingMatricesModel", 7088, 66, 7090, 0), (317, 7, 238, 2, 0, "RingMatricesModel", 7103, 69, 7105, 0), (347, 7, 241, 1, 0, "RingMatricesModel", 7115, 70, 7117, 0), (350, 7, 242, 1, 0, "RingMatricesModel", 7119, 71, 7121, 0), (353, 7, 243, 2, 0, "RingMatricesModel", 7123, 72, 7125, 0), (356, 7, 244, 2, 0, "RingMatricesModel", 7127, 73, 7129, 0)]
set_option maxRecDepth 100000 in
theorem zVV_10_2_ok : zVV_10_2.all (zckVV 10) = true := by decide +kernel
def zVV_10 : List (Nat × Nat × Nat × Nat × Nat × String × Nat × Nat × Nat × Nat) := zVV_10_0 ++ (zVV_10_1 ++ (zVV_10_2))
theorem zVV_10_ok : ∀ q ∈ zVV_10, zckVV 10 q = true := List.forall_mem_append.mpr ⟨List.all_eq_true.mp zVV_10_0_ok, List.forall_mem_append.mpr ⟨List.all_eq_true.mp zVV_10_1_ok, List.all_eq_true.mp zVV_10_2_ok⟩⟩
def zVV_11_0 : List (Nat × Nat × Nat × Nat × Nat × String × Nat × Nat × Nat × Nat) := [(7, 6, 94, 4, 0, "RingMatrices", 2053, 2055, 2054, 0), (17, 6, 98, 5, 0, "RingMatrices", 2120, 2122, 2121, 0), (23, 6, 101, 2, 0, "RingMatrices", 2187, 2189, 2188, 0), (27, 6, 102, 3, 0, "RingMatrices", 2216, 2218, 2217, 0), (33, 6, 104, 1, 0, "RingMatrices", 3050, 3052, 3051, 0), (37, 6, 105, 1, 0, "RingMatrices", 3057, 3059, 3058, 0), (40, 6, 106, 1, 0, "RingMatrices", 3064, 3066, 3065, 0), (43, 6, 107, 4, 0, "RingMatrices", 3071, 3073, 3072, 0), (46, 6, 110, 4, 0, "RingMatrices", 3085, 3087, 3086, 0), (50, 6, 112, 6, 0, "RingMatrices", 3128, 3130, 3129, 0), (54, 6, 113, 5, 0, "RingMatrices", 3135, 3137, 3136, 0), (58, 6, 114, 1, 0, "RingMatrices", 3164, 3166, 3165, 0), (61, 6, 115, 3, 0, "RingMatrices", 3203, 3205, 3204, 0), (65, 6, 116, 1, 0, "RingMatrices", 3216, 3218, 3217, 0), (68, 6, 117, 1, 0, "RingMatrices", 4046, 4048, 4047, 0), (71, 6, 118, 1, 0, "RingMatrices", 4084, 4086, 4085, 0), (74, 6, 119, 3, 0, "RingMatrices", 4091, 4093, 4092, 0), (77, 6, 120, 5, 0, "RingMatrices", 4099, 4101, 4100, 0), (80, 6, 121, 3, 0, "RingMatrices", 4110, 4112, 4111, 0), (83, 6, 123, 2, 0, "RingMatrices", 4127, 4129, 4128, 0)]
set_option maxRecDepth 100000 in
theorem zVV_11_0_ok : zVV_11_0.all (zckVV 11) = true := by decide +kernel
def zVV_11_1 : List (Nat × Nat × Nat × Nat × Nat × String × Nat × Nat × Nat × Nat) := [(86, 6, 124, 3, 0, "RingMatrices", 4134, 4136, 4135, 0), (89, 6, 125, 1, 0, "RingMatrices", 4141, 4143, 4142, 0), (93, 6, 126, 2, 0, "RingMatrices", 4165, 4167, 4166, 0), (96, 6, 128, 2, 0, "RingMatrices", 4178, 4180, 4179, 0), (100, 6, 129, 2, 0, "RingMatrices", 4189, 4191, 4190, 0), (103, 6, 130, 4, 0, "RingMatrices", 4196, 4198, 4197, 0), (106, 6, 131, 6, 0, "RingMatrices", 4204, 4206, 4205, 0), (110, 6, 132, 1, 0, "RingMatrices", 4212, 4214, 4213, 0), (113, 6, 133, 1, 0, "RingMatrices", 4223, 4225, 4224, 0), (116, 6, 134, 2, 0, "RingMatrices", 5061, 5063, 5062, 0), (119, 6, 135, 1, 0, "RingMatrices", 5068, 5070, 5069, 0), (122, 6, 136, 1, 0, "RingMatrices", 5100, 5102, 5101, 0), (134, 7, 139, 4, 0, "RingMatricesModel", 5186, 5188, 5187, 0), (135, 7, 138, 0, 0, "RingMatricesModel", 5182, 5184, 5183, 0), (142, 7, 147, 5, 0, "RingMatricesModel", 5218, 5220, 5219, 0), (146, 7, 153, 2, 0, "RingMatricesModel", 6003, 6005, 6004, 0), (150, 7, 155, 3, 0, "RingMatricesModel", 6011, 6013, 6012, 0), (154, 7, 163, 1, 0, "RingMatricesModel", 6041, 6043, 6042, 0), (157, 7, 165, 1, 0, "RingMatricesModel", 6049, 6051, 6050, 0), (160, 7, 166, 1, 0, "RingMatricesModel", 6053, 6055, 6054, 0)]
set_option maxRecDepth 100000 in
theorem zVV_11_1_ok : zVV_11_1.all (zckVV 11) = true := by decide +kernel
def zVV_11_2 : List (Nat × Nat × Nat × Nat × Nat × String × Nat × Nat × Nat × Nat) := [(163, 7, 168, 4, 0, "RingMatricesModel", 6061, 6063, 6062, 0), (167, 7, 170, 4, 0, "RingMatricesModel", 6069, 6071, 6070, 0), (171, 7, 177, 6, 0, "RingMatricesModel", 6096, 6098, 6097, 0), (175, 7, 178, 5, 0, "RingMatricesModel", 6100, 6102, 6101, 0), (178, 7, 180, 1, 0, "RingMatricesModel", 6107, 6109, 6108, 0), (182, 7, 182, 3, 0, "RingMatricesModel", 6115, 6117, 6116, 0), (185, 7, 183, 1, 0, "RingMatricesModel", 6119, 6121, 6120, 0), (188, 7, 199, 1, 0, "RingMatricesModel", 6181, 6183, 6182, 0), (191, 7, 167, 1, 0, "RingMatricesModel", 6057, 6059, 6058, 0), (194, 7, 205, 3, 0, "RingMatricesModel", 6205, 6207, 6206, 0), (197, 7, 206, 5, 0, "RingMatricesModel", 6210, 6212, 6211, 0), (200, 7, 207, 3, 0, "RingMatricesModel", 6214, 6216, 6215, 0), (203, 7, 211, 2, 0, "RingMatricesModel", 6230, 6232, 6231, 0), (206, 7, 212, 3, 0, "RingMatricesModel", 6234, 6236, 6235, 0), (209, 7, 214, 1, 0, "RingMatricesModel", 7002, 7004, 7003, 0), (212, 7, 215, 2, 0, "RingMatricesModel", 7007, 7009, 7008, 0), (215, 7, 217, 2, 0, "RingMatricesModel", 7015, 7017, 7016, 0), (218, 7, 221, 2, 0, "RingMatricesModel", 7031, 7033, 7032, 0), (221, 7, 222, 4, 0, "RingMatricesModel", 7035, 7037, 7036, 0), (225, 7, 223, 6, 0, "RingMatricesModel", 7039, 7041, 7040, 0)]
set_option maxRecDepth 100000 in
theorem zVV_11_2_ok : zVV_11_2.all (zckVV 11) = true := by decide +kernel
def zVV_11_3 : List (Nat × Nat × Nat × Nat × Nat × String × Nat × Nat × Nat × Nat) := [(228, 7, 224, 1, 0, "RingMatricesModel", 7043, 7045, 7044, 0), (229, 6, 93, 0, 0, "RingMatrices", 1207, 1209, 1208, 0), (232, 7, 225, 0, 0, "RingMatricesModel", 7048, 7050, 7049, 0), (235, 7, 226, 1, 0, "RingMatricesModel", 7052, 7054, 7053, 0), (238, 7, 239, 2, 0, "RingMatricesModel", 7107, 7109, 7108, 0), (241, 7, 240, 1, 0, "RingMatricesModel", 7111, 7113, 7112, 0), (244, 7, 245, 1, 0, "RingMatricesModel", 7131, 7133, 7132, 0)]
set_option maxRecDepth 100000 in
theorem zVV_11_3_ok : zVV_11_3.all (zckVV 11) = true := by decide +kernel
def zVV_11 : List (Nat × Nat × Nat × Nat × Nat × String × Nat × Nat × Nat × Nat) := zVV_11_0 ++ (zVV_11_1 ++ (zVV_11_2 ++ (zVV_11_3)))
theorem zVV_11_ok : ∀ q ∈ zVV_11, zckVV 11 q = true := List.forall_mem_append.mpr ⟨List.all_eq_true.mp zVV_11_0_ok, List.forall_mem_append.mpr ⟨List.all_eq_true.mp zVV_11_1_ok, List.forall_mem_append.mpr ⟨List.all_eq_true.mp zVV_11_2_ok, List.all_eq_true.mp zVV_11_3_ok⟩⟩⟩
def zVV_12_0 : List (Nat × Nat × Nat × Nat × Nat × String × Nat × Nat × Nat × Nat) := []
set_option maxRecDepth 100000 in
theorem zVV_12_0_ok : zVV_12_0.all (zckVV 12) = true := by decide +kernel
def zVV_12 : List (Nat × Nat × Nat × Nat × Nat × String × Nat × Nat × Nat × Nat) := zVV_12_0
theorem zVV_12_ok : ∀ q ∈ zVV_12, zckVV 12 q = true := List.all_eq_true.mp zVV_12_0_ok
def zVV_13_0 : List (Nat × Nat × Nat × Nat × Nat × String × Nat × Nat × Nat × Nat) := []
set_option maxRecDepth 100000 in
theorem zVV_13_0_ok : zVV_13_0.all (zckVV 13) = true := by decide +kernel
def zVV_13 : List (Nat × Nat × Nat × Nat × Nat × String × Nat × Nat × Nat × Nat) := zVV_13_0
theorem zVV_13_ok : ∀ q ∈ zVV_13, zckVV 13 q = true := List.all_eq_true.mp zVV_13_0_ok
def zVV_14_0 : List (Nat × Nat × Nat × Nat × Nat × String × Nat × Nat × Nat × Nat) := []
set_option maxRecDepth 100000 in
theorem zVV_14_0_ok : zVV_14_0.all (zckVV 14) = true := by decide +kernel
def zVV_14 : List (Nat × Nat × Nat × Nat × Nat × String × Nat × Nat × Nat × Nat) := zVV_14_0
theorem zVV_14_ok : ∀ q ∈ zVV_14, zckVV 14 q = true := List.all_eq_true.mp zVV_14_0_ok
def zVV : List (List (Nat × Nat × Nat × Nat × Nat × String × Nat × Nat × Nat × Nat)) := [zVV_0, zVV_1, zVV_2, zVV_3, zVV_4, zVV_5, zVV_6, zVV_7, zVV_8, zVV_9, zVV_10, zVV_11, zVV_12, zVV_13, zVV_14]
theorem zVV_ok : ∀ (o : Nat) (l : List (Nat × Nat × Nat × Nat × Nat × String × Nat × Nat × Nat × Nat)), zVV[o]? = some l → ∀ q ∈ l, zckVV o q = true := by
  intro o l h
  match o, h with
  | 0, h => cases h; exact zVV_0_ok
  | 1, h => cases h; exact zVV_1_ok
  | 2, h => cases h; exact zVV_2_ok
  | 3, h => cases h; exact zVV_3_ok
  | 4, h => cases h; exact zVV_4_ok
  | 5, h => cases h; exact zVV_5_ok
  | 6, h => cases h; exact zVV_6_ok
  | 7, h => cases h; exact zVV_7_ok
  | 8, h => cases h; exact zVV_8_ok
  | 9, h => cases h; exact zVV_9_ok
  | 10, h => cases h; exact zVV_10_ok
  | 11, h => cases h; exact zVV_11_ok
  | 12, h => cases h; exact zVV_12_ok
  | 13, h => cases h; exact zVV_13_ok
  | 14, h => cases h; exact zVV_14_ok
  | k + 15, h => simp [zVV] at h
