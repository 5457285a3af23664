def zon (o : Nat) : String := match o with
  | 0 => "RingMatrices$Gaussians"
  | 1 => "RingMatrices$HermiteForm"
  | 2 => "RingMatrices$Integers"
  | 3 => "RingMatrices$Matrix"
  | 4 => "RingMatrices$MatrixReader"
  | 5 => "RingMatrices$Polynomials"
  | 6 => "RingMatrices$Ring"
  | 7 => "RingMatrices$SmithForm"
  | 8 => "RingMatrices$Text"
  | 9 => "RingMatrices"
  | 10 => "RingMatricesModel"
  | 11 => "RingMatricesLaw"
  | 12 => "java/lang/Math"
  | 13 => "java/util/Arrays"
  | _ => "java/lang/Object"
def zcl : List vw_C := [(RX0, TX0, 1), (RX2, TX2, 1), (RX3, TX3, 11), (RX4, TX4, 6), (RX5, TX5, 6), (RX8, TX8, 2), (RX9, TX9, 8), (RX10, TX10, 23)]
def zexn (e : Nat) : String := match e with
  | 0 => "java/lang/IndexOutOfBoundsException"
  | 1 => "java/lang/IllegalStateException"
  | 2 => "java/lang/IllegalArgumentException"
  | _ => "java/lang/ArithmeticException"
def zPR_0 : List zM := [zm_0, zm_1, zm_2, zm_3, zm_4, zm_5, zm_6, zm_7, zm_8, zm_9, zm_10, zm_11, zm_12, zm_13, zm_14, zm_15]
def zPR_1 : List zM := [zm_16, zm_17, zm_18, zm_19, zm_20, zm_21, zm_22, zm_23, zm_24, zm_25, zm_26, zm_27, zm_28, zm_29, zm_30, zm_31]
def zPR_2 : List zM := [zm_32, zm_33, zm_34, zm_35, zm_36, zm_37, zm_38, zm_39, zm_40, zm_41, zm_42, zm_43, zm_44, zm_45, zm_46, zm_47]
def zPR_3 : List zM := [zm_48, zm_49, zm_50, zm_51, zm_52, zm_53, zm_54, zm_55, zm_56, zm_57, zm_58, zm_59, zm_60, zm_61, zm_62, zm_63]
def zPR_4 : List zM := [zm_64, zm_65, zm_66, zm_67, zm_68, zm_69, zm_70, zm_71, zm_72, zm_73, zm_74, zm_75, zm_76, zm_77, zm_78, zm_79]
def zPR_5 : List zM := [zm_80, zm_81, zm_82, zm_83, zm_84, zm_85, zm_86, zm_87, zm_88, zm_89, zm_90, zm_91, zm_92, zm_93, zm_94, zm_95]
def zPR_6 : List zM := [zm_96, zm_97, zm_98, zm_99, zm_100, zm_101, zm_102, zm_103, zm_104, zm_105, zm_106, zm_107, zm_108, zm_109, zm_110, zm_111]
def zPR_7 : List zM := [zm_112, zm_113, zm_114, zm_115, zm_116, zm_117, zm_118, zm_119, zm_120, zm_121, zm_122, zm_123, zm_124, zm_125, zm_126, zm_127]
def zPR_8 : List zM := [zm_128, zm_129, zm_130, zm_131, zm_132, zm_133, zm_134, zm_135, zm_136, zm_137, zm_138, zm_139, zm_140, zm_141, zm_142, zm_143]
def zPR_9 : List zM := [zm_144, zm_145, zm_146, zm_147, zm_148, zm_149, zm_150, zm_151, zm_152, zm_153, zm_154, zm_155, zm_156, zm_157, zm_158, zm_159]
def zPR_10 : List zM := [zm_160, zm_161, zm_162, zm_163, zm_164, zm_165, zm_166, zm_167, zm_168, zm_169, zm_170, zm_171, zm_172, zm_173, zm_174, zm_175]
def zPR_11 : List zM := [zm_176, zm_177, zm_178, zm_179, zm_180, zm_181, zm_182, zm_183, zm_184, zm_185, zm_186, zm_187, zm_188, zm_189, zm_190, zm_191]
def zPR_12 : List zM := [zm_192, zm_193, zm_194, zm_195, zm_196, zm_197, zm_198, zm_199, zm_200, zm_201, zm_202, zm_203, zm_204, zm_205, zm_206, zm_207]
def zPR_13 : List zM := [zm_208, zm_209, zm_210, zm_211, zm_212, zm_213, zm_214, zm_215, zm_216, zm_217, zm_218, zm_219, zm_220, zm_221, zm_222, zm_223]
def zPR_14 : List zM := [zm_224, zm_225, zm_226, zm_227, zm_228, zm_229, zm_230, zm_231, zm_232, zm_233, zm_234, zm_235, zm_236, zm_237, zm_238, zm_239]
def zPR_15 : List zM := [zm_240, zm_241, zm_242, zm_243, zm_244, zm_245, zm_246, zm_247, zm_248, zm_249, zm_250, zm_251, zm_252, zm_253, zm_254, zm_255]
def zPR_16 : List zM := [zm_256, zm_257, zm_258, zm_259, zm_260, zm_261, zm_262, zm_263, zm_264, zm_265, zm_266, zm_267, zm_268, zm_269, zm_270, zm_271]
def zPR_17 : List zM := [zm_272, zm_273, zm_274, zm_275, zm_276, zm_277, zm_278, zm_279, zm_280, zm_281, zm_282, zm_283, zm_284]
def zPR : List (List zM) := [zPR_0, zPR_1, zPR_2, zPR_3, zPR_4, zPR_5, zPR_6, zPR_7, zPR_8, zPR_9, zPR_10, zPR_11, zPR_12, zPR_13, zPR_14, zPR_15, zPR_16, zPR_17]
def zSTR : List (String × Nat × String) := [("RingMatrices", 279, "no such slot"), ("RingMatrices", 283, "no such ring"), ("RingMatrices", 286, "an argument is out of range"), ("RingMatrices", 290, "the slots or the text do not allow this call"), ("RingMatrices$Gaussians", 26, "a Gaussian integer is out of range"), ("RingMatrices$Integers", 23, "an integer is out of range"), ("RingMatrices$Polynomials", 38, "a polynomial is out of range"), ("RingMatrices$Matrix", 94, "the log is full"), ("RingMatrices", 195, "no such step"), ("RingMatrices", 234, "the order is too large"), ("RingMatrices", 245, "the divisor is 0"), ("RingMatrices", 273, "no such byte")]
/-! what the tables say, held against lw_tbl by places (a list's number times 1000, and the place in it) -/
def zWs : List (List Cond) := [k2_sels lw_privs, tables_1_1, tables_1_2, tables_1_3, tables_1_4, tables_1_5, tables_1_6, tables_1_7]
def zWd (p : Nat) (w : Cond) : Bool := decide ((zWs[p / 1000]?).bind (fun l => l[p % 1000]?) = some w)
def zNk : Cond → Bool
  | .fieldLinkNest .. => true
  | .declares _ => true
  | .castable .. => true
  | _ => false
def zB : List Cond := lw_tbl.filter goodWord
def zNws : List Cond := lw_tbl.filter zNk
theorem zWs_mem : ∀ l ∈ zWs, ∀ w ∈ l, w ∈ lw_tbl := by
  intro l hl w hw
  simp only [zWs, List.mem_cons, List.not_mem_nil, or_false] at hl
  simp only [lw_tbl, tables_1, List.mem_append]
  rcases hl with rfl | rfl | rfl | rfl | rfl | rfl | rfl | rfl
  · exact Or.inl hw
  · exact Or.inr (Or.inl hw)
  · exact Or.inr (Or.inr (Or.inl hw))
  · exact Or.inr (Or.inr (Or.inr (Or.inl hw)))
  · exact Or.inr (Or.inr (Or.inr (Or.inr (Or.inl hw))))
  · exact Or.inr (Or.inr (Or.inr (Or.inr (Or.inr (Or.inl hw)))))
  · exact Or.inr (Or.inr (Or.inr (Or.inr (Or.inr (Or.inr (Or.inl hw))))))
  · exact Or.inr (Or.inr (Or.inr (Or.inr (Or.inr (Or.inr (Or.inr hw))))))
theorem zWd_mem {p : Nat} {w : Cond} (h : zWd p w = true) : w ∈ lw_tbl := by
  have h1 : (zWs[p / 1000]?).bind (fun l => l[p % 1000]?) = some w := of_decide_eq_true h
  obtain ⟨l, hl, hw⟩ := Option.bind_eq_some_iff.mp h1
  exact zWs_mem l (List.mem_of_getElem? hl) w (List.mem_of_getElem? hw)
theorem zB_of {p : Nat} {w : Cond} (h : zWd p w = true) (hg : goodWord w = true) : w ∈ zB := List.mem_filter.mpr ⟨zWd_mem h, hg⟩
theorem zN_of {p : Nat} {w : Cond} (h : zWd p w = true) (hg : zNk w = true) : w ∈ zNws := List.mem_filter.mpr ⟨zWd_mem h, hg⟩
theorem zB_good {w : Cond} (h : w ∈ zB) : goodWord w = true := (List.mem_filter.mp h).2
/-- a method's word of its own code -/
def zcw (M : zM) : Cond := match M.2.2.2.2.2.2.2 with
  | [] => .code M.2.2.1 M.2.2.2.1 M.2.2.2.2.1 M.2.2.2.2.2.1
  | _ => .codeWith M.2.2.1 M.2.2.2.1 M.2.2.2.2.1 M.2.2.2.2.2.1 M.2.2.2.2.2.2.2
def zws (M : zM) : List Cond := zcw M :: zB
def zpr (mi : Nat) : Option zM := (zPR[mi / 16]?).bind (fun l => l[mi % 16]?)
def zmh (c : String) : Bool := decide (c ≠ "java/lang/invoke/MethodHandle") && decide (c ≠ "java/lang/invoke/VarHandle")
def znp (d : String) (n : Nat) : Bool := decide ((parseMethodDescriptor d).map (fun q => q.parameters.length) = some n)
def zckD (M : zM) : Bool := (M.2.2.2.2.2.2.1).all (zdk M.2.2.2.1)
def zckM (M : zM) (q : Nat × Nat) : Bool := zWd q.1 (zcw M) && zWd q.2 (.initialized M.2.2.1.cls) && decide (zon M.1 = M.2.2.1.cls) && plainFor M.2.2.1 && zmh M.2.2.1.cls && Nat.ble M.2.2.2.2.1 20 && Nat.ble M.2.1 10
def zall2 {α β : Type} (f : α → β → Bool) : List α → List β → Bool
  | [], _ => true
  | a :: t, b :: u => f a b && zall2 f t u
  | _ :: _, [] => false
theorem zall2_mem {α β : Type} {f : α → β → Bool} {l : List α} {r : List β} (h : zall2 f l r = true) {a : α} (ha : a ∈ l) : ∃ b, f a b = true := by
  induction l generalizing r with
  | nil => cases ha
  | cons x t ih =>
    cases r with
    | nil => simp [zall2] at h
    | cons y u =>
      simp only [zall2, Bool.and_eq_true] at h
      rcases List.mem_cons.mp ha with rfl | ha
      · exact ⟨y, h.1⟩
      · exact ih h.2 ha
def zckF (o : Nat) (q : Nat × Nat × Nat × Nat × Bool) : Bool := match q with
  | (idx, ci, k, p, nest) => match zcl[ci]? with
    | some (_, T, N) => Nat.blt k N && zWd p (bif nest then .fieldLinkNest (zon o) idx (T k).1 (T k).2.1 (T k).2.2.1 "RingMatrices" else .fieldLink (zon o) idx (T k).1 (T k).2.1 (T k).2.2.1)
    | none => false
def zckCI (o : Nat) (q : Nat × Int32 × Nat) : Bool := zWd q.2.2 (.constant (zon o) q.1 q.2.1)
def zckCL (o : Nat) (q : Nat × Int64 × Nat) : Bool := zWd q.2.2 (.constantLong (zon o) q.1 q.2.1)
def zckNW (o : Nat) (q : Nat × Nat × Nat × Nat × Nat) : Bool := match q with
  | (idx, ci, p, p2, p3) => match zcl[ci]? with
    | some (C, _, N) => zWd p (.classLink (zon o) idx C) && zWd p2 (.instantiable C N) && zWd p3 (.initialized C)
    | none => false
def ztn (t : Nat) : String := match t with
  | 2 => "RingMatrices$Matrix"
  | _ => "RingMatrices$Ring"
def zckAW (o : Nat) (q : Nat × Nat × Nat) : Bool := zWd q.2.2 (.classLink (zon o) q.1 (ztn q.2.1)) && (Nat.beq q.2.1 2 || Nat.beq q.2.1 3)
def znms : List String := ["java/lang/RuntimeException", "java/lang/Exception"]
def zckTS (o : Nat) (q : Nat × Nat × Nat × Bool × Nat × String × Nat × Nat) : Bool := match q with
  | (ik, is, ic, _, e, tx, p, p2) => decide ((zon o, is, tx) ∈ zSTR) && zWd p (.classLink (zon o) ik (zexn e)) && zWd p2 (.initialized (zexn e)) && Bundle.fit (zexn e) && Nat.ble e 3 &&
    (vx_atS (zon o) ic (zexn e) znms).all (fun w => vx_ot w && (goodWord w || zNk w) && decide (w ∈ lw_tbl))
def zckSV (o : Nat) (q : Nat × Nat × Nat × Nat × String × Nat × Nat × Nat) : Bool := match q with
  | (idx, mi, np, kind, xc, p, ps, pm) => match zpr mi with
    | some M => zWd p (.methodLink (zon o) idx ⟨xc, M.2.2.1.name, M.2.2.1.desc⟩) && zWd ps (.static M.2.2.1) && znp M.2.2.1.desc np &&
      (bif Nat.beq kind 0 then decide (xc = M.2.2.1.cls) else zWd pm (.sameMethod xc M.2.2.1.cls M.2.2.1.name M.2.2.1.desc) && decide (M.2.2.2.2.2.2.2 = []))
    | none => false
def zckSC (o : Nat) (q : Nat × Nat × Nat × Nat × Nat) : Bool := match q with
  | (idx, mi, np, p, pi) => match zpr mi with
    | some M => zWd p (.methodLink (zon o) idx M.2.2.1) && zWd pi (.instanceMethod M.2.2.1) && decide (M.2.2.1.name = "<init>") && decide (M.2.2.2.2.2.1 = none) && znp M.2.2.1.desc np && decide (M.2.2.2.2.2.2.2 = [])
    | none => false
def zckVV (o : Nat) (q : Nat × Nat × Nat × Nat × Nat × String × Nat × Nat × Nat × Nat) : Bool := match q with
  | (idx, ci, mi, np, kind, xc, p, psel, pin, pm) => match zpr mi, zcl[ci]? with
    | some M, some (C, _, _) => zWd p (.methodLink (zon o) idx ⟨xc, M.2.2.1.name, M.2.2.1.desc⟩) && zWd psel (.selects C ⟨xc, M.2.2.1.name, M.2.2.1.desc⟩ M.2.2.1) && zWd pin (.instanceMethod M.2.2.1) && znp M.2.2.1.desc np && zmh xc && decide (M.2.2.2.2.2.2.2 = []) &&
      (bif Nat.beq kind 0 then decide (xc = M.2.2.1.cls) && decide (C = M.2.2.1.cls) else zWd pm (.sameMethod xc xc M.2.2.1.name M.2.2.1.desc) && (bif Nat.beq kind 1 then decide (Cond.declares ⟨xc, M.2.2.1.name, M.2.2.1.desc⟩ ∈ lw_tbl) else decide (xc = M.2.2.1.cls)))
    | _, _ => false
def zckO (o : Nat) (q : Nat × Nat) : Bool := zWd q.2 (.methodLink (zon o) q.1 Lib.objectInit)
def zckAC (o : Nat) (q : Nat × Nat) : Bool := zWd q.2 (.methodLink (zon o) q.1 arraycopyName)
def zckXH (o : Nat) (q : Nat × Nat × Nat) : Bool := zWd q.2.2 (.classLink (zon o) q.1 (zexn q.2.1)) && decide (q.1 ≠ 0) && decide (Cond.castable (zexn q.2.1) (zexn q.2.1) ∈ lw_tbl) && Nat.ble q.2.1 3
theorem zPRd_0 : ∀ M ∈ zPR_0, zckD M = true := List.forall_mem_cons.mpr ⟨zd_0, List.forall_mem_cons.mpr ⟨zd_1, List.forall_mem_cons.mpr ⟨zd_2, List.forall_mem_cons.mpr ⟨zd_3, List.forall_mem_cons.mpr ⟨zd_4, List.forall_mem_cons.mpr ⟨zd_5, List.forall_mem_cons.mpr ⟨zd_6, List.forall_mem_cons.mpr ⟨zd_7, List.forall_mem_cons.mpr ⟨zd_8, List.forall_mem_cons.mpr ⟨zd_9, List.forall_mem_cons.mpr ⟨zd_10, List.forall_mem_cons.mpr ⟨zd_11, List.forall_mem_cons.mpr ⟨zd_12, List.forall_mem_cons.mpr ⟨zd_13, List.forall_mem_cons.mpr ⟨zd_14, List.forall_mem_cons.mpr ⟨zd_15, fun _ h => absurd h List.not_mem_nil⟩⟩⟩⟩⟩⟩⟩⟩⟩⟩⟩⟩⟩⟩⟩⟩
def zMP_0 : List (Nat × Nat) := [(1053, 1004), (2156, 1004), (2239, 1004), (3151, 1004), (3177, 1004), (3189, 1004), (4004, 1004), (4028, 1004), (4150, 1004), (5020, 1004), (5077, 1004), (3222, 1022), (3225, 1022), (3230, 1022), (4042, 1022), (1036, 1003)]
set_option maxRecDepth 100000 in
theorem zMP_0_ok : zall2 zckM zPR_0 zMP_0 = true := by decide +kernel
theorem zPRd_1 : ∀ M ∈ zPR_1, zckD M = true := List.forall_mem_cons.mpr ⟨zd_16, List.forall_mem_cons.mpr ⟨zd_17, List.forall_mem_cons.mpr ⟨zd_18, List.forall_mem_cons.mpr ⟨zd_19, List.forall_mem_cons.mpr ⟨zd_20, List.forall_mem_cons.mpr ⟨zd_21, List.forall_mem_cons.mpr ⟨zd_22, List.forall_mem_cons.mpr ⟨zd_23, List.forall_mem_cons.mpr ⟨zd_24, List.forall_mem_cons.mpr ⟨zd_25, List.forall_mem_cons.mpr ⟨zd_26, List.forall_mem_cons.mpr ⟨zd_27, List.forall_mem_cons.mpr ⟨zd_28, List.forall_mem_cons.mpr ⟨zd_29, List.forall_mem_cons.mpr ⟨zd_30, List.forall_mem_cons.mpr ⟨zd_31, fun _ h => absurd h List.not_mem_nil⟩⟩⟩⟩⟩⟩⟩⟩⟩⟩⟩⟩⟩⟩⟩⟩
def zMP_1 : List (Nat × Nat) := [(2161, 1003), (3014, 1003), (3154, 1003), (3180, 1003), (3192, 1003), (4012, 1003), (4033, 1003), (4153, 1003), (5040, 1003), (5088, 1003), (1089, 1007), (2101, 1007), (2105, 1007), (2112, 1007), (2150, 1007), (2170, 1007)]
set_option maxRecDepth 100000 in
theorem zMP_1_ok : zall2 zckM zPR_1 zMP_1 = true := by decide +kernel
theorem zPRd_2 : ∀ M ∈ zPR_2, zckD M = true := List.forall_mem_cons.mpr ⟨zd_32, List.forall_mem_cons.mpr ⟨zd_33, List.forall_mem_cons.mpr ⟨zd_34, List.forall_mem_cons.mpr ⟨zd_35, List.forall_mem_cons.mpr ⟨zd_36, List.forall_mem_cons.mpr ⟨zd_37, List.forall_mem_cons.mpr ⟨zd_38, List.forall_mem_cons.mpr ⟨zd_39, List.forall_mem_cons.mpr ⟨zd_40, List.forall_mem_cons.mpr ⟨zd_41, List.forall_mem_cons.mpr ⟨zd_42, List.forall_mem_cons.mpr ⟨zd_43, List.forall_mem_cons.mpr ⟨zd_44, List.forall_mem_cons.mpr ⟨zd_45, List.forall_mem_cons.mpr ⟨zd_46, List.forall_mem_cons.mpr ⟨zd_47, fun _ h => absurd h List.not_mem_nil⟩⟩⟩⟩⟩⟩⟩⟩⟩⟩⟩⟩⟩⟩⟩⟩
def zMP_2 : List (Nat × Nat) := [(2182, 1007), (2194, 1007), (2198, 1007), (2223, 1007), (3046, 1007), (3092, 1007), (3096, 1007), (3103, 1007), (3110, 1007), (3117, 1007), (3123, 1007), (3171, 1007), (3211, 1007), (4106, 1007), (4123, 1007), (4185, 1007)]
set_option maxRecDepth 100000 in
theorem zMP_2_ok : zall2 zckM zPR_2 zMP_2 = true := by decide +kernel
theorem zPRd_3 : ∀ M ∈ zPR_3, zckD M = true := List.forall_mem_cons.mpr ⟨zd_48, List.forall_mem_cons.mpr ⟨zd_49, List.forall_mem_cons.mpr ⟨zd_50, List.forall_mem_cons.mpr ⟨zd_51, List.forall_mem_cons.mpr ⟨zd_52, List.forall_mem_cons.mpr ⟨zd_53, List.forall_mem_cons.mpr ⟨zd_54, List.forall_mem_cons.mpr ⟨zd_55, List.forall_mem_cons.mpr ⟨zd_56, List.forall_mem_cons.mpr ⟨zd_57, List.forall_mem_cons.mpr ⟨zd_58, List.forall_mem_cons.mpr ⟨zd_59, List.forall_mem_cons.mpr ⟨zd_60, List.forall_mem_cons.mpr ⟨zd_61, List.forall_mem_cons.mpr ⟨zd_62, List.forall_mem_cons.mpr ⟨zd_63, fun _ h => absurd h List.not_mem_nil⟩⟩⟩⟩⟩⟩⟩⟩⟩⟩⟩⟩⟩⟩⟩⟩
def zMP_3 : List (Nat × Nat) := [(1160, 1009), (4230, 1009), (4234, 1009), (4238, 1009), (5006, 1009), (5010, 1009), (5014, 1009), (5025, 1009), (5029, 1009), (5034, 1009), (1061, 1005), (2166, 1005), (3025, 1005), (3029, 1005), (3038, 1005), (3160, 1005)]
set_option maxRecDepth 100000 in
theorem zMP_3_ok : zall2 zckM zPR_3 zMP_3 = true := by decide +kernel
theorem zPRd_4 : ∀ M ∈ zPR_4, zckD M = true := List.forall_mem_cons.mpr ⟨zd_64, List.forall_mem_cons.mpr ⟨zd_65, List.forall_mem_cons.mpr ⟨zd_66, List.forall_mem_cons.mpr ⟨zd_67, List.forall_mem_cons.mpr ⟨zd_68, List.forall_mem_cons.mpr ⟨zd_69, List.forall_mem_cons.mpr ⟨zd_70, List.forall_mem_cons.mpr ⟨zd_71, List.forall_mem_cons.mpr ⟨zd_72, List.forall_mem_cons.mpr ⟨zd_73, List.forall_mem_cons.mpr ⟨zd_74, List.forall_mem_cons.mpr ⟨zd_75, List.forall_mem_cons.mpr ⟨zd_76, List.forall_mem_cons.mpr ⟨zd_77, List.forall_mem_cons.mpr ⟨zd_78, List.forall_mem_cons.mpr ⟨zd_79, fun _ h => absurd h List.not_mem_nil⟩⟩⟩⟩⟩⟩⟩⟩⟩⟩⟩⟩⟩⟩⟩⟩
def zMP_4 : List (Nat × Nat) := [(3183, 1005), (3195, 1005), (3199, 1005), (4018, 1005), (4037, 1005), (4157, 1005), (5046, 1005), (5051, 1005), (5092, 1005), (5096, 1005), (1039, 1002), (2174, 1002), (2177, 1002), (2233, 1002), (3005, 1002), (3145, 1002)]
set_option maxRecDepth 100000 in
theorem zMP_4_ok : zall2 zckM zPR_4 zMP_4 = true := by decide +kernel
theorem zPRd_5 : ∀ M ∈ zPR_5, zckD M = true := List.forall_mem_cons.mpr ⟨zd_80, List.forall_mem_cons.mpr ⟨zd_81, List.forall_mem_cons.mpr ⟨zd_82, List.forall_mem_cons.mpr ⟨zd_83, List.forall_mem_cons.mpr ⟨zd_84, List.forall_mem_cons.mpr ⟨zd_85, List.forall_mem_cons.mpr ⟨zd_86, List.forall_mem_cons.mpr ⟨zd_87, List.forall_mem_cons.mpr ⟨zd_88, List.forall_mem_cons.mpr ⟨zd_89, List.forall_mem_cons.mpr ⟨zd_90, List.forall_mem_cons.mpr ⟨zd_91, List.forall_mem_cons.mpr ⟨zd_92, List.forall_mem_cons.mpr ⟨zd_93, List.forall_mem_cons.mpr ⟨zd_94, List.forall_mem_cons.mpr ⟨zd_95, fun _ h => absurd h List.not_mem_nil⟩⟩⟩⟩⟩⟩⟩⟩⟩⟩⟩⟩⟩⟩⟩⟩
def zMP_5 : List (Nat × Nat) := [(3238, 1002), (4078, 1002), (4052, 1023), (4055, 1023), (4061, 1023), (4065, 1023), (4068, 1023), (4071, 1023), (1144, 1008), (4219, 1008), (5002, 1008), (5081, 1008), (1028, 1001), (1210, 1001), (2056, 1001), (2060, 1001)]
set_option maxRecDepth 100000 in
theorem zMP_5_ok : zall2 zckM zPR_5 zMP_5 = true := by decide +kernel
theorem zPRd_6 : ∀ M ∈ zPR_6, zckD M = true := List.forall_mem_cons.mpr ⟨zd_96, List.forall_mem_cons.mpr ⟨zd_97, List.forall_mem_cons.mpr ⟨zd_98, List.forall_mem_cons.mpr ⟨zd_99, List.forall_mem_cons.mpr ⟨zd_100, List.forall_mem_cons.mpr ⟨zd_101, List.forall_mem_cons.mpr ⟨zd_102, List.forall_mem_cons.mpr ⟨zd_103, List.forall_mem_cons.mpr ⟨zd_104, List.forall_mem_cons.mpr ⟨zd_105, List.forall_mem_cons.mpr ⟨zd_106, List.forall_mem_cons.mpr ⟨zd_107, List.forall_mem_cons.mpr ⟨zd_108, List.forall_mem_cons.mpr ⟨zd_109, List.forall_mem_cons.mpr ⟨zd_110, List.forall_mem_cons.mpr ⟨zd_111, fun _ h => absurd h List.not_mem_nil⟩⟩⟩⟩⟩⟩⟩⟩⟩⟩⟩⟩⟩⟩⟩⟩
def zMP_6 : List (Nat × Nat) := [(2077, 1001), (2096, 1001), (2123, 1001), (2127, 1001), (2130, 1001), (2190, 1001), (2219, 1001), (2226, 1001), (3053, 1001), (3060, 1001), (3067, 1001), (3074, 1001), (3077, 1001), (3080, 1001), (3088, 1001), (3099, 1001)]
set_option maxRecDepth 100000 in
theorem zMP_6_ok : zall2 zckM zPR_6 zMP_6 = true := by decide +kernel
theorem zPRd_7 : ∀ M ∈ zPR_7, zckD M = true := List.forall_mem_cons.mpr ⟨zd_112, List.forall_mem_cons.mpr ⟨zd_113, List.forall_mem_cons.mpr ⟨zd_114, List.forall_mem_cons.mpr ⟨zd_115, List.forall_mem_cons.mpr ⟨zd_116, List.forall_mem_cons.mpr ⟨zd_117, List.forall_mem_cons.mpr ⟨zd_118, List.forall_mem_cons.mpr ⟨zd_119, List.forall_mem_cons.mpr ⟨zd_120, List.forall_mem_cons.mpr ⟨zd_121, List.forall_mem_cons.mpr ⟨zd_122, List.forall_mem_cons.mpr ⟨zd_123, List.forall_mem_cons.mpr ⟨zd_124, List.forall_mem_cons.mpr ⟨zd_125, List.forall_mem_cons.mpr ⟨zd_126, List.forall_mem_cons.mpr ⟨zd_127, fun _ h => absurd h List.not_mem_nil⟩⟩⟩⟩⟩⟩⟩⟩⟩⟩⟩⟩⟩⟩⟩⟩
def zMP_7 : List (Nat × Nat) := [(3131, 1001), (3138, 1001), (3167, 1001), (3206, 1001), (3219, 1001), (4049, 1001), (4087, 1001), (4094, 1001), (4102, 1001), (4113, 1001), (4117, 1001), (4130, 1001), (4137, 1001), (4144, 1001), (4168, 1001), (4172, 1001)]
set_option maxRecDepth 100000 in
theorem zMP_7_ok : zall2 zckM zPR_7 zMP_7 = true := by decide +kernel
theorem zPRd_8 : ∀ M ∈ zPR_8, zckD M = true := List.forall_mem_cons.mpr ⟨zd_128, List.forall_mem_cons.mpr ⟨zd_129, List.forall_mem_cons.mpr ⟨zd_130, List.forall_mem_cons.mpr ⟨zd_131, List.forall_mem_cons.mpr ⟨zd_132, List.forall_mem_cons.mpr ⟨zd_133, List.forall_mem_cons.mpr ⟨zd_134, List.forall_mem_cons.mpr ⟨zd_135, List.forall_mem_cons.mpr ⟨zd_136, List.forall_mem_cons.mpr ⟨zd_137, List.forall_mem_cons.mpr ⟨zd_138, List.forall_mem_cons.mpr ⟨zd_139, List.forall_mem_cons.mpr ⟨zd_140, List.forall_mem_cons.mpr ⟨zd_141, List.forall_mem_cons.mpr ⟨zd_142, List.forall_mem_cons.mpr ⟨zd_143, fun _ h => absurd h List.not_mem_nil⟩⟩⟩⟩⟩⟩⟩⟩⟩⟩⟩⟩⟩⟩⟩⟩
def zMP_8 : List (Nat × Nat) := [(4181, 1001), (4192, 1001), (4199, 1001), (4207, 1001), (4215, 1001), (4226, 1001), (5064, 1001), (5071, 1001), (5103, 1001), (5110, 1010), (5185, 1010), (5189, 1010), (5192, 1010), (5196, 1010), (5200, 1010), (5203, 1010)]
set_option maxRecDepth 100000 in
theorem zMP_8_ok : zall2 zckM zPR_8 zMP_8 = true := by decide +kernel
theorem zPRd_9 : ∀ M ∈ zPR_9, zckD M = true := List.forall_mem_cons.mpr ⟨zd_144, List.forall_mem_cons.mpr ⟨zd_145, List.forall_mem_cons.mpr ⟨zd_146, List.forall_mem_cons.mpr ⟨zd_147, List.forall_mem_cons.mpr ⟨zd_148, List.forall_mem_cons.mpr ⟨zd_149, List.forall_mem_cons.mpr ⟨zd_150, List.forall_mem_cons.mpr ⟨zd_151, List.forall_mem_cons.mpr ⟨zd_152, List.forall_mem_cons.mpr ⟨zd_153, List.forall_mem_cons.mpr ⟨zd_154, List.forall_mem_cons.mpr ⟨zd_155, List.forall_mem_cons.mpr ⟨zd_156, List.forall_mem_cons.mpr ⟨zd_157, List.forall_mem_cons.mpr ⟨zd_158, List.forall_mem_cons.mpr ⟨zd_159, fun _ h => absurd h List.not_mem_nil⟩⟩⟩⟩⟩⟩⟩⟩⟩⟩⟩⟩⟩⟩⟩⟩
def zMP_9 : List (Nat × Nat) := [(5209, 1010), (5213, 1010), (5217, 1010), (5221, 1010), (5225, 1010), (5228, 1010), (5235, 1010), (5238, 1010), (6002, 1010), (6006, 1010), (6010, 1010), (6014, 1010), (6018, 1010), (6022, 1010), (6026, 1010), (6029, 1010)]
set_option maxRecDepth 100000 in
theorem zMP_9_ok : zall2 zckM zPR_9 zMP_9 = true := by decide +kernel
theorem zPRd_10 : ∀ M ∈ zPR_10, zckD M = true := List.forall_mem_cons.mpr ⟨zd_160, List.forall_mem_cons.mpr ⟨zd_161, List.forall_mem_cons.mpr ⟨zd_162, List.forall_mem_cons.mpr ⟨zd_163, List.forall_mem_cons.mpr ⟨zd_164, List.forall_mem_cons.mpr ⟨zd_165, List.forall_mem_cons.mpr ⟨zd_166, List.forall_mem_cons.mpr ⟨zd_167, List.forall_mem_cons.mpr ⟨zd_168, List.forall_mem_cons.mpr ⟨zd_169, List.forall_mem_cons.mpr ⟨zd_170, List.forall_mem_cons.mpr ⟨zd_171, List.forall_mem_cons.mpr ⟨zd_172, List.forall_mem_cons.mpr ⟨zd_173, List.forall_mem_cons.mpr ⟨zd_174, List.forall_mem_cons.mpr ⟨zd_175, fun _ h => absurd h List.not_mem_nil⟩⟩⟩⟩⟩⟩⟩⟩⟩⟩⟩⟩⟩⟩⟩⟩
def zMP_10 : List (Nat × Nat) := [(6033, 1010), (6036, 1010), (6040, 1010), (6044, 1010), (6048, 1010), (6052, 1010), (6056, 1010), (6060, 1010), (6064, 1010), (6068, 1010), (6072, 1010), (6076, 1010), (6080, 1010), (6084, 1010), (6088, 1010), (6092, 1010)]
set_option maxRecDepth 100000 in
theorem zMP_10_ok : zall2 zckM zPR_10 zMP_10 = true := by decide +kernel
theorem zPRd_11 : ∀ M ∈ zPR_11, zckD M = true := List.forall_mem_cons.mpr ⟨zd_176, List.forall_mem_cons.mpr ⟨zd_177, List.forall_mem_cons.mpr ⟨zd_178, List.forall_mem_cons.mpr ⟨zd_179, List.forall_mem_cons.mpr ⟨zd_180, List.forall_mem_cons.mpr ⟨zd_181, List.forall_mem_cons.mpr ⟨zd_182, List.forall_mem_cons.mpr ⟨zd_183, List.forall_mem_cons.mpr ⟨zd_184, List.forall_mem_cons.mpr ⟨zd_185, List.forall_mem_cons.mpr ⟨zd_186, List.forall_mem_cons.mpr ⟨zd_187, List.forall_mem_cons.mpr ⟨zd_188, List.forall_mem_cons.mpr ⟨zd_189, List.forall_mem_cons.mpr ⟨zd_190, List.forall_mem_cons.mpr ⟨zd_191, fun _ h => absurd h List.not_mem_nil⟩⟩⟩⟩⟩⟩⟩⟩⟩⟩⟩⟩⟩⟩⟩⟩
def zMP_11 : List (Nat × Nat) := [(6095, 1010), (6099, 1010), (6103, 1010), (6106, 1010), (6110, 1010), (6114, 1010), (6118, 1010), (6122, 1010), (6126, 1010), (6130, 1010), (6133, 1010), (6137, 1010), (6141, 1010), (6145, 1010), (6149, 1010), (6153, 1010)]
set_option maxRecDepth 100000 in
theorem zMP_11_ok : zall2 zckM zPR_11 zMP_11 = true := by decide +kernel
theorem zPRd_12 : ∀ M ∈ zPR_12, zckD M = true := List.forall_mem_cons.mpr ⟨zd_192, List.forall_mem_cons.mpr ⟨zd_193, List.forall_mem_cons.mpr ⟨zd_194, List.forall_mem_cons.mpr ⟨zd_195, List.forall_mem_cons.mpr ⟨zd_196, List.forall_mem_cons.mpr ⟨zd_197, List.forall_mem_cons.mpr ⟨zd_198, List.forall_mem_cons.mpr ⟨zd_199, List.forall_mem_cons.mpr ⟨zd_200, List.forall_mem_cons.mpr ⟨zd_201, List.forall_mem_cons.mpr ⟨zd_202, List.forall_mem_cons.mpr ⟨zd_203, List.forall_mem_cons.mpr ⟨zd_204, List.forall_mem_cons.mpr ⟨zd_205, List.forall_mem_cons.mpr ⟨zd_206, List.forall_mem_cons.mpr ⟨zd_207, fun _ h => absurd h List.not_mem_nil⟩⟩⟩⟩⟩⟩⟩⟩⟩⟩⟩⟩⟩⟩⟩⟩
def zMP_12 : List (Nat × Nat) := [(6156, 1010), (6162, 1010), (6165, 1010), (6169, 1010), (6172, 1010), (6176, 1010), (6180, 1010), (6184, 1010), (6188, 1010), (6192, 1010), (6196, 1010), (6200, 1010), (6204, 1010), (6208, 1010), (6213, 1010), (6217, 1010)]
set_option maxRecDepth 100000 in
theorem zMP_12_ok : zall2 zckM zPR_12 zMP_12 = true := by decide +kernel
theorem zPRd_13 : ∀ M ∈ zPR_13, zckD M = true := List.forall_mem_cons.mpr ⟨zd_208, List.forall_mem_cons.mpr ⟨zd_209, List.forall_mem_cons.mpr ⟨zd_210, List.forall_mem_cons.mpr ⟨zd_211, List.forall_mem_cons.mpr ⟨zd_212, List.forall_mem_cons.mpr ⟨zd_213, List.forall_mem_cons.mpr ⟨zd_214, List.forall_mem_cons.mpr ⟨zd_215, List.forall_mem_cons.mpr ⟨zd_216, List.forall_mem_cons.mpr ⟨zd_217, List.forall_mem_cons.mpr ⟨zd_218, List.forall_mem_cons.mpr ⟨zd_219, List.forall_mem_cons.mpr ⟨zd_220, List.forall_mem_cons.mpr ⟨zd_221, List.forall_mem_cons.mpr ⟨zd_222, List.forall_mem_cons.mpr ⟨zd_223, fun _ h => absurd h List.not_mem_nil⟩⟩⟩⟩⟩⟩⟩⟩⟩⟩⟩⟩⟩⟩⟩⟩
def zMP_13 : List (Nat × Nat) := [(6221, 1010), (6225, 1010), (6229, 1010), (6233, 1010), (6237, 1010), (7001, 1010), (7005, 1010), (7010, 1010), (7014, 1010), (7018, 1010), (7022, 1010), (7026, 1010), (7030, 1010), (7034, 1010), (7038, 1010), (7042, 1010)]
set_option maxRecDepth 100000 in
theorem zMP_13_ok : zall2 zckM zPR_13 zMP_13 = true := by decide +kernel
theorem zPRd_14 : ∀ M ∈ zPR_14, zckD M = true := List.forall_mem_cons.mpr ⟨zd_224, List.forall_mem_cons.mpr ⟨zd_225, List.forall_mem_cons.mpr ⟨zd_226, List.forall_mem_cons.mpr ⟨zd_227, List.forall_mem_cons.mpr ⟨zd_228, List.forall_mem_cons.mpr ⟨zd_229, List.forall_mem_cons.mpr ⟨zd_230, List.forall_mem_cons.mpr ⟨zd_231, List.forall_mem_cons.mpr ⟨zd_232, List.forall_mem_cons.mpr ⟨zd_233, List.forall_mem_cons.mpr ⟨zd_234, List.forall_mem_cons.mpr ⟨zd_235, List.forall_mem_cons.mpr ⟨zd_236, List.forall_mem_cons.mpr ⟨zd_237, List.forall_mem_cons.mpr ⟨zd_238, List.forall_mem_cons.mpr ⟨zd_239, fun _ h => absurd h List.not_mem_nil⟩⟩⟩⟩⟩⟩⟩⟩⟩⟩⟩⟩⟩⟩⟩⟩
def zMP_14 : List (Nat × Nat) := [(7046, 1010), (7051, 1010), (7055, 1010), (7059, 1010), (7063, 1010), (7067, 1010), (7071, 1010), (7075, 1010), (7079, 1010), (7083, 1010), (7087, 1010), (7091, 1010), (7098, 1010), (7102, 1010), (7106, 1010), (7110, 1010)]
set_option maxRecDepth 100000 in
theorem zMP_14_ok : zall2 zckM zPR_14 zMP_14 = true := by decide +kernel
theorem zPRd_15 : ∀ M ∈ zPR_15, zckD M = true := List.forall_mem_cons.mpr ⟨zd_240, List.forall_mem_cons.mpr ⟨zd_241, List.forall_mem_cons.mpr ⟨zd_242, List.forall_mem_cons.mpr ⟨zd_243, List.forall_mem_cons.mpr ⟨zd_244, List.forall_mem_cons.mpr ⟨zd_245, List.forall_mem_cons.mpr ⟨zd_246, List.forall_mem_cons.mpr ⟨zd_247, List.forall_mem_cons.mpr ⟨zd_248, List.forall_mem_cons.mpr ⟨zd_249, List.forall_mem_cons.mpr ⟨zd_250, List.forall_mem_cons.mpr ⟨zd_251, List.forall_mem_cons.mpr ⟨zd_252, List.forall_mem_cons.mpr ⟨zd_253, List.forall_mem_cons.mpr ⟨zd_254, List.forall_mem_cons.mpr ⟨zd_255, fun _ h => absurd h List.not_mem_nil⟩⟩⟩⟩⟩⟩⟩⟩⟩⟩⟩⟩⟩⟩⟩⟩
def zMP_15 : List (Nat × Nat) := [(7114, 1010), (7118, 1010), (7122, 1010), (7126, 1010), (7130, 1010), (7134, 1010), (1213, 1000), (2118, 1000), (2186, 1000), (2201, 1000), (3049, 1000), (3056, 1000), (3063, 1000), (3070, 1000), (3084, 1000), (3127, 1000)]
set_option maxRecDepth 100000 in
theorem zMP_15_ok : zall2 zckM zPR_15 zMP_15 = true := by decide +kernel
theorem zPRd_16 : ∀ M ∈ zPR_16, zckD M = true := List.forall_mem_cons.mpr ⟨zd_256, List.forall_mem_cons.mpr ⟨zd_257, List.forall_mem_cons.mpr ⟨zd_258, List.forall_mem_cons.mpr ⟨zd_259, List.forall_mem_cons.mpr ⟨zd_260, List.forall_mem_cons.mpr ⟨zd_261, List.forall_mem_cons.mpr ⟨zd_262, List.forall_mem_cons.mpr ⟨zd_263, List.forall_mem_cons.mpr ⟨zd_264, List.forall_mem_cons.mpr ⟨zd_265, List.forall_mem_cons.mpr ⟨zd_266, List.forall_mem_cons.mpr ⟨zd_267, List.forall_mem_cons.mpr ⟨zd_268, List.forall_mem_cons.mpr ⟨zd_269, List.forall_mem_cons.mpr ⟨zd_270, List.forall_mem_cons.mpr ⟨zd_271, fun _ h => absurd h List.not_mem_nil⟩⟩⟩⟩⟩⟩⟩⟩⟩⟩⟩⟩⟩⟩⟩⟩
def zMP_16 : List (Nat × Nat) := [(3134, 1000), (3163, 1000), (3202, 1000), (3215, 1000), (4045, 1000), (4083, 1000), (4090, 1000), (4098, 1000), (4109, 1000), (4126, 1000), (4133, 1000), (4140, 1000), (4164, 1000), (4177, 1000), (4188, 1000), (4195, 1000)]
set_option maxRecDepth 100000 in
theorem zMP_16_ok : zall2 zckM zPR_16 zMP_16 = true := by decide +kernel
theorem zPRd_17 : ∀ M ∈ zPR_17, zckD M = true := List.forall_mem_cons.mpr ⟨zd_272, List.forall_mem_cons.mpr ⟨zd_273, List.forall_mem_cons.mpr ⟨zd_274, List.forall_mem_cons.mpr ⟨zd_275, List.forall_mem_cons.mpr ⟨zd_276, List.forall_mem_cons.mpr ⟨zd_277, List.forall_mem_cons.mpr ⟨zd_278, List.forall_mem_cons.mpr ⟨zd_279, List.forall_mem_cons.mpr ⟨zd_280, List.forall_mem_cons.mpr ⟨zd_281, List.forall_mem_cons.mpr ⟨zd_282, List.forall_mem_cons.mpr ⟨zd_283, List.forall_mem_cons.mpr ⟨zd_284, fun _ h => absurd h List.not_mem_nil⟩⟩⟩⟩⟩⟩⟩⟩⟩⟩⟩⟩⟩
def zMP_17 : List (Nat × Nat) := [(4203, 1000), (4211, 1000), (4222, 1000), (5060, 1000), (5067, 1000), (5099, 1000), (1065, 1006), (3113, 1006), (3157, 1006), (4009, 1006), (4015, 1006), (2108, 1018), (4021, 1018)]
set_option maxRecDepth 100000 in
theorem zMP_17_ok : zall2 zckM zPR_17 zMP_17 = true := by decide +kernel
theorem zPR_ok : ∀ L ∈ zPR, (∀ M ∈ L, zckD M = true) ∧ ∃ Q, zall2 zckM L Q = true := List.forall_mem_cons.mpr ⟨⟨zPRd_0, _, zMP_0_ok⟩, List.forall_mem_cons.mpr ⟨⟨zPRd_1, _, zMP_1_ok⟩, List.forall_mem_cons.mpr ⟨⟨zPRd_2, _, zMP_2_ok⟩, List.forall_mem_cons.mpr ⟨⟨zPRd_3, _, zMP_3_ok⟩, List.forall_mem_cons.mpr ⟨⟨zPRd_4, _, zMP_4_ok⟩, List.forall_mem_cons.mpr ⟨⟨zPRd_5, _, zMP_5_ok⟩, List.forall_mem_cons.mpr ⟨⟨zPRd_6, _, zMP_6_ok⟩, List.forall_mem_cons.mpr ⟨⟨zPRd_7, _, zMP_7_ok⟩, List.forall_mem_cons.mpr ⟨⟨zPRd_8, _, zMP_8_ok⟩, List.forall_mem_cons.mpr ⟨⟨zPRd_9, _, zMP_9_ok⟩, List.forall_mem_cons.mpr ⟨⟨zPRd_10, _, zMP_10_ok⟩, List.forall_mem_cons.mpr ⟨⟨zPRd_11, _, zMP_11_ok⟩, List.forall_mem_cons.mpr ⟨⟨zPRd_12, _, zMP_12_ok⟩, List.forall_mem_cons.mpr ⟨⟨zPRd_13, _, zMP_13_ok⟩, List.forall_mem_cons.mpr ⟨⟨zPRd_14, _, zMP_14_ok⟩, List.forall_mem_cons.mpr ⟨⟨zPRd_15, _, zMP_15_ok⟩, List.forall_mem_cons.mpr ⟨⟨zPRd_16, _, zMP_16_ok⟩, List.forall_mem_cons.mpr ⟨⟨zPRd_17, _, zMP_17_ok⟩, fun _ h => absurd h List.not_mem_nil⟩⟩⟩⟩⟩⟩⟩⟩⟩⟩⟩⟩⟩⟩⟩⟩⟩⟩
