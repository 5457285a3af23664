def zon (o : Nat) : String := match o with
  | 0 => "RingMatrices$Gaussians"
  | 1 => "RingMatrices$HermiteForm"
  | 2 => "RingMatrices$Integers"
  | 3 => "RingMatrices$Matrix"
  | 4 => "RingMatrices$MatrixReader"
  | 5 => "RingMatrices$Polynomials"
  | 6 => "RingMatrices$Ring"
  | 7 => "RingMatrices$SmithForm"
  | 8 => "RingMatrices$Text"
  | 9 => "RingMatrices"
  | 10 => "RingMatricesModel"
  | 11 => "RingMatricesLaw"
  | 12 => "java/lang/Math"
  | 13 => "java/util/Arrays"
  | _ => "java/lang/Object"
def zcl : List vw_C := [(RX0, TX0, 1), (RX2, TX2, 1), (RX3, TX3, 11), (RX4, TX4, 6), (RX5, TX5, 6), (RX8, TX8, 2), (RX9, TX9, 8), (RX10, TX10, 23)]
def zexn (e : Nat) : String := match e with
  | 0 => "java/lang/IndexOutOfBoundsException"
  | 1 => "java/lang/IllegalStateException"
  | 2 => "java/lang/IllegalArgumentException"
  | _ => "java/lang/ArithmeticException"
def zPR_0 : List zM := [zm_0, zm_1, zm_2, zm_3, zm_4, zm_5, zm_6, zm_7, zm_8, zm_9, zm_10, zm_11, zm_12, zm_13, zm_14, zm_15]
def zPR_1 : List zM := [zm_16, zm_17, zm_18, zm_19, zm_20, zm_21, zm_22, zm_23, zm_24, zm_25, zm_26, zm_27, zm_28, zm_29, zm_30, zm_31]
def zPR_2 : List zM := [zm_32, zm_33, zm_34, zm_35, zm_36, zm_37, zm_38, zm_39, zm_40, zm_41, zm_42, zm_43, zm_44, zm_45, zm_46, zm_47]
def zPR_3 : List zM := [zm_48, zm_49, zm_50, zm_51, zm_52, zm_53, zm_54, zm_55, zm_56, zm_57, zm_58, zm_59, zm_60, zm_61, zm_62, zm_63]
def zPR_4 : List zM := [zm_64, zm_65, zm_66, zm_67, zm_68, zm_69, zm_70, zm_71, zm_72, zm_73, zm_74, zm_75, zm_76, zm_77, zm_78, zm_79]
def zPR_5 : List zM := [zm_80, zm_81, zm_82, zm_83, zm_84, zm_85, zm_86, zm_87, zm_88, zm_89, zm_90, zm_91, zm_92, zm_93, zm_94, zm_95]
def zPR_6 : List zM := [zm_96, zm_97, zm_98, zm_99, zm_100, zm_101, zm_102, zm_103, zm_104, zm_105, zm_106, zm_107, zm_108, zm_109, zm_110, zm_111]
def zPR_7 : List zM := [zm_112, zm_113, zm_114, zm_115, zm_116, zm_117, zm_118, zm_119, zm_120, zm_121, zm_122, zm_123, zm_124, zm_125, zm_126, zm_127]
def zPR_8 : List zM := [zm_128, zm_129, zm_130, zm_131, zm_132, zm_133, zm_134, zm_135, zm_136, zm_137, zm_138, zm_139, zm_140, zm_141, zm_142, zm_143]
def zPR_9 : List zM := [zm_144, zm_145, zm_146, zm_147, zm_148, zm_149, zm_150, zm_151, zm_152, zm_153, zm_154, zm_155, zm_156, zm_157, zm_158, zm_159]
def zPR_10 : List zM := [zm_160, zm_161, zm_162, zm_163, zm_164, zm_165, zm_166, zm_167, zm_168, zm_169, zm_170, zm_171, zm_172, zm_173, zm_174, zm_175]
def zPR_11 : List zM := [zm_176, zm_177, zm_178, zm_179, zm_180, zm_181, zm_182, zm_183, zm_184, zm_185, zm_186, zm_187, zm_188, zm_189, zm_190, zm_191]
def zPR_12 : List zM := [zm_192, zm_193, zm_194, zm_195, zm_196, zm_197, zm_198, zm_199, zm_200, zm_201, zm_202, zm_203, zm_204, zm_205, zm_206, zm_207]
def zPR_13 : List zM := [zm_208, zm_209, zm_210, zm_211, zm_212, zm_213, zm_214, zm_215, zm_216, zm_217, zm_218, zm_219, zm_220, zm_221, zm_222, zm_223]
def zPR_14 : List zM := [zm_224, zm_225, zm_226, zm_227, zm_228, zm_229, zm_230, zm_231, zm_232, zm_233, zm_234, zm_235, zm_236, zm_237, zm_238, zm_239]
def zPR_15 : List zM := [zm_240, zm_241, zm_242, zm_243, zm_244, zm_245, zm_246, zm_247, zm_248, zm_249, zm_250, zm_251, zm_252, zm_253, zm_254, zm_255]
def zPR_16 : List zM := [zm_256, zm_257, zm_258, zm_259, zm_260, zm_261, zm_262, zm_263, zm_264, zm_265, zm_266, zm_267, zm_268, zm_269, zm_270, zm_271]
def zPR_17 : List zM := [zm_272, zm_273, zm_274, zm_275, zm_276, zm_277, zm_278, zm_279, zm_280, zm_281, zm_282, zm_283, zm_284]
def zPR : List (List zM) := [zPR_0, zPR_1, zPR_2, zPR_3, zPR_4, zPR_5, zPR_6, zPR_7, zPR_8, zPR_9, zPR_10, zPR_11, zPR_12, zPR_13, zPR_14, zPR_15, zPR_16, zPR_17]
def zSTR : List (String × Nat × String) := [("RingMatrices", 279, "no such slot"), ("RingMatrices", 283, "no such ring"), ("RingMatrices", 286, "an argument is out of range"), ("RingMatrices", 290, "the slots or the text do not allow this call"), ("RingMatrices$Gaussians", 26, "a Gaussian integer is out of range"), ("RingMatrices$Integers", 23, "an integer is out of range"), ("RingMatrices$Polynomials", 38, "a polynomial is out of range"), ("RingMatrices$Matrix", 94, "the log is full"), ("RingMatrices", 195, "no such step"), ("RingMatrices", 234, "the order is too large"), ("RingMatrices", 245, "the divisor is 0"), ("RingMatrices", 273, "no such byte")]
/-! what the tables say, held against lw_tbl by places (a list's number times 1000, and the place in it) -/
def zWs : List (List Cond) := [k2_sels lw_privs, tables_1_1, tables_1_2, tables_1_3, tables_1_4, tables_1_5, tables_1_6, tables_1_7]
def zWd (p : Nat) (w : Cond) : Bool := decide ((zWs[p / 1000]?).bind (fun l => l[p % 1000]?) = some w)
def zNk : Cond → Bool
  | .fieldLinkNest .. => true
  | .declares _ => true
  | .castable .. => true
  | _ => false
def zB : List Cond := lw_tbl.filter goodWord
def zNws : List Cond := lw_tbl.filter zNk
theorem zWs_mem : ∀ l ∈ zWs, ∀ w ∈ l, w ∈ lw_tbl := by
  intro l hl w hw
  simp only [zWs, List.mem_cons, List.not_mem_nil, or_false] at hl
  simp only [lw_tbl, tables_1, List.mem_append]
  rcases hl with rfl | rfl | rfl | rfl | rfl | rfl | rfl | rfl
  · exact Or.inl hw
  · exact Or.inr (Or.inl hw)
  · exact Or.inr (Or.inr (Or.inl hw))
  · exact Or.inr (Or.inr (Or.inr (Or.inl hw)))
  · exact Or.inr (Or.inr (Or.inr (Or.inr (Or.inl hw))))
  · exact Or.inr (Or.inr (Or.inr (Or.inr (Or.inr (Or.inl hw)))))
  · exact Or.inr (Or.inr (Or.inr (Or.inr (Or.inr (Or.inr (Or.inl hw))))))
  · exact Or.inr (Or.inr (Or.inr (Or.inr (Or.inr (Or.inr (Or.inr hw))))))
theorem zWd_mem {p : Nat} {w : Cond} (h : zWd p w = true) : w ∈ lw_tbl := by
  have h1 : (zWs[p / 1000]?).bind (fun l => l[p % 1000]?) = some w := of_decide_eq_true h
  obtain ⟨l, hl, hw⟩ := Option.bind_eq_some_iff.mp h1
  exact zWs_mem l (List.mem_of_getElem? hl) w (List.mem_of_getElem? hw)
theorem zB_of {p : Nat} {w : Cond} (h : zWd p w = true) (hg : goodWord w = true) : w ∈ zB := List.mem_filter.mpr ⟨zWd_mem h, hg⟩
theorem zN_of {p : Nat} {w : Cond} (h : zWd p w = true) (hg : zNk w = true) : w ∈ zNws := List.mem_filter.mpr ⟨zWd_mem h, hg⟩
theorem zB_good {w : Cond} (h : w ∈ zB) : goodWord w = true := (List.mem_filter.mp h).2
/-- a method's word of its own code -/
def zcw (M : zM) : Cond := match M.2.2.2.2.2.2.2 with
  | [] => .code M.2.2.1 M.2.2.2.1 M.2.2.2.2.1 M.2.2.2.2.2.1
  | _ => .codeWith M.2.2.1 M.2.2.2.1 M.2.2.2.2.1 M.2.2.2.2.2.1 M.2.2.2.2.2.2.2
def zws (M : zM) : List Cond := zcw M :: zB
def zpr (mi : Nat) : Option zM := (zPR[mi / 16]?).bind (fun l => l[mi % 16]?)
def zmh (c : String) : Bool := decide (c ≠ "java/lang/invoke/MethodHandle") && decide (c ≠ "java/lang/invoke/VarHandle")
def znp (d : String) (n : Nat) : Bool := decide ((parseMethodDescriptor d).map (fun q => q.parameters.length) = some n)
def zckD (M : zM) : Bool := (M.2.2.2.2.2.2.1).all (fun q => q.2.all (zdk M.2.2.2.1))
def zckM (M : zM) (q : Nat) : Bool := zWd q (.initialized M.2.2.1.cls) && decide (zon M.1 = M.2.2.1.cls) && plainFor M.2.2.1 && zmh M.2.2.1.cls && Nat.ble M.2.2.2.2.1 20 && Nat.ble M.2.1 10
def zckF (o : Nat) (q : Nat × Nat × Nat × Nat × Bool) : Bool := match q with
  | (idx, ci, k, p, nest) => match zcl[ci]? with
    | some (_, T, N) => Nat.blt k N && zWd p (bif nest then .fieldLinkNest (zon o) idx (T k).1 (T k).2.1 (T k).2.2.1 "RingMatrices" else .fieldLink (zon o) idx (T k).1 (T k).2.1 (T k).2.2.1)
    | none => false
def zckCI (o : Nat) (q : Nat × Int32 × Nat) : Bool := zWd q.2.2 (.constant (zon o) q.1 q.2.1)
def zckCL (o : Nat) (q : Nat × Int64 × Nat) : Bool := zWd q.2.2 (.constantLong (zon o) q.1 q.2.1)
def zckNW (o : Nat) (q : Nat × Nat × Nat × Nat × Nat) : Bool := match q with
  | (idx, ci, p, p2, p3) => match zcl[ci]? with
    | some (C, _, N) => zWd p (.classLink (zon o) idx C) && zWd p2 (.instantiable C N) && zWd p3 (.initialized C)
    | none => false
def ztn (t : Nat) : String := match t with
  | 2 => "RingMatrices$Matrix"
  | _ => "RingMatrices$Ring"
def zckAW (o : Nat) (q : Nat × Nat × Nat) : Bool := zWd q.2.2 (.classLink (zon o) q.1 (ztn q.2.1)) && (Nat.beq q.2.1 2 || Nat.beq q.2.1 3)
def znms : List String := ["java/lang/RuntimeException", "java/lang/Exception"]
def zckTS (o : Nat) (q : Nat × Nat × Nat × Bool × Nat × String × Nat × Nat) : Bool := match q with
  | (ik, is, ic, _, e, tx, p, p2) => decide ((zon o, is, tx) ∈ zSTR) && zWd p (.classLink (zon o) ik (zexn e)) && zWd p2 (.initialized (zexn e)) && Bundle.fit (zexn e) && Nat.ble e 3 &&
    (vx_atS (zon o) ic (zexn e) znms).all (fun w => vx_ot w && (goodWord w || zNk w) && decide (w ∈ lw_tbl))
def zckSV (o : Nat) (q : Nat × Nat × Nat × Nat × String × Nat × Nat × Nat) : Bool := match q with
  | (idx, mi, np, kind, xc, p, ps, pm) => match zpr mi with
    | some M => zWd p (.methodLink (zon o) idx ⟨xc, M.2.2.1.name, M.2.2.1.desc⟩) && zWd ps (.static M.2.2.1) && znp M.2.2.1.desc np &&
      (bif Nat.beq kind 0 then decide (xc = M.2.2.1.cls) else zWd pm (.sameMethod xc M.2.2.1.cls M.2.2.1.name M.2.2.1.desc) && decide (M.2.2.2.2.2.2.2 = []))
    | none => false
def zckSC (o : Nat) (q : Nat × Nat × Nat × Nat × Nat) : Bool := match q with
  | (idx, mi, np, p, pi) => match zpr mi with
    | some M => zWd p (.methodLink (zon o) idx M.2.2.1) && zWd pi (.instanceMethod M.2.2.1) && decide (M.2.2.1.name = "<init>") && decide (M.2.2.2.2.2.1 = none) && znp M.2.2.1.desc np && decide (M.2.2.2.2.2.2.2 = [])
    | none => false
def zckVV (o : Nat) (q : Nat × Nat × Nat × Nat × Nat × String × Nat × Nat × Nat × Nat) : Bool := match q with
  | (idx, ci, mi, np, kind, xc, p, psel, pin, pm) => match zpr mi, zcl[ci]? with
    | some M, some (C, _, _) => zWd p (.methodLink (zon o) idx ⟨xc, M.2.2.1.name, M.2.2.1.desc⟩) && zWd psel (.selects C ⟨xc, M.2.2.1.name, M.2.2.1.desc⟩ M.2.2.1) && zWd pin (.instanceMethod M.2.2.1) && znp M.2.2.1.desc np && zmh xc && decide (M.2.2.2.2.2.2.2 = []) &&
      (bif Nat.beq kind 0 then decide (xc = M.2.2.1.cls) && decide (C = M.2.2.1.cls) else zWd pm (.sameMethod xc xc M.2.2.1.name M.2.2.1.desc) && (bif Nat.beq kind 1 then decide (Cond.declares ⟨xc, M.2.2.1.name, M.2.2.1.desc⟩ ∈ lw_tbl) else decide (xc = M.2.2.1.cls)))
    | _, _ => false
def zckO (o : Nat) (q : Nat × Nat) : Bool := zWd q.2 (.methodLink (zon o) q.1 Lib.objectInit)
def zckAC (o : Nat) (q : Nat × Nat) : Bool := zWd q.2 (.methodLink (zon o) q.1 arraycopyName)
def zckXH (o : Nat) (q : Nat × Nat × Nat) : Bool := zWd q.2.2 (.classLink (zon o) q.1 (zexn q.2.1)) && decide (q.1 ≠ 0) && decide (Cond.castable (zexn q.2.1) (zexn q.2.1) ∈ lw_tbl) && Nat.ble q.2.1 3
theorem zmw_0 : zcw zm_0 ∈ lw_tbl := zWs_mem tables_1_1 (List.mem_of_getElem? (i := 1) rfl) _ (List.mem_of_getElem? (i := 53) rfl)
theorem zmk_0 : zckM zm_0 1004 = true := by decide +kernel
theorem zmw_1 : zcw zm_1 ∈ lw_tbl := zWs_mem tables_1_2 (List.mem_of_getElem? (i := 2) rfl) _ (List.mem_of_getElem? (i := 156) rfl)
theorem zmk_1 : zckM zm_1 1004 = true := by decide +kernel
theorem zmw_2 : zcw zm_2 ∈ lw_tbl := zWs_mem tables_1_2 (List.mem_of_getElem? (i := 2) rfl) _ (List.mem_of_getElem? (i := 239) rfl)
theorem zmk_2 : zckM zm_2 1004 = true := by decide +kernel
theorem zmw_3 : zcw zm_3 ∈ lw_tbl := zWs_mem tables_1_3 (List.mem_of_getElem? (i := 3) rfl) _ (List.mem_of_getElem? (i := 151) rfl)
theorem zmk_3 : zckM zm_3 1004 = true := by decide +kernel
theorem zmw_4 : zcw zm_4 ∈ lw_tbl := zWs_mem tables_1_3 (List.mem_of_getElem? (i := 3) rfl) _ (List.mem_of_getElem? (i := 177) rfl)
theorem zmk_4 : zckM zm_4 1004 = true := by decide +kernel
theorem zmw_5 : zcw zm_5 ∈ lw_tbl := zWs_mem tables_1_3 (List.mem_of_getElem? (i := 3) rfl) _ (List.mem_of_getElem? (i := 189) rfl)
theorem zmk_5 : zckM zm_5 1004 = true := by decide +kernel
theorem zmw_6 : zcw zm_6 ∈ lw_tbl := zWs_mem tables_1_4 (List.mem_of_getElem? (i := 4) rfl) _ (List.mem_of_getElem? (i := 4) rfl)
theorem zmk_6 : zckM zm_6 1004 = true := by decide +kernel
theorem zmw_7 : zcw zm_7 ∈ lw_tbl := zWs_mem tables_1_4 (List.mem_of_getElem? (i := 4) rfl) _ (List.mem_of_getElem? (i := 28) rfl)
theorem zmk_7 : zckM zm_7 1004 = true := by decide +kernel
theorem zmw_8 : zcw zm_8 ∈ lw_tbl := zWs_mem tables_1_4 (List.mem_of_getElem? (i := 4) rfl) _ (List.mem_of_getElem? (i := 150) rfl)
theorem zmk_8 : zckM zm_8 1004 = true := by decide +kernel
theorem zmw_9 : zcw zm_9 ∈ lw_tbl := zWs_mem tables_1_5 (List.mem_of_getElem? (i := 5) rfl) _ (List.mem_of_getElem? (i := 20) rfl)
theorem zmk_9 : zckM zm_9 1004 = true := by decide +kernel
theorem zmw_10 : zcw zm_10 ∈ lw_tbl := zWs_mem tables_1_5 (List.mem_of_getElem? (i := 5) rfl) _ (List.mem_of_getElem? (i := 77) rfl)
theorem zmk_10 : zckM zm_10 1004 = true := by decide +kernel
theorem zmw_11 : zcw zm_11 ∈ lw_tbl := zWs_mem tables_1_3 (List.mem_of_getElem? (i := 3) rfl) _ (List.mem_of_getElem? (i := 222) rfl)
theorem zmk_11 : zckM zm_11 1022 = true := by decide +kernel
theorem zmw_12 : zcw zm_12 ∈ lw_tbl := zWs_mem tables_1_3 (List.mem_of_getElem? (i := 3) rfl) _ (List.mem_of_getElem? (i := 225) rfl)
theorem zmk_12 : zckM zm_12 1022 = true := by decide +kernel
theorem zmw_13 : zcw zm_13 ∈ lw_tbl := zWs_mem tables_1_3 (List.mem_of_getElem? (i := 3) rfl) _ (List.mem_of_getElem? (i := 230) rfl)
theorem zmk_13 : zckM zm_13 1022 = true := by decide +kernel
theorem zmw_14 : zcw zm_14 ∈ lw_tbl := zWs_mem tables_1_4 (List.mem_of_getElem? (i := 4) rfl) _ (List.mem_of_getElem? (i := 42) rfl)
theorem zmk_14 : zckM zm_14 1022 = true := by decide +kernel
theorem zmw_15 : zcw zm_15 ∈ lw_tbl := zWs_mem tables_1_1 (List.mem_of_getElem? (i := 1) rfl) _ (List.mem_of_getElem? (i := 36) rfl)
theorem zmk_15 : zckM zm_15 1003 = true := by decide +kernel
theorem zPRd_0 : ∀ M ∈ zPR_0, zckD M = true ∧ zcw M ∈ lw_tbl ∧ ∃ q, zckM M q = true := List.forall_mem_cons.mpr ⟨⟨zd_0, zmw_0, _, zmk_0⟩, List.forall_mem_cons.mpr ⟨⟨zd_1, zmw_1, _, zmk_1⟩, List.forall_mem_cons.mpr ⟨⟨zd_2, zmw_2, _, zmk_2⟩, List.forall_mem_cons.mpr ⟨⟨zd_3, zmw_3, _, zmk_3⟩, List.forall_mem_cons.mpr ⟨⟨zd_4, zmw_4, _, zmk_4⟩, List.forall_mem_cons.mpr ⟨⟨zd_5, zmw_5, _, zmk_5⟩, List.forall_mem_cons.mpr ⟨⟨zd_6, zmw_6, _, zmk_6⟩, List.forall_mem_cons.mpr ⟨⟨zd_7, zmw_7, _, zmk_7⟩, List.forall_mem_cons.mpr ⟨⟨zd_8, zmw_8, _, zmk_8⟩, List.forall_mem_cons.mpr ⟨⟨zd_9, zmw_9, _, zmk_9⟩, List.forall_mem_cons.mpr ⟨⟨zd_10, zmw_10, _, zmk_10⟩, List.forall_mem_cons.mpr ⟨⟨zd_11, zmw_11, _, zmk_11⟩, List.forall_mem_cons.mpr ⟨⟨zd_12, zmw_12, _, zmk_12⟩, List.forall_mem_cons.mpr ⟨⟨zd_13, zmw_13, _, zmk_13⟩, List.forall_mem_cons.mpr ⟨⟨zd_14, zmw_14, _, zmk_14⟩, List.forall_mem_cons.mpr ⟨⟨zd_15, zmw_15, _, zmk_15⟩, fun _ h => absurd h List.not_mem_nil⟩⟩⟩⟩⟩⟩⟩⟩⟩⟩⟩⟩⟩⟩⟩⟩
theorem zmw_16 : zcw zm_16 ∈ lw_tbl := zWs_mem tables_1_2 (List.mem_of_getElem? (i := 2) rfl) _ (List.mem_of_getElem? (i := 161) rfl)
theorem zmk_16 : zckM zm_16 1003 = true := by decide +kernel
theorem zmw_17 : zcw zm_17 ∈ lw_tbl := zWs_mem tables_1_3 (List.mem_of_getElem? (i := 3) rfl) _ (List.mem_of_getElem? (i := 14) rfl)
theorem zmk_17 : zckM zm_17 1003 = true := by decide +kernel
theorem zmw_18 : zcw zm_18 ∈ lw_tbl := zWs_mem tables_1_3 (List.mem_of_getElem? (i := 3) rfl) _ (List.mem_of_getElem? (i := 154) rfl)
theorem zmk_18 : zckM zm_18 1003 = true := by decide +kernel
theorem zmw_19 : zcw zm_19 ∈ lw_tbl := zWs_mem tables_1_3 (List.mem_of_getElem? (i := 3) rfl) _ (List.mem_of_getElem? (i := 180) rfl)
theorem zmk_19 : zckM zm_19 1003 = true := by decide +kernel
theorem zmw_20 : zcw zm_20 ∈ lw_tbl := zWs_mem tables_1_3 (List.mem_of_getElem? (i := 3) rfl) _ (List.mem_of_getElem? (i := 192) rfl)
theorem zmk_20 : zckM zm_20 1003 = true := by decide +kernel
theorem zmw_21 : zcw zm_21 ∈ lw_tbl := zWs_mem tables_1_4 (List.mem_of_getElem? (i := 4) rfl) _ (List.mem_of_getElem? (i := 12) rfl)
theorem zmk_21 : zckM zm_21 1003 = true := by decide +kernel
theorem zmw_22 : zcw zm_22 ∈ lw_tbl := zWs_mem tables_1_4 (List.mem_of_getElem? (i := 4) rfl) _ (List.mem_of_getElem? (i := 33) rfl)
theorem zmk_22 : zckM zm_22 1003 = true := by decide +kernel
theorem zmw_23 : zcw zm_23 ∈ lw_tbl := zWs_mem tables_1_4 (List.mem_of_getElem? (i := 4) rfl) _ (List.mem_of_getElem? (i := 153) rfl)
theorem zmk_23 : zckM zm_23 1003 = true := by decide +kernel
theorem zmw_24 : zcw zm_24 ∈ lw_tbl := zWs_mem tables_1_5 (List.mem_of_getElem? (i := 5) rfl) _ (List.mem_of_getElem? (i := 40) rfl)
theorem zmk_24 : zckM zm_24 1003 = true := by decide +kernel
theorem zmw_25 : zcw zm_25 ∈ lw_tbl := zWs_mem tables_1_5 (List.mem_of_getElem? (i := 5) rfl) _ (List.mem_of_getElem? (i := 88) rfl)
theorem zmk_25 : zckM zm_25 1003 = true := by decide +kernel
theorem zmw_26 : zcw zm_26 ∈ lw_tbl := zWs_mem tables_1_1 (List.mem_of_getElem? (i := 1) rfl) _ (List.mem_of_getElem? (i := 89) rfl)
theorem zmk_26 : zckM zm_26 1007 = true := by decide +kernel
theorem zmw_27 : zcw zm_27 ∈ lw_tbl := zWs_mem tables_1_2 (List.mem_of_getElem? (i := 2) rfl) _ (List.mem_of_getElem? (i := 101) rfl)
theorem zmk_27 : zckM zm_27 1007 = true := by decide +kernel
theorem zmw_28 : zcw zm_28 ∈ lw_tbl := zWs_mem tables_1_2 (List.mem_of_getElem? (i := 2) rfl) _ (List.mem_of_getElem? (i := 105) rfl)
theorem zmk_28 : zckM zm_28 1007 = true := by decide +kernel
theorem zmw_29 : zcw zm_29 ∈ lw_tbl := zWs_mem tables_1_2 (List.mem_of_getElem? (i := 2) rfl) _ (List.mem_of_getElem? (i := 112) rfl)
theorem zmk_29 : zckM zm_29 1007 = true := by decide +kernel
theorem zmw_30 : zcw zm_30 ∈ lw_tbl := zWs_mem tables_1_2 (List.mem_of_getElem? (i := 2) rfl) _ (List.mem_of_getElem? (i := 150) rfl)
theorem zmk_30 : zckM zm_30 1007 = true := by decide +kernel
theorem zmw_31 : zcw zm_31 ∈ lw_tbl := zWs_mem tables_1_2 (List.mem_of_getElem? (i := 2) rfl) _ (List.mem_of_getElem? (i := 170) rfl)
theorem zmk_31 : zckM zm_31 1007 = true := by decide +kernel
theorem zPRd_1 : ∀ M ∈ zPR_1, zckD M = true ∧ zcw M ∈ lw_tbl ∧ ∃ q, zckM M q = true := List.forall_mem_cons.mpr ⟨⟨zd_16, zmw_16, _, zmk_16⟩, List.forall_mem_cons.mpr ⟨⟨zd_17, zmw_17, _, zmk_17⟩, List.forall_mem_cons.mpr ⟨⟨zd_18, zmw_18, _, zmk_18⟩, List.forall_mem_cons.mpr ⟨⟨zd_19, zmw_19, _, zmk_19⟩, List.forall_mem_cons.mpr ⟨⟨zd_20, zmw_20, _, zmk_20⟩, List.forall_mem_cons.mpr ⟨⟨zd_21, zmw_21, _, zmk_21⟩, List.forall_mem_cons.mpr ⟨⟨zd_22, zmw_22, _, zmk_22⟩, List.forall_mem_cons.mpr ⟨⟨zd_23, zmw_23, _, zmk_23⟩, List.forall_mem_cons.mpr ⟨⟨zd_24, zmw_24, _, zmk_24⟩, List.forall_mem_cons.mpr ⟨⟨zd_25, zmw_25, _, zmk_25⟩, List.forall_mem_cons.mpr ⟨⟨zd_26, zmw_26, _, zmk_26⟩, List.forall_mem_cons.mpr ⟨⟨zd_27, zmw_27, _, zmk_27⟩, List.forall_mem_cons.mpr ⟨⟨zd_28, zmw_28, _, zmk_28⟩, List.forall_mem_cons.mpr ⟨⟨zd_29, zmw_29, _, zmk_29⟩, List.forall_mem_cons.mpr ⟨⟨zd_30, zmw_30, _, zmk_30⟩, List.forall_mem_cons.mpr ⟨⟨zd_31, zmw_31, _, zmk_31⟩, fun _ h => absurd h List.not_mem_nil⟩⟩⟩⟩⟩⟩⟩⟩⟩⟩⟩⟩⟩⟩⟩⟩
theorem zmw_32 : zcw zm_32 ∈ lw_tbl := zWs_mem tables_1_2 (List.mem_of_getElem? (i := 2) rfl) _ (List.mem_of_getElem? (i := 182) rfl)
theorem zmk_32 : zckM zm_32 1007 = true := by decide +kernel
theorem zmw_33 : zcw zm_33 ∈ lw_tbl := zWs_mem tables_1_2 (List.mem_of_getElem? (i := 2) rfl) _ (List.mem_of_getElem? (i := 194) rfl)
theorem zmk_33 : zckM zm_33 1007 = true := by decide +kernel
theorem zmw_34 : zcw zm_34 ∈ lw_tbl := zWs_mem tables_1_2 (List.mem_of_getElem? (i := 2) rfl) _ (List.mem_of_getElem? (i := 198) rfl)
theorem zmk_34 : zckM zm_34 1007 = true := by decide +kernel
theorem zmw_35 : zcw zm_35 ∈ lw_tbl := zWs_mem tables_1_2 (List.mem_of_getElem? (i := 2) rfl) _ (List.mem_of_getElem? (i := 223) rfl)
theorem zmk_35 : zckM zm_35 1007 = true := by decide +kernel
theorem zmw_36 : zcw zm_36 ∈ lw_tbl := zWs_mem tables_1_3 (List.mem_of_getElem? (i := 3) rfl) _ (List.mem_of_getElem? (i := 46) rfl)
theorem zmk_36 : zckM zm_36 1007 = true := by decide +kernel
theorem zmw_37 : zcw zm_37 ∈ lw_tbl := zWs_mem tables_1_3 (List.mem_of_getElem? (i := 3) rfl) _ (List.mem_of_getElem? (i := 92) rfl)
theorem zmk_37 : zckM zm_37 1007 = true := by decide +kernel
theorem zmw_38 : zcw zm_38 ∈ lw_tbl := zWs_mem tables_1_3 (List.mem_of_getElem? (i := 3) rfl) _ (List.mem_of_getElem? (i := 96) rfl)
theorem zmk_38 : zckM zm_38 1007 = true := by decide +kernel
theorem zmw_39 : zcw zm_39 ∈ lw_tbl := zWs_mem tables_1_3 (List.mem_of_getElem? (i := 3) rfl) _ (List.mem_of_getElem? (i := 103) rfl)
theorem zmk_39 : zckM zm_39 1007 = true := by decide +kernel
theorem zmw_40 : zcw zm_40 ∈ lw_tbl := zWs_mem tables_1_3 (List.mem_of_getElem? (i := 3) rfl) _ (List.mem_of_getElem? (i := 110) rfl)
theorem zmk_40 : zckM zm_40 1007 = true := by decide +kernel
theorem zmw_41 : zcw zm_41 ∈ lw_tbl := zWs_mem tables_1_3 (List.mem_of_getElem? (i := 3) rfl) _ (List.mem_of_getElem? (i := 117) rfl)
theorem zmk_41 : zckM zm_41 1007 = true := by decide +kernel
theorem zmw_42 : zcw zm_42 ∈ lw_tbl := zWs_mem tables_1_3 (List.mem_of_getElem? (i := 3) rfl) _ (List.mem_of_getElem? (i := 123) rfl)
theorem zmk_42 : zckM zm_42 1007 = true := by decide +kernel
theorem zmw_43 : zcw zm_43 ∈ lw_tbl := zWs_mem tables_1_3 (List.mem_of_getElem? (i := 3) rfl) _ (List.mem_of_getElem? (i := 171) rfl)
theorem zmk_43 : zckM zm_43 1007 = true := by decide +kernel
theorem zmw_44 : zcw zm_44 ∈ lw_tbl := zWs_mem tables_1_3 (List.mem_of_getElem? (i := 3) rfl) _ (List.mem_of_getElem? (i := 211) rfl)
theorem zmk_44 : zckM zm_44 1007 = true := by decide +kernel
theorem zmw_45 : zcw zm_45 ∈ lw_tbl := zWs_mem tables_1_4 (List.mem_of_getElem? (i := 4) rfl) _ (List.mem_of_getElem? (i := 106) rfl)
theorem zmk_45 : zckM zm_45 1007 = true := by decide +kernel
theorem zmw_46 : zcw zm_46 ∈ lw_tbl := zWs_mem tables_1_4 (List.mem_of_getElem? (i := 4) rfl) _ (List.mem_of_getElem? (i := 123) rfl)
theorem zmk_46 : zckM zm_46 1007 = true := by decide +kernel
theorem zmw_47 : zcw zm_47 ∈ lw_tbl := zWs_mem tables_1_4 (List.mem_of_getElem? (i := 4) rfl) _ (List.mem_of_getElem? (i := 185) rfl)
theorem zmk_47 : zckM zm_47 1007 = true := by decide +kernel
theorem zPRd_2 : ∀ M ∈ zPR_2, zckD M = true ∧ zcw M ∈ lw_tbl ∧ ∃ q, zckM M q = true := List.forall_mem_cons.mpr ⟨⟨zd_32, zmw_32, _, zmk_32⟩, List.forall_mem_cons.mpr ⟨⟨zd_33, zmw_33, _, zmk_33⟩, List.forall_mem_cons.mpr ⟨⟨zd_34, zmw_34, _, zmk_34⟩, List.forall_mem_cons.mpr ⟨⟨zd_35, zmw_35, _, zmk_35⟩, List.forall_mem_cons.mpr ⟨⟨zd_36, zmw_36, _, zmk_36⟩, List.forall_mem_cons.mpr ⟨⟨zd_37, zmw_37, _, zmk_37⟩, List.forall_mem_cons.mpr ⟨⟨zd_38, zmw_38, _, zmk_38⟩, List.forall_mem_cons.mpr ⟨⟨zd_39, zmw_39, _, zmk_39⟩, List.forall_mem_cons.mpr ⟨⟨zd_40, zmw_40, _, zmk_40⟩, List.forall_mem_cons.mpr ⟨⟨zd_41, zmw_41, _, zmk_41⟩, List.forall_mem_cons.mpr ⟨⟨zd_42, zmw_42, _, zmk_42⟩, List.forall_mem_cons.mpr ⟨⟨zd_43, zmw_43, _, zmk_43⟩, List.forall_mem_cons.mpr ⟨⟨zd_44, zmw_44, _, zmk_44⟩, List.forall_mem_cons.mpr ⟨⟨zd_45, zmw_45, _, zmk_45⟩, List.forall_mem_cons.mpr ⟨⟨zd_46, zmw_46, _, zmk_46⟩, List.forall_mem_cons.mpr ⟨⟨zd_47, zmw_47, _, zmk_47⟩, fun _ h => absurd h List.not_mem_nil⟩⟩⟩⟩⟩⟩⟩⟩⟩⟩⟩⟩⟩⟩⟩⟩
theorem zmw_48 : zcw zm_48 ∈ lw_tbl := zWs_mem tables_1_1 (List.mem_of_getElem? (i := 1) rfl) _ (List.mem_of_getElem? (i := 160) rfl)
theorem zmk_48 : zckM zm_48 1009 = true := by decide +kernel
theorem zmw_49 : zcw zm_49 ∈ lw_tbl := zWs_mem tables_1_4 (List.mem_of_getElem? (i := 4) rfl) _ (List.mem_of_getElem? (i := 230) rfl)
theorem zmk_49 : zckM zm_49 1009 = true := by decide +kernel
theorem zmw_50 : zcw zm_50 ∈ lw_tbl := zWs_mem tables_1_4 (List.mem_of_getElem? (i := 4) rfl) _ (List.mem_of_getElem? (i := 234) rfl)
theorem zmk_50 : zckM zm_50 1009 = true := by decide +kernel
theorem zmw_51 : zcw zm_51 ∈ lw_tbl := zWs_mem tables_1_4 (List.mem_of_getElem? (i := 4) rfl) _ (List.mem_of_getElem? (i := 238) rfl)
theorem zmk_51 : zckM zm_51 1009 = true := by decide +kernel
theorem zmw_52 : zcw zm_52 ∈ lw_tbl := zWs_mem tables_1_5 (List.mem_of_getElem? (i := 5) rfl) _ (List.mem_of_getElem? (i := 6) rfl)
theorem zmk_52 : zckM zm_52 1009 = true := by decide +kernel
theorem zmw_53 : zcw zm_53 ∈ lw_tbl := zWs_mem tables_1_5 (List.mem_of_getElem? (i := 5) rfl) _ (List.mem_of_getElem? (i := 10) rfl)
theorem zmk_53 : zckM zm_53 1009 = true := by decide +kernel
theorem zmw_54 : zcw zm_54 ∈ lw_tbl := zWs_mem tables_1_5 (List.mem_of_getElem? (i := 5) rfl) _ (List.mem_of_getElem? (i := 14) rfl)
theorem zmk_54 : zckM zm_54 1009 = true := by decide +kernel
theorem zmw_55 : zcw zm_55 ∈ lw_tbl := zWs_mem tables_1_5 (List.mem_of_getElem? (i := 5) rfl) _ (List.mem_of_getElem? (i := 25) rfl)
theorem zmk_55 : zckM zm_55 1009 = true := by decide +kernel
theorem zmw_56 : zcw zm_56 ∈ lw_tbl := zWs_mem tables_1_5 (List.mem_of_getElem? (i := 5) rfl) _ (List.mem_of_getElem? (i := 29) rfl)
theorem zmk_56 : zckM zm_56 1009 = true := by decide +kernel
theorem zmw_57 : zcw zm_57 ∈ lw_tbl := zWs_mem tables_1_5 (List.mem_of_getElem? (i := 5) rfl) _ (List.mem_of_getElem? (i := 34) rfl)
theorem zmk_57 : zckM zm_57 1009 = true := by decide +kernel
theorem zmw_58 : zcw zm_58 ∈ lw_tbl := zWs_mem tables_1_1 (List.mem_of_getElem? (i := 1) rfl) _ (List.mem_of_getElem? (i := 61) rfl)
theorem zmk_58 : zckM zm_58 1005 = true := by decide +kernel
theorem zmw_59 : zcw zm_59 ∈ lw_tbl := zWs_mem tables_1_2 (List.mem_of_getElem? (i := 2) rfl) _ (List.mem_of_getElem? (i := 166) rfl)
theorem zmk_59 : zckM zm_59 1005 = true := by decide +kernel
theorem zmw_60 : zcw zm_60 ∈ lw_tbl := zWs_mem tables_1_3 (List.mem_of_getElem? (i := 3) rfl) _ (List.mem_of_getElem? (i := 25) rfl)
theorem zmk_60 : zckM zm_60 1005 = true := by decide +kernel
theorem zmw_61 : zcw zm_61 ∈ lw_tbl := zWs_mem tables_1_3 (List.mem_of_getElem? (i := 3) rfl) _ (List.mem_of_getElem? (i := 29) rfl)
theorem zmk_61 : zckM zm_61 1005 = true := by decide +kernel
theorem zmw_62 : zcw zm_62 ∈ lw_tbl := zWs_mem tables_1_3 (List.mem_of_getElem? (i := 3) rfl) _ (List.mem_of_getElem? (i := 38) rfl)
theorem zmk_62 : zckM zm_62 1005 = true := by decide +kernel
theorem zmw_63 : zcw zm_63 ∈ lw_tbl := zWs_mem tables_1_3 (List.mem_of_getElem? (i := 3) rfl) _ (List.mem_of_getElem? (i := 160) rfl)
theorem zmk_63 : zckM zm_63 1005 = true := by decide +kernel
theorem zPRd_3 : ∀ M ∈ zPR_3, zckD M = true ∧ zcw M ∈ lw_tbl ∧ ∃ q, zckM M q = true := List.forall_mem_cons.mpr ⟨⟨zd_48, zmw_48, _, zmk_48⟩, List.forall_mem_cons.mpr ⟨⟨zd_49, zmw_49, _, zmk_49⟩, List.forall_mem_cons.mpr ⟨⟨zd_50, zmw_50, _, zmk_50⟩, List.forall_mem_cons.mpr ⟨⟨zd_51, zmw_51, _, zmk_51⟩, List.forall_mem_cons.mpr ⟨⟨zd_52, zmw_52, _, zmk_52⟩, List.forall_mem_cons.mpr ⟨⟨zd_53, zmw_53, _, zmk_53⟩, List.forall_mem_cons.mpr ⟨⟨zd_54, zmw_54, _, zmk_54⟩, List.forall_mem_cons.mpr ⟨⟨zd_55, zmw_55, _, zmk_55⟩, List.forall_mem_cons.mpr ⟨⟨zd_56, zmw_56, _, zmk_56⟩, List.forall_mem_cons.mpr ⟨⟨zd_57, zmw_57, _, zmk_57⟩, List.forall_mem_cons.mpr ⟨⟨zd_58, zmw_58, _, zmk_58⟩, List.forall_mem_cons.mpr ⟨⟨zd_59, zmw_59, _, zmk_59⟩, List.forall_mem_cons.mpr ⟨⟨zd_60, zmw_60, _, zmk_60⟩, List.forall_mem_cons.mpr ⟨⟨zd_61, zmw_61, _, zmk_61⟩, List.forall_mem_cons.mpr ⟨⟨zd_62, zmw_62, _, zmk_62⟩, List.forall_mem_cons.mpr ⟨⟨zd_63, zmw_63, _, zmk_63⟩, fun _ h => absurd h List.not_mem_nil⟩⟩⟩⟩⟩⟩⟩⟩⟩⟩⟩⟩⟩⟩⟩⟩
theorem zmw_64 : zcw zm_64 ∈ lw_tbl := zWs_mem tables_1_3 (List.mem_of_getElem? (i := 3) rfl) _ (List.mem_of_getElem? (i := 183) rfl)
theorem zmk_64 : zckM zm_64 1005 = true := by decide +kernel
theorem zmw_65 : zcw zm_65 ∈ lw_tbl := zWs_mem tables_1_3 (List.mem_of_getElem? (i := 3) rfl) _ (List.mem_of_getElem? (i := 195) rfl)
theorem zmk_65 : zckM zm_65 1005 = true := by decide +kernel
theorem zmw_66 : zcw zm_66 ∈ lw_tbl := zWs_mem tables_1_3 (List.mem_of_getElem? (i := 3) rfl) _ (List.mem_of_getElem? (i := 199) rfl)
theorem zmk_66 : zckM zm_66 1005 = true := by decide +kernel
theorem zmw_67 : zcw zm_67 ∈ lw_tbl := zWs_mem tables_1_4 (List.mem_of_getElem? (i := 4) rfl) _ (List.mem_of_getElem? (i := 18) rfl)
theorem zmk_67 : zckM zm_67 1005 = true := by decide +kernel
theorem zmw_68 : zcw zm_68 ∈ lw_tbl := zWs_mem tables_1_4 (List.mem_of_getElem? (i := 4) rfl) _ (List.mem_of_getElem? (i := 37) rfl)
theorem zmk_68 : zckM zm_68 1005 = true := by decide +kernel
theorem zmw_69 : zcw zm_69 ∈ lw_tbl := zWs_mem tables_1_4 (List.mem_of_getElem? (i := 4) rfl) _ (List.mem_of_getElem? (i := 157) rfl)
theorem zmk_69 : zckM zm_69 1005 = true := by decide +kernel
theorem zmw_70 : zcw zm_70 ∈ lw_tbl := zWs_mem tables_1_5 (List.mem_of_getElem? (i := 5) rfl) _ (List.mem_of_getElem? (i := 46) rfl)
theorem zmk_70 : zckM zm_70 1005 = true := by decide +kernel
theorem zmw_71 : zcw zm_71 ∈ lw_tbl := zWs_mem tables_1_5 (List.mem_of_getElem? (i := 5) rfl) _ (List.mem_of_getElem? (i := 51) rfl)
theorem zmk_71 : zckM zm_71 1005 = true := by decide +kernel
theorem zmw_72 : zcw zm_72 ∈ lw_tbl := zWs_mem tables_1_5 (List.mem_of_getElem? (i := 5) rfl) _ (List.mem_of_getElem? (i := 92) rfl)
theorem zmk_72 : zckM zm_72 1005 = true := by decide +kernel
theorem zmw_73 : zcw zm_73 ∈ lw_tbl := zWs_mem tables_1_5 (List.mem_of_getElem? (i := 5) rfl) _ (List.mem_of_getElem? (i := 96) rfl)
theorem zmk_73 : zckM zm_73 1005 = true := by decide +kernel
theorem zmw_74 : zcw zm_74 ∈ lw_tbl := zWs_mem tables_1_1 (List.mem_of_getElem? (i := 1) rfl) _ (List.mem_of_getElem? (i := 39) rfl)
theorem zmk_74 : zckM zm_74 1002 = true := by decide +kernel
theorem zmw_75 : zcw zm_75 ∈ lw_tbl := zWs_mem tables_1_2 (List.mem_of_getElem? (i := 2) rfl) _ (List.mem_of_getElem? (i := 174) rfl)
theorem zmk_75 : zckM zm_75 1002 = true := by decide +kernel
theorem zmw_76 : zcw zm_76 ∈ lw_tbl := zWs_mem tables_1_2 (List.mem_of_getElem? (i := 2) rfl) _ (List.mem_of_getElem? (i := 177) rfl)
theorem zmk_76 : zckM zm_76 1002 = true := by decide +kernel
theorem zmw_77 : zcw zm_77 ∈ lw_tbl := zWs_mem tables_1_2 (List.mem_of_getElem? (i := 2) rfl) _ (List.mem_of_getElem? (i := 233) rfl)
theorem zmk_77 : zckM zm_77 1002 = true := by decide +kernel
theorem zmw_78 : zcw zm_78 ∈ lw_tbl := zWs_mem tables_1_3 (List.mem_of_getElem? (i := 3) rfl) _ (List.mem_of_getElem? (i := 5) rfl)
theorem zmk_78 : zckM zm_78 1002 = true := by decide +kernel
theorem zmw_79 : zcw zm_79 ∈ lw_tbl := zWs_mem tables_1_3 (List.mem_of_getElem? (i := 3) rfl) _ (List.mem_of_getElem? (i := 145) rfl)
theorem zmk_79 : zckM zm_79 1002 = true := by decide +kernel
theorem zPRd_4 : ∀ M ∈ zPR_4, zckD M = true ∧ zcw M ∈ lw_tbl ∧ ∃ q, zckM M q = true := List.forall_mem_cons.mpr ⟨⟨zd_64, zmw_64, _, zmk_64⟩, List.forall_mem_cons.mpr ⟨⟨zd_65, zmw_65, _, zmk_65⟩, List.forall_mem_cons.mpr ⟨⟨zd_66, zmw_66, _, zmk_66⟩, List.forall_mem_cons.mpr ⟨⟨zd_67, zmw_67, _, zmk_67⟩, List.forall_mem_cons.mpr ⟨⟨zd_68, zmw_68, _, zmk_68⟩, List.forall_mem_cons.mpr ⟨⟨zd_69, zmw_69, _, zmk_69⟩, List.forall_mem_cons.mpr ⟨⟨zd_70, zmw_70, _, zmk_70⟩, List.forall_mem_cons.mpr ⟨⟨zd_71, zmw_71, _, zmk_71⟩, List.forall_mem_cons.mpr ⟨⟨zd_72, zmw_72, _, zmk_72⟩, List.forall_mem_cons.mpr ⟨⟨zd_73, zmw_73, _, zmk_73⟩, List.forall_mem_cons.mpr ⟨⟨zd_74, zmw_74, _, zmk_74⟩, List.forall_mem_cons.mpr ⟨⟨zd_75, zmw_75, _, zmk_75⟩, List.forall_mem_cons.mpr ⟨⟨zd_76, zmw_76, _, zmk_76⟩, List.forall_mem_cons.mpr ⟨⟨zd_77, zmw_77, _, zmk_77⟩, List.forall_mem_cons.mpr ⟨⟨zd_78, zmw_78, _, zmk_78⟩, List.forall_mem_cons.mpr ⟨⟨zd_79, zmw_79, _, zmk_79⟩, fun _ h => absurd h List.not_mem_nil⟩⟩⟩⟩⟩⟩⟩⟩⟩⟩⟩⟩⟩⟩⟩⟩
theorem zmw_80 : zcw zm_80 ∈ lw_tbl := zWs_mem tables_1_3 (List.mem_of_getElem? (i := 3) rfl) _ (List.mem_of_getElem? (i := 238) rfl)
theorem zmk_80 : zckM zm_80 1002 = true := by decide +kernel
theorem zmw_81 : zcw zm_81 ∈ lw_tbl := zWs_mem tables_1_4 (List.mem_of_getElem? (i := 4) rfl) _ (List.mem_of_getElem? (i := 78) rfl)
theorem zmk_81 : zckM zm_81 1002 = true := by decide +kernel
theorem zmw_82 : zcw zm_82 ∈ lw_tbl := zWs_mem tables_1_4 (List.mem_of_getElem? (i := 4) rfl) _ (List.mem_of_getElem? (i := 52) rfl)
theorem zmk_82 : zckM zm_82 1023 = true := by decide +kernel
theorem zmw_83 : zcw zm_83 ∈ lw_tbl := zWs_mem tables_1_4 (List.mem_of_getElem? (i := 4) rfl) _ (List.mem_of_getElem? (i := 55) rfl)
theorem zmk_83 : zckM zm_83 1023 = true := by decide +kernel
theorem zmw_84 : zcw zm_84 ∈ lw_tbl := zWs_mem tables_1_4 (List.mem_of_getElem? (i := 4) rfl) _ (List.mem_of_getElem? (i := 61) rfl)
theorem zmk_84 : zckM zm_84 1023 = true := by decide +kernel
theorem zmw_85 : zcw zm_85 ∈ lw_tbl := zWs_mem tables_1_4 (List.mem_of_getElem? (i := 4) rfl) _ (List.mem_of_getElem? (i := 65) rfl)
theorem zmk_85 : zckM zm_85 1023 = true := by decide +kernel
theorem zmw_86 : zcw zm_86 ∈ lw_tbl := zWs_mem tables_1_4 (List.mem_of_getElem? (i := 4) rfl) _ (List.mem_of_getElem? (i := 68) rfl)
theorem zmk_86 : zckM zm_86 1023 = true := by decide +kernel
theorem zmw_87 : zcw zm_87 ∈ lw_tbl := zWs_mem tables_1_4 (List.mem_of_getElem? (i := 4) rfl) _ (List.mem_of_getElem? (i := 71) rfl)
theorem zmk_87 : zckM zm_87 1023 = true := by decide +kernel
theorem zmw_88 : zcw zm_88 ∈ lw_tbl := zWs_mem tables_1_1 (List.mem_of_getElem? (i := 1) rfl) _ (List.mem_of_getElem? (i := 144) rfl)
theorem zmk_88 : zckM zm_88 1008 = true := by decide +kernel
theorem zmw_89 : zcw zm_89 ∈ lw_tbl := zWs_mem tables_1_4 (List.mem_of_getElem? (i := 4) rfl) _ (List.mem_of_getElem? (i := 219) rfl)
theorem zmk_89 : zckM zm_89 1008 = true := by decide +kernel
theorem zmw_90 : zcw zm_90 ∈ lw_tbl := zWs_mem tables_1_5 (List.mem_of_getElem? (i := 5) rfl) _ (List.mem_of_getElem? (i := 2) rfl)
theorem zmk_90 : zckM zm_90 1008 = true := by decide +kernel
theorem zmw_91 : zcw zm_91 ∈ lw_tbl := zWs_mem tables_1_5 (List.mem_of_getElem? (i := 5) rfl) _ (List.mem_of_getElem? (i := 81) rfl)
theorem zmk_91 : zckM zm_91 1008 = true := by decide +kernel
theorem zmw_92 : zcw zm_92 ∈ lw_tbl := zWs_mem tables_1_1 (List.mem_of_getElem? (i := 1) rfl) _ (List.mem_of_getElem? (i := 28) rfl)
theorem zmk_92 : zckM zm_92 1001 = true := by decide +kernel
theorem zmw_93 : zcw zm_93 ∈ lw_tbl := zWs_mem tables_1_1 (List.mem_of_getElem? (i := 1) rfl) _ (List.mem_of_getElem? (i := 210) rfl)
theorem zmk_93 : zckM zm_93 1001 = true := by decide +kernel
theorem zmw_94 : zcw zm_94 ∈ lw_tbl := zWs_mem tables_1_2 (List.mem_of_getElem? (i := 2) rfl) _ (List.mem_of_getElem? (i := 56) rfl)
theorem zmk_94 : zckM zm_94 1001 = true := by decide +kernel
theorem zmw_95 : zcw zm_95 ∈ lw_tbl := zWs_mem tables_1_2 (List.mem_of_getElem? (i := 2) rfl) _ (List.mem_of_getElem? (i := 60) rfl)
theorem zmk_95 : zckM zm_95 1001 = true := by decide +kernel
theorem zPRd_5 : ∀ M ∈ zPR_5, zckD M = true ∧ zcw M ∈ lw_tbl ∧ ∃ q, zckM M q = true := List.forall_mem_cons.mpr ⟨⟨zd_80, zmw_80, _, zmk_80⟩, List.forall_mem_cons.mpr ⟨⟨zd_81, zmw_81, _, zmk_81⟩, List.forall_mem_cons.mpr ⟨⟨zd_82, zmw_82, _, zmk_82⟩, List.forall_mem_cons.mpr ⟨⟨zd_83, zmw_83, _, zmk_83⟩, List.forall_mem_cons.mpr ⟨⟨zd_84, zmw_84, _, zmk_84⟩, List.forall_mem_cons.mpr ⟨⟨zd_85, zmw_85, _, zmk_85⟩, List.forall_mem_cons.mpr ⟨⟨zd_86, zmw_86, _, zmk_86⟩, List.forall_mem_cons.mpr ⟨⟨zd_87, zmw_87, _, zmk_87⟩, List.forall_mem_cons.mpr ⟨⟨zd_88, zmw_88, _, zmk_88⟩, List.forall_mem_cons.mpr ⟨⟨zd_89, zmw_89, _, zmk_89⟩, List.forall_mem_cons.mpr ⟨⟨zd_90, zmw_90, _, zmk_90⟩, List.forall_mem_cons.mpr ⟨⟨zd_91, zmw_91, _, zmk_91⟩, List.forall_mem_cons.mpr ⟨⟨zd_92, zmw_92, _, zmk_92⟩, List.forall_mem_cons.mpr ⟨⟨zd_93, zmw_93, _, zmk_93⟩, List.forall_mem_cons.mpr ⟨⟨zd_94, zmw_94, _, zmk_94⟩, List.forall_mem_cons.mpr ⟨⟨zd_95, zmw_95, _, zmk_95⟩, fun _ h => absurd h List.not_mem_nil⟩⟩⟩⟩⟩⟩⟩⟩⟩⟩⟩⟩⟩⟩⟩⟩
theorem zmw_96 : zcw zm_96 ∈ lw_tbl := zWs_mem tables_1_2 (List.mem_of_getElem? (i := 2) rfl) _ (List.mem_of_getElem? (i := 77) rfl)
theorem zmk_96 : zckM zm_96 1001 = true := by decide +kernel
theorem zmw_97 : zcw zm_97 ∈ lw_tbl := zWs_mem tables_1_2 (List.mem_of_getElem? (i := 2) rfl) _ (List.mem_of_getElem? (i := 96) rfl)
theorem zmk_97 : zckM zm_97 1001 = true := by decide +kernel
theorem zmw_98 : zcw zm_98 ∈ lw_tbl := zWs_mem tables_1_2 (List.mem_of_getElem? (i := 2) rfl) _ (List.mem_of_getElem? (i := 123) rfl)
theorem zmk_98 : zckM zm_98 1001 = true := by decide +kernel
theorem zmw_99 : zcw zm_99 ∈ lw_tbl := zWs_mem tables_1_2 (List.mem_of_getElem? (i := 2) rfl) _ (List.mem_of_getElem? (i := 127) rfl)
theorem zmk_99 : zckM zm_99 1001 = true := by decide +kernel
theorem zmw_100 : zcw zm_100 ∈ lw_tbl := zWs_mem tables_1_2 (List.mem_of_getElem? (i := 2) rfl) _ (List.mem_of_getElem? (i := 130) rfl)
theorem zmk_100 : zckM zm_100 1001 = true := by decide +kernel
theorem zmw_101 : zcw zm_101 ∈ lw_tbl := zWs_mem tables_1_2 (List.mem_of_getElem? (i := 2) rfl) _ (List.mem_of_getElem? (i := 190) rfl)
theorem zmk_101 : zckM zm_101 1001 = true := by decide +kernel
theorem zmw_102 : zcw zm_102 ∈ lw_tbl := zWs_mem tables_1_2 (List.mem_of_getElem? (i := 2) rfl) _ (List.mem_of_getElem? (i := 219) rfl)
theorem zmk_102 : zckM zm_102 1001 = true := by decide +kernel
theorem zmw_103 : zcw zm_103 ∈ lw_tbl := zWs_mem tables_1_2 (List.mem_of_getElem? (i := 2) rfl) _ (List.mem_of_getElem? (i := 226) rfl)
theorem zmk_103 : zckM zm_103 1001 = true := by decide +kernel
theorem zmw_104 : zcw zm_104 ∈ lw_tbl := zWs_mem tables_1_3 (List.mem_of_getElem? (i := 3) rfl) _ (List.mem_of_getElem? (i := 53) rfl)
theorem zmk_104 : zckM zm_104 1001 = true := by decide +kernel
theorem zmw_105 : zcw zm_105 ∈ lw_tbl := zWs_mem tables_1_3 (List.mem_of_getElem? (i := 3) rfl) _ (List.mem_of_getElem? (i := 60) rfl)
theorem zmk_105 : zckM zm_105 1001 = true := by decide +kernel
theorem zmw_106 : zcw zm_106 ∈ lw_tbl := zWs_mem tables_1_3 (List.mem_of_getElem? (i := 3) rfl) _ (List.mem_of_getElem? (i := 67) rfl)
theorem zmk_106 : zckM zm_106 1001 = true := by decide +kernel
theorem zmw_107 : zcw zm_107 ∈ lw_tbl := zWs_mem tables_1_3 (List.mem_of_getElem? (i := 3) rfl) _ (List.mem_of_getElem? (i := 74) rfl)
theorem zmk_107 : zckM zm_107 1001 = true := by decide +kernel
theorem zmw_108 : zcw zm_108 ∈ lw_tbl := zWs_mem tables_1_3 (List.mem_of_getElem? (i := 3) rfl) _ (List.mem_of_getElem? (i := 77) rfl)
theorem zmk_108 : zckM zm_108 1001 = true := by decide +kernel
theorem zmw_109 : zcw zm_109 ∈ lw_tbl := zWs_mem tables_1_3 (List.mem_of_getElem? (i := 3) rfl) _ (List.mem_of_getElem? (i := 80) rfl)
theorem zmk_109 : zckM zm_109 1001 = true := by decide +kernel
theorem zmw_110 : zcw zm_110 ∈ lw_tbl := zWs_mem tables_1_3 (List.mem_of_getElem? (i := 3) rfl) _ (List.mem_of_getElem? (i := 88) rfl)
theorem zmk_110 : zckM zm_110 1001 = true := by decide +kernel
theorem zmw_111 : zcw zm_111 ∈ lw_tbl := zWs_mem tables_1_3 (List.mem_of_getElem? (i := 3) rfl) _ (List.mem_of_getElem? (i := 99) rfl)
theorem zmk_111 : zckM zm_111 1001 = true := by decide +kernel
theorem zPRd_6 : ∀ M ∈ zPR_6, zckD M = true ∧ zcw M ∈ lw_tbl ∧ ∃ q, zckM M q = true := List.forall_mem_cons.mpr ⟨⟨zd_96, zmw_96, _, zmk_96⟩, List.forall_mem_cons.mpr ⟨⟨zd_97, zmw_97, _, zmk_97⟩, List.forall_mem_cons.mpr ⟨⟨zd_98, zmw_98, _, zmk_98⟩, List.forall_mem_cons.mpr ⟨⟨zd_99, zmw_99, _, zmk_99⟩, List.forall_mem_cons.mpr ⟨⟨zd_100, zmw_100, _, zmk_100⟩, List.forall_mem_cons.mpr ⟨⟨zd_101, zmw_101, _, zmk_101⟩, List.forall_mem_cons.mpr ⟨⟨zd_102, zmw_102, _, zmk_102⟩, List.forall_mem_cons.mpr ⟨⟨zd_103, zmw_103, _, zmk_103⟩, List.forall_mem_cons.mpr ⟨⟨zd_104, zmw_104, _, zmk_104⟩, List.forall_mem_cons.mpr ⟨⟨zd_105, zmw_105, _, zmk_105⟩, List.forall_mem_cons.mpr ⟨⟨zd_106, zmw_106, _, zmk_106⟩, List.forall_mem_cons.mpr ⟨⟨zd_107, zmw_107, _, zmk_107⟩, List.forall_mem_cons.mpr ⟨⟨zd_108, zmw_108, _, zmk_108⟩, List.forall_mem_cons.mpr ⟨⟨zd_109, zmw_109, _, zmk_109⟩, List.forall_mem_cons.mpr ⟨⟨zd_110, zmw_110, _, zmk_110⟩, List.forall_mem_cons.mpr ⟨⟨zd_111, zmw_111, _, zmk_111⟩, fun _ h => absurd h List.not_mem_nil⟩⟩⟩⟩⟩⟩⟩⟩⟩⟩⟩⟩⟩⟩⟩⟩
theorem zmw_112 : zcw zm_112 ∈ lw_tbl := zWs_mem tables_1_3 (List.mem_of_getElem? (i := 3) rfl) _ (List.mem_of_getElem? (i := 131) rfl)
theorem zmk_112 : zckM zm_112 1001 = true := by decide +kernel
theorem zmw_113 : zcw zm_113 ∈ lw_tbl := zWs_mem tables_1_3 (List.mem_of_getElem? (i := 3) rfl) _ (List.mem_of_getElem? (i := 138) rfl)
theorem zmk_113 : zckM zm_113 1001 = true := by decide +kernel
theorem zmw_114 : zcw zm_114 ∈ lw_tbl := zWs_mem tables_1_3 (List.mem_of_getElem? (i := 3) rfl) _ (List.mem_of_getElem? (i := 167) rfl)
theorem zmk_114 : zckM zm_114 1001 = true := by decide +kernel
theorem zmw_115 : zcw zm_115 ∈ lw_tbl := zWs_mem tables_1_3 (List.mem_of_getElem? (i := 3) rfl) _ (List.mem_of_getElem? (i := 206) rfl)
theorem zmk_115 : zckM zm_115 1001 = true := by decide +kernel
theorem zmw_116 : zcw zm_116 ∈ lw_tbl := zWs_mem tables_1_3 (List.mem_of_getElem? (i := 3) rfl) _ (List.mem_of_getElem? (i := 219) rfl)
theorem zmk_116 : zckM zm_116 1001 = true := by decide +kernel
theorem zmw_117 : zcw zm_117 ∈ lw_tbl := zWs_mem tables_1_4 (List.mem_of_getElem? (i := 4) rfl) _ (List.mem_of_getElem? (i := 49) rfl)
theorem zmk_117 : zckM zm_117 1001 = true := by decide +kernel
theorem zmw_118 : zcw zm_118 ∈ lw_tbl := zWs_mem tables_1_4 (List.mem_of_getElem? (i := 4) rfl) _ (List.mem_of_getElem? (i := 87) rfl)
theorem zmk_118 : zckM zm_118 1001 = true := by decide +kernel
theorem zmw_119 : zcw zm_119 ∈ lw_tbl := zWs_mem tables_1_4 (List.mem_of_getElem? (i := 4) rfl) _ (List.mem_of_getElem? (i := 94) rfl)
theorem zmk_119 : zckM zm_119 1001 = true := by decide +kernel
theorem zmw_120 : zcw zm_120 ∈ lw_tbl := zWs_mem tables_1_4 (List.mem_of_getElem? (i := 4) rfl) _ (List.mem_of_getElem? (i := 102) rfl)
theorem zmk_120 : zckM zm_120 1001 = true := by decide +kernel
theorem zmw_121 : zcw zm_121 ∈ lw_tbl := zWs_mem tables_1_4 (List.mem_of_getElem? (i := 4) rfl) _ (List.mem_of_getElem? (i := 113) rfl)
theorem zmk_121 : zckM zm_121 1001 = true := by decide +kernel
theorem zmw_122 : zcw zm_122 ∈ lw_tbl := zWs_mem tables_1_4 (List.mem_of_getElem? (i := 4) rfl) _ (List.mem_of_getElem? (i := 117) rfl)
theorem zmk_122 : zckM zm_122 1001 = true := by decide +kernel
theorem zmw_123 : zcw zm_123 ∈ lw_tbl := zWs_mem tables_1_4 (List.mem_of_getElem? (i := 4) rfl) _ (List.mem_of_getElem? (i := 130) rfl)
theorem zmk_123 : zckM zm_123 1001 = true := by decide +kernel
theorem zmw_124 : zcw zm_124 ∈ lw_tbl := zWs_mem tables_1_4 (List.mem_of_getElem? (i := 4) rfl) _ (List.mem_of_getElem? (i := 137) rfl)
theorem zmk_124 : zckM zm_124 1001 = true := by decide +kernel
theorem zmw_125 : zcw zm_125 ∈ lw_tbl := zWs_mem tables_1_4 (List.mem_of_getElem? (i := 4) rfl) _ (List.mem_of_getElem? (i := 144) rfl)
theorem zmk_125 : zckM zm_125 1001 = true := by decide +kernel
theorem zmw_126 : zcw zm_126 ∈ lw_tbl := zWs_mem tables_1_4 (List.mem_of_getElem? (i := 4) rfl) _ (List.mem_of_getElem? (i := 168) rfl)
theorem zmk_126 : zckM zm_126 1001 = true := by decide +kernel
theorem zmw_127 : zcw zm_127 ∈ lw_tbl := zWs_mem tables_1_4 (List.mem_of_getElem? (i := 4) rfl) _ (List.mem_of_getElem? (i := 172) rfl)
theorem zmk_127 : zckM zm_127 1001 = true := by decide +kernel
theorem zPRd_7 : ∀ M ∈ zPR_7, zckD M = true ∧ zcw M ∈ lw_tbl ∧ ∃ q, zckM M q = true := List.forall_mem_cons.mpr ⟨⟨zd_112, zmw_112, _, zmk_112⟩, List.forall_mem_cons.mpr ⟨⟨zd_113, zmw_113, _, zmk_113⟩, List.forall_mem_cons.mpr ⟨⟨zd_114, zmw_114, _, zmk_114⟩, List.forall_mem_cons.mpr ⟨⟨zd_115, zmw_115, _, zmk_115⟩, List.forall_mem_cons.mpr ⟨⟨zd_116, zmw_116, _, zmk_116⟩, List.forall_mem_cons.mpr ⟨⟨zd_117, zmw_117, _, zmk_117⟩, List.forall_mem_cons.mpr ⟨⟨zd_118, zmw_118, _, zmk_118⟩, List.forall_mem_cons.mpr ⟨⟨zd_119, zmw_119, _, zmk_119⟩, List.forall_mem_cons.mpr ⟨⟨zd_120, zmw_120, _, zmk_120⟩, List.forall_mem_cons.mpr ⟨⟨zd_121, zmw_121, _, zmk_121⟩, List.forall_mem_cons.mpr ⟨⟨zd_122, zmw_122, _, zmk_122⟩, List.forall_mem_cons.mpr ⟨⟨zd_123, zmw_123, _, zmk_123⟩, List.forall_mem_cons.mpr ⟨⟨zd_124, zmw_124, _, zmk_124⟩, List.forall_mem_cons.mpr ⟨⟨zd_125, zmw_125, _, zmk_125⟩, List.forall_mem_cons.mpr ⟨⟨zd_126, zmw_126, _, zmk_126⟩, List.forall_mem_cons.mpr ⟨⟨zd_127, zmw_127, _, zmk_127⟩, fun _ h => absurd h List.not_mem_nil⟩⟩⟩⟩⟩⟩⟩⟩⟩⟩⟩⟩⟩⟩⟩⟩
theorem zmw_128 : zcw zm_128 ∈ lw_tbl := zWs_mem tables_1_4 (List.mem_of_getElem? (i := 4) rfl) _ (List.mem_of_getElem? (i := 181) rfl)
theorem zmk_128 : zckM zm_128 1001 = true := by decide +kernel
theorem zmw_129 : zcw zm_129 ∈ lw_tbl := zWs_mem tables_1_4 (List.mem_of_getElem? (i := 4) rfl) _ (List.mem_of_getElem? (i := 192) rfl)
theorem zmk_129 : zckM zm_129 1001 = true := by decide +kernel
theorem zmw_130 : zcw zm_130 ∈ lw_tbl := zWs_mem tables_1_4 (List.mem_of_getElem? (i := 4) rfl) _ (List.mem_of_getElem? (i := 199) rfl)
theorem zmk_130 : zckM zm_130 1001 = true := by decide +kernel
theorem zmw_131 : zcw zm_131 ∈ lw_tbl := zWs_mem tables_1_4 (List.mem_of_getElem? (i := 4) rfl) _ (List.mem_of_getElem? (i := 207) rfl)
theorem zmk_131 : zckM zm_131 1001 = true := by decide +kernel
theorem zmw_132 : zcw zm_132 ∈ lw_tbl := zWs_mem tables_1_4 (List.mem_of_getElem? (i := 4) rfl) _ (List.mem_of_getElem? (i := 215) rfl)
theorem zmk_132 : zckM zm_132 1001 = true := by decide +kernel
theorem zmw_133 : zcw zm_133 ∈ lw_tbl := zWs_mem tables_1_4 (List.mem_of_getElem? (i := 4) rfl) _ (List.mem_of_getElem? (i := 226) rfl)
theorem zmk_133 : zckM zm_133 1001 = true := by decide +kernel
theorem zmw_134 : zcw zm_134 ∈ lw_tbl := zWs_mem tables_1_5 (List.mem_of_getElem? (i := 5) rfl) _ (List.mem_of_getElem? (i := 64) rfl)
theorem zmk_134 : zckM zm_134 1001 = true := by decide +kernel
theorem zmw_135 : zcw zm_135 ∈ lw_tbl := zWs_mem tables_1_5 (List.mem_of_getElem? (i := 5) rfl) _ (List.mem_of_getElem? (i := 71) rfl)
theorem zmk_135 : zckM zm_135 1001 = true := by decide +kernel
theorem zmw_136 : zcw zm_136 ∈ lw_tbl := zWs_mem tables_1_5 (List.mem_of_getElem? (i := 5) rfl) _ (List.mem_of_getElem? (i := 103) rfl)
theorem zmk_136 : zckM zm_136 1001 = true := by decide +kernel
theorem zmw_137 : zcw zm_137 ∈ lw_tbl := zWs_mem tables_1_5 (List.mem_of_getElem? (i := 5) rfl) _ (List.mem_of_getElem? (i := 110) rfl)
theorem zmk_137 : zckM zm_137 1010 = true := by decide +kernel
theorem zmw_138 : zcw zm_138 ∈ lw_tbl := zWs_mem tables_1_5 (List.mem_of_getElem? (i := 5) rfl) _ (List.mem_of_getElem? (i := 185) rfl)
theorem zmk_138 : zckM zm_138 1010 = true := by decide +kernel
theorem zmw_139 : zcw zm_139 ∈ lw_tbl := zWs_mem tables_1_5 (List.mem_of_getElem? (i := 5) rfl) _ (List.mem_of_getElem? (i := 189) rfl)
theorem zmk_139 : zckM zm_139 1010 = true := by decide +kernel
theorem zmw_140 : zcw zm_140 ∈ lw_tbl := zWs_mem tables_1_5 (List.mem_of_getElem? (i := 5) rfl) _ (List.mem_of_getElem? (i := 192) rfl)
theorem zmk_140 : zckM zm_140 1010 = true := by decide +kernel
theorem zmw_141 : zcw zm_141 ∈ lw_tbl := zWs_mem tables_1_5 (List.mem_of_getElem? (i := 5) rfl) _ (List.mem_of_getElem? (i := 196) rfl)
theorem zmk_141 : zckM zm_141 1010 = true := by decide +kernel
theorem zmw_142 : zcw zm_142 ∈ lw_tbl := zWs_mem tables_1_5 (List.mem_of_getElem? (i := 5) rfl) _ (List.mem_of_getElem? (i := 200) rfl)
theorem zmk_142 : zckM zm_142 1010 = true := by decide +kernel
theorem zmw_143 : zcw zm_143 ∈ lw_tbl := zWs_mem tables_1_5 (List.mem_of_getElem? (i := 5) rfl) _ (List.mem_of_getElem? (i := 203) rfl)
theorem zmk_143 : zckM zm_143 1010 = true := by decide +kernel
theorem zPRd_8 : ∀ M ∈ zPR_8, zckD M = true ∧ zcw M ∈ lw_tbl ∧ ∃ q, zckM M q = true := List.forall_mem_cons.mpr ⟨⟨zd_128, zmw_128, _, zmk_128⟩, List.forall_mem_cons.mpr ⟨⟨zd_129, zmw_129, _, zmk_129⟩, List.forall_mem_cons.mpr ⟨⟨zd_130, zmw_130, _, zmk_130⟩, List.forall_mem_cons.mpr ⟨⟨zd_131, zmw_131, _, zmk_131⟩, List.forall_mem_cons.mpr ⟨⟨zd_132, zmw_132, _, zmk_132⟩, List.forall_mem_cons.mpr ⟨⟨zd_133, zmw_133, _, zmk_133⟩, List.forall_mem_cons.mpr ⟨⟨zd_134, zmw_134, _, zmk_134⟩, List.forall_mem_cons.mpr ⟨⟨zd_135, zmw_135, _, zmk_135⟩, List.forall_mem_cons.mpr ⟨⟨zd_136, zmw_136, _, zmk_136⟩, List.forall_mem_cons.mpr ⟨⟨zd_137, zmw_137, _, zmk_137⟩, List.forall_mem_cons.mpr ⟨⟨zd_138, zmw_138, _, zmk_138⟩, List.forall_mem_cons.mpr ⟨⟨zd_139, zmw_139, _, zmk_139⟩, List.forall_mem_cons.mpr ⟨⟨zd_140, zmw_140, _, zmk_140⟩, List.forall_mem_cons.mpr ⟨⟨zd_141, zmw_141, _, zmk_141⟩, List.forall_mem_cons.mpr ⟨⟨zd_142, zmw_142, _, zmk_142⟩, List.forall_mem_cons.mpr ⟨⟨zd_143, zmw_143, _, zmk_143⟩, fun _ h => absurd h List.not_mem_nil⟩⟩⟩⟩⟩⟩⟩⟩⟩⟩⟩⟩⟩⟩⟩⟩
theorem zmw_144 : zcw zm_144 ∈ lw_tbl := zWs_mem tables_1_5 (List.mem_of_getElem? (i := 5) rfl) _ (List.mem_of_getElem? (i := 209) rfl)
theorem zmk_144 : zckM zm_144 1010 = true := by decide +kernel
theorem zmw_145 : zcw zm_145 ∈ lw_tbl := zWs_mem tables_1_5 (List.mem_of_getElem? (i := 5) rfl) _ (List.mem_of_getElem? (i := 213) rfl)
theorem zmk_145 : zckM zm_145 1010 = true := by decide +kernel
theorem zmw_146 : zcw zm_146 ∈ lw_tbl := zWs_mem tables_1_5 (List.mem_of_getElem? (i := 5) rfl) _ (List.mem_of_getElem? (i := 217) rfl)
theorem zmk_146 : zckM zm_146 1010 = true := by decide +kernel
theorem zmw_147 : zcw zm_147 ∈ lw_tbl := zWs_mem tables_1_5 (List.mem_of_getElem? (i := 5) rfl) _ (List.mem_of_getElem? (i := 221) rfl)
theorem zmk_147 : zckM zm_147 1010 = true := by decide +kernel
theorem zmw_148 : zcw zm_148 ∈ lw_tbl := zWs_mem tables_1_5 (List.mem_of_getElem? (i := 5) rfl) _ (List.mem_of_getElem? (i := 225) rfl)
theorem zmk_148 : zckM zm_148 1010 = true := by decide +kernel
theorem zmw_149 : zcw zm_149 ∈ lw_tbl := zWs_mem tables_1_5 (List.mem_of_getElem? (i := 5) rfl) _ (List.mem_of_getElem? (i := 228) rfl)
theorem zmk_149 : zckM zm_149 1010 = true := by decide +kernel
theorem zmw_150 : zcw zm_150 ∈ lw_tbl := zWs_mem tables_1_5 (List.mem_of_getElem? (i := 5) rfl) _ (List.mem_of_getElem? (i := 235) rfl)
theorem zmk_150 : zckM zm_150 1010 = true := by decide +kernel
theorem zmw_151 : zcw zm_151 ∈ lw_tbl := zWs_mem tables_1_5 (List.mem_of_getElem? (i := 5) rfl) _ (List.mem_of_getElem? (i := 238) rfl)
theorem zmk_151 : zckM zm_151 1010 = true := by decide +kernel
theorem zmw_152 : zcw zm_152 ∈ lw_tbl := zWs_mem tables_1_6 (List.mem_of_getElem? (i := 6) rfl) _ (List.mem_of_getElem? (i := 2) rfl)
theorem zmk_152 : zckM zm_152 1010 = true := by decide +kernel
theorem zmw_153 : zcw zm_153 ∈ lw_tbl := zWs_mem tables_1_6 (List.mem_of_getElem? (i := 6) rfl) _ (List.mem_of_getElem? (i := 6) rfl)
theorem zmk_153 : zckM zm_153 1010 = true := by decide +kernel
theorem zmw_154 : zcw zm_154 ∈ lw_tbl := zWs_mem tables_1_6 (List.mem_of_getElem? (i := 6) rfl) _ (List.mem_of_getElem? (i := 10) rfl)
theorem zmk_154 : zckM zm_154 1010 = true := by decide +kernel
theorem zmw_155 : zcw zm_155 ∈ lw_tbl := zWs_mem tables_1_6 (List.mem_of_getElem? (i := 6) rfl) _ (List.mem_of_getElem? (i := 14) rfl)
theorem zmk_155 : zckM zm_155 1010 = true := by decide +kernel
theorem zmw_156 : zcw zm_156 ∈ lw_tbl := zWs_mem tables_1_6 (List.mem_of_getElem? (i := 6) rfl) _ (List.mem_of_getElem? (i := 18) rfl)
theorem zmk_156 : zckM zm_156 1010 = true := by decide +kernel
theorem zmw_157 : zcw zm_157 ∈ lw_tbl := zWs_mem tables_1_6 (List.mem_of_getElem? (i := 6) rfl) _ (List.mem_of_getElem? (i := 22) rfl)
theorem zmk_157 : zckM zm_157 1010 = true := by decide +kernel
theorem zmw_158 : zcw zm_158 ∈ lw_tbl := zWs_mem tables_1_6 (List.mem_of_getElem? (i := 6) rfl) _ (List.mem_of_getElem? (i := 26) rfl)
theorem zmk_158 : zckM zm_158 1010 = true := by decide +kernel
theorem zmw_159 : zcw zm_159 ∈ lw_tbl := zWs_mem tables_1_6 (List.mem_of_getElem? (i := 6) rfl) _ (List.mem_of_getElem? (i := 29) rfl)
theorem zmk_159 : zckM zm_159 1010 = true := by decide +kernel
theorem zPRd_9 : ∀ M ∈ zPR_9, zckD M = true ∧ zcw M ∈ lw_tbl ∧ ∃ q, zckM M q = true := List.forall_mem_cons.mpr ⟨⟨zd_144, zmw_144, _, zmk_144⟩, List.forall_mem_cons.mpr ⟨⟨zd_145, zmw_145, _, zmk_145⟩, List.forall_mem_cons.mpr ⟨⟨zd_146, zmw_146, _, zmk_146⟩, List.forall_mem_cons.mpr ⟨⟨zd_147, zmw_147, _, zmk_147⟩, List.forall_mem_cons.mpr ⟨⟨zd_148, zmw_148, _, zmk_148⟩, List.forall_mem_cons.mpr ⟨⟨zd_149, zmw_149, _, zmk_149⟩, List.forall_mem_cons.mpr ⟨⟨zd_150, zmw_150, _, zmk_150⟩, List.forall_mem_cons.mpr ⟨⟨zd_151, zmw_151, _, zmk_151⟩, List.forall_mem_cons.mpr ⟨⟨zd_152, zmw_152, _, zmk_152⟩, List.forall_mem_cons.mpr ⟨⟨zd_153, zmw_153, _, zmk_153⟩, List.forall_mem_cons.mpr ⟨⟨zd_154, zmw_154, _, zmk_154⟩, List.forall_mem_cons.mpr ⟨⟨zd_155, zmw_155, _, zmk_155⟩, List.forall_mem_cons.mpr ⟨⟨zd_156, zmw_156, _, zmk_156⟩, List.forall_mem_cons.mpr ⟨⟨zd_157, zmw_157, _, zmk_157⟩, List.forall_mem_cons.mpr ⟨⟨zd_158, zmw_158, _, zmk_158⟩, List.forall_mem_cons.mpr ⟨⟨zd_159, zmw_159, _, zmk_159⟩, fun _ h => absurd h List.not_mem_nil⟩⟩⟩⟩⟩⟩⟩⟩⟩⟩⟩⟩⟩⟩⟩⟩
theorem zmw_160 : zcw zm_160 ∈ lw_tbl := zWs_mem tables_1_6 (List.mem_of_getElem? (i := 6) rfl) _ (List.mem_of_getElem? (i := 33) rfl)
theorem zmk_160 : zckM zm_160 1010 = true := by decide +kernel
theorem zmw_161 : zcw zm_161 ∈ lw_tbl := zWs_mem tables_1_6 (List.mem_of_getElem? (i := 6) rfl) _ (List.mem_of_getElem? (i := 36) rfl)
theorem zmk_161 : zckM zm_161 1010 = true := by decide +kernel
theorem zmw_162 : zcw zm_162 ∈ lw_tbl := zWs_mem tables_1_6 (List.mem_of_getElem? (i := 6) rfl) _ (List.mem_of_getElem? (i := 40) rfl)
theorem zmk_162 : zckM zm_162 1010 = true := by decide +kernel
theorem zmw_163 : zcw zm_163 ∈ lw_tbl := zWs_mem tables_1_6 (List.mem_of_getElem? (i := 6) rfl) _ (List.mem_of_getElem? (i := 44) rfl)
theorem zmk_163 : zckM zm_163 1010 = true := by decide +kernel
theorem zmw_164 : zcw zm_164 ∈ lw_tbl := zWs_mem tables_1_6 (List.mem_of_getElem? (i := 6) rfl) _ (List.mem_of_getElem? (i := 48) rfl)
theorem zmk_164 : zckM zm_164 1010 = true := by decide +kernel
theorem zmw_165 : zcw zm_165 ∈ lw_tbl := zWs_mem tables_1_6 (List.mem_of_getElem? (i := 6) rfl) _ (List.mem_of_getElem? (i := 52) rfl)
theorem zmk_165 : zckM zm_165 1010 = true := by decide +kernel
theorem zmw_166 : zcw zm_166 ∈ lw_tbl := zWs_mem tables_1_6 (List.mem_of_getElem? (i := 6) rfl) _ (List.mem_of_getElem? (i := 56) rfl)
theorem zmk_166 : zckM zm_166 1010 = true := by decide +kernel
theorem zmw_167 : zcw zm_167 ∈ lw_tbl := zWs_mem tables_1_6 (List.mem_of_getElem? (i := 6) rfl) _ (List.mem_of_getElem? (i := 60) rfl)
theorem zmk_167 : zckM zm_167 1010 = true := by decide +kernel
theorem zmw_168 : zcw zm_168 ∈ lw_tbl := zWs_mem tables_1_6 (List.mem_of_getElem? (i := 6) rfl) _ (List.mem_of_getElem? (i := 64) rfl)
theorem zmk_168 : zckM zm_168 1010 = true := by decide +kernel
theorem zmw_169 : zcw zm_169 ∈ lw_tbl := zWs_mem tables_1_6 (List.mem_of_getElem? (i := 6) rfl) _ (List.mem_of_getElem? (i := 68) rfl)
theorem zmk_169 : zckM zm_169 1010 = true := by decide +kernel
theorem zmw_170 : zcw zm_170 ∈ lw_tbl := zWs_mem tables_1_6 (List.mem_of_getElem? (i := 6) rfl) _ (List.mem_of_getElem? (i := 72) rfl)
theorem zmk_170 : zckM zm_170 1010 = true := by decide +kernel
theorem zmw_171 : zcw zm_171 ∈ lw_tbl := zWs_mem tables_1_6 (List.mem_of_getElem? (i := 6) rfl) _ (List.mem_of_getElem? (i := 76) rfl)
theorem zmk_171 : zckM zm_171 1010 = true := by decide +kernel
theorem zmw_172 : zcw zm_172 ∈ lw_tbl := zWs_mem tables_1_6 (List.mem_of_getElem? (i := 6) rfl) _ (List.mem_of_getElem? (i := 80) rfl)
theorem zmk_172 : zckM zm_172 1010 = true := by decide +kernel
theorem zmw_173 : zcw zm_173 ∈ lw_tbl := zWs_mem tables_1_6 (List.mem_of_getElem? (i := 6) rfl) _ (List.mem_of_getElem? (i := 84) rfl)
theorem zmk_173 : zckM zm_173 1010 = true := by decide +kernel
theorem zmw_174 : zcw zm_174 ∈ lw_tbl := zWs_mem tables_1_6 (List.mem_of_getElem? (i := 6) rfl) _ (List.mem_of_getElem? (i := 88) rfl)
theorem zmk_174 : zckM zm_174 1010 = true := by decide +kernel
theorem zmw_175 : zcw zm_175 ∈ lw_tbl := zWs_mem tables_1_6 (List.mem_of_getElem? (i := 6) rfl) _ (List.mem_of_getElem? (i := 92) rfl)
theorem zmk_175 : zckM zm_175 1010 = true := by decide +kernel
theorem zPRd_10 : ∀ M ∈ zPR_10, zckD M = true ∧ zcw M ∈ lw_tbl ∧ ∃ q, zckM M q = true := List.forall_mem_cons.mpr ⟨⟨zd_160, zmw_160, _, zmk_160⟩, List.forall_mem_cons.mpr ⟨⟨zd_161, zmw_161, _, zmk_161⟩, List.forall_mem_cons.mpr ⟨⟨zd_162, zmw_162, _, zmk_162⟩, List.forall_mem_cons.mpr ⟨⟨zd_163, zmw_163, _, zmk_163⟩, List.forall_mem_cons.mpr ⟨⟨zd_164, zmw_164, _, zmk_164⟩, List.forall_mem_cons.mpr ⟨⟨zd_165, zmw_165, _, zmk_165⟩, List.forall_mem_cons.mpr ⟨⟨zd_166, zmw_166, _, zmk_166⟩, List.forall_mem_cons.mpr ⟨⟨zd_167, zmw_167, _, zmk_167⟩, List.forall_mem_cons.mpr ⟨⟨zd_168, zmw_168, _, zmk_168⟩, List.forall_mem_cons.mpr ⟨⟨zd_169, zmw_169, _, zmk_169⟩, List.forall_mem_cons.mpr ⟨⟨zd_170, zmw_170, _, zmk_170⟩, List.forall_mem_cons.mpr ⟨⟨zd_171, zmw_171, _, zmk_171⟩, List.forall_mem_cons.mpr ⟨⟨zd_172, zmw_172, _, zmk_172⟩, List.forall_mem_cons.mpr ⟨⟨zd_173, zmw_173, _, zmk_173⟩, List.forall_mem_cons.mpr ⟨⟨zd_174, zmw_174, _, zmk_174⟩, List.forall_mem_cons.mpr ⟨⟨zd_175, zmw_175, _, zmk_175⟩, fun _ h => absurd h List.not_mem_nil⟩⟩⟩⟩⟩⟩⟩⟩⟩⟩⟩⟩⟩⟩⟩⟩
theorem zmw_176 : zcw zm_176 ∈ lw_tbl := zWs_mem tables_1_6 (List.mem_of_getElem? (i := 6) rfl) _ (List.mem_of_getElem? (i := 95) rfl)
theorem zmk_176 : zckM zm_176 1010 = true := by decide +kernel
theorem zmw_177 : zcw zm_177 ∈ lw_tbl := zWs_mem tables_1_6 (List.mem_of_getElem? (i := 6) rfl) _ (List.mem_of_getElem? (i := 99) rfl)
theorem zmk_177 : zckM zm_177 1010 = true := by decide +kernel
theorem zmw_178 : zcw zm_178 ∈ lw_tbl := zWs_mem tables_1_6 (List.mem_of_getElem? (i := 6) rfl) _ (List.mem_of_getElem? (i := 103) rfl)
theorem zmk_178 : zckM zm_178 1010 = true := by decide +kernel
theorem zmw_179 : zcw zm_179 ∈ lw_tbl := zWs_mem tables_1_6 (List.mem_of_getElem? (i := 6) rfl) _ (List.mem_of_getElem? (i := 106) rfl)
theorem zmk_179 : zckM zm_179 1010 = true := by decide +kernel
theorem zmw_180 : zcw zm_180 ∈ lw_tbl := zWs_mem tables_1_6 (List.mem_of_getElem? (i := 6) rfl) _ (List.mem_of_getElem? (i := 110) rfl)
theorem zmk_180 : zckM zm_180 1010 = true := by decide +kernel
theorem zmw_181 : zcw zm_181 ∈ lw_tbl := zWs_mem tables_1_6 (List.mem_of_getElem? (i := 6) rfl) _ (List.mem_of_getElem? (i := 114) rfl)
theorem zmk_181 : zckM zm_181 1010 = true := by decide +kernel
theorem zmw_182 : zcw zm_182 ∈ lw_tbl := zWs_mem tables_1_6 (List.mem_of_getElem? (i := 6) rfl) _ (List.mem_of_getElem? (i := 118) rfl)
theorem zmk_182 : zckM zm_182 1010 = true := by decide +kernel
theorem zmw_183 : zcw zm_183 ∈ lw_tbl := zWs_mem tables_1_6 (List.mem_of_getElem? (i := 6) rfl) _ (List.mem_of_getElem? (i := 122) rfl)
theorem zmk_183 : zckM zm_183 1010 = true := by decide +kernel
theorem zmw_184 : zcw zm_184 ∈ lw_tbl := zWs_mem tables_1_6 (List.mem_of_getElem? (i := 6) rfl) _ (List.mem_of_getElem? (i := 126) rfl)
theorem zmk_184 : zckM zm_184 1010 = true := by decide +kernel
theorem zmw_185 : zcw zm_185 ∈ lw_tbl := zWs_mem tables_1_6 (List.mem_of_getElem? (i := 6) rfl) _ (List.mem_of_getElem? (i := 130) rfl)
theorem zmk_185 : zckM zm_185 1010 = true := by decide +kernel
theorem zmw_186 : zcw zm_186 ∈ lw_tbl := zWs_mem tables_1_6 (List.mem_of_getElem? (i := 6) rfl) _ (List.mem_of_getElem? (i := 133) rfl)
theorem zmk_186 : zckM zm_186 1010 = true := by decide +kernel
theorem zmw_187 : zcw zm_187 ∈ lw_tbl := zWs_mem tables_1_6 (List.mem_of_getElem? (i := 6) rfl) _ (List.mem_of_getElem? (i := 137) rfl)
theorem zmk_187 : zckM zm_187 1010 = true := by decide +kernel
theorem zmw_188 : zcw zm_188 ∈ lw_tbl := zWs_mem tables_1_6 (List.mem_of_getElem? (i := 6) rfl) _ (List.mem_of_getElem? (i := 141) rfl)
theorem zmk_188 : zckM zm_188 1010 = true := by decide +kernel
theorem zmw_189 : zcw zm_189 ∈ lw_tbl := zWs_mem tables_1_6 (List.mem_of_getElem? (i := 6) rfl) _ (List.mem_of_getElem? (i := 145) rfl)
theorem zmk_189 : zckM zm_189 1010 = true := by decide +kernel
theorem zmw_190 : zcw zm_190 ∈ lw_tbl := zWs_mem tables_1_6 (List.mem_of_getElem? (i := 6) rfl) _ (List.mem_of_getElem? (i := 149) rfl)
theorem zmk_190 : zckM zm_190 1010 = true := by decide +kernel
theorem zmw_191 : zcw zm_191 ∈ lw_tbl := zWs_mem tables_1_6 (List.mem_of_getElem? (i := 6) rfl) _ (List.mem_of_getElem? (i := 153) rfl)
theorem zmk_191 : zckM zm_191 1010 = true := by decide +kernel
theorem zPRd_11 : ∀ M ∈ zPR_11, zckD M = true ∧ zcw M ∈ lw_tbl ∧ ∃ q, zckM M q = true := List.forall_mem_cons.mpr ⟨⟨zd_176, zmw_176, _, zmk_176⟩, List.forall_mem_cons.mpr ⟨⟨zd_177, zmw_177, _, zmk_177⟩, List.forall_mem_cons.mpr ⟨⟨zd_178, zmw_178, _, zmk_178⟩, List.forall_mem_cons.mpr ⟨⟨zd_179, zmw_179, _, zmk_179⟩, List.forall_mem_cons.mpr ⟨⟨zd_180, zmw_180, _, zmk_180⟩, List.forall_mem_cons.mpr ⟨⟨zd_181, zmw_181, _, zmk_181⟩, List.forall_mem_cons.mpr ⟨⟨zd_182, zmw_182, _, zmk_182⟩, List.forall_mem_cons.mpr ⟨⟨zd_183, zmw_183, _, zmk_183⟩, List.forall_mem_cons.mpr ⟨⟨zd_184, zmw_184, _, zmk_184⟩, List.forall_mem_cons.mpr ⟨⟨zd_185, zmw_185, _, zmk_185⟩, List.forall_mem_cons.mpr ⟨⟨zd_186, zmw_186, _, zmk_186⟩, List.forall_mem_cons.mpr ⟨⟨zd_187, zmw_187, _, zmk_187⟩, List.forall_mem_cons.mpr ⟨⟨zd_188, zmw_188, _, zmk_188⟩, List.forall_mem_cons.mpr ⟨⟨zd_189, zmw_189, _, zmk_189⟩, List.forall_mem_cons.mpr ⟨⟨zd_190, zmw_190, _, zmk_190⟩, List.forall_mem_cons.mpr ⟨⟨zd_191, zmw_191, _, zmk_191⟩, fun _ h => absurd h List.not_mem_nil⟩⟩⟩⟩⟩⟩⟩⟩⟩⟩⟩⟩⟩⟩⟩⟩
theorem zmw_192 : zcw zm_192 ∈ lw_tbl := zWs_mem tables_1_6 (List.mem_of_getElem? (i := 6) rfl) _ (List.mem_of_getElem? (i := 156) rfl)
theorem zmk_192 : zckM zm_192 1010 = true := by decide +kernel
theorem zmw_193 : zcw zm_193 ∈ lw_tbl := zWs_mem tables_1_6 (List.mem_of_getElem? (i := 6) rfl) _ (List.mem_of_getElem? (i := 162) rfl)
theorem zmk_193 : zckM zm_193 1010 = true := by decide +kernel
theorem zmw_194 : zcw zm_194 ∈ lw_tbl := zWs_mem tables_1_6 (List.mem_of_getElem? (i := 6) rfl) _ (List.mem_of_getElem? (i := 165) rfl)
theorem zmk_194 : zckM zm_194 1010 = true := by decide +kernel
theorem zmw_195 : zcw zm_195 ∈ lw_tbl := zWs_mem tables_1_6 (List.mem_of_getElem? (i := 6) rfl) _ (List.mem_of_getElem? (i := 169) rfl)
theorem zmk_195 : zckM zm_195 1010 = true := by decide +kernel
theorem zmw_196 : zcw zm_196 ∈ lw_tbl := zWs_mem tables_1_6 (List.mem_of_getElem? (i := 6) rfl) _ (List.mem_of_getElem? (i := 172) rfl)
theorem zmk_196 : zckM zm_196 1010 = true := by decide +kernel
theorem zmw_197 : zcw zm_197 ∈ lw_tbl := zWs_mem tables_1_6 (List.mem_of_getElem? (i := 6) rfl) _ (List.mem_of_getElem? (i := 176) rfl)
theorem zmk_197 : zckM zm_197 1010 = true := by decide +kernel
theorem zmw_198 : zcw zm_198 ∈ lw_tbl := zWs_mem tables_1_6 (List.mem_of_getElem? (i := 6) rfl) _ (List.mem_of_getElem? (i := 180) rfl)
theorem zmk_198 : zckM zm_198 1010 = true := by decide +kernel
theorem zmw_199 : zcw zm_199 ∈ lw_tbl := zWs_mem tables_1_6 (List.mem_of_getElem? (i := 6) rfl) _ (List.mem_of_getElem? (i := 184) rfl)
theorem zmk_199 : zckM zm_199 1010 = true := by decide +kernel
theorem zmw_200 : zcw zm_200 ∈ lw_tbl := zWs_mem tables_1_6 (List.mem_of_getElem? (i := 6) rfl) _ (List.mem_of_getElem? (i := 188) rfl)
theorem zmk_200 : zckM zm_200 1010 = true := by decide +kernel
theorem zmw_201 : zcw zm_201 ∈ lw_tbl := zWs_mem tables_1_6 (List.mem_of_getElem? (i := 6) rfl) _ (List.mem_of_getElem? (i := 192) rfl)
theorem zmk_201 : zckM zm_201 1010 = true := by decide +kernel
theorem zmw_202 : zcw zm_202 ∈ lw_tbl := zWs_mem tables_1_6 (List.mem_of_getElem? (i := 6) rfl) _ (List.mem_of_getElem? (i := 196) rfl)
theorem zmk_202 : zckM zm_202 1010 = true := by decide +kernel
theorem zmw_203 : zcw zm_203 ∈ lw_tbl := zWs_mem tables_1_6 (List.mem_of_getElem? (i := 6) rfl) _ (List.mem_of_getElem? (i := 200) rfl)
theorem zmk_203 : zckM zm_203 1010 = true := by decide +kernel
theorem zmw_204 : zcw zm_204 ∈ lw_tbl := zWs_mem tables_1_6 (List.mem_of_getElem? (i := 6) rfl) _ (List.mem_of_getElem? (i := 204) rfl)
theorem zmk_204 : zckM zm_204 1010 = true := by decide +kernel
theorem zmw_205 : zcw zm_205 ∈ lw_tbl := zWs_mem tables_1_6 (List.mem_of_getElem? (i := 6) rfl) _ (List.mem_of_getElem? (i := 208) rfl)
theorem zmk_205 : zckM zm_205 1010 = true := by decide +kernel
theorem zmw_206 : zcw zm_206 ∈ lw_tbl := zWs_mem tables_1_6 (List.mem_of_getElem? (i := 6) rfl) _ (List.mem_of_getElem? (i := 213) rfl)
theorem zmk_206 : zckM zm_206 1010 = true := by decide +kernel
theorem zmw_207 : zcw zm_207 ∈ lw_tbl := zWs_mem tables_1_6 (List.mem_of_getElem? (i := 6) rfl) _ (List.mem_of_getElem? (i := 217) rfl)
theorem zmk_207 : zckM zm_207 1010 = true := by decide +kernel
theorem zPRd_12 : ∀ M ∈ zPR_12, zckD M = true ∧ zcw M ∈ lw_tbl ∧ ∃ q, zckM M q = true := List.forall_mem_cons.mpr ⟨⟨zd_192, zmw_192, _, zmk_192⟩, List.forall_mem_cons.mpr ⟨⟨zd_193, zmw_193, _, zmk_193⟩, List.forall_mem_cons.mpr ⟨⟨zd_194, zmw_194, _, zmk_194⟩, List.forall_mem_cons.mpr ⟨⟨zd_195, zmw_195, _, zmk_195⟩, List.forall_mem_cons.mpr ⟨⟨zd_196, zmw_196, _, zmk_196⟩, List.forall_mem_cons.mpr ⟨⟨zd_197, zmw_197, _, zmk_197⟩, List.forall_mem_cons.mpr ⟨⟨zd_198, zmw_198, _, zmk_198⟩, List.forall_mem_cons.mpr ⟨⟨zd_199, zmw_199, _, zmk_199⟩, List.forall_mem_cons.mpr ⟨⟨zd_200, zmw_200, _, zmk_200⟩, List.forall_mem_cons.mpr ⟨⟨zd_201, zmw_201, _, zmk_201⟩, List.forall_mem_cons.mpr ⟨⟨zd_202, zmw_202, _, zmk_202⟩, List.forall_mem_cons.mpr ⟨⟨zd_203, zmw_203, _, zmk_203⟩, List.forall_mem_cons.mpr ⟨⟨zd_204, zmw_204, _, zmk_204⟩, List.forall_mem_cons.mpr ⟨⟨zd_205, zmw_205, _, zmk_205⟩, List.forall_mem_cons.mpr ⟨⟨zd_206, zmw_206, _, zmk_206⟩, List.forall_mem_cons.mpr ⟨⟨zd_207, zmw_207, _, zmk_207⟩, fun _ h => absurd h List.not_mem_nil⟩⟩⟩⟩⟩⟩⟩⟩⟩⟩⟩⟩⟩⟩⟩⟩
theorem zmw_208 : zcw zm_208 ∈ lw_tbl := zWs_mem tables_1_6 (List.mem_of_getElem? (i := 6) rfl) _ (List.mem_of_getElem? (i := 221) rfl)
theorem zmk_208 : zckM zm_208 1010 = true := by decide +kernel
theorem zmw_209 : zcw zm_209 ∈ lw_tbl := zWs_mem tables_1_6 (List.mem_of_getElem? (i := 6) rfl) _ (List.mem_of_getElem? (i := 225) rfl)
theorem zmk_209 : zckM zm_209 1010 = true := by decide +kernel
theorem zmw_210 : zcw zm_210 ∈ lw_tbl := zWs_mem tables_1_6 (List.mem_of_getElem? (i := 6) rfl) _ (List.mem_of_getElem? (i := 229) rfl)
theorem zmk_210 : zckM zm_210 1010 = true := by decide +kernel
theorem zmw_211 : zcw zm_211 ∈ lw_tbl := zWs_mem tables_1_6 (List.mem_of_getElem? (i := 6) rfl) _ (List.mem_of_getElem? (i := 233) rfl)
theorem zmk_211 : zckM zm_211 1010 = true := by decide +kernel
theorem zmw_212 : zcw zm_212 ∈ lw_tbl := zWs_mem tables_1_6 (List.mem_of_getElem? (i := 6) rfl) _ (List.mem_of_getElem? (i := 237) rfl)
theorem zmk_212 : zckM zm_212 1010 = true := by decide +kernel
theorem zmw_213 : zcw zm_213 ∈ lw_tbl := zWs_mem tables_1_7 (List.mem_of_getElem? (i := 7) rfl) _ (List.mem_of_getElem? (i := 1) rfl)
theorem zmk_213 : zckM zm_213 1010 = true := by decide +kernel
theorem zmw_214 : zcw zm_214 ∈ lw_tbl := zWs_mem tables_1_7 (List.mem_of_getElem? (i := 7) rfl) _ (List.mem_of_getElem? (i := 5) rfl)
theorem zmk_214 : zckM zm_214 1010 = true := by decide +kernel
theorem zmw_215 : zcw zm_215 ∈ lw_tbl := zWs_mem tables_1_7 (List.mem_of_getElem? (i := 7) rfl) _ (List.mem_of_getElem? (i := 10) rfl)
theorem zmk_215 : zckM zm_215 1010 = true := by decide +kernel
theorem zmw_216 : zcw zm_216 ∈ lw_tbl := zWs_mem tables_1_7 (List.mem_of_getElem? (i := 7) rfl) _ (List.mem_of_getElem? (i := 14) rfl)
theorem zmk_216 : zckM zm_216 1010 = true := by decide +kernel
theorem zmw_217 : zcw zm_217 ∈ lw_tbl := zWs_mem tables_1_7 (List.mem_of_getElem? (i := 7) rfl) _ (List.mem_of_getElem? (i := 18) rfl)
theorem zmk_217 : zckM zm_217 1010 = true := by decide +kernel
theorem zmw_218 : zcw zm_218 ∈ lw_tbl := zWs_mem tables_1_7 (List.mem_of_getElem? (i := 7) rfl) _ (List.mem_of_getElem? (i := 22) rfl)
theorem zmk_218 : zckM zm_218 1010 = true := by decide +kernel
theorem zmw_219 : zcw zm_219 ∈ lw_tbl := zWs_mem tables_1_7 (List.mem_of_getElem? (i := 7) rfl) _ (List.mem_of_getElem? (i := 26) rfl)
theorem zmk_219 : zckM zm_219 1010 = true := by decide +kernel
theorem zmw_220 : zcw zm_220 ∈ lw_tbl := zWs_mem tables_1_7 (List.mem_of_getElem? (i := 7) rfl) _ (List.mem_of_getElem? (i := 30) rfl)
theorem zmk_220 : zckM zm_220 1010 = true := by decide +kernel
theorem zmw_221 : zcw zm_221 ∈ lw_tbl := zWs_mem tables_1_7 (List.mem_of_getElem? (i := 7) rfl) _ (List.mem_of_getElem? (i := 34) rfl)
theorem zmk_221 : zckM zm_221 1010 = true := by decide +kernel
theorem zmw_222 : zcw zm_222 ∈ lw_tbl := zWs_mem tables_1_7 (List.mem_of_getElem? (i := 7) rfl) _ (List.mem_of_getElem? (i := 38) rfl)
theorem zmk_222 : zckM zm_222 1010 = true := by decide +kernel
theorem zmw_223 : zcw zm_223 ∈ lw_tbl := zWs_mem tables_1_7 (List.mem_of_getElem? (i := 7) rfl) _ (List.mem_of_getElem? (i := 42) rfl)
theorem zmk_223 : zckM zm_223 1010 = true := by decide +kernel
theorem zPRd_13 : ∀ M ∈ zPR_13, zckD M = true ∧ zcw M ∈ lw_tbl ∧ ∃ q, zckM M q = true := List.forall_mem_cons.mpr ⟨⟨zd_208, zmw_208, _, zmk_208⟩, List.forall_mem_cons.mpr ⟨⟨zd_209, zmw_209, _, zmk_209⟩, List.forall_mem_cons.mpr ⟨⟨zd_210, zmw_210, _, zmk_210⟩, List.forall_mem_cons.mpr ⟨⟨zd_211, zmw_211, _, zmk_211⟩, List.forall_mem_cons.mpr ⟨⟨zd_212, zmw_212, _, zmk_212⟩, List.forall_mem_cons.mpr ⟨⟨zd_213, zmw_213, _, zmk_213⟩, List.forall_mem_cons.mpr ⟨⟨zd_214, zmw_214, _, zmk_214⟩, List.forall_mem_cons.mpr ⟨⟨zd_215, zmw_215, _, zmk_215⟩, List.forall_mem_cons.mpr ⟨⟨zd_216, zmw_216, _, zmk_216⟩, List.forall_mem_cons.mpr ⟨⟨zd_217, zmw_217, _, zmk_217⟩, List.forall_mem_cons.mpr ⟨⟨zd_218, zmw_218, _, zmk_218⟩, List.forall_mem_cons.mpr ⟨⟨zd_219, zmw_219, _, zmk_219⟩, List.forall_mem_cons.mpr ⟨⟨zd_220, zmw_220, _, zmk_220⟩, List.forall_mem_cons.mpr ⟨⟨zd_221, zmw_221, _, zmk_221⟩, List.forall_mem_cons.mpr ⟨⟨zd_222, zmw_222, _, zmk_222⟩, List.forall_mem_cons.mpr ⟨⟨zd_223, zmw_223, _, zmk_223⟩, fun _ h => absurd h List.not_mem_nil⟩⟩⟩⟩⟩⟩⟩⟩⟩⟩⟩⟩⟩⟩⟩⟩
theorem zmw_224 : zcw zm_224 ∈ lw_tbl := zWs_mem tables_1_7 (List.mem_of_getElem? (i := 7) rfl) _ (List.mem_of_getElem? (i := 46) rfl)
theorem zmk_224 : zckM zm_224 1010 = true := by decide +kernel
theorem zmw_225 : zcw zm_225 ∈ lw_tbl := zWs_mem tables_1_7 (List.mem_of_getElem? (i := 7) rfl) _ (List.mem_of_getElem? (i := 51) rfl)
theorem zmk_225 : zckM zm_225 1010 = true := by decide +kernel
theorem zmw_226 : zcw zm_226 ∈ lw_tbl := zWs_mem tables_1_7 (List.mem_of_getElem? (i := 7) rfl) _ (List.mem_of_getElem? (i := 55) rfl)
theorem zmk_226 : zckM zm_226 1010 = true := by decide +kernel
theorem zmw_227 : zcw zm_227 ∈ lw_tbl := zWs_mem tables_1_7 (List.mem_of_getElem? (i := 7) rfl) _ (List.mem_of_getElem? (i := 59) rfl)
theorem zmk_227 : zckM zm_227 1010 = true := by decide +kernel
theorem zmw_228 : zcw zm_228 ∈ lw_tbl := zWs_mem tables_1_7 (List.mem_of_getElem? (i := 7) rfl) _ (List.mem_of_getElem? (i := 63) rfl)
theorem zmk_228 : zckM zm_228 1010 = true := by decide +kernel
theorem zmw_229 : zcw zm_229 ∈ lw_tbl := zWs_mem tables_1_7 (List.mem_of_getElem? (i := 7) rfl) _ (List.mem_of_getElem? (i := 67) rfl)
theorem zmk_229 : zckM zm_229 1010 = true := by decide +kernel
theorem zmw_230 : zcw zm_230 ∈ lw_tbl := zWs_mem tables_1_7 (List.mem_of_getElem? (i := 7) rfl) _ (List.mem_of_getElem? (i := 71) rfl)
theorem zmk_230 : zckM zm_230 1010 = true := by decide +kernel
theorem zmw_231 : zcw zm_231 ∈ lw_tbl := zWs_mem tables_1_7 (List.mem_of_getElem? (i := 7) rfl) _ (List.mem_of_getElem? (i := 75) rfl)
theorem zmk_231 : zckM zm_231 1010 = true := by decide +kernel
theorem zmw_232 : zcw zm_232 ∈ lw_tbl := zWs_mem tables_1_7 (List.mem_of_getElem? (i := 7) rfl) _ (List.mem_of_getElem? (i := 79) rfl)
theorem zmk_232 : zckM zm_232 1010 = true := by decide +kernel
theorem zmw_233 : zcw zm_233 ∈ lw_tbl := zWs_mem tables_1_7 (List.mem_of_getElem? (i := 7) rfl) _ (List.mem_of_getElem? (i := 83) rfl)
theorem zmk_233 : zckM zm_233 1010 = true := by decide +kernel
theorem zmw_234 : zcw zm_234 ∈ lw_tbl := zWs_mem tables_1_7 (List.mem_of_getElem? (i := 7) rfl) _ (List.mem_of_getElem? (i := 87) rfl)
theorem zmk_234 : zckM zm_234 1010 = true := by decide +kernel
theorem zmw_235 : zcw zm_235 ∈ lw_tbl := zWs_mem tables_1_7 (List.mem_of_getElem? (i := 7) rfl) _ (List.mem_of_getElem? (i := 91) rfl)
theorem zmk_235 : zckM zm_235 1010 = true := by decide +kernel
theorem zmw_236 : zcw zm_236 ∈ lw_tbl := zWs_mem tables_1_7 (List.mem_of_getElem? (i := 7) rfl) _ (List.mem_of_getElem? (i := 98) rfl)
theorem zmk_236 : zckM zm_236 1010 = true := by decide +kernel
theorem zmw_237 : zcw zm_237 ∈ lw_tbl := zWs_mem tables_1_7 (List.mem_of_getElem? (i := 7) rfl) _ (List.mem_of_getElem? (i := 102) rfl)
theorem zmk_237 : zckM zm_237 1010 = true := by decide +kernel
theorem zmw_238 : zcw zm_238 ∈ lw_tbl := zWs_mem tables_1_7 (List.mem_of_getElem? (i := 7) rfl) _ (List.mem_of_getElem? (i := 106) rfl)
theorem zmk_238 : zckM zm_238 1010 = true := by decide +kernel
theorem zmw_239 : zcw zm_239 ∈ lw_tbl := zWs_mem tables_1_7 (List.mem_of_getElem? (i := 7) rfl) _ (List.mem_of_getElem? (i := 110) rfl)
theorem zmk_239 : zckM zm_239 1010 = true := by decide +kernel
theorem zPRd_14 : ∀ M ∈ zPR_14, zckD M = true ∧ zcw M ∈ lw_tbl ∧ ∃ q, zckM M q = true := List.forall_mem_cons.mpr ⟨⟨zd_224, zmw_224, _, zmk_224⟩, List.forall_mem_cons.mpr ⟨⟨zd_225, zmw_225, _, zmk_225⟩, List.forall_mem_cons.mpr ⟨⟨zd_226, zmw_226, _, zmk_226⟩, List.forall_mem_cons.mpr ⟨⟨zd_227, zmw_227, _, zmk_227⟩, List.forall_mem_cons.mpr ⟨⟨zd_228, zmw_228, _, zmk_228⟩, List.forall_mem_cons.mpr ⟨⟨zd_229, zmw_229, _, zmk_229⟩, List.forall_mem_cons.mpr ⟨⟨zd_230, zmw_230, _, zmk_230⟩, List.forall_mem_cons.mpr ⟨⟨zd_231, zmw_231, _, zmk_231⟩, List.forall_mem_cons.mpr ⟨⟨zd_232, zmw_232, _, zmk_232⟩, List.forall_mem_cons.mpr ⟨⟨zd_233, zmw_233, _, zmk_233⟩, List.forall_mem_cons.mpr ⟨⟨zd_234, zmw_234, _, zmk_234⟩, List.forall_mem_cons.mpr ⟨⟨zd_235, zmw_235, _, zmk_235⟩, List.forall_mem_cons.mpr ⟨⟨zd_236, zmw_236, _, zmk_236⟩, List.forall_mem_cons.mpr ⟨⟨zd_237, zmw_237, _, zmk_237⟩, List.forall_mem_cons.mpr ⟨⟨zd_238, zmw_238, _, zmk_238⟩, List.forall_mem_cons.mpr ⟨⟨zd_239, zmw_239, _, zmk_239⟩, fun _ h => absurd h List.not_mem_nil⟩⟩⟩⟩⟩⟩⟩⟩⟩⟩⟩⟩⟩⟩⟩⟩
theorem zmw_240 : zcw zm_240 ∈ lw_tbl := zWs_mem tables_1_7 (List.mem_of_getElem? (i := 7) rfl) _ (List.mem_of_getElem? (i := 114) rfl)
theorem zmk_240 : zckM zm_240 1010 = true := by decide +kernel
theorem zmw_241 : zcw zm_241 ∈ lw_tbl := zWs_mem tables_1_7 (List.mem_of_getElem? (i := 7) rfl) _ (List.mem_of_getElem? (i := 118) rfl)
theorem zmk_241 : zckM zm_241 1010 = true := by decide +kernel
theorem zmw_242 : zcw zm_242 ∈ lw_tbl := zWs_mem tables_1_7 (List.mem_of_getElem? (i := 7) rfl) _ (List.mem_of_getElem? (i := 122) rfl)
theorem zmk_242 : zckM zm_242 1010 = true := by decide +kernel
theorem zmw_243 : zcw zm_243 ∈ lw_tbl := zWs_mem tables_1_7 (List.mem_of_getElem? (i := 7) rfl) _ (List.mem_of_getElem? (i := 126) rfl)
theorem zmk_243 : zckM zm_243 1010 = true := by decide +kernel
theorem zmw_244 : zcw zm_244 ∈ lw_tbl := zWs_mem tables_1_7 (List.mem_of_getElem? (i := 7) rfl) _ (List.mem_of_getElem? (i := 130) rfl)
theorem zmk_244 : zckM zm_244 1010 = true := by decide +kernel
theorem zmw_245 : zcw zm_245 ∈ lw_tbl := zWs_mem tables_1_7 (List.mem_of_getElem? (i := 7) rfl) _ (List.mem_of_getElem? (i := 134) rfl)
theorem zmk_245 : zckM zm_245 1010 = true := by decide +kernel
theorem zmw_246 : zcw zm_246 ∈ lw_tbl := zWs_mem tables_1_1 (List.mem_of_getElem? (i := 1) rfl) _ (List.mem_of_getElem? (i := 213) rfl)
theorem zmk_246 : zckM zm_246 1000 = true := by decide +kernel
theorem zmw_247 : zcw zm_247 ∈ lw_tbl := zWs_mem tables_1_2 (List.mem_of_getElem? (i := 2) rfl) _ (List.mem_of_getElem? (i := 118) rfl)
theorem zmk_247 : zckM zm_247 1000 = true := by decide +kernel
theorem zmw_248 : zcw zm_248 ∈ lw_tbl := zWs_mem tables_1_2 (List.mem_of_getElem? (i := 2) rfl) _ (List.mem_of_getElem? (i := 186) rfl)
theorem zmk_248 : zckM zm_248 1000 = true := by decide +kernel
theorem zmw_249 : zcw zm_249 ∈ lw_tbl := zWs_mem tables_1_2 (List.mem_of_getElem? (i := 2) rfl) _ (List.mem_of_getElem? (i := 201) rfl)
theorem zmk_249 : zckM zm_249 1000 = true := by decide +kernel
theorem zmw_250 : zcw zm_250 ∈ lw_tbl := zWs_mem tables_1_3 (List.mem_of_getElem? (i := 3) rfl) _ (List.mem_of_getElem? (i := 49) rfl)
theorem zmk_250 : zckM zm_250 1000 = true := by decide +kernel
theorem zmw_251 : zcw zm_251 ∈ lw_tbl := zWs_mem tables_1_3 (List.mem_of_getElem? (i := 3) rfl) _ (List.mem_of_getElem? (i := 56) rfl)
theorem zmk_251 : zckM zm_251 1000 = true := by decide +kernel
theorem zmw_252 : zcw zm_252 ∈ lw_tbl := zWs_mem tables_1_3 (List.mem_of_getElem? (i := 3) rfl) _ (List.mem_of_getElem? (i := 63) rfl)
theorem zmk_252 : zckM zm_252 1000 = true := by decide +kernel
theorem zmw_253 : zcw zm_253 ∈ lw_tbl := zWs_mem tables_1_3 (List.mem_of_getElem? (i := 3) rfl) _ (List.mem_of_getElem? (i := 70) rfl)
theorem zmk_253 : zckM zm_253 1000 = true := by decide +kernel
theorem zmw_254 : zcw zm_254 ∈ lw_tbl := zWs_mem tables_1_3 (List.mem_of_getElem? (i := 3) rfl) _ (List.mem_of_getElem? (i := 84) rfl)
theorem zmk_254 : zckM zm_254 1000 = true := by decide +kernel
theorem zmw_255 : zcw zm_255 ∈ lw_tbl := zWs_mem tables_1_3 (List.mem_of_getElem? (i := 3) rfl) _ (List.mem_of_getElem? (i := 127) rfl)
theorem zmk_255 : zckM zm_255 1000 = true := by decide +kernel
theorem zPRd_15 : ∀ M ∈ zPR_15, zckD M = true ∧ zcw M ∈ lw_tbl ∧ ∃ q, zckM M q = true := List.forall_mem_cons.mpr ⟨⟨zd_240, zmw_240, _, zmk_240⟩, List.forall_mem_cons.mpr ⟨⟨zd_241, zmw_241, _, zmk_241⟩, List.forall_mem_cons.mpr ⟨⟨zd_242, zmw_242, _, zmk_242⟩, List.forall_mem_cons.mpr ⟨⟨zd_243, zmw_243, _, zmk_243⟩, List.forall_mem_cons.mpr ⟨⟨zd_244, zmw_244, _, zmk_244⟩, List.forall_mem_cons.mpr ⟨⟨zd_245, zmw_245, _, zmk_245⟩, List.forall_mem_cons.mpr ⟨⟨zd_246, zmw_246, _, zmk_246⟩, List.forall_mem_cons.mpr ⟨⟨zd_247, zmw_247, _, zmk_247⟩, List.forall_mem_cons.mpr ⟨⟨zd_248, zmw_248, _, zmk_248⟩, List.forall_mem_cons.mpr ⟨⟨zd_249, zmw_249, _, zmk_249⟩, List.forall_mem_cons.mpr ⟨⟨zd_250, zmw_250, _, zmk_250⟩, List.forall_mem_cons.mpr ⟨⟨zd_251, zmw_251, _, zmk_251⟩, List.forall_mem_cons.mpr ⟨⟨zd_252, zmw_252, _, zmk_252⟩, List.forall_mem_cons.mpr ⟨⟨zd_253, zmw_253, _, zmk_253⟩, List.forall_mem_cons.mpr ⟨⟨zd_254, zmw_254, _, zmk_254⟩, List.forall_mem_cons.mpr ⟨⟨zd_255, zmw_255, _, zmk_255⟩, fun _ h => absurd h List.not_mem_nil⟩⟩⟩⟩⟩⟩⟩⟩⟩⟩⟩⟩⟩⟩⟩⟩
theorem zmw_256 : zcw zm_256 ∈ lw_tbl := zWs_mem tables_1_3 (List.mem_of_getElem? (i := 3) rfl) _ (List.mem_of_getElem? (i := 134) rfl)
theorem zmk_256 : zckM zm_256 1000 = true := by decide +kernel
theorem zmw_257 : zcw zm_257 ∈ lw_tbl := zWs_mem tables_1_3 (List.mem_of_getElem? (i := 3) rfl) _ (List.mem_of_getElem? (i := 163) rfl)
theorem zmk_257 : zckM zm_257 1000 = true := by decide +kernel
theorem zmw_258 : zcw zm_258 ∈ lw_tbl := zWs_mem tables_1_3 (List.mem_of_getElem? (i := 3) rfl) _ (List.mem_of_getElem? (i := 202) rfl)
theorem zmk_258 : zckM zm_258 1000 = true := by decide +kernel
theorem zmw_259 : zcw zm_259 ∈ lw_tbl := zWs_mem tables_1_3 (List.mem_of_getElem? (i := 3) rfl) _ (List.mem_of_getElem? (i := 215) rfl)
theorem zmk_259 : zckM zm_259 1000 = true := by decide +kernel
theorem zmw_260 : zcw zm_260 ∈ lw_tbl := zWs_mem tables_1_4 (List.mem_of_getElem? (i := 4) rfl) _ (List.mem_of_getElem? (i := 45) rfl)
theorem zmk_260 : zckM zm_260 1000 = true := by decide +kernel
theorem zmw_261 : zcw zm_261 ∈ lw_tbl := zWs_mem tables_1_4 (List.mem_of_getElem? (i := 4) rfl) _ (List.mem_of_getElem? (i := 83) rfl)
theorem zmk_261 : zckM zm_261 1000 = true := by decide +kernel
theorem zmw_262 : zcw zm_262 ∈ lw_tbl := zWs_mem tables_1_4 (List.mem_of_getElem? (i := 4) rfl) _ (List.mem_of_getElem? (i := 90) rfl)
theorem zmk_262 : zckM zm_262 1000 = true := by decide +kernel
theorem zmw_263 : zcw zm_263 ∈ lw_tbl := zWs_mem tables_1_4 (List.mem_of_getElem? (i := 4) rfl) _ (List.mem_of_getElem? (i := 98) rfl)
theorem zmk_263 : zckM zm_263 1000 = true := by decide +kernel
theorem zmw_264 : zcw zm_264 ∈ lw_tbl := zWs_mem tables_1_4 (List.mem_of_getElem? (i := 4) rfl) _ (List.mem_of_getElem? (i := 109) rfl)
theorem zmk_264 : zckM zm_264 1000 = true := by decide +kernel
theorem zmw_265 : zcw zm_265 ∈ lw_tbl := zWs_mem tables_1_4 (List.mem_of_getElem? (i := 4) rfl) _ (List.mem_of_getElem? (i := 126) rfl)
theorem zmk_265 : zckM zm_265 1000 = true := by decide +kernel
theorem zmw_266 : zcw zm_266 ∈ lw_tbl := zWs_mem tables_1_4 (List.mem_of_getElem? (i := 4) rfl) _ (List.mem_of_getElem? (i := 133) rfl)
theorem zmk_266 : zckM zm_266 1000 = true := by decide +kernel
theorem zmw_267 : zcw zm_267 ∈ lw_tbl := zWs_mem tables_1_4 (List.mem_of_getElem? (i := 4) rfl) _ (List.mem_of_getElem? (i := 140) rfl)
theorem zmk_267 : zckM zm_267 1000 = true := by decide +kernel
theorem zmw_268 : zcw zm_268 ∈ lw_tbl := zWs_mem tables_1_4 (List.mem_of_getElem? (i := 4) rfl) _ (List.mem_of_getElem? (i := 164) rfl)
theorem zmk_268 : zckM zm_268 1000 = true := by decide +kernel
theorem zmw_269 : zcw zm_269 ∈ lw_tbl := zWs_mem tables_1_4 (List.mem_of_getElem? (i := 4) rfl) _ (List.mem_of_getElem? (i := 177) rfl)
theorem zmk_269 : zckM zm_269 1000 = true := by decide +kernel
theorem zmw_270 : zcw zm_270 ∈ lw_tbl := zWs_mem tables_1_4 (List.mem_of_getElem? (i := 4) rfl) _ (List.mem_of_getElem? (i := 188) rfl)
theorem zmk_270 : zckM zm_270 1000 = true := by decide +kernel
theorem zmw_271 : zcw zm_271 ∈ lw_tbl := zWs_mem tables_1_4 (List.mem_of_getElem? (i := 4) rfl) _ (List.mem_of_getElem? (i := 195) rfl)
theorem zmk_271 : zckM zm_271 1000 = true := by decide +kernel
theorem zPRd_16 : ∀ M ∈ zPR_16, zckD M = true ∧ zcw M ∈ lw_tbl ∧ ∃ q, zckM M q = true := List.forall_mem_cons.mpr ⟨⟨zd_256, zmw_256, _, zmk_256⟩, List.forall_mem_cons.mpr ⟨⟨zd_257, zmw_257, _, zmk_257⟩, List.forall_mem_cons.mpr ⟨⟨zd_258, zmw_258, _, zmk_258⟩, List.forall_mem_cons.mpr ⟨⟨zd_259, zmw_259, _, zmk_259⟩, List.forall_mem_cons.mpr ⟨⟨zd_260, zmw_260, _, zmk_260⟩, List.forall_mem_cons.mpr ⟨⟨zd_261, zmw_261, _, zmk_261⟩, List.forall_mem_cons.mpr ⟨⟨zd_262, zmw_262, _, zmk_262⟩, List.forall_mem_cons.mpr ⟨⟨zd_263, zmw_263, _, zmk_263⟩, List.forall_mem_cons.mpr ⟨⟨zd_264, zmw_264, _, zmk_264⟩, List.forall_mem_cons.mpr ⟨⟨zd_265, zmw_265, _, zmk_265⟩, List.forall_mem_cons.mpr ⟨⟨zd_266, zmw_266, _, zmk_266⟩, List.forall_mem_cons.mpr ⟨⟨zd_267, zmw_267, _, zmk_267⟩, List.forall_mem_cons.mpr ⟨⟨zd_268, zmw_268, _, zmk_268⟩, List.forall_mem_cons.mpr ⟨⟨zd_269, zmw_269, _, zmk_269⟩, List.forall_mem_cons.mpr ⟨⟨zd_270, zmw_270, _, zmk_270⟩, List.forall_mem_cons.mpr ⟨⟨zd_271, zmw_271, _, zmk_271⟩, fun _ h => absurd h List.not_mem_nil⟩⟩⟩⟩⟩⟩⟩⟩⟩⟩⟩⟩⟩⟩⟩⟩
theorem zmw_272 : zcw zm_272 ∈ lw_tbl := zWs_mem tables_1_4 (List.mem_of_getElem? (i := 4) rfl) _ (List.mem_of_getElem? (i := 203) rfl)
theorem zmk_272 : zckM zm_272 1000 = true := by decide +kernel
theorem zmw_273 : zcw zm_273 ∈ lw_tbl := zWs_mem tables_1_4 (List.mem_of_getElem? (i := 4) rfl) _ (List.mem_of_getElem? (i := 211) rfl)
theorem zmk_273 : zckM zm_273 1000 = true := by decide +kernel
theorem zmw_274 : zcw zm_274 ∈ lw_tbl := zWs_mem tables_1_4 (List.mem_of_getElem? (i := 4) rfl) _ (List.mem_of_getElem? (i := 222) rfl)
theorem zmk_274 : zckM zm_274 1000 = true := by decide +kernel
theorem zmw_275 : zcw zm_275 ∈ lw_tbl := zWs_mem tables_1_5 (List.mem_of_getElem? (i := 5) rfl) _ (List.mem_of_getElem? (i := 60) rfl)
theorem zmk_275 : zckM zm_275 1000 = true := by decide +kernel
theorem zmw_276 : zcw zm_276 ∈ lw_tbl := zWs_mem tables_1_5 (List.mem_of_getElem? (i := 5) rfl) _ (List.mem_of_getElem? (i := 67) rfl)
theorem zmk_276 : zckM zm_276 1000 = true := by decide +kernel
theorem zmw_277 : zcw zm_277 ∈ lw_tbl := zWs_mem tables_1_5 (List.mem_of_getElem? (i := 5) rfl) _ (List.mem_of_getElem? (i := 99) rfl)
theorem zmk_277 : zckM zm_277 1000 = true := by decide +kernel
theorem zmw_278 : zcw zm_278 ∈ lw_tbl := zWs_mem tables_1_1 (List.mem_of_getElem? (i := 1) rfl) _ (List.mem_of_getElem? (i := 65) rfl)
theorem zmk_278 : zckM zm_278 1006 = true := by decide +kernel
theorem zmw_279 : zcw zm_279 ∈ lw_tbl := zWs_mem tables_1_3 (List.mem_of_getElem? (i := 3) rfl) _ (List.mem_of_getElem? (i := 113) rfl)
theorem zmk_279 : zckM zm_279 1006 = true := by decide +kernel
theorem zmw_280 : zcw zm_280 ∈ lw_tbl := zWs_mem tables_1_3 (List.mem_of_getElem? (i := 3) rfl) _ (List.mem_of_getElem? (i := 157) rfl)
theorem zmk_280 : zckM zm_280 1006 = true := by decide +kernel
theorem zmw_281 : zcw zm_281 ∈ lw_tbl := zWs_mem tables_1_4 (List.mem_of_getElem? (i := 4) rfl) _ (List.mem_of_getElem? (i := 9) rfl)
theorem zmk_281 : zckM zm_281 1006 = true := by decide +kernel
theorem zmw_282 : zcw zm_282 ∈ lw_tbl := zWs_mem tables_1_4 (List.mem_of_getElem? (i := 4) rfl) _ (List.mem_of_getElem? (i := 15) rfl)
theorem zmk_282 : zckM zm_282 1006 = true := by decide +kernel
theorem zmw_283 : zcw zm_283 ∈ lw_tbl := zWs_mem tables_1_2 (List.mem_of_getElem? (i := 2) rfl) _ (List.mem_of_getElem? (i := 108) rfl)
theorem zmk_283 : zckM zm_283 1018 = true := by decide +kernel
theorem zmw_284 : zcw zm_284 ∈ lw_tbl := zWs_mem tables_1_4 (List.mem_of_getElem? (i := 4) rfl) _ (List.mem_of_getElem? (i := 21) rfl)
theorem zmk_284 : zckM zm_284 1018 = true := by decide +kernel
theorem zPRd_17 : ∀ M ∈ zPR_17, zckD M = true ∧ zcw M ∈ lw_tbl ∧ ∃ q, zckM M q = true := List.forall_mem_cons.mpr ⟨⟨zd_272, zmw_272, _, zmk_272⟩, List.forall_mem_cons.mpr ⟨⟨zd_273, zmw_273, _, zmk_273⟩, List.forall_mem_cons.mpr ⟨⟨zd_274, zmw_274, _, zmk_274⟩, List.forall_mem_cons.mpr ⟨⟨zd_275, zmw_275, _, zmk_275⟩, List.forall_mem_cons.mpr ⟨⟨zd_276, zmw_276, _, zmk_276⟩, List.forall_mem_cons.mpr ⟨⟨zd_277, zmw_277, _, zmk_277⟩, List.forall_mem_cons.mpr ⟨⟨zd_278, zmw_278, _, zmk_278⟩, List.forall_mem_cons.mpr ⟨⟨zd_279, zmw_279, _, zmk_279⟩, List.forall_mem_cons.mpr ⟨⟨zd_280, zmw_280, _, zmk_280⟩, List.forall_mem_cons.mpr ⟨⟨zd_281, zmw_281, _, zmk_281⟩, List.forall_mem_cons.mpr ⟨⟨zd_282, zmw_282, _, zmk_282⟩, List.forall_mem_cons.mpr ⟨⟨zd_283, zmw_283, _, zmk_283⟩, List.forall_mem_cons.mpr ⟨⟨zd_284, zmw_284, _, zmk_284⟩, fun _ h => absurd h List.not_mem_nil⟩⟩⟩⟩⟩⟩⟩⟩⟩⟩⟩⟩⟩
theorem zPR_ok : ∀ L ∈ zPR, ∀ M ∈ L, zckD M = true ∧ zcw M ∈ lw_tbl ∧ ∃ q, zckM M q = true := List.forall_mem_cons.mpr ⟨zPRd_0, List.forall_mem_cons.mpr ⟨zPRd_1, List.forall_mem_cons.mpr ⟨zPRd_2, List.forall_mem_cons.mpr ⟨zPRd_3, List.forall_mem_cons.mpr ⟨zPRd_4, List.forall_mem_cons.mpr ⟨zPRd_5, List.forall_mem_cons.mpr ⟨zPRd_6, List.forall_mem_cons.mpr ⟨zPRd_7, List.forall_mem_cons.mpr ⟨zPRd_8, List.forall_mem_cons.mpr ⟨zPRd_9, List.forall_mem_cons.mpr ⟨zPRd_10, List.forall_mem_cons.mpr ⟨zPRd_11, List.forall_mem_cons.mpr ⟨zPRd_12, List.forall_mem_cons.mpr ⟨zPRd_13, List.forall_mem_cons.mpr ⟨zPRd_14, List.forall_mem_cons.mpr ⟨zPRd_15, List.forall_mem_cons.mpr ⟨zPRd_16, List.forall_mem_cons.mpr ⟨zPRd_17, fun _ h => absurd h List.not_mem_nil⟩⟩⟩⟩⟩⟩⟩⟩⟩⟩⟩⟩⟩⟩⟩⟩⟩⟩
