/-! calls: what an invocation comes to, by its kind; then one law for all of them -/
section ZS6
variable {p : Program} {l : Launch} {e : Env} {R : Room} {s : State} {m : MethodId} {args : Array Value} {below : List Frame} {meth : Method} {c : Code} {H : Heap} {locs : List Loc} {cells slots : Nat} {Q : State → Prop}
variable {cc : ByteArray} {pc : Nat} {ls : Array Slot} {b base : Nat} {D : va_G} {cA : Nat → ClassId} {o : Nat} {g : zG} {h : zH} {al : Bool}
def zIv (p : Program) (l : Launch) (e : Env) (R : Room) (s : State) (m : MethodId) (args : Array Value) (below : List Frame) (meth : Method) (c : Code) (H : Heap) (y : MethodName) (pc : Nat) (ls : Array Slot) (st0 rest : List Value) (aa : Array Value) : Prop :=
  ∀ (T : State) (locs : List Loc) (cells slots : Nat), T.heap = H → Stand p l e R s m args below meth c T locs cells slots → ∃ (vm₁ : Vm) (mk : MethodId), Stand p l e R s m args below meth c (T.setVm vm₁) locs cells slots ∧ s.methodNamed? y = some mk ∧
    ∀ target, (∀ acts, Steps p.tables e below (doInvoke e ((T.setVm vm₁).setTop (F0 m pc ls rest)) acts mk aa).1 target) → Steps p.tables e below (T.setTop (F0 m pc ls st0)) target
theorem zx_run {y : MethodName} {ig : Instr} {st0 rest : List Value} {aa : Array Value} {mc ms : Nat} {Pc : Array Value → State → Prop} {Qc : Array Value → State → Outcome → State → Prop} {XC : String → State → State → Prop} {free : Addr → Prop}
    (hI : zIv p l e R s m args below meth c H y pc ls st0 rest aa) (hK : vx_Back l R p e below s args y 3 8 (PreOf R mc ms Pc) (PostOf Qc mc ms free) (vx_Post XC mc ms free)) (hb : c.code = cc) (hdg : decode cc pc = .ok (ig, 3)) (hsize : ls.size = c.maxLocals)
    (hW : (rest.map fun v => v.category).sum ≤ 8) (hPc : ∀ U : State, U.heap = H → s.WarmedH U.vm → Pc aa U) (hf : cells + mc ≤ R.cells ∧ slots + ms ≤ R.slots) :
    vx_Run p l e R s m args below meth c H locs cells slots mc ms (F0 m pc ls st0) rest (Qc aa) XC free := by
  intro T hT X
  obtain ⟨vm₁, mk, X₁, hnamed, hstep₁⟩ := hI T locs cells slots hT X
  rcases hK m meth c ⟨T.setVm vm₁, locs, cells, slots⟩ (F0 m pc ls rest) ig mk aa X₁ rfl hsize (by rw [hb]; exact hdg) (lv_room hW) (X₁.named hnamed) ⟨hf.1, hf.2, hPc (T.setVm vm₁) hT X₁.warmed⟩ with ⟨v, ⟨U', l2, c2, s2⟩, X', ⟨g', mk', t, L, e1, e2, hq, h1, hL, h2, h3⟩, hsteps⟩ | ⟨q, ⟨U', l2, c2, s2⟩, X', ⟨g', mk', t, L, E, ce, e1, e2, hq, hce, hcv, hcl, h1, hL, h2, h3⟩, hsteps⟩
  · dsimp only [Pt.U, Pt.locs, Pt.cells, Pt.slots] at X' e1 e2 h1 h2 h3 hsteps
    subst h1; subst h2; subst h3
    exact Or.inl ⟨v, (T.setVm vm₁).calling g' mk' aa, t, U', L, hT, X', hL, e1, e2, hq, fun target h9 => hstep₁ _ fun acts => by rw [doInvoke_state]; exact hsteps.trans h9⟩
  · dsimp only [Pt.U, Pt.locs, Pt.cells, Pt.slots] at X' e1 e2 h1 h2 h3 hsteps hcl
    subst h1; subst h2; subst h3
    exact Or.inr ⟨q, (T.setVm vm₁).calling g' mk' aa, t, U', L, E, ce, hT, X', hL, e1, e2, hq, hce, hcv, vx_cls X₁.warmed hcl, hstep₁ _ fun acts => by rw [doInvoke_state]; exact hsteps⟩
/-- the method named stands, with a signature of so many parameters -/
theorem zcw_spec {M : zM} (h : (zcw M).before args s = true) : ∃ mk methM, s.methodNamed? M.2.2.1 = some mk ∧ s.vm.method? mk = some methM ∧ parseMethodDescriptor M.2.2.1.desc = some methM.sig := by
  unfold zcw at h
  split at h
  · obtain ⟨mk, hnamed⟩ := Cond.code_named h
    obtain ⟨methM, cM, hmethM, -, -, -, -, -, -, hsigM⟩ := Cond.code_spec hnamed h
    exact ⟨mk, methM, hnamed, hmethM, hsigM⟩
  · obtain ⟨mk, methM, cM, hnamed, hmethM, -, -, -, -, -, -, hsigM⟩ := Cond.codeWith_spec h
    exact ⟨mk, methM, hnamed, hmethM, hsigM⟩
theorem znp_ok {d : String} {n : Nat} {sig : MethodDescriptor} (h : znp d n = true) (hs : parseMethodDescriptor d = some sig) : n = sig.parameters.length := by
  have h1 : (parseMethodDescriptor d).map (fun q => q.parameters.length) = some n := of_decide_eq_true h
  rw [hs] at h1
  exact (Option.some.inj h1).symm
theorem zmh_ok {c : String} (h : zmh c = true) : c ≠ "java/lang/invoke/MethodHandle" ∧ c ≠ "java/lang/invoke/VarHandle" := by
  unfold zmh at h
  rw [Bool.and_eq_true, decide_eq_true_eq, decide_eq_true_eq] at h
  exact h
theorem zi_static {own : String} {M : zM} {index : Nat} {As rest : List Value} (hx : p.tables.exec = Jvm.exec) (hb : c.code = cc) (hown : s.vm.findClass own = some m.cls) (hlink : (Cond.methodLink own index M.2.2.1).before args s = true) (hstat : (Cond.static M.2.2.1).before args s = true)
    (hini : (Cond.initialized M.2.2.1.cls).before args s = true) (hcode : (zcw M).before args s = true) (hy : zmh M.2.2.1.cls = true) (hn : znp M.2.2.1.desc As.length = true) (hdg : decode cc pc = .ok (.invokestatic index, 3)) :
    zIv p l e R s m args below meth c H M.2.2.1 pc ls (As.reverse ++ rest) rest As.toArray := by
  intro T locs cells slots hT X
  obtain ⟨mk, methM, hnamed, hmethM, hsigM⟩ := zcw_spec hcode
  have hstatic : methM.isStatic = true := Cond.static_spec hnamed hmethM hstat
  obtain ⟨kP, hkP, -⟩ := className_of_methodNamed hnamed
  have hinitP : kP.init = .initialized := Cond.initialized_spec (findClass_of_methodNamed hnamed) hkP hini
  obtain ⟨vm₁, X₁, hstep₁⟩ := X.invokestatic hx hown hlink hnamed hmethM hstatic hkP hinitP (zmh_ok hy) (g := F0 m pc ls (As.reverse ++ rest)) rfl (argsL := As) (rest := rest) (znp_ok hn hsigM) rfl (by rw [hb]; exact hdg)
  exact ⟨vm₁, mk, X₁, hnamed, hstep₁⟩
theorem zi_virtual {own C : String} {M : zM} {index : Nat} {a : Nat} {As rest : List Value} (hx : p.tables.exec = Jvm.exec) (hb : c.code = cc) (hown : s.vm.findClass own = some m.cls) (hlink : (Cond.methodLink own index M.2.2.1).before args s = true) (hinst : (Cond.instanceMethod M.2.2.1).before args s = true)
    (hsel : (Cond.selects C M.2.2.1 M.2.2.1).before args s = true) (hcode : (zcw M).before args s = true) (hy : zmh M.2.2.1.cls = true) (hn : znp M.2.2.1.desc As.length = true) (hdg : decode cc pc = .ok (.invokevirtual index, 3))
    (hrec : ∃ cellB : Cell, H[a]? = some cellB ∧ cellB.vm.isStatics = false ∧ s.vm.findClass C = some cellB.cls) :
    zIv p l e R s m args below meth c H M.2.2.1 pc ls (As.reverse ++ .ref a :: rest) rest (Value.ref a :: As).toArray := by
  intro T locs cells slots hT X
  obtain ⟨cellB, hcB, hoB, hclB⟩ := hrec
  obtain ⟨mk, methM, hnamed, hmethM, hsigM⟩ := zcw_spec hcode
  obtain ⟨mk', methM', hnamed', hmethM', hstM, habM⟩ := Cond.instanceMethod_spec hinst
  cases hnamed.symm.trans hnamed'
  cases hmethM.symm.trans hmethM'
  obtain ⟨c2, r2, m2, q1, q2, q3, q4, kP, hkP, hkPi⟩ := Cond.selects_spec hsel
  cases hclB.symm.trans q1
  cases (State.methodFound?_of_named hnamed (zmh_ok hy)).symm.trans q2
  cases hnamed.symm.trans q3
  have hselP : selectMethod e.platform s.vm cellB.cls mk = .method mk := by rw [Launch.admits_selectMethod X.admits]; exact q4
  obtain ⟨vm₁, X₁, hstep₁⟩ := X.invokevirtual hx hown hlink hnamed hmethM hstM hkP hkPi (zmh_ok hy) (a := a) (cell := cellB) (by rw [hT]; exact hcB)
    (fun z h => by rw [h] at hoB; cases hoB) hselP hmethM habM hkP hkPi (g := F0 m pc ls (As.reverse ++ .ref a :: rest)) rfl (argsL := As) (rest := rest) (znp_ok hn hsigM) rfl (by rw [hb]; exact hdg)
  exact ⟨vm₁, mk, X₁, hnamed, hstep₁⟩
theorem zi_virtualUp {own C owner : String} {M : zM} {index : Nat} {a : Nat} {As rest : List Value} (hx : p.tables.exec = Jvm.exec) (hb : c.code = cc) (hown : s.vm.findClass own = some m.cls) (hlink : (Cond.methodLink own index ⟨owner, M.2.2.1.name, M.2.2.1.desc⟩).before args s = true)
    (hsame : (Cond.sameMethod owner owner M.2.2.1.name M.2.2.1.desc).before args s = true) (hd0 : va_Decl s ⟨owner, M.2.2.1.name, M.2.2.1.desc⟩) (hinst : (Cond.instanceMethod M.2.2.1).before args s = true)
    (hsel : (Cond.selects C ⟨owner, M.2.2.1.name, M.2.2.1.desc⟩ M.2.2.1).before args s = true) (hy : zmh owner = true) (hn : znp M.2.2.1.desc As.length = true) (hdg : decode cc pc = .ok (.invokevirtual index, 3))
    (hrec : ∃ cellB : Cell, H[a]? = some cellB ∧ cellB.vm.isStatics = false ∧ s.vm.findClass C = some cellB.cls) :
    zIv p l e R s m args below meth c H M.2.2.1 pc ls (As.reverse ++ .ref a :: rest) rest (Value.ref a :: As).toArray := by
  intro T locs cells slots hT X
  obtain ⟨cellB, hcB, hoB, hclB⟩ := hrec
  obtain ⟨r0, r, hn0, hrm, hstR, hsigR⟩ := hd0
  obtain ⟨cn, ck, r1, hcn, hck, hni, hf, hn1⟩ := Cond.sameMethod_found hsame
  cases hn0.symm.trans hn1
  obtain ⟨mk, methM, hnamed, hmethM, -, habM⟩ := Cond.instanceMethod_spec hinst
  obtain ⟨c2, r2, m2, q1, q2, q3, q4, kP, hkP, hkPi⟩ := Cond.selects_spec hsel
  cases hclB.symm.trans q1
  cases hf.symm.trans q2
  cases hnamed.symm.trans q3
  have hselP : selectMethod e.platform s.vm cellB.cls r0 = .method mk := by rw [Launch.admits_selectMethod X.admits]; exact q4
  obtain ⟨vm₁, X₁, hstep₁⟩ := X.invokevirtualUp hx (x := ⟨owner, M.2.2.1.name, M.2.2.1.desc⟩) hown hlink hsame (zmh_ok hy) hn0 hrm hstR (a := a) (cell := cellB) (by rw [hT]; exact hcB)
    (fun z h => by rw [h] at hoB; cases hoB) hselP hmethM habM hkP hkPi (g := F0 m pc ls (As.reverse ++ .ref a :: rest)) rfl (argsL := As) (rest := rest) (znp_ok hn hsigR) rfl (by rw [hb]; exact hdg)
  exact ⟨vm₁, mk, X₁, hnamed, hstep₁⟩
theorem zi_special {own : String} {M : zM} {index : Nat} {a : Nat} {As rest : List Value} (hx : p.tables.exec = Jvm.exec) (hb : c.code = cc) (hown : s.vm.findClass own = some m.cls) (hlink : (Cond.methodLink own index M.2.2.1).before args s = true) (hinst : (Cond.instanceMethod M.2.2.1).before args s = true)
    (hname : M.2.2.1.name = "<init>") (hcode : (Cond.code M.2.2.1 M.2.2.2.1 M.2.2.2.2.1 none).before args s = true) (hy : zmh M.2.2.1.cls = true) (hn : znp M.2.2.1.desc As.length = true) (hdg : decode cc pc = .ok (.invokespecial index, 3)) :
    zIv p l e R s m args below meth c H M.2.2.1 pc ls (As.reverse ++ .ref a :: rest) rest (Value.ref a :: As).toArray := by
  intro T locs cells slots hT X
  have hpl : e.platform.magicAccessors = ({} : Platform).magicAccessors := by rw [X.admits.platform]
  obtain ⟨mk, methM, cM, kP, vm₁, hnamed, hmethM, hcodeM, -, hlocalsM, -, hkP, -, hW₁, hstep₁⟩ := Steps.initColdArgs (e := e) X.here hx X.warmed hpl hown hname (zmh_ok hy) hlink hinst hcode (f := F0 m pc ls (As.reverse ++ .ref a :: rest)) rfl (fun sig hs => znp_ok hn hs) rfl (by rw [hb]; exact hdg)
  exact ⟨vm₁, mk, X.noted hW₁, hnamed, hstep₁⟩
end ZS6
/-! a static method that the named class inherits: after the shape of the rows on invokevirtual and invokestatic, cold or warm -/
theorem zw_coldUp {Q : Unit → Pre} {E : CtlPost} {e : Env} {d : Bool} {acts : List Action} {s s₀ : State} {f : JFrame} {index ci n cN : Nat} {mk : MethodId} {dk ck : Class} {cf : ClassFile} {name desc : String} (hs : s.topJava?.isSome) (hp : e.platform.polymorphicOnlyByInvokevirtual = true)
    (hW : s₀.WarmedH s.vm) (hE : s₀.MethodEntryUp e s.vm f.method.cls index cN mk ci) (h1 : s₀.vm.classes[f.method.cls]? = some dk) (h2 : dk.cf = some cf)
    (h3 : cf.constantPool[index]? = some (.methodref ci n)) (h4 : cf.constantPool.nameAndType? n = some (name, desc))
    (hck : s₀.vm.classes[cN]? = some ck) (hnone : (ck.methods.any fun x => x.name == name && !x.isStatic && signaturePolymorphic ck x) = false) :
    wp (Op.invokestatic.sem index) Q E e d acts (s.setTop f) ↔ wp (Op.invokestatic.sem index) Q E e d acts ((s.setVm (s.vm.calledUp f.method.cls ci index cN mk)).setTop f) := by
  obtain ⟨g1, -, w1, g2⟩ := hE.classFirst
  obtain ⟨k₀, hk₀, he₀⟩ := hW.alike.2.2 _ _ h1
  obtain ⟨k₂, hk₂, he₂⟩ := hE.warmed.alike.2.2 _ _ h1
  obtain ⟨c₁, hc₁, hec₁⟩ := w1.alike.2.2 _ _ hck
  obtain ⟨c₂, hc₂, hec₂⟩ := hE.warmed.alike.2.2 _ _ hck
  have h3' : cf.constantPool[index]? = some (if false then .interfaceMethodref ci n else .methodref ci n) := h3
  have hb₀ := memberRef_ask_via (e := e) hk₀ (by rw [he₀]; exact h2) h3' h4
  have hb₂ := memberRef_ask_via (e := e) hk₂ (by rw [he₂]; exact h2) h3' h4
  have hn₁ : (c₁.methods.any fun x => x.name == name && !x.isStatic && signaturePolymorphic c₁ x) = false := by rw [hec₁]; exact hnone
  have hn₂ : (c₂.methods.any fun x => x.name == name && !x.isStatic && signaturePolymorphic c₂ x) = false := by rw [hec₂]; exact hnone
  have t1 : (s.setVm (s.vm.noted f.method.cls ci (.cls cN))).topJava?.isSome := hs
  have t2 : (s.setVm (s.vm.calledUp f.method.cls ci index cN mk)).topJava?.isSome := hs
  have hL : ∀ {Q' : ClassId → Pre} {d' : Bool} {acts' : List Action}, wp (Jvm.resolveClassAt ci) Q' E e d' acts' (s.setTop f) ↔ Q' cN d' acts' ((s.setVm (s.vm.noted f.method.cls ci (.cls cN))).setTop f) :=
    W.resolveClassAt_links (t := s.setTop f) (State.method?_setTop f hs) g1
  have hM : ∀ {Q' : MethodId → Pre} {d' : Bool} {acts' : List Action}, wp (Jvm.resolveMethodAt index) Q' E e d' acts' ((s.setVm (s.vm.noted f.method.cls ci (.cls cN))).setTop f) ↔ Q' mk d' acts' ((s.setVm (s.vm.calledUp f.method.cls ci index cN mk)).setTop f) :=
    W.resolveMethodAt_links (t := (s.setVm (s.vm.noted f.method.cls ci (.cls cN))).setTop f) (State.method?_setTop f t1) g2
  simp [Op.invokestatic.sem, hp, Seam.memberRefOf, State.method?_setTop f hs, State.method?_setTop f t2, hb₀, hb₂, hL, W.resolveClassAt_ready (s := (s.setVm (s.vm.calledUp f.method.cls ci index cN mk)).setTop f) (State.method?_setTop f t2) hE.classReady,
    hc₁, hc₂, hn₁, hn₂, hM, W.resolveMethodAt_ready (s := (s.setVm (s.vm.calledUp f.method.cls ci index cN mk)).setTop f) (State.method?_setTop f t2) hE.ready, -Array.any_eq_true]
section ZS7
variable {p : Program} {l : Launch} {e : Env} {R : Room} {s : State} {m : MethodId} {args : Array Value} {below : List Frame} {meth : Method} {c : Code} {H : Heap} {locs : List Loc} {cells slots : Nat} {Q : State → Prop}
variable {cc : ByteArray} {pc : Nat} {ls : Array Slot}
set_option maxHeartbeats 4000000 in
theorem zi_staticUp {own xc : String} {M : zM} {index : Nat} {As rest : List Value} (hx : p.tables.exec = Jvm.exec) (hb : c.code = cc) (hown : s.vm.findClass own = some m.cls) (hlink : (Cond.methodLink own index ⟨xc, M.2.2.1.name, M.2.2.1.desc⟩).before args s = true)
    (hsame : (Cond.sameMethod xc M.2.2.1.cls M.2.2.1.name M.2.2.1.desc).before args s = true) (hstat : (Cond.static M.2.2.1).before args s = true)
    (hini : (Cond.initialized M.2.2.1.cls).before args s = true) (hcode : (zcw M).before args s = true) (hy : zmh M.2.2.1.cls = true) (hn : znp M.2.2.1.desc As.length = true) (hdg : decode cc pc = .ok (.invokestatic index, 3)) :
    zIv p l e R s m args below meth c H M.2.2.1 pc ls (As.reverse ++ rest) rest As.toArray := by
  intro T locs cells slots hT X
  obtain ⟨mk, methM, hnamed, hmethM, hsigM⟩ := zcw_spec hcode
  have hstatic : methM.isStatic = true := Cond.static_spec hnamed hmethM hstat
  obtain ⟨kP, hkP, hnx⟩ := className_of_methodNamed hnamed
  have hinitP : kP.init = .initialized := Cond.initialized_spec (findClass_of_methodNamed hnamed) hkP hini
  have hpl : e.platform.magicAccessors = ({} : Platform).magicAccessors := by rw [X.admits.platform]
  have hpv : e.platform.polymorphicOnlyByInvokevirtual = true := by rw [X.admits.platform]
  obtain ⟨cn, ck, r1, hcn, hck, hni, hf, hn1⟩ := Cond.sameMethod_found hsame
  have hn1' : s.methodNamed? M.2.2.1 = some r1 := hn1
  cases hnamed.symm.trans hn1'
  obtain ⟨ci, hl, hright⟩ := Cond.methodLink_specUp (x := ⟨xc, M.2.2.1.name, M.2.2.1.desc⟩) hown hcn hck hni hf hlink e.platform hpl (by rw [X.admits.platform])
  have hE : s.MethodEntryUp e T.vm m.cls index cn mk ci := State.methodEntryUp X.warmed hl hright
  obtain ⟨dk, cfile, nt, mname, mdesc, ck', _, _, hd, hcf, hcp, hnt, -, -, hck', -, hnopoly, -⟩ := hl.here
  cases hck.symm.trans hck'
  have alike := hE.warmed.alike
  obtain ⟨dk₂, hdk₂, hed₂⟩ := alike.2.2 _ _ hd
  obtain ⟨k₂, hk₂, he₂⟩ := alike.2.2 _ _ hkP
  obtain ⟨ck₂, hck₂, hec₂⟩ := alike.2.2 _ _ hck
  have hnone : (ck.methods.any fun y => y.name == mname && !y.isStatic && signaturePolymorphic ck y) = false := by simp [hnopoly]
  have hnone₂ : (ck₂.methods.any fun y => y.name == mname && !y.isStatic && signaturePolymorphic ck₂ y) = false := by rw [hec₂]; exact hnone
  have hcp' : cfile.constantPool[index]? = some (if false then .interfaceMethodref ci nt else .methodref ci nt) := hcp
  have hdg' : decode c.code pc = .ok (.invokestatic index, 3) := by rw [hb]; exact hdg
  refine ⟨T.vm.calledUp m.cls ci index cn mk, mk, X.noted hE.warmed, hnamed, fun target hrest => ?_⟩
  jvm_step X.here [hx, hdg', zw_coldUp (e := e) (s := T) (s₀ := s) (f := F0 m pc ls (As.reverse ++ rest)) X.here.top hpv X.warmed hE hd hcf hcp hnt hck hnone,
    Op.invokestatic.wp_ready (e := e) (s := T.setVm (T.vm.calledUp m.cls ci index cn mk)) (k := k₂) (meth := methM) (m := mk) (args := As) (rest := rest) (f := F0 m pc ls (As.reverse ++ rest))
      X.here.top ⟨ci, mname, mdesc, false, cn, ck₂, memberRef_ask_via (e := e) hdk₂ (by rw [hed₂]; exact hcf) hcp' hnt, hE.classReady, hck₂, hnone₂⟩ hE.ready hk₂
      (by show (T.vm.calledUp m.cls ci index cn mk).method? mk = some methM; rw [alike.method?]; exact hmethM)
      (by rw [he₂]; show signaturePolymorphic kP methM = false; simp [signaturePolymorphic, hnx, (zmh_ok hy).1, (zmh_ok hy).2]) hstatic (by rw [he₂]; exact hinitP) (znp_ok hn hsigM) rfl]
  exact fun acts => hrest _
end ZS7
