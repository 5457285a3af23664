/-! THE WEAKEST PRECONDITION over the abstract machine once all cells are made (86 of them) -/
abbrev zR : Type := Option Value ⊕ Nat
def zot (p : Nat × Nat) (r : zR) (h : zH) : zO := match r with
  | .inl v => .inl (v, (86, p), h)
  | .inr e => .inr (e, (86, p), h)
def zW (M : zM) (pc : Nat) (L : zL) (st : List Value) (p : Nat × Nat) (h : zH) (Q : zR → zH → Prop) : Prop :=
  ∃ (f : Nat) (r : zR) (h' : zH), zrun f none false M pc L st (86, p) h = some (zot p r h') ∧ Q r h'
def zT (M : zM) (as : List Value) (p : Nat × Nat) (h : zH) (Q : zR → zH → Prop) : Prop := zW M 0 (zent as M.2.2.2.2.1) [] p h Q
/-- what comes behind a call -/
def zK (M : zM) (pc : Nat) (L : zL) (st : List Value) (p : Nat × Nat) (Q : zR → zH → Prop) : zR → zH → Prop := fun r h' => match r with
  | .inl v => zW M pc L (v.toList ++ st) p h' Q
  | .inr e => Q (.inr e) h'
def zbi (b : Bool) : Int32 := bif b then 1 else 0
section ZW
variable {M M' : zM} {pc pc' pf : Nat} {L L' : zL} {st st' t : List Value} {p : Nat × Nat} {h h' h2 : zH} {Q Q' : zR → zH → Prop}
theorem zW_mono (w : zW M pc L st p h Q) (hq : ∀ r h', Q r h' → Q' r h') : zW M pc L st p h Q' := by
  obtain ⟨f, r, h', e, q⟩ := w
  exact ⟨f, r, h', e, hq r h' q⟩
theorem zT_mono {as : List Value} (w : zT M as p h Q) (hq : ∀ r h', Q r h' → Q' r h') : zT M as p h Q' := zW_mono w hq
theorem zW_go (k : Nat) (e : ∀ f, zrun (f + k) none false M pc L st (86, p) h = zrun f none false M pc' L' st' (86, p) h') (w : zW M pc' L' st' p h' Q) : zW M pc L st p h Q := by
  obtain ⟨f, r, h', e', q⟩ := w
  exact ⟨f + k, r, h', (e f).trans e', q⟩
theorem zW_eq (e : h = h2) (w : zW M pc L st p h2 Q) : zW M pc L st p h Q := by subst e; exact w
theorem zW_br (k : Nat) {b : Bool} (e : ∀ f, zrun (f + k) none false M pc L st (86, p) h = match b with
    | true => zrun f none false M pc' L' st' (86, p) h'
    | false => zrun f none false M pf L' st' (86, p) h') (wt : b = true → zW M pc' L' st' p h' Q) (wf : b = false → zW M pf L' st' p h' Q) : zW M pc L st p h Q := by
  cases hb : b with
  | true =>
    obtain ⟨f, r, h', e', q⟩ := wt hb
    exact ⟨f + k, r, h', by rw [e f, hb]; exact e', q⟩
  | false =>
    obtain ⟨f, r, h', e', q⟩ := wf hb
    exact ⟨f + k, r, h', by rw [e f, hb]; exact e', q⟩
theorem zW_ret (k : Nat) {v : Option Value} (e : ∀ f, zrun (f + k) none false M pc L st (86, p) h = some (.inl (v, (86, p), h'))) (q : Q (.inl v) h') : zW M pc L st p h Q := ⟨0 + k, .inl v, h', e 0, q⟩
theorem zW_thr (k : Nat) {x : Nat} (e : ∀ f, zrun (f + k) none false M pc L st (86, p) h = some (.inr (x, (86, p), h'))) (q : Q (.inr x) h') : zW M pc L st p h Q := ⟨0 + k, .inr x, h', e 0, q⟩
theorem zrun_s {f : Nat} {i : Instr} {g g' : zG} (hi : zlk M.2.2.2.2.2.2.1 pc = some i) (hs : zstep none false M pc i L st g h = some (.inl (pc', L', st', g', h'))) : zrun (f + 1) none false M pc L st g h = zrun f none false M pc' L' st' g' h' := by
  simp only [zrun, hi, hs]
theorem zW_s {i : Instr} (hi : zlk M.2.2.2.2.2.2.1 pc = some i) (hs : zstep none false M pc i L st (86, p) h = some (.inl (pc', L', st', (86, p), h'))) (w : zW M pc' L' st' p h' Q) : zW M pc L st p h Q :=
  zW_go 1 (fun _ => zrun_s hi hs) w
theorem zN_lt {j n : Nat} (hj : j < n) (hn : n ≤ 2147483648) : (Int32.ofNat j).toInt = (j : Int) := by
  rw [Int32.toInt_ofNat', show Int32.size = 4294967296 from rfl]
  simp only [Int.bmod_def]
  omega
theorem zN_cl {j n : Nat} (hj : j < n) (hn : n ≤ 2147483648) : (Int32.ofNat j).toNatClampNeg = j := by
  unfold Int32.toNatClampNeg
  rw [zN_lt hj hn]
  exact Int.toNat_natCast j
theorem zN_ib {j n : Nat} (hj : j < n) (hn : n ≤ 2147483648) : zib (Int32.ofNat j) n = true := by
  unfold zib
  rw [zN_cl hj hn]
  have h1 : ¬ Int32.ofNat j < 0 := by
    rw [Int32.lt_iff_toInt_lt, zN_lt hj hn, Int32.toInt_zero]
    omega
  have h2 : Nat.ble n j = false := by
    cases hb : Nat.ble n j with
    | false => rfl
    | true => have := Nat.le_of_ble_eq_true hb; omega
  simp [h1, h2]
theorem zN_a {x y : Int32} {a b : Nat} (ha : x = Int32.ofNat a) (hb : y = Int32.ofNat b) : x + y = Int32.ofNat (a + b) := by subst ha hb; exact (Int32.ofNat_add a b).symm
theorem zN_m {x y : Int32} {a b : Nat} (ha : x = Int32.ofNat a) (hb : y = Int32.ofNat b) : x * y = Int32.ofNat (a * b) := by subst ha hb; exact (Int32.ofNat_mul a b).symm
theorem zN_sb {x y : Int32} {a b : Nat} (ha : x = Int32.ofNat a) (hb : y = Int32.ofNat b) (h : b ≤ a) : x - y = Int32.ofNat (a - b) := by
  subst ha hb
  have e := Int32.ofNat_add (a - b) b
  rw [Nat.sub_add_cancel h] at e
  rw [e, Int32.add_sub_cancel]
theorem zbltT {a n : Nat} (h : a < n) : Nat.blt a n = true := by
  rw [Nat.blt_eq]; exact h
theorem zW_iald {a : Nat} {k : Int32} {n j : Nat} {F : Nat → Int32} (hi : zlk M.2.2.2.2.2.2.1 pc = some .iaload) (ha : a < 86) (hc : h a = .inl (0, n, .inl F)) (hn : n ≤ 2147483648) (hk : k = Int32.ofNat j) (hj : j < n)
    (w : zW M (pc + 1) L (.int (F j) :: t) p h Q) : zW M pc L (.int k :: .ref a :: t) p h Q := by
  subst hk
  refine zW_s hi ?_ w
  have e : zrd none M.1 .iaload (.int (Int32.ofNat j) :: .ref a :: t) (86, p) h = some (1, .int (F j) :: t) := by
    simp only [zrd, zbltT ha, hc, zN_ib hj hn, zN_cl hj hn, cond_true]
  simp only [zstep, zstk, zlcl, zbr, e]
theorem zW_lald {a : Nat} {k : Int32} {n j : Nat} {F : Nat → Int64} (hi : zlk M.2.2.2.2.2.2.1 pc = some .laload) (ha : a < 86) (hc : h a = .inl (1, n, .inr (.inl F))) (hn : n ≤ 2147483648) (hk : k = Int32.ofNat j) (hj : j < n)
    (w : zW M (pc + 1) L (.long (F j) :: t) p h Q) : zW M pc L (.int k :: .ref a :: t) p h Q := by
  subst hk
  refine zW_s hi ?_ w
  have e : zrd none M.1 .laload (.int (Int32.ofNat j) :: .ref a :: t) (86, p) h = some (1, .long (F j) :: t) := by
    simp only [zrd, zbltT ha, hc, zN_ib hj hn, zN_cl hj hn, cond_true]
  simp only [zstep, zstk, zlcl, zbr, e]
theorem zW_iast {a : Nat} {k x : Int32} {n j : Nat} {F : Nat → Int32} (hi : zlk M.2.2.2.2.2.2.1 pc = some .iastore) (ha : a < 86) (hc : h a = .inl (0, n, .inl F)) (hn : n ≤ 2147483648) (hu : va_up h a (.inl (0, n, .inl (va_up F j x))) = h2) (hk : k = Int32.ofNat j) (hj : j < n)
    (w : zW M (pc + 1) L t p h2 Q) : zW M pc L (.int x :: .int k :: .ref a :: t) p h Q := by
  subst hk hu
  refine zW_s hi ?_ w
  have e : zwr false M .iastore (.int x :: .int (Int32.ofNat j) :: .ref a :: t) (86, p) h = some (1, t, va_up h a (.inl (0, n, .inl (va_up F j x)))) := by
    simp only [zwr, zbltT ha, hc, zN_ib hj hn, zN_cl hj hn, cond_true]
    rfl
  simp only [zstep, zstk, zlcl, zbr, zrd, e]
theorem zW_last {a : Nat} {k : Int32} {x : Int64} {n j : Nat} {F : Nat → Int64} (hi : zlk M.2.2.2.2.2.2.1 pc = some .lastore) (ha : a < 86) (hc : h a = .inl (1, n, .inr (.inl F))) (hn : n ≤ 2147483648) (hu : va_up h a (.inl (1, n, .inr (.inl (va_up F j x)))) = h2) (hk : k = Int32.ofNat j) (hj : j < n)
    (w : zW M (pc + 1) L t p h2 Q) : zW M pc L (.long x :: .int k :: .ref a :: t) p h Q := by
  subst hk hu
  refine zW_s hi ?_ w
  have e : zwr false M .lastore (.long x :: .int (Int32.ofNat j) :: .ref a :: t) (86, p) h = some (1, t, va_up h a (.inl (1, n, .inr (.inl (va_up F j x))))) := by
    simp only [zwr, zbltT ha, hc, zN_ib hj hn, zN_cl hj hn, cond_true]
    rfl
  simp only [zstep, zstk, zlcl, zbr, zrd, e]
theorem zW_aald {a ty n j r : Nat} {k : Int32} {F : Nat → Option Nat} (hi : zlk M.2.2.2.2.2.2.1 pc = some .aaload) (ha : a < 86) (hc : h a = .inl (ty, n, .inr (.inr (.inr (.inr F))))) (hty : (Nat.beq ty 2 || Nat.beq ty 3) = true) (hn : n ≤ 2147483648) (hk : k = Int32.ofNat j) (hj : j < n) (hr : F j = some r)
    (w : zW M (pc + 1) L (.ref r :: t) p h Q) : zW M pc L (.int k :: .ref a :: t) p h Q := by
  subst hk
  refine zW_s hi ?_ w
  have e : zrd none M.1 .aaload (.int (Int32.ofNat j) :: .ref a :: t) (86, p) h = some (1, .ref r :: t) := by
    simp only [zrd, zbltT ha, hc, zN_ib hj hn, zN_cl hj hn, hty, hr, cond_true, Bool.and_true]
  simp only [zstep, zstk, zlcl, zbr, e]
theorem zW_idiv {x y : Int32} (hi : zlk M.2.2.2.2.2.2.1 pc = some .idiv) (hy : y ≠ 0) (w : zW M (pc + 1) L (.int (x / y) :: t) p h Q) : zW M pc L (.int y :: .int x :: t) p h Q := by
  refine zW_s hi ?_ w
  simp only [zstep, zstk, decide_eq_false hy, cond_false]
theorem zW_irem {x y : Int32} (hi : zlk M.2.2.2.2.2.2.1 pc = some .irem) (hy : y ≠ 0) (w : zW M (pc + 1) L (.int (x - x / y * y) :: t) p h Q) : zW M pc L (.int y :: .int x :: t) p h Q := by
  refine zW_s hi ?_ w
  simp only [zstep, zstk, decide_eq_false hy, cond_false]
theorem zW_ldiv {x y : Int64} (hi : zlk M.2.2.2.2.2.2.1 pc = some .ldiv) (hy : y ≠ 0) (w : zW M (pc + 1) L (.long (x / y) :: t) p h Q) : zW M pc L (.long y :: .long x :: t) p h Q := by
  refine zW_s hi ?_ w
  simp only [zstep, zstk, decide_eq_false hy, cond_false]
theorem zW_lrem {x y : Int64} (hi : zlk M.2.2.2.2.2.2.1 pc = some .lrem) (hy : y ≠ 0) (w : zW M (pc + 1) L (.long (x - x / y * y) :: t) p h Q) : zW M pc L (.long y :: .long x :: t) p h Q := by
  refine zW_s hi ?_ w
  simp only [zstep, zstk, decide_eq_false hy, cond_false]
/-- a field of an object whose place isn't a written number -/
theorem zW_gf {a idx ci k : Nat} {fs : List Value} {v : Value} {s1 : Nat × Bool} (hi : zlk M.2.2.2.2.2.2.1 pc = some (.getfield idx)) (ha : a < 86) (hc : h a = .inr (ci, fs)) (hq : zq2 zFL M.1 idx ci = some (k, s1)) (hv : fs[k]? = some v)
    (w : zW M (pc + 3) L (v :: t) p h Q) : zW M pc L (.ref a :: t) p h Q := by
  refine zW_s hi ?_ w
  have e : zrd none M.1 (.getfield idx) (.ref a :: t) (86, p) h = some (3, v :: t) := by
    simp only [zrd, zbltT ha, hc, hq, hv, cond_true]
  simp only [zstep, zstk, zlcl, zbr, e]
/-- writing a field there -/
theorem zW_pf {a idx ci k : Nat} {fs : List Value} {v : Value} (hi : zlk M.2.2.2.2.2.2.1 pc = some (.putfield idx)) (ha : a < 86) (hc : h a = .inr (ci, fs)) (hq : zwr false M (.putfield idx) (v :: .ref 0 :: t) (86, p) (va_up h 0 (.inr (ci, fs))) = some (3, t, va_up (va_up h 0 (.inr (ci, fs))) 0 (.inr (ci, fs.set k v))))
    (hk : (zq2 zFL M.1 idx ci).map (fun q => q.1) = some k) (hu : va_up h a (.inr (ci, fs.set k v)) = h2) (w : zW M (pc + 3) L t p h2 Q) : zW M pc L (v :: .ref a :: t) p h Q := by
  subst hu
  refine zW_s hi ?_ w
  have e : zwr false M (.putfield idx) (v :: .ref a :: t) (86, p) h = some (3, t, va_up h a (.inr (ci, fs.set k v))) := by
    obtain ⟨q, hq1, hq2⟩ := Option.map_eq_some_iff.mp hk
    subst hq2
    cases hT : zcl[ci]? with
    | none => simp [zwr, va_up_self, hq1, hT, zbltT (show 0 < 86 by decide)] at hq
    | some T3 =>
      obtain ⟨R, T, N⟩ := T3
      simp only [zwr, va_up_self, hq1, hT, zbltT (show 0 < 86 by decide), cond_true] at hq
      simp only [zwr, zbltT ha, hc, hq1, hT, cond_true]
      cases hb : (zpt (zty ci q.1) v && Nat.blt q.1 fs.length && ((!(T q.1).2.2.2 && !(q.2.2 && false)) || ((T q.1).2.2.2 && decide (M.2.2.1.name = "<init>") && decide ((T q.1).1 = zon M.1) && !q.2.2))) with
      | true => rfl
      | false => rw [hb] at hq; cases hq
  simp only [zstep, zstk, zlcl, zbr, zrd, e]
theorem zW_cl {i : Instr} {mi : Nat} {as : List Value} (hi : zlk M.2.2.2.2.2.2.1 pc = some i) (hs : zstep none false M pc i L st (86, p) h = some (.inr (.inr (.inr (mi, as, t))))) (hM : zpr mi = some M')
    (hb : (Nat.blt M'.2.1 M.2.1 && Nat.ble ((t.map fun v => v.category).sum) 8 && Nat.ble (zslt as).length M'.2.2.2.2.1) = true) (hh : M.2.2.2.2.2.2.2 = []) (w : zT M' as p h (zK M (pc + 3) L t p Q)) : zW M pc L st p h Q := by
  obtain ⟨f, r, h1, e, q⟩ := w
  cases r with
  | inl v =>
    obtain ⟨f2, r2, h3, e2, q2⟩ := q
    refine ⟨(f + f2) + 1, r2, h3, ?_, q2⟩
    have e3 : zrun (f + f2) none false M (pc + 3) L (v.toList ++ t) (86, p) h1 = some (zot p r2 h3) := by rw [Nat.add_comm]; exact zrun_add f e2
    simp only [zrun, hi, hs, hM, hb, cond_true, zrun_add f2 e, zot]
    exact e3
  | inr x =>
    refine ⟨f + 1, .inr x, h1, ?_, q⟩
    simp only [zrun, hi, hs, hM, hb, cond_true, e, zot, hh]
/-- a call of a method of an object whose place isn't a written number -/
theorem zW_cv {a idx ci n mi : Nat} {fs as : List Value} {s1 : Nat × String × Nat × Nat × Nat × Nat} (hi : zlk M.2.2.2.2.2.2.1 pc = some (.invokevirtual idx)) (hn : zq1 zVN M.1 idx = some n) (hp : zpop n st [] = some (as, .ref a :: t)) (ha : a < 86) (hc : h a = .inr (ci, fs))
    (hq : zq2 zVV M.1 idx ci = some (mi, n, s1)) (hM : zpr mi = some M') (hb : (Nat.blt M'.2.1 M.2.1 && Nat.ble ((t.map fun v => v.category).sum) 8 && Nat.ble (zslt (.ref a :: as)).length M'.2.2.2.2.1) = true) (hh : M.2.2.2.2.2.2.2 = [])
    (w : zT M' (.ref a :: as) p h (zK M (pc + 3) L t p Q)) : zW M pc L st p h Q := by
  refine zW_cl hi ?_ hM hb hh w
  have e : zcal M.1 (.invokevirtual idx) st (86, p) h = some (mi, .ref a :: as, t) := by
    simp only [zcal, hn, hp, zbltT ha, hc, hq, cond_true, show Nat.beq n n = true from Nat.beq_refl n]
  simp only [zstep, zstk, zlcl, zbr, zrd, zwr, zret, e]
theorem zW_acI {a b idx n0 n1 sp dp n : Nat} {s1 : Nat} {F F1 : Nat → Int32} (hi : zlk M.2.2.2.2.2.2.1 pc = some (.invokestatic idx)) (hq : zq1 zAC M.1 idx = some s1) (ha : a < 86) (hb : b < 86) (hcb : h b = .inl (0, n0, .inl F)) (hca : h a = .inl (0, n1, .inl F1))
    (hs : sp + n ≤ n0) (hd : dp + n ≤ n1) (h0 : n0 < 2147483648) (h1 : n1 < 2147483648) (ht : Nat.ble ((t.map fun v => v.category).sum) 8 = true) (hu : va_up h a (.inl (0, n1, .inl (va_cpy F F1 sp dp n))) = h2) (w : zW M (pc + 3) L t p h2 Q) :
    zW M pc L (.int (Int32.ofNat n) :: .int (Int32.ofNat dp) :: .ref a :: .int (Int32.ofNat sp) :: .ref b :: t) p h Q := by
  subst hu
  refine zW_s hi ?_ w
  have g : ∀ j : Nat, j < 2147483648 → (decide (Int32.ofNat j < 0)) = false := by
    intro j hj
    rw [decide_eq_false_iff_not, Int32.lt_iff_toInt_lt, zN_lt hj (Nat.le_refl _), Int32.toInt_zero]
    omega
  have g2 : ∀ {x y : Nat}, x ≤ y → Nat.ble x y = true := fun h => Nat.ble_eq_true_of_le h
  have e : zwr false M (.invokestatic idx) (.int (Int32.ofNat n) :: .int (Int32.ofNat dp) :: .ref a :: .int (Int32.ofNat sp) :: .ref b :: t) (86, p) h = some (3, t, va_up h a (.inl (0, n1, .inl (va_cpy F F1 sp dp n)))) := by
    simp only [zwr, hq, zbltT ha, zbltT hb, hcb, hca, g n (by omega), g sp (by omega), g dp (by omega), ht, Bool.not_false, Bool.and_true, Bool.true_and, cond_true, zN_cl (show n < 2147483648 by omega) (Nat.le_refl _), zN_cl (show sp < 2147483648 by omega) (Nat.le_refl _), zN_cl (show dp < 2147483648 by omega) (Nat.le_refl _), g2 hs, g2 hd]
  simp only [zstep, zstk, zlcl, zbr, zrd, e]
theorem zW_acL {a b idx n0 n1 sp dp n : Nat} {s1 : Nat} {F F1 : Nat → Int64} (hi : zlk M.2.2.2.2.2.2.1 pc = some (.invokestatic idx)) (hq : zq1 zAC M.1 idx = some s1) (ha : a < 86) (hb : b < 86) (hcb : h b = .inl (1, n0, .inr (.inl F))) (hca : h a = .inl (1, n1, .inr (.inl F1)))
    (hs : sp + n ≤ n0) (hd : dp + n ≤ n1) (h0 : n0 < 2147483648) (h1 : n1 < 2147483648) (ht : Nat.ble ((t.map fun v => v.category).sum) 8 = true) (hu : va_up h a (.inl (1, n1, .inr (.inl (va_cpy F F1 sp dp n)))) = h2) (w : zW M (pc + 3) L t p h2 Q) :
    zW M pc L (.int (Int32.ofNat n) :: .int (Int32.ofNat dp) :: .ref a :: .int (Int32.ofNat sp) :: .ref b :: t) p h Q := by
  subst hu
  refine zW_s hi ?_ w
  have g : ∀ j : Nat, j < 2147483648 → (decide (Int32.ofNat j < 0)) = false := by
    intro j hj
    rw [decide_eq_false_iff_not, Int32.lt_iff_toInt_lt, zN_lt hj (Nat.le_refl _), Int32.toInt_zero]
    omega
  have g2 : ∀ {x y : Nat}, x ≤ y → Nat.ble x y = true := fun h => Nat.ble_eq_true_of_le h
  have e : zwr false M (.invokestatic idx) (.int (Int32.ofNat n) :: .int (Int32.ofNat dp) :: .ref a :: .int (Int32.ofNat sp) :: .ref b :: t) (86, p) h = some (3, t, va_up h a (.inl (1, n1, .inr (.inl (va_cpy F F1 sp dp n))))) := by
    simp only [zwr, hq, zbltT ha, zbltT hb, hcb, hca, g n (by omega), g sp (by omega), g dp (by omega), ht, Bool.not_false, Bool.and_true, Bool.true_and, cond_true, zN_cl (show n < 2147483648 by omega) (Nat.le_refl _), zN_cl (show sp < 2147483648 by omega) (Nat.le_refl _), zN_cl (show dp < 2147483648 by omega) (Nat.le_refl _), g2 hs, g2 hd]
  simp only [zstep, zstk, zlcl, zbr, zrd, e]
end ZW
