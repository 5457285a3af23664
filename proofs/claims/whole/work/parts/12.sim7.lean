/-! the contract of a method out of a run of the abstract machine, and the walk of a frame -/
def zPre (D : va_G) (cA : Nat → ClassId) (b base : Nat) (al : Bool) (g : zG) (h : zH) (U : State) : Prop := zSta D cA base U ∧ zDy D cA b base al g h U.heap ∧ base ≤ U.heap.size
def zRm (M : zM) (mc ms : Nat) : Room := { frames := M.2.1 + 8, cells := mc, slots := ms, locals := 40 * M.2.1 + 200 }
def zCt (D : va_G) (cA : Nat → ClassId) (b base : Nat) (al : Bool) (l : Launch) (M : zM) (as : List Value) (g : zG) (h : zH) (o : zO) : Prop :=
  vx_Met l M.2.2.1 (zws M) (zRm M ((zoc o).1 - g.2.1) ((zoc o).2 - g.2.2)) (va_Pc (as.map (zcv b base)) (zPre D cA b base al g h)) (zQc D cA b base al o) (zXC D cA b base al o) ((zoc o).1 - g.2.1) ((zoc o).2 - g.2.2) (fun q => base ≤ q)
/-- what holds of a frame of M all along -/
def zFr (D : va_G) (cA : Nat → ClassId) (b base : Nat) (sc : Option (Nat × (Nat → Int32))) (p : Program) (R : Room) (s : State) (m : MethodId) (args : Array Value) (meth : Method) (c : Code) (M : zM) : Prop :=
  zckD M = true ∧ p.tables.exec = Jvm.exec ∧ c.code = M.2.2.2.1 ∧ c.maxLocals = M.2.2.2.2.1 ∧ meth.sig.returnType = M.2.2.2.2.2.1 ∧ meth.locks = false ∧ meth.name = M.2.2.1.name ∧ s.vm.findClass (zon M.1) = some m.cls ∧ (∀ w ∈ zB, w.before args s = true) ∧
  c.exceptionTable.toList = tableOf M.2.2.2.2.2.2.2 ∧ zSta D cA base s ∧ base ≤ s.heap.size ∧ (∀ n f, sc = some (n, f) → va_X b n f s s.heap ∧ b < s.heap.size ∧ b < base) ∧ M.2.1 + 8 ≤ R.frames ∧ 40 * M.2.1 + 200 ≤ R.locals
theorem zpop_ok {n : Nat} : ∀ {st acc as t : List Value}, zpop n st acc = some (as, t) → ∃ bs : List Value, bs.length = n ∧ as = bs ++ acc ∧ st = bs.reverse ++ t := by
  induction n with
  | zero => intro st acc as t hz; cases hz; exact ⟨[], rfl, rfl, rfl⟩
  | succ n ih =>
    intro st acc as t hz
    cases st with
    | nil => cases hz
    | cons v st =>
      obtain ⟨bs, h1, h2, h3⟩ := ih hz
      exact ⟨bs ++ [v], by simp [h1], by rw [h2]; simp, by rw [h3]; simp⟩
theorem zpop_ok0 {n : Nat} {st as t : List Value} (hz : zpop n st [] = some (as, t)) : as.length = n ∧ st = as.reverse ++ t := by
  obtain ⟨bs, h1, h2, h3⟩ := zpop_ok hz
  rw [List.append_nil] at h2
  subst h2
  exact ⟨h1, h3⟩
theorem zslt_len (b base : Nat) (as : List Value) : (lg_sl (as.map (zcv b base))).length = (zslt as).length := by
  induction as with
  | nil => rfl
  | cons v t ih =>
    have e1 : lg_sl ((v :: t).map (zcv b base)) = (if (zcv b base v).category = 2 then [Slot.val (zcv b base v), .second] else [Slot.val (zcv b base v)]) ++ lg_sl (t.map (zcv b base)) := by simp [lg_sl]
    rw [e1, zcv_cat, List.length_append, ih]
    simp only [zslt]
    by_cases hc : v.category = 2
    · rw [if_pos hc, hc]; simp; omega
    · rw [if_neg hc]
      have : Nat.beq v.category 2 = false := by
        cases h9 : Nat.beq v.category 2 with
        | false => rfl
        | true => exact absurd (Nat.eq_of_beq_eq_true h9) hc
      rw [this]; simp; omega
theorem zslt_args {b base : Nat} : ∀ {as : List Value} {i j : Nat} {v : Value}, (zslt as)[i]? = some (some v) → (j + i, zcv b base v) ∈ lv_args j (as.map (zcv b base)) := by
  intro as
  induction as with
  | nil => intro i j v h; simp [zslt] at h
  | cons w t ih =>
    intro i j v h
    simp only [zslt] at h
    simp only [List.map_cons, lv_args, zcv_cat]
    by_cases hc : w.category = 2
    · rw [hc] at h
      rw [if_pos hc]
      simp only [Nat.beq, cond_true] at h
      match i, h with
      | 0, h => cases h; exact List.mem_cons_self
      | 1, h => simp at h
      | i + 2, h =>
        have h9 := ih (j := j + 2) (by simpa using h)
        rw [show j + 2 + i = j + (i + 2) by omega] at h9
        exact List.mem_cons_of_mem _ h9
    · rw [if_neg hc]
      have hb : Nat.beq w.category 2 = false := by
        cases h9 : Nat.beq w.category 2 with
        | false => rfl
        | true => exact absurd (Nat.eq_of_beq_eq_true h9) hc
      rw [hb] at h
      simp only [cond_false] at h
      match i, h with
      | 0, h => cases h; exact List.mem_cons_self
      | i + 1, h =>
        have h9 := ih (j := j + 1) (by simpa using h)
        rw [show j + 1 + i = j + (i + 1) by omega] at h9
        exact List.mem_cons_of_mem _ h9
theorem zent_ok {b base n : Nat} {as : List Value} {ls : Array Slot} (hn : (zslt as).length ≤ n) (hl : lv_has ls n (lv_args 0 (as.map (zcv b base)))) : zlv b base ls n (zent as n) := by
  refine ⟨hl.1, by simp [zent]; omega, hl.2.1, fun i v h => ?_⟩
  unfold zent at h
  have h1 : (zslt as)[i]? = some (some v) := by
    by_cases hi : i < (zslt as).length
    · rwa [List.getElem?_append_left hi] at h
    · rw [List.getElem?_append_right (by omega)] at h
      have h2 := List.mem_of_getElem? h
      have h3 := (List.mem_replicate.mp h2).2
      cases h3
  have h2 := hl.2.2 _ (zslt_args (b := b) (base := base) (j := 0) h1)
  rw [Nat.zero_add] at h2
  exact h2
theorem zsum_cv (b base : Nat) (t : List Value) : (((t.map (zcv b base)).map fun v => v.category).sum) = ((t.map fun v => v.category).sum) := by
  rw [List.map_map]; congr 1; apply List.map_congr_left; intro v _; exact zcv_cat b base v
/-- the handler that zhan finds -/
theorem zhan_ok {M : zM} {pc ex : Nat} (hdec : zckD M = true) : ∀ {Hs : List (Nat × Nat × Nat × Nat)} {k : Nat × Nat}, zhan M pc ex Hs = some k → ∃ (pre : List ExceptionTableEntry) (x : ExceptionTableEntry) (suf : List ExceptionTableEntry), tableOf Hs = pre ++ x :: suf ∧
    (∀ z ∈ pre, covers z pc = false ∨ (z.catchType ≠ 0 ∧ ∃ e' : Nat, e' ≤ 3 ∧ e' ≠ ex ∧ Cond.classLink (zon M.1) z.catchType (zexn e') ∈ zB)) ∧ covers x pc = true ∧ x.catchType ≠ 0 ∧ Cond.classLink (zon M.1) x.catchType (zexn ex) ∈ zB ∧ Cond.castable (zexn ex) (zexn ex) ∈ zNws ∧
    ((∃ n : Fin 4, (n : Nat) = k.2 ∧ decode M.2.2.2.1 x.handlerPc = .ok (.astore_n n, 1) ∧ k.1 = x.handlerPc + 1) ∨ (decode M.2.2.2.1 x.handlerPc = .ok (.astore k.2, 2) ∧ k.1 = x.handlerPc + 2)) := by
  intro Hs
  induction Hs with
  | nil => intro k h; simp [zhan] at h
  | cons q t ih =>
    intro k h
    obtain ⟨q1, q2, q3, q4⟩ := q
    have htab : tableOf ((q1, q2, q3, q4) :: t) = ⟨q1, q2, q3, q4⟩ :: tableOf t := rfl
    simp only [zhan] at h
    cases hc : (Nat.ble q1 pc && Nat.blt pc q2) with
    | false =>
      rw [hc, cond_false] at h
      obtain ⟨pre, x, suf, h1, h2, h3⟩ := ih h
      refine ⟨⟨q1, q2, q3, q4⟩ :: pre, x, suf, by rw [htab, h1]; rfl, fun z hz => ?_, h3⟩
      rcases List.mem_cons.mp hz with rfl | hz
      · left
        show (decide (q1 ≤ pc) && decide (pc < q2)) = false
        rw [← hc]
        congr 1
        · exact Bool.eq_iff_iff.mpr ⟨fun h9 => Nat.ble_eq.mpr (of_decide_eq_true h9), fun h9 => decide_eq_true (zble h9)⟩
        · exact Bool.eq_iff_iff.mpr ⟨fun h9 => Nat.ble_eq.mpr (of_decide_eq_true h9), fun h9 => decide_eq_true (zblt h9)⟩
      · exact h2 z hz
    | true =>
      rw [hc, cond_true] at h
      rw [Bool.and_eq_true] at hc
      split at h
      · rename_i e' he'
        have hX := zq1_ok zXH_ok he'
        unfold zckXH at hX
        dsimp only at hX
        simp only [Bool.and_eq_true, decide_eq_true_eq] at hX
        obtain ⟨⟨⟨x1, x2⟩, x3⟩, x4⟩ := hX
        cases hee : Nat.beq ex e'.1 with
        | true =>
          rw [hee, cond_true] at h
          have he9 := Nat.eq_of_beq_eq_true hee
          refine ⟨[], ⟨q1, q2, q3, q4⟩, tableOf t, htab, fun z hz => (nomatch hz), ?_, x2, by rw [he9]; exact zB_of x1 rfl, by rw [he9]; exact List.mem_filter.mpr ⟨x3, rfl⟩, ?_⟩
          · show (decide (q1 ≤ pc) && decide (pc < q2)) = true
            rw [decide_eq_true (zble hc.1), decide_eq_true (zblt hc.2)]; rfl
          · split at h
            · rename_i n hn
              cases h
              exact Or.inl ⟨n, rfl, zlk_dec hdec hn, rfl⟩
            · rename_i n hn
              cases h
              exact Or.inr ⟨zlk_dec hdec hn, rfl⟩
            · cases h
        | false =>
          rw [hee, cond_false] at h
          obtain ⟨pre, x, suf, h1, h2, h3⟩ := ih h
          refine ⟨⟨q1, q2, q3, q4⟩ :: pre, x, suf, by rw [htab, h1]; rfl, fun z hz => ?_, h3⟩
          rcases List.mem_cons.mp hz with rfl | hz
          · right
            refine ⟨x2, e'.1, zble x4, fun h9 => ?_, zB_of x1 rfl⟩
            rw [h9, Nat.beq_refl] at hee
            cases hee
          · exact h2 z hz
      · cases h
