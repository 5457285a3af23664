section ZS2
variable {p : Program} {l : Launch} {e : Env} {R : Room} {s : State} {m : MethodId} {args : Array Value} {below : List Frame} {meth : Method} {c : Code} {H : Heap} {locs : List Loc} {cells slots : Nat} {Q : State → Prop}
variable {cc : ByteArray} {pc : Nat} {ls : Array Slot} {b base : Nat} {D : va_G} {cA : Nat → ClassId} {o : Nat} {g : zG} {h : zH}
theorem zqo {a : Nat} {ci : Nat} {fs : List Value} (ha : Nat.blt a g.1 = true) (hc : h a = .inr (ci, fs)) : (zw b base cA g.1 h)[a]? = some (base + a, .inr (ci, fs.map (zcv b base))) := by
  rw [zw_get (zblt ha), hc]; rfl
theorem zqa {a : Nat} {q : Nat × vp_A} (ha : Nat.blt a g.1 = true) (hc : h a = .inl q) : (zw b base cA g.1 h)[a]? = some (base + a, .inl (cA q.1, zca base q.2)) := by
  rw [zw_get (zblt ha), hc]; rfl
/-- the word of a field -/
theorem zFLw {idx ci : Nat} {q : Nat × Nat × Bool} (hq : zq2 zFL o idx ci = some q) : ∃ (C : String) (T : u_T) (N : Nat), zcl[ci]? = some (C, T, N) ∧ q.1 < N ∧ (q.2.2 = false → Cond.fieldLink (zon o) idx (T q.1).1 (T q.1).2.1 (T q.1).2.2.1 ∈ zB) ∧ (q.2.2 = true → Cond.fieldLinkNest (zon o) idx (T q.1).1 (T q.1).2.1 (T q.1).2.2.1 "RingMatrices" ∈ zNws) := by
  have h1 := zq2_ok zFL_ok hq
  obtain ⟨k, pl, nest⟩ := q
  unfold zckF at h1
  dsimp only at h1
  split at h1
  · rename_i C T N hc
    rw [Bool.and_eq_true] at h1
    refine ⟨C, T, N, hc, zblt h1.1, fun hn => ?_, fun hn => ?_⟩
    · have hn' : nest = false := hn
      subst hn'
      exact zB_of h1.2 rfl
    · have hn' : nest = true := hn
      subst hn'
      exact zN_of h1.2 rfl
  · cases h1
theorem zcl_in {ci : Nat} {C : String} {T : u_T} {N : Nat} (hc : zcl[ci]? = some (C, T, N)) : ∀ w ∈ u_ws C T N, w ∈ zB := zcl_ws (C, T, N) (List.mem_of_getElem? hc)
set_option maxHeartbeats 4000000 in
theorem zs_rd {sc : Option (Nat × (Nat → Int32))} {i : Instr} {st : List Value} {q : Nat × List Value} (hz : zrd sc o i st g h = some q) (hx : p.tables.exec = Jvm.exec) (hb : c.code = cc) (hd : decode cc pc = .ok (i, zlen i))
    (hown : s.vm.findClass (zon o) = some m.cls) (hB : ∀ w ∈ zB, w.before args s = true) (hN : ∀ w ∈ zNws, va_Nw w s) (hK : va_K D zcl (ztys cA) s) (hP : va_P D zcl (zw b base cA g.1 h) H)
    (hS : va_S (fun q => base ≤ q) s.heap H locs) (hsc : ∀ n f, sc = some (n, f) → va_X b n f s s.heap ∧ b < s.heap.size ∧ b < base) (hsz : ls.size = c.maxLocals) (hR1 : 1 ≤ R.frames) (hR2 : 20 ≤ R.locals)
    (k : W p l e R s m args below meth c H locs cells slots Q (F0 m (pc + q.1) ls (q.2.map (zcv b base)))) : W p l e R s m args below meth c H locs cells slots Q (F0 m pc ls (st.map (zcv b base))) := by
  unfold zrd at hz
  split at hz
  · split at hz
    · rename_i idx a t
      obtain ⟨ha, hz⟩ := zbifO hz
      split at hz
      · rename_i ci fs hc
        split at hz
        · rename_i r hr
          split at hz
          · rename_i v hv
            cases hz
            obtain ⟨C, T, N, h1, h2, h3, h4⟩ := zFLw hr
            have hv' : (fs.map (zcv b base))[r.1]? = some (zcv b base v) := by rw [List.getElem?_map, hv]; rfl
            cases hn : r.2.2 with
            | false => exact va_get hx hb hB (zcl_in h1) hown hK hP a (zqo ha hc) h1 r.1 h2 (hB _ (h3 hn)) (fun _ h9 => h9) hv' hd k
            | true => exact va_getN hx hb hB (zcl_in h1) hown hK hP a (zqo ha hc) h1 r.1 h2 (va_Nw.use rfl (hN _ (h4 hn))) (fun _ h9 => h9) hv' hd k
          · cases hz
        · cases hz
      · cases hz
    · cases hz
  · split at hz
    · rename_i kk a t
      obtain ⟨ha, hz⟩ := zbifO hz
      split at hz
      · rename_i n f hc
        obtain ⟨hi, rfl⟩ := zbifS hz
        exact va_iald hx hb hK hP a 0 (zqa ha hc) rfl (zib_in hi) hd k
      · cases hz
    · rename_i kk r t
      split at hz
      · rename_i n f
        obtain ⟨hi, rfl⟩ := zbifS hz
        obtain ⟨hX, hbl, hbb⟩ := hsc n f rfl
        exact va_sld hx hb hX hbl (Nat.not_le.mpr hbb) hS (zib_in hi) hd k
      · cases hz
    · cases hz
  · split at hz
    · rename_i kk a t
      obtain ⟨ha, hz⟩ := zbifO hz
      split at hz
      · rename_i n f hc
        obtain ⟨hi, rfl⟩ := zbifS hz
        exact va_lald hx hb hK hP a 1 (zqa ha hc) rfl (zib_in hi) hd k
      · cases hz
    · cases hz
  · split at hz
    · rename_i kk a t
      obtain ⟨ha, hz⟩ := zbifO hz
      split at hz
      · rename_i ty n f hc
        obtain ⟨hi, hz⟩ := zbifO hz
        rw [Bool.and_eq_true, Bool.or_eq_true] at hi
        split at hz
        · rename_i r hf
          cases hz
          have hty : ∃ C, (ztys cA)[ty]? = some (cA ty, .object C) := by
            rcases hi.2 with h9 | h9
            · rw [Nat.eq_of_beq_eq_true h9]; exact ⟨_, rfl⟩
            · rw [Nat.eq_of_beq_eq_true h9]; exact ⟨_, rfl⟩
          obtain ⟨C, hty⟩ := hty
          refine va_aldq hx hb hK hP a ty (zqa ha hc) hty (zib_in hi.1) hd ?_
          have e9 : va_rf ((f kk.toNatClampNeg).map (fun i => base + i)) = zcv b base (.ref r) := by rw [hf]; rfl
          rw [e9]
          exact k
        · cases hz
      · cases hz
    · cases hz
  · split at hz
    · rename_i a t
      obtain ⟨ha, hz⟩ := zbifO hz
      split at hz
      · rename_i ty n cont hc
        obtain ⟨hi, rfl⟩ := zbifS hz
        have hty : ∃ T, (ztys cA)[ty]? = some (cA ty, T) := by
          have := zble hi
          match ty, this with
          | 0, _ => exact ⟨_, rfl⟩
          | 1, _ => exact ⟨_, rfl⟩
          | 2, _ => exact ⟨_, rfl⟩
          | 3, _ => exact ⟨_, rfl⟩
        obtain ⟨T, hty⟩ := hty
        exact va_alen hx hb hK hP a ty (zqa ha hc) hty (by rw [zca_1]) hd k
      · cases hz
    · rename_i r t
      split at hz
      · rename_i n f
        cases hz
        obtain ⟨hX, hbl, hbb⟩ := hsc n f rfl
        exact va_slen hx hb hX hbl (Nat.not_le.mpr hbb) hS hd k
      · cases hz
    · cases hz
  · split at hz
    · rename_i r hr
      cases hz
      have h1 := zq1_ok zCI_ok hr
      exact lv_ldc hx hb hown (hB _ (zB_of h1 rfl)) hd k
    · cases hz
  · split at hz
    · rename_i r hr
      cases hz
      have h1 := zq1_ok zCI_ok hr
      exact lv_ldcw hx hb hown (hB _ (zB_of h1 rfl)) hd k
    · cases hz
  · split at hz
    · rename_i r hr
      cases hz
      have h1 := zq1_ok zCL_ok hr
      exact lv_ldc2 hx hb hown (hB _ (zB_of h1 rfl)) hd k
    · cases hz
  · split at hz
    · rename_i r a t hr
      obtain ⟨hi, rfl⟩ := zbifS hz
      have h1 := zq1_ok zOI_ok hr
      have hsum : (((t.map (zcv b base)).map fun v => v.category).sum) = ((t.map fun v => v.category).sum) := by
        rw [List.map_map]; congr 1; apply List.map_congr_left; intro v _; exact zcv_cat b base v
      refine W.objInit hx hb hown (hB _ (zB_of h1 rfl)) (hB _ zOIw.1) (hB _ zOIw.2) rfl hsz rfl hd hR1 ?_ k
      have h9 := zble hi
      show 2 * 0 + (((t.map (zcv b base)).map fun v => v.category).sum) + 12 ≤ R.locals
      rw [hsum]
      omega
    · cases hz
  · cases hz
end ZS2
/-! rows of the kit with one word more: the heap keeps its size -/
section ZS3
variable {p : Program} {l : Launch} {e : Env} {R : Room} {s : State} {m : MethodId} {args : Array Value} {below : List Frame} {meth : Method} {c : Code} {H : Heap} {locs : List Loc} {cells slots : Nat} {Q : State → Prop}
variable {cc : ByteArray} {pc : Nat} {ls : Array Slot} {rest : List Value} {D : va_G} {cl : List vw_C} {A : Nat → Prop} {a : Nat} {tys : List (ClassId × FieldType)} {ws : va_W} {H0 : Heap}
theorem zz_put (hexec : p.tables.exec = Jvm.exec) (hb : c.code = cc) {own ref C : String} {T : u_T} {N ci index : Nat} {Ts : List Cond} (hts : ∀ w ∈ Ts, w.before args s = true) (hin : ∀ w ∈ u_ws C T N, w ∈ Ts) (ty0 : Nat → FieldType) (hty : ∀ k, k < N → parseFieldDescriptor (T k).2.2.1 = some (ty0 k)) (hnm : ∀ a, a < N → ∀ b, b < N → a ≠ b → (T a).2.1 ≠ (T b).2.1) (hown : s.vm.findClass own = some m.cls) (hK : va_K D cl tys s) (hP : va_P D cl ws H) (hD : va_D A ws) (hS0 : va_S A H0 H locs) (q0 : Nat) {fs : List Value} (he : ws[q0]? = some (a, .inr (ci, fs))) (hc : cl[ci]? = some (C, T, N)) (k : Nat) (hk : k < N) (hlink : (Cond.fieldLink own index ref (T k).2.1 (T k).2.2.1).before args s = true) (hsame : ∀ x, s.fieldFound? (T k).1 (T k).2.1 (T k).2.2.1 = some x → s.fieldFound? ref (T k).2.1 (T k).2.2.1 = some x) (hfin : (T k).2.2.2 = false) {ty : FieldType} {v : Value} (hd : parseFieldDescriptor (T k).2.2.1 = some ty) (hn : narrow ty v = v) (hfit : fits ty v = true) (hl : k < fs.length)
    (hdg : decode cc pc = .ok (.putfield index, 3)) (kk : ∀ (H1 : Heap) (locs1 : List Loc), H1.size = H.size → va_P D cl (ws.set q0 (a, .inr (ci, fs.set k v))) H1 → va_S A H0 H1 locs1 → W p l e R s m args below meth c H1 locs1 cells slots Q (F0 m (pc + 3) ls rest)) : W p l e R s m args below meth c H locs cells slots Q (F0 m pc ls (v :: .ref a :: rest)) := by
  have hap := va_apart (own := own) hts hin ty0 hty hnm hK hc
  obtain ⟨r, h1, cell, q1, q2, q3, q4⟩ := hP q0 _ he
  have hr : r = (C, T, N) := Option.some.inj (h1.symm.trans hc)
  subst hr
  obtain ⟨hS, hfc, kC, hkC, hkind⟩ := hK.1 ci _ hc
  obtain ⟨cf, kf, fi, f, hi, hsl⟩ := hS k hk
  have hlay := hts _ (hin _ (u_in_lay hk))
  unfold u_lay at hlay
  rw [if_neg (by rw [hfin]; decide)] at hlay
  have hst := (u_facts hfc hkC (u_lays hts hin hk) hi).1
  have h6 := u_store hfc hkC hkind hlay hi hd hn hfit
  refine W.putK hexec hb (f := f) ⟨hown, hlink, ⟨_, _, _, hsame _ hi⟩, hst⟩ (by rw [q2]; exact h6) q1 q3 (by rw [hsl]; exact k2_hasslot (q4 k hk)) rfl rfl hdg fun H' e1 e2 e3 => ?_
  rw [hsl] at e1 ⊢
  exact kk H' _ e2 (hP.set hD he ⟨_, hc, t_OB.to (V := updV (vp_V fs) k v) ⟨_, e1, q2, q3, t_set q4 hap hk v⟩ (fun j _ => vp_updV_set hl v j)⟩ e3) (hS0.put e2 e3 (hD.2 q0 _ he))
theorem zz_putF (hexec : p.tables.exec = Jvm.exec) (hb : c.code = cc) {own ref C : String} {T : u_T} {N ci index : Nat} {Ts : List Cond} (hts : ∀ w ∈ Ts, w.before args s = true) (hin : ∀ w ∈ u_ws C T N, w ∈ Ts) (ty0 : Nat → FieldType) (hty : ∀ k, k < N → parseFieldDescriptor (T k).2.2.1 = some (ty0 k)) (hnm : ∀ a, a < N → ∀ b, b < N → a ≠ b → (T a).2.1 ≠ (T b).2.1) (hown : s.vm.findClass own = some m.cls) (hK : va_K D cl tys s) (hP : va_P D cl ws H) (hD : va_D A ws) (hS0 : va_S A H0 H locs) (q0 : Nat) {fs : List Value} (he : ws[q0]? = some (a, .inr (ci, fs))) (hc : cl[ci]? = some (C, T, N)) (k : Nat) (hk : k < N) (hlink : (Cond.fieldLink own index ref (T k).2.1 (T k).2.2.1).before args s = true) (hsame : ∀ x, s.fieldFound? (T k).1 (T k).2.1 (T k).2.2.1 = some x → s.fieldFound? ref (T k).2.1 (T k).2.2.1 = some x) (hfin : (T k).2.2.2 = true) (hin2 : meth.name = "<init>") (hdecl : (T k).1 = own) {ty : FieldType} {v : Value} (hd : parseFieldDescriptor (T k).2.2.1 = some ty) (hn : narrow ty v = v) (hfit : fits ty v = true) (hl : k < fs.length)
    (hdg : decode cc pc = .ok (.putfield index, 3)) (kk : ∀ (H1 : Heap) (locs1 : List Loc), H1.size = H.size → va_P D cl (ws.set q0 (a, .inr (ci, fs.set k v))) H1 → va_S A H0 H1 locs1 → W p l e R s m args below meth c H1 locs1 cells slots Q (F0 m (pc + 3) ls rest)) : W p l e R s m args below meth c H locs cells slots Q (F0 m pc ls (v :: .ref a :: rest)) := by
  have hap := va_apart (own := own) hts hin ty0 hty hnm hK hc
  obtain ⟨r, h1, cell, q1, q2, q3, q4⟩ := hP q0 _ he
  have hr : r = (C, T, N) := Option.some.inj (h1.symm.trans hc)
  subst hr
  obtain ⟨hS, hfc, kC, hkC, hkind⟩ := hK.1 ci _ hc
  obtain ⟨cf, kf, fi, f, hi, hsl⟩ := hS k hk
  have hlay := hts _ (hin _ (u_in_lay hk))
  unfold u_lay at hlay
  rw [if_pos hfin] at hlay
  have hst := (u_facts hfc hkC (u_lays hts hin hk) hi).1
  have hcf : m.cls = cf := by
    obtain ⟨_, _, c', _, _, _, -, -, hf', -, -, -, hown2, -⟩ := Cond.laysFinal_spec hlay
    have e1 : c' = cf := by have := hi.symm.trans hf'; simp at this; exact this.1.symm
    rw [hdecl] at hown2
    rw [← e1]; exact Option.some.inj (hown.symm.trans hown2)
  have h6 := u_fits hfc hkC hkind (Or.inr hlay) hi hd hn hfit
  refine W.putFinK hexec hb hown hlink (hsame _ hi) hst hcf hin2 (by rw [q2]; exact h6) q1 q3 (by rw [hsl]; exact k2_hasslot (q4 k hk)) rfl rfl hdg fun H' e1 e2 e3 => ?_
  rw [hsl] at e1 ⊢
  exact kk H' _ e2 (hP.set hD he ⟨_, hc, t_OB.to (V := updV (vp_V fs) k v) ⟨_, e1, q2, q3, t_set q4 hap hk v⟩ (fun j _ => vp_updV_set hl v j)⟩ e3) (hS0.put e2 e3 (hD.2 q0 _ he))
theorem zz_iast (hexec : p.tables.exec = Jvm.exec) (hb : c.code = cc) (hK : va_K D cl tys s) (hP : va_P D cl ws H) (hD : va_D A ws) (hS : va_S A H0 H locs) (q0 t0 : Nat) {cA : ClassId} {n : Nat} {f : Nat → Int32} (ha : ws[q0]? = some (a, .inl (cA, n, .inl f))) (ht : tys[t0]? = some (cA, .int)) {i : Int32} {x : Int32} (hin : vp_in i n) (hdg : decode cc pc = .ok (.iastore, 1))
    (kk : ∀ (H1 : Heap) (locs1 : List Loc), H1.size = H.size → va_P D cl (ws.set q0 (a, .inl (cA, n, .inl (upd f i.toNatClampNeg x)))) H1 → va_S A H0 H1 locs1 → W p l e R s m args below meth c H1 locs1 cells slots Q (F0 m (pc + 1) ls rest)) : W p l e R s m args below meth c H locs cells slots Q (F0 m pc ls (.int x :: .int i :: .ref a :: rest)) := by
  refine W.iast hexec hb (hP q0 _ ha) ((hK.2 t0 _ ht).1 n (fun j => .int (f j))) (fun q => by cases q) (by show ¬ (i < 0 ∨ (arrV _ _ _).slots.size ≤ _); rw [arrV_size]; exact hin) rfl rfl hdg fun H1 e z oq => ?_
  refine kk H1 _ z (hP.set hD ha ?_ oq) (hS.put z oq (hD.2 q0 _ ha))
  show H1[a]? = some (vp_cell _ _)
  rw [e]
  rw [vp_cell_i, vp_cell_i, arrV_store]
  congr 2
  funext q
  by_cases hq : q = i.toNatClampNeg
  · subst hq
    simp [updV, upd]
  · simp [updV, upd, hq]
theorem zz_last (hexec : p.tables.exec = Jvm.exec) (hb : c.code = cc) (hK : va_K D cl tys s) (hP : va_P D cl ws H) (hD : va_D A ws) (hS : va_S A H0 H locs) (q0 t0 : Nat) {cA : ClassId} {n : Nat} {f : Nat → Int64} (ha : ws[q0]? = some (a, .inl (cA, n, .inr (.inl f)))) (ht : tys[t0]? = some (cA, .long)) {i : Int32} {x : Int64} (hin : vp_in i n) (hdg : decode cc pc = .ok (.lastore, 1))
    (kk : ∀ (H1 : Heap) (locs1 : List Loc), H1.size = H.size → va_P D cl (ws.set q0 (a, .inl (cA, n, .inr (.inl (vp_updL f i.toNatClampNeg x))))) H1 → va_S A H0 H1 locs1 → W p l e R s m args below meth c H1 locs1 cells slots Q (F0 m (pc + 1) ls rest)) : W p l e R s m args below meth c H locs cells slots Q (F0 m pc ls (.long x :: .int i :: .ref a :: rest)) := by
  refine W.last hexec hb (hP q0 _ ha) ((hK.2 t0 _ ht).1 n (fun j => .long (f j))) (fun q => by cases q) (by show ¬ (i < 0 ∨ (arrV _ _ _).slots.size ≤ _); rw [arrV_size]; exact hin) rfl rfl hdg fun H1 e z oq => ?_
  refine kk H1 _ z (hP.set hD ha ?_ oq) (hS.put z oq (hD.2 q0 _ ha))
  show H1[a]? = some (vp_cell _ _)
  rw [e]
  rw [vp_cell_l, vp_cell_l, arrV_store]
  congr 2
  funext q
  by_cases hq : q = i.toNatClampNeg
  · subst hq
    simp [updV, vp_updL]
  · simp [updV, vp_updL, hq]
/-- a reference stored to an array whose class takes it -/
theorem zz_ast (hexec : p.tables.exec = Jvm.exec) (hb : c.code = cc) (hK : va_K D cl tys s) (hP : va_P D cl ws H) (hD : va_D A ws) (hS : va_S A H0 H locs) (q0 t0 qk ci : Nat) {E : String} {cA : ClassId} {r : vw_C} {n v : Nat} {vs : List Value} {f : Nat → Option Nat} (ha : ws[q0]? = some (a, .inl (cA, n, .inr (.inr (.inr (.inr f)))))) (ht : tys[t0]? = some (cA, .object E)) (hca : r.1 = E ∨ va_Nw (.castable r.1 E) s) (hv : ws[qk]? = some (v, .inr (ci, vs))) (hc : cl[ci]? = some r) {i : Int32} (hin : vp_in i n) (hdg : decode cc pc = .ok (.aastore, 1))
    (kk : ∀ (H1 : Heap) (locs1 : List Loc), H1.size = H.size → va_P D cl (ws.set q0 (a, .inl (cA, n, .inr (.inr (.inr (.inr (va_up f i.toNatClampNeg (some v)))))))) H1 → va_S A H0 H1 locs1 → W p l e R s m args below meth c H1 locs1 cells slots Q (F0 m (pc + 1) ls rest)) : W p l e R s m args below meth c H locs cells slots Q (F0 m pc ls (.ref v :: .int i :: .ref a :: rest)) := by
  have hlt : i.toNatClampNeg < n := Nat.not_le.mp fun q => hin (Or.inr q)
  have h0 : ¬ i < 0 := fun q => hin (Or.inl q)
  obtain ⟨r', hr', cellV, g1, g2, g3, -⟩ := hP qk _ hv
  have hcls := (hK.1 ci r hc).2
  obtain ⟨kA, comp, k1, k2, k3, -⟩ := (hK.2 t0 _ ht).2
  obtain ⟨kE, hkE, -⟩ := Vm.findClass_spec k3
  obtain ⟨kC, hkC, -⟩ := hcls.2
  have hasg : s.vm.assignable (D.1 ci) comp = true := by
    rcases hca with h9 | h9
    · have : comp = D.1 ci := by
        rw [← h9] at k3
        exact Option.some.inj (k3.symm.trans hcls.1)
      rw [this]
      exact va_assign hcls
    · obtain ⟨c0, t1, f1, f2, f3⟩ := Cond.castable_spec (va_Nw.use (A := args) rfl h9)
      cases hcls.1.symm.trans f1
      cases k3.symm.trans f2
      exact f3
  refine W.aast hexec hb (hP q0 _ ha) (fun q h => by cases h) (fun h => by cases h) k1 k2 rfl hkE ⟨h0, by show _ < (arrV _ _ _).slots.size; rw [arrV_size]; exact hlt⟩ g1 (fun q h => by rw [g3] at h; cases h) (by rw [g2]; exact hkC) (by rw [g2]; exact hasg) rfl rfl hdg fun H1 e z oq => ?_
  refine kk H1 _ z (hP.set hD ha ?_ oq) (hS.put z oq (hD.2 q0 _ ha))
  show H1[a]? = some (vp_cell _ _)
  rw [e]
  rw [vp_cell_q, vp_cell_q, arrV_store]
  congr 2
  funext q
  by_cases hq : q = i.toNatClampNeg
  · subst hq
    simp [updV, va_up, va_rf]
  · simp [updV, va_up, hq]
end ZS3
