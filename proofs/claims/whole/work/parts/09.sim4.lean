section ZS5
variable {p : Program} {l : Launch} {e : Env} {R : Room} {s : State} {m : MethodId} {args : Array Value} {below : List Frame} {meth : Method} {c : Code} {H : Heap} {locs : List Loc} {cells slots : Nat} {Q : State → Prop}
variable {cc : ByteArray} {pc : Nat} {ls : Array Slot} {b base : Nat} {D : va_G} {cA : Nat → ClassId} {o : Nat} {g : zG} {h : zH} {al : Bool}
theorem zpush {cell : zC} {H1 : Heap} (hP : va_P D zcl (zw b base cA g.1 h) H) (o1 : ∀ q, q < base + g.1 → H1[q]? = H[q]?) (hat : va_at D zcl (base + g.1, zcc b base cA cell) H1) : va_P D zcl (zw b base cA (g.1 + 1) (va_up h g.1 cell)) H1 := by
  intro k q hk
  obtain ⟨hlt, rfl⟩ := zw_inv hk
  by_cases hkg : k = g.1
  · subst hkg
    rw [show va_up h g.1 cell g.1 = cell by simp [va_up]]
    exact hat
  · have h1 : k < g.1 := by omega
    rw [show va_up h g.1 cell k = h k by simp [va_up, hkg]]
    exact (hP k _ (zw_get h1)).kept (o1 _ (by show base + k < base + g.1; omega))
theorem zpushS {H1 : Heap} (hS : va_S (fun q => base ≤ q) s.heap H locs) (hsize : H.size = base + g.1) (z1 : H1.size = base + g.1 + 1) (o1 : ∀ q, q < base + g.1 → H1[q]? = H[q]?) : va_S (fun q => base ≤ q) s.heap H1 locs :=
  ⟨Nat.le_trans hS.1 (by omega), fun q h1 h2 => (o1 q (by have := hS.1; omega)).trans (hS.2.1 q h1 h2), hS.2.2⟩
set_option maxHeartbeats 4000000 in
theorem zs_new {i : Instr} {st : List Value} {q : Nat × List Value × zG × zH} (hz : znew o i st g h = some q) (hx : p.tables.exec = Jvm.exec) (hb : c.code = cc) (hd : decode cc pc = .ok (i, zlen i))
    (hown : s.vm.findClass (zon o) = some m.cls) (hB : ∀ w ∈ zB, w.before args s = true) (hK : va_K D zcl (ztys cA) s) (hAO : va_AO "RingMatrices$Matrix" s ∧ va_AO "RingMatrices$Ring" s) (hP : va_P D zcl (zw b base cA g.1 h) H)
    (hS : va_S (fun q => base ≤ q) s.heap H locs) (hsize : H.size = base + g.1) (hc : cells + 1 ≤ R.cells) (hs : slots + (q.2.2.1.2.2 - g.2.2) ≤ R.slots)
    (k : ∀ (H1 : Heap), zDy D cA b base true q.2.2.1 q.2.2.2 H1 → va_S (fun q => base ≤ q) s.heap H1 locs → q.2.2.1.2.1 = g.2.1 + 1 → W p l e R s m args below meth c H1 locs (cells + 1) (slots + (q.2.2.1.2.2 - g.2.2)) Q (F0 m (pc + q.1) ls (q.2.1.map (zcv b base)))) : W p l e R s m args below meth c H locs cells slots Q (F0 m pc ls (st.map (zcv b base))) := by
  unfold znew at hz
  split at hz
  · split at hz
    · rename_i idx r hr
      split at hz
      · rename_i C T N hcl
        cases hz
        have h1 := zq1_ok zNW_ok hr
        obtain ⟨ci, pl, p2, p3⟩ := r
        unfold zckNW at h1
        dsimp only at h1 hcl
        rw [hcl] at h1
        simp only [Bool.and_eq_true] at h1
        dsimp only at hs k
        rw [Nat.add_sub_cancel_left] at hs k
        refine W.newcK hx hb hown (hB _ (zB_of h1.1.1 rfl)) (hB _ (zB_of h1.1.2 rfl)) (hB _ (zB_of h1.2 rfl)) rfl hd hc hs (hK.1 ci _ hcl).2.1 hsize fun H1 kC hkC e1 z1 o1 => ?_
        refine k H1 ⟨zpush hP o1 ⟨_, hcl, ?_⟩, fun _ => by rw [z1]; rfl⟩ (zpushS hS hsize z1 o1) rfl
        refine (u_born (zty ci) hB (zcl_in hcl) (hK.1 ci _ hcl) hkC e1 (zcl_ty ci _ hcl)).to fun j hj => ?_
        have hj' : j < N := hj
        show _ = (((List.range N).map (fun k => zdv (zty ci k))).map (zcv b base)).getD j .null
        simp [List.getD, hj', zdv, zcv_dv]
      · cases hz
    · cases hz
  · split at hz
    · rename_i n t
      obtain ⟨hi, rfl⟩ := zbifN hz
      rw [Bool.or_eq_false_iff] at hi
      have hn0 : ¬ n < 0 := of_decide_eq_false hi.1
      have hn1 : n.toNatClampNeg < 100000 := by
        have := hi.2
        rcases Nat.lt_or_ge n.toNatClampNeg 100000 with h9 | h9
        · exact h9
        · rw [show Nat.ble 100000 n.toNatClampNeg = true from Nat.ble_eq.mpr h9] at this; cases this
      dsimp only at hs k
      rw [Nat.add_sub_cancel_left] at hs k
      refine va_newaK (atype := .int) hx hb (hB _ zAKw.1) rfl hd rfl hn0 rfl (by show n.toNatClampNeg * 4 ≤ 536870912; omega) hc hs hsize fun H1 cA' e1 z1 o1 hAr hNm => ?_
      have hcc : cA' = cA 0 := Option.some.inj (hNm.symm.trans (hK.2 0 _ rfl).2)
      subst hcc
      exact k H1 ⟨zpush hP o1 e1, fun _ => by rw [z1]; rfl⟩ (zpushS hS hsize z1 o1) rfl
    · cases hz
  · split at hz
    · rename_i n t
      obtain ⟨hi, rfl⟩ := zbifN hz
      rw [Bool.or_eq_false_iff] at hi
      have hn0 : ¬ n < 0 := of_decide_eq_false hi.1
      have hn1 : n.toNatClampNeg < 100000 := by
        have := hi.2
        rcases Nat.lt_or_ge n.toNatClampNeg 100000 with h9 | h9
        · exact h9
        · rw [show Nat.ble 100000 n.toNatClampNeg = true from Nat.ble_eq.mpr h9] at this; cases this
      dsimp only at hs k
      rw [Nat.add_sub_cancel_left] at hs k
      refine va_newaK (atype := .long) hx hb (hB _ zAKw.2) rfl hd rfl hn0 rfl (by show n.toNatClampNeg * 8 ≤ 536870912; omega) hc hs hsize fun H1 cA' e1 z1 o1 hAr hNm => ?_
      have hcc : cA' = cA 1 := Option.some.inj (hNm.symm.trans (hK.2 1 _ rfl).2)
      subst hcc
      exact k H1 ⟨zpush hP o1 e1, fun _ => by rw [z1]; rfl⟩ (zpushS hS hsize z1 o1) rfl
    · cases hz
  · split at hz
    · rename_i idx r n t hr
      obtain ⟨hi, rfl⟩ := zbifN hz
      rw [Bool.or_eq_false_iff] at hi
      have hn0 : ¬ n < 0 := of_decide_eq_false hi.1
      have hn1 : n.toNatClampNeg < 100000 := by
        have := hi.2
        rcases Nat.lt_or_ge n.toNatClampNeg 100000 with h9 | h9
        · exact h9
        · rw [show Nat.ble 100000 n.toNatClampNeg = true from Nat.ble_eq.mpr h9] at this; cases this
      dsimp only at hs k
      rw [Nat.add_sub_cancel_left] at hs k
      have h1 := zq1_ok zAW_ok hr
      unfold zckAW at h1
      dsimp only at h1
      rw [Bool.and_eq_true, Bool.or_eq_true] at h1
      obtain ⟨ty, pl⟩ := r
      dsimp only at h1 k
      have hty : (ztys cA)[ty]? = some (cA ty, .object (ztn ty)) ∧ va_AO (ztn ty) s := by
        rcases h1.2 with h9 | h9
        · rw [Nat.eq_of_beq_eq_true h9]; exact ⟨rfl, hAO.1⟩
        · rw [Nat.eq_of_beq_eq_true h9]; exact ⟨rfl, hAO.2⟩
      refine W.anew hx hb hown (hB _ (zB_of h1.1 rfl)) (va_AO.use hty.2) rfl hd rfl hn0 (by omega) hc hs fun cA' kA comp f1 f2 f3 f4 => ?_
      obtain ⟨_, _, -, -, -, k9⟩ := (hK.2 ty _ hty.1).2
      have hcc : cA' = cA ty := Option.some.inj (f1.symm.trans k9)
      subst hcc
      generalize hH1 : H.push ({ cls := cA ty, slots := Array.replicate n.toNatClampNeg .null, vm := .none } : Cell) = H1
      have z1 : H1.size = base + g.1 + 1 := by rw [← hH1, Array.size_push, hsize]
      have e1 : H1[base + g.1]? = some (arrV (cA ty) n.toNatClampNeg (fun _ => .null)) := by rw [← hH1, ← hsize, Array.getElem?_push_size, ← arrV_new]
      have o1 : ∀ q, q < base + g.1 → H1[q]? = H[q]? := by
        intro q hq
        rw [← hH1, Array.getElem?_push, if_neg (by omega)]
      rw [hsize]
      exact k H1 ⟨zpush hP o1 e1, fun _ => by rw [z1]; rfl⟩ (zpushS hS hsize z1 o1) rfl
    · cases hz
  · cases hz
set_option maxHeartbeats 4000000 in
theorem zs_ret {M : zM} {i : Instr} {st : List Value} {v : Option Value} (hz : zret M i st = some v) (hx : p.tables.exec = Jvm.exec) (hb : c.code = cc) (hd : decode cc pc = .ok (i, zlen i)) (hr : meth.sig.returnType = M.2.2.2.2.2.1) (hlocks : meth.locks = false)
    {Qc : Array Value → State → Outcome → State → Prop} {XC : String → State → State → Prop} {free : Addr → Prop} {mc ms : Nat} (hc : cells ≤ mc) (hs : slots ≤ ms) (hq : ∀ t : State, t.heap = H → s.WarmedH t.vm → Qc args s (.returned (v.map (zcv b base))) t) (hf : ∀ q ∈ locs, free q.base) :
    W p l e R s m args below meth c H locs cells slots (vx_MQ below Qc XC args s mc ms free) (F0 m pc ls (st.map (zcv b base))) := by
  refine W.widen hc hs (vx_ret ?_)
  unfold zret at hz
  split at hz
  · split at hz
    · rename_i hret
      cases hz
      exact W.vret hx hb (hr.trans hret) hq hf hd hlocks
    · cases hz
  · split at hz
    · rename_i x hret
      cases hz
      exact W.iret hx hb (hr.trans hret) hq hf hd hlocks
    · rename_i x hret
      obtain ⟨hi, rfl⟩ := zbifS hz
      rw [Bool.or_eq_true, decide_eq_true_eq, decide_eq_true_eq] at hi
      refine W.zret hx hb (hr.trans hret) ?_ hq hf hd hlocks
      rcases hi with rfl | rfl <;> decide
    · cases hz
  · split at hz
    · rename_i x hret
      cases hz
      exact W.lret hx hb (hr.trans hret) hq hf hd hlocks
    · cases hz
  · split at hz
    · rename_i x nm hret
      cases hz
      exact W.aret hx hb (hr.trans hret) (Or.inl ⟨_, rfl⟩) (Or.inr ⟨_, rfl⟩) hq hf hd hlocks
    · cases hz
  · cases hz
end ZS5
theorem zlk1_mem {c : List (Nat × Instr)} {pc : Nat} {i : Instr} (h : zlk1 c pc = some i) : (pc, i) ∈ c := by
  induction c with
  | nil => simp [zlk1] at h
  | cons q t ih =>
    obtain ⟨q1, q2⟩ := q
    simp only [zlk1] at h
    cases hc : Nat.beq q1 pc with
    | true =>
      rw [hc] at h
      cases h
      rw [Nat.eq_of_beq_eq_true hc]
      exact List.mem_cons_self
    | false => rw [hc] at h; exact List.mem_cons_of_mem _ (ih h)
theorem zlk_mem {c : zI} {pc : Nat} {i : Instr} (h : zlk c pc = some i) : ∃ q ∈ c, (pc, i) ∈ q.2 := by
  induction c with
  | nil => simp [zlk] at h
  | cons q t ih =>
    simp only [zlk] at h
    cases hc : Nat.blt pc q.1 with
    | true =>
      rw [hc] at h
      exact ⟨q, List.mem_cons_self, zlk1_mem h⟩
    | false =>
      rw [hc] at h
      obtain ⟨r, hr, hm⟩ := ih h
      exact ⟨r, List.mem_cons_of_mem _ hr, hm⟩
theorem zlk_dec {c : zI} {bs : ByteArray} (hc : c.all (fun q => q.2.all (zdk bs)) = true) {pc : Nat} {i : Instr} (h : zlk c pc = some i) : decode bs pc = .ok (i, zlen i) := by
  obtain ⟨q, hq, hm⟩ := zlk_mem h
  have h1 := List.all_eq_true.mp (List.all_eq_true.mp hc _ hq) _ hm
  unfold zdk at h1
  split at h1
  · rename_i i' n hd
    rw [Bool.and_eq_true, decide_eq_true_eq] at h1
    dsimp only at hd h1
    rw [hd, h1.1, Nat.eq_of_beq_eq_true h1.2]
  · cases h1
theorem zts_mem {o ik is ic : Nat} {w : Bool} {T : List (Nat × Nat × Nat × Bool × Nat × String × Nat × Nat)} {e : Nat} (h : zts o ik is ic w T = some e) : ∃ (tx : String) (p p2 : Nat), (ik, is, ic, w, e, tx, p, p2) ∈ T := by
  induction T with
  | nil => simp [zts] at h
  | cons q t ih =>
    obtain ⟨q1, q2, q3, q4, q5, q6, q7, q8⟩ := q
    simp only [zts] at h
    cases hc : (Nat.beq q1 ik && Nat.beq q2 is && Nat.beq q3 ic && (q4 == w)) with
    | true =>
      rw [hc] at h
      simp only [Bool.and_eq_true] at hc
      cases h
      refine ⟨q6, q7, q8, ?_⟩
      rw [Nat.eq_of_beq_eq_true hc.1.1.1, Nat.eq_of_beq_eq_true hc.1.1.2, Nat.eq_of_beq_eq_true hc.1.2, eq_of_beq hc.2]
      exact List.mem_cons_self
    | false =>
      rw [hc] at h
      obtain ⟨tx, p, p2, h9⟩ := ih h
      exact ⟨tx, p, p2, List.mem_cons_of_mem _ h9⟩
