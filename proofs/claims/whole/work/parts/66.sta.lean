/-! WHAT A METHOD FINDS, out of the law's entry -/
theorem zt_ins : ∀ q ∈ zcl, Cond.instantiable q.1 q.2.2 ∈ lw_tbl := by
  have h : zcl.all (fun q => decide (Cond.instantiable q.1 q.2.2 ∈ lw_tbl)) = true := by decide +kernel
  intro q hq
  exact of_decide_eq_true (List.all_eq_true.mp h q hq)
theorem zt_str : ∀ q ∈ zSTR, Cond.stringRef q.1 q.2.1 q.2.2 ∈ lw_tbl ∧ Cond.initialized q.1 ∈ lw_tbl := by
  have h : zSTR.all (fun q => decide (Cond.stringRef q.1 q.2.1 q.2.2 ∈ lw_tbl) && decide (Cond.initialized q.1 ∈ lw_tbl)) = true := by decide +kernel
  intro q hq
  have := List.all_eq_true.mp h q hq
  simp only [Bool.and_eq_true, decide_eq_true_eq] at this
  exact this
theorem zt_nc : ∀ e e' : Fin 4, e ≠ e' → Cond.not (.castable (zexn e.val) (zexn e'.val)) ∈ flatC (Jvm.Cond.and given_1 narrow_1) := by decide +kernel
theorem zt_ref : Cond.isRef (.static Bundle.tN "UNASSIGNED_STACK" Bundle.steD) ∈ flatC (Jvm.Cond.and given_1 narrow_1) ∧ Cond.isRef (.static Bundle.tN "SUPPRESSED_SENTINEL" Bundle.listD) ∈ flatC (Jvm.Cond.and given_1 narrow_1) := by decide +kernel
theorem zt_w : Cond.laysStatic Bundle.tN "UNASSIGNED_STACK" Bundle.steD ∈ lw_tbl ∧ Cond.laysStatic Bundle.tN "SUPPRESSED_SENTINEL" Bundle.listD ∈ lw_tbl ∧ Cond.initialized Bundle.tN ∈ lw_tbl ∧ Cond.arrayClass .int ∈ lw_tbl ∧ Cond.arrayClass .long ∈ lw_tbl ∧ Cond.arrayOver (.object "RingMatrices$Matrix") ∈ lw_tbl ∧ Cond.arrayOver (.object "RingMatrices$Ring") ∈ lw_tbl := by decide +kernel
theorem zNk_on {w : Cond} (h : zNk w = true) : w.onTables = true := by
  cases w <;> first | rfl | (simp [zNk] at h)
theorem zt_fc {args : Array Value} {s : State} {C : String} (h : (Cond.initialized C).before args s = true) : ∃ c, s.vm.findClass C = some c := by
  simp only [Cond.before, Cond.holds, Cond.value] at h
  cases h1 : s.vm.findClass C with
  | none => simp [h1] at h
  | some c => exact ⟨c, rfl⟩
set_option maxHeartbeats 2000000 in
theorem zSta_of {args : Array Value} {s : State} (hts : ∀ w ∈ lw_tbl, w.before args s = true) (hgv : (Jvm.Cond.and given_1 narrow_1).before args s = true) : ∃ (D : va_G) (cA : Nat → ClassId), zSta D cA s.heap.size s := by
  have hfl := flat_of_before _ hgv
  obtain ⟨w1, w2, w3, w4, w5, w6, w7⟩ := zt_w
  have hD : ∀ k : Nat, ∃ p : ClassId × (Nat → Nat), ∀ q, zcl[k]? = some q → u_Kn s q.1 q.2.1 q.2.2 p.1 p.2 := by
    intro k
    cases hq : zcl[k]? with
    | none => exact ⟨(0, fun _ => 0), fun q h => by cases h⟩
    | some q =>
      have hm := List.mem_of_getElem? hq
      obtain ⟨cC, iS, h⟩ := u_known (C := q.1) (T := q.2.1) (N := q.2.2) (n := q.2.2) (ws := zB) (fun w hw => hts w (List.mem_filter.mp hw).1) (zcl_ws q hm) (hts _ (zt_ins q hm))
      exact ⟨(cC, iS), fun q' h' => by cases h'; exact h⟩
  obtain ⟨F, hF⟩ := Classical.axiomOfChoice hD
  obtain ⟨cI, kI, pI, i1, i2, i3⟩ := Cond.arrayClass_spec (hts _ w4)
  obtain ⟨cL, kL, pL, l1, l2, l3⟩ := Cond.arrayClass_spec (hts _ w5)
  obtain ⟨pM, cM, kM, m1, -, m2, m3, m4⟩ := Cond.arrayOver_spec (hts _ w6)
  obtain ⟨pR, cR, kR, r1, -, r2, r3, r4⟩ := Cond.arrayOver_spec (hts _ w7)
  refine ⟨(fun k => (F k).1, fun k => (F k).2), fun k => (match k with | 0 => cI | 1 => cL | 2 => cM | _ => cR), ⟨fun k q hq => hF k q hq, fun k q hq => ?_⟩, vx_Zqof (hts _ w1) (hts _ w3) (hfl _ zt_ref.1) (fun a ha h9 => absurd ha (Nat.not_lt.mpr h9)), vx_Zqof (hts _ w2) (hts _ w3) (hfl _ zt_ref.2) (fun a ha h9 => absurd ha (Nat.not_lt.mpr h9)), fun w hw => ?_, fun q hq => ?_, fun e e' h1 h2 h3 => ?_, hts _ w6, hts _ w7⟩
  · match k, hq with
    | 0, hq => cases hq; exact ⟨fun n z => ⟨fun k h => (by cases h), kI, i2, pI, i3⟩, i1⟩
    | 1, hq => cases hq; exact ⟨fun n z => ⟨fun k h => (by cases h), kL, l2, pL, l3⟩, l1⟩
    | 2, hq => cases hq; exact ⟨fun n z => ⟨fun k h => (by cases h), kM, m2, pM, m3⟩, kM, pM, m2, m3, m1, m4⟩
    | 3, hq => cases hq; exact ⟨fun n z => ⟨fun k h => (by cases h), kR, r2, pR, r3⟩, kR, pR, r2, r3, r1, r4⟩
    | k + 4, hq => simp [ztys] at hq
  · exact va_Nw.of (zNk_on (List.mem_filter.mp hw).2) (hts w (List.mem_filter.mp hw).1)
  · obtain ⟨h1, h2⟩ := zt_str q hq
    obtain ⟨c, hc⟩ := zt_fc (hts _ h2)
    obtain ⟨k, cf, i, a, -, -, -, -, -, hev⟩ := Cond.stringRef_spec hc (hts _ h1)
    exact ⟨a, vk_R.of (hts _ h1) hev⟩
  · exact va_Nc.of (hfl _ (zt_nc ⟨e, by omega⟩ ⟨e', by omega⟩ (fun h => h3 (by cases h; rfl))))
