/-! outcomes, their counts; inversion of a step -/
def zoc (o : zO) : Nat × Nat := match o with
  | .inl q => (q.2.1.2.1, q.2.1.2.2)
  | .inr q => (q.2.1.2.1 + 1, q.2.1.2.2 + 6)
def zQc (D : va_G) (cA : Nat → ClassId) (b base : Nat) (al : Bool) (o : zO) : Array Value → State → Outcome → State → Prop := fun _ st oc t => match o with
  | .inl q => oc = .returned (q.1.map (zcv b base)) ∧ zDy D cA b base al q.2.1 q.2.2 t.heap ∧ va_F (fun x => base ≤ x) st t
  | .inr _ => False
def zXC (D : va_G) (cA : Nat → ClassId) (b base : Nat) (al : Bool) (o : zO) : String → State → State → Prop := fun E st t => match o with
  | .inl _ => False
  | .inr q => E = zexn q.1 ∧ q.1 ≤ 3 ∧ zDy D cA b base al q.2.1 q.2.2 t.heap ∧ va_F (fun x => base ≤ x) st t
theorem zstep_inv {sc : Option (Nat × (Nat → Int32))} {al : Bool} {M : zM} {pc : Nat} {i : Instr} {L : zL} {st : List Value} {g : zG} {h : zH} {r : zS} (hz : zstep sc al M pc i L st g h = some r) :
    (∃ q, zstk i st = some q ∧ r = .inl (pc + q.1, L, q.2, g, h)) ∨ (∃ q, zlcl i L st = some q ∧ r = .inl (pc + q.1, q.2.1, q.2.2, g, h)) ∨ (∃ q, zbr i pc st = some q ∧ r = .inr (.inl q)) ∨
    (∃ q, zrd sc M.1 i st g h = some q ∧ r = .inl (pc + q.1, L, q.2, g, h)) ∨ (∃ q, zwr al M i st g h = some q ∧ r = .inl (pc + q.1, L, q.2.1, g, q.2.2)) ∨ (∃ v, zret M i st = some v ∧ r = .inr (.inr (.inl (.inl (v, g, h))))) ∨
    (∃ q, zcal M.1 i st g h = some q ∧ r = .inr (.inr (.inr q))) ∨ (al = true ∧ ∃ q, znew M.1 i st g h = some q ∧ r = .inl (pc + q.1, L, q.2.1, q.2.2.1, q.2.2.2)) ∨ (al = false ∧ ∃ e, zthr M pc i st = some e ∧ r = .inr (.inr (.inl (.inr (e, g, h))))) := by
  unfold zstep at hz
  split at hz
  · rename_i q hq; exact Or.inl ⟨q, hq, (Option.some.inj hz).symm⟩
  · split at hz
    · rename_i q hq; exact Or.inr (Or.inl ⟨q, hq, (Option.some.inj hz).symm⟩)
    · split at hz
      · rename_i q hq; exact Or.inr (Or.inr (Or.inl ⟨q, hq, (Option.some.inj hz).symm⟩))
      · split at hz
        · rename_i q hq; exact Or.inr (Or.inr (Or.inr (Or.inl ⟨q, hq, (Option.some.inj hz).symm⟩)))
        · split at hz
          · rename_i q hq; exact Or.inr (Or.inr (Or.inr (Or.inr (Or.inl ⟨q, hq, (Option.some.inj hz).symm⟩))))
          · split at hz
            · rename_i q hq; exact Or.inr (Or.inr (Or.inr (Or.inr (Or.inr (Or.inl ⟨q, hq, (Option.some.inj hz).symm⟩)))))
            · split at hz
              · rename_i q hq; exact Or.inr (Or.inr (Or.inr (Or.inr (Or.inr (Or.inr (Or.inl ⟨q, hq, (Option.some.inj hz).symm⟩))))))
              · split at hz
                · split at hz
                  · rename_i q hq; exact Or.inr (Or.inr (Or.inr (Or.inr (Or.inr (Or.inr (Or.inr (Or.inl ⟨rfl, q, hq, (Option.some.inj hz).symm⟩)))))))
                  · cases hz
                · split at hz
                  · rename_i q hq; exact Or.inr (Or.inr (Or.inr (Or.inr (Or.inr (Or.inr (Or.inr (Or.inr ⟨rfl, q, hq, (Option.some.inj hz).symm⟩)))))))
                  · cases hz
theorem znew_le {o : Nat} {i : Instr} {st : List Value} {g : zG} {h : zH} {q : Nat × List Value × zG × zH} (hz : znew o i st g h = some q) : g.2.1 + 1 = q.2.2.1.2.1 ∧ g.2.2 ≤ q.2.2.1.2.2 := by
  unfold znew at hz
  split at hz
  · split at hz
    · split at hz
      · cases hz; exact ⟨rfl, Nat.le_add_right _ _⟩
      · cases hz
    · cases hz
  · split at hz
    · obtain ⟨-, rfl⟩ := zbifN hz; exact ⟨rfl, Nat.le_add_right _ _⟩
    · cases hz
  · split at hz
    · obtain ⟨-, rfl⟩ := zbifN hz; exact ⟨rfl, Nat.le_add_right _ _⟩
    · cases hz
  · split at hz
    · obtain ⟨-, rfl⟩ := zbifN hz; exact ⟨rfl, Nat.le_add_right _ _⟩
    · cases hz
  · cases hz
theorem zstep_le {sc : Option (Nat × (Nat → Int32))} {al : Bool} {M : zM} {pc : Nat} {i : Instr} {L : zL} {st : List Value} {g : zG} {h : zH} {q : Nat × zL × List Value × zG × zH} (hz : zstep sc al M pc i L st g h = some (.inl q)) : g.2.1 ≤ q.2.2.2.1.2.1 ∧ g.2.2 ≤ q.2.2.2.1.2.2 := by
  rcases zstep_inv hz with ⟨r, -, hr⟩ | ⟨r, -, hr⟩ | ⟨r, -, hr⟩ | ⟨r, -, hr⟩ | ⟨r, -, hr⟩ | ⟨r, -, hr⟩ | ⟨r, -, hr⟩ | ⟨-, r, h1, hr⟩ | ⟨-, r, -, hr⟩
  · cases hr; exact ⟨Nat.le_refl _, Nat.le_refl _⟩
  · cases hr; exact ⟨Nat.le_refl _, Nat.le_refl _⟩
  · cases hr
  · cases hr; exact ⟨Nat.le_refl _, Nat.le_refl _⟩
  · cases hr; exact ⟨Nat.le_refl _, Nat.le_refl _⟩
  · cases hr
  · cases hr
  · cases hr
    have := znew_le h1
    exact ⟨by dsimp only; omega, this.2⟩
  · cases hr
theorem zstep_end {sc : Option (Nat × (Nat → Int32))} {al : Bool} {M : zM} {pc : Nat} {i : Instr} {L : zL} {st : List Value} {g : zG} {h : zH} {o : zO} (hz : zstep sc al M pc i L st g h = some (.inr (.inr (.inl o)))) : g.2.1 ≤ (zoc o).1 ∧ g.2.2 ≤ (zoc o).2 := by
  rcases zstep_inv hz with ⟨r, -, hr⟩ | ⟨r, -, hr⟩ | ⟨r, -, hr⟩ | ⟨r, -, hr⟩ | ⟨r, -, hr⟩ | ⟨r, -, hr⟩ | ⟨r, -, hr⟩ | ⟨-, r, h1, hr⟩ | ⟨-, r, -, hr⟩
  · cases hr
  · cases hr
  · cases hr
  · cases hr
  · cases hr
  · cases hr; exact ⟨Nat.le_refl _, Nat.le_refl _⟩
  · cases hr
  · cases hr
  · cases hr; exact ⟨Nat.le_succ _, Nat.le_add_right _ _⟩
/-- one turn of zrun, by what the step says -/
theorem zrun_inv {f : Nat} {sc : Option (Nat × (Nat → Int32))} {al : Bool} {M : zM} {pc : Nat} {L : zL} {st : List Value} {g : zG} {h : zH} {o : zO} (hz : zrun (f + 1) sc al M pc L st g h = some o) : ∃ i, zlk M.2.2.2.2.2.2.1 pc = some i ∧
    ((∃ q, zstep sc al M pc i L st g h = some (.inl q) ∧ zrun f sc al M q.1 q.2.1 q.2.2.1 q.2.2.2.1 q.2.2.2.2 = some o) ∨
     (∃ q, zstep sc al M pc i L st g h = some (.inr (.inl q)) ∧ ((q.1 = true ∧ zrun f sc al M q.2.1 L q.2.2.2 g h = some o) ∨ (q.1 = false ∧ zrun f sc al M q.2.2.1 L q.2.2.2 g h = some o))) ∨
     zstep sc al M pc i L st g h = some (.inr (.inr (.inl o))) ∨
     (∃ q M' o1, zstep sc al M pc i L st g h = some (.inr (.inr (.inr q))) ∧ zpr q.1 = some M' ∧ M'.2.1 < M.2.1 ∧ (q.2.2.map fun v => v.category).sum ≤ 8 ∧ (zslt q.2.1).length ≤ M'.2.2.2.2.1 ∧ zrun f none al M' 0 (zent q.2.1 M'.2.2.2.2.1) [] g h = some o1 ∧
       ((∃ r, o1 = .inl r ∧ zrun f sc al M (pc + 3) L (r.1.toList ++ q.2.2) r.2.1 r.2.2 = some o) ∨
        (∃ r, o1 = .inr r ∧ M.2.2.2.2.2.2.2 = [] ∧ o = .inr r) ∨
        (∃ r k, o1 = .inr r ∧ zhan M pc r.1 M.2.2.2.2.2.2.2 = some k ∧ k.2 < L.length ∧ zrun f sc al M k.1 (zst0 L k.2) [] (r.2.1.1, r.2.1.2.1 + 1, r.2.1.2.2 + 6) r.2.2 = some o)))) := by
  rw [zrun] at hz
  split at hz
  · cases hz
  · rename_i i hi
    refine ⟨i, hi, ?_⟩
    split at hz
    · cases hz
    · rename_i q hq; exact Or.inl ⟨q, hq, hz⟩
    · rename_i q hq
      refine Or.inr (Or.inl ⟨q, hq, ?_⟩)
      split at hz
      · rename_i hb; exact Or.inl ⟨hb, hz⟩
      · rename_i hb; exact Or.inr ⟨hb, hz⟩
    · rename_i o' hq
      cases hz
      exact Or.inr (Or.inr (Or.inl hq))
    · rename_i q hq
      split at hz
      · cases hz
      · rename_i M' hM'
        obtain ⟨hi, hz⟩ := zbifO hz
        simp only [Bool.and_eq_true] at hi
        split at hz
        · cases hz
        · rename_i r hr
          exact Or.inr (Or.inr (Or.inr ⟨q, M', _, hq, hM', zblt hi.1.1, zble hi.1.2, zble hi.2, hr, Or.inl ⟨r, rfl, hz⟩⟩))
        · rename_i r hr
          split at hz
          · rename_i hh
            cases hz
            exact Or.inr (Or.inr (Or.inr ⟨q, M', _, hq, hM', zblt hi.1.1, zble hi.1.2, zble hi.2, hr, Or.inr (Or.inl ⟨r, rfl, hh, rfl⟩)⟩))
          · split at hz
            · rename_i k hk
              obtain ⟨hl, hz⟩ := zbifO hz
              exact Or.inr (Or.inr (Or.inr ⟨q, M', _, hq, hM', zblt hi.1.1, zble hi.1.2, zble hi.2, hr, Or.inr (Or.inr ⟨r, k, rfl, hk, zblt hl, hz⟩)⟩))
            · cases hz
theorem zrun_le {f : Nat} : ∀ {sc : Option (Nat × (Nat → Int32))} {al : Bool} {M : zM} {pc : Nat} {L : zL} {st : List Value} {g : zG} {h : zH} {o : zO}, zrun f sc al M pc L st g h = some o → g.2.1 ≤ (zoc o).1 ∧ g.2.2 ≤ (zoc o).2 := by
  induction f with
  | zero => intro sc al M pc L st g h o hz; cases hz
  | succ f ih =>
    intro sc al M pc L st g h o hz
    obtain ⟨i, hi, h9⟩ := zrun_inv hz
    rcases h9 with ⟨q, hq, hr⟩ | ⟨q, hq, hr⟩ | hq | ⟨q, M', o1, hq, hM', -, -, -, hr, hc⟩
    · have h1 := zstep_le hq
      have h2 := ih hr
      exact ⟨Nat.le_trans h1.1 h2.1, Nat.le_trans h1.2 h2.2⟩
    · rcases hr with ⟨-, hr⟩ | ⟨-, hr⟩ <;> exact ih hr
    · exact zstep_end hq
    · have h1 := ih hr
      rcases hc with ⟨r, rfl, h2⟩ | ⟨r, rfl, -, rfl⟩ | ⟨r, k, rfl, -, -, h2⟩
      · have h3 := ih h2
        exact ⟨Nat.le_trans h1.1 h3.1, Nat.le_trans h1.2 h3.2⟩
      · exact h1
      · have h3 := ih h2
        exact ⟨Nat.le_trans h1.1 h3.1, Nat.le_trans h1.2 h3.2⟩
/-- more fuel, the same end -/
theorem zrun_up {f : Nat} : ∀ {sc : Option (Nat × (Nat → Int32))} {al : Bool} {M : zM} {pc : Nat} {L : zL} {st : List Value} {g : zG} {h : zH} {o : zO}, zrun f sc al M pc L st g h = some o → zrun (f + 1) sc al M pc L st g h = some o := by
  induction f with
  | zero => intro sc al M pc L st g h o hz; cases hz
  | succ f ih =>
    intro sc al M pc L st g h o hz
    rw [zrun] at hz ⊢
    split at hz
    · cases hz
    · rename_i i hi
      (try rw [hi])
      (try dsimp only)
      split at hz
      · cases hz
      · rename_i q hq; (try rw [hq]); exact ih hz
      · rename_i q hq
        (try rw [hq])
        (try dsimp only)
        split at hz
        · rename_i hb; (try rw [hb]); exact ih hz
        · rename_i hb; (try rw [hb]); exact ih hz
      · rename_i o' hq; (try rw [hq]); exact hz
      · rename_i q hq
        (try rw [hq])
        (try dsimp only)
        split at hz
        · cases hz
        · rename_i M' hM'
          (try rw [hM'])
          (try dsimp only)
          obtain ⟨hi', hz⟩ := zbifO hz
          (try rw [hi', cond_true])
          split at hz
          · cases hz
          · rename_i r hr; (try rw [ih hr]); exact ih hz
          · rename_i r hr
            (try rw [ih hr])
            (try dsimp only)
            split at hz
            · rename_i hh; (try rw [hh]); exact hz
            · rename_i hh
              split at hz
              · rename_i k hk
                (try rw [hk])
                (try dsimp only)
                obtain ⟨hl, hz⟩ := zbifO hz
                (try rw [hl, cond_true])
                exact ih hz
              · cases hz
theorem zrun_add {f : Nat} (k : Nat) {sc : Option (Nat × (Nat → Int32))} {al : Bool} {M : zM} {pc : Nat} {L : zL} {st : List Value} {g : zG} {h : zH} {o : zO} (hz : zrun f sc al M pc L st g h = some o) : zrun (f + k) sc al M pc L st g h = some o := by
  induction k with
  | zero => exact hz
  | succ k ih => exact zrun_up ih
/-! a throw -/
section ZS8
variable {p : Program} {l : Launch} {e : Env} {R : Room} {s : State} {m : MethodId} {args : Array Value} {below : List Frame} {meth : Method} {c : Code} {H : Heap} {locs : List Loc} {cells slots : Nat} {Q : State → Prop}
variable {pc : Nat} {ls : Array Slot} {b base : Nat} {D : va_G} {cA : Nat → ClassId} {g : zG} {h : zH}
theorem zTSw {o ik is ic : Nat} {w : Bool} {T : List (Nat × Nat × Nat × Bool × Nat × String × Nat × Nat)} {ex : Nat} (hT : zTS[o]? = some T) (hz : zts o ik is ic w T = some ex) (hB : ∀ w ∈ zB, w.before args s = true) (hN : ∀ w ∈ zNws, va_Nw w s) :
    ex ≤ 3 ∧ Bundle.fit (zexn ex) = true ∧ (Cond.classLink (zon o) ik (zexn ex)).before args s = true ∧ (Cond.initialized (zexn ex)).before args s = true ∧ (∀ w ∈ vx_atS (zon o) ic (zexn ex) znms, w.before args s = true ∧ vx_ot w = true) ∧ ∃ tx, (zon o, is, tx) ∈ zSTR := by
  obtain ⟨tx, q1, q2, hm⟩ := zts_mem hz
  have h1 := zTS_ok o T hT _ hm
  unfold zckTS at h1
  dsimp only at h1
  simp only [Bool.and_eq_true, decide_eq_true_eq, List.all_eq_true, Bool.or_eq_true] at h1
  obtain ⟨⟨⟨⟨⟨h2, h3⟩, h4⟩, h5⟩, h6⟩, h7⟩ := h1
  refine ⟨zble h6, h5, hB _ (zB_of h3 rfl), hB _ (zB_of h4 rfl), fun w hw => ?_, tx, h2⟩
  obtain ⟨⟨g1, g2⟩, g3⟩ := h7 w hw
  refine ⟨?_, g1⟩
  rcases g2 with g2 | g2
  · exact hB w (List.mem_filter.mpr ⟨g3, g2⟩)
  · refine va_Nw.use ?_ (hN w (List.mem_filter.mpr ⟨g3, g2⟩))
    cases w <;> first | rfl | (simp [zNk] at g2)
set_option maxHeartbeats 4000000 in
theorem zs_thr {M : zM} {i : Instr} {st : List Value} {ex : Nat} (hz : zthr M pc i st = some ex) (hi0 : zlk M.2.2.2.2.2.2.1 pc = some i) (hl : l.stackTraces = false) (hx : p.tables.exec = Jvm.exec) (hb : c.code = M.2.2.2.1) (hdec : zckD M = true)
    (hown : s.vm.findClass (zon M.1) = some m.cls) (hB : ∀ w ∈ zB, w.before args s = true) (hsta : zSta D cA base s) (htb : c.exceptionTable.toList = tableOf M.2.2.2.2.2.2.2) (hlocks : meth.locks = false)
    (hP : va_P D zcl (zw b base cA g.1 h) H) (hS : va_S (fun q => base ≤ q) s.heap H locs) (hsz : ls.size = c.maxLocals) (hRf : 8 ≤ R.frames) (hRl : 200 ≤ R.locals) {mc ms : Nat} (hRc : cells + 1 ≤ R.cells) (hRs : slots + 6 ≤ R.slots) (hc : cells + 1 ≤ mc) (hs : slots + 6 ≤ ms) {Qc : Array Value → State → Outcome → State → Prop} :
    W p l e R s m args below meth c H locs cells slots (vx_MQ below Qc (zXC D cA b base false (.inr (ex, g, h))) args s mc ms (fun q => base ≤ q)) (F0 m pc ls (st.map (zcv b base))) := by
  obtain ⟨hK, hU, hNl, hN, hstr, -, -, -⟩ := hsta
  have hend : ex ≤ 3 → ∀ t : State, s.vm.Alike t.vm → H.size ≤ t.heap.size → (∀ q : Nat, q < H.size → t.heap[q]? = H[q]?) → zXC D cA b base false (.inr (ex, g, h)) (zexn ex) s t := by
    intro hex t _ hz1 hk1
    refine ⟨rfl, hex, ⟨hP.kept fun k q hq => hk1 _ ((hP k q hq).lt), fun h9 => by cases h9⟩, Nat.le_trans hS.1 hz1, fun q h1 h2 => ?_⟩
    rw [hk1 q (Nat.lt_of_lt_of_le h1 hS.1)]
    exact hS.2.1 q h1 h2
  have hnm : ∀ n ∈ znms, Bundle.fit n = true := by decide +kernel
  unfold zthr at hz
  split at hz
  · rename_i ik hh9
    have hout : ∀ x ∈ c.exceptionTable.toList, covers x (pc + 9) = false ∧ covers x (pc + 10) = false := fun x hx9 => by
      rw [htb, hh9] at hx9
      cases hx9
    have d0 := zlk_dec hdec hi0
    split at hz
    · rename_i is T h3 h4 hT
      split at hz
      · rename_i ic h6 h9
        obtain ⟨g1, g2, g3, g4, g5, tx, g6⟩ := zTSw (args := args) (s := s) hT hz hB hN
        obtain ⟨sa, hsa⟩ := hstr _ g6
        refine vx_throwS (names := znms) (rest := []) hx hb hl hown g2 hnm g3 g4 hsa (fun w hw => (g5 w hw).1) (fun w hw => ?_) hU hNl hS hsz d0 (zlk_dec hdec h3) (zlk_dec hdec h4) (zlk_dec hdec h6) (zlk_dec hdec h9) (fun x hx9 => (hout x hx9).1) (by show 2 + 3 < R.frames; omega) (by show 0 + (13 * (2 + 1) + 43) ≤ R.locals; omega) hRc hRs hlocks (hend g1) hS.2.2 hc hs
        rcases List.mem_cons.mp hw with rfl | hw
        · rfl
        · rcases List.mem_cons.mp hw with rfl | hw
          · rfl
          · exact (g5 w hw).2
      · cases hz
    · rename_i is T h3 h4 hT
      split at hz
      · rename_i ic h6 h9
        obtain ⟨g1, g2, g3, g4, g5, tx, g6⟩ := zTSw (args := args) (s := s) hT hz hB hN
        obtain ⟨sa, hsa⟩ := hstr _ g6
        refine vx_throwSW (names := znms) (rest := []) hx hb hl hown g2 hnm g3 g4 hsa (fun w hw => (g5 w hw).1) (fun w hw => ?_) hU hNl hS hsz d0 (zlk_dec hdec h3) (zlk_dec hdec h4) (zlk_dec hdec h6) (zlk_dec hdec h9) (fun x hx9 => (hout x hx9).2) (by show 2 + 3 < R.frames; omega) (by show 0 + (13 * (2 + 1) + 43) ≤ R.locals; omega) hRc hRs hlocks (hend g1) hS.2.2 hc hs
        rcases List.mem_cons.mp hw with rfl | hw
        · rfl
        · rcases List.mem_cons.mp hw with rfl | hw
          · rfl
          · exact (g5 w hw).2
      · cases hz
    · cases hz
  · cases hz
end ZS8
