/-! THE LAW'S FIRST TURNS: it makes its objects. So many turns of the frame itself, calls that return -/
def zpw (f : Nat) (M : zM) : Nat → Nat → zL → List Value → zG → zH → Option (Nat × zL × List Value × zG × zH)
  | 0, pc, L, st, g, h => some (pc, L, st, g, h)
  | n + 1, pc, L, st, g, h => match zlk M.2.2.2.2.2.2.1 pc with
    | none => none
    | some i => match zstep none true M pc i L st g h with
      | some (.inl q) => zpw f M n q.1 q.2.1 q.2.2.1 q.2.2.2.1 q.2.2.2.2
      | some (.inr (.inr (.inr q))) => match zpr q.1 with
        | none => none
        | some M' => bif Nat.blt M'.2.1 M.2.1 && Nat.ble ((q.2.2.map fun v => v.category).sum) 8 && Nat.ble (zslt q.2.1).length M'.2.2.2.2.1 then (match zrun f none true M' 0 (zent q.2.1 M'.2.2.2.2.1) [] g h with
          | some (.inl r) => zpw f M n (pc + 3) L (r.1.toList ++ q.2.2) r.2.1 r.2.2
          | _ => none) else none
      | _ => none
theorem zpw_inv {f n : Nat} {M : zM} {pc : Nat} {L : zL} {st : List Value} {g : zG} {h : zH} {o : Nat × zL × List Value × zG × zH} (hz : zpw f M (n + 1) pc L st g h = some o) : ∃ i, zlk M.2.2.2.2.2.2.1 pc = some i ∧
    ((∃ q, zstep none true M pc i L st g h = some (.inl q) ∧ zpw f M n q.1 q.2.1 q.2.2.1 q.2.2.2.1 q.2.2.2.2 = some o) ∨
     (∃ q M' r, zstep none true M pc i L st g h = some (.inr (.inr (.inr q))) ∧ zpr q.1 = some M' ∧ M'.2.1 < M.2.1 ∧ (q.2.2.map fun v => v.category).sum ≤ 8 ∧ (zslt q.2.1).length ≤ M'.2.2.2.2.1 ∧ zrun f none true M' 0 (zent q.2.1 M'.2.2.2.2.1) [] g h = some (.inl r) ∧
       zpw f M n (pc + 3) L (r.1.toList ++ q.2.2) r.2.1 r.2.2 = some o)) := by
  rw [zpw] at hz
  split at hz
  · cases hz
  · rename_i i hi
    refine ⟨i, hi, ?_⟩
    split at hz
    · rename_i q hq; exact Or.inl ⟨q, hq, hz⟩
    · rename_i q hq
      split at hz
      · cases hz
      · rename_i M' hM'
        obtain ⟨hi, hz⟩ := zbifO hz
        simp only [Bool.and_eq_true] at hi
        split at hz
        · rename_i r hr
          exact Or.inr ⟨q, M', r, hq, hM', zblt hi.1.1, zble hi.1.2, zble hi.2, hr, hz⟩
        · cases hz
    · cases hz
theorem zpw_le {f : Nat} {M : zM} {n : Nat} : ∀ {pc : Nat} {L : zL} {st : List Value} {g : zG} {h : zH} {o : Nat × zL × List Value × zG × zH}, zpw f M n pc L st g h = some o → g.2.1 ≤ o.2.2.2.1.2.1 ∧ g.2.2 ≤ o.2.2.2.1.2.2 := by
  induction n with
  | zero => intro pc L st g h o hz; cases hz; exact ⟨Nat.le_refl _, Nat.le_refl _⟩
  | succ n ih =>
    intro pc L st g h o hz
    obtain ⟨i, hi, ⟨q, hq, hr⟩ | ⟨q, M', r, hq, -, -, -, -, hr1, hr⟩⟩ := zpw_inv hz
    · have h1 := zstep_le hq
      have h2 := ih hr
      omega
    · have h1 := zrun_le hr1
      have h2 := ih hr
      have z1 : (zoc (.inl r)).1 = r.2.1.2.1 := rfl
      have z2 : (zoc (.inl r)).2 = r.2.1.2.2 := rfl
      omega
set_option maxHeartbeats 4000000 in
/-- the walk of such turns -/
theorem zPW {D : va_G} {cA : Nat → ClassId} {b base : Nat} {l : Launch} (hl : l.stackTraces = false) {f : Nat} {M : zM} {p : Program} {e : Env} {R : Room} {s : State} {m : MethodId} {args : Array Value} {below : List Frame} {meth : Method} {c : Code} {Q : State → Prop}
    (hfr0 : zFr D cA b base none p R s m args meth c M) {o : Nat × zL × List Value × zG × zH} {C0 S0 : Nat} (hC : C0 + o.2.2.2.1.2.1 ≤ R.cells) (hS0 : S0 + o.2.2.2.1.2.2 ≤ R.slots)
    (K : ∀ (H : Heap) (locs : List Loc) (ls : Array Slot), zDy D cA b base true o.2.2.2.1 o.2.2.2.2 H → va_S (fun q => base ≤ q) s.heap H locs → zlv b base ls M.2.2.2.2.1 o.2.1 →
      W p l e R s m args below meth c H locs (C0 + o.2.2.2.1.2.1) (S0 + o.2.2.2.1.2.2) Q (F0 m o.1 ls (o.2.2.1.map (zcv b base)))) (n : Nat) :
    ∀ (pc : Nat) (L : zL) (st : List Value) (g : zG) (h : zH), zpw f M n pc L st g h = some o → ∀ (H : Heap) (locs : List Loc) (ls : Array Slot),
    zDy D cA b base true g h H → va_S (fun q => base ≤ q) s.heap H locs → zlv b base ls M.2.2.2.2.1 L → ∀ (cells slots : Nat), cells = C0 + g.2.1 → slots = S0 + g.2.2 → W p l e R s m args below meth c H locs cells slots Q (F0 m pc ls (st.map (zcv b base))) := by
  have hfr := hfr0
  obtain ⟨hdec, hx, hb, hml, hr, hlk, hnm, hown, hB, htb, hsta, hbs, hsc, hRf, hRl⟩ := hfr
  induction n with
  | zero =>
    intro pc L st g h hz H locs ls hdy hS hlv cells slots hc hs
    cases hz
    subst hc
    subst hs
    exact K H locs ls hdy hS hlv
  | succ n ih =>
    intro pc L st g h hz H locs ls hdy hS hlv cells slots hc hs
    have hle0 := zpw_le hz
    have hsz : ls.size = c.maxLocals := by rw [hml]; exact hlv.1
    obtain ⟨i, hi, ⟨q, hq, hrun⟩ | ⟨q, M', r, hq, hM', hht, hsm, hnl, hr1, hrun⟩⟩ := zpw_inv hz
    · have hle := zpw_le hrun
      have hd := zlk_dec hdec hi
      rcases zstep_inv hq with ⟨r, hz1, hr9⟩ | ⟨r, hz1, hr9⟩ | ⟨r, hz1, hr9⟩ | ⟨r, hz1, hr9⟩ | ⟨r, hz1, hr9⟩ | ⟨r, hz1, hr9⟩ | ⟨r, hz1, hr9⟩ | ⟨hal, r, hz1, hr9⟩ | ⟨hal, r, hz1, hr9⟩
      · cases hr9
        exact zs_stk hz1 hx hb hd (ih _ _ _ _ _ hrun H locs ls hdy hS hlv cells slots hc hs)
      · cases hr9
        exact zs_lcl hz1 hx hb hd hlv (fun ls' hlv' => ih _ _ _ _ _ hrun H locs ls' hdy hS hlv' cells slots hc hs)
      · cases hr9
      · cases hr9
        exact zs_rd hz1 hx hb hd hown hB hsta.2.2.2.1 hsta.1 hdy.1 hS hsc hsz (by omega) (by omega) (ih _ _ _ _ _ hrun H locs ls hdy hS hlv cells slots hc hs)
      · cases hr9
        exact zs_wr hz1 hx hb hd hnm hown hB hsta.2.2.2.1 hsta.1 hdy.1 hS hdy.2 hsz.symm (by omega) (by omega) (fun H1 locs1 hdy1 hS1 => ih _ _ _ _ _ hrun H1 locs1 ls hdy1 hS1 hlv cells slots hc hs)
      · cases hr9
      · cases hr9
      · cases hr9
        have hn9 := znew_le hz1
        dsimp only at hle
        refine zs_new hz1 hx hb hd hown hB hsta.1 ⟨hsta.2.2.2.2.2.2.1, hsta.2.2.2.2.2.2.2⟩ hdy.1 hS (hdy.2 rfl) (by omega) (by omega) (fun H1 hdy1 hS1 hc1 => ih _ _ _ _ _ hrun H1 locs ls hdy1 hS1 hlv (cells + 1) _ ?_ ?_)
        · dsimp only; omega
        · dsimp only; omega
      · cases hr9
    · have hle := zpw_le hrun
      have hd := zlk_dec hdec hi
      rcases zstep_inv hq with ⟨r, hz1, hr9⟩ | ⟨r, hz1, hr9⟩ | ⟨r, hz1, hr9⟩ | ⟨r, hz1, hr9⟩ | ⟨r, hz1, hr9⟩ | ⟨r, hz1, hr9⟩ | ⟨r, hz1, hr9⟩ | ⟨hal, r, hz1, hr9⟩ | ⟨hal, r, hz1, hr9⟩
      · cases hr9
      · cases hr9
      · cases hr9
      · cases hr9
      · cases hr9
      · cases hr9
      · cases hr9
        have hct := zCt_of (zF (D := D) (cA := cA) (b := b) (base := base) (al := true) hl f) hM' hnl hr1
        have hle1 := zrun_le hr1
        have z1 : (zoc (.inl r)).1 = r.2.1.2.1 := rfl
        have z2 : (zoc (.inl r)).2 = r.2.1.2.2 := rfl
        refine zx_go (zs_cal hz1 hM' hd hfr0 hdy hS hsz hsm hht hct (by constructor <;> omega)) hS (fun r' H1 locs1 e1 hdy1 hS1 => ?_) (fun r' H1 locs1 q9 ce e1 => by cases e1)
        cases e1
        have K1 := ih _ _ _ _ _ hrun H1 locs1 ls hdy1 hS1 hlv (cells + ((zoc (.inl r)).1 - g.2.1)) (slots + ((zoc (.inl r)).2 - g.2.2)) (by omega) (by omega)
        have e2 : (r.1.toList ++ q.2.2).map (zcv b base) = (r.1.map (zcv b base)).toList ++ q.2.2.map (zcv b base) := by
          rw [List.map_append]
          cases r.1 <;> rfl
        rw [e2] at K1
        exact K1
      · cases hr9
      · cases hr9
def zh00 : zH := fun _ => .inl (1, 0, .inr (.inl (fun _ => 0)))
def zini : Option (Nat × zL × List Value × zG × zH) := zpw 400 zm_285 13 0 [some (.retAddr 0), none, none, none, none, none, none, none] [] (0, 0, 0) zh00
def zini_q : Option (Nat × zG) := zini.map (fun o => (o.1, o.2.2.2.1))
set_option maxRecDepth 100000 in
theorem zini_1 : zini.isSome = true := by decide +kernel
