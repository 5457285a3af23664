/-- THE WALK: a run of the abstract machine of so much fuel, seen from any frame that it describes -/
def zFst (D : va_G) (cA : Nat → ClassId) (b base : Nat) (al : Bool) (l : Launch) (f : Nat) : Prop :=
  ∀ (sc : Option (Nat × (Nat → Int32))) (M : zM) (pc : Nat) (L : zL) (st : List Value) (g : zG) (h : zH) (o : zO), zrun f sc al M pc L st g h = some o →
  ∀ (p : Program) (e : Env) (R : Room) (s : State) (m : MethodId) (args : Array Value) (below : List Frame) (meth : Method) (c : Code) (H : Heap) (locs : List Loc) (cells slots : Nat) (ls : Array Slot),
    zFr D cA b base sc p R s m args meth c M → zDy D cA b base al g h H → va_S (fun q => base ≤ q) s.heap H locs → zlv b base ls M.2.2.2.2.1 L → cells + (zoc o).1 ≤ R.cells + g.2.1 → slots + (zoc o).2 ≤ R.slots + g.2.2 →
    W p l e R s m args below meth c H locs cells slots (vx_MQ below (zQc D cA b base al o) (zXC D cA b base al o) args s R.cells R.slots (fun q => base ≤ q)) (F0 m pc ls (st.map (zcv b base)))
set_option maxHeartbeats 4000000 in
theorem zCt_of {D : va_G} {cA : Nat → ClassId} {b base : Nat} {al : Bool} {l : Launch} {f : Nat} (hF : zFst D cA b base al l f) {mi : Nat} {M : zM} (hM : zpr mi = some M) {as : List Value} (hn : (zslt as).length ≤ M.2.2.2.2.1) {g : zG} {h : zH} {o : zO}
    (hz : zrun f none al M 0 (zent as M.2.2.2.2.1) [] g h = some o) : zCt D cA b base al l M as g h o := by
  obtain ⟨hdec, hin0, pi, hck⟩ := zpr_ok hM
  unfold zckM at hck
  simp only [Bool.and_eq_true, decide_eq_true_eq] at hck
  obtain ⟨⟨⟨⟨⟨c1, c2⟩, c3⟩, c4⟩, c5⟩, c6⟩ := hck
  have hle := zrun_le hz
  refine MetFree.of_bodySF (code := M.2.2.2.1) (maxLocals := M.2.2.2.2.1) (ret := M.2.2.2.2.2.1) c3 ?_ ?_
  · intro args s m hp hname
    have hw : (zcw M).before args s = true := atoms_spec (ws := zws M) hp _ List.mem_cons_self
    unfold zcw at hw
    split at hw
    · obtain ⟨meth, c, h1, h2, h3, h4, h5, h6, -, -⟩ := Cond.code_spec hname hw
      exact ⟨meth, c, h1, h2, h3, h4, h5, h6⟩
    · obtain ⟨m9, meth, c, hn9, h1, h2, h3, h4, -, h5, h6, -⟩ := Cond.codeWith_spec hw
      cases hname.symm.trans hn9
      exact ⟨meth, c, h1, h2, h3, h4, h5, h6⟩
  · intro p e s m args below meth c s₁ B hml hP _
    obtain ⟨rfl, hsta, hdy, hbs⟩ := hP
    have hts := atoms_spec (ws := zws M) B.pre
    have hw : (zcw M).before (as.map (zcv b base)).toArray s = true := hts _ List.mem_cons_self
    have htb : c.exceptionTable.toList = tableOf M.2.2.2.2.2.2.2 := by
      unfold zcw at hw
      split at hw
      · rename_i hh
        obtain ⟨meth9, c9, h1, h2, -, -, -, -, h7, -⟩ := Cond.code_spec B.named hw
        cases Option.some.inj (h1.symm.trans B.method)
        cases Option.some.inj (h2.symm.trans (Stand.of_body B).code)
        rw [hh, Array.isEmpty_iff.mp h7]
        rfl
      · exact vx_table (x := M.2.2.1) B hw
    have hh0 : s₁.heap = s.heap := by rw [B.state]; rfl
    have hfr : zFr D cA b base none p (zRm M ((zoc o).1 - g.2.1) ((zoc o).2 - g.2.2)) s m (as.map (zcv b base)).toArray meth c M :=
      ⟨hdec, B.exec, B.bytes, hml, B.returns, B.notSynchronized, (name_of_methodNamed B.named B.method).1, by rw [c2]; exact findClass_of_methodNamed B.named, fun w hw9 => hts w (List.mem_cons_of_mem _ hw9), htb, hsta, hbs, fun n f h9 => (nomatch h9), Nat.le_refl _, Nat.le_refl _⟩
    have hl := lv_entry (as.map (zcv b base)) (n := M.2.2.2.2.1) (by rw [zslt_len]; exact hn)
    have hent := lg_entry_eq m (as.map (zcv b base)) M.2.2.2.2.1
    have hlv := zent_ok (b := b) (base := base) hn hl
    have K := hF none M 0 _ [] g h o hz p e (zRm M ((zoc o).1 - g.2.1) ((zoc o).2 - g.2.2)) s m (as.map (zcv b base)).toArray below meth c s.heap [] 0 0 _ hfr hdy va_S.rf hlv (by show 0 + (zoc o).1 ≤ ((zoc o).1 - g.2.1) + g.2.1; omega) (by show 0 + (zoc o).2 ≤ ((zoc o).2 - g.2.2) + g.2.2; omega)
    rw [hent]
    obtain ⟨t, a1, oc, b1, b2, b3⟩ := K s₁ hh0 (Stand.of_body B)
    exact ⟨t, oc, a1, b1, b2, b3⟩
set_option maxHeartbeats 4000000 in
theorem zF {D : va_G} {cA : Nat → ClassId} {b base : Nat} {al : Bool} {l : Launch} (hl : l.stackTraces = false) : ∀ f : Nat, zFst D cA b base al l f := by
  intro f
  induction f with
  | zero => intro sc M pc L st g h o hz; cases hz
  | succ f ih =>
    intro sc M pc L st g h o hz p e R s m args below meth c H locs cells slots ls hfr hdy hS hlv hc hs
    have hfr0 := hfr
    obtain ⟨hdec, hx, hb, hml, hr, hlk, hnm, hown, hB, htb, hsta, hbs, hsc, hRf, hRl⟩ := hfr
    obtain ⟨i, hi, h9⟩ := zrun_inv hz
    have hd := zlk_dec hdec hi
    have hsz : ls.size = c.maxLocals := by rw [hml]; exact hlv.1
    rcases h9 with ⟨q, hq, hrun⟩ | ⟨q, hq, hrun⟩ | hq | ⟨q, M', o1, hq, hM', hht, hsm, hnl, hr1, hcs⟩
    · have hle := zrun_le hrun
      rcases zstep_inv hq with ⟨r, hz1, hr9⟩ | ⟨r, hz1, hr9⟩ | ⟨r, hz1, hr9⟩ | ⟨r, hz1, hr9⟩ | ⟨r, hz1, hr9⟩ | ⟨r, hz1, hr9⟩ | ⟨r, hz1, hr9⟩ | ⟨hal, r, hz1, hr9⟩ | ⟨hal, r, hz1, hr9⟩
      · cases hr9
        exact zs_stk hz1 hx hb hd (ih _ _ _ _ _ _ _ _ hrun p e R s m args below meth c H locs cells slots ls hfr0 hdy hS hlv hc hs)
      · cases hr9
        exact zs_lcl hz1 hx hb hd hlv (fun ls' hlv' => ih _ _ _ _ _ _ _ _ hrun p e R s m args below meth c H locs cells slots ls' hfr0 hdy hS hlv' hc hs)
      · cases hr9
      · cases hr9
        exact zs_rd hz1 hx hb hd hown hB hsta.2.2.2.1 hsta.1 hdy.1 hS hsc hsz (by omega) (by omega) (ih _ _ _ _ _ _ _ _ hrun p e R s m args below meth c H locs cells slots ls hfr0 hdy hS hlv hc hs)
      · cases hr9
        exact zs_wr hz1 hx hb hd hnm hown hB hsta.2.2.2.1 hsta.1 hdy.1 hS hdy.2 hsz.symm (by omega) (by omega) (fun H1 locs1 hdy1 hS1 => ih _ _ _ _ _ _ _ _ hrun p e R s m args below meth c H1 locs1 cells slots ls hfr0 hdy1 hS1 hlv hc hs)
      · cases hr9
      · cases hr9
      · cases hr9
        subst hal
        have hn9 := znew_le hz1
        dsimp only at hle
        refine zs_new hz1 hx hb hd hown hB hsta.1 ⟨hsta.2.2.2.2.2.2.1, hsta.2.2.2.2.2.2.2⟩ hdy.1 hS (hdy.2 rfl) (by omega) (by omega) (fun H1 hdy1 hS1 hc1 => ih _ _ _ _ _ _ _ _ hrun p e R s m args below meth c H1 locs (cells + 1) _ ls hfr0 hdy1 hS1 hlv ?_ ?_)
        · dsimp only; omega
        · dsimp only; omega
      · cases hr9
    · rcases zstep_inv hq with ⟨r, hz1, hr9⟩ | ⟨r, hz1, hr9⟩ | ⟨r, hz1, hr9⟩ | ⟨r, hz1, hr9⟩ | ⟨r, hz1, hr9⟩ | ⟨r, hz1, hr9⟩ | ⟨r, hz1, hr9⟩ | ⟨hal, r, hz1, hr9⟩ | ⟨hal, r, hz1, hr9⟩
      · cases hr9
      · cases hr9
      · cases hr9
        rcases hrun with ⟨hb1, hrun⟩ | ⟨hb1, hrun⟩
        · exact zs_br hz1 hx hb hd (fun _ => ih _ _ _ _ _ _ _ _ hrun p e R s m args below meth c H locs cells slots ls hfr0 hdy hS hlv hc hs) (fun h8 => by rw [hb1] at h8; cases h8)
        · exact zs_br hz1 hx hb hd (fun h8 => by rw [hb1] at h8; cases h8) (fun _ => ih _ _ _ _ _ _ _ _ hrun p e R s m args below meth c H locs cells slots ls hfr0 hdy hS hlv hc hs)
      · cases hr9
      · cases hr9
      · cases hr9
      · cases hr9
      · cases hr9
      · cases hr9
    · rcases zstep_inv hq with ⟨r, hz1, hr9⟩ | ⟨r, hz1, hr9⟩ | ⟨r, hz1, hr9⟩ | ⟨r, hz1, hr9⟩ | ⟨r, hz1, hr9⟩ | ⟨v, hz1, hr9⟩ | ⟨r, hz1, hr9⟩ | ⟨hal, r, hz1, hr9⟩ | ⟨hal, ex, hz1, hr9⟩
      · cases hr9
      · cases hr9
      · cases hr9
      · cases hr9
      · cases hr9
      · cases hr9
        refine zs_ret hz1 hx hb hd hr hlk (by have h8 : cells + g.2.1 ≤ R.cells + g.2.1 := hc; omega) (by have h8 : slots + g.2.2 ≤ R.slots + g.2.2 := hs; omega) (fun t ht hW => ⟨rfl, by rw [ht]; exact hdy, hS.F ht⟩) hS.2.2
      · cases hr9
      · cases hr9
      · cases hr9
        subst hal
        have h8 : cells + (g.2.1 + 1) ≤ R.cells + g.2.1 := hc
        have h7 : slots + (g.2.2 + 6) ≤ R.slots + g.2.2 := hs
        exact zs_thr hz1 hi hl hx hb hdec hown hB hsta htb hlk hdy.1 hS hsz (by omega) (by omega) (by omega) (by omega) (by omega) (by omega)
    · rcases zstep_inv hq with ⟨r, hz1, hr9⟩ | ⟨r, hz1, hr9⟩ | ⟨r, hz1, hr9⟩ | ⟨r, hz1, hr9⟩ | ⟨r, hz1, hr9⟩ | ⟨r, hz1, hr9⟩ | ⟨r, hz1, hr9⟩ | ⟨hal, r, hz1, hr9⟩ | ⟨hal, r, hz1, hr9⟩
      · cases hr9
      · cases hr9
      · cases hr9
      · cases hr9
      · cases hr9
      · cases hr9
      · cases hr9
        have hct := zCt_of ih hM' hnl hr1
        have hle1 := zrun_le hr1
        rcases hcs with ⟨r, rfl, hrun⟩ | ⟨r, rfl, hh, rfl⟩ | ⟨r, k, rfl, hk, hkl, hrun⟩
        · have hle2 := zrun_le hrun
          have z1 : (zoc (.inl r)).1 = r.2.1.2.1 := rfl
          have z2 : (zoc (.inl r)).2 = r.2.1.2.2 := rfl
          refine zx_go (zs_cal hz1 hM' hd hfr0 hdy hS hsz hsm hht hct (by constructor <;> omega)) hS (fun r' H1 locs1 e1 hdy1 hS1 => ?_) (fun r' H1 locs1 q9 ce e1 => by cases e1)
          cases e1
          have K := ih _ _ _ _ _ _ _ _ hrun p e R s m args below meth c H1 locs1 (cells + ((zoc (.inl r)).1 - g.2.1)) (slots + ((zoc (.inl r)).2 - g.2.2)) ls hfr0 hdy1 hS1 hlv (by have : (zoc (.inl r)).1 = r.2.1.2.1 := rfl; omega) (by have : (zoc (.inl r)).2 = r.2.1.2.2 := rfl; omega)
          have e2 : (r.1.toList ++ q.2.2).map (zcv b base) = (r.1.map (zcv b base)).toList ++ q.2.2.map (zcv b base) := by
            rw [List.map_append]
            cases r.1 <;> rfl
          rw [e2] at K
          exact K
        · refine zx_go (zs_cal hz1 hM' hd hfr0 hdy hS hsz hsm hht hct (by constructor <;> omega)) hS (fun r' H1 locs1 e1 => by cases e1) (fun r' H1 locs1 q9 ce e1 hex hdy1 hS1 hce hcv hcl => ?_)
          cases e1
          refine vx_out (E := zexn r.1) (fun x hx9 => ?_) hlk hce hcv hcl (fun t ht _ => ⟨rfl, hex, by rw [ht]; exact hdy1, hS1.F ht⟩) hS1.2.2 (by omega) (by omega)
          rw [htb, hh] at hx9
          cases hx9
        · have hle2 := zrun_le hrun
          dsimp only at hle2
          refine zx_go (zs_cal hz1 hM' hd hfr0 hdy hS hsz hsm hht hct (by have : (zoc (.inr r)).1 = r.2.1.2.1 + 1 := rfl; have : (zoc (.inr r)).2 = r.2.1.2.2 + 6 := rfl; constructor <;> omega)) hS (fun r' H1 locs1 e1 => by cases e1) (fun r' H1 locs1 q9 ce e1 hex hdy1 hS1 hce hcv hcl => ?_)
          cases e1
          obtain ⟨pre, x, suf, t1, t2, t3, t4, t5, t6, t7⟩ := zhan_ok hdec hk
          have K : ∀ ls', zlv b base ls' M.2.2.2.2.1 (zst0 L k.2) → W p l e R s m args below meth c H1 locs1 (cells + ((zoc (.inr r)).1 - g.2.1)) (slots + ((zoc (.inr r)).2 - g.2.2)) (vx_MQ below (zQc D cA b base al o) (zXC D cA b base al o) args s R.cells R.slots (fun q => base ≤ q)) (F0 m k.1 ls' []) := fun ls' hlv' =>
            ih _ _ _ _ _ _ _ _ hrun p e R s m args below meth c H1 locs1 _ _ ls' hfr0 hdy1 hS1 hlv' (by have : (zoc (.inr r)).1 = r.2.1.2.1 + 1 := rfl; dsimp only; omega) (by have : (zoc (.inr r)).2 = r.2.1.2.2 + 6 := rfl; dsimp only; omega)
          refine vx_catch hown pre x suf (htb.trans t1) (fun z hz9 => ?_) t3 t4 (hB _ t5) (va_Nw.use rfl (hsta.2.2.2.1 _ t6)) hce hcv hcl ?_
          · rcases t2 z hz9 with h8 | ⟨h8, e', h7, h6, h5⟩
            · exact Or.inl h8
            · exact Or.inr ⟨h8, zexn e', hB _ h5, hsta.2.2.2.2.2.1 r.1 e' hex h7 (Ne.symm h6)⟩
          · have hkl' : k.2 < M.2.2.2.2.1 := by rw [← hlv.2.1]; exact hkl
            rcases t7 with ⟨n, hn9, hd9, hk9⟩ | ⟨hd9, hk9⟩
            · rw [hk9] at K
              exact lv_astore_n hx hb hd9 hn9 (zlv_has hlv) hkl' rfl (fun ls' h' => K ls' (zst0_ok hlv h'))
            · rw [hk9] at K
              exact lv_astore hx hb hd9 (zlv_has hlv) hkl' rfl (fun ls' h' => K ls' (zst0_ok hlv h'))
      · cases hr9
      · cases hr9
