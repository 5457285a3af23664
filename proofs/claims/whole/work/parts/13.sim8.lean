section ZS9
variable {p : Program} {l : Launch} {e : Env} {R : Room} {s : State} {m : MethodId} {args : Array Value} {below : List Frame} {meth : Method} {c : Code} {H : Heap} {locs : List Loc} {cells slots : Nat} {Q : State → Prop}
variable {pc : Nat} {ls : Array Slot} {b base : Nat} {D : va_G} {cA : Nat → ClassId} {g : zG} {h : zH} {al : Bool}
/-- behind a call: what it answered, or what it threw -/
theorem zx_go {o : zO} {st0 rest : List Value} {aa : Array Value} {mc ms : Nat} (hr : vx_Run p l e R s m args below meth c H locs cells slots mc ms (F0 m pc ls st0) rest (zQc D cA b base al o aa) (zXC D cA b base al o) (fun q => base ≤ q)) (hS : va_S (fun q => base ≤ q) s.heap H locs)
    (kr : ∀ (r : Option Value × zG × zH) (H1 : Heap) (locs1 : List Loc), o = .inl r → zDy D cA b base al r.2.1 r.2.2 H1 → va_S (fun q => base ≤ q) s.heap H1 locs1 → W p l e R s m args below meth c H1 locs1 (cells + mc) (slots + ms) Q (F0 m (pc + 3) ls ((r.1.map (zcv b base)).toList ++ rest)))
    (kx : ∀ (r : Nat × zG × zH) (H1 : Heap) (locs1 : List Loc) (q9 : Nat) (ce : Cell), o = .inr r → r.1 ≤ 3 → zDy D cA b base al r.2.1 r.2.2 H1 → va_S (fun q => base ≤ q) s.heap H1 locs1 → H1[q9]? = some ce → ce.vm = .none → s.vm.findClass (zexn r.1) = some ce.cls → vx_W p l e R s m args below meth c H1 locs1 (cells + mc) (slots + ms) Q (F0 m pc ls rest) q9) :
    W p l e R s m args below meth c H locs cells slots Q (F0 m pc ls st0) := by
  intro T hT X
  rcases hr T hT X with ⟨v, st₀, t, T', L, h0, X', hL, e1, e2, hq, st⟩ | ⟨q, st₀, t, T', L, E, ce, h0, X', hL, e1, e2, hq, hce, hcv, hcl, st⟩
  · cases o with
    | inr r => exact hq.elim
    | inl r =>
      obtain ⟨hv, hdy, hF⟩ := hq
      cases hv
      obtain ⟨k1, k2, k3⟩ := vx_keep (A0 := fun q => base ≤ q) (A1 := fun q => base ≤ q) (free := fun q => base ≤ q) h0 e1 hS (fun q _ h9 => h9) (fun q h9 => h9) hL hF
      obtain ⟨t2, a1, b1⟩ := kr r T'.heap (locs ++ L) rfl (by rw [e1]; exact hdy) k3 T' rfl X'
      exact ⟨t2, st t2 a1, b1⟩
  · cases o with
    | inl r => exact hq.elim
    | inr r =>
      obtain ⟨hv, hex, hdy, hF⟩ := hq
      subst hv
      obtain ⟨k1, k2, k3⟩ := vx_keep (A0 := fun q => base ≤ q) (A1 := fun q => base ≤ q) (free := fun q => base ≤ q) h0 e1 hS (fun q _ h9 => h9) (fun q h9 => h9) hL hF
      obtain ⟨t2, a1, b1⟩ := kx r T'.heap (locs ++ L) q ce rfl hex (by rw [e1]; exact hdy) k3 (by rw [e1]; exact hce) hcv hcl T' rfl X'
      exact ⟨t2, st.trans a1, b1⟩
theorem zCt_back {M M' : zM} {sc : Option (Nat × (Nat → Int32))} {as : List Value} {o : zO} (hct : zCt D cA b base al l M' as g h o) (hfr : zFr D cA b base sc p R s m args meth c M) (hin : zcw M' ∈ zB) (hini : (Cond.initialized M'.2.2.1.cls).before args s = true) (hml : M'.2.2.2.2.1 ≤ 20) (hht : M'.2.1 < M.2.1) :
    vx_Back l R p e below s args M'.2.2.1 3 8 (PreOf R ((zoc o).1 - g.2.1) ((zoc o).2 - g.2.2) (va_Pc (as.map (zcv b base)) (zPre D cA b base al g h))) (PostOf (zQc D cA b base al o) ((zoc o).1 - g.2.1) ((zoc o).2 - g.2.2) (fun q => base ≤ q)) (vx_Post (zXC D cA b base al o) ((zoc o).1 - g.2.1) ((zoc o).2 - g.2.2) (fun q => base ≤ q)) := by
  obtain ⟨-, -, -, -, -, -, -, -, hB, -, -, -, -, hRf, hRl⟩ := hfr
  have hbl : FrameBlind (va_Pc (as.map (zcv b base)) (zPre D cA b base al g h)) := fun a U gg mk q => ⟨q.1, zSta_calling q.2.1, q.2.2.1, q.2.2.2⟩
  have hws : ∀ w ∈ zws M', ∀ (a' : Array Value) (U : State), s.WarmedH U.vm → w.before a' U = true := by
    intro w hw a' U hW
    have hw' : w ∈ zB := by
      rcases List.mem_cons.mp hw with rfl | hw
      · exact hin
      · exact hw
    exact word_at hW (good_of_word (zB_good hw')) (hB w hw')
  have hini' : ∀ (a' : Array Value) (U : State), s.WarmedH U.vm → (Cond.initialized M'.2.2.1.cls).before a' U = true := fun a' U hW => word_at hW (Or.inl rfl) hini
  have hfr1 : (zRm M' ((zoc o).1 - g.2.1) ((zoc o).2 - g.2.2)).frames + 1 ≤ R.frames := by show M'.2.1 + 8 + 1 ≤ R.frames; omega
  have hlo1 : 8 + (M'.2.2.2.2.1 + 11) + (zRm M' ((zoc o).1 - g.2.1) ((zoc o).2 - g.2.2)).locals ≤ R.locals := by show 8 + (M'.2.2.2.2.1 + 11) + (40 * M'.2.1 + 200) ≤ R.locals; omega
  have hcm : zcw M' ∈ zws M' := List.mem_cons_self
  unfold zcw at hcm
  split at hcm
  · exact vx_back (bytes := M'.2.2.2.1) (maxL := M'.2.2.2.2.1) (ret := M'.2.2.2.2.2.1) hct hbl rfl rfl hfr1 hlo1 hws hcm hini'
  · exact vx_backW (hh := M'.2.2.2.2.2.2.2) (bytes := M'.2.2.2.1) (maxL := M'.2.2.2.2.1) (ret := M'.2.2.2.2.2.1) hct hbl rfl rfl hfr1 hlo1 hws hcm hini'
set_option maxHeartbeats 4000000 in
theorem zs_cal {M M' : zM} {sc : Option (Nat × (Nat → Int32))} {i : Instr} {st : List Value} {q : Nat × List Value × List Value} {o : zO} (hz : zcal M.1 i st g h = some q) (hM' : zpr q.1 = some M') (hd : decode M.2.2.2.1 pc = .ok (i, zlen i)) (hfr : zFr D cA b base sc p R s m args meth c M)
    (hdy : zDy D cA b base al g h H) (hS : va_S (fun q => base ≤ q) s.heap H locs) (hsz : ls.size = c.maxLocals) (hsm : (q.2.2.map fun v => v.category).sum ≤ 8) (hht : M'.2.1 < M.2.1) (hct : zCt D cA b base al l M' q.2.1 g h o) (hf : cells + ((zoc o).1 - g.2.1) ≤ R.cells ∧ slots + ((zoc o).2 - g.2.2) ≤ R.slots) :
    vx_Run p l e R s m args below meth c H locs cells slots ((zoc o).1 - g.2.1) ((zoc o).2 - g.2.2) (F0 m pc ls (st.map (zcv b base))) (q.2.2.map (zcv b base)) (zQc D cA b base al o (q.2.1.map (zcv b base)).toArray) (zXC D cA b base al o) (fun q => base ≤ q) := by
  have hfr0 := hfr
  obtain ⟨hdec, hx, hb, hml, hr, hlk, hnm, hown, hB, htb, hsta, hbs, hsc, hRf, hRl⟩ := hfr
  obtain ⟨hdec', hin0, pi, hck⟩ := zpr_ok hM'
  have hin := zcw_in hin0
  unfold zckM at hck
  simp only [Bool.and_eq_true, decide_eq_true_eq] at hck
  obtain ⟨⟨⟨⟨⟨c1, c2⟩, c3⟩, c4⟩, c5⟩, c6⟩ := hck
  have hini := hB _ (zB_of c1 rfl)
  have hcode := hB _ hin
  have hK := zCt_back (e := e) (below := below) hct hfr0 hin hini (zble c5) hht
  have hPc : ∀ U : State, U.heap = H → s.WarmedH U.vm → va_Pc (q.2.1.map (zcv b base)) (zPre D cA b base al g h) (q.2.1.map (zcv b base)).toArray U := by
    intro U hU hW
    exact ⟨rfl, zSta_warm hW (fun a h1 h2 => by rw [hU]; exact hS.2.1 a h1 h2) hsta, by rw [hU]; exact hdy, by rw [hU]; exact Nat.le_trans hbs hS.1⟩
  have hsm' : ((q.2.2.map (zcv b base)).map fun v => v.category).sum ≤ 8 := by rw [zsum_cv]; exact hsm
  unfold zcal at hz
  split at hz
  · rename_i idx
    split at hz
    · rename_i r hr9
      split at hz
      · rename_i as t hp
        cases hz
        obtain ⟨hlen, hst⟩ := zpop_ok0 hp
        have hk9 := zq1_ok zSV_ok hr9
        obtain ⟨mi, np, kind, xc, pl, ps, pm⟩ := r
        unfold zckSV at hk9
        dsimp only at hk9 hlen hM'
        rw [hM'] at hk9
        simp only [Bool.and_eq_true] at hk9
        obtain ⟨⟨⟨k1, k2⟩, k3⟩, k4⟩ := hk9
        have hn : znp M'.2.2.1.desc (as.map (zcv b base)).length = true := by rw [List.length_map, hlen]; exact k3
        have est : st.map (zcv b base) = (as.map (zcv b base)).reverse ++ t.map (zcv b base) := by rw [hst, List.map_append, List.map_reverse]
        rw [est]
        cases hkind : Nat.beq kind 0 with
        | true =>
          rw [hkind, cond_true, decide_eq_true_eq] at k4
          subst k4
          exact zx_run (zi_static hx hb hown (hB _ (zB_of k1 rfl)) (hB _ (zB_of k2 rfl)) hini hcode c4 hn hd) hK hb hd hsz hsm' hPc hf
        | false =>
          rw [hkind, cond_false, Bool.and_eq_true] at k4
          exact zx_run (zi_staticUp hx hb hown (hB _ (zB_of k1 rfl)) (hB _ (zB_of k4.1 rfl)) (hB _ (zB_of k2 rfl)) hini hcode c4 hn hd) hK hb hd hsz hsm' hPc hf
      · cases hz
    · cases hz
  · rename_i idx
    split at hz
    · rename_i r hr9
      split at hz
      · rename_i as a t hp
        cases hz
        obtain ⟨hlen, hst⟩ := zpop_ok0 hp
        have hk9 := zq1_ok zSC_ok hr9
        obtain ⟨mi, np, pl, pin⟩ := r
        unfold zckSC at hk9
        dsimp only at hk9 hlen hM'
        rw [hM'] at hk9
        simp only [Bool.and_eq_true, decide_eq_true_eq] at hk9
        obtain ⟨⟨⟨⟨⟨k1, k2⟩, k3⟩, k4⟩, k5⟩, k6⟩ := hk9
        have hn : znp M'.2.2.1.desc (as.map (zcv b base)).length = true := by rw [List.length_map, hlen]; exact k5
        have est : st.map (zcv b base) = (as.map (zcv b base)).reverse ++ .ref (base + a) :: t.map (zcv b base) := by rw [hst, List.map_append, List.map_reverse]; rfl
        have hcode' : (Cond.code M'.2.2.1 M'.2.2.2.1 M'.2.2.2.2.1 none).before args s = true := by
          have h9 := hcode
          unfold zcw at h9
          rw [k6] at h9
          dsimp only at h9
          rw [k4] at h9
          exact h9
        rw [est]
        exact zx_run (zi_special hx hb hown (hB _ (zB_of k1 rfl)) (hB _ (zB_of k2 rfl)) k3 hcode' c4 hn hd) hK hb hd hsz hsm' hPc hf
      · cases hz
    · cases hz
  · rename_i idx
    split at hz
    · rename_i np hnp
      split at hz
      · rename_i as a t hp
        obtain ⟨ha, hz⟩ := zbifO hz
        split at hz
        · rename_i ci fs hc
          split at hz
          · rename_i r hr9
            obtain ⟨hnq, rfl⟩ := zbifS hz
            obtain ⟨hlen, hst⟩ := zpop_ok0 hp
            have hk9 := zq2_ok zVV_ok hr9
            obtain ⟨mi, np', kind, xc, pl, psel, pin, pm⟩ := r
            have hnp' : np' = np := Nat.eq_of_beq_eq_true hnq
            subst hnp'
            unfold zckVV at hk9
            dsimp only at hk9 hlen hM'
            rw [hM'] at hk9
            cases hcl : zcl[ci]? with
            | none => rw [hcl] at hk9; cases hk9
            | some w =>
              obtain ⟨C, T, N⟩ := w
              rw [hcl] at hk9
              dsimp only at hk9
              simp only [Bool.and_eq_true, decide_eq_true_eq] at hk9
              obtain ⟨⟨⟨⟨⟨⟨k1, k2⟩, k3⟩, k4⟩, k5⟩, k6⟩, k7⟩ := hk9
              have hn : znp M'.2.2.1.desc (as.map (zcv b base)).length = true := by rw [List.length_map, hlen]; exact k4
              have est : st.map (zcv b base) = (as.map (zcv b base)).reverse ++ .ref (base + a) :: t.map (zcv b base) := by rw [hst, List.map_append, List.map_reverse]; rfl
              have hrec := va_recv hsta.1 hdy.1 hcl (zqo ha hc)
              rw [est]
              cases hkind : Nat.beq kind 0 with
              | true =>
                rw [hkind, cond_true, Bool.and_eq_true, decide_eq_true_eq, decide_eq_true_eq] at k7
                obtain ⟨e1, e2⟩ := k7
                subst e1
                exact zx_run (zi_virtual hx hb hown (hB _ (zB_of k1 rfl)) (hB _ (zB_of k3 rfl)) (hB _ (zB_of k2 rfl)) hcode c4 hn hd hrec) hK hb hd hsz hsm' hPc hf
              | false =>
                rw [hkind, cond_false, Bool.and_eq_true] at k7
                obtain ⟨k8, k9⟩ := k7
                have hdecl : va_Decl s ⟨xc, M'.2.2.1.name, M'.2.2.1.desc⟩ := by
                  cases hk1 : Nat.beq kind 1 with
                  | true =>
                    rw [hk1, cond_true, decide_eq_true_eq] at k9
                    exact va_Decl.abs (hsta.2.2.2.1 _ (List.mem_filter.mpr ⟨k9, rfl⟩))
                  | false =>
                    rw [hk1, cond_false, decide_eq_true_eq] at k9
                    subst k9
                    have h9 := hcode
                    unfold zcw at h9
                    rw [k6] at h9
                    exact va_Decl.of (hB _ (zB_of k3 rfl)) h9
                exact zx_run (zi_virtualUp hx hb hown (hB _ (zB_of k1 rfl)) (hB _ (zB_of k8 rfl)) hdecl (hB _ (zB_of k3 rfl)) (hB _ (zB_of k2 rfl)) k5 hn hd hrec) hK hb hd hsz hsm' hPc hf
          · cases hz
        · cases hz
      · cases hz
    · cases hz
  · cases hz
end ZS9
