theorem zpt_ok {b base : Nat} {ty : FieldType} {v : Value} (h : zpt ty v = true) : narrow ty (zcv b base v) = zcv b base v ∧ fits ty (zcv b base v) = true := by
  unfold zpt at h
  split at h
  · exact ⟨rfl, rfl⟩
  · rename_i x
    rw [Bool.or_eq_true, decide_eq_true_eq, decide_eq_true_eq] at h
    rcases h with rfl | rfl
    · exact ⟨rfl, rfl⟩
    · exact ⟨rfl, rfl⟩
  · exact ⟨rfl, rfl⟩
  · exact ⟨rfl, rfl⟩
  · cases h
theorem zw_setP {D : va_G} {b base : Nat} {cA : Nat → ClassId} {n : Nat} {h : zH} {i : Nat} {c : zC} {e : va_E} {H1 : Heap} (hp : va_P D zcl ((zw b base cA n h).set i (base + i, e)) H1) (he : e = zcc b base cA c) : va_P D zcl (zw b base cA n (va_up h i c)) H1 := by
  rw [zw_set he] at hp
  exact hp
theorem zcv_dv (b base : Nat) (ty : FieldType) : zcv b base (defaultValue ty) = defaultValue ty := by cases ty <;> rfl
section ZS4
variable {p : Program} {l : Launch} {e : Env} {R : Room} {s : State} {m : MethodId} {args : Array Value} {below : List Frame} {meth : Method} {c : Code} {H : Heap} {locs : List Loc} {cells slots : Nat} {Q : State → Prop}
variable {cc : ByteArray} {pc : Nat} {ls : Array Slot} {b base : Nat} {D : va_G} {cA : Nat → ClassId} {o : Nat} {g : zG} {h : zH} {al : Bool}
set_option maxHeartbeats 4000000 in
theorem zs_wr {M : zM} {i : Instr} {st : List Value} {q : Nat × List Value × zH} (hz : zwr al M i st g h = some q) (hx : p.tables.exec = Jvm.exec) (hb : c.code = cc) (hd : decode cc pc = .ok (i, zlen i)) (hname : meth.name = M.2.2.1.name)
    (hown : s.vm.findClass (zon M.1) = some m.cls) (hB : ∀ w ∈ zB, w.before args s = true) (hN : ∀ w ∈ zNws, va_Nw w s) (hK : va_K D zcl (ztys cA) s) (hP : va_P D zcl (zw b base cA g.1 h) H)
    (hS : va_S (fun q => base ≤ q) s.heap H locs) (hal : al = true → H.size = base + g.1) (hsz : c.maxLocals = ls.size) (hR1 : 1 ≤ R.frames) (hR2 : 100 ≤ R.locals)
    (k : ∀ (H1 : Heap) (locs1 : List Loc), zDy D cA b base al g q.2.2 H1 → va_S (fun q => base ≤ q) s.heap H1 locs1 → W p l e R s m args below meth c H1 locs1 cells slots Q (F0 m (pc + q.1) ls (q.2.1.map (zcv b base)))) : W p l e R s m args below meth c H locs cells slots Q (F0 m pc ls (st.map (zcv b base))) := by
  unfold zwr at hz
  split at hz
  · split at hz
    · rename_i idx v a t
      obtain ⟨ha, hz⟩ := zbifO hz
      split at hz
      · rename_i ci fs hc
        split at hz
        · rename_i r C T N hr hcl
          obtain ⟨hi, rfl⟩ := zbifS hz
          obtain ⟨C', T', N', h1, h2, h3, h4⟩ := zFLw hr
          cases Option.some.inj (h1.symm.trans hcl)
          simp only [Bool.and_eq_true, Bool.or_eq_true, Bool.not_eq_true', decide_eq_true_eq, Bool.and_eq_false_imp] at hi
          obtain ⟨⟨hpt, hlen⟩, hi⟩ := hi
          obtain ⟨n1, n2⟩ := zpt_ok (b := b) (base := base) hpt
          have hty := zcl_ty ci _ hcl
          have hnm := zcl_nm _ (List.mem_of_getElem? hcl)
          have hl' : r.1 < (fs.map (zcv b base)).length := by rw [List.length_map]; exact zblt hlen
          have he : (Sum.inr (ci, (fs.map (zcv b base)).set r.1 (zcv b base v)) : va_E) = zcc b base cA (.inr (ci, fs.set r.1 v)) := by
            show _ = Sum.inr (ci, (fs.set r.1 v).map (zcv b base))
            rw [List.map_set]
          have fin : ∀ (H1 : Heap), (al = true → H1.size = H.size) → va_P D zcl ((zw b base cA g.1 h).set a (base + a, .inr (ci, (fs.map (zcv b base)).set r.1 (zcv b base v)))) H1 → zDy D cA b base al g (va_up h a (.inr (ci, fs.set r.1 v))) H1 := by
            intro H1 hs1 hp1
            rw [zw_set he] at hp1
            exact ⟨hp1, fun h9 => (hs1 h9).trans (hal h9)⟩
          rcases hi with ⟨hf, hn⟩ | ⟨⟨⟨hf, hin⟩, hdecl⟩, hn⟩
          · cases hne : r.2.2 with
            | false => exact zz_put hx hb hB (zcl_in h1) (zty ci) hty hnm hown hK hP zw_D hS a (zqo ha hc) h1 r.1 h2 (hB _ (h3 hne)) (fun _ h9 => h9) hf (hty r.1 h2) n1 n2 hl' hd (fun H1 locs1 z1 p1 s1 => k H1 locs1 (fin H1 (fun _ => z1) p1) s1)
            | true =>
              have hal' : al = false := hn hne
              exact va_putN hx hb hB (zcl_in h1) (zty ci) hty hnm hown hK hP zw_D hS a (zqo ha hc) h1 r.1 h2 (va_Nw.use rfl (hN _ (h4 hne))) (fun _ h9 => h9) hf (hty r.1 h2) n1 n2 hl' hd (fun H1 locs1 p1 _ s1 => k H1 locs1 (fin H1 (fun h9 => by rw [hal'] at h9; cases h9) p1) s1)
          · exact zz_putF hx hb hB (zcl_in h1) (zty ci) hty hnm hown hK hP zw_D hS a (zqo ha hc) h1 r.1 h2 (hB _ (h3 hn)) (fun _ h9 => h9) hf (hname.trans hin) hdecl (hty r.1 h2) n1 n2 hl' hd (fun H1 locs1 z1 p1 s1 => k H1 locs1 (fin H1 (fun _ => z1) p1) s1)
        · cases hz
      · cases hz
    · cases hz
  · split at hz
    · rename_i x kk a t
      obtain ⟨ha, hz⟩ := zbifO hz
      split at hz
      · rename_i n f hc
        obtain ⟨hi, rfl⟩ := zbifS hz
        refine zz_iast hx hb hK hP zw_D hS a 0 (zqa ha hc) rfl (zib_in hi) hd (fun H1 locs1 z1 p1 s1 => k H1 locs1 ⟨?_, fun h9 => z1.trans (hal h9)⟩ s1)
        exact zw_setP (c := .inl (0, n, .inl (upd f kk.toNatClampNeg x))) p1 rfl
      · cases hz
    · cases hz
  · split at hz
    · rename_i x kk a t
      obtain ⟨ha, hz⟩ := zbifO hz
      split at hz
      · rename_i n f hc
        obtain ⟨hi, rfl⟩ := zbifS hz
        refine zz_last hx hb hK hP zw_D hS a 1 (zqa ha hc) rfl (zib_in hi) hd (fun H1 locs1 z1 p1 s1 => k H1 locs1 ⟨?_, fun h9 => z1.trans (hal h9)⟩ s1)
        exact zw_setP (c := .inl (1, n, .inr (.inl (vp_updL f kk.toNatClampNeg x)))) p1 rfl
      · cases hz
    · cases hz
  · split at hz
    · rename_i v kk a t
      obtain ⟨ha, hz⟩ := zbifO hz
      rw [Bool.and_eq_true] at ha
      split at hz
      · rename_i ty n f ci vs hc hcv
        obtain ⟨hi, rfl⟩ := zbifS hz
        rw [Bool.and_eq_true] at hi
        have hcast : ∃ (E : String) (r : vw_C), (ztys cA)[ty]? = some (cA ty, .object E) ∧ zcl[ci]? = some r ∧ (r.1 = E ∨ va_Nw (.castable r.1 E) s) := by
          have h9 := hi.2
          unfold zcast at h9
          simp only [Bool.and_eq_true, Bool.or_eq_true] at h9
          rcases h9 with ⟨e1, e2⟩ | ⟨e2, (e1 | e1) | e1⟩
          · rw [Nat.eq_of_beq_eq_true e1, Nat.eq_of_beq_eq_true e2]; exact ⟨_, _, rfl, rfl, Or.inl rfl⟩
          · rw [Nat.eq_of_beq_eq_true e1, Nat.eq_of_beq_eq_true e2]; exact ⟨_, _, rfl, rfl, Or.inr (hN _ (zCAw 0 (by simp) _ rfl))⟩
          · rw [Nat.eq_of_beq_eq_true e1, Nat.eq_of_beq_eq_true e2]; exact ⟨_, _, rfl, rfl, Or.inr (hN _ (zCAw 1 (by simp) _ rfl))⟩
          · rw [Nat.eq_of_beq_eq_true e1, Nat.eq_of_beq_eq_true e2]; exact ⟨_, _, rfl, rfl, Or.inr (hN _ (zCAw 4 (by simp) _ rfl))⟩
        obtain ⟨E, r, g1, g2, g3⟩ := hcast
        refine zz_ast hx hb hK hP zw_D hS a ty v ci (zqa ha.1 hc) g1 g3 (zqo ha.2 hcv) g2 (zib_in hi.1) hd (fun H1 locs1 z1 p1 s1 => k H1 locs1 ⟨?_, fun h9 => z1.trans (hal h9)⟩ s1)
        have he : (Sum.inl (cA ty, n, .inr (.inr (.inr (.inr (va_up (fun j => (f j).map (fun i => base + i)) kk.toNatClampNeg (some (base + v))))))) : va_E) = zcc b base cA (.inl (ty, n, .inr (.inr (.inr (.inr (va_up f kk.toNatClampNeg (some v))))))) := by
          show _ = (Sum.inl (cA ty, n, .inr (.inr (.inr (.inr (fun j => (va_up f kk.toNatClampNeg (some v) j).map (fun i => base + i)))))) : va_E)
          congr 7
          funext j
          unfold va_up
          split <;> rfl
        exact zw_setP p1 he
      · cases hz
    · cases hz
  · rename_i idx
    split at hz
    · rename_i r hr
      have hac := zq1_ok zAC_ok hr
      split at hz
      · rename_i n dp a sp a0 t
        obtain ⟨hi, hz⟩ := zbifO hz
        simp only [Bool.and_eq_true, Bool.not_eq_true', decide_eq_false_iff_not] at hi
        obtain ⟨⟨⟨⟨⟨⟨hal', ha⟩, ha0⟩, h1⟩, h2⟩, h3⟩, hsm⟩ := hi
        have hsum : (((t.map (zcv b base)).map fun v => v.category).sum) = ((t.map fun v => v.category).sum) := by
          rw [List.map_map]; congr 1; apply List.map_congr_left; intro v _; exact zcv_cat b base v
        have hloc : (((t.map (zcv b base)).map fun v => v.category).sum) + (nativeFrameWords "java/lang/System" "arraycopy" 5 + 11) ≤ R.locals := by
          have h9 := zble hsm
          have h8 : nativeFrameWords "java/lang/System" "arraycopy" 5 ≤ 60 := by decide +kernel
          rw [hsum]; omega
        split at hz
        · rename_i n0 f n1 f1 hc0 hc1
          obtain ⟨hi, rfl⟩ := zbifS hz
          rw [Bool.and_eq_true] at hi
          refine va_copyi hx hb hsz hown (hB _ (zB_of hac rfl)) (hB _ zACw.1) (hB _ zACw.2.1) (hB _ zACw.2.2) hK hP zw_D hS a0 a 0 0 (zqa ha0 hc0) (zqa ha hc1) rfl rfl rfl h1 h2 h3 (zble hi.1) (zble hi.2) (fun _ _ => rfl) hR1 hloc hd (fun H1 locs1 p1 _ s1 => k H1 locs1 ⟨?_, fun h9 => by rw [hal'] at h9; cases h9⟩ s1)
          exact zw_setP (c := .inl (0, n1, .inl (va_cpy f f1 sp.toNatClampNeg dp.toNatClampNeg n.toNatClampNeg))) p1 rfl
        · rename_i n0 f n1 f1 hc0 hc1
          obtain ⟨hi, rfl⟩ := zbifS hz
          rw [Bool.and_eq_true] at hi
          refine va_copyl hx hb hsz hown (hB _ (zB_of hac rfl)) (hB _ zACw.1) (hB _ zACw.2.1) (hB _ zACw.2.2) hK hP zw_D hS a0 a 1 1 (zqa ha0 hc0) (zqa ha hc1) rfl rfl rfl h1 h2 h3 (zble hi.1) (zble hi.2) (fun _ _ => rfl) hR1 hloc hd (fun H1 locs1 p1 _ s1 => k H1 locs1 ⟨?_, fun h9 => by rw [hal'] at h9; cases h9⟩ s1)
          exact zw_setP (c := .inl (1, n1, .inr (.inl (va_cpy f f1 sp.toNatClampNeg dp.toNatClampNeg n.toNatClampNeg)))) p1 rfl
        · cases hz
      · cases hz
    · cases hz
  · cases hz
end ZS4
