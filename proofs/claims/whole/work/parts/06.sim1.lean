theorem zbifN {α : Type} {b : Bool} {x q : α} (h : (bif b then none else some x) = some q) : b = false ∧ x = q := by
  cases b
  · exact ⟨rfl, Option.some.inj h⟩
  · cases h
theorem zbifS {α : Type} {b : Bool} {x q : α} (h : (bif b then some x else none) = some q) : b = true ∧ x = q := by
  cases b
  · cases h
  · exact ⟨rfl, Option.some.inj h⟩
theorem zbifO {α : Type} {b : Bool} {x : Option α} {q : α} (h : (bif b then x else none) = some q) : b = true ∧ x = some q := by
  cases b
  · cases h
  · exact ⟨rfl, h⟩
theorem zblt {a b : Nat} (h : Nat.blt a b = true) : a < b := Nat.le_of_ble_eq_true h
theorem zble {a b : Nat} (h : Nat.ble a b = true) : a ≤ b := Nat.le_of_ble_eq_true h
theorem zib_in {k : Int32} {n : Nat} (h : zib k n = true) : vp_in k n := by
  intro h1
  unfold zib at h
  rcases h1 with h1 | h1
  · simp [h1] at h
  · rw [show Nat.ble n k.toNatClampNeg = true from Nat.ble_eq.mpr h1] at h
    simp at h
theorem ztgt_ok {pc : Nat} {off : Int} {n : Nat} (h : ztgt pc off = some n) : (pc : Int) + off = (n : Int) := by
  unfold ztgt at h
  split at h
  · rename_i k hk
    cases h
    exact hk
  · cases h
section ZS1
variable {p : Program} {l : Launch} {e : Env} {R : Room} {s : State} {m : MethodId} {args : Array Value} {below : List Frame} {meth : Method} {c : Code} {H : Heap} {locs : List Loc} {cells slots : Nat} {Q : State → Prop}
variable {cc : ByteArray} {pc : Nat} {ls : Array Slot} {b base : Nat}
set_option maxHeartbeats 4000000 in
theorem zs_stk {i : Instr} {st : List Value} {q : Nat × List Value} (hz : zstk i st = some q) (hx : p.tables.exec = Jvm.exec) (hb : c.code = cc) (hd : decode cc pc = .ok (i, zlen i))
    (k : W p l e R s m args below meth c H locs cells slots Q (F0 m (pc + q.1) ls (q.2.map (zcv b base)))) : W p l e R s m args below meth c H locs cells slots Q (F0 m pc ls (st.map (zcv b base))) := by
  unfold zstk at hz
  split at hz
  · cases hz; exact lv_iconst hx hb hd rfl k
  · cases hz; exact lv_bipush hx hb hd rfl k
  · cases hz; exact lv_sipush hx hb hd rfl k
  · cases hz; exact lv_lconst hx hb hd rfl k
  · cases hz; exact lv_iadd hx hb hd k
  · cases hz; exact lv_isub hx hb hd k
  · cases hz; exact lv_imul hx hb hd k
  · cases hz; exact lv_iand hx hb hd k
  · cases hz; exact lv_ixor hx hb hd k
  · obtain ⟨h1, rfl⟩ := zbifN hz; exact lv_idiv hx hb hd (of_decide_eq_false h1) k
  · obtain ⟨h1, rfl⟩ := zbifN hz; exact lv_irem hx hb hd (of_decide_eq_false h1) k
  · cases hz; exact lv_ineg hx hb hd k
  · cases hz; exact lv_ladd hx hb hd k
  · cases hz; exact lv_lsub hx hb hd k
  · cases hz; exact lv_lmul hx hb hd k
  · cases hz; exact lv_land hx hb hd k
  · cases hz; exact lv_lor hx hb hd k
  · cases hz; exact lv_lxor hx hb hd k
  · obtain ⟨h1, rfl⟩ := zbifN hz; exact lv_ldiv hx hb hd (of_decide_eq_false h1) k
  · obtain ⟨h1, rfl⟩ := zbifN hz; exact lv_lrem hx hb hd (of_decide_eq_false h1) k
  · cases hz; exact lv_lneg hx hb hd k
  · cases hz; exact lv_lshl hx hb hd rfl k
  · cases hz; exact lv_lshr hx hb hd rfl k
  · cases hz; exact lv_i2l hx hb hd rfl k
  · cases hz; exact lv_l2i hx hb hd rfl k
  · cases hz; exact W.lcmp hx hb hd k
  · cases hz; exact lv_dup hx hb hd rfl k
  · cases hz; exact lv_dup hx hb hd rfl k
  · cases hz; exact lv_dup2_11 hx hb hd rfl rfl k
  · cases hz; exact lv_pop (va := .int _) hx hb hd rfl k
  · cases hz; exact lv_pop (va := .ref _) hx hb hd rfl k
  · cases hz
theorem zs_ldi {k d nL : Nat} {L : zL} {st : List Value} {q : Nat × zL × List Value} (hz : zldi L k d st = some q) (hl : zlv b base ls nL L)
    (K : ∀ x : Int32, ls[k]? = some (.val (.int x)) → q = (d, L, .int x :: st) → W p l e R s m args below meth c H locs cells slots Q (F0 m pc ls (st.map (zcv b base)))) : W p l e R s m args below meth c H locs cells slots Q (F0 m pc ls (st.map (zcv b base))) := by
  unfold zldi at hz
  split at hz
  · rename_i x hL
    exact K x (hl.2.2.2 k _ hL) (Option.some.inj hz).symm
  · cases hz
theorem zs_ldl {k d nL : Nat} {L : zL} {st : List Value} {q : Nat × zL × List Value} (hz : zldl L k d st = some q) (hl : zlv b base ls nL L)
    (K : ∀ x : Int64, ls[k]? = some (.val (.long x)) → q = (d, L, .long x :: st) → W p l e R s m args below meth c H locs cells slots Q (F0 m pc ls (st.map (zcv b base)))) : W p l e R s m args below meth c H locs cells slots Q (F0 m pc ls (st.map (zcv b base))) := by
  unfold zldl at hz
  split at hz
  · rename_i x hL
    exact K x (hl.2.2.2 k _ hL) (Option.some.inj hz).symm
  · cases hz
theorem zs_lda {k d nL : Nat} {L : zL} {st : List Value} {q : Nat × zL × List Value} (hz : zlda L k d st = some q) (hl : zlv b base ls nL L)
    (K : ∀ (x : Nat) (v : Value), ls[k]? = some (.val (.ref x)) → zcv b base v = .ref x → q = (d, L, v :: st) → W p l e R s m args below meth c H locs cells slots Q (F0 m pc ls (st.map (zcv b base)))) : W p l e R s m args below meth c H locs cells slots Q (F0 m pc ls (st.map (zcv b base))) := by
  unfold zlda at hz
  split at hz
  · rename_i x hL
    exact K (base + x) (.ref x) (hl.2.2.2 k _ hL) rfl (Option.some.inj hz).symm
  · rename_i x hL
    exact K b (.retAddr x) (hl.2.2.2 k _ hL) rfl (Option.some.inj hz).symm
  · cases hz
theorem zs_sti {k d nL : Nat} {L : zL} {st : List Value} {q : Nat × zL × List Value} (hz : zsti L k d st = some q) (hl : zlv b base ls nL L)
    (K : ∀ (x : Int32) (t : List Value), st = .int x :: t → k < nL → q = (d, zst1 L k (.int x), t) → W p l e R s m args below meth c H locs cells slots Q (F0 m pc ls (st.map (zcv b base)))) : W p l e R s m args below meth c H locs cells slots Q (F0 m pc ls (st.map (zcv b base))) := by
  unfold zsti at hz
  split at hz
  · obtain ⟨h1, h2⟩ := zbifS hz
    exact K _ _ rfl (by rw [← hl.2.1]; exact zblt h1) h2.symm
  · cases hz
theorem zs_stl {k d nL : Nat} {L : zL} {st : List Value} {q : Nat × zL × List Value} (hz : zstl L k d st = some q) (hl : zlv b base ls nL L)
    (K : ∀ (x : Int64) (t : List Value), st = .long x :: t → k + 1 < nL → q = (d, zst2 L k (.long x), t) → W p l e R s m args below meth c H locs cells slots Q (F0 m pc ls (st.map (zcv b base)))) : W p l e R s m args below meth c H locs cells slots Q (F0 m pc ls (st.map (zcv b base))) := by
  unfold zstl at hz
  split at hz
  · obtain ⟨h1, h2⟩ := zbifS hz
    exact K _ _ rfl (by rw [← hl.2.1]; exact zblt h1) h2.symm
  · cases hz
theorem zs_sta {k d nL : Nat} {L : zL} {st : List Value} {q : Nat × zL × List Value} (hz : zsta L k d st = some q) (hl : zlv b base ls nL L)
    (K : ∀ (x : Nat) (t : List Value), st = .ref x :: t → k < nL → q = (d, zst1 L k (.ref x), t) → W p l e R s m args below meth c H locs cells slots Q (F0 m pc ls (st.map (zcv b base)))) : W p l e R s m args below meth c H locs cells slots Q (F0 m pc ls (st.map (zcv b base))) := by
  unfold zsta at hz
  split at hz
  · obtain ⟨h1, h2⟩ := zbifS hz
    exact K _ _ rfl (by rw [← hl.2.1]; exact zblt h1) h2.symm
  · cases hz
set_option maxHeartbeats 4000000 in
theorem zs_lcl {i : Instr} {nL : Nat} {L : zL} {st : List Value} {q : Nat × zL × List Value} (hz : zlcl i L st = some q) (hx : p.tables.exec = Jvm.exec) (hb : c.code = cc) (hd : decode cc pc = .ok (i, zlen i)) (hl : zlv b base ls nL L)
    (K : ∀ ls' : Array Slot, zlv b base ls' nL q.2.1 → W p l e R s m args below meth c H locs cells slots Q (F0 m (pc + q.1) ls' (q.2.2.map (zcv b base)))) : W p l e R s m args below meth c H locs cells slots Q (F0 m pc ls (st.map (zcv b base))) := by
  unfold zlcl at hz
  split at hz
  · exact zs_ldi hz hl fun x h1 h2 => by subst h2; exact lv_iload hx hb hd h1 (K ls hl)
  · exact zs_ldi hz hl fun x h1 h2 => by subst h2; exact lv_iload_n hx hb hd rfl h1 (K ls hl)
  · exact zs_ldl hz hl fun x h1 h2 => by subst h2; exact lv_lload hx hb hd h1 (K ls hl)
  · exact zs_ldl hz hl fun x h1 h2 => by subst h2; exact lv_lload_n hx hb hd rfl h1 (K ls hl)
  · exact zs_lda hz hl fun x v h1 hv h2 => by
      subst h2
      have K' := K ls hl
      simp only [List.map_cons, hv] at K'
      exact lv_aload hx hb hd h1 K'
  · exact zs_lda hz hl fun x v h1 hv h2 => by
      subst h2
      have K' := K ls hl
      simp only [List.map_cons, hv] at K'
      exact lv_aload_n hx hb hd rfl h1 K'
  · exact zs_sti hz hl fun x t h1 h2 h3 => by subst h1; subst h3; exact lv_istore hx hb hd (zlv_has hl) h2 rfl (fun ls' h' => K ls' (zst1_ok hl h'))
  · exact zs_sti hz hl fun x t h1 h2 h3 => by subst h1; subst h3; exact lv_istore_n hx hb hd rfl (zlv_has hl) h2 rfl (fun ls' h' => K ls' (zst1_ok hl h'))
  · exact zs_stl hz hl fun x t h1 h2 h3 => by subst h1; subst h3; exact lv_lstore hx hb hd (zlv_has hl) h2 rfl (fun ls' h' => K ls' (zst2_ok hl h'))
  · exact zs_stl hz hl fun x t h1 h2 h3 => by subst h1; subst h3; exact lv_lstore_n hx hb hd rfl (zlv_has hl) h2 rfl (fun ls' h' => K ls' (zst2_ok hl h'))
  · exact zs_sta hz hl fun x t h1 h2 h3 => by subst h1; subst h3; exact lv_astore hx hb hd (zlv_has hl) h2 rfl (fun ls' h' => K ls' (zst1_ok hl h'))
  · exact zs_sta hz hl fun x t h1 h2 h3 => by subst h1; subst h3; exact lv_astore_n hx hb hd rfl (zlv_has hl) h2 rfl (fun ls' h' => K ls' (zst1_ok hl h'))
  · rename_i k n
    unfold zinc at hz
    split at hz
    · rename_i x hL
      cases hz
      obtain ⟨j, hj⟩ := List.getElem?_of_mem (zpl_mem (b := b) (base := base).mpr ⟨_, hL, rfl⟩)
      exact lv_iinc hx hb hd (zlv_has hl) hj rfl (by rw [← hl.2.1]; exact (List.getElem?_eq_some_iff.mp hL).1) rfl (fun ls' h' => K ls' (zst1_ok hl h'))
    · cases hz
  · cases hz
set_option maxHeartbeats 4000000 in
theorem zs_br {i : Instr} {st : List Value} {q : Bool × Nat × Nat × List Value} (hz : zbr i pc st = some q) (hx : p.tables.exec = Jvm.exec) (hb : c.code = cc) (hd : decode cc pc = .ok (i, zlen i))
    (kt : q.1 = true → W p l e R s m args below meth c H locs cells slots Q (F0 m q.2.1 ls (q.2.2.2.map (zcv b base)))) (kf : q.1 = false → W p l e R s m args below meth c H locs cells slots Q (F0 m q.2.2.1 ls (q.2.2.2.map (zcv b base)))) :
    W p l e R s m args below meth c H locs cells slots Q (F0 m pc ls (st.map (zcv b base))) := by
  unfold zbr at hz
  split at hz
  · split at hz
    · rename_i n hn
      cases hz
      exact lv_goto hx hb hd (ztgt_ok hn) (kt rfl)
    · cases hz
  · rename_i cd off
    split at hz
    · rename_i n x t hn
      cases hz
      cases cd
      · exact lv_if_eq hx hb hd (ztgt_ok hn) (fun h => kt (decide_eq_true h)) (fun h => kf (decide_eq_false h))
      · exact lv_if_ne hx hb hd (ztgt_ok hn) (fun h => kt (by simp [zcmp, h])) (fun h => kf (by simp [zcmp, h]))
      · exact lv_if_lt hx hb hd (ztgt_ok hn) (fun h => kt (decide_eq_true h)) (fun h => kf (decide_eq_false h))
      · exact lv_if_ge hx hb hd (ztgt_ok hn) (fun h => kt (decide_eq_true h)) (fun h => kf (decide_eq_false h))
      · exact lv_if_gt hx hb hd (ztgt_ok hn) (fun h => kt (decide_eq_true h)) (fun h => kf (decide_eq_false h))
      · exact lv_if_le hx hb hd (ztgt_ok hn) (fun h => kt (decide_eq_true h)) (fun h => kf (decide_eq_false h))
    · cases hz
  · rename_i cd off
    split at hz
    · rename_i n y x t hn
      cases hz
      cases cd
      · exact lv_icmp_eq hx hb hd (ztgt_ok hn) (fun h => kt (decide_eq_true h)) (fun h => kf (decide_eq_false h))
      · exact lv_icmp_ne hx hb hd (ztgt_ok hn) (fun h => kt (by simp [zcmp, h])) (fun h => kf (by simp [zcmp, h]))
      · exact lv_icmp_lt hx hb hd (ztgt_ok hn) (fun h => kt (decide_eq_true h)) (fun h => kf (decide_eq_false h))
      · exact lv_icmp_ge hx hb hd (ztgt_ok hn) (fun h => kt (decide_eq_true h)) (fun h => kf (decide_eq_false h))
      · exact lv_icmp_gt hx hb hd (ztgt_ok hn) (fun h => kt (decide_eq_true h)) (fun h => kf (decide_eq_false h))
      · exact lv_icmp_le hx hb hd (ztgt_ok hn) (fun h => kt (decide_eq_true h)) (fun h => kf (decide_eq_false h))
    · cases hz
  · rename_i d lo hi offs
    split at hz
    · rename_i x t
      split at hz
      · rename_i off ho
        split at hz
        · rename_i n hn
          cases hz
          unfold ztsw at ho
          cases hc : (decide (x.toInt < lo) || decide (hi < x.toInt)) with
          | true =>
            rw [hc] at ho
            cases ho
            rw [Bool.or_eq_true, decide_eq_true_eq, decide_eq_true_eq] at hc
            exact lv_tableOut hx hb hd hc (ztgt_ok hn) (kt rfl)
          | false =>
            rw [hc] at ho
            rw [Bool.or_eq_false_iff, decide_eq_false_iff_not, decide_eq_false_iff_not] at hc
            exact lv_tableIn hx hb hd hc.1 hc.2 ho (ztgt_ok hn) (kt rfl)
        · cases hz
      · cases hz
    · cases hz
  · cases hz
end ZS1
