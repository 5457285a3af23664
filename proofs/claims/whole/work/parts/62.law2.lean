/-! THE LAW'S CASES: each leads to the next place of the script -/
theorem zcd_n {α : Type} {l : List Nat} {e : Nat} (hl : l.length < 100) : zcd (α := α) l (.inr e) ≠ 0 := by
  show Int32.ofNat (l.idxOf e + 1) ≠ 0
  have := List.idxOf_le_length (a := e) (l := l)
  intro h
  have := (zN_0 (a := l.idxOf e + 1) (by omega)).mp h
  omega
theorem zcE (κ : Int32) : zcmp .eq κ κ = true := decide_eq_true rfl
theorem zcNe {κ : Int32} (h : κ ≠ 0) : zcmp .ne κ 0 = true := by show (!decide (κ = 0)) = true; rw [decide_eq_false h]; rfl
theorem zcLE (x : Int64) : zcmp .eq (lg_cmp x x) 0 = true := by rw [zcL_eq]; exact decide_eq_true rfl
theorem zspan_z {S : zSs} {a0 a1 : Int32} : ∀ v, (zc_span S a0 a1).1 = .inl v → v = 0 ∨ v = 1 := by
  intro v h
  unfold zc_span zboth at h
  split at h
  · cases h
  · split at h
    · dsimp only at h
      split at h
      · split at h
        · cases h
          split
          · exact Or.inr rfl
          · exact Or.inl rfl
        · cases h
      · cases h; exact Or.inl rfl
    · cases h
theorem zequi_z {S : zSs} {a0 a1 : Int32} : ∀ v, (zc_equi S a0 a1).1 = .inl v → v = 0 ∨ v = 1 := by
  intro v h
  unfold zc_equi zboth at h
  split at h
  · cases h
  · split at h
    · dsimp only at h
      split at h
      · split at h
        · cases h
          split
          · exact Or.inr rfl
          · exact Or.inl rfl
        · cases h
      · cases h; exact Or.inl rfl
    · cases h
theorem cs_create {n i : Nat} {sf : Nat → Int32} {S : zSs} {X : zXt} {c0 : Int32} {K : zKt} {I : zIt} {A : zAt} {w : Nat → Int64} {p : Nat × Nat} {Q : Option Value → Nat × Nat → zH → Prop} (hn : i + 7 ≤ n) (hn2 : n ≤ 3584) (hw : zSw S) (hX : zXw X) (hC : zCA S X K) (hR : zRA S X c0 I A) (H : ∀ S' X' K' I' A' w' p' c', zSw S' → zXw X' → zCA S' X' K' → zRA S' X' c' I' A' → p'.1 ≤ p.1 + 1 → p'.2 ≤ p.2 + 6 → zV (some (n, sf)) zm_285 2674 [some (.retAddr 0), some (.ref 0), some (.ref 75), some (.ref 85), some (.int (Int32.ofNat i)), none, none, none] [] p' (zh K' I' A' w') Q) : zV (some (n, sf)) zm_285 188 [some (.retAddr 0), some (.ref 0), some (.ref 75), some (.ref 85), some (.int (Int32.ofNat i)), none, none, none] [] p (zh K I A w) Q := by
  refine zV_go 194 [some (.retAddr 0), some (.ref 0), some (.ref 75), some (.ref 85), some (.int (Int32.ofNat i)), none, none, none] [.int (Int32.ofNat i + (1 : Int32)), .retAddr 0, .ref 0] 5 (fun f => rfl) ?_
  refine zV_scr (j := i + 1) rfl (zN_a rfl rfl) (by omega) hn2 ?_
  refine zV_go 200 [some (.retAddr 0), some (.ref 0), some (.ref 75), some (.ref 85), some (.int (Int32.ofNat i)), none, none, none] [.int (Int32.ofNat i + (2 : Int32)), .retAddr 0, .int (sf (i + 1)), .ref 0] 4 (fun f => rfl) ?_
  refine zV_scr (j := i + 2) rfl (zN_a rfl rfl) (by omega) hn2 ?_
  refine zV_go 206 [some (.retAddr 0), some (.ref 0), some (.ref 75), some (.ref 85), some (.int (Int32.ofNat i)), none, none, none] [.int (Int32.ofNat i + (3 : Int32)), .retAddr 0, .int (sf (i + 2)), .int (sf (i + 1)), .ref 0] 4 (fun f => rfl) ?_
  refine zV_scr (j := i + 3) rfl (zN_a rfl rfl) (by omega) hn2 ?_
  refine zV_go 212 [some (.retAddr 0), some (.ref 0), some (.ref 75), some (.ref 85), some (.int (Int32.ofNat i)), none, none, none] [.int (Int32.ofNat i + (4 : Int32)), .retAddr 0, .int (sf (i + 3)), .int (sf (i + 2)), .int (sf (i + 1)), .ref 0] 4 (fun f => rfl) ?_
  refine zV_scr (j := i + 4) rfl (zN_a rfl rfl) (by omega) hn2 ?_
  refine zV_go 214 [some (.retAddr 0), some (.ref 0), some (.ref 75), some (.ref 85), some (.int (Int32.ofNat i)), none, none, none] [.ref 85, .int (sf (i + 4)), .int (sf (i + 3)), .int (sf (i + 2)), .int (sf (i + 1)), .ref 0] 1 (fun f => rfl) ?_
  refine zV_cw rfl rfl rfl rfl (w246 (S' := (zc_create S (sf (i + 1)) (sf (i + 2)) (sf (i + 3)) (sf (i + 4))).2) (X' := X) (x := (zc_create S (sf (i + 1)) (sf (i + 2)) (sf (i + 3)) (sf (i + 4))).1) (K_create hw hC) (g_create hw).2 (fun K1 hC1 => ?_))
  refine zV_go 225 [some (.retAddr 0), some (.ref 0), some (.ref 75), some (.ref 85), some (.int (Int32.ofNat i)), some (.int (zcd [0, 2] (zc_create S (sf (i + 1)) (sf (i + 2)) (sf (i + 3)) (sf (i + 4))).1)), none, none] [.int (Int32.ofNat i + (1 : Int32)), .retAddr 0, .ref 75] 6 (fun f => rfl) ?_
  refine zV_scr (j := i + 1) rfl (zN_a rfl rfl) (by omega) hn2 ?_
  refine zV_go 231 [some (.retAddr 0), some (.ref 0), some (.ref 75), some (.ref 85), some (.int (Int32.ofNat i)), some (.int (zcd [0, 2] (zc_create S (sf (i + 1)) (sf (i + 2)) (sf (i + 3)) (sf (i + 4))).1)), none, none] [.int (Int32.ofNat i + (2 : Int32)), .retAddr 0, .int (sf (i + 1)), .ref 75] 4 (fun f => rfl) ?_
  refine zV_scr (j := i + 2) rfl (zN_a rfl rfl) (by omega) hn2 ?_
  refine zV_go 237 [some (.retAddr 0), some (.ref 0), some (.ref 75), some (.ref 85), some (.int (Int32.ofNat i)), some (.int (zcd [0, 2] (zc_create S (sf (i + 1)) (sf (i + 2)) (sf (i + 3)) (sf (i + 4))).1)), none, none] [.int (Int32.ofNat i + (3 : Int32)), .retAddr 0, .int (sf (i + 2)), .int (sf (i + 1)), .ref 75] 4 (fun f => rfl) ?_
  refine zV_scr (j := i + 3) rfl (zN_a rfl rfl) (by omega) hn2 ?_
  refine zV_go 243 [some (.retAddr 0), some (.ref 0), some (.ref 75), some (.ref 85), some (.int (Int32.ofNat i)), some (.int (zcd [0, 2] (zc_create S (sf (i + 1)) (sf (i + 2)) (sf (i + 3)) (sf (i + 4))).1)), none, none] [.int (Int32.ofNat i + (4 : Int32)), .retAddr 0, .int (sf (i + 3)), .int (sf (i + 2)), .int (sf (i + 1)), .ref 75] 4 (fun f => rfl) ?_
  refine zV_scr (j := i + 4) rfl (zN_a rfl rfl) (by omega) hn2 ?_
  refine zV_cl rfl rfl rfl rfl (zT_mono (R_create hw hR) (fun r h' q => ?_))
  obtain ⟨rfl, I1, A1, hR1, rfl⟩ := q
  refine ⟨_, rfl, ?_⟩
  have fin := H (zc_create S (sf (i + 1)) (sf (i + 2)) (sf (i + 3)) (sf (i + 4))).2 X K1 I1 A1 (zow w (zc_create S (sf (i + 1)) (sf (i + 2)) (sf (i + 3)) (sf (i + 4))).1) (zpx' p (zc_create S (sf (i + 1)) (sf (i + 2)) (sf (i + 3)) (sf (i + 4))).1) _ (g_create hw).1 hX hC1 hR1 (zpx_b p (zc_create S (sf (i + 1)) (sf (i + 2)) (sf (i + 3)) (sf (i + 4))).1).1 (zpx_b p (zc_create S (sf (i + 1)) (sf (i + 2)) (sf (i + 3)) (sf (i + 4))).1).2
  have hz := True.intro
  clear H
  generalize (zc_create S (sf (i + 1)) (sf (i + 2)) (sf (i + 3)) (sf (i + 4))).1 = x at *
  refine zV_go 250 [some (.retAddr 0), some (.ref 0), some (.ref 75), some (.ref 85), some (.int (Int32.ofNat i)), some (.int (zcd [0, 2] x)), some (.int (zrv x)), none] [.ref 75] 2 (fun f => rfl) ?_
  refine zV_cl rfl rfl rfl rfl (zT_mono (R_thrown hR1) (fun r h' q => ?_))
  obtain ⟨rfl, rfl⟩ := q
  refine ⟨_, rfl, ?_⟩
  refine zV_br (zcmp .eq (zcd [0, 2] x) (zcd [0, 2] x)) 260 258 [some (.retAddr 0), some (.ref 0), some (.ref 75), some (.ref 85), some (.int (Int32.ofNat i)), some (.int (zcd [0, 2] x)), some (.int (zrv x)), none] [] 2 (fun f => rfl) (fun _ => ?_) (fun h => by rw [zcE] at h; cases h)
  have out : zV (some (n, sf)) zm_285 277 [some (.retAddr 0), some (.ref 0), some (.ref 75), some (.ref 85), some (.int (Int32.ofNat i)), some (.int (zcd [0, 2] x)), some (.int (zrv x)), none] [] (zpx' p x) (zh K1 I1 A1 (zow w x)) Q := zV_go 2674 [some (.retAddr 0), some (.ref 0), some (.ref 75), some (.ref 85), some (.int (Int32.ofNat i)), some (.int (zcd [0, 2] x)), some (.int (zrv x)), none] [] 1 (fun f => rfl) (zV_fg (zle_s _ (zle_s _ (zle_s _ (zle_s _ (zle_s _ (zle_n _ (zle_n _ (zle_n _ zle_nil)))))))) fin)
  cases x with
  | inr e =>
    exact zV_br (zcmp .ne (zcd [0, 2] (.inr e : Int32 ⊕ Nat)) 0) 277 265 [some (.retAddr 0), some (.ref 0), some (.ref 75), some (.ref 85), some (.int (Int32.ofNat i)), some (.int (zcd [0, 2] (.inr e : Int32 ⊕ Nat))), some (.int (zrv (.inr e))), none] [] 2 (fun f => rfl) (fun _ => out) (fun h => by rw [zcNe (zcd_n (by decide))] at h; cases h)
  | inl v =>
    refine zV_go 272 [some (.retAddr 0), some (.ref 0), some (.ref 75), some (.ref 85), some (.int (Int32.ofNat i)), some (.int (0 : Int32)), some (.int v), none] [.int (lg_cmp v.toInt64 v.toInt64)] 8 (fun f => rfl) ?_
    exact zV_br (zcmp .eq (lg_cmp v.toInt64 v.toInt64) 0) 277 275 [some (.retAddr 0), some (.ref 0), some (.ref 75), some (.ref 85), some (.int (Int32.ofNat i)), some (.int (0 : Int32)), some (.int v), none] [] 1 (fun f => rfl) (fun _ => out) (fun h => by rw [zcLE] at h; cases h)
theorem cs_set {n i : Nat} {sf : Nat → Int32} {S : zSs} {X : zXt} {c0 : Int32} {K : zKt} {I : zIt} {A : zAt} {w : Nat → Int64} {p : Nat × Nat} {Q : Option Value → Nat × Nat → zH → Prop} (hn : i + 7 ≤ n) (hn2 : n ≤ 3584) (hw : zSw S) (hX : zXw X) (hC : zCA S X K) (hR : zRA S X c0 I A) (H : ∀ S' X' K' I' A' w' p' c', zSw S' → zXw X' → zCA S' X' K' → zRA S' X' c' I' A' → p'.1 ≤ p.1 + 1 → p'.2 ≤ p.2 + 6 → zV (some (n, sf)) zm_285 2674 [some (.retAddr 0), some (.ref 0), some (.ref 75), some (.ref 85), some (.int (Int32.ofNat i)), none, none, none] [] p' (zh K' I' A' w') Q) : zV (some (n, sf)) zm_285 280 [some (.retAddr 0), some (.ref 0), some (.ref 75), some (.ref 85), some (.int (Int32.ofNat i)), none, none, none] [] p (zh K I A w) Q := by
  refine zV_go 286 [some (.retAddr 0), some (.ref 0), some (.ref 75), some (.ref 85), some (.int (Int32.ofNat i)), none, none, none] [.int (Int32.ofNat i + (1 : Int32)), .retAddr 0, .ref 0] 5 (fun f => rfl) ?_
  refine zV_scr (j := i + 1) rfl (zN_a rfl rfl) (by omega) hn2 ?_
  refine zV_go 292 [some (.retAddr 0), some (.ref 0), some (.ref 75), some (.ref 85), some (.int (Int32.ofNat i)), none, none, none] [.int (Int32.ofNat i + (2 : Int32)), .retAddr 0, .int (sf (i + 1)), .ref 0] 4 (fun f => rfl) ?_
  refine zV_scr (j := i + 2) rfl (zN_a rfl rfl) (by omega) hn2 ?_
  refine zV_go 298 [some (.retAddr 0), some (.ref 0), some (.ref 75), some (.ref 85), some (.int (Int32.ofNat i)), none, none, none] [.int (Int32.ofNat i + (3 : Int32)), .retAddr 0, .int (sf (i + 2)), .int (sf (i + 1)), .ref 0] 4 (fun f => rfl) ?_
  refine zV_scr (j := i + 3) rfl (zN_a rfl rfl) (by omega) hn2 ?_
  refine zV_go 304 [some (.retAddr 0), some (.ref 0), some (.ref 75), some (.ref 85), some (.int (Int32.ofNat i)), none, none, none] [.int (Int32.ofNat i + (4 : Int32)), .retAddr 0, .int (sf (i + 3)), .int (sf (i + 2)), .int (sf (i + 1)), .ref 0] 4 (fun f => rfl) ?_
  refine zV_scr (j := i + 4) rfl (zN_a rfl rfl) (by omega) hn2 ?_
  refine zV_go 310 [some (.retAddr 0), some (.ref 0), some (.ref 75), some (.ref 85), some (.int (Int32.ofNat i)), none, none, none] [.int (Int32.ofNat i + (5 : Int32)), .retAddr 0, .int (sf (i + 4)), .int (sf (i + 3)), .int (sf (i + 2)), .int (sf (i + 1)), .ref 0] 4 (fun f => rfl) ?_
  refine zV_scr (j := i + 5) rfl (zN_a rfl rfl) (by omega) hn2 ?_
  refine zV_go 312 [some (.retAddr 0), some (.ref 0), some (.ref 75), some (.ref 85), some (.int (Int32.ofNat i)), none, none, none] [.ref 85, .int (sf (i + 5)), .int (sf (i + 4)), .int (sf (i + 3)), .int (sf (i + 2)), .int (sf (i + 1)), .ref 0] 1 (fun f => rfl) ?_
  refine zV_cw rfl rfl rfl rfl (w247 (S' := (zc_set S (sf (i + 1)) (sf (i + 2)) (sf (i + 3)) (sf (i + 4)) (sf (i + 5))).2) (X' := X) (x := (zc_set S (sf (i + 1)) (sf (i + 2)) (sf (i + 3)) (sf (i + 4)) (sf (i + 5))).1) (K_set hw hC) (g_set hw).2 (fun K1 hC1 => ?_))
  refine zV_go 323 [some (.retAddr 0), some (.ref 0), some (.ref 75), some (.ref 85), some (.int (Int32.ofNat i)), some (.int (zcd [0, 1, 2] (zc_set S (sf (i + 1)) (sf (i + 2)) (sf (i + 3)) (sf (i + 4)) (sf (i + 5))).1)), none, none] [.int (Int32.ofNat i + (1 : Int32)), .retAddr 0, .ref 75] 6 (fun f => rfl) ?_
  refine zV_scr (j := i + 1) rfl (zN_a rfl rfl) (by omega) hn2 ?_
  refine zV_go 329 [some (.retAddr 0), some (.ref 0), some (.ref 75), some (.ref 85), some (.int (Int32.ofNat i)), some (.int (zcd [0, 1, 2] (zc_set S (sf (i + 1)) (sf (i + 2)) (sf (i + 3)) (sf (i + 4)) (sf (i + 5))).1)), none, none] [.int (Int32.ofNat i + (2 : Int32)), .retAddr 0, .int (sf (i + 1)), .ref 75] 4 (fun f => rfl) ?_
  refine zV_scr (j := i + 2) rfl (zN_a rfl rfl) (by omega) hn2 ?_
  refine zV_go 335 [some (.retAddr 0), some (.ref 0), some (.ref 75), some (.ref 85), some (.int (Int32.ofNat i)), some (.int (zcd [0, 1, 2] (zc_set S (sf (i + 1)) (sf (i + 2)) (sf (i + 3)) (sf (i + 4)) (sf (i + 5))).1)), none, none] [.int (Int32.ofNat i + (3 : Int32)), .retAddr 0, .int (sf (i + 2)), .int (sf (i + 1)), .ref 75] 4 (fun f => rfl) ?_
  refine zV_scr (j := i + 3) rfl (zN_a rfl rfl) (by omega) hn2 ?_
  refine zV_go 341 [some (.retAddr 0), some (.ref 0), some (.ref 75), some (.ref 85), some (.int (Int32.ofNat i)), some (.int (zcd [0, 1, 2] (zc_set S (sf (i + 1)) (sf (i + 2)) (sf (i + 3)) (sf (i + 4)) (sf (i + 5))).1)), none, none] [.int (Int32.ofNat i + (4 : Int32)), .retAddr 0, .int (sf (i + 3)), .int (sf (i + 2)), .int (sf (i + 1)), .ref 75] 4 (fun f => rfl) ?_
  refine zV_scr (j := i + 4) rfl (zN_a rfl rfl) (by omega) hn2 ?_
  refine zV_go 347 [some (.retAddr 0), some (.ref 0), some (.ref 75), some (.ref 85), some (.int (Int32.ofNat i)), some (.int (zcd [0, 1, 2] (zc_set S (sf (i + 1)) (sf (i + 2)) (sf (i + 3)) (sf (i + 4)) (sf (i + 5))).1)), none, none] [.int (Int32.ofNat i + (5 : Int32)), .retAddr 0, .int (sf (i + 4)), .int (sf (i + 3)), .int (sf (i + 2)), .int (sf (i + 1)), .ref 75] 4 (fun f => rfl) ?_
  refine zV_scr (j := i + 5) rfl (zN_a rfl rfl) (by omega) hn2 ?_
  refine zV_cl rfl rfl rfl rfl (zT_mono (R_set hw hR) (fun r h' q => ?_))
  obtain ⟨rfl, I1, A1, hR1, rfl⟩ := q
  refine ⟨_, rfl, ?_⟩
  have fin := H (zc_set S (sf (i + 1)) (sf (i + 2)) (sf (i + 3)) (sf (i + 4)) (sf (i + 5))).2 X K1 I1 A1 (zow w (zc_set S (sf (i + 1)) (sf (i + 2)) (sf (i + 3)) (sf (i + 4)) (sf (i + 5))).1) (zpx' p (zc_set S (sf (i + 1)) (sf (i + 2)) (sf (i + 3)) (sf (i + 4)) (sf (i + 5))).1) _ (g_set hw).1 hX hC1 hR1 (zpx_b p (zc_set S (sf (i + 1)) (sf (i + 2)) (sf (i + 3)) (sf (i + 4)) (sf (i + 5))).1).1 (zpx_b p (zc_set S (sf (i + 1)) (sf (i + 2)) (sf (i + 3)) (sf (i + 4)) (sf (i + 5))).1).2
  have hz := True.intro
  clear H
  generalize (zc_set S (sf (i + 1)) (sf (i + 2)) (sf (i + 3)) (sf (i + 4)) (sf (i + 5))).1 = x at *
  refine zV_go 354 [some (.retAddr 0), some (.ref 0), some (.ref 75), some (.ref 85), some (.int (Int32.ofNat i)), some (.int (zcd [0, 1, 2] x)), some (.int (zrv x)), none] [.ref 75] 2 (fun f => rfl) ?_
  refine zV_cl rfl rfl rfl rfl (zT_mono (R_thrown hR1) (fun r h' q => ?_))
  obtain ⟨rfl, rfl⟩ := q
  refine ⟨_, rfl, ?_⟩
  refine zV_br (zcmp .eq (zcd [0, 1, 2] x) (zcd [0, 1, 2] x)) 364 362 [some (.retAddr 0), some (.ref 0), some (.ref 75), some (.ref 85), some (.int (Int32.ofNat i)), some (.int (zcd [0, 1, 2] x)), some (.int (zrv x)), none] [] 2 (fun f => rfl) (fun _ => ?_) (fun h => by rw [zcE] at h; cases h)
  have out : zV (some (n, sf)) zm_285 381 [some (.retAddr 0), some (.ref 0), some (.ref 75), some (.ref 85), some (.int (Int32.ofNat i)), some (.int (zcd [0, 1, 2] x)), some (.int (zrv x)), none] [] (zpx' p x) (zh K1 I1 A1 (zow w x)) Q := zV_go 2674 [some (.retAddr 0), some (.ref 0), some (.ref 75), some (.ref 85), some (.int (Int32.ofNat i)), some (.int (zcd [0, 1, 2] x)), some (.int (zrv x)), none] [] 1 (fun f => rfl) (zV_fg (zle_s _ (zle_s _ (zle_s _ (zle_s _ (zle_s _ (zle_n _ (zle_n _ (zle_n _ zle_nil)))))))) fin)
  cases x with
  | inr e =>
    exact zV_br (zcmp .ne (zcd [0, 1, 2] (.inr e : Int32 ⊕ Nat)) 0) 381 369 [some (.retAddr 0), some (.ref 0), some (.ref 75), some (.ref 85), some (.int (Int32.ofNat i)), some (.int (zcd [0, 1, 2] (.inr e : Int32 ⊕ Nat))), some (.int (zrv (.inr e))), none] [] 2 (fun f => rfl) (fun _ => out) (fun h => by rw [zcNe (zcd_n (by decide))] at h; cases h)
  | inl v =>
    refine zV_go 376 [some (.retAddr 0), some (.ref 0), some (.ref 75), some (.ref 85), some (.int (Int32.ofNat i)), some (.int (0 : Int32)), some (.int v), none] [.int (lg_cmp v.toInt64 v.toInt64)] 8 (fun f => rfl) ?_
    exact zV_br (zcmp .eq (lg_cmp v.toInt64 v.toInt64) 0) 381 379 [some (.retAddr 0), some (.ref 0), some (.ref 75), some (.ref 85), some (.int (Int32.ofNat i)), some (.int (0 : Int32)), some (.int v), none] [] 1 (fun f => rfl) (fun _ => out) (fun h => by rw [zcLE] at h; cases h)
theorem cs_copy {n i : Nat} {sf : Nat → Int32} {S : zSs} {X : zXt} {c0 : Int32} {K : zKt} {I : zIt} {A : zAt} {w : Nat → Int64} {p : Nat × Nat} {Q : Option Value → Nat × Nat → zH → Prop} (hn : i + 7 ≤ n) (hn2 : n ≤ 3584) (hw : zSw S) (hX : zXw X) (hC : zCA S X K) (hR : zRA S X c0 I A) (H : ∀ S' X' K' I' A' w' p' c', zSw S' → zXw X' → zCA S' X' K' → zRA S' X' c' I' A' → p'.1 ≤ p.1 + 1 → p'.2 ≤ p.2 + 6 → zV (some (n, sf)) zm_285 2674 [some (.retAddr 0), some (.ref 0), some (.ref 75), some (.ref 85), some (.int (Int32.ofNat i)), none, none, none] [] p' (zh K' I' A' w') Q) : zV (some (n, sf)) zm_285 384 [some (.retAddr 0), some (.ref 0), some (.ref 75), some (.ref 85), some (.int (Int32.ofNat i)), none, none, none] [] p (zh K I A w) Q := by
  refine zV_go 390 [some (.retAddr 0), some (.ref 0), some (.ref 75), some (.ref 85), some (.int (Int32.ofNat i)), none, none, none] [.int (Int32.ofNat i + (1 : Int32)), .retAddr 0, .ref 0] 5 (fun f => rfl) ?_
  refine zV_scr (j := i + 1) rfl (zN_a rfl rfl) (by omega) hn2 ?_
  refine zV_go 396 [some (.retAddr 0), some (.ref 0), some (.ref 75), some (.ref 85), some (.int (Int32.ofNat i)), none, none, none] [.int (Int32.ofNat i + (2 : Int32)), .retAddr 0, .int (sf (i + 1)), .ref 0] 4 (fun f => rfl) ?_
  refine zV_scr (j := i + 2) rfl (zN_a rfl rfl) (by omega) hn2 ?_
  refine zV_go 398 [some (.retAddr 0), some (.ref 0), some (.ref 75), some (.ref 85), some (.int (Int32.ofNat i)), none, none, none] [.ref 85, .int (sf (i + 2)), .int (sf (i + 1)), .ref 0] 1 (fun f => rfl) ?_
  refine zV_cw rfl rfl rfl rfl (w248 (S' := (zc_copy S (sf (i + 1)) (sf (i + 2))).2) (X' := X) (x := (zc_copy S (sf (i + 1)) (sf (i + 2))).1) (K_copy hw hC) (g_copy hw).2 (fun K1 hC1 => ?_))
  refine zV_go 409 [some (.retAddr 0), some (.ref 0), some (.ref 75), some (.ref 85), some (.int (Int32.ofNat i)), some (.int (zcd [0, 1] (zc_copy S (sf (i + 1)) (sf (i + 2))).1)), none, none] [.int (Int32.ofNat i + (1 : Int32)), .retAddr 0, .ref 75] 6 (fun f => rfl) ?_
  refine zV_scr (j := i + 1) rfl (zN_a rfl rfl) (by omega) hn2 ?_
  refine zV_go 415 [some (.retAddr 0), some (.ref 0), some (.ref 75), some (.ref 85), some (.int (Int32.ofNat i)), some (.int (zcd [0, 1] (zc_copy S (sf (i + 1)) (sf (i + 2))).1)), none, none] [.int (Int32.ofNat i + (2 : Int32)), .retAddr 0, .int (sf (i + 1)), .ref 75] 4 (fun f => rfl) ?_
  refine zV_scr (j := i + 2) rfl (zN_a rfl rfl) (by omega) hn2 ?_
  refine zV_cl rfl rfl rfl rfl (zT_mono (R_copy hw hR) (fun r h' q => ?_))
  obtain ⟨rfl, I1, A1, hR1, rfl⟩ := q
  refine ⟨_, rfl, ?_⟩
  have fin := H (zc_copy S (sf (i + 1)) (sf (i + 2))).2 X K1 I1 A1 (zow w (zc_copy S (sf (i + 1)) (sf (i + 2))).1) (zpx' p (zc_copy S (sf (i + 1)) (sf (i + 2))).1) _ (g_copy hw).1 hX hC1 hR1 (zpx_b p (zc_copy S (sf (i + 1)) (sf (i + 2))).1).1 (zpx_b p (zc_copy S (sf (i + 1)) (sf (i + 2))).1).2
  have hz := True.intro
  clear H
  generalize (zc_copy S (sf (i + 1)) (sf (i + 2))).1 = x at *
  refine zV_go 422 [some (.retAddr 0), some (.ref 0), some (.ref 75), some (.ref 85), some (.int (Int32.ofNat i)), some (.int (zcd [0, 1] x)), some (.int (zrv x)), none] [.ref 75] 2 (fun f => rfl) ?_
  refine zV_cl rfl rfl rfl rfl (zT_mono (R_thrown hR1) (fun r h' q => ?_))
  obtain ⟨rfl, rfl⟩ := q
  refine ⟨_, rfl, ?_⟩
  refine zV_br (zcmp .eq (zcd [0, 1] x) (zcd [0, 1] x)) 432 430 [some (.retAddr 0), some (.ref 0), some (.ref 75), some (.ref 85), some (.int (Int32.ofNat i)), some (.int (zcd [0, 1] x)), some (.int (zrv x)), none] [] 2 (fun f => rfl) (fun _ => ?_) (fun h => by rw [zcE] at h; cases h)
  have out : zV (some (n, sf)) zm_285 449 [some (.retAddr 0), some (.ref 0), some (.ref 75), some (.ref 85), some (.int (Int32.ofNat i)), some (.int (zcd [0, 1] x)), some (.int (zrv x)), none] [] (zpx' p x) (zh K1 I1 A1 (zow w x)) Q := zV_go 2674 [some (.retAddr 0), some (.ref 0), some (.ref 75), some (.ref 85), some (.int (Int32.ofNat i)), some (.int (zcd [0, 1] x)), some (.int (zrv x)), none] [] 1 (fun f => rfl) (zV_fg (zle_s _ (zle_s _ (zle_s _ (zle_s _ (zle_s _ (zle_n _ (zle_n _ (zle_n _ zle_nil)))))))) fin)
  cases x with
  | inr e =>
    exact zV_br (zcmp .ne (zcd [0, 1] (.inr e : Int32 ⊕ Nat)) 0) 449 437 [some (.retAddr 0), some (.ref 0), some (.ref 75), some (.ref 85), some (.int (Int32.ofNat i)), some (.int (zcd [0, 1] (.inr e : Int32 ⊕ Nat))), some (.int (zrv (.inr e))), none] [] 2 (fun f => rfl) (fun _ => out) (fun h => by rw [zcNe (zcd_n (by decide))] at h; cases h)
  | inl v =>
    refine zV_go 444 [some (.retAddr 0), some (.ref 0), some (.ref 75), some (.ref 85), some (.int (Int32.ofNat i)), some (.int (0 : Int32)), some (.int v), none] [.int (lg_cmp v.toInt64 v.toInt64)] 8 (fun f => rfl) ?_
    exact zV_br (zcmp .eq (lg_cmp v.toInt64 v.toInt64) 0) 449 447 [some (.retAddr 0), some (.ref 0), some (.ref 75), some (.ref 85), some (.int (Int32.ofNat i)), some (.int (0 : Int32)), some (.int v), none] [] 1 (fun f => rfl) (fun _ => out) (fun h => by rw [zcLE] at h; cases h)
theorem cs_mul {n i : Nat} {sf : Nat → Int32} {S : zSs} {X : zXt} {c0 : Int32} {K : zKt} {I : zIt} {A : zAt} {w : Nat → Int64} {p : Nat × Nat} {Q : Option Value → Nat × Nat → zH → Prop} (hn : i + 7 ≤ n) (hn2 : n ≤ 3584) (hw : zSw S) (hX : zXw X) (hC : zCA S X K) (hR : zRA S X c0 I A) (H : ∀ S' X' K' I' A' w' p' c', zSw S' → zXw X' → zCA S' X' K' → zRA S' X' c' I' A' → p'.1 ≤ p.1 + 1 → p'.2 ≤ p.2 + 6 → zV (some (n, sf)) zm_285 2674 [some (.retAddr 0), some (.ref 0), some (.ref 75), some (.ref 85), some (.int (Int32.ofNat i)), none, none, none] [] p' (zh K' I' A' w') Q) : zV (some (n, sf)) zm_285 452 [some (.retAddr 0), some (.ref 0), some (.ref 75), some (.ref 85), some (.int (Int32.ofNat i)), none, none, none] [] p (zh K I A w) Q := by
  refine zV_go 458 [some (.retAddr 0), some (.ref 0), some (.ref 75), some (.ref 85), some (.int (Int32.ofNat i)), none, none, none] [.int (Int32.ofNat i + (1 : Int32)), .retAddr 0, .ref 0] 5 (fun f => rfl) ?_
  refine zV_scr (j := i + 1) rfl (zN_a rfl rfl) (by omega) hn2 ?_
  refine zV_go 464 [some (.retAddr 0), some (.ref 0), some (.ref 75), some (.ref 85), some (.int (Int32.ofNat i)), none, none, none] [.int (Int32.ofNat i + (2 : Int32)), .retAddr 0, .int (sf (i + 1)), .ref 0] 4 (fun f => rfl) ?_
  refine zV_scr (j := i + 2) rfl (zN_a rfl rfl) (by omega) hn2 ?_
  refine zV_go 470 [some (.retAddr 0), some (.ref 0), some (.ref 75), some (.ref 85), some (.int (Int32.ofNat i)), none, none, none] [.int (Int32.ofNat i + (3 : Int32)), .retAddr 0, .int (sf (i + 2)), .int (sf (i + 1)), .ref 0] 4 (fun f => rfl) ?_
  refine zV_scr (j := i + 3) rfl (zN_a rfl rfl) (by omega) hn2 ?_
  refine zV_go 472 [some (.retAddr 0), some (.ref 0), some (.ref 75), some (.ref 85), some (.int (Int32.ofNat i)), none, none, none] [.ref 85, .int (sf (i + 3)), .int (sf (i + 2)), .int (sf (i + 1)), .ref 0] 1 (fun f => rfl) ?_
  refine zV_cw rfl rfl rfl rfl (w249 (S' := (zc_mul S (sf (i + 1)) (sf (i + 2)) (sf (i + 3))).2) (X' := X) (x := (zc_mul S (sf (i + 1)) (sf (i + 2)) (sf (i + 3))).1) (K_mul hw hC) (g_mul hw).2 (fun K1 hC1 => ?_))
  refine zV_go 483 [some (.retAddr 0), some (.ref 0), some (.ref 75), some (.ref 85), some (.int (Int32.ofNat i)), some (.int (zcd [0, 1, 3] (zc_mul S (sf (i + 1)) (sf (i + 2)) (sf (i + 3))).1)), none, none] [.int (Int32.ofNat i + (1 : Int32)), .retAddr 0, .ref 75] 6 (fun f => rfl) ?_
  refine zV_scr (j := i + 1) rfl (zN_a rfl rfl) (by omega) hn2 ?_
  refine zV_go 489 [some (.retAddr 0), some (.ref 0), some (.ref 75), some (.ref 85), some (.int (Int32.ofNat i)), some (.int (zcd [0, 1, 3] (zc_mul S (sf (i + 1)) (sf (i + 2)) (sf (i + 3))).1)), none, none] [.int (Int32.ofNat i + (2 : Int32)), .retAddr 0, .int (sf (i + 1)), .ref 75] 4 (fun f => rfl) ?_
  refine zV_scr (j := i + 2) rfl (zN_a rfl rfl) (by omega) hn2 ?_
  refine zV_go 495 [some (.retAddr 0), some (.ref 0), some (.ref 75), some (.ref 85), some (.int (Int32.ofNat i)), some (.int (zcd [0, 1, 3] (zc_mul S (sf (i + 1)) (sf (i + 2)) (sf (i + 3))).1)), none, none] [.int (Int32.ofNat i + (3 : Int32)), .retAddr 0, .int (sf (i + 2)), .int (sf (i + 1)), .ref 75] 4 (fun f => rfl) ?_
  refine zV_scr (j := i + 3) rfl (zN_a rfl rfl) (by omega) hn2 ?_
  refine zV_cl rfl rfl rfl rfl (zT_mono (R_mul hw hR) (fun r h' q => ?_))
  obtain ⟨rfl, I1, A1, hR1, rfl⟩ := q
  refine ⟨_, rfl, ?_⟩
  have fin := H (zc_mul S (sf (i + 1)) (sf (i + 2)) (sf (i + 3))).2 X K1 I1 A1 (zow w (zc_mul S (sf (i + 1)) (sf (i + 2)) (sf (i + 3))).1) (zpx' p (zc_mul S (sf (i + 1)) (sf (i + 2)) (sf (i + 3))).1) _ (g_mul hw).1 hX hC1 hR1 (zpx_b p (zc_mul S (sf (i + 1)) (sf (i + 2)) (sf (i + 3))).1).1 (zpx_b p (zc_mul S (sf (i + 1)) (sf (i + 2)) (sf (i + 3))).1).2
  have hz := True.intro
  clear H
  generalize (zc_mul S (sf (i + 1)) (sf (i + 2)) (sf (i + 3))).1 = x at *
  refine zV_go 502 [some (.retAddr 0), some (.ref 0), some (.ref 75), some (.ref 85), some (.int (Int32.ofNat i)), some (.int (zcd [0, 1, 3] x)), some (.int (zrv x)), none] [.ref 75] 2 (fun f => rfl) ?_
  refine zV_cl rfl rfl rfl rfl (zT_mono (R_thrown hR1) (fun r h' q => ?_))
  obtain ⟨rfl, rfl⟩ := q
  refine ⟨_, rfl, ?_⟩
  refine zV_br (zcmp .eq (zcd [0, 1, 3] x) (zcd [0, 1, 3] x)) 512 510 [some (.retAddr 0), some (.ref 0), some (.ref 75), some (.ref 85), some (.int (Int32.ofNat i)), some (.int (zcd [0, 1, 3] x)), some (.int (zrv x)), none] [] 2 (fun f => rfl) (fun _ => ?_) (fun h => by rw [zcE] at h; cases h)
  have out : zV (some (n, sf)) zm_285 529 [some (.retAddr 0), some (.ref 0), some (.ref 75), some (.ref 85), some (.int (Int32.ofNat i)), some (.int (zcd [0, 1, 3] x)), some (.int (zrv x)), none] [] (zpx' p x) (zh K1 I1 A1 (zow w x)) Q := zV_go 2674 [some (.retAddr 0), some (.ref 0), some (.ref 75), some (.ref 85), some (.int (Int32.ofNat i)), some (.int (zcd [0, 1, 3] x)), some (.int (zrv x)), none] [] 1 (fun f => rfl) (zV_fg (zle_s _ (zle_s _ (zle_s _ (zle_s _ (zle_s _ (zle_n _ (zle_n _ (zle_n _ zle_nil)))))))) fin)
  cases x with
  | inr e =>
    exact zV_br (zcmp .ne (zcd [0, 1, 3] (.inr e : Int32 ⊕ Nat)) 0) 529 517 [some (.retAddr 0), some (.ref 0), some (.ref 75), some (.ref 85), some (.int (Int32.ofNat i)), some (.int (zcd [0, 1, 3] (.inr e : Int32 ⊕ Nat))), some (.int (zrv (.inr e))), none] [] 2 (fun f => rfl) (fun _ => out) (fun h => by rw [zcNe (zcd_n (by decide))] at h; cases h)
  | inl v =>
    refine zV_go 524 [some (.retAddr 0), some (.ref 0), some (.ref 75), some (.ref 85), some (.int (Int32.ofNat i)), some (.int (0 : Int32)), some (.int v), none] [.int (lg_cmp v.toInt64 v.toInt64)] 8 (fun f => rfl) ?_
    exact zV_br (zcmp .eq (lg_cmp v.toInt64 v.toInt64) 0) 529 527 [some (.retAddr 0), some (.ref 0), some (.ref 75), some (.ref 85), some (.int (Int32.ofNat i)), some (.int (0 : Int32)), some (.int v), none] [] 1 (fun f => rfl) (fun _ => out) (fun h => by rw [zcLE] at h; cases h)
theorem cs_ring {n i : Nat} {sf : Nat → Int32} {S : zSs} {X : zXt} {c0 : Int32} {K : zKt} {I : zIt} {A : zAt} {w : Nat → Int64} {p : Nat × Nat} {Q : Option Value → Nat × Nat → zH → Prop} (hn : i + 7 ≤ n) (hn2 : n ≤ 3584) (hw : zSw S) (hX : zXw X) (hC : zCA S X K) (hR : zRA S X c0 I A) (H : ∀ S' X' K' I' A' w' p' c', zSw S' → zXw X' → zCA S' X' K' → zRA S' X' c' I' A' → p'.1 ≤ p.1 + 1 → p'.2 ≤ p.2 + 6 → zV (some (n, sf)) zm_285 2674 [some (.retAddr 0), some (.ref 0), some (.ref 75), some (.ref 85), some (.int (Int32.ofNat i)), none, none, none] [] p' (zh K' I' A' w') Q) : zV (some (n, sf)) zm_285 532 [some (.retAddr 0), some (.ref 0), some (.ref 75), some (.ref 85), some (.int (Int32.ofNat i)), none, none, none] [] p (zh K I A w) Q := by
  refine zV_go 538 [some (.retAddr 0), some (.ref 0), some (.ref 75), some (.ref 85), some (.int (Int32.ofNat i)), none, none, none] [.int (Int32.ofNat i + (1 : Int32)), .retAddr 0, .ref 0] 5 (fun f => rfl) ?_
  refine zV_scr (j := i + 1) rfl (zN_a rfl rfl) (by omega) hn2 ?_
  refine zV_go 540 [some (.retAddr 0), some (.ref 0), some (.ref 75), some (.ref 85), some (.int (Int32.ofNat i)), none, none, none] [.ref 85, .int (sf (i + 1)), .ref 0] 1 (fun f => rfl) ?_
  refine zV_cw rfl rfl rfl rfl (w250 (S' := (zc_of S (sf (i + 1)) (fun X => X.1) (-1)).2) (X' := X) (x := (zc_of S (sf (i + 1)) (fun X => X.1) (-1)).1) (K_ring hw hC) (g_of hw).2 (fun K1 hC1 => ?_))
  refine zV_go 551 [some (.retAddr 0), some (.ref 0), some (.ref 75), some (.ref 85), some (.int (Int32.ofNat i)), some (.int (zcd [0] (zc_of S (sf (i + 1)) (fun X => X.1) (-1)).1)), none, none] [.int (Int32.ofNat i + (1 : Int32)), .retAddr 0, .ref 75] 6 (fun f => rfl) ?_
  refine zV_scr (j := i + 1) rfl (zN_a rfl rfl) (by omega) hn2 ?_
  refine zV_cl rfl rfl rfl rfl (zT_mono (R_ring hw hR) (fun r h' q => ?_))
  obtain ⟨rfl, I1, A1, hR1, rfl⟩ := q
  refine ⟨_, rfl, ?_⟩
  have fin := H (zc_of S (sf (i + 1)) (fun X => X.1) (-1)).2 X K1 I1 A1 (zow w (zc_of S (sf (i + 1)) (fun X => X.1) (-1)).1) (zpx' p (zc_of S (sf (i + 1)) (fun X => X.1) (-1)).1) _ (g_of hw).1 hX hC1 hR1 (zpx_b p (zc_of S (sf (i + 1)) (fun X => X.1) (-1)).1).1 (zpx_b p (zc_of S (sf (i + 1)) (fun X => X.1) (-1)).1).2
  have hz := True.intro
  clear H
  generalize (zc_of S (sf (i + 1)) (fun X => X.1) (-1)).1 = x at *
  refine zV_go 558 [some (.retAddr 0), some (.ref 0), some (.ref 75), some (.ref 85), some (.int (Int32.ofNat i)), some (.int (zcd [0] x)), some (.int (zrv x)), none] [.ref 75] 2 (fun f => rfl) ?_
  refine zV_cl rfl rfl rfl rfl (zT_mono (R_thrown hR1) (fun r h' q => ?_))
  obtain ⟨rfl, rfl⟩ := q
  refine ⟨_, rfl, ?_⟩
  refine zV_br (zcmp .eq (zcd [0] x) (zcd [0] x)) 568 566 [some (.retAddr 0), some (.ref 0), some (.ref 75), some (.ref 85), some (.int (Int32.ofNat i)), some (.int (zcd [0] x)), some (.int (zrv x)), none] [] 2 (fun f => rfl) (fun _ => ?_) (fun h => by rw [zcE] at h; cases h)
  have out : zV (some (n, sf)) zm_285 585 [some (.retAddr 0), some (.ref 0), some (.ref 75), some (.ref 85), some (.int (Int32.ofNat i)), some (.int (zcd [0] x)), some (.int (zrv x)), none] [] (zpx' p x) (zh K1 I1 A1 (zow w x)) Q := zV_go 2674 [some (.retAddr 0), some (.ref 0), some (.ref 75), some (.ref 85), some (.int (Int32.ofNat i)), some (.int (zcd [0] x)), some (.int (zrv x)), none] [] 1 (fun f => rfl) (zV_fg (zle_s _ (zle_s _ (zle_s _ (zle_s _ (zle_s _ (zle_n _ (zle_n _ (zle_n _ zle_nil)))))))) fin)
  cases x with
  | inr e =>
    exact zV_br (zcmp .ne (zcd [0] (.inr e : Int32 ⊕ Nat)) 0) 585 573 [some (.retAddr 0), some (.ref 0), some (.ref 75), some (.ref 85), some (.int (Int32.ofNat i)), some (.int (zcd [0] (.inr e : Int32 ⊕ Nat))), some (.int (zrv (.inr e))), none] [] 2 (fun f => rfl) (fun _ => out) (fun h => by rw [zcNe (zcd_n (by decide))] at h; cases h)
  | inl v =>
    refine zV_go 580 [some (.retAddr 0), some (.ref 0), some (.ref 75), some (.ref 85), some (.int (Int32.ofNat i)), some (.int (0 : Int32)), some (.int v), none] [.int (lg_cmp v.toInt64 v.toInt64)] 8 (fun f => rfl) ?_
    exact zV_br (zcmp .eq (lg_cmp v.toInt64 v.toInt64) 0) 585 583 [some (.retAddr 0), some (.ref 0), some (.ref 75), some (.ref 85), some (.int (Int32.ofNat i)), some (.int (0 : Int32)), some (.int v), none] [] 1 (fun f => rfl) (fun _ => out) (fun h => by rw [zcLE] at h; cases h)
theorem cs_rows {n i : Nat} {sf : Nat → Int32} {S : zSs} {X : zXt} {c0 : Int32} {K : zKt} {I : zIt} {A : zAt} {w : Nat → Int64} {p : Nat × Nat} {Q : Option Value → Nat × Nat → zH → Prop} (hn : i + 7 ≤ n) (hn2 : n ≤ 3584) (hw : zSw S) (hX : zXw X) (hC : zCA S X K) (hR : zRA S X c0 I A) (H : ∀ S' X' K' I' A' w' p' c', zSw S' → zXw X' → zCA S' X' K' → zRA S' X' c' I' A' → p'.1 ≤ p.1 + 1 → p'.2 ≤ p.2 + 6 → zV (some (n, sf)) zm_285 2674 [some (.retAddr 0), some (.ref 0), some (.ref 75), some (.ref 85), some (.int (Int32.ofNat i)), none, none, none] [] p' (zh K' I' A' w') Q) : zV (some (n, sf)) zm_285 588 [some (.retAddr 0), some (.ref 0), some (.ref 75), some (.ref 85), some (.int (Int32.ofNat i)), none, none, none] [] p (zh K I A w) Q := by
  refine zV_go 594 [some (.retAddr 0), some (.ref 0), some (.ref 75), some (.ref 85), some (.int (Int32.ofNat i)), none, none, none] [.int (Int32.ofNat i + (1 : Int32)), .retAddr 0, .ref 0] 5 (fun f => rfl) ?_
  refine zV_scr (j := i + 1) rfl (zN_a rfl rfl) (by omega) hn2 ?_
  refine zV_go 596 [some (.retAddr 0), some (.ref 0), some (.ref 75), some (.ref 85), some (.int (Int32.ofNat i)), none, none, none] [.ref 85, .int (sf (i + 1)), .ref 0] 1 (fun f => rfl) ?_
  refine zV_cw rfl rfl rfl rfl (w251 (S' := (zc_of S (sf (i + 1)) (fun X => X.2.1) 0).2) (X' := X) (x := (zc_of S (sf (i + 1)) (fun X => X.2.1) 0).1) (K_rows  hC) (g_of hw).2 (fun K1 hC1 => ?_))
  refine zV_go 607 [some (.retAddr 0), some (.ref 0), some (.ref 75), some (.ref 85), some (.int (Int32.ofNat i)), some (.int (zcd [0] (zc_of S (sf (i + 1)) (fun X => X.2.1) 0).1)), none, none] [.int (Int32.ofNat i + (1 : Int32)), .retAddr 0, .ref 75] 6 (fun f => rfl) ?_
  refine zV_scr (j := i + 1) rfl (zN_a rfl rfl) (by omega) hn2 ?_
  refine zV_cl rfl rfl rfl rfl (zT_mono (R_rows hw hR) (fun r h' q => ?_))
  obtain ⟨rfl, I1, A1, hR1, rfl⟩ := q
  refine ⟨_, rfl, ?_⟩
  have fin := H (zc_of S (sf (i + 1)) (fun X => X.2.1) 0).2 X K1 I1 A1 (zow w (zc_of S (sf (i + 1)) (fun X => X.2.1) 0).1) (zpx' p (zc_of S (sf (i + 1)) (fun X => X.2.1) 0).1) _ (g_of hw).1 hX hC1 hR1 (zpx_b p (zc_of S (sf (i + 1)) (fun X => X.2.1) 0).1).1 (zpx_b p (zc_of S (sf (i + 1)) (fun X => X.2.1) 0).1).2
  have hz := True.intro
  clear H
  generalize (zc_of S (sf (i + 1)) (fun X => X.2.1) 0).1 = x at *
  refine zV_go 614 [some (.retAddr 0), some (.ref 0), some (.ref 75), some (.ref 85), some (.int (Int32.ofNat i)), some (.int (zcd [0] x)), some (.int (zrv x)), none] [.ref 75] 2 (fun f => rfl) ?_
  refine zV_cl rfl rfl rfl rfl (zT_mono (R_thrown hR1) (fun r h' q => ?_))
  obtain ⟨rfl, rfl⟩ := q
  refine ⟨_, rfl, ?_⟩
  refine zV_br (zcmp .eq (zcd [0] x) (zcd [0] x)) 624 622 [some (.retAddr 0), some (.ref 0), some (.ref 75), some (.ref 85), some (.int (Int32.ofNat i)), some (.int (zcd [0] x)), some (.int (zrv x)), none] [] 2 (fun f => rfl) (fun _ => ?_) (fun h => by rw [zcE] at h; cases h)
  have out : zV (some (n, sf)) zm_285 641 [some (.retAddr 0), some (.ref 0), some (.ref 75), some (.ref 85), some (.int (Int32.ofNat i)), some (.int (zcd [0] x)), some (.int (zrv x)), none] [] (zpx' p x) (zh K1 I1 A1 (zow w x)) Q := zV_go 2674 [some (.retAddr 0), some (.ref 0), some (.ref 75), some (.ref 85), some (.int (Int32.ofNat i)), some (.int (zcd [0] x)), some (.int (zrv x)), none] [] 1 (fun f => rfl) (zV_fg (zle_s _ (zle_s _ (zle_s _ (zle_s _ (zle_s _ (zle_n _ (zle_n _ (zle_n _ zle_nil)))))))) fin)
  cases x with
  | inr e =>
    exact zV_br (zcmp .ne (zcd [0] (.inr e : Int32 ⊕ Nat)) 0) 641 629 [some (.retAddr 0), some (.ref 0), some (.ref 75), some (.ref 85), some (.int (Int32.ofNat i)), some (.int (zcd [0] (.inr e : Int32 ⊕ Nat))), some (.int (zrv (.inr e))), none] [] 2 (fun f => rfl) (fun _ => out) (fun h => by rw [zcNe (zcd_n (by decide))] at h; cases h)
  | inl v =>
    refine zV_go 636 [some (.retAddr 0), some (.ref 0), some (.ref 75), some (.ref 85), some (.int (Int32.ofNat i)), some (.int (0 : Int32)), some (.int v), none] [.int (lg_cmp v.toInt64 v.toInt64)] 8 (fun f => rfl) ?_
    exact zV_br (zcmp .eq (lg_cmp v.toInt64 v.toInt64) 0) 641 639 [some (.retAddr 0), some (.ref 0), some (.ref 75), some (.ref 85), some (.int (Int32.ofNat i)), some (.int (0 : Int32)), some (.int v), none] [] 1 (fun f => rfl) (fun _ => out) (fun h => by rw [zcLE] at h; cases h)
theorem cs_columns {n i : Nat} {sf : Nat → Int32} {S : zSs} {X : zXt} {c0 : Int32} {K : zKt} {I : zIt} {A : zAt} {w : Nat → Int64} {p : Nat × Nat} {Q : Option Value → Nat × Nat → zH → Prop} (hn : i + 7 ≤ n) (hn2 : n ≤ 3584) (hw : zSw S) (hX : zXw X) (hC : zCA S X K) (hR : zRA S X c0 I A) (H : ∀ S' X' K' I' A' w' p' c', zSw S' → zXw X' → zCA S' X' K' → zRA S' X' c' I' A' → p'.1 ≤ p.1 + 1 → p'.2 ≤ p.2 + 6 → zV (some (n, sf)) zm_285 2674 [some (.retAddr 0), some (.ref 0), some (.ref 75), some (.ref 85), some (.int (Int32.ofNat i)), none, none, none] [] p' (zh K' I' A' w') Q) : zV (some (n, sf)) zm_285 644 [some (.retAddr 0), some (.ref 0), some (.ref 75), some (.ref 85), some (.int (Int32.ofNat i)), none, none, none] [] p (zh K I A w) Q := by
  refine zV_go 650 [some (.retAddr 0), some (.ref 0), some (.ref 75), some (.ref 85), some (.int (Int32.ofNat i)), none, none, none] [.int (Int32.ofNat i + (1 : Int32)), .retAddr 0, .ref 0] 5 (fun f => rfl) ?_
  refine zV_scr (j := i + 1) rfl (zN_a rfl rfl) (by omega) hn2 ?_
  refine zV_go 652 [some (.retAddr 0), some (.ref 0), some (.ref 75), some (.ref 85), some (.int (Int32.ofNat i)), none, none, none] [.ref 85, .int (sf (i + 1)), .ref 0] 1 (fun f => rfl) ?_
  refine zV_cw rfl rfl rfl rfl (w252 (S' := (zc_of S (sf (i + 1)) (fun X => X.2.2.1) 0).2) (X' := X) (x := (zc_of S (sf (i + 1)) (fun X => X.2.2.1) 0).1) (K_columns  hC) (g_of hw).2 (fun K1 hC1 => ?_))
  refine zV_go 663 [some (.retAddr 0), some (.ref 0), some (.ref 75), some (.ref 85), some (.int (Int32.ofNat i)), some (.int (zcd [0] (zc_of S (sf (i + 1)) (fun X => X.2.2.1) 0).1)), none, none] [.int (Int32.ofNat i + (1 : Int32)), .retAddr 0, .ref 75] 6 (fun f => rfl) ?_
  refine zV_scr (j := i + 1) rfl (zN_a rfl rfl) (by omega) hn2 ?_
  refine zV_cl rfl rfl rfl rfl (zT_mono (R_columns hw hR) (fun r h' q => ?_))
  obtain ⟨rfl, I1, A1, hR1, rfl⟩ := q
  refine ⟨_, rfl, ?_⟩
  have fin := H (zc_of S (sf (i + 1)) (fun X => X.2.2.1) 0).2 X K1 I1 A1 (zow w (zc_of S (sf (i + 1)) (fun X => X.2.2.1) 0).1) (zpx' p (zc_of S (sf (i + 1)) (fun X => X.2.2.1) 0).1) _ (g_of hw).1 hX hC1 hR1 (zpx_b p (zc_of S (sf (i + 1)) (fun X => X.2.2.1) 0).1).1 (zpx_b p (zc_of S (sf (i + 1)) (fun X => X.2.2.1) 0).1).2
  have hz := True.intro
  clear H
  generalize (zc_of S (sf (i + 1)) (fun X => X.2.2.1) 0).1 = x at *
  refine zV_go 670 [some (.retAddr 0), some (.ref 0), some (.ref 75), some (.ref 85), some (.int (Int32.ofNat i)), some (.int (zcd [0] x)), some (.int (zrv x)), none] [.ref 75] 2 (fun f => rfl) ?_
  refine zV_cl rfl rfl rfl rfl (zT_mono (R_thrown hR1) (fun r h' q => ?_))
  obtain ⟨rfl, rfl⟩ := q
  refine ⟨_, rfl, ?_⟩
  refine zV_br (zcmp .eq (zcd [0] x) (zcd [0] x)) 680 678 [some (.retAddr 0), some (.ref 0), some (.ref 75), some (.ref 85), some (.int (Int32.ofNat i)), some (.int (zcd [0] x)), some (.int (zrv x)), none] [] 2 (fun f => rfl) (fun _ => ?_) (fun h => by rw [zcE] at h; cases h)
  have out : zV (some (n, sf)) zm_285 697 [some (.retAddr 0), some (.ref 0), some (.ref 75), some (.ref 85), some (.int (Int32.ofNat i)), some (.int (zcd [0] x)), some (.int (zrv x)), none] [] (zpx' p x) (zh K1 I1 A1 (zow w x)) Q := zV_go 2674 [some (.retAddr 0), some (.ref 0), some (.ref 75), some (.ref 85), some (.int (Int32.ofNat i)), some (.int (zcd [0] x)), some (.int (zrv x)), none] [] 1 (fun f => rfl) (zV_fg (zle_s _ (zle_s _ (zle_s _ (zle_s _ (zle_s _ (zle_n _ (zle_n _ (zle_n _ zle_nil)))))))) fin)
  cases x with
  | inr e =>
    exact zV_br (zcmp .ne (zcd [0] (.inr e : Int32 ⊕ Nat)) 0) 697 685 [some (.retAddr 0), some (.ref 0), some (.ref 75), some (.ref 85), some (.int (Int32.ofNat i)), some (.int (zcd [0] (.inr e : Int32 ⊕ Nat))), some (.int (zrv (.inr e))), none] [] 2 (fun f => rfl) (fun _ => out) (fun h => by rw [zcNe (zcd_n (by decide))] at h; cases h)
  | inl v =>
    refine zV_go 692 [some (.retAddr 0), some (.ref 0), some (.ref 75), some (.ref 85), some (.int (Int32.ofNat i)), some (.int (0 : Int32)), some (.int v), none] [.int (lg_cmp v.toInt64 v.toInt64)] 8 (fun f => rfl) ?_
    exact zV_br (zcmp .eq (lg_cmp v.toInt64 v.toInt64) 0) 697 695 [some (.retAddr 0), some (.ref 0), some (.ref 75), some (.ref 85), some (.int (Int32.ofNat i)), some (.int (0 : Int32)), some (.int v), none] [] 1 (fun f => rfl) (fun _ => out) (fun h => by rw [zcLE] at h; cases h)
theorem cs_entry {n i : Nat} {sf : Nat → Int32} {S : zSs} {X : zXt} {c0 : Int32} {K : zKt} {I : zIt} {A : zAt} {w : Nat → Int64} {p : Nat × Nat} {Q : Option Value → Nat × Nat → zH → Prop} (hn : i + 7 ≤ n) (hn2 : n ≤ 3584) (hw : zSw S) (hX : zXw X) (hC : zCA S X K) (hR : zRA S X c0 I A) (H : ∀ S' X' K' I' A' w' p' c', zSw S' → zXw X' → zCA S' X' K' → zRA S' X' c' I' A' → p'.1 ≤ p.1 + 1 → p'.2 ≤ p.2 + 6 → zV (some (n, sf)) zm_285 2674 [some (.retAddr 0), some (.ref 0), some (.ref 75), some (.ref 85), some (.int (Int32.ofNat i)), none, none, none] [] p' (zh K' I' A' w') Q) : zV (some (n, sf)) zm_285 700 [some (.retAddr 0), some (.ref 0), some (.ref 75), some (.ref 85), some (.int (Int32.ofNat i)), none, none, none] [] p (zh K I A w) Q := by
  refine zV_go 706 [some (.retAddr 0), some (.ref 0), some (.ref 75), some (.ref 85), some (.int (Int32.ofNat i)), none, none, none] [.int (Int32.ofNat i + (1 : Int32)), .retAddr 0, .ref 0] 5 (fun f => rfl) ?_
  refine zV_scr (j := i + 1) rfl (zN_a rfl rfl) (by omega) hn2 ?_
  refine zV_go 712 [some (.retAddr 0), some (.ref 0), some (.ref 75), some (.ref 85), some (.int (Int32.ofNat i)), none, none, none] [.int (Int32.ofNat i + (2 : Int32)), .retAddr 0, .int (sf (i + 1)), .ref 0] 4 (fun f => rfl) ?_
  refine zV_scr (j := i + 2) rfl (zN_a rfl rfl) (by omega) hn2 ?_
  refine zV_go 718 [some (.retAddr 0), some (.ref 0), some (.ref 75), some (.ref 85), some (.int (Int32.ofNat i)), none, none, none] [.int (Int32.ofNat i + (3 : Int32)), .retAddr 0, .int (sf (i + 2)), .int (sf (i + 1)), .ref 0] 4 (fun f => rfl) ?_
  refine zV_scr (j := i + 3) rfl (zN_a rfl rfl) (by omega) hn2 ?_
  refine zV_go 724 [some (.retAddr 0), some (.ref 0), some (.ref 75), some (.ref 85), some (.int (Int32.ofNat i)), none, none, none] [.int (Int32.ofNat i + (4 : Int32)), .retAddr 0, .int (sf (i + 3)), .int (sf (i + 2)), .int (sf (i + 1)), .ref 0] 4 (fun f => rfl) ?_
  refine zV_scr (j := i + 4) rfl (zN_a rfl rfl) (by omega) hn2 ?_
  refine zV_go 726 [some (.retAddr 0), some (.ref 0), some (.ref 75), some (.ref 85), some (.int (Int32.ofNat i)), none, none, none] [.ref 85, .int (sf (i + 4)), .int (sf (i + 3)), .int (sf (i + 2)), .int (sf (i + 1)), .ref 0] 1 (fun f => rfl) ?_
  refine zV_cw rfl rfl rfl rfl (w253 (S' := (zc_entry S (sf (i + 1)) (sf (i + 2)) (sf (i + 3)) (sf (i + 4))).2) (X' := X) (x := (zc_entry S (sf (i + 1)) (sf (i + 2)) (sf (i + 3)) (sf (i + 4))).1) (K_entry hw hC) (g_entry hw).2 (fun K1 hC1 => ?_))
  refine zV_go 737 [some (.retAddr 0), some (.ref 0), some (.ref 75), some (.ref 85), some (.int (Int32.ofNat i)), some (.int (zcd [0, 1, 2] (zc_entry S (sf (i + 1)) (sf (i + 2)) (sf (i + 3)) (sf (i + 4))).1)), none, none] [.int (Int32.ofNat i + (1 : Int32)), .retAddr 0, .ref 75] 6 (fun f => rfl) ?_
  refine zV_scr (j := i + 1) rfl (zN_a rfl rfl) (by omega) hn2 ?_
  refine zV_go 743 [some (.retAddr 0), some (.ref 0), some (.ref 75), some (.ref 85), some (.int (Int32.ofNat i)), some (.int (zcd [0, 1, 2] (zc_entry S (sf (i + 1)) (sf (i + 2)) (sf (i + 3)) (sf (i + 4))).1)), none, none] [.int (Int32.ofNat i + (2 : Int32)), .retAddr 0, .int (sf (i + 1)), .ref 75] 4 (fun f => rfl) ?_
  refine zV_scr (j := i + 2) rfl (zN_a rfl rfl) (by omega) hn2 ?_
  refine zV_go 749 [some (.retAddr 0), some (.ref 0), some (.ref 75), some (.ref 85), some (.int (Int32.ofNat i)), some (.int (zcd [0, 1, 2] (zc_entry S (sf (i + 1)) (sf (i + 2)) (sf (i + 3)) (sf (i + 4))).1)), none, none] [.int (Int32.ofNat i + (3 : Int32)), .retAddr 0, .int (sf (i + 2)), .int (sf (i + 1)), .ref 75] 4 (fun f => rfl) ?_
  refine zV_scr (j := i + 3) rfl (zN_a rfl rfl) (by omega) hn2 ?_
  refine zV_go 755 [some (.retAddr 0), some (.ref 0), some (.ref 75), some (.ref 85), some (.int (Int32.ofNat i)), some (.int (zcd [0, 1, 2] (zc_entry S (sf (i + 1)) (sf (i + 2)) (sf (i + 3)) (sf (i + 4))).1)), none, none] [.int (Int32.ofNat i + (4 : Int32)), .retAddr 0, .int (sf (i + 3)), .int (sf (i + 2)), .int (sf (i + 1)), .ref 75] 4 (fun f => rfl) ?_
  refine zV_scr (j := i + 4) rfl (zN_a rfl rfl) (by omega) hn2 ?_
  refine zV_cl rfl rfl rfl rfl (zT_mono (R_entry hw hR) (fun r h' q => ?_))
  obtain ⟨rfl, I1, A1, hR1, rfl⟩ := q
  refine ⟨_, rfl, ?_⟩
  have fin := H (zc_entry S (sf (i + 1)) (sf (i + 2)) (sf (i + 3)) (sf (i + 4))).2 X K1 I1 A1 (zow w (zc_entry S (sf (i + 1)) (sf (i + 2)) (sf (i + 3)) (sf (i + 4))).1) (zpx' p (zc_entry S (sf (i + 1)) (sf (i + 2)) (sf (i + 3)) (sf (i + 4))).1) _ (g_entry hw).1 hX hC1 hR1 (zpx_b p (zc_entry S (sf (i + 1)) (sf (i + 2)) (sf (i + 3)) (sf (i + 4))).1).1 (zpx_b p (zc_entry S (sf (i + 1)) (sf (i + 2)) (sf (i + 3)) (sf (i + 4))).1).2
  have hz := True.intro
  clear H
  generalize (zc_entry S (sf (i + 1)) (sf (i + 2)) (sf (i + 3)) (sf (i + 4))).1 = x at *
  refine zV_go 762 [some (.retAddr 0), some (.ref 0), some (.ref 75), some (.ref 85), some (.int (Int32.ofNat i)), some (.int (zcd [0, 1, 2] x)), some (.int (zrv x)), none] [.ref 75] 2 (fun f => rfl) ?_
  refine zV_cl rfl rfl rfl rfl (zT_mono (R_thrown hR1) (fun r h' q => ?_))
  obtain ⟨rfl, rfl⟩ := q
  refine ⟨_, rfl, ?_⟩
  refine zV_br (zcmp .eq (zcd [0, 1, 2] x) (zcd [0, 1, 2] x)) 772 770 [some (.retAddr 0), some (.ref 0), some (.ref 75), some (.ref 85), some (.int (Int32.ofNat i)), some (.int (zcd [0, 1, 2] x)), some (.int (zrv x)), none] [] 2 (fun f => rfl) (fun _ => ?_) (fun h => by rw [zcE] at h; cases h)
  have out : zV (some (n, sf)) zm_285 789 [some (.retAddr 0), some (.ref 0), some (.ref 75), some (.ref 85), some (.int (Int32.ofNat i)), some (.int (zcd [0, 1, 2] x)), some (.int (zrv x)), none] [] (zpx' p x) (zh K1 I1 A1 (zow w x)) Q := zV_go 2674 [some (.retAddr 0), some (.ref 0), some (.ref 75), some (.ref 85), some (.int (Int32.ofNat i)), some (.int (zcd [0, 1, 2] x)), some (.int (zrv x)), none] [] 1 (fun f => rfl) (zV_fg (zle_s _ (zle_s _ (zle_s _ (zle_s _ (zle_s _ (zle_n _ (zle_n _ (zle_n _ zle_nil)))))))) fin)
  cases x with
  | inr e =>
    exact zV_br (zcmp .ne (zcd [0, 1, 2] (.inr e : Int32 ⊕ Nat)) 0) 789 777 [some (.retAddr 0), some (.ref 0), some (.ref 75), some (.ref 85), some (.int (Int32.ofNat i)), some (.int (zcd [0, 1, 2] (.inr e : Int32 ⊕ Nat))), some (.int (zrv (.inr e))), none] [] 2 (fun f => rfl) (fun _ => out) (fun h => by rw [zcNe (zcd_n (by decide))] at h; cases h)
  | inl v =>
    refine zV_go 784 [some (.retAddr 0), some (.ref 0), some (.ref 75), some (.ref 85), some (.int (Int32.ofNat i)), some (.int (0 : Int32)), some (.int v), none] [.int (lg_cmp v.toInt64 v.toInt64)] 8 (fun f => rfl) ?_
    exact zV_br (zcmp .eq (lg_cmp v.toInt64 v.toInt64) 0) 789 787 [some (.retAddr 0), some (.ref 0), some (.ref 75), some (.ref 85), some (.int (Int32.ofNat i)), some (.int (0 : Int32)), some (.int v), none] [] 1 (fun f => rfl) (fun _ => out) (fun h => by rw [zcLE] at h; cases h)
theorem cs_swap {n i : Nat} {sf : Nat → Int32} {S : zSs} {X : zXt} {c0 : Int32} {K : zKt} {I : zIt} {A : zAt} {w : Nat → Int64} {p : Nat × Nat} {Q : Option Value → Nat × Nat → zH → Prop} (hn : i + 7 ≤ n) (hn2 : n ≤ 3584) (hw : zSw S) (hX : zXw X) (hC : zCA S X K) (hR : zRA S X c0 I A) (H : ∀ S' X' K' I' A' w' p' c', zSw S' → zXw X' → zCA S' X' K' → zRA S' X' c' I' A' → p'.1 ≤ p.1 + 1 → p'.2 ≤ p.2 + 6 → zV (some (n, sf)) zm_285 2674 [some (.retAddr 0), some (.ref 0), some (.ref 75), some (.ref 85), some (.int (Int32.ofNat i)), none, none, none] [] p' (zh K' I' A' w') Q) : zV (some (n, sf)) zm_285 792 [some (.retAddr 0), some (.ref 0), some (.ref 75), some (.ref 85), some (.int (Int32.ofNat i)), none, none, none] [] p (zh K I A w) Q := by
  refine zV_go 798 [some (.retAddr 0), some (.ref 0), some (.ref 75), some (.ref 85), some (.int (Int32.ofNat i)), none, none, none] [.int (Int32.ofNat i + (1 : Int32)), .retAddr 0, .ref 0] 5 (fun f => rfl) ?_
  refine zV_scr (j := i + 1) rfl (zN_a rfl rfl) (by omega) hn2 ?_
  refine zV_go 804 [some (.retAddr 0), some (.ref 0), some (.ref 75), some (.ref 85), some (.int (Int32.ofNat i)), none, none, none] [.int (Int32.ofNat i + (2 : Int32)), .retAddr 0, .int (sf (i + 1)), .ref 0] 4 (fun f => rfl) ?_
  refine zV_scr (j := i + 2) rfl (zN_a rfl rfl) (by omega) hn2 ?_
  refine zV_bool rfl rfl rfl rfl ?_
  refine zV_go 818 [some (.retAddr 0), some (.ref 0), some (.ref 75), some (.ref 85), some (.int (Int32.ofNat i)), none, none, none] [.int (Int32.ofNat i + (3 : Int32)), .retAddr 0, .int (zbi (!decide (sf (i + 2) = 0))), .int (sf (i + 1)), .ref 0] 4 (fun f => rfl) ?_
  refine zV_scr (j := i + 3) rfl (zN_a rfl rfl) (by omega) hn2 ?_
  refine zV_go 824 [some (.retAddr 0), some (.ref 0), some (.ref 75), some (.ref 85), some (.int (Int32.ofNat i)), none, none, none] [.int (Int32.ofNat i + (4 : Int32)), .retAddr 0, .int (sf (i + 3)), .int (zbi (!decide (sf (i + 2) = 0))), .int (sf (i + 1)), .ref 0] 4 (fun f => rfl) ?_
  refine zV_scr (j := i + 4) rfl (zN_a rfl rfl) (by omega) hn2 ?_
  refine zV_go 826 [some (.retAddr 0), some (.ref 0), some (.ref 75), some (.ref 85), some (.int (Int32.ofNat i)), none, none, none] [.ref 85, .int (sf (i + 4)), .int (sf (i + 3)), .int (zbi (!decide (sf (i + 2) = 0))), .int (sf (i + 1)), .ref 0] 1 (fun f => rfl) ?_
  refine zV_cw rfl rfl rfl rfl (w254 (S' := (zc_swap S (sf (i + 1)) (!decide (sf (i + 2) = 0)) (sf (i + 3)) (sf (i + 4))).2) (X' := X) (x := (zc_swap S (sf (i + 1)) (!decide (sf (i + 2) = 0)) (sf (i + 3)) (sf (i + 4))).1) (K_swap hw hC) (g_swap hw).2 (fun K1 hC1 => ?_))
  refine zV_go 837 [some (.retAddr 0), some (.ref 0), some (.ref 75), some (.ref 85), some (.int (Int32.ofNat i)), some (.int (zcd [0, 1, 2, 3] (zc_swap S (sf (i + 1)) (!decide (sf (i + 2) = 0)) (sf (i + 3)) (sf (i + 4))).1)), none, none] [.int (Int32.ofNat i + (1 : Int32)), .retAddr 0, .ref 75] 6 (fun f => rfl) ?_
  refine zV_scr (j := i + 1) rfl (zN_a rfl rfl) (by omega) hn2 ?_
  refine zV_go 843 [some (.retAddr 0), some (.ref 0), some (.ref 75), some (.ref 85), some (.int (Int32.ofNat i)), some (.int (zcd [0, 1, 2, 3] (zc_swap S (sf (i + 1)) (!decide (sf (i + 2) = 0)) (sf (i + 3)) (sf (i + 4))).1)), none, none] [.int (Int32.ofNat i + (2 : Int32)), .retAddr 0, .int (sf (i + 1)), .ref 75] 4 (fun f => rfl) ?_
  refine zV_scr (j := i + 2) rfl (zN_a rfl rfl) (by omega) hn2 ?_
  refine zV_bool rfl rfl rfl rfl ?_
  refine zV_go 857 [some (.retAddr 0), some (.ref 0), some (.ref 75), some (.ref 85), some (.int (Int32.ofNat i)), some (.int (zcd [0, 1, 2, 3] (zc_swap S (sf (i + 1)) (!decide (sf (i + 2) = 0)) (sf (i + 3)) (sf (i + 4))).1)), none, none] [.int (Int32.ofNat i + (3 : Int32)), .retAddr 0, .int (zbi (!decide (sf (i + 2) = 0))), .int (sf (i + 1)), .ref 75] 4 (fun f => rfl) ?_
  refine zV_scr (j := i + 3) rfl (zN_a rfl rfl) (by omega) hn2 ?_
  refine zV_go 863 [some (.retAddr 0), some (.ref 0), some (.ref 75), some (.ref 85), some (.int (Int32.ofNat i)), some (.int (zcd [0, 1, 2, 3] (zc_swap S (sf (i + 1)) (!decide (sf (i + 2) = 0)) (sf (i + 3)) (sf (i + 4))).1)), none, none] [.int (Int32.ofNat i + (4 : Int32)), .retAddr 0, .int (sf (i + 3)), .int (zbi (!decide (sf (i + 2) = 0))), .int (sf (i + 1)), .ref 75] 4 (fun f => rfl) ?_
  refine zV_scr (j := i + 4) rfl (zN_a rfl rfl) (by omega) hn2 ?_
  refine zV_cl rfl rfl rfl rfl (zT_mono (R_swap hw hR) (fun r h' q => ?_))
  obtain ⟨rfl, I1, A1, hR1, rfl⟩ := q
  refine ⟨_, rfl, ?_⟩
  have fin := H (zc_swap S (sf (i + 1)) (!decide (sf (i + 2) = 0)) (sf (i + 3)) (sf (i + 4))).2 X K1 I1 A1 (zow w (zc_swap S (sf (i + 1)) (!decide (sf (i + 2) = 0)) (sf (i + 3)) (sf (i + 4))).1) (zpx' p (zc_swap S (sf (i + 1)) (!decide (sf (i + 2) = 0)) (sf (i + 3)) (sf (i + 4))).1) _ (g_swap hw).1 hX hC1 hR1 (zpx_b p (zc_swap S (sf (i + 1)) (!decide (sf (i + 2) = 0)) (sf (i + 3)) (sf (i + 4))).1).1 (zpx_b p (zc_swap S (sf (i + 1)) (!decide (sf (i + 2) = 0)) (sf (i + 3)) (sf (i + 4))).1).2
  have hz := True.intro
  clear H
  generalize (zc_swap S (sf (i + 1)) (!decide (sf (i + 2) = 0)) (sf (i + 3)) (sf (i + 4))).1 = x at *
  refine zV_go 870 [some (.retAddr 0), some (.ref 0), some (.ref 75), some (.ref 85), some (.int (Int32.ofNat i)), some (.int (zcd [0, 1, 2, 3] x)), some (.int (zrv x)), none] [.ref 75] 2 (fun f => rfl) ?_
  refine zV_cl rfl rfl rfl rfl (zT_mono (R_thrown hR1) (fun r h' q => ?_))
  obtain ⟨rfl, rfl⟩ := q
  refine ⟨_, rfl, ?_⟩
  refine zV_br (zcmp .eq (zcd [0, 1, 2, 3] x) (zcd [0, 1, 2, 3] x)) 880 878 [some (.retAddr 0), some (.ref 0), some (.ref 75), some (.ref 85), some (.int (Int32.ofNat i)), some (.int (zcd [0, 1, 2, 3] x)), some (.int (zrv x)), none] [] 2 (fun f => rfl) (fun _ => ?_) (fun h => by rw [zcE] at h; cases h)
  have out : zV (some (n, sf)) zm_285 897 [some (.retAddr 0), some (.ref 0), some (.ref 75), some (.ref 85), some (.int (Int32.ofNat i)), some (.int (zcd [0, 1, 2, 3] x)), some (.int (zrv x)), none] [] (zpx' p x) (zh K1 I1 A1 (zow w x)) Q := zV_go 2674 [some (.retAddr 0), some (.ref 0), some (.ref 75), some (.ref 85), some (.int (Int32.ofNat i)), some (.int (zcd [0, 1, 2, 3] x)), some (.int (zrv x)), none] [] 1 (fun f => rfl) (zV_fg (zle_s _ (zle_s _ (zle_s _ (zle_s _ (zle_s _ (zle_n _ (zle_n _ (zle_n _ zle_nil)))))))) fin)
  cases x with
  | inr e =>
    exact zV_br (zcmp .ne (zcd [0, 1, 2, 3] (.inr e : Int32 ⊕ Nat)) 0) 897 885 [some (.retAddr 0), some (.ref 0), some (.ref 75), some (.ref 85), some (.int (Int32.ofNat i)), some (.int (zcd [0, 1, 2, 3] (.inr e : Int32 ⊕ Nat))), some (.int (zrv (.inr e))), none] [] 2 (fun f => rfl) (fun _ => out) (fun h => by rw [zcNe (zcd_n (by decide))] at h; cases h)
  | inl v =>
    refine zV_go 892 [some (.retAddr 0), some (.ref 0), some (.ref 75), some (.ref 85), some (.int (Int32.ofNat i)), some (.int (0 : Int32)), some (.int v), none] [.int (lg_cmp v.toInt64 v.toInt64)] 8 (fun f => rfl) ?_
    exact zV_br (zcmp .eq (lg_cmp v.toInt64 v.toInt64) 0) 897 895 [some (.retAddr 0), some (.ref 0), some (.ref 75), some (.ref 85), some (.int (Int32.ofNat i)), some (.int (0 : Int32)), some (.int v), none] [] 1 (fun f => rfl) (fun _ => out) (fun h => by rw [zcLE] at h; cases h)
theorem cs_add {n i : Nat} {sf : Nat → Int32} {S : zSs} {X : zXt} {c0 : Int32} {K : zKt} {I : zIt} {A : zAt} {w : Nat → Int64} {p : Nat × Nat} {Q : Option Value → Nat × Nat → zH → Prop} (hn : i + 7 ≤ n) (hn2 : n ≤ 3584) (hw : zSw S) (hX : zXw X) (hC : zCA S X K) (hR : zRA S X c0 I A) (H : ∀ S' X' K' I' A' w' p' c', zSw S' → zXw X' → zCA S' X' K' → zRA S' X' c' I' A' → p'.1 ≤ p.1 + 1 → p'.2 ≤ p.2 + 6 → zV (some (n, sf)) zm_285 2674 [some (.retAddr 0), some (.ref 0), some (.ref 75), some (.ref 85), some (.int (Int32.ofNat i)), none, none, none] [] p' (zh K' I' A' w') Q) : zV (some (n, sf)) zm_285 900 [some (.retAddr 0), some (.ref 0), some (.ref 75), some (.ref 85), some (.int (Int32.ofNat i)), none, none, none] [] p (zh K I A w) Q := by
  refine zV_go 906 [some (.retAddr 0), some (.ref 0), some (.ref 75), some (.ref 85), some (.int (Int32.ofNat i)), none, none, none] [.int (Int32.ofNat i + (1 : Int32)), .retAddr 0, .ref 0] 5 (fun f => rfl) ?_
  refine zV_scr (j := i + 1) rfl (zN_a rfl rfl) (by omega) hn2 ?_
  refine zV_go 912 [some (.retAddr 0), some (.ref 0), some (.ref 75), some (.ref 85), some (.int (Int32.ofNat i)), none, none, none] [.int (Int32.ofNat i + (2 : Int32)), .retAddr 0, .int (sf (i + 1)), .ref 0] 4 (fun f => rfl) ?_
  refine zV_scr (j := i + 2) rfl (zN_a rfl rfl) (by omega) hn2 ?_
  refine zV_bool rfl rfl rfl rfl ?_
  refine zV_go 926 [some (.retAddr 0), some (.ref 0), some (.ref 75), some (.ref 85), some (.int (Int32.ofNat i)), none, none, none] [.int (Int32.ofNat i + (3 : Int32)), .retAddr 0, .int (zbi (!decide (sf (i + 2) = 0))), .int (sf (i + 1)), .ref 0] 4 (fun f => rfl) ?_
  refine zV_scr (j := i + 3) rfl (zN_a rfl rfl) (by omega) hn2 ?_
  refine zV_go 932 [some (.retAddr 0), some (.ref 0), some (.ref 75), some (.ref 85), some (.int (Int32.ofNat i)), none, none, none] [.int (Int32.ofNat i + (4 : Int32)), .retAddr 0, .int (sf (i + 3)), .int (zbi (!decide (sf (i + 2) = 0))), .int (sf (i + 1)), .ref 0] 4 (fun f => rfl) ?_
  refine zV_scr (j := i + 4) rfl (zN_a rfl rfl) (by omega) hn2 ?_
  refine zV_go 938 [some (.retAddr 0), some (.ref 0), some (.ref 75), some (.ref 85), some (.int (Int32.ofNat i)), none, none, none] [.int (Int32.ofNat i + (5 : Int32)), .retAddr 0, .int (sf (i + 4)), .int (sf (i + 3)), .int (zbi (!decide (sf (i + 2) = 0))), .int (sf (i + 1)), .ref 0] 4 (fun f => rfl) ?_
  refine zV_scr (j := i + 5) rfl (zN_a rfl rfl) (by omega) hn2 ?_
  refine zV_go 945 [some (.retAddr 0), some (.ref 0), some (.ref 75), some (.ref 85), some (.int (Int32.ofNat i)), none, none, none] [.int (Int32.ofNat i + (6 : Int32)), .retAddr 0, .int (sf (i + 5)), .int (sf (i + 4)), .int (sf (i + 3)), .int (zbi (!decide (sf (i + 2) = 0))), .int (sf (i + 1)), .ref 0] 4 (fun f => rfl) ?_
  refine zV_scr (j := i + 6) rfl (zN_a rfl rfl) (by omega) hn2 ?_
  refine zV_go 947 [some (.retAddr 0), some (.ref 0), some (.ref 75), some (.ref 85), some (.int (Int32.ofNat i)), none, none, none] [.ref 85, .int (sf (i + 6)), .int (sf (i + 5)), .int (sf (i + 4)), .int (sf (i + 3)), .int (zbi (!decide (sf (i + 2) = 0))), .int (sf (i + 1)), .ref 0] 1 (fun f => rfl) ?_
  refine zV_cw rfl rfl rfl rfl (w255 (S' := (zc_add S (sf (i + 1)) (!decide (sf (i + 2) = 0)) (sf (i + 3)) (sf (i + 4)) (sf (i + 5)) (sf (i + 6))).2) (X' := X) (x := (zc_add S (sf (i + 1)) (!decide (sf (i + 2) = 0)) (sf (i + 3)) (sf (i + 4)) (sf (i + 5)) (sf (i + 6))).1) (K_add hw hC) (g_add hw).2 (fun K1 hC1 => ?_))
  refine zV_go 958 [some (.retAddr 0), some (.ref 0), some (.ref 75), some (.ref 85), some (.int (Int32.ofNat i)), some (.int (zcd [0, 1, 2, 3] (zc_add S (sf (i + 1)) (!decide (sf (i + 2) = 0)) (sf (i + 3)) (sf (i + 4)) (sf (i + 5)) (sf (i + 6))).1)), none, none] [.int (Int32.ofNat i + (1 : Int32)), .retAddr 0, .ref 75] 6 (fun f => rfl) ?_
  refine zV_scr (j := i + 1) rfl (zN_a rfl rfl) (by omega) hn2 ?_
  refine zV_go 964 [some (.retAddr 0), some (.ref 0), some (.ref 75), some (.ref 85), some (.int (Int32.ofNat i)), some (.int (zcd [0, 1, 2, 3] (zc_add S (sf (i + 1)) (!decide (sf (i + 2) = 0)) (sf (i + 3)) (sf (i + 4)) (sf (i + 5)) (sf (i + 6))).1)), none, none] [.int (Int32.ofNat i + (2 : Int32)), .retAddr 0, .int (sf (i + 1)), .ref 75] 4 (fun f => rfl) ?_
  refine zV_scr (j := i + 2) rfl (zN_a rfl rfl) (by omega) hn2 ?_
  refine zV_bool rfl rfl rfl rfl ?_
  refine zV_go 978 [some (.retAddr 0), some (.ref 0), some (.ref 75), some (.ref 85), some (.int (Int32.ofNat i)), some (.int (zcd [0, 1, 2, 3] (zc_add S (sf (i + 1)) (!decide (sf (i + 2) = 0)) (sf (i + 3)) (sf (i + 4)) (sf (i + 5)) (sf (i + 6))).1)), none, none] [.int (Int32.ofNat i + (3 : Int32)), .retAddr 0, .int (zbi (!decide (sf (i + 2) = 0))), .int (sf (i + 1)), .ref 75] 4 (fun f => rfl) ?_
  refine zV_scr (j := i + 3) rfl (zN_a rfl rfl) (by omega) hn2 ?_
  refine zV_go 984 [some (.retAddr 0), some (.ref 0), some (.ref 75), some (.ref 85), some (.int (Int32.ofNat i)), some (.int (zcd [0, 1, 2, 3] (zc_add S (sf (i + 1)) (!decide (sf (i + 2) = 0)) (sf (i + 3)) (sf (i + 4)) (sf (i + 5)) (sf (i + 6))).1)), none, none] [.int (Int32.ofNat i + (4 : Int32)), .retAddr 0, .int (sf (i + 3)), .int (zbi (!decide (sf (i + 2) = 0))), .int (sf (i + 1)), .ref 75] 4 (fun f => rfl) ?_
  refine zV_scr (j := i + 4) rfl (zN_a rfl rfl) (by omega) hn2 ?_
  refine zV_go 990 [some (.retAddr 0), some (.ref 0), some (.ref 75), some (.ref 85), some (.int (Int32.ofNat i)), some (.int (zcd [0, 1, 2, 3] (zc_add S (sf (i + 1)) (!decide (sf (i + 2) = 0)) (sf (i + 3)) (sf (i + 4)) (sf (i + 5)) (sf (i + 6))).1)), none, none] [.int (Int32.ofNat i + (5 : Int32)), .retAddr 0, .int (sf (i + 4)), .int (sf (i + 3)), .int (zbi (!decide (sf (i + 2) = 0))), .int (sf (i + 1)), .ref 75] 4 (fun f => rfl) ?_
  refine zV_scr (j := i + 5) rfl (zN_a rfl rfl) (by omega) hn2 ?_
  refine zV_go 997 [some (.retAddr 0), some (.ref 0), some (.ref 75), some (.ref 85), some (.int (Int32.ofNat i)), some (.int (zcd [0, 1, 2, 3] (zc_add S (sf (i + 1)) (!decide (sf (i + 2) = 0)) (sf (i + 3)) (sf (i + 4)) (sf (i + 5)) (sf (i + 6))).1)), none, none] [.int (Int32.ofNat i + (6 : Int32)), .retAddr 0, .int (sf (i + 5)), .int (sf (i + 4)), .int (sf (i + 3)), .int (zbi (!decide (sf (i + 2) = 0))), .int (sf (i + 1)), .ref 75] 4 (fun f => rfl) ?_
  refine zV_scr (j := i + 6) rfl (zN_a rfl rfl) (by omega) hn2 ?_
  refine zV_cl rfl rfl rfl rfl (zT_mono (R_add hw hR) (fun r h' q => ?_))
  obtain ⟨rfl, I1, A1, hR1, rfl⟩ := q
  refine ⟨_, rfl, ?_⟩
  have fin := H (zc_add S (sf (i + 1)) (!decide (sf (i + 2) = 0)) (sf (i + 3)) (sf (i + 4)) (sf (i + 5)) (sf (i + 6))).2 X K1 I1 A1 (zow w (zc_add S (sf (i + 1)) (!decide (sf (i + 2) = 0)) (sf (i + 3)) (sf (i + 4)) (sf (i + 5)) (sf (i + 6))).1) (zpx' p (zc_add S (sf (i + 1)) (!decide (sf (i + 2) = 0)) (sf (i + 3)) (sf (i + 4)) (sf (i + 5)) (sf (i + 6))).1) _ (g_add hw).1 hX hC1 hR1 (zpx_b p (zc_add S (sf (i + 1)) (!decide (sf (i + 2) = 0)) (sf (i + 3)) (sf (i + 4)) (sf (i + 5)) (sf (i + 6))).1).1 (zpx_b p (zc_add S (sf (i + 1)) (!decide (sf (i + 2) = 0)) (sf (i + 3)) (sf (i + 4)) (sf (i + 5)) (sf (i + 6))).1).2
  have hz := True.intro
  clear H
  generalize (zc_add S (sf (i + 1)) (!decide (sf (i + 2) = 0)) (sf (i + 3)) (sf (i + 4)) (sf (i + 5)) (sf (i + 6))).1 = x at *
  refine zV_go 1004 [some (.retAddr 0), some (.ref 0), some (.ref 75), some (.ref 85), some (.int (Int32.ofNat i)), some (.int (zcd [0, 1, 2, 3] x)), some (.int (zrv x)), none] [.ref 75] 2 (fun f => rfl) ?_
  refine zV_cl rfl rfl rfl rfl (zT_mono (R_thrown hR1) (fun r h' q => ?_))
  obtain ⟨rfl, rfl⟩ := q
  refine ⟨_, rfl, ?_⟩
  refine zV_br (zcmp .eq (zcd [0, 1, 2, 3] x) (zcd [0, 1, 2, 3] x)) 1014 1012 [some (.retAddr 0), some (.ref 0), some (.ref 75), some (.ref 85), some (.int (Int32.ofNat i)), some (.int (zcd [0, 1, 2, 3] x)), some (.int (zrv x)), none] [] 2 (fun f => rfl) (fun _ => ?_) (fun h => by rw [zcE] at h; cases h)
  have out : zV (some (n, sf)) zm_285 1031 [some (.retAddr 0), some (.ref 0), some (.ref 75), some (.ref 85), some (.int (Int32.ofNat i)), some (.int (zcd [0, 1, 2, 3] x)), some (.int (zrv x)), none] [] (zpx' p x) (zh K1 I1 A1 (zow w x)) Q := zV_go 2674 [some (.retAddr 0), some (.ref 0), some (.ref 75), some (.ref 85), some (.int (Int32.ofNat i)), some (.int (zcd [0, 1, 2, 3] x)), some (.int (zrv x)), none] [] 1 (fun f => rfl) (zV_fg (zle_s _ (zle_s _ (zle_s _ (zle_s _ (zle_s _ (zle_n _ (zle_n _ (zle_n _ zle_nil)))))))) fin)
  cases x with
  | inr e =>
    exact zV_br (zcmp .ne (zcd [0, 1, 2, 3] (.inr e : Int32 ⊕ Nat)) 0) 1031 1019 [some (.retAddr 0), some (.ref 0), some (.ref 75), some (.ref 85), some (.int (Int32.ofNat i)), some (.int (zcd [0, 1, 2, 3] (.inr e : Int32 ⊕ Nat))), some (.int (zrv (.inr e))), none] [] 2 (fun f => rfl) (fun _ => out) (fun h => by rw [zcNe (zcd_n (by decide))] at h; cases h)
  | inl v =>
    refine zV_go 1026 [some (.retAddr 0), some (.ref 0), some (.ref 75), some (.ref 85), some (.int (Int32.ofNat i)), some (.int (0 : Int32)), some (.int v), none] [.int (lg_cmp v.toInt64 v.toInt64)] 8 (fun f => rfl) ?_
    exact zV_br (zcmp .eq (lg_cmp v.toInt64 v.toInt64) 0) 1031 1029 [some (.retAddr 0), some (.ref 0), some (.ref 75), some (.ref 85), some (.int (Int32.ofNat i)), some (.int (0 : Int32)), some (.int v), none] [] 1 (fun f => rfl) (fun _ => out) (fun h => by rw [zcLE] at h; cases h)
theorem cs_scale {n i : Nat} {sf : Nat → Int32} {S : zSs} {X : zXt} {c0 : Int32} {K : zKt} {I : zIt} {A : zAt} {w : Nat → Int64} {p : Nat × Nat} {Q : Option Value → Nat × Nat → zH → Prop} (hn : i + 7 ≤ n) (hn2 : n ≤ 3584) (hw : zSw S) (hX : zXw X) (hC : zCA S X K) (hR : zRA S X c0 I A) (H : ∀ S' X' K' I' A' w' p' c', zSw S' → zXw X' → zCA S' X' K' → zRA S' X' c' I' A' → p'.1 ≤ p.1 + 1 → p'.2 ≤ p.2 + 6 → zV (some (n, sf)) zm_285 2674 [some (.retAddr 0), some (.ref 0), some (.ref 75), some (.ref 85), some (.int (Int32.ofNat i)), none, none, none] [] p' (zh K' I' A' w') Q) : zV (some (n, sf)) zm_285 1034 [some (.retAddr 0), some (.ref 0), some (.ref 75), some (.ref 85), some (.int (Int32.ofNat i)), none, none, none] [] p (zh K I A w) Q := by
  refine zV_go 1040 [some (.retAddr 0), some (.ref 0), some (.ref 75), some (.ref 85), some (.int (Int32.ofNat i)), none, none, none] [.int (Int32.ofNat i + (1 : Int32)), .retAddr 0, .ref 0] 5 (fun f => rfl) ?_
  refine zV_scr (j := i + 1) rfl (zN_a rfl rfl) (by omega) hn2 ?_
  refine zV_go 1046 [some (.retAddr 0), some (.ref 0), some (.ref 75), some (.ref 85), some (.int (Int32.ofNat i)), none, none, none] [.int (Int32.ofNat i + (2 : Int32)), .retAddr 0, .int (sf (i + 1)), .ref 0] 4 (fun f => rfl) ?_
  refine zV_scr (j := i + 2) rfl (zN_a rfl rfl) (by omega) hn2 ?_
  refine zV_bool rfl rfl rfl rfl ?_
  refine zV_go 1060 [some (.retAddr 0), some (.ref 0), some (.ref 75), some (.ref 85), some (.int (Int32.ofNat i)), none, none, none] [.int (Int32.ofNat i + (3 : Int32)), .retAddr 0, .int (zbi (!decide (sf (i + 2) = 0))), .int (sf (i + 1)), .ref 0] 4 (fun f => rfl) ?_
  refine zV_scr (j := i + 3) rfl (zN_a rfl rfl) (by omega) hn2 ?_
  refine zV_go 1066 [some (.retAddr 0), some (.ref 0), some (.ref 75), some (.ref 85), some (.int (Int32.ofNat i)), none, none, none] [.int (Int32.ofNat i + (4 : Int32)), .retAddr 0, .int (sf (i + 3)), .int (zbi (!decide (sf (i + 2) = 0))), .int (sf (i + 1)), .ref 0] 4 (fun f => rfl) ?_
  refine zV_scr (j := i + 4) rfl (zN_a rfl rfl) (by omega) hn2 ?_
  refine zV_go 1072 [some (.retAddr 0), some (.ref 0), some (.ref 75), some (.ref 85), some (.int (Int32.ofNat i)), none, none, none] [.int (Int32.ofNat i + (5 : Int32)), .retAddr 0, .int (sf (i + 4)), .int (sf (i + 3)), .int (zbi (!decide (sf (i + 2) = 0))), .int (sf (i + 1)), .ref 0] 4 (fun f => rfl) ?_
  refine zV_scr (j := i + 5) rfl (zN_a rfl rfl) (by omega) hn2 ?_
  refine zV_go 1074 [some (.retAddr 0), some (.ref 0), some (.ref 75), some (.ref 85), some (.int (Int32.ofNat i)), none, none, none] [.ref 85, .int (sf (i + 5)), .int (sf (i + 4)), .int (sf (i + 3)), .int (zbi (!decide (sf (i + 2) = 0))), .int (sf (i + 1)), .ref 0] 1 (fun f => rfl) ?_
  refine zV_cw rfl rfl rfl rfl (w256 (S' := (zc_scale S (sf (i + 1)) (!decide (sf (i + 2) = 0)) (sf (i + 3)) (sf (i + 4)) (sf (i + 5))).2) (X' := X) (x := (zc_scale S (sf (i + 1)) (!decide (sf (i + 2) = 0)) (sf (i + 3)) (sf (i + 4)) (sf (i + 5))).1) (K_scale hw hC) (g_scale hw).2 (fun K1 hC1 => ?_))
  refine zV_go 1085 [some (.retAddr 0), some (.ref 0), some (.ref 75), some (.ref 85), some (.int (Int32.ofNat i)), some (.int (zcd [0, 1, 2, 3] (zc_scale S (sf (i + 1)) (!decide (sf (i + 2) = 0)) (sf (i + 3)) (sf (i + 4)) (sf (i + 5))).1)), none, none] [.int (Int32.ofNat i + (1 : Int32)), .retAddr 0, .ref 75] 6 (fun f => rfl) ?_
  refine zV_scr (j := i + 1) rfl (zN_a rfl rfl) (by omega) hn2 ?_
  refine zV_go 1091 [some (.retAddr 0), some (.ref 0), some (.ref 75), some (.ref 85), some (.int (Int32.ofNat i)), some (.int (zcd [0, 1, 2, 3] (zc_scale S (sf (i + 1)) (!decide (sf (i + 2) = 0)) (sf (i + 3)) (sf (i + 4)) (sf (i + 5))).1)), none, none] [.int (Int32.ofNat i + (2 : Int32)), .retAddr 0, .int (sf (i + 1)), .ref 75] 4 (fun f => rfl) ?_
  refine zV_scr (j := i + 2) rfl (zN_a rfl rfl) (by omega) hn2 ?_
  refine zV_bool rfl rfl rfl rfl ?_
  refine zV_go 1105 [some (.retAddr 0), some (.ref 0), some (.ref 75), some (.ref 85), some (.int (Int32.ofNat i)), some (.int (zcd [0, 1, 2, 3] (zc_scale S (sf (i + 1)) (!decide (sf (i + 2) = 0)) (sf (i + 3)) (sf (i + 4)) (sf (i + 5))).1)), none, none] [.int (Int32.ofNat i + (3 : Int32)), .retAddr 0, .int (zbi (!decide (sf (i + 2) = 0))), .int (sf (i + 1)), .ref 75] 4 (fun f => rfl) ?_
  refine zV_scr (j := i + 3) rfl (zN_a rfl rfl) (by omega) hn2 ?_
  refine zV_go 1111 [some (.retAddr 0), some (.ref 0), some (.ref 75), some (.ref 85), some (.int (Int32.ofNat i)), some (.int (zcd [0, 1, 2, 3] (zc_scale S (sf (i + 1)) (!decide (sf (i + 2) = 0)) (sf (i + 3)) (sf (i + 4)) (sf (i + 5))).1)), none, none] [.int (Int32.ofNat i + (4 : Int32)), .retAddr 0, .int (sf (i + 3)), .int (zbi (!decide (sf (i + 2) = 0))), .int (sf (i + 1)), .ref 75] 4 (fun f => rfl) ?_
  refine zV_scr (j := i + 4) rfl (zN_a rfl rfl) (by omega) hn2 ?_
  refine zV_go 1117 [some (.retAddr 0), some (.ref 0), some (.ref 75), some (.ref 85), some (.int (Int32.ofNat i)), some (.int (zcd [0, 1, 2, 3] (zc_scale S (sf (i + 1)) (!decide (sf (i + 2) = 0)) (sf (i + 3)) (sf (i + 4)) (sf (i + 5))).1)), none, none] [.int (Int32.ofNat i + (5 : Int32)), .retAddr 0, .int (sf (i + 4)), .int (sf (i + 3)), .int (zbi (!decide (sf (i + 2) = 0))), .int (sf (i + 1)), .ref 75] 4 (fun f => rfl) ?_
  refine zV_scr (j := i + 5) rfl (zN_a rfl rfl) (by omega) hn2 ?_
  refine zV_cl rfl rfl rfl rfl (zT_mono (R_scale hw hR) (fun r h' q => ?_))
  obtain ⟨rfl, I1, A1, hR1, rfl⟩ := q
  refine ⟨_, rfl, ?_⟩
  have fin := H (zc_scale S (sf (i + 1)) (!decide (sf (i + 2) = 0)) (sf (i + 3)) (sf (i + 4)) (sf (i + 5))).2 X K1 I1 A1 (zow w (zc_scale S (sf (i + 1)) (!decide (sf (i + 2) = 0)) (sf (i + 3)) (sf (i + 4)) (sf (i + 5))).1) (zpx' p (zc_scale S (sf (i + 1)) (!decide (sf (i + 2) = 0)) (sf (i + 3)) (sf (i + 4)) (sf (i + 5))).1) _ (g_scale hw).1 hX hC1 hR1 (zpx_b p (zc_scale S (sf (i + 1)) (!decide (sf (i + 2) = 0)) (sf (i + 3)) (sf (i + 4)) (sf (i + 5))).1).1 (zpx_b p (zc_scale S (sf (i + 1)) (!decide (sf (i + 2) = 0)) (sf (i + 3)) (sf (i + 4)) (sf (i + 5))).1).2
  have hz := True.intro
  clear H
  generalize (zc_scale S (sf (i + 1)) (!decide (sf (i + 2) = 0)) (sf (i + 3)) (sf (i + 4)) (sf (i + 5))).1 = x at *
  refine zV_go 1124 [some (.retAddr 0), some (.ref 0), some (.ref 75), some (.ref 85), some (.int (Int32.ofNat i)), some (.int (zcd [0, 1, 2, 3] x)), some (.int (zrv x)), none] [.ref 75] 2 (fun f => rfl) ?_
  refine zV_cl rfl rfl rfl rfl (zT_mono (R_thrown hR1) (fun r h' q => ?_))
  obtain ⟨rfl, rfl⟩ := q
  refine ⟨_, rfl, ?_⟩
  refine zV_br (zcmp .eq (zcd [0, 1, 2, 3] x) (zcd [0, 1, 2, 3] x)) 1134 1132 [some (.retAddr 0), some (.ref 0), some (.ref 75), some (.ref 85), some (.int (Int32.ofNat i)), some (.int (zcd [0, 1, 2, 3] x)), some (.int (zrv x)), none] [] 2 (fun f => rfl) (fun _ => ?_) (fun h => by rw [zcE] at h; cases h)
  have out : zV (some (n, sf)) zm_285 1151 [some (.retAddr 0), some (.ref 0), some (.ref 75), some (.ref 85), some (.int (Int32.ofNat i)), some (.int (zcd [0, 1, 2, 3] x)), some (.int (zrv x)), none] [] (zpx' p x) (zh K1 I1 A1 (zow w x)) Q := zV_go 2674 [some (.retAddr 0), some (.ref 0), some (.ref 75), some (.ref 85), some (.int (Int32.ofNat i)), some (.int (zcd [0, 1, 2, 3] x)), some (.int (zrv x)), none] [] 1 (fun f => rfl) (zV_fg (zle_s _ (zle_s _ (zle_s _ (zle_s _ (zle_s _ (zle_n _ (zle_n _ (zle_n _ zle_nil)))))))) fin)
  cases x with
  | inr e =>
    exact zV_br (zcmp .ne (zcd [0, 1, 2, 3] (.inr e : Int32 ⊕ Nat)) 0) 1151 1139 [some (.retAddr 0), some (.ref 0), some (.ref 75), some (.ref 85), some (.int (Int32.ofNat i)), some (.int (zcd [0, 1, 2, 3] (.inr e : Int32 ⊕ Nat))), some (.int (zrv (.inr e))), none] [] 2 (fun f => rfl) (fun _ => out) (fun h => by rw [zcNe (zcd_n (by decide))] at h; cases h)
  | inl v =>
    refine zV_go 1146 [some (.retAddr 0), some (.ref 0), some (.ref 75), some (.ref 85), some (.int (Int32.ofNat i)), some (.int (0 : Int32)), some (.int v), none] [.int (lg_cmp v.toInt64 v.toInt64)] 8 (fun f => rfl) ?_
    exact zV_br (zcmp .eq (lg_cmp v.toInt64 v.toInt64) 0) 1151 1149 [some (.retAddr 0), some (.ref 0), some (.ref 75), some (.ref 85), some (.int (Int32.ofNat i)), some (.int (0 : Int32)), some (.int v), none] [] 1 (fun f => rfl) (fun _ => out) (fun h => by rw [zcLE] at h; cases h)
theorem cs_back {n i : Nat} {sf : Nat → Int32} {S : zSs} {X : zXt} {c0 : Int32} {K : zKt} {I : zIt} {A : zAt} {w : Nat → Int64} {p : Nat × Nat} {Q : Option Value → Nat × Nat → zH → Prop} (hn : i + 7 ≤ n) (hn2 : n ≤ 3584) (hw : zSw S) (hX : zXw X) (hC : zCA S X K) (hR : zRA S X c0 I A) (H : ∀ S' X' K' I' A' w' p' c', zSw S' → zXw X' → zCA S' X' K' → zRA S' X' c' I' A' → p'.1 ≤ p.1 + 1 → p'.2 ≤ p.2 + 6 → zV (some (n, sf)) zm_285 2674 [some (.retAddr 0), some (.ref 0), some (.ref 75), some (.ref 85), some (.int (Int32.ofNat i)), none, none, none] [] p' (zh K' I' A' w') Q) : zV (some (n, sf)) zm_285 1154 [some (.retAddr 0), some (.ref 0), some (.ref 75), some (.ref 85), some (.int (Int32.ofNat i)), none, none, none] [] p (zh K I A w) Q := by
  refine zV_go 1160 [some (.retAddr 0), some (.ref 0), some (.ref 75), some (.ref 85), some (.int (Int32.ofNat i)), none, none, none] [.int (Int32.ofNat i + (1 : Int32)), .retAddr 0, .ref 0] 5 (fun f => rfl) ?_
  refine zV_scr (j := i + 1) rfl (zN_a rfl rfl) (by omega) hn2 ?_
  refine zV_go 1162 [some (.retAddr 0), some (.ref 0), some (.ref 75), some (.ref 85), some (.int (Int32.ofNat i)), none, none, none] [.ref 85, .int (sf (i + 1)), .ref 0] 1 (fun f => rfl) ?_
  refine zV_cw rfl rfl rfl rfl (w257 (S' := (zc_back S (sf (i + 1))).2) (X' := X) (x := (zc_back S (sf (i + 1))).1) (K_back hw hC) (g_back hw).2 (fun K1 hC1 => ?_))
  refine zV_go 1173 [some (.retAddr 0), some (.ref 0), some (.ref 75), some (.ref 85), some (.int (Int32.ofNat i)), some (.int (zcd [0, 1] (zc_back S (sf (i + 1))).1)), none, none] [.int (Int32.ofNat i + (1 : Int32)), .retAddr 0, .ref 75] 6 (fun f => rfl) ?_
  refine zV_scr (j := i + 1) rfl (zN_a rfl rfl) (by omega) hn2 ?_
  refine zV_cl rfl rfl rfl rfl (zT_mono (R_back hw hR) (fun r h' q => ?_))
  obtain ⟨rfl, I1, A1, hR1, rfl⟩ := q
  refine ⟨_, rfl, ?_⟩
  have fin := H (zc_back S (sf (i + 1))).2 X K1 I1 A1 (zow w (zc_back S (sf (i + 1))).1) (zpx' p (zc_back S (sf (i + 1))).1) _ (g_back hw).1 hX hC1 hR1 (zpx_b p (zc_back S (sf (i + 1))).1).1 (zpx_b p (zc_back S (sf (i + 1))).1).2
  have hz := True.intro
  clear H
  generalize (zc_back S (sf (i + 1))).1 = x at *
  refine zV_go 1180 [some (.retAddr 0), some (.ref 0), some (.ref 75), some (.ref 85), some (.int (Int32.ofNat i)), some (.int (zcd [0, 1] x)), some (.int (zrv x)), none] [.ref 75] 2 (fun f => rfl) ?_
  refine zV_cl rfl rfl rfl rfl (zT_mono (R_thrown hR1) (fun r h' q => ?_))
  obtain ⟨rfl, rfl⟩ := q
  refine ⟨_, rfl, ?_⟩
  refine zV_br (zcmp .eq (zcd [0, 1] x) (zcd [0, 1] x)) 1190 1188 [some (.retAddr 0), some (.ref 0), some (.ref 75), some (.ref 85), some (.int (Int32.ofNat i)), some (.int (zcd [0, 1] x)), some (.int (zrv x)), none] [] 2 (fun f => rfl) (fun _ => ?_) (fun h => by rw [zcE] at h; cases h)
  have out : zV (some (n, sf)) zm_285 1207 [some (.retAddr 0), some (.ref 0), some (.ref 75), some (.ref 85), some (.int (Int32.ofNat i)), some (.int (zcd [0, 1] x)), some (.int (zrv x)), none] [] (zpx' p x) (zh K1 I1 A1 (zow w x)) Q := zV_go 2674 [some (.retAddr 0), some (.ref 0), some (.ref 75), some (.ref 85), some (.int (Int32.ofNat i)), some (.int (zcd [0, 1] x)), some (.int (zrv x)), none] [] 1 (fun f => rfl) (zV_fg (zle_s _ (zle_s _ (zle_s _ (zle_s _ (zle_s _ (zle_n _ (zle_n _ (zle_n _ zle_nil)))))))) fin)
  cases x with
  | inr e =>
    exact zV_br (zcmp .ne (zcd [0, 1] (.inr e : Int32 ⊕ Nat)) 0) 1207 1195 [some (.retAddr 0), some (.ref 0), some (.ref 75), some (.ref 85), some (.int (Int32.ofNat i)), some (.int (zcd [0, 1] (.inr e : Int32 ⊕ Nat))), some (.int (zrv (.inr e))), none] [] 2 (fun f => rfl) (fun _ => out) (fun h => by rw [zcNe (zcd_n (by decide))] at h; cases h)
  | inl v =>
    refine zV_go 1202 [some (.retAddr 0), some (.ref 0), some (.ref 75), some (.ref 85), some (.int (Int32.ofNat i)), some (.int (0 : Int32)), some (.int v), none] [.int (lg_cmp v.toInt64 v.toInt64)] 8 (fun f => rfl) ?_
    exact zV_br (zcmp .eq (lg_cmp v.toInt64 v.toInt64) 0) 1207 1205 [some (.retAddr 0), some (.ref 0), some (.ref 75), some (.ref 85), some (.int (Int32.ofNat i)), some (.int (0 : Int32)), some (.int v), none] [] 1 (fun f => rfl) (fun _ => out) (fun h => by rw [zcLE] at h; cases h)
theorem cs_trans {n i : Nat} {sf : Nat → Int32} {S : zSs} {X : zXt} {c0 : Int32} {K : zKt} {I : zIt} {A : zAt} {w : Nat → Int64} {p : Nat × Nat} {Q : Option Value → Nat × Nat → zH → Prop} (hn : i + 7 ≤ n) (hn2 : n ≤ 3584) (hw : zSw S) (hX : zXw X) (hC : zCA S X K) (hR : zRA S X c0 I A) (H : ∀ S' X' K' I' A' w' p' c', zSw S' → zXw X' → zCA S' X' K' → zRA S' X' c' I' A' → p'.1 ≤ p.1 + 1 → p'.2 ≤ p.2 + 6 → zV (some (n, sf)) zm_285 2674 [some (.retAddr 0), some (.ref 0), some (.ref 75), some (.ref 85), some (.int (Int32.ofNat i)), none, none, none] [] p' (zh K' I' A' w') Q) : zV (some (n, sf)) zm_285 1210 [some (.retAddr 0), some (.ref 0), some (.ref 75), some (.ref 85), some (.int (Int32.ofNat i)), none, none, none] [] p (zh K I A w) Q := by
  refine zV_go 1216 [some (.retAddr 0), some (.ref 0), some (.ref 75), some (.ref 85), some (.int (Int32.ofNat i)), none, none, none] [.int (Int32.ofNat i + (1 : Int32)), .retAddr 0, .ref 0] 5 (fun f => rfl) ?_
  refine zV_scr (j := i + 1) rfl (zN_a rfl rfl) (by omega) hn2 ?_
  refine zV_go 1222 [some (.retAddr 0), some (.ref 0), some (.ref 75), some (.ref 85), some (.int (Int32.ofNat i)), none, none, none] [.int (Int32.ofNat i + (2 : Int32)), .retAddr 0, .int (sf (i + 1)), .ref 0] 4 (fun f => rfl) ?_
  refine zV_scr (j := i + 2) rfl (zN_a rfl rfl) (by omega) hn2 ?_
  refine zV_go 1228 [some (.retAddr 0), some (.ref 0), some (.ref 75), some (.ref 85), some (.int (Int32.ofNat i)), none, none, none] [.int (Int32.ofNat i + (3 : Int32)), .retAddr 0, .int (sf (i + 2)), .int (sf (i + 1)), .ref 0] 4 (fun f => rfl) ?_
  refine zV_scr (j := i + 3) rfl (zN_a rfl rfl) (by omega) hn2 ?_
  refine zV_bool rfl rfl rfl rfl ?_
  refine zV_go 1238 [some (.retAddr 0), some (.ref 0), some (.ref 75), some (.ref 85), some (.int (Int32.ofNat i)), none, none, none] [.ref 85, .int (zbi (!decide (sf (i + 3) = 0))), .int (sf (i + 2)), .int (sf (i + 1)), .ref 0] 1 (fun f => rfl) ?_
  refine zV_cw rfl rfl rfl rfl (w258 (S' := (zc_trans S (sf (i + 1)) (sf (i + 2)) (!decide (sf (i + 3) = 0))).2) (X' := X) (x := (zc_trans S (sf (i + 1)) (sf (i + 2)) (!decide (sf (i + 3) = 0))).1) (K_trans hw hC) (g_trans hw).2 (fun K1 hC1 => ?_))
  refine zV_go 1249 [some (.retAddr 0), some (.ref 0), some (.ref 75), some (.ref 85), some (.int (Int32.ofNat i)), some (.int (zcd [0, 1, 3] (zc_trans S (sf (i + 1)) (sf (i + 2)) (!decide (sf (i + 3) = 0))).1)), none, none] [.int (Int32.ofNat i + (1 : Int32)), .retAddr 0, .ref 75] 6 (fun f => rfl) ?_
  refine zV_scr (j := i + 1) rfl (zN_a rfl rfl) (by omega) hn2 ?_
  refine zV_go 1255 [some (.retAddr 0), some (.ref 0), some (.ref 75), some (.ref 85), some (.int (Int32.ofNat i)), some (.int (zcd [0, 1, 3] (zc_trans S (sf (i + 1)) (sf (i + 2)) (!decide (sf (i + 3) = 0))).1)), none, none] [.int (Int32.ofNat i + (2 : Int32)), .retAddr 0, .int (sf (i + 1)), .ref 75] 4 (fun f => rfl) ?_
  refine zV_scr (j := i + 2) rfl (zN_a rfl rfl) (by omega) hn2 ?_
  refine zV_go 1261 [some (.retAddr 0), some (.ref 0), some (.ref 75), some (.ref 85), some (.int (Int32.ofNat i)), some (.int (zcd [0, 1, 3] (zc_trans S (sf (i + 1)) (sf (i + 2)) (!decide (sf (i + 3) = 0))).1)), none, none] [.int (Int32.ofNat i + (3 : Int32)), .retAddr 0, .int (sf (i + 2)), .int (sf (i + 1)), .ref 75] 4 (fun f => rfl) ?_
  refine zV_scr (j := i + 3) rfl (zN_a rfl rfl) (by omega) hn2 ?_
  refine zV_bool rfl rfl rfl rfl ?_
  refine zV_cl rfl rfl rfl rfl (zT_mono (R_trans hw hR) (fun r h' q => ?_))
  obtain ⟨rfl, I1, A1, hR1, rfl⟩ := q
  refine ⟨_, rfl, ?_⟩
  have fin := H (zc_trans S (sf (i + 1)) (sf (i + 2)) (!decide (sf (i + 3) = 0))).2 X K1 I1 A1 (zow w (zc_trans S (sf (i + 1)) (sf (i + 2)) (!decide (sf (i + 3) = 0))).1) (zpx' p (zc_trans S (sf (i + 1)) (sf (i + 2)) (!decide (sf (i + 3) = 0))).1) _ (g_trans hw).1 hX hC1 hR1 (zpx_b p (zc_trans S (sf (i + 1)) (sf (i + 2)) (!decide (sf (i + 3) = 0))).1).1 (zpx_b p (zc_trans S (sf (i + 1)) (sf (i + 2)) (!decide (sf (i + 3) = 0))).1).2
  have hz := True.intro
  clear H
  generalize (zc_trans S (sf (i + 1)) (sf (i + 2)) (!decide (sf (i + 3) = 0))).1 = x at *
  refine zV_go 1276 [some (.retAddr 0), some (.ref 0), some (.ref 75), some (.ref 85), some (.int (Int32.ofNat i)), some (.int (zcd [0, 1, 3] x)), some (.int (zrv x)), none] [.ref 75] 2 (fun f => rfl) ?_
  refine zV_cl rfl rfl rfl rfl (zT_mono (R_thrown hR1) (fun r h' q => ?_))
  obtain ⟨rfl, rfl⟩ := q
  refine ⟨_, rfl, ?_⟩
  refine zV_br (zcmp .eq (zcd [0, 1, 3] x) (zcd [0, 1, 3] x)) 1286 1284 [some (.retAddr 0), some (.ref 0), some (.ref 75), some (.ref 85), some (.int (Int32.ofNat i)), some (.int (zcd [0, 1, 3] x)), some (.int (zrv x)), none] [] 2 (fun f => rfl) (fun _ => ?_) (fun h => by rw [zcE] at h; cases h)
  have out : zV (some (n, sf)) zm_285 1303 [some (.retAddr 0), some (.ref 0), some (.ref 75), some (.ref 85), some (.int (Int32.ofNat i)), some (.int (zcd [0, 1, 3] x)), some (.int (zrv x)), none] [] (zpx' p x) (zh K1 I1 A1 (zow w x)) Q := zV_go 2674 [some (.retAddr 0), some (.ref 0), some (.ref 75), some (.ref 85), some (.int (Int32.ofNat i)), some (.int (zcd [0, 1, 3] x)), some (.int (zrv x)), none] [] 1 (fun f => rfl) (zV_fg (zle_s _ (zle_s _ (zle_s _ (zle_s _ (zle_s _ (zle_n _ (zle_n _ (zle_n _ zle_nil)))))))) fin)
  cases x with
  | inr e =>
    exact zV_br (zcmp .ne (zcd [0, 1, 3] (.inr e : Int32 ⊕ Nat)) 0) 1303 1291 [some (.retAddr 0), some (.ref 0), some (.ref 75), some (.ref 85), some (.int (Int32.ofNat i)), some (.int (zcd [0, 1, 3] (.inr e : Int32 ⊕ Nat))), some (.int (zrv (.inr e))), none] [] 2 (fun f => rfl) (fun _ => out) (fun h => by rw [zcNe (zcd_n (by decide))] at h; cases h)
  | inl v =>
    refine zV_go 1298 [some (.retAddr 0), some (.ref 0), some (.ref 75), some (.ref 85), some (.int (Int32.ofNat i)), some (.int (0 : Int32)), some (.int v), none] [.int (lg_cmp v.toInt64 v.toInt64)] 8 (fun f => rfl) ?_
    exact zV_br (zcmp .eq (lg_cmp v.toInt64 v.toInt64) 0) 1303 1301 [some (.retAddr 0), some (.ref 0), some (.ref 75), some (.ref 85), some (.int (Int32.ofNat i)), some (.int (0 : Int32)), some (.int v), none] [] 1 (fun f => rfl) (fun _ => out) (fun h => by rw [zcLE] at h; cases h)
theorem cs_hermite {n i : Nat} {sf : Nat → Int32} {S : zSs} {X : zXt} {c0 : Int32} {K : zKt} {I : zIt} {A : zAt} {w : Nat → Int64} {p : Nat × Nat} {Q : Option Value → Nat × Nat → zH → Prop} (hn : i + 7 ≤ n) (hn2 : n ≤ 3584) (hw : zSw S) (hX : zXw X) (hC : zCA S X K) (hR : zRA S X c0 I A) (H : ∀ S' X' K' I' A' w' p' c', zSw S' → zXw X' → zCA S' X' K' → zRA S' X' c' I' A' → p'.1 ≤ p.1 + 1 → p'.2 ≤ p.2 + 6 → zV (some (n, sf)) zm_285 2674 [some (.retAddr 0), some (.ref 0), some (.ref 75), some (.ref 85), some (.int (Int32.ofNat i)), none, none, none] [] p' (zh K' I' A' w') Q) : zV (some (n, sf)) zm_285 1306 [some (.retAddr 0), some (.ref 0), some (.ref 75), some (.ref 85), some (.int (Int32.ofNat i)), none, none, none] [] p (zh K I A w) Q := by
  refine zV_go 1312 [some (.retAddr 0), some (.ref 0), some (.ref 75), some (.ref 85), some (.int (Int32.ofNat i)), none, none, none] [.int (Int32.ofNat i + (1 : Int32)), .retAddr 0, .ref 0] 5 (fun f => rfl) ?_
  refine zV_scr (j := i + 1) rfl (zN_a rfl rfl) (by omega) hn2 ?_
  refine zV_go 1314 [some (.retAddr 0), some (.ref 0), some (.ref 75), some (.ref 85), some (.int (Int32.ofNat i)), none, none, none] [.ref 85, .int (sf (i + 1)), .ref 0] 1 (fun f => rfl) ?_
  refine zV_cw rfl rfl rfl rfl (w259 (S' := (zc_form S (sf (i + 1)) zfH).2) (X' := X) (x := (zc_form S (sf (i + 1)) zfH).1) (K_hermite hw hC) (g_herm hw).2 (fun K1 hC1 => ?_))
  refine zV_go 1325 [some (.retAddr 0), some (.ref 0), some (.ref 75), some (.ref 85), some (.int (Int32.ofNat i)), some (.int (zcd [0, 1, 3] (zc_form S (sf (i + 1)) zfH).1)), none, none] [.int (Int32.ofNat i + (1 : Int32)), .retAddr 0, .ref 75] 6 (fun f => rfl) ?_
  refine zV_scr (j := i + 1) rfl (zN_a rfl rfl) (by omega) hn2 ?_
  refine zV_cl rfl rfl rfl rfl (zT_mono (R_hermite hw hR) (fun r h' q => ?_))
  obtain ⟨rfl, I1, A1, hR1, rfl⟩ := q
  refine ⟨_, rfl, ?_⟩
  have fin := H (zc_form S (sf (i + 1)) zfH).2 X K1 I1 A1 (zow w (zc_form S (sf (i + 1)) zfH).1) (zpx' p (zc_form S (sf (i + 1)) zfH).1) _ (g_herm hw).1 hX hC1 hR1 (zpx_b p (zc_form S (sf (i + 1)) zfH).1).1 (zpx_b p (zc_form S (sf (i + 1)) zfH).1).2
  have hz := True.intro
  clear H
  generalize (zc_form S (sf (i + 1)) zfH).1 = x at *
  refine zV_go 1332 [some (.retAddr 0), some (.ref 0), some (.ref 75), some (.ref 85), some (.int (Int32.ofNat i)), some (.int (zcd [0, 1, 3] x)), some (.int (zrv x)), none] [.ref 75] 2 (fun f => rfl) ?_
  refine zV_cl rfl rfl rfl rfl (zT_mono (R_thrown hR1) (fun r h' q => ?_))
  obtain ⟨rfl, rfl⟩ := q
  refine ⟨_, rfl, ?_⟩
  refine zV_br (zcmp .eq (zcd [0, 1, 3] x) (zcd [0, 1, 3] x)) 1342 1340 [some (.retAddr 0), some (.ref 0), some (.ref 75), some (.ref 85), some (.int (Int32.ofNat i)), some (.int (zcd [0, 1, 3] x)), some (.int (zrv x)), none] [] 2 (fun f => rfl) (fun _ => ?_) (fun h => by rw [zcE] at h; cases h)
  have out : zV (some (n, sf)) zm_285 1359 [some (.retAddr 0), some (.ref 0), some (.ref 75), some (.ref 85), some (.int (Int32.ofNat i)), some (.int (zcd [0, 1, 3] x)), some (.int (zrv x)), none] [] (zpx' p x) (zh K1 I1 A1 (zow w x)) Q := zV_go 2674 [some (.retAddr 0), some (.ref 0), some (.ref 75), some (.ref 85), some (.int (Int32.ofNat i)), some (.int (zcd [0, 1, 3] x)), some (.int (zrv x)), none] [] 1 (fun f => rfl) (zV_fg (zle_s _ (zle_s _ (zle_s _ (zle_s _ (zle_s _ (zle_n _ (zle_n _ (zle_n _ zle_nil)))))))) fin)
  cases x with
  | inr e =>
    exact zV_br (zcmp .ne (zcd [0, 1, 3] (.inr e : Int32 ⊕ Nat)) 0) 1359 1347 [some (.retAddr 0), some (.ref 0), some (.ref 75), some (.ref 85), some (.int (Int32.ofNat i)), some (.int (zcd [0, 1, 3] (.inr e : Int32 ⊕ Nat))), some (.int (zrv (.inr e))), none] [] 2 (fun f => rfl) (fun _ => out) (fun h => by rw [zcNe (zcd_n (by decide))] at h; cases h)
  | inl v =>
    refine zV_go 1354 [some (.retAddr 0), some (.ref 0), some (.ref 75), some (.ref 85), some (.int (Int32.ofNat i)), some (.int (0 : Int32)), some (.int v), none] [.int (lg_cmp v.toInt64 v.toInt64)] 8 (fun f => rfl) ?_
    exact zV_br (zcmp .eq (lg_cmp v.toInt64 v.toInt64) 0) 1359 1357 [some (.retAddr 0), some (.ref 0), some (.ref 75), some (.ref 85), some (.int (Int32.ofNat i)), some (.int (0 : Int32)), some (.int v), none] [] 1 (fun f => rfl) (fun _ => out) (fun h => by rw [zcLE] at h; cases h)
theorem cs_smith {n i : Nat} {sf : Nat → Int32} {S : zSs} {X : zXt} {c0 : Int32} {K : zKt} {I : zIt} {A : zAt} {w : Nat → Int64} {p : Nat × Nat} {Q : Option Value → Nat × Nat → zH → Prop} (hn : i + 7 ≤ n) (hn2 : n ≤ 3584) (hw : zSw S) (hX : zXw X) (hC : zCA S X K) (hR : zRA S X c0 I A) (H : ∀ S' X' K' I' A' w' p' c', zSw S' → zXw X' → zCA S' X' K' → zRA S' X' c' I' A' → p'.1 ≤ p.1 + 1 → p'.2 ≤ p.2 + 6 → zV (some (n, sf)) zm_285 2674 [some (.retAddr 0), some (.ref 0), some (.ref 75), some (.ref 85), some (.int (Int32.ofNat i)), none, none, none] [] p' (zh K' I' A' w') Q) : zV (some (n, sf)) zm_285 1362 [some (.retAddr 0), some (.ref 0), some (.ref 75), some (.ref 85), some (.int (Int32.ofNat i)), none, none, none] [] p (zh K I A w) Q := by
  refine zV_go 1368 [some (.retAddr 0), some (.ref 0), some (.ref 75), some (.ref 85), some (.int (Int32.ofNat i)), none, none, none] [.int (Int32.ofNat i + (1 : Int32)), .retAddr 0, .ref 0] 5 (fun f => rfl) ?_
  refine zV_scr (j := i + 1) rfl (zN_a rfl rfl) (by omega) hn2 ?_
  refine zV_go 1370 [some (.retAddr 0), some (.ref 0), some (.ref 75), some (.ref 85), some (.int (Int32.ofNat i)), none, none, none] [.ref 85, .int (sf (i + 1)), .ref 0] 1 (fun f => rfl) ?_
  refine zV_cw rfl rfl rfl rfl (w260 (S' := (zc_form S (sf (i + 1)) zfS).2) (X' := X) (x := (zc_form S (sf (i + 1)) zfS).1) (K_smith hw hC) (g_smith hw).2 (fun K1 hC1 => ?_))
  refine zV_go 1381 [some (.retAddr 0), some (.ref 0), some (.ref 75), some (.ref 85), some (.int (Int32.ofNat i)), some (.int (zcd [0, 1, 3] (zc_form S (sf (i + 1)) zfS).1)), none, none] [.int (Int32.ofNat i + (1 : Int32)), .retAddr 0, .ref 75] 6 (fun f => rfl) ?_
  refine zV_scr (j := i + 1) rfl (zN_a rfl rfl) (by omega) hn2 ?_
  refine zV_cl rfl rfl rfl rfl (zT_mono (R_smith hw hR) (fun r h' q => ?_))
  obtain ⟨rfl, I1, A1, hR1, rfl⟩ := q
  refine ⟨_, rfl, ?_⟩
  have fin := H (zc_form S (sf (i + 1)) zfS).2 X K1 I1 A1 (zow w (zc_form S (sf (i + 1)) zfS).1) (zpx' p (zc_form S (sf (i + 1)) zfS).1) _ (g_smith hw).1 hX hC1 hR1 (zpx_b p (zc_form S (sf (i + 1)) zfS).1).1 (zpx_b p (zc_form S (sf (i + 1)) zfS).1).2
  have hz := True.intro
  clear H
  generalize (zc_form S (sf (i + 1)) zfS).1 = x at *
  refine zV_go 1388 [some (.retAddr 0), some (.ref 0), some (.ref 75), some (.ref 85), some (.int (Int32.ofNat i)), some (.int (zcd [0, 1, 3] x)), some (.int (zrv x)), none] [.ref 75] 2 (fun f => rfl) ?_
  refine zV_cl rfl rfl rfl rfl (zT_mono (R_thrown hR1) (fun r h' q => ?_))
  obtain ⟨rfl, rfl⟩ := q
  refine ⟨_, rfl, ?_⟩
  refine zV_br (zcmp .eq (zcd [0, 1, 3] x) (zcd [0, 1, 3] x)) 1398 1396 [some (.retAddr 0), some (.ref 0), some (.ref 75), some (.ref 85), some (.int (Int32.ofNat i)), some (.int (zcd [0, 1, 3] x)), some (.int (zrv x)), none] [] 2 (fun f => rfl) (fun _ => ?_) (fun h => by rw [zcE] at h; cases h)
  have out : zV (some (n, sf)) zm_285 1415 [some (.retAddr 0), some (.ref 0), some (.ref 75), some (.ref 85), some (.int (Int32.ofNat i)), some (.int (zcd [0, 1, 3] x)), some (.int (zrv x)), none] [] (zpx' p x) (zh K1 I1 A1 (zow w x)) Q := zV_go 2674 [some (.retAddr 0), some (.ref 0), some (.ref 75), some (.ref 85), some (.int (Int32.ofNat i)), some (.int (zcd [0, 1, 3] x)), some (.int (zrv x)), none] [] 1 (fun f => rfl) (zV_fg (zle_s _ (zle_s _ (zle_s _ (zle_s _ (zle_s _ (zle_n _ (zle_n _ (zle_n _ zle_nil)))))))) fin)
  cases x with
  | inr e =>
    exact zV_br (zcmp .ne (zcd [0, 1, 3] (.inr e : Int32 ⊕ Nat)) 0) 1415 1403 [some (.retAddr 0), some (.ref 0), some (.ref 75), some (.ref 85), some (.int (Int32.ofNat i)), some (.int (zcd [0, 1, 3] (.inr e : Int32 ⊕ Nat))), some (.int (zrv (.inr e))), none] [] 2 (fun f => rfl) (fun _ => out) (fun h => by rw [zcNe (zcd_n (by decide))] at h; cases h)
  | inl v =>
    refine zV_go 1410 [some (.retAddr 0), some (.ref 0), some (.ref 75), some (.ref 85), some (.int (Int32.ofNat i)), some (.int (0 : Int32)), some (.int v), none] [.int (lg_cmp v.toInt64 v.toInt64)] 8 (fun f => rfl) ?_
    exact zV_br (zcmp .eq (lg_cmp v.toInt64 v.toInt64) 0) 1415 1413 [some (.retAddr 0), some (.ref 0), some (.ref 75), some (.ref 85), some (.int (Int32.ofNat i)), some (.int (0 : Int32)), some (.int v), none] [] 1 (fun f => rfl) (fun _ => out) (fun h => by rw [zcLE] at h; cases h)
theorem cs_steps {n i : Nat} {sf : Nat → Int32} {S : zSs} {X : zXt} {c0 : Int32} {K : zKt} {I : zIt} {A : zAt} {w : Nat → Int64} {p : Nat × Nat} {Q : Option Value → Nat × Nat → zH → Prop} (hn : i + 7 ≤ n) (hn2 : n ≤ 3584) (hw : zSw S) (hX : zXw X) (hC : zCA S X K) (hR : zRA S X c0 I A) (H : ∀ S' X' K' I' A' w' p' c', zSw S' → zXw X' → zCA S' X' K' → zRA S' X' c' I' A' → p'.1 ≤ p.1 + 1 → p'.2 ≤ p.2 + 6 → zV (some (n, sf)) zm_285 2674 [some (.retAddr 0), some (.ref 0), some (.ref 75), some (.ref 85), some (.int (Int32.ofNat i)), none, none, none] [] p' (zh K' I' A' w') Q) : zV (some (n, sf)) zm_285 1418 [some (.retAddr 0), some (.ref 0), some (.ref 75), some (.ref 85), some (.int (Int32.ofNat i)), none, none, none] [] p (zh K I A w) Q := by
  refine zV_go 1424 [some (.retAddr 0), some (.ref 0), some (.ref 75), some (.ref 85), some (.int (Int32.ofNat i)), none, none, none] [.int (Int32.ofNat i + (1 : Int32)), .retAddr 0, .ref 0] 5 (fun f => rfl) ?_
  refine zV_scr (j := i + 1) rfl (zN_a rfl rfl) (by omega) hn2 ?_
  refine zV_go 1426 [some (.retAddr 0), some (.ref 0), some (.ref 75), some (.ref 85), some (.int (Int32.ofNat i)), none, none, none] [.ref 85, .int (sf (i + 1)), .ref 0] 1 (fun f => rfl) ?_
  refine zV_cw rfl rfl rfl rfl (w261 (S' := (zc_of S (sf (i + 1)) (fun X => X.2.2.2.2.1) 0).2) (X' := X) (x := (zc_of S (sf (i + 1)) (fun X => X.2.2.2.2.1) 0).1) (K_steps  hC) (g_of hw).2 (fun K1 hC1 => ?_))
  refine zV_go 1437 [some (.retAddr 0), some (.ref 0), some (.ref 75), some (.ref 85), some (.int (Int32.ofNat i)), some (.int (zcd [0] (zc_of S (sf (i + 1)) (fun X => X.2.2.2.2.1) 0).1)), none, none] [.int (Int32.ofNat i + (1 : Int32)), .retAddr 0, .ref 75] 6 (fun f => rfl) ?_
  refine zV_scr (j := i + 1) rfl (zN_a rfl rfl) (by omega) hn2 ?_
  refine zV_cl rfl rfl rfl rfl (zT_mono (R_steps hw hR) (fun r h' q => ?_))
  obtain ⟨rfl, I1, A1, hR1, rfl⟩ := q
  refine ⟨_, rfl, ?_⟩
  have fin := H (zc_of S (sf (i + 1)) (fun X => X.2.2.2.2.1) 0).2 X K1 I1 A1 (zow w (zc_of S (sf (i + 1)) (fun X => X.2.2.2.2.1) 0).1) (zpx' p (zc_of S (sf (i + 1)) (fun X => X.2.2.2.2.1) 0).1) _ (g_of hw).1 hX hC1 hR1 (zpx_b p (zc_of S (sf (i + 1)) (fun X => X.2.2.2.2.1) 0).1).1 (zpx_b p (zc_of S (sf (i + 1)) (fun X => X.2.2.2.2.1) 0).1).2
  have hz := True.intro
  clear H
  generalize (zc_of S (sf (i + 1)) (fun X => X.2.2.2.2.1) 0).1 = x at *
  refine zV_go 1444 [some (.retAddr 0), some (.ref 0), some (.ref 75), some (.ref 85), some (.int (Int32.ofNat i)), some (.int (zcd [0] x)), some (.int (zrv x)), none] [.ref 75] 2 (fun f => rfl) ?_
  refine zV_cl rfl rfl rfl rfl (zT_mono (R_thrown hR1) (fun r h' q => ?_))
  obtain ⟨rfl, rfl⟩ := q
  refine ⟨_, rfl, ?_⟩
  refine zV_br (zcmp .eq (zcd [0] x) (zcd [0] x)) 1454 1452 [some (.retAddr 0), some (.ref 0), some (.ref 75), some (.ref 85), some (.int (Int32.ofNat i)), some (.int (zcd [0] x)), some (.int (zrv x)), none] [] 2 (fun f => rfl) (fun _ => ?_) (fun h => by rw [zcE] at h; cases h)
  have out : zV (some (n, sf)) zm_285 1471 [some (.retAddr 0), some (.ref 0), some (.ref 75), some (.ref 85), some (.int (Int32.ofNat i)), some (.int (zcd [0] x)), some (.int (zrv x)), none] [] (zpx' p x) (zh K1 I1 A1 (zow w x)) Q := zV_go 2674 [some (.retAddr 0), some (.ref 0), some (.ref 75), some (.ref 85), some (.int (Int32.ofNat i)), some (.int (zcd [0] x)), some (.int (zrv x)), none] [] 1 (fun f => rfl) (zV_fg (zle_s _ (zle_s _ (zle_s _ (zle_s _ (zle_s _ (zle_n _ (zle_n _ (zle_n _ zle_nil)))))))) fin)
  cases x with
  | inr e =>
    exact zV_br (zcmp .ne (zcd [0] (.inr e : Int32 ⊕ Nat)) 0) 1471 1459 [some (.retAddr 0), some (.ref 0), some (.ref 75), some (.ref 85), some (.int (Int32.ofNat i)), some (.int (zcd [0] (.inr e : Int32 ⊕ Nat))), some (.int (zrv (.inr e))), none] [] 2 (fun f => rfl) (fun _ => out) (fun h => by rw [zcNe (zcd_n (by decide))] at h; cases h)
  | inl v =>
    refine zV_go 1466 [some (.retAddr 0), some (.ref 0), some (.ref 75), some (.ref 85), some (.int (Int32.ofNat i)), some (.int (0 : Int32)), some (.int v), none] [.int (lg_cmp v.toInt64 v.toInt64)] 8 (fun f => rfl) ?_
    exact zV_br (zcmp .eq (lg_cmp v.toInt64 v.toInt64) 0) 1471 1469 [some (.retAddr 0), some (.ref 0), some (.ref 75), some (.ref 85), some (.int (Int32.ofNat i)), some (.int (0 : Int32)), some (.int v), none] [] 1 (fun f => rfl) (fun _ => out) (fun h => by rw [zcLE] at h; cases h)
theorem cs_step {n i : Nat} {sf : Nat → Int32} {S : zSs} {X : zXt} {c0 : Int32} {K : zKt} {I : zIt} {A : zAt} {w : Nat → Int64} {p : Nat × Nat} {Q : Option Value → Nat × Nat → zH → Prop} (hn : i + 7 ≤ n) (hn2 : n ≤ 3584) (hw : zSw S) (hX : zXw X) (hC : zCA S X K) (hR : zRA S X c0 I A) (H : ∀ S' X' K' I' A' w' p' c', zSw S' → zXw X' → zCA S' X' K' → zRA S' X' c' I' A' → p'.1 ≤ p.1 + 1 → p'.2 ≤ p.2 + 6 → zV (some (n, sf)) zm_285 2674 [some (.retAddr 0), some (.ref 0), some (.ref 75), some (.ref 85), some (.int (Int32.ofNat i)), none, none, none] [] p' (zh K' I' A' w') Q) : zV (some (n, sf)) zm_285 1474 [some (.retAddr 0), some (.ref 0), some (.ref 75), some (.ref 85), some (.int (Int32.ofNat i)), none, none, none] [] p (zh K I A w) Q := by
  refine zV_go 1480 [some (.retAddr 0), some (.ref 0), some (.ref 75), some (.ref 85), some (.int (Int32.ofNat i)), none, none, none] [.int (Int32.ofNat i + (1 : Int32)), .retAddr 0, .ref 0] 5 (fun f => rfl) ?_
  refine zV_scr (j := i + 1) rfl (zN_a rfl rfl) (by omega) hn2 ?_
  refine zV_go 1486 [some (.retAddr 0), some (.ref 0), some (.ref 75), some (.ref 85), some (.int (Int32.ofNat i)), none, none, none] [.int (Int32.ofNat i + (2 : Int32)), .retAddr 0, .int (sf (i + 1)), .ref 0] 4 (fun f => rfl) ?_
  refine zV_scr (j := i + 2) rfl (zN_a rfl rfl) (by omega) hn2 ?_
  refine zV_go 1492 [some (.retAddr 0), some (.ref 0), some (.ref 75), some (.ref 85), some (.int (Int32.ofNat i)), none, none, none] [.int (Int32.ofNat i + (3 : Int32)), .retAddr 0, .int (sf (i + 2)), .int (sf (i + 1)), .ref 0] 4 (fun f => rfl) ?_
  refine zV_scr (j := i + 3) rfl (zN_a rfl rfl) (by omega) hn2 ?_
  refine zV_go 1494 [some (.retAddr 0), some (.ref 0), some (.ref 75), some (.ref 85), some (.int (Int32.ofNat i)), none, none, none] [.ref 85, .int (sf (i + 3)), .int (sf (i + 2)), .int (sf (i + 1)), .ref 0] 1 (fun f => rfl) ?_
  refine zV_cw rfl rfl rfl rfl (w262 (S' := (zc_step S (sf (i + 1)) (sf (i + 2)) (sf (i + 3))).2) (X' := X) (x := (zc_step S (sf (i + 1)) (sf (i + 2)) (sf (i + 3))).1) (K_step hw hC) (g_step hw).2 (fun K1 hC1 => ?_))
  refine zV_go 1505 [some (.retAddr 0), some (.ref 0), some (.ref 75), some (.ref 85), some (.int (Int32.ofNat i)), some (.int (zcd [0, 2] (zc_step S (sf (i + 1)) (sf (i + 2)) (sf (i + 3))).1)), none, none] [.int (Int32.ofNat i + (1 : Int32)), .retAddr 0, .ref 75] 6 (fun f => rfl) ?_
  refine zV_scr (j := i + 1) rfl (zN_a rfl rfl) (by omega) hn2 ?_
  refine zV_go 1511 [some (.retAddr 0), some (.ref 0), some (.ref 75), some (.ref 85), some (.int (Int32.ofNat i)), some (.int (zcd [0, 2] (zc_step S (sf (i + 1)) (sf (i + 2)) (sf (i + 3))).1)), none, none] [.int (Int32.ofNat i + (2 : Int32)), .retAddr 0, .int (sf (i + 1)), .ref 75] 4 (fun f => rfl) ?_
  refine zV_scr (j := i + 2) rfl (zN_a rfl rfl) (by omega) hn2 ?_
  refine zV_go 1517 [some (.retAddr 0), some (.ref 0), some (.ref 75), some (.ref 85), some (.int (Int32.ofNat i)), some (.int (zcd [0, 2] (zc_step S (sf (i + 1)) (sf (i + 2)) (sf (i + 3))).1)), none, none] [.int (Int32.ofNat i + (3 : Int32)), .retAddr 0, .int (sf (i + 2)), .int (sf (i + 1)), .ref 75] 4 (fun f => rfl) ?_
  refine zV_scr (j := i + 3) rfl (zN_a rfl rfl) (by omega) hn2 ?_
  refine zV_cl rfl rfl rfl rfl (zT_mono (R_step hw hR) (fun r h' q => ?_))
  obtain ⟨rfl, I1, A1, hR1, rfl⟩ := q
  refine ⟨_, rfl, ?_⟩
  have fin := H (zc_step S (sf (i + 1)) (sf (i + 2)) (sf (i + 3))).2 X K1 I1 A1 (zow w (zc_step S (sf (i + 1)) (sf (i + 2)) (sf (i + 3))).1) (zpx' p (zc_step S (sf (i + 1)) (sf (i + 2)) (sf (i + 3))).1) _ (g_step hw).1 hX hC1 hR1 (zpx_b p (zc_step S (sf (i + 1)) (sf (i + 2)) (sf (i + 3))).1).1 (zpx_b p (zc_step S (sf (i + 1)) (sf (i + 2)) (sf (i + 3))).1).2
  have hz := True.intro
  clear H
  generalize (zc_step S (sf (i + 1)) (sf (i + 2)) (sf (i + 3))).1 = x at *
  refine zV_go 1524 [some (.retAddr 0), some (.ref 0), some (.ref 75), some (.ref 85), some (.int (Int32.ofNat i)), some (.int (zcd [0, 2] x)), some (.int (zrv x)), none] [.ref 75] 2 (fun f => rfl) ?_
  refine zV_cl rfl rfl rfl rfl (zT_mono (R_thrown hR1) (fun r h' q => ?_))
  obtain ⟨rfl, rfl⟩ := q
  refine ⟨_, rfl, ?_⟩
  refine zV_br (zcmp .eq (zcd [0, 2] x) (zcd [0, 2] x)) 1534 1532 [some (.retAddr 0), some (.ref 0), some (.ref 75), some (.ref 85), some (.int (Int32.ofNat i)), some (.int (zcd [0, 2] x)), some (.int (zrv x)), none] [] 2 (fun f => rfl) (fun _ => ?_) (fun h => by rw [zcE] at h; cases h)
  have out : zV (some (n, sf)) zm_285 1551 [some (.retAddr 0), some (.ref 0), some (.ref 75), some (.ref 85), some (.int (Int32.ofNat i)), some (.int (zcd [0, 2] x)), some (.int (zrv x)), none] [] (zpx' p x) (zh K1 I1 A1 (zow w x)) Q := zV_go 2674 [some (.retAddr 0), some (.ref 0), some (.ref 75), some (.ref 85), some (.int (Int32.ofNat i)), some (.int (zcd [0, 2] x)), some (.int (zrv x)), none] [] 1 (fun f => rfl) (zV_fg (zle_s _ (zle_s _ (zle_s _ (zle_s _ (zle_s _ (zle_n _ (zle_n _ (zle_n _ zle_nil)))))))) fin)
  cases x with
  | inr e =>
    exact zV_br (zcmp .ne (zcd [0, 2] (.inr e : Int32 ⊕ Nat)) 0) 1551 1539 [some (.retAddr 0), some (.ref 0), some (.ref 75), some (.ref 85), some (.int (Int32.ofNat i)), some (.int (zcd [0, 2] (.inr e : Int32 ⊕ Nat))), some (.int (zrv (.inr e))), none] [] 2 (fun f => rfl) (fun _ => out) (fun h => by rw [zcNe (zcd_n (by decide))] at h; cases h)
  | inl v =>
    refine zV_go 1546 [some (.retAddr 0), some (.ref 0), some (.ref 75), some (.ref 85), some (.int (Int32.ofNat i)), some (.int (0 : Int32)), some (.int v), none] [.int (lg_cmp v.toInt64 v.toInt64)] 8 (fun f => rfl) ?_
    exact zV_br (zcmp .eq (lg_cmp v.toInt64 v.toInt64) 0) 1551 1549 [some (.retAddr 0), some (.ref 0), some (.ref 75), some (.ref 85), some (.int (Int32.ofNat i)), some (.int (0 : Int32)), some (.int v), none] [] 1 (fun f => rfl) (fun _ => out) (fun h => by rw [zcLE] at h; cases h)
theorem cs_after {n i : Nat} {sf : Nat → Int32} {S : zSs} {X : zXt} {c0 : Int32} {K : zKt} {I : zIt} {A : zAt} {w : Nat → Int64} {p : Nat × Nat} {Q : Option Value → Nat × Nat → zH → Prop} (hn : i + 7 ≤ n) (hn2 : n ≤ 3584) (hw : zSw S) (hX : zXw X) (hC : zCA S X K) (hR : zRA S X c0 I A) (H : ∀ S' X' K' I' A' w' p' c', zSw S' → zXw X' → zCA S' X' K' → zRA S' X' c' I' A' → p'.1 ≤ p.1 + 1 → p'.2 ≤ p.2 + 6 → zV (some (n, sf)) zm_285 2674 [some (.retAddr 0), some (.ref 0), some (.ref 75), some (.ref 85), some (.int (Int32.ofNat i)), none, none, none] [] p' (zh K' I' A' w') Q) : zV (some (n, sf)) zm_285 1554 [some (.retAddr 0), some (.ref 0), some (.ref 75), some (.ref 85), some (.int (Int32.ofNat i)), none, none, none] [] p (zh K I A w) Q := by
  refine zV_go 1560 [some (.retAddr 0), some (.ref 0), some (.ref 75), some (.ref 85), some (.int (Int32.ofNat i)), none, none, none] [.int (Int32.ofNat i + (1 : Int32)), .retAddr 0, .ref 0] 5 (fun f => rfl) ?_
  refine zV_scr (j := i + 1) rfl (zN_a rfl rfl) (by omega) hn2 ?_
  refine zV_go 1566 [some (.retAddr 0), some (.ref 0), some (.ref 75), some (.ref 85), some (.int (Int32.ofNat i)), none, none, none] [.int (Int32.ofNat i + (2 : Int32)), .retAddr 0, .int (sf (i + 1)), .ref 0] 4 (fun f => rfl) ?_
  refine zV_scr (j := i + 2) rfl (zN_a rfl rfl) (by omega) hn2 ?_
  refine zV_go 1572 [some (.retAddr 0), some (.ref 0), some (.ref 75), some (.ref 85), some (.int (Int32.ofNat i)), none, none, none] [.int (Int32.ofNat i + (3 : Int32)), .retAddr 0, .int (sf (i + 2)), .int (sf (i + 1)), .ref 0] 4 (fun f => rfl) ?_
  refine zV_scr (j := i + 3) rfl (zN_a rfl rfl) (by omega) hn2 ?_
  refine zV_go 1578 [some (.retAddr 0), some (.ref 0), some (.ref 75), some (.ref 85), some (.int (Int32.ofNat i)), none, none, none] [.int (Int32.ofNat i + (4 : Int32)), .retAddr 0, .int (sf (i + 3)), .int (sf (i + 2)), .int (sf (i + 1)), .ref 0] 4 (fun f => rfl) ?_
  refine zV_scr (j := i + 4) rfl (zN_a rfl rfl) (by omega) hn2 ?_
  refine zV_go 1584 [some (.retAddr 0), some (.ref 0), some (.ref 75), some (.ref 85), some (.int (Int32.ofNat i)), none, none, none] [.int (Int32.ofNat i + (5 : Int32)), .retAddr 0, .int (sf (i + 4)), .int (sf (i + 3)), .int (sf (i + 2)), .int (sf (i + 1)), .ref 0] 4 (fun f => rfl) ?_
  refine zV_scr (j := i + 5) rfl (zN_a rfl rfl) (by omega) hn2 ?_
  refine zV_go 1586 [some (.retAddr 0), some (.ref 0), some (.ref 75), some (.ref 85), some (.int (Int32.ofNat i)), none, none, none] [.ref 85, .int (sf (i + 5)), .int (sf (i + 4)), .int (sf (i + 3)), .int (sf (i + 2)), .int (sf (i + 1)), .ref 0] 1 (fun f => rfl) ?_
  refine zV_cw rfl rfl rfl rfl (w263 (S' := (zc_after S (sf (i + 1)) (sf (i + 2)) (sf (i + 3)) (sf (i + 4)) (sf (i + 5))).2) (X' := X) (x := (zc_after S (sf (i + 1)) (sf (i + 2)) (sf (i + 3)) (sf (i + 4)) (sf (i + 5))).1) (K_after hw hC) (g_after hw).2 (fun K1 hC1 => ?_))
  refine zV_go 1597 [some (.retAddr 0), some (.ref 0), some (.ref 75), some (.ref 85), some (.int (Int32.ofNat i)), some (.int (zcd [0, 1, 2] (zc_after S (sf (i + 1)) (sf (i + 2)) (sf (i + 3)) (sf (i + 4)) (sf (i + 5))).1)), none, none] [.int (Int32.ofNat i + (1 : Int32)), .retAddr 0, .ref 75] 6 (fun f => rfl) ?_
  refine zV_scr (j := i + 1) rfl (zN_a rfl rfl) (by omega) hn2 ?_
  refine zV_go 1603 [some (.retAddr 0), some (.ref 0), some (.ref 75), some (.ref 85), some (.int (Int32.ofNat i)), some (.int (zcd [0, 1, 2] (zc_after S (sf (i + 1)) (sf (i + 2)) (sf (i + 3)) (sf (i + 4)) (sf (i + 5))).1)), none, none] [.int (Int32.ofNat i + (2 : Int32)), .retAddr 0, .int (sf (i + 1)), .ref 75] 4 (fun f => rfl) ?_
  refine zV_scr (j := i + 2) rfl (zN_a rfl rfl) (by omega) hn2 ?_
  refine zV_go 1609 [some (.retAddr 0), some (.ref 0), some (.ref 75), some (.ref 85), some (.int (Int32.ofNat i)), some (.int (zcd [0, 1, 2] (zc_after S (sf (i + 1)) (sf (i + 2)) (sf (i + 3)) (sf (i + 4)) (sf (i + 5))).1)), none, none] [.int (Int32.ofNat i + (3 : Int32)), .retAddr 0, .int (sf (i + 2)), .int (sf (i + 1)), .ref 75] 4 (fun f => rfl) ?_
  refine zV_scr (j := i + 3) rfl (zN_a rfl rfl) (by omega) hn2 ?_
  refine zV_go 1615 [some (.retAddr 0), some (.ref 0), some (.ref 75), some (.ref 85), some (.int (Int32.ofNat i)), some (.int (zcd [0, 1, 2] (zc_after S (sf (i + 1)) (sf (i + 2)) (sf (i + 3)) (sf (i + 4)) (sf (i + 5))).1)), none, none] [.int (Int32.ofNat i + (4 : Int32)), .retAddr 0, .int (sf (i + 3)), .int (sf (i + 2)), .int (sf (i + 1)), .ref 75] 4 (fun f => rfl) ?_
  refine zV_scr (j := i + 4) rfl (zN_a rfl rfl) (by omega) hn2 ?_
  refine zV_go 1621 [some (.retAddr 0), some (.ref 0), some (.ref 75), some (.ref 85), some (.int (Int32.ofNat i)), some (.int (zcd [0, 1, 2] (zc_after S (sf (i + 1)) (sf (i + 2)) (sf (i + 3)) (sf (i + 4)) (sf (i + 5))).1)), none, none] [.int (Int32.ofNat i + (5 : Int32)), .retAddr 0, .int (sf (i + 4)), .int (sf (i + 3)), .int (sf (i + 2)), .int (sf (i + 1)), .ref 75] 4 (fun f => rfl) ?_
  refine zV_scr (j := i + 5) rfl (zN_a rfl rfl) (by omega) hn2 ?_
  refine zV_cl rfl rfl rfl rfl (zT_mono (R_after hw hR) (fun r h' q => ?_))
  obtain ⟨rfl, I1, A1, hR1, rfl⟩ := q
  refine ⟨_, rfl, ?_⟩
  have fin := H (zc_after S (sf (i + 1)) (sf (i + 2)) (sf (i + 3)) (sf (i + 4)) (sf (i + 5))).2 X K1 I1 A1 (zow w (zc_after S (sf (i + 1)) (sf (i + 2)) (sf (i + 3)) (sf (i + 4)) (sf (i + 5))).1) (zpx' p (zc_after S (sf (i + 1)) (sf (i + 2)) (sf (i + 3)) (sf (i + 4)) (sf (i + 5))).1) _ (g_after hw).1 hX hC1 hR1 (zpx_b p (zc_after S (sf (i + 1)) (sf (i + 2)) (sf (i + 3)) (sf (i + 4)) (sf (i + 5))).1).1 (zpx_b p (zc_after S (sf (i + 1)) (sf (i + 2)) (sf (i + 3)) (sf (i + 4)) (sf (i + 5))).1).2
  have hz := True.intro
  clear H
  generalize (zc_after S (sf (i + 1)) (sf (i + 2)) (sf (i + 3)) (sf (i + 4)) (sf (i + 5))).1 = x at *
  refine zV_go 1628 [some (.retAddr 0), some (.ref 0), some (.ref 75), some (.ref 85), some (.int (Int32.ofNat i)), some (.int (zcd [0, 1, 2] x)), some (.int (zrv x)), none] [.ref 75] 2 (fun f => rfl) ?_
  refine zV_cl rfl rfl rfl rfl (zT_mono (R_thrown hR1) (fun r h' q => ?_))
  obtain ⟨rfl, rfl⟩ := q
  refine ⟨_, rfl, ?_⟩
  refine zV_br (zcmp .eq (zcd [0, 1, 2] x) (zcd [0, 1, 2] x)) 1638 1636 [some (.retAddr 0), some (.ref 0), some (.ref 75), some (.ref 85), some (.int (Int32.ofNat i)), some (.int (zcd [0, 1, 2] x)), some (.int (zrv x)), none] [] 2 (fun f => rfl) (fun _ => ?_) (fun h => by rw [zcE] at h; cases h)
  have out : zV (some (n, sf)) zm_285 1655 [some (.retAddr 0), some (.ref 0), some (.ref 75), some (.ref 85), some (.int (Int32.ofNat i)), some (.int (zcd [0, 1, 2] x)), some (.int (zrv x)), none] [] (zpx' p x) (zh K1 I1 A1 (zow w x)) Q := zV_go 2674 [some (.retAddr 0), some (.ref 0), some (.ref 75), some (.ref 85), some (.int (Int32.ofNat i)), some (.int (zcd [0, 1, 2] x)), some (.int (zrv x)), none] [] 1 (fun f => rfl) (zV_fg (zle_s _ (zle_s _ (zle_s _ (zle_s _ (zle_s _ (zle_n _ (zle_n _ (zle_n _ zle_nil)))))))) fin)
  cases x with
  | inr e =>
    exact zV_br (zcmp .ne (zcd [0, 1, 2] (.inr e : Int32 ⊕ Nat)) 0) 1655 1643 [some (.retAddr 0), some (.ref 0), some (.ref 75), some (.ref 85), some (.int (Int32.ofNat i)), some (.int (zcd [0, 1, 2] (.inr e : Int32 ⊕ Nat))), some (.int (zrv (.inr e))), none] [] 2 (fun f => rfl) (fun _ => out) (fun h => by rw [zcNe (zcd_n (by decide))] at h; cases h)
  | inl v =>
    refine zV_go 1650 [some (.retAddr 0), some (.ref 0), some (.ref 75), some (.ref 85), some (.int (Int32.ofNat i)), some (.int (0 : Int32)), some (.int v), none] [.int (lg_cmp v.toInt64 v.toInt64)] 8 (fun f => rfl) ?_
    exact zV_br (zcmp .eq (lg_cmp v.toInt64 v.toInt64) 0) 1655 1653 [some (.retAddr 0), some (.ref 0), some (.ref 75), some (.ref 85), some (.int (Int32.ofNat i)), some (.int (0 : Int32)), some (.int v), none] [] 1 (fun f => rfl) (fun _ => out) (fun h => by rw [zcLE] at h; cases h)
theorem cs_solve {n i : Nat} {sf : Nat → Int32} {S : zSs} {X : zXt} {c0 : Int32} {K : zKt} {I : zIt} {A : zAt} {w : Nat → Int64} {p : Nat × Nat} {Q : Option Value → Nat × Nat → zH → Prop} (hn : i + 7 ≤ n) (hn2 : n ≤ 3584) (hw : zSw S) (hX : zXw X) (hC : zCA S X K) (hR : zRA S X c0 I A) (H : ∀ S' X' K' I' A' w' p' c', zSw S' → zXw X' → zCA S' X' K' → zRA S' X' c' I' A' → p'.1 ≤ p.1 + 1 → p'.2 ≤ p.2 + 6 → zV (some (n, sf)) zm_285 2674 [some (.retAddr 0), some (.ref 0), some (.ref 75), some (.ref 85), some (.int (Int32.ofNat i)), none, none, none] [] p' (zh K' I' A' w') Q) : zV (some (n, sf)) zm_285 1658 [some (.retAddr 0), some (.ref 0), some (.ref 75), some (.ref 85), some (.int (Int32.ofNat i)), none, none, none] [] p (zh K I A w) Q := by
  refine zV_go 1664 [some (.retAddr 0), some (.ref 0), some (.ref 75), some (.ref 85), some (.int (Int32.ofNat i)), none, none, none] [.int (Int32.ofNat i + (1 : Int32)), .retAddr 0, .ref 0] 5 (fun f => rfl) ?_
  refine zV_scr (j := i + 1) rfl (zN_a rfl rfl) (by omega) hn2 ?_
  refine zV_go 1670 [some (.retAddr 0), some (.ref 0), some (.ref 75), some (.ref 85), some (.int (Int32.ofNat i)), none, none, none] [.int (Int32.ofNat i + (2 : Int32)), .retAddr 0, .int (sf (i + 1)), .ref 0] 4 (fun f => rfl) ?_
  refine zV_scr (j := i + 2) rfl (zN_a rfl rfl) (by omega) hn2 ?_
  refine zV_go 1676 [some (.retAddr 0), some (.ref 0), some (.ref 75), some (.ref 85), some (.int (Int32.ofNat i)), none, none, none] [.int (Int32.ofNat i + (3 : Int32)), .retAddr 0, .int (sf (i + 2)), .int (sf (i + 1)), .ref 0] 4 (fun f => rfl) ?_
  refine zV_scr (j := i + 3) rfl (zN_a rfl rfl) (by omega) hn2 ?_
  refine zV_go 1678 [some (.retAddr 0), some (.ref 0), some (.ref 75), some (.ref 85), some (.int (Int32.ofNat i)), none, none, none] [.ref 85, .int (sf (i + 3)), .int (sf (i + 2)), .int (sf (i + 1)), .ref 0] 1 (fun f => rfl) ?_
  refine zV_cw rfl rfl rfl rfl (w264 (S' := (zc_solve S (sf (i + 1)) (sf (i + 2)) (sf (i + 3))).2) (X' := X) (x := (zc_solve S (sf (i + 1)) (sf (i + 2)) (sf (i + 3))).1) (K_solve hw hC) (g_solve hw).2 (fun K1 hC1 => ?_))
  refine zV_go 1689 [some (.retAddr 0), some (.ref 0), some (.ref 75), some (.ref 85), some (.int (Int32.ofNat i)), some (.int (zcd [0, 1, 3] (zc_solve S (sf (i + 1)) (sf (i + 2)) (sf (i + 3))).1)), none, none] [.int (Int32.ofNat i + (1 : Int32)), .retAddr 0, .ref 75] 6 (fun f => rfl) ?_
  refine zV_scr (j := i + 1) rfl (zN_a rfl rfl) (by omega) hn2 ?_
  refine zV_go 1695 [some (.retAddr 0), some (.ref 0), some (.ref 75), some (.ref 85), some (.int (Int32.ofNat i)), some (.int (zcd [0, 1, 3] (zc_solve S (sf (i + 1)) (sf (i + 2)) (sf (i + 3))).1)), none, none] [.int (Int32.ofNat i + (2 : Int32)), .retAddr 0, .int (sf (i + 1)), .ref 75] 4 (fun f => rfl) ?_
  refine zV_scr (j := i + 2) rfl (zN_a rfl rfl) (by omega) hn2 ?_
  refine zV_go 1701 [some (.retAddr 0), some (.ref 0), some (.ref 75), some (.ref 85), some (.int (Int32.ofNat i)), some (.int (zcd [0, 1, 3] (zc_solve S (sf (i + 1)) (sf (i + 2)) (sf (i + 3))).1)), none, none] [.int (Int32.ofNat i + (3 : Int32)), .retAddr 0, .int (sf (i + 2)), .int (sf (i + 1)), .ref 75] 4 (fun f => rfl) ?_
  refine zV_scr (j := i + 3) rfl (zN_a rfl rfl) (by omega) hn2 ?_
  refine zV_cl rfl rfl rfl rfl (zT_mono (R_solve hw hR) (fun r h' q => ?_))
  obtain ⟨rfl, I1, A1, hR1, rfl⟩ := q
  refine ⟨_, rfl, ?_⟩
  have fin := H (zc_solve S (sf (i + 1)) (sf (i + 2)) (sf (i + 3))).2 X K1 I1 A1 (zow w (zc_solve S (sf (i + 1)) (sf (i + 2)) (sf (i + 3))).1) (zpx' p (zc_solve S (sf (i + 1)) (sf (i + 2)) (sf (i + 3))).1) _ (g_solve hw).1 hX hC1 hR1 (zpx_b p (zc_solve S (sf (i + 1)) (sf (i + 2)) (sf (i + 3))).1).1 (zpx_b p (zc_solve S (sf (i + 1)) (sf (i + 2)) (sf (i + 3))).1).2
  have hz := True.intro
  clear H
  generalize (zc_solve S (sf (i + 1)) (sf (i + 2)) (sf (i + 3))).1 = x at *
  refine zV_go 1708 [some (.retAddr 0), some (.ref 0), some (.ref 75), some (.ref 85), some (.int (Int32.ofNat i)), some (.int (zcd [0, 1, 3] x)), some (.int (zrv x)), none] [.ref 75] 2 (fun f => rfl) ?_
  refine zV_cl rfl rfl rfl rfl (zT_mono (R_thrown hR1) (fun r h' q => ?_))
  obtain ⟨rfl, rfl⟩ := q
  refine ⟨_, rfl, ?_⟩
  refine zV_br (zcmp .eq (zcd [0, 1, 3] x) (zcd [0, 1, 3] x)) 1718 1716 [some (.retAddr 0), some (.ref 0), some (.ref 75), some (.ref 85), some (.int (Int32.ofNat i)), some (.int (zcd [0, 1, 3] x)), some (.int (zrv x)), none] [] 2 (fun f => rfl) (fun _ => ?_) (fun h => by rw [zcE] at h; cases h)
  have out : zV (some (n, sf)) zm_285 1735 [some (.retAddr 0), some (.ref 0), some (.ref 75), some (.ref 85), some (.int (Int32.ofNat i)), some (.int (zcd [0, 1, 3] x)), some (.int (zrv x)), none] [] (zpx' p x) (zh K1 I1 A1 (zow w x)) Q := zV_go 2674 [some (.retAddr 0), some (.ref 0), some (.ref 75), some (.ref 85), some (.int (Int32.ofNat i)), some (.int (zcd [0, 1, 3] x)), some (.int (zrv x)), none] [] 1 (fun f => rfl) (zV_fg (zle_s _ (zle_s _ (zle_s _ (zle_s _ (zle_s _ (zle_n _ (zle_n _ (zle_n _ zle_nil)))))))) fin)
  cases x with
  | inr e =>
    exact zV_br (zcmp .ne (zcd [0, 1, 3] (.inr e : Int32 ⊕ Nat)) 0) 1735 1723 [some (.retAddr 0), some (.ref 0), some (.ref 75), some (.ref 85), some (.int (Int32.ofNat i)), some (.int (zcd [0, 1, 3] (.inr e : Int32 ⊕ Nat))), some (.int (zrv (.inr e))), none] [] 2 (fun f => rfl) (fun _ => out) (fun h => by rw [zcNe (zcd_n (by decide))] at h; cases h)
  | inl v =>
    refine zV_go 1730 [some (.retAddr 0), some (.ref 0), some (.ref 75), some (.ref 85), some (.int (Int32.ofNat i)), some (.int (0 : Int32)), some (.int v), none] [.int (lg_cmp v.toInt64 v.toInt64)] 8 (fun f => rfl) ?_
    exact zV_br (zcmp .eq (lg_cmp v.toInt64 v.toInt64) 0) 1735 1733 [some (.retAddr 0), some (.ref 0), some (.ref 75), some (.ref 85), some (.int (Int32.ofNat i)), some (.int (0 : Int32)), some (.int v), none] [] 1 (fun f => rfl) (fun _ => out) (fun h => by rw [zcLE] at h; cases h)
theorem cs_kern {n i : Nat} {sf : Nat → Int32} {S : zSs} {X : zXt} {c0 : Int32} {K : zKt} {I : zIt} {A : zAt} {w : Nat → Int64} {p : Nat × Nat} {Q : Option Value → Nat × Nat → zH → Prop} (hn : i + 7 ≤ n) (hn2 : n ≤ 3584) (hw : zSw S) (hX : zXw X) (hC : zCA S X K) (hR : zRA S X c0 I A) (H : ∀ S' X' K' I' A' w' p' c', zSw S' → zXw X' → zCA S' X' K' → zRA S' X' c' I' A' → p'.1 ≤ p.1 + 1 → p'.2 ≤ p.2 + 6 → zV (some (n, sf)) zm_285 2674 [some (.retAddr 0), some (.ref 0), some (.ref 75), some (.ref 85), some (.int (Int32.ofNat i)), none, none, none] [] p' (zh K' I' A' w') Q) : zV (some (n, sf)) zm_285 1738 [some (.retAddr 0), some (.ref 0), some (.ref 75), some (.ref 85), some (.int (Int32.ofNat i)), none, none, none] [] p (zh K I A w) Q := by
  refine zV_go 1744 [some (.retAddr 0), some (.ref 0), some (.ref 75), some (.ref 85), some (.int (Int32.ofNat i)), none, none, none] [.int (Int32.ofNat i + (1 : Int32)), .retAddr 0, .ref 0] 5 (fun f => rfl) ?_
  refine zV_scr (j := i + 1) rfl (zN_a rfl rfl) (by omega) hn2 ?_
  refine zV_go 1750 [some (.retAddr 0), some (.ref 0), some (.ref 75), some (.ref 85), some (.int (Int32.ofNat i)), none, none, none] [.int (Int32.ofNat i + (2 : Int32)), .retAddr 0, .int (sf (i + 1)), .ref 0] 4 (fun f => rfl) ?_
  refine zV_scr (j := i + 2) rfl (zN_a rfl rfl) (by omega) hn2 ?_
  refine zV_go 1752 [some (.retAddr 0), some (.ref 0), some (.ref 75), some (.ref 85), some (.int (Int32.ofNat i)), none, none, none] [.ref 85, .int (sf (i + 2)), .int (sf (i + 1)), .ref 0] 1 (fun f => rfl) ?_
  refine zV_cw rfl rfl rfl rfl (w265 (S' := (zc_kern S (sf (i + 1)) (sf (i + 2))).2) (X' := X) (x := (zc_kern S (sf (i + 1)) (sf (i + 2))).1) (K_kern hw hC) (g_kern hw).2 (fun K1 hC1 => ?_))
  refine zV_go 1763 [some (.retAddr 0), some (.ref 0), some (.ref 75), some (.ref 85), some (.int (Int32.ofNat i)), some (.int (zcd [0, 1, 3] (zc_kern S (sf (i + 1)) (sf (i + 2))).1)), none, none] [.int (Int32.ofNat i + (1 : Int32)), .retAddr 0, .ref 75] 6 (fun f => rfl) ?_
  refine zV_scr (j := i + 1) rfl (zN_a rfl rfl) (by omega) hn2 ?_
  refine zV_go 1769 [some (.retAddr 0), some (.ref 0), some (.ref 75), some (.ref 85), some (.int (Int32.ofNat i)), some (.int (zcd [0, 1, 3] (zc_kern S (sf (i + 1)) (sf (i + 2))).1)), none, none] [.int (Int32.ofNat i + (2 : Int32)), .retAddr 0, .int (sf (i + 1)), .ref 75] 4 (fun f => rfl) ?_
  refine zV_scr (j := i + 2) rfl (zN_a rfl rfl) (by omega) hn2 ?_
  refine zV_cl rfl rfl rfl rfl (zT_mono (R_kern hw hR) (fun r h' q => ?_))
  obtain ⟨rfl, I1, A1, hR1, rfl⟩ := q
  refine ⟨_, rfl, ?_⟩
  have fin := H (zc_kern S (sf (i + 1)) (sf (i + 2))).2 X K1 I1 A1 (zow w (zc_kern S (sf (i + 1)) (sf (i + 2))).1) (zpx' p (zc_kern S (sf (i + 1)) (sf (i + 2))).1) _ (g_kern hw).1 hX hC1 hR1 (zpx_b p (zc_kern S (sf (i + 1)) (sf (i + 2))).1).1 (zpx_b p (zc_kern S (sf (i + 1)) (sf (i + 2))).1).2
  have hz := True.intro
  clear H
  generalize (zc_kern S (sf (i + 1)) (sf (i + 2))).1 = x at *
  refine zV_go 1776 [some (.retAddr 0), some (.ref 0), some (.ref 75), some (.ref 85), some (.int (Int32.ofNat i)), some (.int (zcd [0, 1, 3] x)), some (.int (zrv x)), none] [.ref 75] 2 (fun f => rfl) ?_
  refine zV_cl rfl rfl rfl rfl (zT_mono (R_thrown hR1) (fun r h' q => ?_))
  obtain ⟨rfl, rfl⟩ := q
  refine ⟨_, rfl, ?_⟩
  refine zV_br (zcmp .eq (zcd [0, 1, 3] x) (zcd [0, 1, 3] x)) 1786 1784 [some (.retAddr 0), some (.ref 0), some (.ref 75), some (.ref 85), some (.int (Int32.ofNat i)), some (.int (zcd [0, 1, 3] x)), some (.int (zrv x)), none] [] 2 (fun f => rfl) (fun _ => ?_) (fun h => by rw [zcE] at h; cases h)
  have out : zV (some (n, sf)) zm_285 1803 [some (.retAddr 0), some (.ref 0), some (.ref 75), some (.ref 85), some (.int (Int32.ofNat i)), some (.int (zcd [0, 1, 3] x)), some (.int (zrv x)), none] [] (zpx' p x) (zh K1 I1 A1 (zow w x)) Q := zV_go 2674 [some (.retAddr 0), some (.ref 0), some (.ref 75), some (.ref 85), some (.int (Int32.ofNat i)), some (.int (zcd [0, 1, 3] x)), some (.int (zrv x)), none] [] 1 (fun f => rfl) (zV_fg (zle_s _ (zle_s _ (zle_s _ (zle_s _ (zle_s _ (zle_n _ (zle_n _ (zle_n _ zle_nil)))))))) fin)
  cases x with
  | inr e =>
    exact zV_br (zcmp .ne (zcd [0, 1, 3] (.inr e : Int32 ⊕ Nat)) 0) 1803 1791 [some (.retAddr 0), some (.ref 0), some (.ref 75), some (.ref 85), some (.int (Int32.ofNat i)), some (.int (zcd [0, 1, 3] (.inr e : Int32 ⊕ Nat))), some (.int (zrv (.inr e))), none] [] 2 (fun f => rfl) (fun _ => out) (fun h => by rw [zcNe (zcd_n (by decide))] at h; cases h)
  | inl v =>
    refine zV_go 1798 [some (.retAddr 0), some (.ref 0), some (.ref 75), some (.ref 85), some (.int (Int32.ofNat i)), some (.int (0 : Int32)), some (.int v), none] [.int (lg_cmp v.toInt64 v.toInt64)] 8 (fun f => rfl) ?_
    exact zV_br (zcmp .eq (lg_cmp v.toInt64 v.toInt64) 0) 1803 1801 [some (.retAddr 0), some (.ref 0), some (.ref 75), some (.ref 85), some (.int (Int32.ofNat i)), some (.int (0 : Int32)), some (.int v), none] [] 1 (fun f => rfl) (fun _ => out) (fun h => by rw [zcLE] at h; cases h)
theorem cs_inva {n i : Nat} {sf : Nat → Int32} {S : zSs} {X : zXt} {c0 : Int32} {K : zKt} {I : zIt} {A : zAt} {w : Nat → Int64} {p : Nat × Nat} {Q : Option Value → Nat × Nat → zH → Prop} (hn : i + 7 ≤ n) (hn2 : n ≤ 3584) (hw : zSw S) (hX : zXw X) (hC : zCA S X K) (hR : zRA S X c0 I A) (H : ∀ S' X' K' I' A' w' p' c', zSw S' → zXw X' → zCA S' X' K' → zRA S' X' c' I' A' → p'.1 ≤ p.1 + 1 → p'.2 ≤ p.2 + 6 → zV (some (n, sf)) zm_285 2674 [some (.retAddr 0), some (.ref 0), some (.ref 75), some (.ref 85), some (.int (Int32.ofNat i)), none, none, none] [] p' (zh K' I' A' w') Q) : zV (some (n, sf)) zm_285 1806 [some (.retAddr 0), some (.ref 0), some (.ref 75), some (.ref 85), some (.int (Int32.ofNat i)), none, none, none] [] p (zh K I A w) Q := by
  refine zV_go 1812 [some (.retAddr 0), some (.ref 0), some (.ref 75), some (.ref 85), some (.int (Int32.ofNat i)), none, none, none] [.int (Int32.ofNat i + (1 : Int32)), .retAddr 0, .ref 0] 5 (fun f => rfl) ?_
  refine zV_scr (j := i + 1) rfl (zN_a rfl rfl) (by omega) hn2 ?_
  refine zV_go 1818 [some (.retAddr 0), some (.ref 0), some (.ref 75), some (.ref 85), some (.int (Int32.ofNat i)), none, none, none] [.int (Int32.ofNat i + (2 : Int32)), .retAddr 0, .int (sf (i + 1)), .ref 0] 4 (fun f => rfl) ?_
  refine zV_scr (j := i + 2) rfl (zN_a rfl rfl) (by omega) hn2 ?_
  refine zV_go 1824 [some (.retAddr 0), some (.ref 0), some (.ref 75), some (.ref 85), some (.int (Int32.ofNat i)), none, none, none] [.int (Int32.ofNat i + (3 : Int32)), .retAddr 0, .int (sf (i + 2)), .int (sf (i + 1)), .ref 0] 4 (fun f => rfl) ?_
  refine zV_scr (j := i + 3) rfl (zN_a rfl rfl) (by omega) hn2 ?_
  refine zV_go 1826 [some (.retAddr 0), some (.ref 0), some (.ref 75), some (.ref 85), some (.int (Int32.ofNat i)), none, none, none] [.ref 85, .int (sf (i + 3)), .int (sf (i + 2)), .int (sf (i + 1)), .ref 0] 1 (fun f => rfl) ?_
  refine zV_cw rfl rfl rfl rfl (w266 (S' := (zc_inva S (sf (i + 1)) (sf (i + 2)) (sf (i + 3))).2) (X' := X) (x := (zc_inva S (sf (i + 1)) (sf (i + 2)) (sf (i + 3))).1) (K_inva hw hC) (g_inva hw).2 (fun K1 hC1 => ?_))
  refine zV_go 1837 [some (.retAddr 0), some (.ref 0), some (.ref 75), some (.ref 85), some (.int (Int32.ofNat i)), some (.int (zcd [0, 1, 2, 3] (zc_inva S (sf (i + 1)) (sf (i + 2)) (sf (i + 3))).1)), none, none] [.int (Int32.ofNat i + (1 : Int32)), .retAddr 0, .ref 75] 6 (fun f => rfl) ?_
  refine zV_scr (j := i + 1) rfl (zN_a rfl rfl) (by omega) hn2 ?_
  refine zV_go 1843 [some (.retAddr 0), some (.ref 0), some (.ref 75), some (.ref 85), some (.int (Int32.ofNat i)), some (.int (zcd [0, 1, 2, 3] (zc_inva S (sf (i + 1)) (sf (i + 2)) (sf (i + 3))).1)), none, none] [.int (Int32.ofNat i + (2 : Int32)), .retAddr 0, .int (sf (i + 1)), .ref 75] 4 (fun f => rfl) ?_
  refine zV_scr (j := i + 2) rfl (zN_a rfl rfl) (by omega) hn2 ?_
  refine zV_go 1849 [some (.retAddr 0), some (.ref 0), some (.ref 75), some (.ref 85), some (.int (Int32.ofNat i)), some (.int (zcd [0, 1, 2, 3] (zc_inva S (sf (i + 1)) (sf (i + 2)) (sf (i + 3))).1)), none, none] [.int (Int32.ofNat i + (3 : Int32)), .retAddr 0, .int (sf (i + 2)), .int (sf (i + 1)), .ref 75] 4 (fun f => rfl) ?_
  refine zV_scr (j := i + 3) rfl (zN_a rfl rfl) (by omega) hn2 ?_
  refine zV_cl rfl rfl rfl rfl (zT_mono (R_inva hw hR) (fun r h' q => ?_))
  obtain ⟨rfl, I1, A1, hR1, rfl⟩ := q
  refine ⟨_, rfl, ?_⟩
  have fin := H (zc_inva S (sf (i + 1)) (sf (i + 2)) (sf (i + 3))).2 X K1 I1 A1 (zow w (zc_inva S (sf (i + 1)) (sf (i + 2)) (sf (i + 3))).1) (zpx' p (zc_inva S (sf (i + 1)) (sf (i + 2)) (sf (i + 3))).1) _ (g_inva hw).1 hX hC1 hR1 (zpx_b p (zc_inva S (sf (i + 1)) (sf (i + 2)) (sf (i + 3))).1).1 (zpx_b p (zc_inva S (sf (i + 1)) (sf (i + 2)) (sf (i + 3))).1).2
  have hz := True.intro
  clear H
  generalize (zc_inva S (sf (i + 1)) (sf (i + 2)) (sf (i + 3))).1 = x at *
  refine zV_go 1856 [some (.retAddr 0), some (.ref 0), some (.ref 75), some (.ref 85), some (.int (Int32.ofNat i)), some (.int (zcd [0, 1, 2, 3] x)), some (.int (zrv x)), none] [.ref 75] 2 (fun f => rfl) ?_
  refine zV_cl rfl rfl rfl rfl (zT_mono (R_thrown hR1) (fun r h' q => ?_))
  obtain ⟨rfl, rfl⟩ := q
  refine ⟨_, rfl, ?_⟩
  refine zV_br (zcmp .eq (zcd [0, 1, 2, 3] x) (zcd [0, 1, 2, 3] x)) 1866 1864 [some (.retAddr 0), some (.ref 0), some (.ref 75), some (.ref 85), some (.int (Int32.ofNat i)), some (.int (zcd [0, 1, 2, 3] x)), some (.int (zrv x)), none] [] 2 (fun f => rfl) (fun _ => ?_) (fun h => by rw [zcE] at h; cases h)
  have out : zV (some (n, sf)) zm_285 1883 [some (.retAddr 0), some (.ref 0), some (.ref 75), some (.ref 85), some (.int (Int32.ofNat i)), some (.int (zcd [0, 1, 2, 3] x)), some (.int (zrv x)), none] [] (zpx' p x) (zh K1 I1 A1 (zow w x)) Q := zV_go 2674 [some (.retAddr 0), some (.ref 0), some (.ref 75), some (.ref 85), some (.int (Int32.ofNat i)), some (.int (zcd [0, 1, 2, 3] x)), some (.int (zrv x)), none] [] 1 (fun f => rfl) (zV_fg (zle_s _ (zle_s _ (zle_s _ (zle_s _ (zle_s _ (zle_n _ (zle_n _ (zle_n _ zle_nil)))))))) fin)
  cases x with
  | inr e =>
    exact zV_br (zcmp .ne (zcd [0, 1, 2, 3] (.inr e : Int32 ⊕ Nat)) 0) 1883 1871 [some (.retAddr 0), some (.ref 0), some (.ref 75), some (.ref 85), some (.int (Int32.ofNat i)), some (.int (zcd [0, 1, 2, 3] (.inr e : Int32 ⊕ Nat))), some (.int (zrv (.inr e))), none] [] 2 (fun f => rfl) (fun _ => out) (fun h => by rw [zcNe (zcd_n (by decide))] at h; cases h)
  | inl v =>
    refine zV_go 1878 [some (.retAddr 0), some (.ref 0), some (.ref 75), some (.ref 85), some (.int (Int32.ofNat i)), some (.int (0 : Int32)), some (.int v), none] [.int (lg_cmp v.toInt64 v.toInt64)] 8 (fun f => rfl) ?_
    exact zV_br (zcmp .eq (lg_cmp v.toInt64 v.toInt64) 0) 1883 1881 [some (.retAddr 0), some (.ref 0), some (.ref 75), some (.ref 85), some (.int (Int32.ofNat i)), some (.int (0 : Int32)), some (.int v), none] [] 1 (fun f => rfl) (fun _ => out) (fun h => by rw [zcLE] at h; cases h)
theorem cs_order {n i : Nat} {sf : Nat → Int32} {S : zSs} {X : zXt} {c0 : Int32} {K : zKt} {I : zIt} {A : zAt} {w : Nat → Int64} {p : Nat × Nat} {Q : Option Value → Nat × Nat → zH → Prop} (hn : i + 7 ≤ n) (hn2 : n ≤ 3584) (hw : zSw S) (hX : zXw X) (hC : zCA S X K) (hR : zRA S X c0 I A) (H : ∀ S' X' K' I' A' w' p' c', zSw S' → zXw X' → zCA S' X' K' → zRA S' X' c' I' A' → p'.1 ≤ p.1 + 1 → p'.2 ≤ p.2 + 6 → zV (some (n, sf)) zm_285 2674 [some (.retAddr 0), some (.ref 0), some (.ref 75), some (.ref 85), some (.int (Int32.ofNat i)), none, none, none] [] p' (zh K' I' A' w') Q) : zV (some (n, sf)) zm_285 1886 [some (.retAddr 0), some (.ref 0), some (.ref 75), some (.ref 85), some (.int (Int32.ofNat i)), none, none, none] [] p (zh K I A w) Q := by
  refine zV_go 1892 [some (.retAddr 0), some (.ref 0), some (.ref 75), some (.ref 85), some (.int (Int32.ofNat i)), none, none, none] [.int (Int32.ofNat i + (1 : Int32)), .retAddr 0, .ref 0] 5 (fun f => rfl) ?_
  refine zV_scr (j := i + 1) rfl (zN_a rfl rfl) (by omega) hn2 ?_
  refine zV_go 1894 [some (.retAddr 0), some (.ref 0), some (.ref 75), some (.ref 85), some (.int (Int32.ofNat i)), none, none, none] [.ref 85, .int (sf (i + 1)), .ref 0] 1 (fun f => rfl) ?_
  refine zV_cw rfl rfl rfl rfl (w267 (S' := (zc_order S (sf (i + 1))).2) (X' := X) (x := (zc_order S (sf (i + 1))).1) (K_order hw hC) (g_order hw).2 (fun K1 hC1 => ?_))
  refine zV_go 1905 [some (.retAddr 0), some (.ref 0), some (.ref 75), some (.ref 85), some (.int (Int32.ofNat i)), some (.int (zcd [0, 1, 3] (zc_order S (sf (i + 1))).1)), none, none] [.int (Int32.ofNat i + (1 : Int32)), .retAddr 0, .ref 75] 6 (fun f => rfl) ?_
  refine zV_scr (j := i + 1) rfl (zN_a rfl rfl) (by omega) hn2 ?_
  refine zV_cl rfl rfl rfl rfl (zT_mono (R_order hw hR) (fun r h' q => ?_))
  obtain ⟨rfl, I1, A1, hR1, rfl⟩ := q
  refine ⟨_, rfl, ?_⟩
  have fin := H (zc_order S (sf (i + 1))).2 X K1 I1 A1 (zowL w (zc_order S (sf (i + 1))).1) (zpx' p (zc_order S (sf (i + 1))).1) _ (g_order hw).1 hX hC1 hR1 (zpx_b p (zc_order S (sf (i + 1))).1).1 (zpx_b p (zc_order S (sf (i + 1))).1).2
  have hz := True.intro
  clear H
  generalize (zc_order S (sf (i + 1))).1 = x at *
  refine zV_go 1912 [some (.retAddr 0), some (.ref 0), some (.ref 75), some (.ref 85), some (.int (Int32.ofNat i)), some (.int (zcd [0, 1, 3] x)), some (.long (zrvL x)), none] [.ref 75] 2 (fun f => rfl) ?_
  refine zV_cl rfl rfl rfl rfl (zT_mono (R_thrown hR1) (fun r h' q => ?_))
  obtain ⟨rfl, rfl⟩ := q
  refine ⟨_, rfl, ?_⟩
  refine zV_br (zcmp .eq (zcd [0, 1, 3] x) (zcd [0, 1, 3] x)) 1922 1920 [some (.retAddr 0), some (.ref 0), some (.ref 75), some (.ref 85), some (.int (Int32.ofNat i)), some (.int (zcd [0, 1, 3] x)), some (.long (zrvL x)), none] [] 2 (fun f => rfl) (fun _ => ?_) (fun h => by rw [zcE] at h; cases h)
  have out : zV (some (n, sf)) zm_285 1938 [some (.retAddr 0), some (.ref 0), some (.ref 75), some (.ref 85), some (.int (Int32.ofNat i)), some (.int (zcd [0, 1, 3] x)), some (.long (zrvL x)), none] [] (zpx' p x) (zh K1 I1 A1 (zowL w x)) Q := zV_go 2674 [some (.retAddr 0), some (.ref 0), some (.ref 75), some (.ref 85), some (.int (Int32.ofNat i)), some (.int (zcd [0, 1, 3] x)), some (.long (zrvL x)), none] [] 1 (fun f => rfl) (zV_fg (zle_s _ (zle_s _ (zle_s _ (zle_s _ (zle_s _ (zle_n _ (zle_n _ (zle_n _ zle_nil)))))))) fin)
  cases x with
  | inr e =>
    exact zV_br (zcmp .ne (zcd [0, 1, 3] (.inr e : Int64 ⊕ Nat)) 0) 1938 1927 [some (.retAddr 0), some (.ref 0), some (.ref 75), some (.ref 85), some (.int (Int32.ofNat i)), some (.int (zcd [0, 1, 3] (.inr e : Int64 ⊕ Nat))), some (.long (zrvL (.inr e))), none] [] 2 (fun f => rfl) (fun _ => out) (fun h => by rw [zcNe (zcd_n (by decide))] at h; cases h)
  | inl v =>
    refine zV_go 1933 [some (.retAddr 0), some (.ref 0), some (.ref 75), some (.ref 85), some (.int (Int32.ofNat i)), some (.int (0 : Int32)), some (.long v), none] [.int (lg_cmp v v)] 7 (fun f => rfl) ?_
    exact zV_br (zcmp .eq (lg_cmp v v) 0) 1938 1936 [some (.retAddr 0), some (.ref 0), some (.ref 75), some (.ref 85), some (.int (Int32.ofNat i)), some (.int (0 : Int32)), some (.long v), none] [] 1 (fun f => rfl) (fun _ => out) (fun h => by rw [zcLE] at h; cases h)
theorem cs_det {n i : Nat} {sf : Nat → Int32} {S : zSs} {X : zXt} {c0 : Int32} {K : zKt} {I : zIt} {A : zAt} {w : Nat → Int64} {p : Nat × Nat} {Q : Option Value → Nat × Nat → zH → Prop} (hn : i + 7 ≤ n) (hn2 : n ≤ 3584) (hw : zSw S) (hX : zXw X) (hC : zCA S X K) (hR : zRA S X c0 I A) (H : ∀ S' X' K' I' A' w' p' c', zSw S' → zXw X' → zCA S' X' K' → zRA S' X' c' I' A' → p'.1 ≤ p.1 + 1 → p'.2 ≤ p.2 + 6 → zV (some (n, sf)) zm_285 2674 [some (.retAddr 0), some (.ref 0), some (.ref 75), some (.ref 85), some (.int (Int32.ofNat i)), none, none, none] [] p' (zh K' I' A' w') Q) : zV (some (n, sf)) zm_285 1941 [some (.retAddr 0), some (.ref 0), some (.ref 75), some (.ref 85), some (.int (Int32.ofNat i)), none, none, none] [] p (zh K I A w) Q := by
  refine zV_go 1947 [some (.retAddr 0), some (.ref 0), some (.ref 75), some (.ref 85), some (.int (Int32.ofNat i)), none, none, none] [.int (Int32.ofNat i + (1 : Int32)), .retAddr 0, .ref 0] 5 (fun f => rfl) ?_
  refine zV_scr (j := i + 1) rfl (zN_a rfl rfl) (by omega) hn2 ?_
  refine zV_go 1953 [some (.retAddr 0), some (.ref 0), some (.ref 75), some (.ref 85), some (.int (Int32.ofNat i)), none, none, none] [.int (Int32.ofNat i + (2 : Int32)), .retAddr 0, .int (sf (i + 1)), .ref 0] 4 (fun f => rfl) ?_
  refine zV_scr (j := i + 2) rfl (zN_a rfl rfl) (by omega) hn2 ?_
  refine zV_go 1955 [some (.retAddr 0), some (.ref 0), some (.ref 75), some (.ref 85), some (.int (Int32.ofNat i)), none, none, none] [.ref 85, .int (sf (i + 2)), .int (sf (i + 1)), .ref 0] 1 (fun f => rfl) ?_
  refine zV_cw rfl rfl rfl rfl (w268 (S' := (zc_det S (sf (i + 1)) (sf (i + 2))).2) (X' := X) (x := (zc_det S (sf (i + 1)) (sf (i + 2))).1) (K_det hw hC) (g_det hw).2 (fun K1 hC1 => ?_))
  refine zV_go 1966 [some (.retAddr 0), some (.ref 0), some (.ref 75), some (.ref 85), some (.int (Int32.ofNat i)), some (.int (zcd [0, 1, 2, 3] (zc_det S (sf (i + 1)) (sf (i + 2))).1)), none, none] [.int (Int32.ofNat i + (1 : Int32)), .retAddr 0, .ref 75] 6 (fun f => rfl) ?_
  refine zV_scr (j := i + 1) rfl (zN_a rfl rfl) (by omega) hn2 ?_
  refine zV_go 1972 [some (.retAddr 0), some (.ref 0), some (.ref 75), some (.ref 85), some (.int (Int32.ofNat i)), some (.int (zcd [0, 1, 2, 3] (zc_det S (sf (i + 1)) (sf (i + 2))).1)), none, none] [.int (Int32.ofNat i + (2 : Int32)), .retAddr 0, .int (sf (i + 1)), .ref 75] 4 (fun f => rfl) ?_
  refine zV_scr (j := i + 2) rfl (zN_a rfl rfl) (by omega) hn2 ?_
  refine zV_cl rfl rfl rfl rfl (zT_mono (R_det hw hR) (fun r h' q => ?_))
  obtain ⟨rfl, I1, A1, hR1, rfl⟩ := q
  refine ⟨_, rfl, ?_⟩
  have fin := H (zc_det S (sf (i + 1)) (sf (i + 2))).2 X K1 I1 A1 (zow w (zc_det S (sf (i + 1)) (sf (i + 2))).1) (zpx' p (zc_det S (sf (i + 1)) (sf (i + 2))).1) _ (g_det hw).1 hX hC1 hR1 (zpx_b p (zc_det S (sf (i + 1)) (sf (i + 2))).1).1 (zpx_b p (zc_det S (sf (i + 1)) (sf (i + 2))).1).2
  have hz := True.intro
  clear H
  generalize (zc_det S (sf (i + 1)) (sf (i + 2))).1 = x at *
  refine zV_go 1979 [some (.retAddr 0), some (.ref 0), some (.ref 75), some (.ref 85), some (.int (Int32.ofNat i)), some (.int (zcd [0, 1, 2, 3] x)), some (.int (zrv x)), none] [.ref 75] 2 (fun f => rfl) ?_
  refine zV_cl rfl rfl rfl rfl (zT_mono (R_thrown hR1) (fun r h' q => ?_))
  obtain ⟨rfl, rfl⟩ := q
  refine ⟨_, rfl, ?_⟩
  refine zV_br (zcmp .eq (zcd [0, 1, 2, 3] x) (zcd [0, 1, 2, 3] x)) 1989 1987 [some (.retAddr 0), some (.ref 0), some (.ref 75), some (.ref 85), some (.int (Int32.ofNat i)), some (.int (zcd [0, 1, 2, 3] x)), some (.int (zrv x)), none] [] 2 (fun f => rfl) (fun _ => ?_) (fun h => by rw [zcE] at h; cases h)
  have out : zV (some (n, sf)) zm_285 2006 [some (.retAddr 0), some (.ref 0), some (.ref 75), some (.ref 85), some (.int (Int32.ofNat i)), some (.int (zcd [0, 1, 2, 3] x)), some (.int (zrv x)), none] [] (zpx' p x) (zh K1 I1 A1 (zow w x)) Q := zV_go 2674 [some (.retAddr 0), some (.ref 0), some (.ref 75), some (.ref 85), some (.int (Int32.ofNat i)), some (.int (zcd [0, 1, 2, 3] x)), some (.int (zrv x)), none] [] 1 (fun f => rfl) (zV_fg (zle_s _ (zle_s _ (zle_s _ (zle_s _ (zle_s _ (zle_n _ (zle_n _ (zle_n _ zle_nil)))))))) fin)
  cases x with
  | inr e =>
    exact zV_br (zcmp .ne (zcd [0, 1, 2, 3] (.inr e : Int32 ⊕ Nat)) 0) 2006 1994 [some (.retAddr 0), some (.ref 0), some (.ref 75), some (.ref 85), some (.int (Int32.ofNat i)), some (.int (zcd [0, 1, 2, 3] (.inr e : Int32 ⊕ Nat))), some (.int (zrv (.inr e))), none] [] 2 (fun f => rfl) (fun _ => out) (fun h => by rw [zcNe (zcd_n (by decide))] at h; cases h)
  | inl v =>
    refine zV_go 2001 [some (.retAddr 0), some (.ref 0), some (.ref 75), some (.ref 85), some (.int (Int32.ofNat i)), some (.int (0 : Int32)), some (.int v), none] [.int (lg_cmp v.toInt64 v.toInt64)] 8 (fun f => rfl) ?_
    exact zV_br (zcmp .eq (lg_cmp v.toInt64 v.toInt64) 0) 2006 2004 [some (.retAddr 0), some (.ref 0), some (.ref 75), some (.ref 85), some (.int (Int32.ofNat i)), some (.int (0 : Int32)), some (.int v), none] [] 1 (fun f => rfl) (fun _ => out) (fun h => by rw [zcLE] at h; cases h)
theorem cs_span {n i : Nat} {sf : Nat → Int32} {S : zSs} {X : zXt} {c0 : Int32} {K : zKt} {I : zIt} {A : zAt} {w : Nat → Int64} {p : Nat × Nat} {Q : Option Value → Nat × Nat → zH → Prop} (hn : i + 7 ≤ n) (hn2 : n ≤ 3584) (hw : zSw S) (hX : zXw X) (hC : zCA S X K) (hR : zRA S X c0 I A) (H : ∀ S' X' K' I' A' w' p' c', zSw S' → zXw X' → zCA S' X' K' → zRA S' X' c' I' A' → p'.1 ≤ p.1 + 1 → p'.2 ≤ p.2 + 6 → zV (some (n, sf)) zm_285 2674 [some (.retAddr 0), some (.ref 0), some (.ref 75), some (.ref 85), some (.int (Int32.ofNat i)), none, none, none] [] p' (zh K' I' A' w') Q) : zV (some (n, sf)) zm_285 2009 [some (.retAddr 0), some (.ref 0), some (.ref 75), some (.ref 85), some (.int (Int32.ofNat i)), none, none, none] [] p (zh K I A w) Q := by
  refine zV_go 2015 [some (.retAddr 0), some (.ref 0), some (.ref 75), some (.ref 85), some (.int (Int32.ofNat i)), none, none, none] [.int (Int32.ofNat i + (1 : Int32)), .retAddr 0, .ref 0] 5 (fun f => rfl) ?_
  refine zV_scr (j := i + 1) rfl (zN_a rfl rfl) (by omega) hn2 ?_
  refine zV_go 2021 [some (.retAddr 0), some (.ref 0), some (.ref 75), some (.ref 85), some (.int (Int32.ofNat i)), none, none, none] [.int (Int32.ofNat i + (2 : Int32)), .retAddr 0, .int (sf (i + 1)), .ref 0] 4 (fun f => rfl) ?_
  refine zV_scr (j := i + 2) rfl (zN_a rfl rfl) (by omega) hn2 ?_
  refine zV_go 2023 [some (.retAddr 0), some (.ref 0), some (.ref 75), some (.ref 85), some (.int (Int32.ofNat i)), none, none, none] [.ref 85, .int (sf (i + 2)), .int (sf (i + 1)), .ref 0] 1 (fun f => rfl) ?_
  refine zV_cw rfl rfl rfl rfl (w269 (S' := (zc_span S (sf (i + 1)) (sf (i + 2))).2) (X' := X) (x := (zc_span S (sf (i + 1)) (sf (i + 2))).1) (K_span hw hC) (g_span hw).2 zspan_z (fun K1 hC1 => ?_))
  refine zV_go 2034 [some (.retAddr 0), some (.ref 0), some (.ref 75), some (.ref 85), some (.int (Int32.ofNat i)), some (.int (zcd [0, 1, 3] (zc_span S (sf (i + 1)) (sf (i + 2))).1)), none, none] [.int (Int32.ofNat i + (1 : Int32)), .retAddr 0, .ref 75] 6 (fun f => rfl) ?_
  refine zV_scr (j := i + 1) rfl (zN_a rfl rfl) (by omega) hn2 ?_
  refine zV_go 2040 [some (.retAddr 0), some (.ref 0), some (.ref 75), some (.ref 85), some (.int (Int32.ofNat i)), some (.int (zcd [0, 1, 3] (zc_span S (sf (i + 1)) (sf (i + 2))).1)), none, none] [.int (Int32.ofNat i + (2 : Int32)), .retAddr 0, .int (sf (i + 1)), .ref 75] 4 (fun f => rfl) ?_
  refine zV_scr (j := i + 2) rfl (zN_a rfl rfl) (by omega) hn2 ?_
  refine zV_cl rfl rfl rfl rfl (zT_mono (R_span hw hR) (fun r h' q => ?_))
  obtain ⟨rfl, I1, A1, hR1, rfl⟩ := q
  refine ⟨_, rfl, ?_⟩
  have fin := H (zc_span S (sf (i + 1)) (sf (i + 2))).2 X K1 I1 A1 (zow w (zc_span S (sf (i + 1)) (sf (i + 2))).1) (zpx' p (zc_span S (sf (i + 1)) (sf (i + 2))).1) _ (g_span hw).1 hX hC1 hR1 (zpx_b p (zc_span S (sf (i + 1)) (sf (i + 2))).1).1 (zpx_b p (zc_span S (sf (i + 1)) (sf (i + 2))).1).2
  have hz := zspan_z (S := S) (a0 := (sf (i + 1))) (a1 := (sf (i + 2)))
  clear H
  generalize (zc_span S (sf (i + 1)) (sf (i + 2))).1 = x at *
  refine zV_go 2047 [some (.retAddr 0), some (.ref 0), some (.ref 75), some (.ref 85), some (.int (Int32.ofNat i)), some (.int (zcd [0, 1, 3] x)), some (.int (zrv x)), none] [.ref 75] 2 (fun f => rfl) ?_
  refine zV_cl rfl rfl rfl rfl (zT_mono (R_thrown hR1) (fun r h' q => ?_))
  obtain ⟨rfl, rfl⟩ := q
  refine ⟨_, rfl, ?_⟩
  refine zV_br (zcmp .eq (zcd [0, 1, 3] x) (zcd [0, 1, 3] x)) 2057 2055 [some (.retAddr 0), some (.ref 0), some (.ref 75), some (.ref 85), some (.int (Int32.ofNat i)), some (.int (zcd [0, 1, 3] x)), some (.int (zrv x)), none] [] 2 (fun f => rfl) (fun _ => ?_) (fun h => by rw [zcE] at h; cases h)
  have out : zV (some (n, sf)) zm_285 2081 [some (.retAddr 0), some (.ref 0), some (.ref 75), some (.ref 85), some (.int (Int32.ofNat i)), some (.int (zcd [0, 1, 3] x)), some (.int (zrv x)), none] [] (zpx' p x) (zh K1 I1 A1 (zow w x)) Q := zV_go 2674 [some (.retAddr 0), some (.ref 0), some (.ref 75), some (.ref 85), some (.int (Int32.ofNat i)), some (.int (zcd [0, 1, 3] x)), some (.int (zrv x)), none] [] 1 (fun f => rfl) (zV_fg (zle_s _ (zle_s _ (zle_s _ (zle_s _ (zle_s _ (zle_n _ (zle_n _ (zle_n _ zle_nil)))))))) fin)
  cases x with
  | inr e =>
    exact zV_br (zcmp .ne (zcd [0, 1, 3] (.inr e : Int32 ⊕ Nat)) 0) 2081 2062 [some (.retAddr 0), some (.ref 0), some (.ref 75), some (.ref 85), some (.int (Int32.ofNat i)), some (.int (zcd [0, 1, 3] (.inr e : Int32 ⊕ Nat))), some (.int (zrv (.inr e))), none] [] 2 (fun f => rfl) (fun _ => out) (fun h => by rw [zcNe (zcd_n (by decide))] at h; cases h)
  | inl v =>
    rcases hz v rfl with rfl | rfl
    · refine zV_go 2076 [some (.retAddr 0), some (.ref 0), some (.ref 75), some (.ref 85), some (.int (Int32.ofNat i)), some (.int (0 : Int32)), some (.int (0 : Int32)), none] [.int (lg_cmp (0 : Int32).toInt64 (0 : Int32).toInt64)] 9 (fun f => rfl) ?_
      exact zV_br (zcmp .eq (lg_cmp (0 : Int32).toInt64 (0 : Int32).toInt64) 0) 2081 2079 [some (.retAddr 0), some (.ref 0), some (.ref 75), some (.ref 85), some (.int (Int32.ofNat i)), some (.int (0 : Int32)), some (.int (0 : Int32)), none] [] 1 (fun f => rfl) (fun _ => out) (fun h => by rw [zcLE] at h; cases h)
    · refine zV_go 2076 [some (.retAddr 0), some (.ref 0), some (.ref 75), some (.ref 85), some (.int (Int32.ofNat i)), some (.int (0 : Int32)), some (.int (1 : Int32)), none] [.int (lg_cmp (1 : Int32).toInt64 (1 : Int32).toInt64)] 10 (fun f => rfl) ?_
      exact zV_br (zcmp .eq (lg_cmp (1 : Int32).toInt64 (1 : Int32).toInt64) 0) 2081 2079 [some (.retAddr 0), some (.ref 0), some (.ref 75), some (.ref 85), some (.int (Int32.ofNat i)), some (.int (0 : Int32)), some (.int (1 : Int32)), none] [] 1 (fun f => rfl) (fun _ => out) (fun h => by rw [zcLE] at h; cases h)
theorem cs_equi {n i : Nat} {sf : Nat → Int32} {S : zSs} {X : zXt} {c0 : Int32} {K : zKt} {I : zIt} {A : zAt} {w : Nat → Int64} {p : Nat × Nat} {Q : Option Value → Nat × Nat → zH → Prop} (hn : i + 7 ≤ n) (hn2 : n ≤ 3584) (hw : zSw S) (hX : zXw X) (hC : zCA S X K) (hR : zRA S X c0 I A) (H : ∀ S' X' K' I' A' w' p' c', zSw S' → zXw X' → zCA S' X' K' → zRA S' X' c' I' A' → p'.1 ≤ p.1 + 1 → p'.2 ≤ p.2 + 6 → zV (some (n, sf)) zm_285 2674 [some (.retAddr 0), some (.ref 0), some (.ref 75), some (.ref 85), some (.int (Int32.ofNat i)), none, none, none] [] p' (zh K' I' A' w') Q) : zV (some (n, sf)) zm_285 2084 [some (.retAddr 0), some (.ref 0), some (.ref 75), some (.ref 85), some (.int (Int32.ofNat i)), none, none, none] [] p (zh K I A w) Q := by
  refine zV_go 2090 [some (.retAddr 0), some (.ref 0), some (.ref 75), some (.ref 85), some (.int (Int32.ofNat i)), none, none, none] [.int (Int32.ofNat i + (1 : Int32)), .retAddr 0, .ref 0] 5 (fun f => rfl) ?_
  refine zV_scr (j := i + 1) rfl (zN_a rfl rfl) (by omega) hn2 ?_
  refine zV_go 2096 [some (.retAddr 0), some (.ref 0), some (.ref 75), some (.ref 85), some (.int (Int32.ofNat i)), none, none, none] [.int (Int32.ofNat i + (2 : Int32)), .retAddr 0, .int (sf (i + 1)), .ref 0] 4 (fun f => rfl) ?_
  refine zV_scr (j := i + 2) rfl (zN_a rfl rfl) (by omega) hn2 ?_
  refine zV_go 2098 [some (.retAddr 0), some (.ref 0), some (.ref 75), some (.ref 85), some (.int (Int32.ofNat i)), none, none, none] [.ref 85, .int (sf (i + 2)), .int (sf (i + 1)), .ref 0] 1 (fun f => rfl) ?_
  refine zV_cw rfl rfl rfl rfl (w270 (S' := (zc_equi S (sf (i + 1)) (sf (i + 2))).2) (X' := X) (x := (zc_equi S (sf (i + 1)) (sf (i + 2))).1) (K_equi hw hC) (g_equi hw).2 zequi_z (fun K1 hC1 => ?_))
  refine zV_go 2109 [some (.retAddr 0), some (.ref 0), some (.ref 75), some (.ref 85), some (.int (Int32.ofNat i)), some (.int (zcd [0, 1, 3] (zc_equi S (sf (i + 1)) (sf (i + 2))).1)), none, none] [.int (Int32.ofNat i + (1 : Int32)), .retAddr 0, .ref 75] 6 (fun f => rfl) ?_
  refine zV_scr (j := i + 1) rfl (zN_a rfl rfl) (by omega) hn2 ?_
  refine zV_go 2115 [some (.retAddr 0), some (.ref 0), some (.ref 75), some (.ref 85), some (.int (Int32.ofNat i)), some (.int (zcd [0, 1, 3] (zc_equi S (sf (i + 1)) (sf (i + 2))).1)), none, none] [.int (Int32.ofNat i + (2 : Int32)), .retAddr 0, .int (sf (i + 1)), .ref 75] 4 (fun f => rfl) ?_
  refine zV_scr (j := i + 2) rfl (zN_a rfl rfl) (by omega) hn2 ?_
  refine zV_cl rfl rfl rfl rfl (zT_mono (R_equi hw hR) (fun r h' q => ?_))
  obtain ⟨rfl, I1, A1, hR1, rfl⟩ := q
  refine ⟨_, rfl, ?_⟩
  have fin := H (zc_equi S (sf (i + 1)) (sf (i + 2))).2 X K1 I1 A1 (zow w (zc_equi S (sf (i + 1)) (sf (i + 2))).1) (zpx' p (zc_equi S (sf (i + 1)) (sf (i + 2))).1) _ (g_equi hw).1 hX hC1 hR1 (zpx_b p (zc_equi S (sf (i + 1)) (sf (i + 2))).1).1 (zpx_b p (zc_equi S (sf (i + 1)) (sf (i + 2))).1).2
  have hz := zequi_z (S := S) (a0 := (sf (i + 1))) (a1 := (sf (i + 2)))
  clear H
  generalize (zc_equi S (sf (i + 1)) (sf (i + 2))).1 = x at *
  refine zV_go 2122 [some (.retAddr 0), some (.ref 0), some (.ref 75), some (.ref 85), some (.int (Int32.ofNat i)), some (.int (zcd [0, 1, 3] x)), some (.int (zrv x)), none] [.ref 75] 2 (fun f => rfl) ?_
  refine zV_cl rfl rfl rfl rfl (zT_mono (R_thrown hR1) (fun r h' q => ?_))
  obtain ⟨rfl, rfl⟩ := q
  refine ⟨_, rfl, ?_⟩
  refine zV_br (zcmp .eq (zcd [0, 1, 3] x) (zcd [0, 1, 3] x)) 2132 2130 [some (.retAddr 0), some (.ref 0), some (.ref 75), some (.ref 85), some (.int (Int32.ofNat i)), some (.int (zcd [0, 1, 3] x)), some (.int (zrv x)), none] [] 2 (fun f => rfl) (fun _ => ?_) (fun h => by rw [zcE] at h; cases h)
  have out : zV (some (n, sf)) zm_285 2156 [some (.retAddr 0), some (.ref 0), some (.ref 75), some (.ref 85), some (.int (Int32.ofNat i)), some (.int (zcd [0, 1, 3] x)), some (.int (zrv x)), none] [] (zpx' p x) (zh K1 I1 A1 (zow w x)) Q := zV_go 2674 [some (.retAddr 0), some (.ref 0), some (.ref 75), some (.ref 85), some (.int (Int32.ofNat i)), some (.int (zcd [0, 1, 3] x)), some (.int (zrv x)), none] [] 1 (fun f => rfl) (zV_fg (zle_s _ (zle_s _ (zle_s _ (zle_s _ (zle_s _ (zle_n _ (zle_n _ (zle_n _ zle_nil)))))))) fin)
  cases x with
  | inr e =>
    exact zV_br (zcmp .ne (zcd [0, 1, 3] (.inr e : Int32 ⊕ Nat)) 0) 2156 2137 [some (.retAddr 0), some (.ref 0), some (.ref 75), some (.ref 85), some (.int (Int32.ofNat i)), some (.int (zcd [0, 1, 3] (.inr e : Int32 ⊕ Nat))), some (.int (zrv (.inr e))), none] [] 2 (fun f => rfl) (fun _ => out) (fun h => by rw [zcNe (zcd_n (by decide))] at h; cases h)
  | inl v =>
    rcases hz v rfl with rfl | rfl
    · refine zV_go 2151 [some (.retAddr 0), some (.ref 0), some (.ref 75), some (.ref 85), some (.int (Int32.ofNat i)), some (.int (0 : Int32)), some (.int (0 : Int32)), none] [.int (lg_cmp (0 : Int32).toInt64 (0 : Int32).toInt64)] 9 (fun f => rfl) ?_
      exact zV_br (zcmp .eq (lg_cmp (0 : Int32).toInt64 (0 : Int32).toInt64) 0) 2156 2154 [some (.retAddr 0), some (.ref 0), some (.ref 75), some (.ref 85), some (.int (Int32.ofNat i)), some (.int (0 : Int32)), some (.int (0 : Int32)), none] [] 1 (fun f => rfl) (fun _ => out) (fun h => by rw [zcLE] at h; cases h)
    · refine zV_go 2151 [some (.retAddr 0), some (.ref 0), some (.ref 75), some (.ref 85), some (.int (Int32.ofNat i)), some (.int (0 : Int32)), some (.int (1 : Int32)), none] [.int (lg_cmp (1 : Int32).toInt64 (1 : Int32).toInt64)] 10 (fun f => rfl) ?_
      exact zV_br (zcmp .eq (lg_cmp (1 : Int32).toInt64 (1 : Int32).toInt64) 0) 2156 2154 [some (.retAddr 0), some (.ref 0), some (.ref 75), some (.ref 85), some (.int (Int32.ofNat i)), some (.int (0 : Int32)), some (.int (1 : Int32)), none] [] 1 (fun f => rfl) (fun _ => out) (fun h => by rw [zcLE] at h; cases h)
theorem cs_quot {n i : Nat} {sf : Nat → Int32} {S : zSs} {X : zXt} {c0 : Int32} {K : zKt} {I : zIt} {A : zAt} {w : Nat → Int64} {p : Nat × Nat} {Q : Option Value → Nat × Nat → zH → Prop} (hn : i + 7 ≤ n) (hn2 : n ≤ 3584) (hw : zSw S) (hX : zXw X) (hC : zCA S X K) (hR : zRA S X c0 I A) (H : ∀ S' X' K' I' A' w' p' c', zSw S' → zXw X' → zCA S' X' K' → zRA S' X' c' I' A' → p'.1 ≤ p.1 + 1 → p'.2 ≤ p.2 + 6 → zV (some (n, sf)) zm_285 2674 [some (.retAddr 0), some (.ref 0), some (.ref 75), some (.ref 85), some (.int (Int32.ofNat i)), none, none, none] [] p' (zh K' I' A' w') Q) : zV (some (n, sf)) zm_285 2159 [some (.retAddr 0), some (.ref 0), some (.ref 75), some (.ref 85), some (.int (Int32.ofNat i)), none, none, none] [] p (zh K I A w) Q := by
  refine zV_go 2165 [some (.retAddr 0), some (.ref 0), some (.ref 75), some (.ref 85), some (.int (Int32.ofNat i)), none, none, none] [.int (Int32.ofNat i + (1 : Int32)), .retAddr 0, .ref 0] 5 (fun f => rfl) ?_
  refine zV_scr (j := i + 1) rfl (zN_a rfl rfl) (by omega) hn2 ?_
  refine zV_go 2171 [some (.retAddr 0), some (.ref 0), some (.ref 75), some (.ref 85), some (.int (Int32.ofNat i)), none, none, none] [.int (Int32.ofNat i + (2 : Int32)), .retAddr 0, .int (sf (i + 1)), .ref 0] 4 (fun f => rfl) ?_
  refine zV_scr (j := i + 2) rfl (zN_a rfl rfl) (by omega) hn2 ?_
  refine zV_go 2177 [some (.retAddr 0), some (.ref 0), some (.ref 75), some (.ref 85), some (.int (Int32.ofNat i)), none, none, none] [.int (Int32.ofNat i + (3 : Int32)), .retAddr 0, .int (sf (i + 2)), .int (sf (i + 1)), .ref 0] 4 (fun f => rfl) ?_
  refine zV_scr (j := i + 3) rfl (zN_a rfl rfl) (by omega) hn2 ?_
  refine zV_go 2183 [some (.retAddr 0), some (.ref 0), some (.ref 75), some (.ref 85), some (.int (Int32.ofNat i)), none, none, none] [.int (Int32.ofNat i + (4 : Int32)), .retAddr 0, .int (sf (i + 3)), .int (sf (i + 2)), .int (sf (i + 1)), .ref 0] 4 (fun f => rfl) ?_
  refine zV_scr (j := i + 4) rfl (zN_a rfl rfl) (by omega) hn2 ?_
  refine zV_go 2185 [some (.retAddr 0), some (.ref 0), some (.ref 75), some (.ref 85), some (.int (Int32.ofNat i)), none, none, none] [.ref 85, .int (sf (i + 4)), .int (sf (i + 3)), .int (sf (i + 2)), .int (sf (i + 1)), .ref 0] 1 (fun f => rfl) ?_
  refine zV_cw rfl rfl rfl rfl (w271 (S' := (zc_quot S (sf (i + 1)) (sf (i + 2)) (sf (i + 3)) (sf (i + 4))).2) (X' := X) (x := (zc_quot S (sf (i + 1)) (sf (i + 2)) (sf (i + 3)) (sf (i + 4))).1) (K_quot  hC) (g_quot hw).2 (fun K1 hC1 => ?_))
  refine zV_go 2196 [some (.retAddr 0), some (.ref 0), some (.ref 75), some (.ref 85), some (.int (Int32.ofNat i)), some (.int (zcd [2, 3] (zc_quot S (sf (i + 1)) (sf (i + 2)) (sf (i + 3)) (sf (i + 4))).1)), none, none] [.int (Int32.ofNat i + (1 : Int32)), .retAddr 0, .ref 75] 6 (fun f => rfl) ?_
  refine zV_scr (j := i + 1) rfl (zN_a rfl rfl) (by omega) hn2 ?_
  refine zV_go 2202 [some (.retAddr 0), some (.ref 0), some (.ref 75), some (.ref 85), some (.int (Int32.ofNat i)), some (.int (zcd [2, 3] (zc_quot S (sf (i + 1)) (sf (i + 2)) (sf (i + 3)) (sf (i + 4))).1)), none, none] [.int (Int32.ofNat i + (2 : Int32)), .retAddr 0, .int (sf (i + 1)), .ref 75] 4 (fun f => rfl) ?_
  refine zV_scr (j := i + 2) rfl (zN_a rfl rfl) (by omega) hn2 ?_
  refine zV_go 2208 [some (.retAddr 0), some (.ref 0), some (.ref 75), some (.ref 85), some (.int (Int32.ofNat i)), some (.int (zcd [2, 3] (zc_quot S (sf (i + 1)) (sf (i + 2)) (sf (i + 3)) (sf (i + 4))).1)), none, none] [.int (Int32.ofNat i + (3 : Int32)), .retAddr 0, .int (sf (i + 2)), .int (sf (i + 1)), .ref 75] 4 (fun f => rfl) ?_
  refine zV_scr (j := i + 3) rfl (zN_a rfl rfl) (by omega) hn2 ?_
  refine zV_go 2214 [some (.retAddr 0), some (.ref 0), some (.ref 75), some (.ref 85), some (.int (Int32.ofNat i)), some (.int (zcd [2, 3] (zc_quot S (sf (i + 1)) (sf (i + 2)) (sf (i + 3)) (sf (i + 4))).1)), none, none] [.int (Int32.ofNat i + (4 : Int32)), .retAddr 0, .int (sf (i + 3)), .int (sf (i + 2)), .int (sf (i + 1)), .ref 75] 4 (fun f => rfl) ?_
  refine zV_scr (j := i + 4) rfl (zN_a rfl rfl) (by omega) hn2 ?_
  refine zV_cl rfl rfl rfl rfl (zT_mono (R_quot  hR) (fun r h' q => ?_))
  obtain ⟨rfl, I1, A1, hR1, rfl⟩ := q
  refine ⟨_, rfl, ?_⟩
  have fin := H (zc_quot S (sf (i + 1)) (sf (i + 2)) (sf (i + 3)) (sf (i + 4))).2 X K1 I1 A1 (zow w (zc_quot S (sf (i + 1)) (sf (i + 2)) (sf (i + 3)) (sf (i + 4))).1) (zpx' p (zc_quot S (sf (i + 1)) (sf (i + 2)) (sf (i + 3)) (sf (i + 4))).1) _ (g_quot hw).1 hX hC1 hR1 (zpx_b p (zc_quot S (sf (i + 1)) (sf (i + 2)) (sf (i + 3)) (sf (i + 4))).1).1 (zpx_b p (zc_quot S (sf (i + 1)) (sf (i + 2)) (sf (i + 3)) (sf (i + 4))).1).2
  have hz := True.intro
  clear H
  generalize (zc_quot S (sf (i + 1)) (sf (i + 2)) (sf (i + 3)) (sf (i + 4))).1 = x at *
  refine zV_go 2221 [some (.retAddr 0), some (.ref 0), some (.ref 75), some (.ref 85), some (.int (Int32.ofNat i)), some (.int (zcd [2, 3] x)), some (.int (zrv x)), none] [.ref 75] 2 (fun f => rfl) ?_
  refine zV_cl rfl rfl rfl rfl (zT_mono (R_thrown hR1) (fun r h' q => ?_))
  obtain ⟨rfl, rfl⟩ := q
  refine ⟨_, rfl, ?_⟩
  refine zV_br (zcmp .eq (zcd [2, 3] x) (zcd [2, 3] x)) 2231 2229 [some (.retAddr 0), some (.ref 0), some (.ref 75), some (.ref 85), some (.int (Int32.ofNat i)), some (.int (zcd [2, 3] x)), some (.int (zrv x)), none] [] 2 (fun f => rfl) (fun _ => ?_) (fun h => by rw [zcE] at h; cases h)
  have out : zV (some (n, sf)) zm_285 2248 [some (.retAddr 0), some (.ref 0), some (.ref 75), some (.ref 85), some (.int (Int32.ofNat i)), some (.int (zcd [2, 3] x)), some (.int (zrv x)), none] [] (zpx' p x) (zh K1 I1 A1 (zow w x)) Q := zV_go 2674 [some (.retAddr 0), some (.ref 0), some (.ref 75), some (.ref 85), some (.int (Int32.ofNat i)), some (.int (zcd [2, 3] x)), some (.int (zrv x)), none] [] 1 (fun f => rfl) (zV_fg (zle_s _ (zle_s _ (zle_s _ (zle_s _ (zle_s _ (zle_n _ (zle_n _ (zle_n _ zle_nil)))))))) fin)
  cases x with
  | inr e =>
    exact zV_br (zcmp .ne (zcd [2, 3] (.inr e : Int32 ⊕ Nat)) 0) 2248 2236 [some (.retAddr 0), some (.ref 0), some (.ref 75), some (.ref 85), some (.int (Int32.ofNat i)), some (.int (zcd [2, 3] (.inr e : Int32 ⊕ Nat))), some (.int (zrv (.inr e))), none] [] 2 (fun f => rfl) (fun _ => out) (fun h => by rw [zcNe (zcd_n (by decide))] at h; cases h)
  | inl v =>
    refine zV_go 2243 [some (.retAddr 0), some (.ref 0), some (.ref 75), some (.ref 85), some (.int (Int32.ofNat i)), some (.int (0 : Int32)), some (.int v), none] [.int (lg_cmp v.toInt64 v.toInt64)] 8 (fun f => rfl) ?_
    exact zV_br (zcmp .eq (lg_cmp v.toInt64 v.toInt64) 0) 2248 2246 [some (.retAddr 0), some (.ref 0), some (.ref 75), some (.ref 85), some (.int (Int32.ofNat i)), some (.int (0 : Int32)), some (.int v), none] [] 1 (fun f => rfl) (fun _ => out) (fun h => by rw [zcLE] at h; cases h)
theorem cs_gcd {n i : Nat} {sf : Nat → Int32} {S : zSs} {X : zXt} {c0 : Int32} {K : zKt} {I : zIt} {A : zAt} {w : Nat → Int64} {p : Nat × Nat} {Q : Option Value → Nat × Nat → zH → Prop} (hn : i + 7 ≤ n) (hn2 : n ≤ 3584) (hw : zSw S) (hX : zXw X) (hC : zCA S X K) (hR : zRA S X c0 I A) (H : ∀ S' X' K' I' A' w' p' c', zSw S' → zXw X' → zCA S' X' K' → zRA S' X' c' I' A' → p'.1 ≤ p.1 + 1 → p'.2 ≤ p.2 + 6 → zV (some (n, sf)) zm_285 2674 [some (.retAddr 0), some (.ref 0), some (.ref 75), some (.ref 85), some (.int (Int32.ofNat i)), none, none, none] [] p' (zh K' I' A' w') Q) : zV (some (n, sf)) zm_285 2251 [some (.retAddr 0), some (.ref 0), some (.ref 75), some (.ref 85), some (.int (Int32.ofNat i)), none, none, none] [] p (zh K I A w) Q := by
  refine zV_go 2257 [some (.retAddr 0), some (.ref 0), some (.ref 75), some (.ref 85), some (.int (Int32.ofNat i)), none, none, none] [.int (Int32.ofNat i + (1 : Int32)), .retAddr 0, .ref 0] 5 (fun f => rfl) ?_
  refine zV_scr (j := i + 1) rfl (zN_a rfl rfl) (by omega) hn2 ?_
  refine zV_go 2263 [some (.retAddr 0), some (.ref 0), some (.ref 75), some (.ref 85), some (.int (Int32.ofNat i)), none, none, none] [.int (Int32.ofNat i + (2 : Int32)), .retAddr 0, .int (sf (i + 1)), .ref 0] 4 (fun f => rfl) ?_
  refine zV_scr (j := i + 2) rfl (zN_a rfl rfl) (by omega) hn2 ?_
  refine zV_go 2269 [some (.retAddr 0), some (.ref 0), some (.ref 75), some (.ref 85), some (.int (Int32.ofNat i)), none, none, none] [.int (Int32.ofNat i + (3 : Int32)), .retAddr 0, .int (sf (i + 2)), .int (sf (i + 1)), .ref 0] 4 (fun f => rfl) ?_
  refine zV_scr (j := i + 3) rfl (zN_a rfl rfl) (by omega) hn2 ?_
  refine zV_go 2275 [some (.retAddr 0), some (.ref 0), some (.ref 75), some (.ref 85), some (.int (Int32.ofNat i)), none, none, none] [.int (Int32.ofNat i + (4 : Int32)), .retAddr 0, .int (sf (i + 3)), .int (sf (i + 2)), .int (sf (i + 1)), .ref 0] 4 (fun f => rfl) ?_
  refine zV_scr (j := i + 4) rfl (zN_a rfl rfl) (by omega) hn2 ?_
  refine zV_go 2281 [some (.retAddr 0), some (.ref 0), some (.ref 75), some (.ref 85), some (.int (Int32.ofNat i)), none, none, none] [.int (Int32.ofNat i + (5 : Int32)), .retAddr 0, .int (sf (i + 4)), .int (sf (i + 3)), .int (sf (i + 2)), .int (sf (i + 1)), .ref 0] 4 (fun f => rfl) ?_
  refine zV_scr (j := i + 5) rfl (zN_a rfl rfl) (by omega) hn2 ?_
  refine zV_go 2288 [some (.retAddr 0), some (.ref 0), some (.ref 75), some (.ref 85), some (.int (Int32.ofNat i)), none, none, none] [.int (Int32.ofNat i + (6 : Int32)), .retAddr 0, .int (sf (i + 5)), .int (sf (i + 4)), .int (sf (i + 3)), .int (sf (i + 2)), .int (sf (i + 1)), .ref 0] 4 (fun f => rfl) ?_
  refine zV_scr (j := i + 6) rfl (zN_a rfl rfl) (by omega) hn2 ?_
  refine zV_go 2290 [some (.retAddr 0), some (.ref 0), some (.ref 75), some (.ref 85), some (.int (Int32.ofNat i)), none, none, none] [.ref 85, .int (sf (i + 6)), .int (sf (i + 5)), .int (sf (i + 4)), .int (sf (i + 3)), .int (sf (i + 2)), .int (sf (i + 1)), .ref 0] 1 (fun f => rfl) ?_
  refine zV_cw rfl rfl rfl rfl (w272 (S' := (zc_gcd S (sf (i + 1)) (sf (i + 2)) (sf (i + 3)) (sf (i + 4)) (sf (i + 5)) (sf (i + 6))).2) (X' := X) (x := (zc_gcd S (sf (i + 1)) (sf (i + 2)) (sf (i + 3)) (sf (i + 4)) (sf (i + 5)) (sf (i + 6))).1) (K_gcd  hC) (g_gcd hw).2 (fun K1 hC1 => ?_))
  refine zV_go 2301 [some (.retAddr 0), some (.ref 0), some (.ref 75), some (.ref 85), some (.int (Int32.ofNat i)), some (.int (zcd [2] (zc_gcd S (sf (i + 1)) (sf (i + 2)) (sf (i + 3)) (sf (i + 4)) (sf (i + 5)) (sf (i + 6))).1)), none, none] [.int (Int32.ofNat i + (1 : Int32)), .retAddr 0, .ref 75] 6 (fun f => rfl) ?_
  refine zV_scr (j := i + 1) rfl (zN_a rfl rfl) (by omega) hn2 ?_
  refine zV_go 2307 [some (.retAddr 0), some (.ref 0), some (.ref 75), some (.ref 85), some (.int (Int32.ofNat i)), some (.int (zcd [2] (zc_gcd S (sf (i + 1)) (sf (i + 2)) (sf (i + 3)) (sf (i + 4)) (sf (i + 5)) (sf (i + 6))).1)), none, none] [.int (Int32.ofNat i + (2 : Int32)), .retAddr 0, .int (sf (i + 1)), .ref 75] 4 (fun f => rfl) ?_
  refine zV_scr (j := i + 2) rfl (zN_a rfl rfl) (by omega) hn2 ?_
  refine zV_go 2313 [some (.retAddr 0), some (.ref 0), some (.ref 75), some (.ref 85), some (.int (Int32.ofNat i)), some (.int (zcd [2] (zc_gcd S (sf (i + 1)) (sf (i + 2)) (sf (i + 3)) (sf (i + 4)) (sf (i + 5)) (sf (i + 6))).1)), none, none] [.int (Int32.ofNat i + (3 : Int32)), .retAddr 0, .int (sf (i + 2)), .int (sf (i + 1)), .ref 75] 4 (fun f => rfl) ?_
  refine zV_scr (j := i + 3) rfl (zN_a rfl rfl) (by omega) hn2 ?_
  refine zV_go 2319 [some (.retAddr 0), some (.ref 0), some (.ref 75), some (.ref 85), some (.int (Int32.ofNat i)), some (.int (zcd [2] (zc_gcd S (sf (i + 1)) (sf (i + 2)) (sf (i + 3)) (sf (i + 4)) (sf (i + 5)) (sf (i + 6))).1)), none, none] [.int (Int32.ofNat i + (4 : Int32)), .retAddr 0, .int (sf (i + 3)), .int (sf (i + 2)), .int (sf (i + 1)), .ref 75] 4 (fun f => rfl) ?_
  refine zV_scr (j := i + 4) rfl (zN_a rfl rfl) (by omega) hn2 ?_
  refine zV_go 2325 [some (.retAddr 0), some (.ref 0), some (.ref 75), some (.ref 85), some (.int (Int32.ofNat i)), some (.int (zcd [2] (zc_gcd S (sf (i + 1)) (sf (i + 2)) (sf (i + 3)) (sf (i + 4)) (sf (i + 5)) (sf (i + 6))).1)), none, none] [.int (Int32.ofNat i + (5 : Int32)), .retAddr 0, .int (sf (i + 4)), .int (sf (i + 3)), .int (sf (i + 2)), .int (sf (i + 1)), .ref 75] 4 (fun f => rfl) ?_
  refine zV_scr (j := i + 5) rfl (zN_a rfl rfl) (by omega) hn2 ?_
  refine zV_go 2332 [some (.retAddr 0), some (.ref 0), some (.ref 75), some (.ref 85), some (.int (Int32.ofNat i)), some (.int (zcd [2] (zc_gcd S (sf (i + 1)) (sf (i + 2)) (sf (i + 3)) (sf (i + 4)) (sf (i + 5)) (sf (i + 6))).1)), none, none] [.int (Int32.ofNat i + (6 : Int32)), .retAddr 0, .int (sf (i + 5)), .int (sf (i + 4)), .int (sf (i + 3)), .int (sf (i + 2)), .int (sf (i + 1)), .ref 75] 4 (fun f => rfl) ?_
  refine zV_scr (j := i + 6) rfl (zN_a rfl rfl) (by omega) hn2 ?_
  refine zV_cl rfl rfl rfl rfl (zT_mono (R_gcd  hR) (fun r h' q => ?_))
  obtain ⟨rfl, I1, A1, hR1, rfl⟩ := q
  refine ⟨_, rfl, ?_⟩
  have fin := H (zc_gcd S (sf (i + 1)) (sf (i + 2)) (sf (i + 3)) (sf (i + 4)) (sf (i + 5)) (sf (i + 6))).2 X K1 I1 A1 (zow w (zc_gcd S (sf (i + 1)) (sf (i + 2)) (sf (i + 3)) (sf (i + 4)) (sf (i + 5)) (sf (i + 6))).1) (zpx' p (zc_gcd S (sf (i + 1)) (sf (i + 2)) (sf (i + 3)) (sf (i + 4)) (sf (i + 5)) (sf (i + 6))).1) _ (g_gcd hw).1 hX hC1 hR1 (zpx_b p (zc_gcd S (sf (i + 1)) (sf (i + 2)) (sf (i + 3)) (sf (i + 4)) (sf (i + 5)) (sf (i + 6))).1).1 (zpx_b p (zc_gcd S (sf (i + 1)) (sf (i + 2)) (sf (i + 3)) (sf (i + 4)) (sf (i + 5)) (sf (i + 6))).1).2
  have hz := True.intro
  clear H
  generalize (zc_gcd S (sf (i + 1)) (sf (i + 2)) (sf (i + 3)) (sf (i + 4)) (sf (i + 5)) (sf (i + 6))).1 = x at *
  refine zV_go 2339 [some (.retAddr 0), some (.ref 0), some (.ref 75), some (.ref 85), some (.int (Int32.ofNat i)), some (.int (zcd [2] x)), some (.int (zrv x)), none] [.ref 75] 2 (fun f => rfl) ?_
  refine zV_cl rfl rfl rfl rfl (zT_mono (R_thrown hR1) (fun r h' q => ?_))
  obtain ⟨rfl, rfl⟩ := q
  refine ⟨_, rfl, ?_⟩
  refine zV_br (zcmp .eq (zcd [2] x) (zcd [2] x)) 2349 2347 [some (.retAddr 0), some (.ref 0), some (.ref 75), some (.ref 85), some (.int (Int32.ofNat i)), some (.int (zcd [2] x)), some (.int (zrv x)), none] [] 2 (fun f => rfl) (fun _ => ?_) (fun h => by rw [zcE] at h; cases h)
  have out : zV (some (n, sf)) zm_285 2366 [some (.retAddr 0), some (.ref 0), some (.ref 75), some (.ref 85), some (.int (Int32.ofNat i)), some (.int (zcd [2] x)), some (.int (zrv x)), none] [] (zpx' p x) (zh K1 I1 A1 (zow w x)) Q := zV_go 2674 [some (.retAddr 0), some (.ref 0), some (.ref 75), some (.ref 85), some (.int (Int32.ofNat i)), some (.int (zcd [2] x)), some (.int (zrv x)), none] [] 1 (fun f => rfl) (zV_fg (zle_s _ (zle_s _ (zle_s _ (zle_s _ (zle_s _ (zle_n _ (zle_n _ (zle_n _ zle_nil)))))))) fin)
  cases x with
  | inr e =>
    exact zV_br (zcmp .ne (zcd [2] (.inr e : Int32 ⊕ Nat)) 0) 2366 2354 [some (.retAddr 0), some (.ref 0), some (.ref 75), some (.ref 85), some (.int (Int32.ofNat i)), some (.int (zcd [2] (.inr e : Int32 ⊕ Nat))), some (.int (zrv (.inr e))), none] [] 2 (fun f => rfl) (fun _ => out) (fun h => by rw [zcNe (zcd_n (by decide))] at h; cases h)
  | inl v =>
    refine zV_go 2361 [some (.retAddr 0), some (.ref 0), some (.ref 75), some (.ref 85), some (.int (Int32.ofNat i)), some (.int (0 : Int32)), some (.int v), none] [.int (lg_cmp v.toInt64 v.toInt64)] 8 (fun f => rfl) ?_
    exact zV_br (zcmp .eq (lg_cmp v.toInt64 v.toInt64) 0) 2366 2364 [some (.retAddr 0), some (.ref 0), some (.ref 75), some (.ref 85), some (.int (Int32.ofNat i)), some (.int (0 : Int32)), some (.int v), none] [] 1 (fun f => rfl) (fun _ => out) (fun h => by rw [zcLE] at h; cases h)
theorem cs_type {n i : Nat} {sf : Nat → Int32} {S : zSs} {X : zXt} {c0 : Int32} {K : zKt} {I : zIt} {A : zAt} {w : Nat → Int64} {p : Nat × Nat} {Q : Option Value → Nat × Nat → zH → Prop} (hn : i + 7 ≤ n) (hn2 : n ≤ 3584) (hw : zSw S) (hX : zXw X) (hC : zCA S X K) (hR : zRA S X c0 I A) (H : ∀ S' X' K' I' A' w' p' c', zSw S' → zXw X' → zCA S' X' K' → zRA S' X' c' I' A' → p'.1 ≤ p.1 + 1 → p'.2 ≤ p.2 + 6 → zV (some (n, sf)) zm_285 2674 [some (.retAddr 0), some (.ref 0), some (.ref 75), some (.ref 85), some (.int (Int32.ofNat i)), none, none, none] [] p' (zh K' I' A' w') Q) : zV (some (n, sf)) zm_285 2369 [some (.retAddr 0), some (.ref 0), some (.ref 75), some (.ref 85), some (.int (Int32.ofNat i)), none, none, none] [] p (zh K I A w) Q := by
  refine zV_go 2375 [some (.retAddr 0), some (.ref 0), some (.ref 75), some (.ref 85), some (.int (Int32.ofNat i)), none, none, none] [.int (Int32.ofNat i + (1 : Int32)), .retAddr 0, .ref 0] 5 (fun f => rfl) ?_
  refine zV_scr (j := i + 1) rfl (zN_a rfl rfl) (by omega) hn2 ?_
  refine zV_go 2377 [some (.retAddr 0), some (.ref 0), some (.ref 75), some (.ref 85), some (.int (Int32.ofNat i)), none, none, none] [.ref 85, .int (sf (i + 1)), .ref 0] 1 (fun f => rfl) ?_
  refine zV_cw rfl rfl rfl rfl (w273 (S' := S) (X' := (zt_type X (sf (i + 1))).2) (x := (zt_type X (sf (i + 1))).1) (K_type hX hC) (g_type hX).2 (fun K1 hC1 => ?_))
  refine zV_go 2388 [some (.retAddr 0), some (.ref 0), some (.ref 75), some (.ref 85), some (.int (Int32.ofNat i)), some (.int (zcd [2, 1] (zt_type X (sf (i + 1))).1)), none, none] [.int (Int32.ofNat i + (1 : Int32)), .retAddr 0, .ref 75] 6 (fun f => rfl) ?_
  refine zV_scr (j := i + 1) rfl (zN_a rfl rfl) (by omega) hn2 ?_
  refine zV_cl rfl rfl rfl rfl (zT_mono (R_type hX hR) (fun r h' q => ?_))
  obtain ⟨rfl, I1, A1, hR1, rfl⟩ := q
  refine ⟨_, rfl, ?_⟩
  have fin := H S (zt_type X (sf (i + 1))).2 K1 I1 A1 (zow w (zt_type X (sf (i + 1))).1) (zpx' p (zt_type X (sf (i + 1))).1) _ hw (g_type hX).1 hC1 hR1 (zpx_b p (zt_type X (sf (i + 1))).1).1 (zpx_b p (zt_type X (sf (i + 1))).1).2
  have hz := True.intro
  clear H
  generalize (zt_type X (sf (i + 1))).1 = x at *
  refine zV_go 2395 [some (.retAddr 0), some (.ref 0), some (.ref 75), some (.ref 85), some (.int (Int32.ofNat i)), some (.int (zcd [2, 1] x)), some (.int (zrv x)), none] [.ref 75] 2 (fun f => rfl) ?_
  refine zV_cl rfl rfl rfl rfl (zT_mono (R_thrown hR1) (fun r h' q => ?_))
  obtain ⟨rfl, rfl⟩ := q
  refine ⟨_, rfl, ?_⟩
  refine zV_br (zcmp .eq (zcd [2, 1] x) (zcd [2, 1] x)) 2405 2403 [some (.retAddr 0), some (.ref 0), some (.ref 75), some (.ref 85), some (.int (Int32.ofNat i)), some (.int (zcd [2, 1] x)), some (.int (zrv x)), none] [] 2 (fun f => rfl) (fun _ => ?_) (fun h => by rw [zcE] at h; cases h)
  have out : zV (some (n, sf)) zm_285 2422 [some (.retAddr 0), some (.ref 0), some (.ref 75), some (.ref 85), some (.int (Int32.ofNat i)), some (.int (zcd [2, 1] x)), some (.int (zrv x)), none] [] (zpx' p x) (zh K1 I1 A1 (zow w x)) Q := zV_go 2674 [some (.retAddr 0), some (.ref 0), some (.ref 75), some (.ref 85), some (.int (Int32.ofNat i)), some (.int (zcd [2, 1] x)), some (.int (zrv x)), none] [] 1 (fun f => rfl) (zV_fg (zle_s _ (zle_s _ (zle_s _ (zle_s _ (zle_s _ (zle_n _ (zle_n _ (zle_n _ zle_nil)))))))) fin)
  cases x with
  | inr e =>
    exact zV_br (zcmp .ne (zcd [2, 1] (.inr e : Int32 ⊕ Nat)) 0) 2422 2410 [some (.retAddr 0), some (.ref 0), some (.ref 75), some (.ref 85), some (.int (Int32.ofNat i)), some (.int (zcd [2, 1] (.inr e : Int32 ⊕ Nat))), some (.int (zrv (.inr e))), none] [] 2 (fun f => rfl) (fun _ => out) (fun h => by rw [zcNe (zcd_n (by decide))] at h; cases h)
  | inl v =>
    refine zV_go 2417 [some (.retAddr 0), some (.ref 0), some (.ref 75), some (.ref 85), some (.int (Int32.ofNat i)), some (.int (0 : Int32)), some (.int v), none] [.int (lg_cmp v.toInt64 v.toInt64)] 8 (fun f => rfl) ?_
    exact zV_br (zcmp .eq (lg_cmp v.toInt64 v.toInt64) 0) 2422 2420 [some (.retAddr 0), some (.ref 0), some (.ref 75), some (.ref 85), some (.int (Int32.ofNat i)), some (.int (0 : Int32)), some (.int v), none] [] 1 (fun f => rfl) (fun _ => out) (fun h => by rw [zcLE] at h; cases h)
theorem cs_fault {n i : Nat} {sf : Nat → Int32} {S : zSs} {X : zXt} {c0 : Int32} {K : zKt} {I : zIt} {A : zAt} {w : Nat → Int64} {p : Nat × Nat} {Q : Option Value → Nat × Nat → zH → Prop} (hn : i + 7 ≤ n) (hn2 : n ≤ 3584) (hw : zSw S) (hX : zXw X) (hC : zCA S X K) (hR : zRA S X c0 I A) (H : ∀ S' X' K' I' A' w' p' c', zSw S' → zXw X' → zCA S' X' K' → zRA S' X' c' I' A' → p'.1 ≤ p.1 + 1 → p'.2 ≤ p.2 + 6 → zV (some (n, sf)) zm_285 2674 [some (.retAddr 0), some (.ref 0), some (.ref 75), some (.ref 85), some (.int (Int32.ofNat i)), none, none, none] [] p' (zh K' I' A' w') Q) : zV (some (n, sf)) zm_285 2438 [some (.retAddr 0), some (.ref 0), some (.ref 75), some (.ref 85), some (.int (Int32.ofNat i)), none, none, none] [] p (zh K I A w) Q := by
  refine zV_go 2444 [some (.retAddr 0), some (.ref 0), some (.ref 75), some (.ref 85), some (.int (Int32.ofNat i)), none, none, none] [.int (Int32.ofNat i + (1 : Int32)), .retAddr 0, .ref 0] 5 (fun f => rfl) ?_
  refine zV_scr (j := i + 1) rfl (zN_a rfl rfl) (by omega) hn2 ?_
  refine zV_go 2446 [some (.retAddr 0), some (.ref 0), some (.ref 75), some (.ref 85), some (.int (Int32.ofNat i)), none, none, none] [.ref 85, .int (sf (i + 1)), .ref 0] 1 (fun f => rfl) ?_
  refine zV_cw rfl rfl rfl rfl (w274 (S' := S) (X' := X) (x := (zt_fault X (sf (i + 1)))) (K_fault hX hC) g_fault (fun K1 hC1 => ?_))
  refine zV_go 2457 [some (.retAddr 0), some (.ref 0), some (.ref 75), some (.ref 85), some (.int (Int32.ofNat i)), some (.int (zcd [2] (zt_fault X (sf (i + 1))))), none, none] [.int (Int32.ofNat i + (1 : Int32)), .retAddr 0, .ref 75] 6 (fun f => rfl) ?_
  refine zV_scr (j := i + 1) rfl (zN_a rfl rfl) (by omega) hn2 ?_
  refine zV_cl rfl rfl rfl rfl (zT_mono (R_fault hX hR) (fun r h' q => ?_))
  obtain ⟨rfl, I1, A1, hR1, rfl⟩ := q
  refine ⟨_, rfl, ?_⟩
  have fin := H S X K1 I1 A1 (zow w (zt_fault X (sf (i + 1)))) (zpx' p (zt_fault X (sf (i + 1)))) _ hw hX hC1 hR1 (zpx_b p (zt_fault X (sf (i + 1)))).1 (zpx_b p (zt_fault X (sf (i + 1)))).2
  have hz := True.intro
  clear H
  generalize (zt_fault X (sf (i + 1))) = x at *
  refine zV_go 2464 [some (.retAddr 0), some (.ref 0), some (.ref 75), some (.ref 85), some (.int (Int32.ofNat i)), some (.int (zcd [2] x)), some (.int (zrv x)), none] [.ref 75] 2 (fun f => rfl) ?_
  refine zV_cl rfl rfl rfl rfl (zT_mono (R_thrown hR1) (fun r h' q => ?_))
  obtain ⟨rfl, rfl⟩ := q
  refine ⟨_, rfl, ?_⟩
  refine zV_br (zcmp .eq (zcd [2] x) (zcd [2] x)) 2474 2472 [some (.retAddr 0), some (.ref 0), some (.ref 75), some (.ref 85), some (.int (Int32.ofNat i)), some (.int (zcd [2] x)), some (.int (zrv x)), none] [] 2 (fun f => rfl) (fun _ => ?_) (fun h => by rw [zcE] at h; cases h)
  have out : zV (some (n, sf)) zm_285 2491 [some (.retAddr 0), some (.ref 0), some (.ref 75), some (.ref 85), some (.int (Int32.ofNat i)), some (.int (zcd [2] x)), some (.int (zrv x)), none] [] (zpx' p x) (zh K1 I1 A1 (zow w x)) Q := zV_go 2674 [some (.retAddr 0), some (.ref 0), some (.ref 75), some (.ref 85), some (.int (Int32.ofNat i)), some (.int (zcd [2] x)), some (.int (zrv x)), none] [] 1 (fun f => rfl) (zV_fg (zle_s _ (zle_s _ (zle_s _ (zle_s _ (zle_s _ (zle_n _ (zle_n _ (zle_n _ zle_nil)))))))) fin)
  cases x with
  | inr e =>
    exact zV_br (zcmp .ne (zcd [2] (.inr e : Int32 ⊕ Nat)) 0) 2491 2479 [some (.retAddr 0), some (.ref 0), some (.ref 75), some (.ref 85), some (.int (Int32.ofNat i)), some (.int (zcd [2] (.inr e : Int32 ⊕ Nat))), some (.int (zrv (.inr e))), none] [] 2 (fun f => rfl) (fun _ => out) (fun h => by rw [zcNe (zcd_n (by decide))] at h; cases h)
  | inl v =>
    refine zV_go 2486 [some (.retAddr 0), some (.ref 0), some (.ref 75), some (.ref 85), some (.int (Int32.ofNat i)), some (.int (0 : Int32)), some (.int v), none] [.int (lg_cmp v.toInt64 v.toInt64)] 8 (fun f => rfl) ?_
    exact zV_br (zcmp .eq (lg_cmp v.toInt64 v.toInt64) 0) 2491 2489 [some (.retAddr 0), some (.ref 0), some (.ref 75), some (.ref 85), some (.int (Int32.ofNat i)), some (.int (0 : Int32)), some (.int v), none] [] 1 (fun f => rfl) (fun _ => out) (fun h => by rw [zcLE] at h; cases h)
theorem cs_parse {n i : Nat} {sf : Nat → Int32} {S : zSs} {X : zXt} {c0 : Int32} {K : zKt} {I : zIt} {A : zAt} {w : Nat → Int64} {p : Nat × Nat} {Q : Option Value → Nat × Nat → zH → Prop} (hn : i + 7 ≤ n) (hn2 : n ≤ 3584) (hw : zSw S) (hX : zXw X) (hC : zCA S X K) (hR : zRA S X c0 I A) (H : ∀ S' X' K' I' A' w' p' c', zSw S' → zXw X' → zCA S' X' K' → zRA S' X' c' I' A' → p'.1 ≤ p.1 + 1 → p'.2 ≤ p.2 + 6 → zV (some (n, sf)) zm_285 2674 [some (.retAddr 0), some (.ref 0), some (.ref 75), some (.ref 85), some (.int (Int32.ofNat i)), none, none, none] [] p' (zh K' I' A' w') Q) : zV (some (n, sf)) zm_285 2494 [some (.retAddr 0), some (.ref 0), some (.ref 75), some (.ref 85), some (.int (Int32.ofNat i)), none, none, none] [] p (zh K I A w) Q := by
  refine zV_go 2500 [some (.retAddr 0), some (.ref 0), some (.ref 75), some (.ref 85), some (.int (Int32.ofNat i)), none, none, none] [.int (Int32.ofNat i + (1 : Int32)), .retAddr 0, .ref 0] 5 (fun f => rfl) ?_
  refine zV_scr (j := i + 1) rfl (zN_a rfl rfl) (by omega) hn2 ?_
  refine zV_go 2506 [some (.retAddr 0), some (.ref 0), some (.ref 75), some (.ref 85), some (.int (Int32.ofNat i)), none, none, none] [.int (Int32.ofNat i + (2 : Int32)), .retAddr 0, .int (sf (i + 1)), .ref 0] 4 (fun f => rfl) ?_
  refine zV_scr (j := i + 2) rfl (zN_a rfl rfl) (by omega) hn2 ?_
  refine zV_go 2508 [some (.retAddr 0), some (.ref 0), some (.ref 75), some (.ref 85), some (.int (Int32.ofNat i)), none, none, none] [.ref 85, .int (sf (i + 2)), .int (sf (i + 1)), .ref 0] 1 (fun f => rfl) ?_
  refine zV_cw rfl rfl rfl rfl (w275 (S' := (zt_parse S X (sf (i + 1)) (sf (i + 2))).2.1) (X' := (zt_parse S X (sf (i + 1)) (sf (i + 2))).2.2) (x := (zt_parse S X (sf (i + 1)) (sf (i + 2))).1) (K_parse hX hC) (g_parse hw hX).2.2 (fun K1 hC1 => ?_))
  refine zV_go 2519 [some (.retAddr 0), some (.ref 0), some (.ref 75), some (.ref 85), some (.int (Int32.ofNat i)), some (.int (zcd [0, 2, 1] (zt_parse S X (sf (i + 1)) (sf (i + 2))).1)), none, none] [.int (Int32.ofNat i + (1 : Int32)), .retAddr 0, .ref 75] 6 (fun f => rfl) ?_
  refine zV_scr (j := i + 1) rfl (zN_a rfl rfl) (by omega) hn2 ?_
  refine zV_go 2525 [some (.retAddr 0), some (.ref 0), some (.ref 75), some (.ref 85), some (.int (Int32.ofNat i)), some (.int (zcd [0, 2, 1] (zt_parse S X (sf (i + 1)) (sf (i + 2))).1)), none, none] [.int (Int32.ofNat i + (2 : Int32)), .retAddr 0, .int (sf (i + 1)), .ref 75] 4 (fun f => rfl) ?_
  refine zV_scr (j := i + 2) rfl (zN_a rfl rfl) (by omega) hn2 ?_
  refine zV_cl rfl rfl rfl rfl (zT_mono (R_parse hw hX hR) (fun r h' q => ?_))
  obtain ⟨rfl, I1, A1, hR1, rfl⟩ := q
  refine ⟨_, rfl, ?_⟩
  have fin := H (zt_parse S X (sf (i + 1)) (sf (i + 2))).2.1 (zt_parse S X (sf (i + 1)) (sf (i + 2))).2.2 K1 I1 A1 (zow w (zt_parse S X (sf (i + 1)) (sf (i + 2))).1) (zpx' p (zt_parse S X (sf (i + 1)) (sf (i + 2))).1) _ (g_parse hw hX).1 (g_parse hw hX).2.1 hC1 hR1 (zpx_b p (zt_parse S X (sf (i + 1)) (sf (i + 2))).1).1 (zpx_b p (zt_parse S X (sf (i + 1)) (sf (i + 2))).1).2
  have hz := True.intro
  clear H
  generalize (zt_parse S X (sf (i + 1)) (sf (i + 2))).1 = x at *
  refine zV_go 2532 [some (.retAddr 0), some (.ref 0), some (.ref 75), some (.ref 85), some (.int (Int32.ofNat i)), some (.int (zcd [0, 2, 1] x)), some (.int (zrv x)), none] [.ref 75] 2 (fun f => rfl) ?_
  refine zV_cl rfl rfl rfl rfl (zT_mono (R_thrown hR1) (fun r h' q => ?_))
  obtain ⟨rfl, rfl⟩ := q
  refine ⟨_, rfl, ?_⟩
  refine zV_br (zcmp .eq (zcd [0, 2, 1] x) (zcd [0, 2, 1] x)) 2542 2540 [some (.retAddr 0), some (.ref 0), some (.ref 75), some (.ref 85), some (.int (Int32.ofNat i)), some (.int (zcd [0, 2, 1] x)), some (.int (zrv x)), none] [] 2 (fun f => rfl) (fun _ => ?_) (fun h => by rw [zcE] at h; cases h)
  have out : zV (some (n, sf)) zm_285 2559 [some (.retAddr 0), some (.ref 0), some (.ref 75), some (.ref 85), some (.int (Int32.ofNat i)), some (.int (zcd [0, 2, 1] x)), some (.int (zrv x)), none] [] (zpx' p x) (zh K1 I1 A1 (zow w x)) Q := zV_go 2674 [some (.retAddr 0), some (.ref 0), some (.ref 75), some (.ref 85), some (.int (Int32.ofNat i)), some (.int (zcd [0, 2, 1] x)), some (.int (zrv x)), none] [] 1 (fun f => rfl) (zV_fg (zle_s _ (zle_s _ (zle_s _ (zle_s _ (zle_s _ (zle_n _ (zle_n _ (zle_n _ zle_nil)))))))) fin)
  cases x with
  | inr e =>
    exact zV_br (zcmp .ne (zcd [0, 2, 1] (.inr e : Int32 ⊕ Nat)) 0) 2559 2547 [some (.retAddr 0), some (.ref 0), some (.ref 75), some (.ref 85), some (.int (Int32.ofNat i)), some (.int (zcd [0, 2, 1] (.inr e : Int32 ⊕ Nat))), some (.int (zrv (.inr e))), none] [] 2 (fun f => rfl) (fun _ => out) (fun h => by rw [zcNe (zcd_n (by decide))] at h; cases h)
  | inl v =>
    refine zV_go 2554 [some (.retAddr 0), some (.ref 0), some (.ref 75), some (.ref 85), some (.int (Int32.ofNat i)), some (.int (0 : Int32)), some (.int v), none] [.int (lg_cmp v.toInt64 v.toInt64)] 8 (fun f => rfl) ?_
    exact zV_br (zcmp .eq (lg_cmp v.toInt64 v.toInt64) 0) 2559 2557 [some (.retAddr 0), some (.ref 0), some (.ref 75), some (.ref 85), some (.int (Int32.ofNat i)), some (.int (0 : Int32)), some (.int v), none] [] 1 (fun f => rfl) (fun _ => out) (fun h => by rw [zcLE] at h; cases h)
theorem cs_write {n i : Nat} {sf : Nat → Int32} {S : zSs} {X : zXt} {c0 : Int32} {K : zKt} {I : zIt} {A : zAt} {w : Nat → Int64} {p : Nat × Nat} {Q : Option Value → Nat × Nat → zH → Prop} (hn : i + 7 ≤ n) (hn2 : n ≤ 3584) (hw : zSw S) (hX : zXw X) (hC : zCA S X K) (hR : zRA S X c0 I A) (H : ∀ S' X' K' I' A' w' p' c', zSw S' → zXw X' → zCA S' X' K' → zRA S' X' c' I' A' → p'.1 ≤ p.1 + 1 → p'.2 ≤ p.2 + 6 → zV (some (n, sf)) zm_285 2674 [some (.retAddr 0), some (.ref 0), some (.ref 75), some (.ref 85), some (.int (Int32.ofNat i)), none, none, none] [] p' (zh K' I' A' w') Q) : zV (some (n, sf)) zm_285 2562 [some (.retAddr 0), some (.ref 0), some (.ref 75), some (.ref 85), some (.int (Int32.ofNat i)), none, none, none] [] p (zh K I A w) Q := by
  refine zV_go 2568 [some (.retAddr 0), some (.ref 0), some (.ref 75), some (.ref 85), some (.int (Int32.ofNat i)), none, none, none] [.int (Int32.ofNat i + (1 : Int32)), .retAddr 0, .ref 0] 5 (fun f => rfl) ?_
  refine zV_scr (j := i + 1) rfl (zN_a rfl rfl) (by omega) hn2 ?_
  refine zV_go 2570 [some (.retAddr 0), some (.ref 0), some (.ref 75), some (.ref 85), some (.int (Int32.ofNat i)), none, none, none] [.ref 85, .int (sf (i + 1)), .ref 0] 1 (fun f => rfl) ?_
  refine zV_cw rfl rfl rfl rfl (w276 (S' := S) (X' := (zt_write S X (sf (i + 1))).2) (x := (zt_write S X (sf (i + 1))).1) (K_write hw hC) (g_write hw hX).2 (fun K1 hC1 => ?_))
  refine zV_go 2581 [some (.retAddr 0), some (.ref 0), some (.ref 75), some (.ref 85), some (.int (Int32.ofNat i)), some (.int (zcd [0, 1] (zt_write S X (sf (i + 1))).1)), none, none] [.int (Int32.ofNat i + (1 : Int32)), .retAddr 0, .ref 75] 6 (fun f => rfl) ?_
  refine zV_scr (j := i + 1) rfl (zN_a rfl rfl) (by omega) hn2 ?_
  refine zV_cl rfl rfl rfl rfl (zT_mono (R_write hw hR) (fun r h' q => ?_))
  obtain ⟨rfl, I1, A1, hR1, rfl⟩ := q
  refine ⟨_, rfl, ?_⟩
  have fin := H S (zt_write S X (sf (i + 1))).2 K1 I1 A1 (zow w (zt_write S X (sf (i + 1))).1) (zpx' p (zt_write S X (sf (i + 1))).1) _ hw (g_write hw hX).1 hC1 hR1 (zpx_b p (zt_write S X (sf (i + 1))).1).1 (zpx_b p (zt_write S X (sf (i + 1))).1).2
  have hz := True.intro
  clear H
  generalize (zt_write S X (sf (i + 1))).1 = x at *
  refine zV_go 2588 [some (.retAddr 0), some (.ref 0), some (.ref 75), some (.ref 85), some (.int (Int32.ofNat i)), some (.int (zcd [0, 1] x)), some (.int (zrv x)), none] [.ref 75] 2 (fun f => rfl) ?_
  refine zV_cl rfl rfl rfl rfl (zT_mono (R_thrown hR1) (fun r h' q => ?_))
  obtain ⟨rfl, rfl⟩ := q
  refine ⟨_, rfl, ?_⟩
  refine zV_br (zcmp .eq (zcd [0, 1] x) (zcd [0, 1] x)) 2598 2596 [some (.retAddr 0), some (.ref 0), some (.ref 75), some (.ref 85), some (.int (Int32.ofNat i)), some (.int (zcd [0, 1] x)), some (.int (zrv x)), none] [] 2 (fun f => rfl) (fun _ => ?_) (fun h => by rw [zcE] at h; cases h)
  have out : zV (some (n, sf)) zm_285 2615 [some (.retAddr 0), some (.ref 0), some (.ref 75), some (.ref 85), some (.int (Int32.ofNat i)), some (.int (zcd [0, 1] x)), some (.int (zrv x)), none] [] (zpx' p x) (zh K1 I1 A1 (zow w x)) Q := zV_go 2674 [some (.retAddr 0), some (.ref 0), some (.ref 75), some (.ref 85), some (.int (Int32.ofNat i)), some (.int (zcd [0, 1] x)), some (.int (zrv x)), none] [] 1 (fun f => rfl) (zV_fg (zle_s _ (zle_s _ (zle_s _ (zle_s _ (zle_s _ (zle_n _ (zle_n _ (zle_n _ zle_nil)))))))) fin)
  cases x with
  | inr e =>
    exact zV_br (zcmp .ne (zcd [0, 1] (.inr e : Int32 ⊕ Nat)) 0) 2615 2603 [some (.retAddr 0), some (.ref 0), some (.ref 75), some (.ref 85), some (.int (Int32.ofNat i)), some (.int (zcd [0, 1] (.inr e : Int32 ⊕ Nat))), some (.int (zrv (.inr e))), none] [] 2 (fun f => rfl) (fun _ => out) (fun h => by rw [zcNe (zcd_n (by decide))] at h; cases h)
  | inl v =>
    refine zV_go 2610 [some (.retAddr 0), some (.ref 0), some (.ref 75), some (.ref 85), some (.int (Int32.ofNat i)), some (.int (0 : Int32)), some (.int v), none] [.int (lg_cmp v.toInt64 v.toInt64)] 8 (fun f => rfl) ?_
    exact zV_br (zcmp .eq (lg_cmp v.toInt64 v.toInt64) 0) 2615 2613 [some (.retAddr 0), some (.ref 0), some (.ref 75), some (.ref 85), some (.int (Int32.ofNat i)), some (.int (0 : Int32)), some (.int v), none] [] 1 (fun f => rfl) (fun _ => out) (fun h => by rw [zcLE] at h; cases h)
theorem cs_written {n i : Nat} {sf : Nat → Int32} {S : zSs} {X : zXt} {c0 : Int32} {K : zKt} {I : zIt} {A : zAt} {w : Nat → Int64} {p : Nat × Nat} {Q : Option Value → Nat × Nat → zH → Prop} (hn : i + 7 ≤ n) (hn2 : n ≤ 3584) (hw : zSw S) (hX : zXw X) (hC : zCA S X K) (hR : zRA S X c0 I A) (H : ∀ S' X' K' I' A' w' p' c', zSw S' → zXw X' → zCA S' X' K' → zRA S' X' c' I' A' → p'.1 ≤ p.1 + 1 → p'.2 ≤ p.2 + 6 → zV (some (n, sf)) zm_285 2674 [some (.retAddr 0), some (.ref 0), some (.ref 75), some (.ref 85), some (.int (Int32.ofNat i)), none, none, none] [] p' (zh K' I' A' w') Q) : zV (some (n, sf)) zm_285 2618 [some (.retAddr 0), some (.ref 0), some (.ref 75), some (.ref 85), some (.int (Int32.ofNat i)), none, none, none] [] p (zh K I A w) Q := by
  refine zV_go 2624 [some (.retAddr 0), some (.ref 0), some (.ref 75), some (.ref 85), some (.int (Int32.ofNat i)), none, none, none] [.int (Int32.ofNat i + (1 : Int32)), .retAddr 0, .ref 0] 5 (fun f => rfl) ?_
  refine zV_scr (j := i + 1) rfl (zN_a rfl rfl) (by omega) hn2 ?_
  refine zV_go 2626 [some (.retAddr 0), some (.ref 0), some (.ref 75), some (.ref 85), some (.int (Int32.ofNat i)), none, none, none] [.ref 85, .int (sf (i + 1)), .ref 0] 1 (fun f => rfl) ?_
  refine zV_cw rfl rfl rfl rfl (w277 (S' := S) (X' := X) (x := (zt_written X (sf (i + 1)))) (K_written hX hC) g_written (fun K1 hC1 => ?_))
  refine zV_go 2637 [some (.retAddr 0), some (.ref 0), some (.ref 75), some (.ref 85), some (.int (Int32.ofNat i)), some (.int (zcd [0] (zt_written X (sf (i + 1))))), none, none] [.int (Int32.ofNat i + (1 : Int32)), .retAddr 0, .ref 75] 6 (fun f => rfl) ?_
  refine zV_scr (j := i + 1) rfl (zN_a rfl rfl) (by omega) hn2 ?_
  refine zV_cl rfl rfl rfl rfl (zT_mono (R_written hX hR) (fun r h' q => ?_))
  obtain ⟨rfl, I1, A1, hR1, rfl⟩ := q
  refine ⟨_, rfl, ?_⟩
  have fin := H S X K1 I1 A1 (zow w (zt_written X (sf (i + 1)))) (zpx' p (zt_written X (sf (i + 1)))) _ hw hX hC1 hR1 (zpx_b p (zt_written X (sf (i + 1)))).1 (zpx_b p (zt_written X (sf (i + 1)))).2
  have hz := True.intro
  clear H
  generalize (zt_written X (sf (i + 1))) = x at *
  refine zV_go 2644 [some (.retAddr 0), some (.ref 0), some (.ref 75), some (.ref 85), some (.int (Int32.ofNat i)), some (.int (zcd [0] x)), some (.int (zrv x)), none] [.ref 75] 2 (fun f => rfl) ?_
  refine zV_cl rfl rfl rfl rfl (zT_mono (R_thrown hR1) (fun r h' q => ?_))
  obtain ⟨rfl, rfl⟩ := q
  refine ⟨_, rfl, ?_⟩
  refine zV_br (zcmp .eq (zcd [0] x) (zcd [0] x)) 2654 2652 [some (.retAddr 0), some (.ref 0), some (.ref 75), some (.ref 85), some (.int (Int32.ofNat i)), some (.int (zcd [0] x)), some (.int (zrv x)), none] [] 2 (fun f => rfl) (fun _ => ?_) (fun h => by rw [zcE] at h; cases h)
  have out : zV (some (n, sf)) zm_285 2671 [some (.retAddr 0), some (.ref 0), some (.ref 75), some (.ref 85), some (.int (Int32.ofNat i)), some (.int (zcd [0] x)), some (.int (zrv x)), none] [] (zpx' p x) (zh K1 I1 A1 (zow w x)) Q := zV_go 2674 [some (.retAddr 0), some (.ref 0), some (.ref 75), some (.ref 85), some (.int (Int32.ofNat i)), some (.int (zcd [0] x)), some (.int (zrv x)), none] [] 1 (fun f => rfl) (zV_fg (zle_s _ (zle_s _ (zle_s _ (zle_s _ (zle_s _ (zle_n _ (zle_n _ (zle_n _ zle_nil)))))))) fin)
  cases x with
  | inr e =>
    exact zV_br (zcmp .ne (zcd [0] (.inr e : Int32 ⊕ Nat)) 0) 2671 2659 [some (.retAddr 0), some (.ref 0), some (.ref 75), some (.ref 85), some (.int (Int32.ofNat i)), some (.int (zcd [0] (.inr e : Int32 ⊕ Nat))), some (.int (zrv (.inr e))), none] [] 2 (fun f => rfl) (fun _ => out) (fun h => by rw [zcNe (zcd_n (by decide))] at h; cases h)
  | inl v =>
    refine zV_go 2666 [some (.retAddr 0), some (.ref 0), some (.ref 75), some (.ref 85), some (.int (Int32.ofNat i)), some (.int (0 : Int32)), some (.int v), none] [.int (lg_cmp v.toInt64 v.toInt64)] 8 (fun f => rfl) ?_
    exact zV_br (zcmp .eq (lg_cmp v.toInt64 v.toInt64) 0) 2671 2669 [some (.retAddr 0), some (.ref 0), some (.ref 75), some (.ref 85), some (.int (Int32.ofNat i)), some (.int (0 : Int32)), some (.int v), none] [] 1 (fun f => rfl) (fun _ => out) (fun h => by rw [zcLE] at h; cases h)
