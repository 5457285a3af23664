theorem b90u {P : zPt} {T : Nat → zX} {yc uc : Nat → Int32} {yl ul dp dw : Nat} {df : Int32} {dx : Bool} {dc : Nat → Int64} {I : zIt} {A : zAt} {w : Nat → Int64} {p : Nat × Nat} {Q : zR → zH → Prop} {a0 : Int32} (H : ((a0 < (0 : Int32) → Q (.inl (some (.int (-1 : Int32)))) (zh (P, T, (yc, yl), (uc, ul), (dc, dp, df, dw, dx)) I A w)) ∧ (¬ a0 < (0 : Int32) → ∀ k_a0, k_a0 < 2147483648 → a0 = Int32.ofNat k_a0 → (ul < 2147483648 ∧ ((ul ≤ k_a0 → Q (.inl (some (.int (-1 : Int32)))) (zh (P, T, (yc, yl), (uc, ul), (dc, dp, df, dw, dx)) I A w)) ∧ (k_a0 < ul → ((561 ≤ k_a0 → Q (.inl (some (.int (-1 : Int32)))) (zh (P, T, (yc, yl), (uc, ul), (dc, dp, df, dw, dx)) I A w)) ∧ (k_a0 < 561 → (k_a0 < 561 ∧ Q (.inl (some (.int (uc k_a0)))) (zh (P, T, (yc, yl), (uc, ul), (dc, dp, df, dw, dx)) I A w)))))))))) : zT zm_90 [.ref 71, .int a0] p (zh (P, T, (yc, yl), (uc, ul), (dc, dp, df, dw, dx)) I A w) Q := by
  change zW zm_90 0 [some (.ref 71), some (.int a0)] [] p _ Q
  refine zW_bh (zcmp .lt a0 (0 : Int32)) 30 4 [some (.ref 71), some (.int a0)] [] 2 (fun f => rfl) (fun c => ?_) (fun c => ?_)
  · have c9 : a0 < (0 : Int32) := (of_decide_eq_true c)
    replace H := H.1 c9
    refine zW_gh 31 [some (.ref 71), some (.int a0)] [.int (-1 : Int32)] 1 (fun f => rfl) ?_
    exact zW_rh (some (.int (-1 : Int32))) 1 (fun f => rfl) H
  · have c9 : ¬ a0 < (0 : Int32) := (of_decide_eq_false c)
    replace H := H.2 c9
    obtain ⟨k_a0, h_k_a0, e_k_a0⟩ := zNn c9
    replace H := H k_a0 h_k_a0 e_k_a0
    subst e_k_a0
    obtain ⟨h1, H⟩ := H
    refine zW_bh (zcmp .ge (Int32.ofNat k_a0) (Int32.ofNat ul)) 30 12 [some (.ref 71), some (.int (Int32.ofNat k_a0))] [] 4 (fun f => rfl) (fun c => ?_) (fun c => ?_)
    · have c9 : ul ≤ k_a0 := (of_decide_eq_true ((zcN_ge (a := k_a0) (b := ul) rfl rfl h_k_a0 h1).symm.trans c))
      replace H := H.1 c9
      refine zW_gh 31 [some (.ref 71), some (.int (Int32.ofNat k_a0))] [.int (-1 : Int32)] 1 (fun f => rfl) ?_
      exact zW_rh (some (.int (-1 : Int32))) 1 (fun f => rfl) H
    · have c9 : k_a0 < ul := (Nat.lt_of_not_le (of_decide_eq_false ((zcN_ge (a := k_a0) (b := ul) rfl rfl h_k_a0 h1).symm.trans c)))
      replace H := H.2 c9
      refine zW_bh (zcmp .ge (Int32.ofNat k_a0) (Int32.ofNat 561)) 30 21 [some (.ref 71), some (.int (Int32.ofNat k_a0))] [] 5 (fun f => rfl) (fun c => ?_) (fun c => ?_)
      · have c9 : 561 ≤ k_a0 := (of_decide_eq_true ((zcN_ge (a := k_a0) (b := 561) rfl rfl h_k_a0 (by decide)).symm.trans c))
        replace H := H.1 c9
        refine zW_gh 31 [some (.ref 71), some (.int (Int32.ofNat k_a0))] [.int (-1 : Int32)] 1 (fun f => rfl) ?_
        exact zW_rh (some (.int (-1 : Int32))) 1 (fun f => rfl) H
      · have c9 : k_a0 < 561 := (Nat.lt_of_not_le (of_decide_eq_false ((zcN_ge (a := k_a0) (b := 561) rfl rfl h_k_a0 (by decide)).symm.trans c)))
        replace H := H.2 c9
        refine zW_gh 26 [some (.ref 71), some (.int (Int32.ofNat k_a0))] [.int (Int32.ofNat k_a0), .ref 72] 3 (fun f => rfl) ?_
        obtain ⟨h2, H⟩ := H
        refine zW_iald rfl (by decide) rfl (by decide) rfl h2 ?_
        refine zW_gh 31 [some (.ref 71), some (.int (Int32.ofNat k_a0))] [.int (uc k_a0)] 1 (fun f => rfl) ?_
        exact zW_rh (some (.int (uc k_a0))) 1 (fun f => rfl) H
theorem s90u {P : zPt} {T : Nat → zX} {yc uc : Nat → Int32} {yl ul dp dw : Nat} {df : Int32} {dx : Bool} {dc : Nat → Int64} {I : zIt} {A : zAt} {w : Nat → Int64} {p : Nat × Nat} {Q : zR → zH → Prop} {a : Int32} (h : ul < 2147483648) (H : Q (.inl (some (.int (zcda uc ul a 561)))) (zh (P, T, (yc, yl), (uc, ul), (dc, dp, df, dw, dx)) I A w)) : zT zm_90 [.ref 71, .int a] p (zh (P, T, (yc, yl), (uc, ul), (dc, dp, df, dw, dx)) I A w) Q := by
  have go : ∀ {v : Int32}, zcda uc ul a 561 = v → Q (.inl (some (.int v))) (zh (P, T, (yc, yl), (uc, ul), (dc, dp, df, dw, dx)) I A w) := fun e => e ▸ H
  have f1 : ∀ {x : Int32}, x < 0 → decide (0 ≤ x) = false := fun h => decide_eq_false (zI_nle.mpr h)
  refine b90u ⟨fun h0 => go ?_, fun h0 k hk e => ⟨h, ?_⟩⟩
  · simp only [zcda, f1 h0, Bool.false_and, cond_false]
  · subst e
    have e1 := zcN_lt (x := Int32.ofNat k) (y := Int32.ofNat ul) rfl rfl hk h
    have e2 := zcN_lt (x := Int32.ofNat k) (y := Int32.ofNat 561) rfl rfl hk (by decide)
    simp only [zcmp] at e1 e2
    refine ⟨fun h1 => go ?_, fun h1 => ⟨fun h2 => go ?_, fun h2 => ⟨h2, go ?_⟩⟩⟩
    · simp only [zcda, e1, decide_eq_false (show ¬ k < ul by omega), Bool.and_false, Bool.false_and, cond_false]
    · simp only [zcda, e2, decide_eq_false (show ¬ k < 561 by omega), Bool.and_false, cond_false]
    · simp only [zcda, e1, e2, decide_eq_true h1, decide_eq_true h2, decide_eq_true (z0le h0), Bool.and_true, cond_true, zN_cl hk (Nat.le_refl _)]
theorem b51 {P : zPt} {T : Nat → zX} {yc uc : Nat → Int32} {yl ul dp dw : Nat} {df : Int32} {dx : Bool} {dc : Nat → Int64} {I : zIt} {A : zAt} {w : Nat → Int64} {p : Nat × Nat} {Q : zR → zH → Prop} {a0 : Int32} (H : (yl < 2147483648 ∧ (((zcda yc yl (Int32.ofNat dp) 120) = a0 → Q (.inl (some (.int (1 : Int32)))) (zh (P, T, (yc, yl), (uc, ul), (dc, (dp + 1), df, dw, dx)) I A w)) ∧ (¬ (zcda yc yl (Int32.ofNat dp) 120) = a0 → Q (.inl (some (.int (0 : Int32)))) (zh (P, T, (yc, yl), (uc, ul), (dc, dp, df, dw, dx)) I A w))))) : zT zm_51 [.ref 73, .int a0] p (zh (P, T, (yc, yl), (uc, ul), (dc, dp, df, dw, dx)) I A w) Q := by
  change zW zm_51 0 [some (.ref 73), some (.int a0)] [] p _ Q
  refine zW_gh 8 [some (.ref 73), some (.int a0)] [.int (Int32.ofNat dp), .ref 69] 4 (fun f => rfl) ?_
  obtain ⟨h1, H⟩ := H
  refine zW_cl rfl rfl rfl rfl rfl (s90y h1 ?_)
  change zW zm_51 11 [some (.ref 73), some (.int a0)] [.int (zcda yc yl (Int32.ofNat dp) 120)] p _ Q
  generalize (zcda yc yl (Int32.ofNat dp) 120) = g2 at H ⊢
  refine zW_bh (zcmp .eq g2 a0) 17 15 [some (.ref 73), some (.int a0)] [] 2 (fun f => rfl) (fun c => ?_) (fun c => ?_)
  · have c9 : g2 = a0 := (of_decide_eq_true c)
    replace H := H.1 c9
    refine zW_gh 24 [some (.ref 73), some (.int a0)] [.int ((Int32.ofNat dp) + (1 : Int32)), .ref 73] 5 (fun f => rfl) ?_
    rw [show ((Int32.ofNat dp) + (1 : Int32)) = Int32.ofNat (dp + 1) from (zN_a rfl rfl)]
    refine zW_go (pc' := 27) (L' := [some (.ref 73), some (.int a0)]) (st' := []) (h' := (va_up (zh (P, T, (yc, yl), (uc, ul), (dc, dp, df, dw, dx)) I A w) 73 (.inr (3, [.ref 69, .ref 74, .int (Int32.ofNat (dp + 1)), .int df, .int (Int32.ofNat dw), .int (zbi dx)])))) 1 (fun f => rfl) ?_
    refine zW_eq zu_73 ?_
    refine zW_gh 28 [some (.ref 73), some (.int a0)] [.int (1 : Int32)] 1 (fun f => rfl) ?_
    exact zW_rh (some (.int (1 : Int32))) 1 (fun f => rfl) H
  · have c9 : ¬ g2 = a0 := (of_decide_eq_false c)
    replace H := H.2 c9
    refine zW_gh 16 [some (.ref 73), some (.int a0)] [.int (0 : Int32)] 1 (fun f => rfl) ?_
    exact zW_rh (some (.int (0 : Int32))) 1 (fun f => rfl) H
theorem b50 {P : zPt} {T : Nat → zX} {yc uc : Nat → Int32} {yl ul dp dw : Nat} {df : Int32} {dx : Bool} {dc : Nat → Int64} {I : zIt} {A : zAt} {w : Nat → Int64} {p : Nat × Nat} {Q : zR → zH → Prop} {a0 : Int32} (H : zT zm_51 [.ref 73, .int a0] p (zh (P, T, (yc, yl), (uc, ul), (dc, dp, df, dw, dx)) I A w) (zK zm_50 5 [some (.ref 73), none] [] p Q)) : zT zm_50 [.ref 73, .int a0] p (zh (P, T, (yc, yl), (uc, ul), (dc, dp, df, dw, dx)) I A w) Q := by
  change zW zm_50 0 [some (.ref 73), some (.int a0)] [] p _ Q
  refine zW_gh 2 [some (.ref 73), some (.int a0)] [.int a0, .ref 73] 2 (fun f => rfl) ?_
  refine zW_fg (L' := [some (.ref 73), none]) (zle_s _ (zle_n _ zle_nil)) ?_
  exact zW_cl rfl rfl rfl rfl rfl H
theorem b50_5 {P : zPt} {T : Nat → zX} {yc uc : Nat → Int32} {yl ul dp dw : Nat} {df : Int32} {dx : Bool} {dc : Nat → Int64} {I : zIt} {A : zAt} {w : Nat → Int64} {p : Nat × Nat} {Q : zR → zH → Prop} {rv : Bool} (H : ((rv = true → Q (.inl none) (zh (P, T, (yc, yl), (uc, ul), (dc, dp, df, dw, dx)) I A w)) ∧ (rv = false → Q (.inl none) (zh (P, T, (yc, yl), (uc, ul), (dc, dp, (bif decide (df = -1) then (Int32.ofNat dp) else df), dw, dx)) I A w)))) : zW zm_50 5 [some (.ref 73), none] [.int (zbi rv)] p (zh (P, T, (yc, yl), (uc, ul), (dc, dp, df, dw, dx)) I A w) Q := by
  refine zW_bh (zcmp .ne (zbi rv) (0 : Int32)) 16 8 [some (.ref 73), none] [] 1 (fun f => rfl) (fun c => ?_) (fun c => ?_)
  · have c9 : rv = true := ((zcB_ne _).symm.trans c)
    replace H := H.1 c9
    exact zW_rh none 1 (fun f => rfl) H
  · have c9 : rv = false := ((zcB_ne _).symm.trans c)
    replace H := H.2 c9
    refine zW_gh 13 [some (.ref 73), none] [.int (Int32.ofNat dp), .ref 73] 3 (fun f => rfl) ?_
    refine zW_cl rfl rfl rfl rfl rfl (s52 ?_)
    change zW zm_50 16 [some (.ref 73), none] [] p _ Q
    exact zW_rh none 1 (fun f => rfl) H
theorem b56 {P : zPt} {T : Nat → zX} {yc uc : Nat → Int32} {yl ul dp dw : Nat} {df : Int32} {dx : Bool} {dc : Nat → Int64} {I : zIt} {A : zAt} {w : Nat → Int64} {p : Nat × Nat} {Q : zR → zH → Prop} (H : (yl < 2147483648 ∧ (((zcda yc yl (Int32.ofNat dp) 120) < (48 : Int32) → Q (.inl (some (.int (0 : Int32)))) (zh (P, T, (yc, yl), (uc, ul), (dc, dp, df, dw, dx)) I A w)) ∧ (¬ (zcda yc yl (Int32.ofNat dp) 120) < (48 : Int32) → (((57 : Int32) < (zcda yc yl (Int32.ofNat dp) 120) → Q (.inl (some (.int (0 : Int32)))) (zh (P, T, (yc, yl), (uc, ul), (dc, dp, df, dw, dx)) I A w)) ∧ (¬ (57 : Int32) < (zcda yc yl (Int32.ofNat dp) 120) → Q (.inl (some (.int (1 : Int32)))) (zh (P, T, (yc, yl), (uc, ul), (dc, dp, df, dw, dx)) I A w))))))) : zT zm_56 [.ref 73] p (zh (P, T, (yc, yl), (uc, ul), (dc, dp, df, dw, dx)) I A w) Q := by
  change zW zm_56 0 [some (.ref 73), none] [] p _ Q
  refine zW_gh 8 [some (.ref 73), none] [.int (Int32.ofNat dp), .ref 69] 4 (fun f => rfl) ?_
  obtain ⟨h1, H⟩ := H
  refine zW_cl rfl rfl rfl rfl rfl (s90y h1 ?_)
  change zW zm_56 11 [some (.ref 73), none] [.int (zcda yc yl (Int32.ofNat dp) 120)] p _ Q
  generalize (zcda yc yl (Int32.ofNat dp) 120) = g2 at H ⊢
  refine zW_bh (zcmp .lt g2 (48 : Int32)) 28 18 [some (.ref 73), some (.int g2)] [] 4 (fun f => rfl) (fun c => ?_) (fun c => ?_)
  · have c9 : g2 < (48 : Int32) := (of_decide_eq_true c)
    replace H := H.1 c9
    refine zW_gh 29 [some (.ref 73), some (.int g2)] [.int (0 : Int32)] 1 (fun f => rfl) ?_
    exact zW_rh (some (.int (0 : Int32))) 1 (fun f => rfl) H
  · have c9 : ¬ g2 < (48 : Int32) := (of_decide_eq_false c)
    replace H := H.2 c9
    refine zW_bh (zcmp .gt g2 (57 : Int32)) 28 24 [some (.ref 73), some (.int g2)] [] 3 (fun f => rfl) (fun c => ?_) (fun c => ?_)
    · have c9 : (57 : Int32) < g2 := (of_decide_eq_true c)
      replace H := H.1 c9
      refine zW_gh 29 [some (.ref 73), some (.int g2)] [.int (0 : Int32)] 1 (fun f => rfl) ?_
      exact zW_rh (some (.int (0 : Int32))) 1 (fun f => rfl) H
    · have c9 : ¬ (57 : Int32) < g2 := (of_decide_eq_false c)
      replace H := H.2 c9
      refine zW_gh 29 [some (.ref 73), some (.int g2)] [.int (1 : Int32)] 2 (fun f => rfl) ?_
      exact zW_rh (some (.int (1 : Int32))) 1 (fun f => rfl) H
theorem b57 {P : zPt} {T : Nat → zX} {yc uc : Nat → Int32} {yl ul dp dw : Nat} {df : Int32} {dx : Bool} {dc : Nat → Int64} {I : zIt} {A : zAt} {w : Nat → Int64} {p : Nat × Nat} {Q : zR → zH → Prop} {a0 : Int32} (H : (yl < 2147483648 ∧ ((((zcda yc yl (Int32.ofNat dp) 120) - (48 : Int32)) < (0 : Int32) → Q (.inl (some (.int (0 : Int32)))) (zh (P, T, (yc, yl), (uc, ul), (dc, dp, (bif decide (df = -1) then (Int32.ofNat dp) else df), dw, dx)) I A w)) ∧ (¬ ((zcda yc yl (Int32.ofNat dp) 120) - (48 : Int32)) < (0 : Int32) → ((((zcda yc yl (Int32.ofNat dp) 120) - (48 : Int32)) ≤ a0 → Q (.inl (some (.int ((zcda yc yl (Int32.ofNat dp) 120) - (48 : Int32))))) (zh (P, T, (yc, yl), (uc, ul), (dc, (dp + 1), df, dw, dx)) I A w)) ∧ (¬ ((zcda yc yl (Int32.ofNat dp) 120) - (48 : Int32)) ≤ a0 → Q (.inl (some (.int (0 : Int32)))) (zh (P, T, (yc, yl), (uc, ul), (dc, dp, (bif decide (df = -1) then (Int32.ofNat dp) else df), dw, dx)) I A w))))))) : zT zm_57 [.ref 73, .int a0] p (zh (P, T, (yc, yl), (uc, ul), (dc, dp, df, dw, dx)) I A w) Q := by
  change zW zm_57 0 [some (.ref 73), some (.int a0), none] [] p _ Q
  refine zW_gh 8 [some (.ref 73), some (.int a0), none] [.int (Int32.ofNat dp), .ref 69] 4 (fun f => rfl) ?_
  obtain ⟨h1, H⟩ := H
  refine zW_cl rfl rfl rfl rfl rfl (s90y h1 ?_)
  change zW zm_57 11 [some (.ref 73), some (.int a0), none] [.int (zcda yc yl (Int32.ofNat dp) 120)] p _ Q
  generalize (zcda yc yl (Int32.ofNat dp) 120) = g2 at H ⊢
  refine zW_bh (zcmp .lt (g2 - (48 : Int32)) (0 : Int32)) 24 19 [some (.ref 73), some (.int a0), some (.int (g2 - (48 : Int32)))] [] 5 (fun f => rfl) (fun c => ?_) (fun c => ?_)
  · have c9 : (g2 - (48 : Int32)) < (0 : Int32) := (of_decide_eq_true c)
    replace H := H.1 c9
    refine zW_gh 29 [some (.ref 73), some (.int a0), some (.int (g2 - (48 : Int32)))] [.int (Int32.ofNat dp), .ref 73] 3 (fun f => rfl) ?_
    refine zW_cl rfl rfl rfl rfl rfl (s52 ?_)
    change zW zm_57 32 [some (.ref 73), some (.int a0), some (.int (g2 - (48 : Int32)))] [] p _ Q
    refine zW_gh 33 [some (.ref 73), some (.int a0), some (.int (g2 - (48 : Int32)))] [.int (0 : Int32)] 1 (fun f => rfl) ?_
    exact zW_rh (some (.int (0 : Int32))) 1 (fun f => rfl) H
  · have c9 : ¬ (g2 - (48 : Int32)) < (0 : Int32) := (of_decide_eq_false c)
    replace H := H.2 c9
    refine zW_bh (zcmp .le (g2 - (48 : Int32)) a0) 34 24 [some (.ref 73), some (.int a0), some (.int (g2 - (48 : Int32)))] [] 3 (fun f => rfl) (fun c => ?_) (fun c => ?_)
    · have c9 : (g2 - (48 : Int32)) ≤ a0 := (of_decide_eq_true c)
      replace H := H.1 c9
      refine zW_gh 41 [some (.ref 73), some (.int a0), some (.int (g2 - (48 : Int32)))] [.int ((Int32.ofNat dp) + (1 : Int32)), .ref 73] 5 (fun f => rfl) ?_
      rw [show ((Int32.ofNat dp) + (1 : Int32)) = Int32.ofNat (dp + 1) from (zN_a rfl rfl)]
      refine zW_go (pc' := 44) (L' := [some (.ref 73), some (.int a0), some (.int (g2 - (48 : Int32)))]) (st' := []) (h' := (va_up (zh (P, T, (yc, yl), (uc, ul), (dc, dp, df, dw, dx)) I A w) 73 (.inr (3, [.ref 69, .ref 74, .int (Int32.ofNat (dp + 1)), .int df, .int (Int32.ofNat dw), .int (zbi dx)])))) 1 (fun f => rfl) ?_
      refine zW_eq zu_73 ?_
      refine zW_gh 45 [some (.ref 73), some (.int a0), some (.int (g2 - (48 : Int32)))] [.int (g2 - (48 : Int32))] 1 (fun f => rfl) ?_
      exact zW_rh (some (.int (g2 - (48 : Int32)))) 1 (fun f => rfl) H
    · have c9 : ¬ (g2 - (48 : Int32)) ≤ a0 := (of_decide_eq_false c)
      replace H := H.2 c9
      refine zW_gh 29 [some (.ref 73), some (.int a0), some (.int (g2 - (48 : Int32)))] [.int (Int32.ofNat dp), .ref 73] 3 (fun f => rfl) ?_
      refine zW_cl rfl rfl rfl rfl rfl (s52 ?_)
      change zW zm_57 32 [some (.ref 73), some (.int a0), some (.int (g2 - (48 : Int32)))] [] p _ Q
      refine zW_gh 33 [some (.ref 73), some (.int a0), some (.int (g2 - (48 : Int32)))] [.int (0 : Int32)] 1 (fun f => rfl) ?_
      exact zW_rh (some (.int (0 : Int32))) 1 (fun f => rfl) H
theorem b55 {P : zPt} {T : Nat → zX} {yc uc : Nat → Int32} {yl ul dp dw : Nat} {df : Int32} {dx : Bool} {dc : Nat → Int64} {I : zIt} {A : zAt} {w : Nat → Int64} {p : Nat × Nat} {Q : zR → zH → Prop} {a0 a1 : Int32} (H : zW zm_55 11 [some (.ref 73), some (.int a0), some (.int a1), some (.int (Int32.ofNat dp)), some (.long (0 : Int64)), none, some (.int (Int32.ofNat 0))] [] p (zh (P, T, (yc, yl), (uc, ul), (dc, dp, df, dw, dx)) I A w) Q) : zT zm_55 [.ref 73, .int a0, .int a1] p (zh (P, T, (yc, yl), (uc, ul), (dc, dp, df, dw, dx)) I A w) Q := by
  change zW zm_55 0 [some (.ref 73), some (.int a0), some (.int a1), none, none, none, none] [] p _ Q
  refine zW_gh 11 [some (.ref 73), some (.int a0), some (.int a1), some (.int (Int32.ofNat dp)), some (.long (0 : Int64)), none, some (.int (0 : Int32))] [] 7 (fun f => rfl) ?_
  exact H
theorem b55_11 {P : zPt} {T : Nat → zX} {yc uc : Nat → Int32} {yl ul dp dw : Nat} {df : Int32} {dx : Bool} {dc : Nat → Int64} {I : zIt} {A : zAt} {w : Nat → Int64} {p : Nat × Nat} {Q : zR → zH → Prop} {x3 x6 : Nat} {x1 x2 : Int32} {x4 : Int64} (H : ((x1 < (Int32.ofNat x6) → (dp < 2147483648 ∧ (x3 < 2147483648 ∧ ((dp = x3 → Q (.inl (some (.long x4))) (zh (P, T, (yc, yl), (uc, ul), (dc, dp, (bif decide (df = -1) then (Int32.ofNat x3) else df), dw, dx)) I A w)) ∧ (¬ dp = x3 → ((x1 < ((Int32.ofNat dp) - (Int32.ofNat x3)) → Q (.inl (some (.long x4))) (zh (P, T, (yc, yl), (uc, ul), (dc, dp, (bif decide (df = -1) then (Int32.ofNat x3) else df), dw, dx)) I A w)) ∧ (¬ x1 < ((Int32.ofNat dp) - (Int32.ofNat x3)) → ((x4 ≤ ((x2).toInt64) → Q (.inl (some (.long x4))) (zh (P, T, (yc, yl), (uc, ul), (dc, dp, df, dw, dx)) I A w)) ∧ (¬ x4 ≤ ((x2).toInt64) → Q (.inl (some (.long x4))) (zh (P, T, (yc, yl), (uc, ul), (dc, dp, (bif decide (df = -1) then (Int32.ofNat x3) else df), dw, dx)) I A w)))))))))) ∧ (¬ x1 < (Int32.ofNat x6) → zT zm_56 [.ref 73] p (zh (P, T, (yc, yl), (uc, ul), (dc, dp, df, dw, dx)) I A w) (zK zm_55 21 [some (.ref 73), some (.int x1), some (.int x2), some (.int (Int32.ofNat x3)), some (.long x4), none, some (.int (Int32.ofNat x6))] [] p Q)))) : zW zm_55 11 [some (.ref 73), some (.int x1), some (.int x2), some (.int (Int32.ofNat x3)), some (.long x4), none, some (.int (Int32.ofNat x6))] [] p (zh (P, T, (yc, yl), (uc, ul), (dc, dp, df, dw, dx)) I A w) Q := by
  refine zW_bh (zcmp .gt (Int32.ofNat x6) x1) 46 17 [some (.ref 73), some (.int x1), some (.int x2), some (.int (Int32.ofNat x3)), some (.long x4), none, some (.int (Int32.ofNat x6))] [] 3 (fun f => rfl) (fun c => ?_) (fun c => ?_)
  · have c9 : x1 < (Int32.ofNat x6) := (of_decide_eq_true c)
    replace H := H.1 c9
    obtain ⟨h1, H⟩ := H
    obtain ⟨h2, H⟩ := H
    refine zW_bh (zcmp .eq (Int32.ofNat dp) (Int32.ofNat x3)) 72 54 [some (.ref 73), some (.int x1), some (.int x2), some (.int (Int32.ofNat x3)), some (.long x4), none, some (.int (Int32.ofNat x6))] [] 4 (fun f => rfl) (fun c => ?_) (fun c => ?_)
    · have c9 : dp = x3 := (of_decide_eq_true ((zcN_eq (a := dp) (b := x3) rfl rfl h1 h2).symm.trans c))
      replace H := H.1 c9
      refine zW_gh 74 [some (.ref 73), some (.int x1), some (.int x2), some (.int (Int32.ofNat x3)), some (.long x4), none, some (.int (Int32.ofNat x6))] [.int (Int32.ofNat x3), .ref 73] 2 (fun f => rfl) ?_
      refine zW_cl rfl rfl rfl rfl rfl (s52 ?_)
      change zW zm_55 77 [some (.ref 73), some (.int x1), some (.int x2), some (.int (Int32.ofNat x3)), some (.long x4), none, some (.int (Int32.ofNat x6))] [] p _ Q
      refine zW_gh 79 [some (.ref 73), some (.int x1), some (.int x2), some (.int (Int32.ofNat x3)), some (.long x4), none, some (.int (Int32.ofNat x6))] [.long x4] 1 (fun f => rfl) ?_
      exact zW_rh (some (.long x4)) 1 (fun f => rfl) H
    · have c9 : ¬ dp = x3 := (of_decide_eq_false ((zcN_eq (a := dp) (b := x3) rfl rfl h1 h2).symm.trans c))
      replace H := H.2 c9
      refine zW_bh (zcmp .gt ((Int32.ofNat dp) - (Int32.ofNat x3)) x1) 72 64 [some (.ref 73), some (.int x1), some (.int x2), some (.int (Int32.ofNat x3)), some (.long x4), none, some (.int (Int32.ofNat x6))] [] 6 (fun f => rfl) (fun c => ?_) (fun c => ?_)
      · have c9 : x1 < ((Int32.ofNat dp) - (Int32.ofNat x3)) := (of_decide_eq_true c)
        replace H := H.1 c9
        refine zW_gh 74 [some (.ref 73), some (.int x1), some (.int x2), some (.int (Int32.ofNat x3)), some (.long x4), none, some (.int (Int32.ofNat x6))] [.int (Int32.ofNat x3), .ref 73] 2 (fun f => rfl) ?_
        refine zW_cl rfl rfl rfl rfl rfl (s52 ?_)
        change zW zm_55 77 [some (.ref 73), some (.int x1), some (.int x2), some (.int (Int32.ofNat x3)), some (.long x4), none, some (.int (Int32.ofNat x6))] [] p _ Q
        refine zW_gh 79 [some (.ref 73), some (.int x1), some (.int x2), some (.int (Int32.ofNat x3)), some (.long x4), none, some (.int (Int32.ofNat x6))] [.long x4] 1 (fun f => rfl) ?_
        exact zW_rh (some (.long x4)) 1 (fun f => rfl) H
      · have c9 : ¬ x1 < ((Int32.ofNat dp) - (Int32.ofNat x3)) := (of_decide_eq_false c)
        replace H := H.2 c9
        refine zW_bh (zcmp .le (lg_cmp x4 ((x2).toInt64)) (0 : Int32)) 77 72 [some (.ref 73), some (.int x1), some (.int x2), some (.int (Int32.ofNat x3)), some (.long x4), none, some (.int (Int32.ofNat x6))] [] 5 (fun f => rfl) (fun c => ?_) (fun c => ?_)
        · have c9 : x4 ≤ ((x2).toInt64) := (of_decide_eq_true ((zcL_le _ _).symm.trans c))
          replace H := H.1 c9
          refine zW_gh 79 [some (.ref 73), some (.int x1), some (.int x2), some (.int (Int32.ofNat x3)), some (.long x4), none, some (.int (Int32.ofNat x6))] [.long x4] 1 (fun f => rfl) ?_
          exact zW_rh (some (.long x4)) 1 (fun f => rfl) H
        · have c9 : ¬ x4 ≤ ((x2).toInt64) := (of_decide_eq_false ((zcL_le _ _).symm.trans c))
          replace H := H.2 c9
          refine zW_gh 74 [some (.ref 73), some (.int x1), some (.int x2), some (.int (Int32.ofNat x3)), some (.long x4), none, some (.int (Int32.ofNat x6))] [.int (Int32.ofNat x3), .ref 73] 2 (fun f => rfl) ?_
          refine zW_cl rfl rfl rfl rfl rfl (s52 ?_)
          change zW zm_55 77 [some (.ref 73), some (.int x1), some (.int x2), some (.int (Int32.ofNat x3)), some (.long x4), none, some (.int (Int32.ofNat x6))] [] p _ Q
          refine zW_gh 79 [some (.ref 73), some (.int x1), some (.int x2), some (.int (Int32.ofNat x3)), some (.long x4), none, some (.int (Int32.ofNat x6))] [.long x4] 1 (fun f => rfl) ?_
          exact zW_rh (some (.long x4)) 1 (fun f => rfl) H
  · have c9 : ¬ x1 < (Int32.ofNat x6) := (of_decide_eq_false c)
    replace H := H.2 c9
    refine zW_gh 18 [some (.ref 73), some (.int x1), some (.int x2), some (.int (Int32.ofNat x3)), some (.long x4), none, some (.int (Int32.ofNat x6))] [.ref 73] 1 (fun f => rfl) ?_
    exact zW_cl rfl rfl rfl rfl rfl H
theorem b55_21 {P : zPt} {T : Nat → zX} {yc uc : Nat → Int32} {yl ul dp dw : Nat} {df : Int32} {dx : Bool} {dc : Nat → Int64} {I : zIt} {A : zAt} {w : Nat → Int64} {p : Nat × Nat} {Q : zR → zH → Prop} {x3 x6 : Nat} {x1 x2 : Int32} {rv : Bool} {x4 : Int64} (H : ((rv = false → (dp < 2147483648 ∧ (x3 < 2147483648 ∧ ((dp = x3 → Q (.inl (some (.long x4))) (zh (P, T, (yc, yl), (uc, ul), (dc, dp, (bif decide (df = -1) then (Int32.ofNat x3) else df), dw, dx)) I A w)) ∧ (¬ dp = x3 → ((x1 < ((Int32.ofNat dp) - (Int32.ofNat x3)) → Q (.inl (some (.long x4))) (zh (P, T, (yc, yl), (uc, ul), (dc, dp, (bif decide (df = -1) then (Int32.ofNat x3) else df), dw, dx)) I A w)) ∧ (¬ x1 < ((Int32.ofNat dp) - (Int32.ofNat x3)) → ((x4 ≤ ((x2).toInt64) → Q (.inl (some (.long x4))) (zh (P, T, (yc, yl), (uc, ul), (dc, dp, df, dw, dx)) I A w)) ∧ (¬ x4 ≤ ((x2).toInt64) → Q (.inl (some (.long x4))) (zh (P, T, (yc, yl), (uc, ul), (dc, dp, (bif decide (df = -1) then (Int32.ofNat x3) else df), dw, dx)) I A w)))))))))) ∧ (rv = true → zT zm_57 [.ref 73, .int (9 : Int32)] p (zh (P, T, (yc, yl), (uc, ul), (dc, dp, df, dw, dx)) I A w) (zK zm_55 36 [some (.ref 73), some (.int x1), some (.int x2), some (.int (Int32.ofNat x3)), none, none, some (.int (Int32.ofNat x6))] [.long (x4 * (10 : Int64))] p Q)))) : zW zm_55 21 [some (.ref 73), some (.int x1), some (.int x2), some (.int (Int32.ofNat x3)), some (.long x4), none, some (.int (Int32.ofNat x6))] [.int (zbi rv)] p (zh (P, T, (yc, yl), (uc, ul), (dc, dp, df, dw, dx)) I A w) Q := by
  refine zW_bh (zcmp .eq (zbi rv) (0 : Int32)) 46 24 [some (.ref 73), some (.int x1), some (.int x2), some (.int (Int32.ofNat x3)), some (.long x4), none, some (.int (Int32.ofNat x6))] [] 1 (fun f => rfl) (fun c => ?_) (fun c => ?_)
  · have c9 : rv = false := ((Bool.not_eq_true' _).mp ((zcB_eq _).symm.trans c))
    replace H := H.1 c9
    obtain ⟨h1, H⟩ := H
    obtain ⟨h2, H⟩ := H
    refine zW_bh (zcmp .eq (Int32.ofNat dp) (Int32.ofNat x3)) 72 54 [some (.ref 73), some (.int x1), some (.int x2), some (.int (Int32.ofNat x3)), some (.long x4), none, some (.int (Int32.ofNat x6))] [] 4 (fun f => rfl) (fun c => ?_) (fun c => ?_)
    · have c9 : dp = x3 := (of_decide_eq_true ((zcN_eq (a := dp) (b := x3) rfl rfl h1 h2).symm.trans c))
      replace H := H.1 c9
      refine zW_gh 74 [some (.ref 73), some (.int x1), some (.int x2), some (.int (Int32.ofNat x3)), some (.long x4), none, some (.int (Int32.ofNat x6))] [.int (Int32.ofNat x3), .ref 73] 2 (fun f => rfl) ?_
      refine zW_cl rfl rfl rfl rfl rfl (s52 ?_)
      change zW zm_55 77 [some (.ref 73), some (.int x1), some (.int x2), some (.int (Int32.ofNat x3)), some (.long x4), none, some (.int (Int32.ofNat x6))] [] p _ Q
      refine zW_gh 79 [some (.ref 73), some (.int x1), some (.int x2), some (.int (Int32.ofNat x3)), some (.long x4), none, some (.int (Int32.ofNat x6))] [.long x4] 1 (fun f => rfl) ?_
      exact zW_rh (some (.long x4)) 1 (fun f => rfl) H
    · have c9 : ¬ dp = x3 := (of_decide_eq_false ((zcN_eq (a := dp) (b := x3) rfl rfl h1 h2).symm.trans c))
      replace H := H.2 c9
      refine zW_bh (zcmp .gt ((Int32.ofNat dp) - (Int32.ofNat x3)) x1) 72 64 [some (.ref 73), some (.int x1), some (.int x2), some (.int (Int32.ofNat x3)), some (.long x4), none, some (.int (Int32.ofNat x6))] [] 6 (fun f => rfl) (fun c => ?_) (fun c => ?_)
      · have c9 : x1 < ((Int32.ofNat dp) - (Int32.ofNat x3)) := (of_decide_eq_true c)
        replace H := H.1 c9
        refine zW_gh 74 [some (.ref 73), some (.int x1), some (.int x2), some (.int (Int32.ofNat x3)), some (.long x4), none, some (.int (Int32.ofNat x6))] [.int (Int32.ofNat x3), .ref 73] 2 (fun f => rfl) ?_
        refine zW_cl rfl rfl rfl rfl rfl (s52 ?_)
        change zW zm_55 77 [some (.ref 73), some (.int x1), some (.int x2), some (.int (Int32.ofNat x3)), some (.long x4), none, some (.int (Int32.ofNat x6))] [] p _ Q
        refine zW_gh 79 [some (.ref 73), some (.int x1), some (.int x2), some (.int (Int32.ofNat x3)), some (.long x4), none, some (.int (Int32.ofNat x6))] [.long x4] 1 (fun f => rfl) ?_
        exact zW_rh (some (.long x4)) 1 (fun f => rfl) H
      · have c9 : ¬ x1 < ((Int32.ofNat dp) - (Int32.ofNat x3)) := (of_decide_eq_false c)
        replace H := H.2 c9
        refine zW_bh (zcmp .le (lg_cmp x4 ((x2).toInt64)) (0 : Int32)) 77 72 [some (.ref 73), some (.int x1), some (.int x2), some (.int (Int32.ofNat x3)), some (.long x4), none, some (.int (Int32.ofNat x6))] [] 5 (fun f => rfl) (fun c => ?_) (fun c => ?_)
        · have c9 : x4 ≤ ((x2).toInt64) := (of_decide_eq_true ((zcL_le _ _).symm.trans c))
          replace H := H.1 c9
          refine zW_gh 79 [some (.ref 73), some (.int x1), some (.int x2), some (.int (Int32.ofNat x3)), some (.long x4), none, some (.int (Int32.ofNat x6))] [.long x4] 1 (fun f => rfl) ?_
          exact zW_rh (some (.long x4)) 1 (fun f => rfl) H
        · have c9 : ¬ x4 ≤ ((x2).toInt64) := (of_decide_eq_false ((zcL_le _ _).symm.trans c))
          replace H := H.2 c9
          refine zW_gh 74 [some (.ref 73), some (.int x1), some (.int x2), some (.int (Int32.ofNat x3)), some (.long x4), none, some (.int (Int32.ofNat x6))] [.int (Int32.ofNat x3), .ref 73] 2 (fun f => rfl) ?_
          refine zW_cl rfl rfl rfl rfl rfl (s52 ?_)
          change zW zm_55 77 [some (.ref 73), some (.int x1), some (.int x2), some (.int (Int32.ofNat x3)), some (.long x4), none, some (.int (Int32.ofNat x6))] [] p _ Q
          refine zW_gh 79 [some (.ref 73), some (.int x1), some (.int x2), some (.int (Int32.ofNat x3)), some (.long x4), none, some (.int (Int32.ofNat x6))] [.long x4] 1 (fun f => rfl) ?_
          exact zW_rh (some (.long x4)) 1 (fun f => rfl) H
  · have c9 : rv = true := ((Bool.not_eq_false' _).mp ((zcB_eq _).symm.trans c))
    replace H := H.2 c9
    refine zW_gh 33 [some (.ref 73), some (.int x1), some (.int x2), some (.int (Int32.ofNat x3)), some (.long x4), none, some (.int (Int32.ofNat x6))] [.int (9 : Int32), .ref 73, .long (x4 * (10 : Int64))] 5 (fun f => rfl) ?_
    refine zW_fg (L' := [some (.ref 73), some (.int x1), some (.int x2), some (.int (Int32.ofNat x3)), none, none, some (.int (Int32.ofNat x6))]) (zle_s _ (zle_s _ (zle_s _ (zle_s _ (zle_n _ (zle_s _ (zle_s _ zle_nil))))))) ?_
    exact zW_cl rfl rfl rfl rfl rfl H
theorem b55_36 {P : zPt} {T : Nat → zX} {yc uc : Nat → Int32} {yl ul dp dw : Nat} {df : Int32} {dx : Bool} {dc : Nat → Int64} {I : zIt} {A : zAt} {w : Nat → Int64} {p : Nat × Nat} {Q : zR → zH → Prop} {x3 x6 : Nat} {x1 x2 rv : Int32} {s0 : Int64} (H : zW zm_55 11 [some (.ref 73), some (.int x1), some (.int x2), some (.int (Int32.ofNat x3)), some (.long (s0 + ((rv).toInt64))), none, some (.int (Int32.ofNat (x6 + 1)))] [] p (zh (P, T, (yc, yl), (uc, ul), (dc, dp, df, dw, dx)) I A w) Q) : zW zm_55 36 [some (.ref 73), some (.int x1), some (.int x2), some (.int (Int32.ofNat x3)), none, none, some (.int (Int32.ofNat x6))] [.int rv, .long s0] p (zh (P, T, (yc, yl), (uc, ul), (dc, dp, df, dw, dx)) I A w) Q := by
  refine zW_gh 40 [some (.ref 73), some (.int x1), some (.int x2), some (.int (Int32.ofNat x3)), some (.long (s0 + ((rv).toInt64))), none, some (.int (Int32.ofNat x6))] [] 3 (fun f => rfl) ?_
  refine zW_inc [some (.ref 73), some (.int x1), some (.int x2), some (.int (Int32.ofNat x3)), some (.long (s0 + ((rv).toInt64))), none, some (.int ((Int32.ofNat x6) + (1 : Int32)))] rfl rfl rfl ?_
  rw [show ((Int32.ofNat x6) + (1 : Int32)) = Int32.ofNat (x6 + 1) from (zN_a rfl rfl)]
  refine zW_gh 11 [some (.ref 73), some (.int x1), some (.int x2), some (.int (Int32.ofNat x3)), some (.long (s0 + ((rv).toInt64))), none, some (.int (Int32.ofNat (x6 + 1)))] [] 1 (fun f => rfl) ?_
  exact H
theorem b24 {P : zPt} {T : Nat → zX} {yc uc : Nat → Int32} {yl ul dp dw : Nat} {df : Int32} {dx : Bool} {dc : Nat → Int64} {I : zIt} {A : zAt} {w : Nat → Int64} {p : Nat × Nat} {Q : zR → zH → Prop} (H : zT zm_51 [.ref 73, .int (45 : Int32)] p (zh (P, T, (yc, yl), (uc, ul), (dc, dp, df, dw, dx)) I A w) (zK zm_24 6 [none, some (.ref 73), none, none, none] [] p Q)) : zT zm_24 [.ref 1, .ref 73] p (zh (P, T, (yc, yl), (uc, ul), (dc, dp, df, dw, dx)) I A w) Q := by
  change zW zm_24 0 [some (.ref 1), some (.ref 73), none, none, none] [] p _ Q
  refine zW_gh 3 [some (.ref 1), some (.ref 73), none, none, none] [.int (45 : Int32), .ref 73] 2 (fun f => rfl) ?_
  refine zW_fg (L' := [none, some (.ref 73), none, none, none]) (zle_n _ (zle_s _ (zle_s _ (zle_s _ (zle_s _ zle_nil))))) ?_
  exact zW_cl rfl rfl rfl rfl rfl H
theorem b24_6 {P : zPt} {T : Nat → zX} {yc uc : Nat → Int32} {yl ul dp dw : Nat} {df : Int32} {dx : Bool} {dc : Nat → Int64} {I : zIt} {A : zAt} {w : Nat → Int64} {p : Nat × Nat} {Q : zR → zH → Prop} {rv : Bool} (H : zT zm_55 [.ref 73, .int (10 : Int32), .int (1000000000 : Int32)] p (zh (P, T, (yc, yl), (uc, ul), (dc, dp, df, dw, dx)) I A w) (zK zm_24 15 [none, none, some (.int (zbi rv)), none, none] [] p Q)) : zW zm_24 6 [none, some (.ref 73), none, none, none] [.int (zbi rv)] p (zh (P, T, (yc, yl), (uc, ul), (dc, dp, df, dw, dx)) I A w) Q := by
  refine zW_gh 12 [none, some (.ref 73), some (.int (zbi rv)), none, none] [.int (1000000000 : Int32), .int (10 : Int32), .ref 73] 4 (fun f => rfl) ?_
  refine zW_fg (L' := [none, none, some (.int (zbi rv)), none, none]) (zle_s _ (zle_n _ (zle_s _ (zle_s _ (zle_s _ zle_nil))))) ?_
  exact zW_cl rfl rfl rfl rfl rfl H
theorem b24_15 {P : zPt} {T : Nat → zX} {yc uc : Nat → Int32} {yl ul dp dw : Nat} {df : Int32} {dx : Bool} {dc : Nat → Int64} {I : zIt} {A : zAt} {w : Nat → Int64} {p : Nat × Nat} {Q : zR → zH → Prop} {x2 : Bool} {rv : Int64} (H : ((x2 = false → Q (.inl (some (.long (ze64 rv (0 : Int64))))) (zh (P, T, (yc, yl), (uc, ul), (dc, dp, df, dw, dx)) I A w)) ∧ (x2 = true → Q (.inl (some (.long (ze64 (-rv) (0 : Int64))))) (zh (P, T, (yc, yl), (uc, ul), (dc, dp, df, dw, dx)) I A w)))) : zW zm_24 15 [none, none, some (.int (zbi x2)), none, none] [.long rv] p (zh (P, T, (yc, yl), (uc, ul), (dc, dp, df, dw, dx)) I A w) Q := by
  refine zW_bh (zcmp .eq (zbi x2) (0 : Int32)) 25 20 [none, none, some (.int (zbi x2)), some (.long rv), none] [] 3 (fun f => rfl) (fun c => ?_) (fun c => ?_)
  · have c9 : x2 = false := ((Bool.not_eq_true' _).mp ((zcB_eq _).symm.trans c))
    replace H := H.1 c9
    refine zW_gh 27 [none, none, some (.int (zbi x2)), some (.long rv), none] [.long (0 : Int64), .long rv] 2 (fun f => rfl) ?_
    refine zW_cl rfl rfl rfl rfl rfl (s76 ?_)
    change zW zm_24 30 [none, none, some (.int (zbi x2)), some (.long rv), none] [.long (ze64 rv (0 : Int64))] p _ Q
    generalize (ze64 rv (0 : Int64)) = g1 at H ⊢
    exact zW_rh (some (.long g1)) 1 (fun f => rfl) H
  · have c9 : x2 = true := ((Bool.not_eq_false' _).mp ((zcB_eq _).symm.trans c))
    replace H := H.2 c9
    refine zW_gh 27 [none, none, some (.int (zbi x2)), some (.long rv), none] [.long (0 : Int64), .long (-rv)] 4 (fun f => rfl) ?_
    refine zW_cl rfl rfl rfl rfl rfl (s76 ?_)
    change zW zm_24 30 [none, none, some (.int (zbi x2)), some (.long rv), none] [.long (ze64 (-rv) (0 : Int64))] p _ Q
    generalize (ze64 (-rv) (0 : Int64)) = g2 at H ⊢
    exact zW_rh (some (.long g2)) 1 (fun f => rfl) H
set_option maxRecDepth 20000 in
theorem b9 {P : zPt} {T : Nat → zX} {yc uc : Nat → Int32} {yl ul dp dw : Nat} {df : Int32} {dx : Bool} {dc : Nat → Int64} {I : zIt} {A : zAt} {w : Nat → Int64} {p : Nat × Nat} {Q : zR → zH → Prop} (H : zT zm_51 [.ref 73, .int (45 : Int32)] p (zh (P, T, (yc, yl), (uc, ul), (dc, dp, df, dw, dx)) I A w) (zK zm_9 6 [none, some (.ref 73), none, none, none, none, none, none, none, none] [] p Q)) : zT zm_9 [.ref 3, .ref 73] p (zh (P, T, (yc, yl), (uc, ul), (dc, dp, df, dw, dx)) I A w) Q := by
  change zW zm_9 0 [some (.ref 3), some (.ref 73), none, none, none, none, none, none, none, none] [] p _ Q
  refine zW_gh 3 [some (.ref 3), some (.ref 73), none, none, none, none, none, none, none, none] [.int (45 : Int32), .ref 73] 2 (fun f => rfl) ?_
  refine zW_fg (L' := [none, some (.ref 73), none, none, none, none, none, none, none, none]) (zle_n _ (zle_s _ (zle_s _ (zle_s _ (zle_s _ (zle_s _ (zle_s _ (zle_s _ (zle_s _ (zle_s _ zle_nil)))))))))) ?_
  exact zW_cl rfl rfl rfl rfl rfl H
set_option maxRecDepth 20000 in
theorem b9_6 {P : zPt} {T : Nat → zX} {yc uc : Nat → Int32} {yl ul dp dw : Nat} {df : Int32} {dx : Bool} {dc : Nat → Int64} {I : zIt} {A : zAt} {w : Nat → Int64} {p : Nat × Nat} {Q : zR → zH → Prop} {rv : Bool} (H : zT zm_51 [.ref 73, .int (105 : Int32)] p (zh (P, T, (yc, yl), (uc, ul), (dc, dp, df, dw, dx)) I A w) (zK zm_9 13 [none, some (.ref 73), some (.int (zbi rv)), none, none, none, none, none, none, none] [] p Q)) : zW zm_9 6 [none, some (.ref 73), none, none, none, none, none, none, none, none] [.int (zbi rv)] p (zh (P, T, (yc, yl), (uc, ul), (dc, dp, df, dw, dx)) I A w) Q := by
  refine zW_gh 10 [none, some (.ref 73), some (.int (zbi rv)), none, none, none, none, none, none, none] [.int (105 : Int32), .ref 73] 3 (fun f => rfl) ?_
  exact zW_cl rfl rfl rfl rfl rfl H
set_option maxRecDepth 20000 in
theorem b9_13 {P : zPt} {T : Nat → zX} {yc uc : Nat → Int32} {yl ul dp dw : Nat} {df : Int32} {dx : Bool} {dc : Nat → Int64} {I : zIt} {A : zAt} {w : Nat → Int64} {p : Nat × Nat} {Q : zR → zH → Prop} {x2 rv : Bool} (H : ((rv = false → zT zm_55 [.ref 73, .int (5 : Int32), .int (30000 : Int32)] p (zh (P, T, (yc, yl), (uc, ul), (dc, dp, df, dw, dx)) I A w) (zK zm_9 40 [none, some (.ref 73), some (.int (zbi x2)), none, none, none, none, none, none, none] [] p Q)) ∧ (rv = true → ((x2 = false → Q (.inl (some (.long (ze64 (0 : Int64) (1 : Int64))))) (zh (P, T, (yc, yl), (uc, ul), (dc, dp, df, dw, dx)) I A w)) ∧ (x2 = true → Q (.inl (some (.long (ze64 (0 : Int64) (-1 : Int64))))) (zh (P, T, (yc, yl), (uc, ul), (dc, dp, df, dw, dx)) I A w)))))) : zW zm_9 13 [none, some (.ref 73), some (.int (zbi x2)), none, none, none, none, none, none, none] [.int (zbi rv)] p (zh (P, T, (yc, yl), (uc, ul), (dc, dp, df, dw, dx)) I A w) Q := by
  refine zW_bh (zcmp .eq (zbi rv) (0 : Int32)) 32 16 [none, some (.ref 73), some (.int (zbi x2)), none, none, none, none, none, none, none] [] 1 (fun f => rfl) (fun c => ?_) (fun c => ?_)
  · have c9 : rv = false := ((Bool.not_eq_true' _).mp ((zcB_eq _).symm.trans c))
    replace H := H.1 c9
    refine zW_gh 37 [none, some (.ref 73), some (.int (zbi x2)), none, none, none, none, none, none, none] [.int (30000 : Int32), .int (5 : Int32), .ref 73] 3 (fun f => rfl) ?_
    exact zW_cl rfl rfl rfl rfl rfl H
  · have c9 : rv = true := ((Bool.not_eq_false' _).mp ((zcB_eq _).symm.trans c))
    replace H := H.2 c9
    refine zW_bh (zcmp .eq (zbi x2) (0 : Int32)) 27 21 [none, some (.ref 73), some (.int (zbi x2)), none, none, none, none, none, none, none] [.long (0 : Int64)] 3 (fun f => rfl) (fun c => ?_) (fun c => ?_)
    · have c9 : x2 = false := ((Bool.not_eq_true' _).mp ((zcB_eq _).symm.trans c))
      replace H := H.1 c9
      refine zW_gh 28 [none, some (.ref 73), some (.int (zbi x2)), none, none, none, none, none, none, none] [.long (1 : Int64), .long (0 : Int64)] 1 (fun f => rfl) ?_
      refine zW_cl rfl rfl rfl rfl rfl (s76 ?_)
      change zW zm_9 31 [none, some (.ref 73), some (.int (zbi x2)), none, none, none, none, none, none, none] [.long (ze64 (0 : Int64) (1 : Int64))] p _ Q
      generalize (ze64 (0 : Int64) (1 : Int64)) = g1 at H ⊢
      exact zW_rh (some (.long g1)) 1 (fun f => rfl) H
    · have c9 : x2 = true := ((Bool.not_eq_false' _).mp ((zcB_eq _).symm.trans c))
      replace H := H.2 c9
      refine zW_gh 28 [none, some (.ref 73), some (.int (zbi x2)), none, none, none, none, none, none, none] [.long (-1 : Int64), .long (0 : Int64)] 2 (fun f => rfl) ?_
      refine zW_cl rfl rfl rfl rfl rfl (s76 ?_)
      change zW zm_9 31 [none, some (.ref 73), some (.int (zbi x2)), none, none, none, none, none, none, none] [.long (ze64 (0 : Int64) (-1 : Int64))] p _ Q
      generalize (ze64 (0 : Int64) (-1 : Int64)) = g2 at H ⊢
      exact zW_rh (some (.long g2)) 1 (fun f => rfl) H
set_option maxRecDepth 20000 in
theorem b9_40 {P : zPt} {T : Nat → zX} {yc uc : Nat → Int32} {yl ul dp dw : Nat} {df : Int32} {dx : Bool} {dc : Nat → Int64} {I : zIt} {A : zAt} {w : Nat → Int64} {p : Nat × Nat} {Q : zR → zH → Prop} {x2 : Bool} {rv : Int64} (H : ((x2 = false → (((!decide (df = -1)) = false → zT zm_51 [.ref 73, .int (105 : Int32)] p (zh (P, T, (yc, yl), (uc, ul), (dc, dp, df, dw, dx)) I A w) (zK zm_9 68 [none, some (.ref 73), none, none, none, some (.long rv), none, none, none, none] [] p Q)) ∧ ((!decide (df = -1)) = true → Q (.inl (some (.long (0 : Int64)))) (zh (P, T, (yc, yl), (uc, ul), (dc, dp, df, dw, dx)) I A w)))) ∧ (x2 = true → (((!decide (df = -1)) = false → zT zm_51 [.ref 73, .int (105 : Int32)] p (zh (P, T, (yc, yl), (uc, ul), (dc, dp, df, dw, dx)) I A w) (zK zm_9 68 [none, some (.ref 73), none, none, none, some (.long (-rv)), none, none, none, none] [] p Q)) ∧ ((!decide (df = -1)) = true → Q (.inl (some (.long (0 : Int64)))) (zh (P, T, (yc, yl), (uc, ul), (dc, dp, df, dw, dx)) I A w)))))) : zW zm_9 40 [none, some (.ref 73), some (.int (zbi x2)), none, none, none, none, none, none, none] [.long rv] p (zh (P, T, (yc, yl), (uc, ul), (dc, dp, df, dw, dx)) I A w) Q := by
  refine zW_bh (zcmp .eq (zbi x2) (0 : Int32)) 50 45 [none, some (.ref 73), some (.int (zbi x2)), some (.long rv), none, none, none, none, none, none] [] 3 (fun f => rfl) (fun c => ?_) (fun c => ?_)
  · have c9 : x2 = false := ((Bool.not_eq_true' _).mp ((zcB_eq _).symm.trans c))
    replace H := H.1 c9
    refine zW_gh 54 [none, some (.ref 73), some (.int (zbi x2)), some (.long rv), none, some (.long rv), none, none, none, none] [.ref 73] 3 (fun f => rfl) ?_
    refine zW_cl rfl rfl rfl rfl rfl (s53 ?_)
    change zW zm_9 57 [none, some (.ref 73), some (.int (zbi x2)), some (.long rv), none, some (.long rv), none, none, none, none] [.int (zbi (!decide (df = -1)))] p _ Q
    refine zW_bh (zcmp .eq (zbi (!decide (df = -1))) (0 : Int32)) 62 60 [none, some (.ref 73), some (.int (zbi x2)), some (.long rv), none, some (.long rv), none, none, none, none] [] 1 (fun f => rfl) (fun c => ?_) (fun c => ?_)
    · have c9 : (!decide (df = -1)) = false := ((Bool.not_eq_true' _).mp ((zcB_eq _).symm.trans c))
      replace H := H.1 c9
      refine zW_gh 65 [none, some (.ref 73), some (.int (zbi x2)), some (.long rv), none, some (.long rv), none, none, none, none] [.int (105 : Int32), .ref 73] 2 (fun f => rfl) ?_
      refine zW_fg (L' := [none, some (.ref 73), none, none, none, some (.long rv), none, none, none, none]) (zle_s _ (zle_s _ (zle_n _ (zle_n _ (zle_s _ (zle_s _ (zle_s _ (zle_s _ (zle_s _ (zle_s _ zle_nil)))))))))) ?_
      exact zW_cl rfl rfl rfl rfl rfl H
    · have c9 : (!decide (df = -1)) = true := ((Bool.not_eq_false' _).mp ((zcB_eq _).symm.trans c))
      replace H := H.2 c9
      refine zW_gh 61 [none, some (.ref 73), some (.int (zbi x2)), some (.long rv), none, some (.long rv), none, none, none, none] [.long (0 : Int64)] 1 (fun f => rfl) ?_
      exact zW_rh (some (.long (0 : Int64))) 1 (fun f => rfl) H
  · have c9 : x2 = true := ((Bool.not_eq_false' _).mp ((zcB_eq _).symm.trans c))
    replace H := H.2 c9
    refine zW_gh 54 [none, some (.ref 73), some (.int (zbi x2)), some (.long rv), none, some (.long (-rv)), none, none, none, none] [.ref 73] 5 (fun f => rfl) ?_
    refine zW_cl rfl rfl rfl rfl rfl (s53 ?_)
    change zW zm_9 57 [none, some (.ref 73), some (.int (zbi x2)), some (.long rv), none, some (.long (-rv)), none, none, none, none] [.int (zbi (!decide (df = -1)))] p _ Q
    refine zW_bh (zcmp .eq (zbi (!decide (df = -1))) (0 : Int32)) 62 60 [none, some (.ref 73), some (.int (zbi x2)), some (.long rv), none, some (.long (-rv)), none, none, none, none] [] 1 (fun f => rfl) (fun c => ?_) (fun c => ?_)
    · have c9 : (!decide (df = -1)) = false := ((Bool.not_eq_true' _).mp ((zcB_eq _).symm.trans c))
      replace H := H.1 c9
      refine zW_gh 65 [none, some (.ref 73), some (.int (zbi x2)), some (.long rv), none, some (.long (-rv)), none, none, none, none] [.int (105 : Int32), .ref 73] 2 (fun f => rfl) ?_
      refine zW_fg (L' := [none, some (.ref 73), none, none, none, some (.long (-rv)), none, none, none, none]) (zle_s _ (zle_s _ (zle_n _ (zle_n _ (zle_s _ (zle_s _ (zle_s _ (zle_s _ (zle_s _ (zle_s _ zle_nil)))))))))) ?_
      exact zW_cl rfl rfl rfl rfl rfl H
    · have c9 : (!decide (df = -1)) = true := ((Bool.not_eq_false' _).mp ((zcB_eq _).symm.trans c))
      replace H := H.2 c9
      refine zW_gh 61 [none, some (.ref 73), some (.int (zbi x2)), some (.long rv), none, some (.long (-rv)), none, none, none, none] [.long (0 : Int64)] 1 (fun f => rfl) ?_
      exact zW_rh (some (.long (0 : Int64))) 1 (fun f => rfl) H
set_option maxRecDepth 20000 in
theorem b9_68 {P : zPt} {T : Nat → zX} {yc uc : Nat → Int32} {yl ul dp dw : Nat} {df : Int32} {dx : Bool} {dc : Nat → Int64} {I : zIt} {A : zAt} {w : Nat → Int64} {p : Nat × Nat} {Q : zR → zH → Prop} {rv : Bool} {x5 : Int64} (H : ((rv = false → zT zm_51 [.ref 73, .int (43 : Int32)] p (zh (P, T, (yc, yl), (uc, ul), (dc, dp, df, dw, dx)) I A w) (zK zm_9 84 [none, some (.ref 73), none, none, none, some (.long x5), none, none, none, none] [] p Q)) ∧ (rv = true → Q (.inl (some (.long (ze64 (0 : Int64) x5)))) (zh (P, T, (yc, yl), (uc, ul), (dc, dp, df, dw, dx)) I A w)))) : zW zm_9 68 [none, some (.ref 73), none, none, none, some (.long x5), none, none, none, none] [.int (zbi rv)] p (zh (P, T, (yc, yl), (uc, ul), (dc, dp, df, dw, dx)) I A w) Q := by
  refine zW_bh (zcmp .eq (zbi rv) (0 : Int32)) 78 71 [none, some (.ref 73), none, none, none, some (.long x5), none, none, none, none] [] 1 (fun f => rfl) (fun c => ?_) (fun c => ?_)
  · have c9 : rv = false := ((Bool.not_eq_true' _).mp ((zcB_eq _).symm.trans c))
    replace H := H.1 c9
    refine zW_gh 81 [none, some (.ref 73), none, none, none, some (.long x5), none, none, none, none] [.int (43 : Int32), .ref 73] 2 (fun f => rfl) ?_
    exact zW_cl rfl rfl rfl rfl rfl H
  · have c9 : rv = true := ((Bool.not_eq_false' _).mp ((zcB_eq _).symm.trans c))
    replace H := H.2 c9
    refine zW_gh 74 [none, some (.ref 73), none, none, none, some (.long x5), none, none, none, none] [.long x5, .long (0 : Int64)] 2 (fun f => rfl) ?_
    refine zW_cl rfl rfl rfl rfl rfl (s76 ?_)
    change zW zm_9 77 [none, some (.ref 73), none, none, none, some (.long x5), none, none, none, none] [.long (ze64 (0 : Int64) x5)] p _ Q
    generalize (ze64 (0 : Int64) x5) = g1 at H ⊢
    exact zW_rh (some (.long g1)) 1 (fun f => rfl) H
set_option maxRecDepth 20000 in
theorem b9_84 {P : zPt} {T : Nat → zX} {yc uc : Nat → Int32} {yl ul dp dw : Nat} {df : Int32} {dx : Bool} {dc : Nat → Int64} {I : zIt} {A : zAt} {w : Nat → Int64} {p : Nat × Nat} {Q : zR → zH → Prop} {rv : Bool} {x5 : Int64} (H : ((rv = true → zT zm_56 [.ref 73] p (zh (P, T, (yc, yl), (uc, ul), (dc, dp, df, dw, dx)) I A w) (zK zm_9 111 [none, some (.ref 73), none, none, none, some (.long x5), none, some (.int (zbi rv)), none, none] [] p Q)) ∧ (rv = false → zT zm_51 [.ref 73, .int (45 : Int32)] p (zh (P, T, (yc, yl), (uc, ul), (dc, dp, df, dw, dx)) I A w) (zK zm_9 97 [none, some (.ref 73), none, none, none, some (.long x5), none, some (.int (zbi rv)), none, none] [] p Q)))) : zW zm_9 84 [none, some (.ref 73), none, none, none, some (.long x5), none, none, none, none] [.int (zbi rv)] p (zh (P, T, (yc, yl), (uc, ul), (dc, dp, df, dw, dx)) I A w) Q := by
  refine zW_bh (zcmp .ne (zbi rv) (0 : Int32)) 107 91 [none, some (.ref 73), none, none, none, some (.long x5), none, some (.int (zbi rv)), none, none] [] 3 (fun f => rfl) (fun c => ?_) (fun c => ?_)
  · have c9 : rv = true := ((zcB_ne _).symm.trans c)
    replace H := H.1 c9
    refine zW_gh 108 [none, some (.ref 73), none, none, none, some (.long x5), none, some (.int (zbi rv)), none, none] [.ref 73] 1 (fun f => rfl) ?_
    exact zW_cl rfl rfl rfl rfl rfl H
  · have c9 : rv = false := ((zcB_ne _).symm.trans c)
    replace H := H.2 c9
    refine zW_gh 94 [none, some (.ref 73), none, none, none, some (.long x5), none, some (.int (zbi rv)), none, none] [.int (45 : Int32), .ref 73] 2 (fun f => rfl) ?_
    exact zW_cl rfl rfl rfl rfl rfl H
set_option maxRecDepth 20000 in
theorem b9_111 {P : zPt} {T : Nat → zX} {yc uc : Nat → Int32} {yl ul dp dw : Nat} {df : Int32} {dx : Bool} {dc : Nat → Int64} {I : zIt} {A : zAt} {w : Nat → Int64} {p : Nat × Nat} {Q : zR → zH → Prop} {x7 rv : Bool} {x5 : Int64} (H : ((rv = false → zT zm_50 [.ref 73, .int (105 : Int32)] p (zh (P, T, (yc, yl), (uc, ul), (dc, dp, df, dw, dx)) I A w) (zK zm_9 134 [none, none, none, none, none, some (.long x5), none, some (.int (zbi x7)), some (.long (1 : Int64)), none] [] p Q)) ∧ (rv = true → zT zm_55 [.ref 73, .int (5 : Int32), .int (30000 : Int32)] p (zh (P, T, (yc, yl), (uc, ul), (dc, dp, df, dw, dx)) I A w) (zK zm_9 122 [none, some (.ref 73), none, none, none, some (.long x5), none, some (.int (zbi x7)), none, none] [] p Q)))) : zW zm_9 111 [none, some (.ref 73), none, none, none, some (.long x5), none, some (.int (zbi x7)), none, none] [.int (zbi rv)] p (zh (P, T, (yc, yl), (uc, ul), (dc, dp, df, dw, dx)) I A w) Q := by
  refine zW_bh (zcmp .eq (zbi rv) (0 : Int32)) 125 114 [none, some (.ref 73), none, none, none, some (.long x5), none, some (.int (zbi x7)), none, none] [] 1 (fun f => rfl) (fun c => ?_) (fun c => ?_)
  · have c9 : rv = false := ((Bool.not_eq_true' _).mp ((zcB_eq _).symm.trans c))
    replace H := H.1 c9
    refine zW_gh 131 [none, some (.ref 73), none, none, none, some (.long x5), none, some (.int (zbi x7)), some (.long (1 : Int64)), none] [.int (105 : Int32), .ref 73] 4 (fun f => rfl) ?_
    refine zW_fg (L' := [none, none, none, none, none, some (.long x5), none, some (.int (zbi x7)), some (.long (1 : Int64)), none]) (zle_s _ (zle_n _ (zle_s _ (zle_s _ (zle_s _ (zle_s _ (zle_s _ (zle_s _ (zle_s _ (zle_s _ zle_nil)))))))))) ?_
    exact zW_cl rfl rfl rfl rfl rfl H
  · have c9 : rv = true := ((Bool.not_eq_false' _).mp ((zcB_eq _).symm.trans c))
    replace H := H.2 c9
    refine zW_gh 119 [none, some (.ref 73), none, none, none, some (.long x5), none, some (.int (zbi x7)), none, none] [.int (30000 : Int32), .int (5 : Int32), .ref 73] 3 (fun f => rfl) ?_
    exact zW_cl rfl rfl rfl rfl rfl H
set_option maxRecDepth 20000 in
theorem b9_97 {P : zPt} {T : Nat → zX} {yc uc : Nat → Int32} {yl ul dp dw : Nat} {df : Int32} {dx : Bool} {dc : Nat → Int64} {I : zIt} {A : zAt} {w : Nat → Int64} {p : Nat × Nat} {Q : zR → zH → Prop} {x7 rv : Bool} {x5 : Int64} (H : ((rv = true → zT zm_56 [.ref 73] p (zh (P, T, (yc, yl), (uc, ul), (dc, dp, df, dw, dx)) I A w) (zK zm_9 111 [none, some (.ref 73), none, none, none, some (.long x5), none, some (.int (zbi x7)), none, none] [] p Q)) ∧ (rv = false → Q (.inl (some (.long (ze64 x5 (0 : Int64))))) (zh (P, T, (yc, yl), (uc, ul), (dc, dp, df, dw, dx)) I A w)))) : zW zm_9 97 [none, some (.ref 73), none, none, none, some (.long x5), none, some (.int (zbi x7)), none, none] [.int (zbi rv)] p (zh (P, T, (yc, yl), (uc, ul), (dc, dp, df, dw, dx)) I A w) Q := by
  refine zW_bh (zcmp .ne (zbi rv) (0 : Int32)) 107 100 [none, some (.ref 73), none, none, none, some (.long x5), none, some (.int (zbi x7)), none, none] [] 1 (fun f => rfl) (fun c => ?_) (fun c => ?_)
  · have c9 : rv = true := ((zcB_ne _).symm.trans c)
    replace H := H.1 c9
    refine zW_gh 108 [none, some (.ref 73), none, none, none, some (.long x5), none, some (.int (zbi x7)), none, none] [.ref 73] 1 (fun f => rfl) ?_
    exact zW_cl rfl rfl rfl rfl rfl H
  · have c9 : rv = false := ((zcB_ne _).symm.trans c)
    replace H := H.2 c9
    refine zW_gh 103 [none, some (.ref 73), none, none, none, some (.long x5), none, some (.int (zbi x7)), none, none] [.long (0 : Int64), .long x5] 2 (fun f => rfl) ?_
    refine zW_cl rfl rfl rfl rfl rfl (s76 ?_)
    change zW zm_9 106 [none, some (.ref 73), none, none, none, some (.long x5), none, some (.int (zbi x7)), none, none] [.long (ze64 x5 (0 : Int64))] p _ Q
    generalize (ze64 x5 (0 : Int64)) = g1 at H ⊢
    exact zW_rh (some (.long g1)) 1 (fun f => rfl) H
set_option maxRecDepth 20000 in
theorem b9_134 {P : zPt} {T : Nat → zX} {yc uc : Nat → Int32} {yl ul dp dw : Nat} {df : Int32} {dx : Bool} {dc : Nat → Int64} {I : zIt} {A : zAt} {w : Nat → Int64} {p : Nat × Nat} {Q : zR → zH → Prop} {x7 : Bool} {x5 x8 : Int64} (H : ((x7 = false → Q (.inl (some (.long (ze64 x5 (-x8))))) (zh (P, T, (yc, yl), (uc, ul), (dc, dp, df, dw, dx)) I A w)) ∧ (x7 = true → Q (.inl (some (.long (ze64 x5 x8)))) (zh (P, T, (yc, yl), (uc, ul), (dc, dp, df, dw, dx)) I A w)))) : zW zm_9 134 [none, none, none, none, none, some (.long x5), none, some (.int (zbi x7)), some (.long x8), none] [] p (zh (P, T, (yc, yl), (uc, ul), (dc, dp, df, dw, dx)) I A w) Q := by
  refine zW_bh (zcmp .eq (zbi x7) (0 : Int32)) 146 141 [none, none, none, none, none, some (.long x5), none, some (.int (zbi x7)), some (.long x8), none] [.long x5] 3 (fun f => rfl) (fun c => ?_) (fun c => ?_)
  · have c9 : x7 = false := ((Bool.not_eq_true' _).mp ((zcB_eq _).symm.trans c))
    replace H := H.1 c9
    refine zW_gh 149 [none, none, none, none, none, some (.long x5), none, some (.int (zbi x7)), some (.long x8), none] [.long (-x8), .long x5] 2 (fun f => rfl) ?_
    refine zW_cl rfl rfl rfl rfl rfl (s76 ?_)
    change zW zm_9 152 [none, none, none, none, none, some (.long x5), none, some (.int (zbi x7)), some (.long x8), none] [.long (ze64 x5 (-x8))] p _ Q
    generalize (ze64 x5 (-x8)) = g1 at H ⊢
    exact zW_rh (some (.long g1)) 1 (fun f => rfl) H
  · have c9 : x7 = true := ((Bool.not_eq_false' _).mp ((zcB_eq _).symm.trans c))
    replace H := H.2 c9
    refine zW_gh 149 [none, none, none, none, none, some (.long x5), none, some (.int (zbi x7)), some (.long x8), none] [.long x8, .long x5] 2 (fun f => rfl) ?_
    refine zW_cl rfl rfl rfl rfl rfl (s76 ?_)
    change zW zm_9 152 [none, none, none, none, none, some (.long x5), none, some (.int (zbi x7)), some (.long x8), none] [.long (ze64 x5 x8)] p _ Q
    generalize (ze64 x5 x8) = g2 at H ⊢
    exact zW_rh (some (.long g2)) 1 (fun f => rfl) H
set_option maxRecDepth 20000 in
theorem b9_122 {P : zPt} {T : Nat → zX} {yc uc : Nat → Int32} {yl ul dp dw : Nat} {df : Int32} {dx : Bool} {dc : Nat → Int64} {I : zIt} {A : zAt} {w : Nat → Int64} {p : Nat × Nat} {Q : zR → zH → Prop} {x7 : Bool} {x5 rv : Int64} (H : zT zm_50 [.ref 73, .int (105 : Int32)] p (zh (P, T, (yc, yl), (uc, ul), (dc, dp, df, dw, dx)) I A w) (zK zm_9 134 [none, none, none, none, none, some (.long x5), none, some (.int (zbi x7)), some (.long rv), none] [] p Q)) : zW zm_9 122 [none, some (.ref 73), none, none, none, some (.long x5), none, some (.int (zbi x7)), none, none] [.long rv] p (zh (P, T, (yc, yl), (uc, ul), (dc, dp, df, dw, dx)) I A w) Q := by
  refine zW_gh 131 [none, some (.ref 73), none, none, none, some (.long x5), none, some (.int (zbi x7)), some (.long rv), none] [.int (105 : Int32), .ref 73] 4 (fun f => rfl) ?_
  refine zW_fg (L' := [none, none, none, none, none, some (.long x5), none, some (.int (zbi x7)), some (.long rv), none]) (zle_s _ (zle_n _ (zle_s _ (zle_s _ (zle_s _ (zle_s _ (zle_s _ (zle_s _ (zle_s _ (zle_s _ zle_nil)))))))))) ?_
  exact zW_cl rfl rfl rfl rfl rfl H
theorem b71 {P : zPt} {T : Nat → zX} {yc uc : Nat → Int32} {yl ul dp dw : Nat} {df : Int32} {dx : Bool} {dc : Nat → Int64} {I : zIt} {A : zAt} {w : Nat → Int64} {p : Nat × Nat} {Q : zR → zH → Prop} {a1 : Bool} (H : zT zm_51 [.ref 73, .int (120 : Int32)] p (zh (P, T, (yc, yl), (uc, ul), (dc, dp, df, dw, dx)) I A w) (zK zm_71 6 [some (.ref 73), some (.int (zbi a1))] [] p Q)) : zT zm_71 [.ref 73, .int (zbi a1)] p (zh (P, T, (yc, yl), (uc, ul), (dc, dp, df, dw, dx)) I A w) Q := by
  change zW zm_71 0 [some (.ref 73), some (.int (zbi a1))] [] p _ Q
  refine zW_gh 3 [some (.ref 73), some (.int (zbi a1))] [.int (120 : Int32), .ref 73] 2 (fun f => rfl) ?_
  exact zW_cl rfl rfl rfl rfl rfl H
theorem b71_6 {P : zPt} {T : Nat → zX} {yc uc : Nat → Int32} {yl ul dp dw : Nat} {df : Int32} {dx : Bool} {dc : Nat → Int64} {I : zIt} {A : zAt} {w : Nat → Int64} {p : Nat × Nat} {Q : zR → zH → Prop} {x1 rv : Bool} (H : ((rv = false → ((x1 = true → Q (.inl (some (.int (0 : Int32)))) (zh (P, T, (yc, yl), (uc, ul), (dc, dp, df, dw, dx)) I A w)) ∧ (x1 = false → Q (.inl (some (.int (0 : Int32)))) (zh (P, T, (yc, yl), (uc, ul), (dc, dp, (bif decide (df = -1) then (Int32.ofNat dp) else df), dw, dx)) I A w)))) ∧ (rv = true → zT zm_51 [.ref 73, .int (94 : Int32)] p (zh (P, T, (yc, yl), (uc, ul), (dc, dp, df, dw, dx)) I A w) (zK zm_71 15 [some (.ref 73), none] [] p Q)))) : zW zm_71 6 [some (.ref 73), some (.int (zbi x1))] [.int (zbi rv)] p (zh (P, T, (yc, yl), (uc, ul), (dc, dp, df, dw, dx)) I A w) Q := by
  refine zW_bh (zcmp .eq (zbi rv) (0 : Int32)) 29 9 [some (.ref 73), some (.int (zbi x1))] [] 1 (fun f => rfl) (fun c => ?_) (fun c => ?_)
  · have c9 : rv = false := ((Bool.not_eq_true' _).mp ((zcB_eq _).symm.trans c))
    replace H := H.1 c9
    refine zW_bh (zcmp .ne (zbi x1) (0 : Int32)) 41 33 [some (.ref 73), some (.int (zbi x1))] [] 2 (fun f => rfl) (fun c => ?_) (fun c => ?_)
    · have c9 : x1 = true := ((zcB_ne _).symm.trans c)
      replace H := H.1 c9
      refine zW_gh 42 [some (.ref 73), some (.int (zbi x1))] [.int (0 : Int32)] 1 (fun f => rfl) ?_
      exact zW_rh (some (.int (0 : Int32))) 1 (fun f => rfl) H
    · have c9 : x1 = false := ((zcB_ne _).symm.trans c)
      replace H := H.2 c9
      refine zW_gh 38 [some (.ref 73), some (.int (zbi x1))] [.int (Int32.ofNat dp), .ref 73] 3 (fun f => rfl) ?_
      refine zW_cl rfl rfl rfl rfl rfl (s52 ?_)
      change zW zm_71 41 [some (.ref 73), some (.int (zbi x1))] [] p _ Q
      refine zW_gh 42 [some (.ref 73), some (.int (zbi x1))] [.int (0 : Int32)] 1 (fun f => rfl) ?_
      exact zW_rh (some (.int (0 : Int32))) 1 (fun f => rfl) H
  · have c9 : rv = true := ((Bool.not_eq_false' _).mp ((zcB_eq _).symm.trans c))
    replace H := H.2 c9
    refine zW_gh 12 [some (.ref 73), some (.int (zbi x1))] [.int (94 : Int32), .ref 73] 2 (fun f => rfl) ?_
    refine zW_fg (L' := [some (.ref 73), none]) (zle_s _ (zle_n _ zle_nil)) ?_
    exact zW_cl rfl rfl rfl rfl rfl H
theorem b71_15 {P : zPt} {T : Nat → zX} {yc uc : Nat → Int32} {yl ul dp dw : Nat} {df : Int32} {dx : Bool} {dc : Nat → Int64} {I : zIt} {A : zAt} {w : Nat → Int64} {p : Nat × Nat} {Q : zR → zH → Prop} {rv : Bool} (H : ((rv = false → Q (.inl (some (.int (1 : Int32)))) (zh (P, T, (yc, yl), (uc, ul), (dc, dp, df, dw, dx)) I A w)) ∧ (rv = true → zT zm_57 [.ref 73, .int (7 : Int32)] p (zh (P, T, (yc, yl), (uc, ul), (dc, dp, df, dw, dx)) I A w) (zK zm_71 24 [none, none] [] p Q)))) : zW zm_71 15 [some (.ref 73), none] [.int (zbi rv)] p (zh (P, T, (yc, yl), (uc, ul), (dc, dp, df, dw, dx)) I A w) Q := by
  refine zW_bh (zcmp .eq (zbi rv) (0 : Int32)) 27 18 [some (.ref 73), none] [] 1 (fun f => rfl) (fun c => ?_) (fun c => ?_)
  · have c9 : rv = false := ((Bool.not_eq_true' _).mp ((zcB_eq _).symm.trans c))
    replace H := H.1 c9
    refine zW_gh 28 [some (.ref 73), none] [.int (1 : Int32)] 1 (fun f => rfl) ?_
    exact zW_rh (some (.int (1 : Int32))) 1 (fun f => rfl) H
  · have c9 : rv = true := ((Bool.not_eq_false' _).mp ((zcB_eq _).symm.trans c))
    replace H := H.2 c9
    refine zW_gh 21 [some (.ref 73), none] [.int (7 : Int32), .ref 73] 2 (fun f => rfl) ?_
    refine zW_fg (L' := [none, none]) (zle_n _ (zle_s _ zle_nil)) ?_
    exact zW_cl rfl rfl rfl rfl rfl H
theorem b71_24 {P : zPt} {T : Nat → zX} {yc uc : Nat → Int32} {yl ul dp dw : Nat} {df : Int32} {dx : Bool} {dc : Nat → Int64} {I : zIt} {A : zAt} {w : Nat → Int64} {p : Nat × Nat} {Q : zR → zH → Prop} {rv : Int32} (H : Q (.inl (some (.int rv))) (zh (P, T, (yc, yl), (uc, ul), (dc, dp, df, dw, dx)) I A w)) : zW zm_71 24 [none, none] [.int rv] p (zh (P, T, (yc, yl), (uc, ul), (dc, dp, df, dw, dx)) I A w) Q := by
  refine zW_gh 28 [none, none] [.int rv] 1 (fun f => rfl) ?_
  exact zW_rh (some (.int rv)) 1 (fun f => rfl) H
theorem b70 {P : zPt} {T : Nat → zX} {yc uc : Nat → Int32} {yl ul dp dw : Nat} {df : Int32} {dx : Bool} {dc : Nat → Int64} {I : zIt} {A : zAt} {w : Nat → Int64} {p : Nat × Nat} {Q : zR → zH → Prop} {j : Nat} (h1_j : 1 ≤ j) (h4_j : j ≤ 4) (H : zT zm_284 [.ref (4 * j + 3), .int (0 : Int32)] p (zh (P, T, (yc, yl), (uc, ul), (dc, dp, df, dw, dx)) I A w) (zK zm_70 8 [some (.ref (4 * j)), some (.ref 73), none, none, none, none, none, none] [] p Q)) : zT zm_70 [.ref (4 * j), .ref 73] p (zh (P, T, (yc, yl), (uc, ul), (dc, dp, df, dw, dx)) I A w) Q := by
  change zW zm_70 0 [some (.ref (4 * j)), some (.ref 73), none, none, none, none, none, none] [] p _ Q
  refine zW_gh 1 [some (.ref (4 * j)), some (.ref 73), none, none, none, none, none, none] [.ref (4 * j)] 1 (fun f => rfl) ?_
  refine zW_gf rfl (by omega) (zh_P0 h1_j h4_j) rfl (v := .ref (4 * j + 3)) rfl ?_
  refine zW_gh 5 [some (.ref (4 * j)), some (.ref 73), none, none, none, none, none, none] [.int (0 : Int32), .ref (4 * j + 3)] 1 (fun f => rfl) ?_
  exact zW_cl rfl rfl rfl rfl rfl H
theorem b70_8 {P : zPt} {T : Nat → zX} {yc uc : Nat → Int32} {yl ul dp dw : Nat} {df : Int32} {dx : Bool} {dc : Nat → Int64} {I : zIt} {A : zAt} {w : Nat → Int64} {p : Nat × Nat} {Q : zR → zH → Prop} {j : Nat} (H : zW zm_70 13 [some (.ref (4 * j)), some (.ref 73), some (.int (Int32.ofNat 8)), some (.int (Int32.ofNat 0)), none, none, none, none] [] p (zh (P, T, (yc, yl), (uc, ul), (dc, dp, df, dw, dx)) I A w) Q) : zW zm_70 8 [some (.ref (4 * j)), some (.ref 73), none, none, none, none, none, none] [] p (zh (P, T, (yc, yl), (uc, ul), (dc, dp, df, dw, dx)) I A w) Q := by
  refine zW_gh 13 [some (.ref (4 * j)), some (.ref 73), some (.int (8 : Int32)), some (.int (0 : Int32)), none, none, none, none] [] 4 (fun f => rfl) ?_
  exact H
theorem b70_13 {P : zPt} {T : Nat → zX} {yc uc : Nat → Int32} {yl ul dp dw : Nat} {df : Int32} {dx : Bool} {dc : Nat → Int64} {I : zIt} {A : zAt} {w : Nat → Int64} {p : Nat × Nat} {Q : zR → zH → Prop} {x2 x3 j : Nat} (h1_j : 1 ≤ j) (h4_j : j ≤ 4) (H : (x3 < 2147483648 ∧ ((8 < x3 → zT zm_62 [.ref (4 * j), .ref (4 * j + 3)] p (zh (P, T, (yc, yl), (uc, ul), (dc, dp, df, dw, dx)) I A w) (zK zm_70 131 [none, none, none, none, none, none, none, none] [] p Q)) ∧ (x3 ≤ 8 → zT zm_56 [.ref 73] p (zh (P, T, (yc, yl), (uc, ul), (dc, dp, df, dw, dx)) I A w) (zK zm_70 29 [some (.ref (4 * j)), some (.ref 73), some (.int (Int32.ofNat x2)), some (.int (Int32.ofNat x3)), some (.int (Int32.ofNat dp)), none, none, none] [] p Q))))) : zW zm_70 13 [some (.ref (4 * j)), some (.ref 73), some (.int (Int32.ofNat x2)), some (.int (Int32.ofNat x3)), none, none, none, none] [] p (zh (P, T, (yc, yl), (uc, ul), (dc, dp, df, dw, dx)) I A w) Q := by
  obtain ⟨h1, H⟩ := H
  refine zW_bh (zcmp .gt (Int32.ofNat x3) (8 : Int32)) 123 19 [some (.ref (4 * j)), some (.ref 73), some (.int (Int32.ofNat x2)), some (.int (Int32.ofNat x3)), none, none, none, none] [] 3 (fun f => rfl) (fun c => ?_) (fun c => ?_)
  · have c9 : 8 < x3 := (of_decide_eq_true ((zcN_gt (a := x3) (b := 8) rfl rfl h1 (by decide)).symm.trans c))
    replace H := H.1 c9
    refine zW_gh 125 [some (.ref (4 * j)), some (.ref 73), some (.int (Int32.ofNat x2)), some (.int (Int32.ofNat x3)), none, none, none, none] [.ref (4 * j), .ref (4 * j)] 2 (fun f => rfl) ?_
    refine zW_gf rfl (by omega) (zh_P0 h1_j h4_j) rfl (v := .ref (4 * j + 3)) rfl ?_
    refine zW_fg (L' := [none, none, none, none, none, none, none, none]) (zle_n _ (zle_n _ (zle_n _ (zle_n _ (zle_s _ (zle_s _ (zle_s _ (zle_s _ zle_nil)))))))) ?_
    exact zW_cv rfl rfl rfl (by omega) (zh_P0 h1_j h4_j) rfl rfl rfl rfl H
  · have c9 : x3 ≤ 8 := (Nat.le_of_not_lt (of_decide_eq_false ((zcN_gt (a := x3) (b := 8) rfl rfl h1 (by decide)).symm.trans c)))
    replace H := H.2 c9
    refine zW_gh 26 [some (.ref (4 * j)), some (.ref 73), some (.int (Int32.ofNat x2)), some (.int (Int32.ofNat x3)), some (.int (Int32.ofNat dp)), none, none, none] [.ref 73] 4 (fun f => rfl) ?_
    exact zW_cl rfl rfl rfl rfl rfl H
theorem b70_131 {P : zPt} {T : Nat → zX} {yc uc : Nat → Int32} {yl ul dp dw : Nat} {df : Int32} {dx : Bool} {dc : Nat → Int64} {I : zIt} {A : zAt} {w : Nat → Int64} {p : Nat × Nat} {Q : zR → zH → Prop} {rv : Int64} (H : Q (.inl (some (.long rv))) (zh (P, T, (yc, yl), (uc, ul), (dc, dp, df, dw, dx)) I A w)) : zW zm_70 131 [none, none, none, none, none, none, none, none] [.long rv] p (zh (P, T, (yc, yl), (uc, ul), (dc, dp, df, dw, dx)) I A w) Q := by
  exact zW_rh (some (.long rv)) 1 (fun f => rfl) H
theorem b70_29 {P : zPt} {T : Nat → zX} {yc uc : Nat → Int32} {yl ul dp dw : Nat} {df : Int32} {dx : Bool} {dc : Nat → Int64} {I : zIt} {A : zAt} {w : Nat → Int64} {p : Nat × Nat} {Q : zR → zH → Prop} {x2 x3 x4 j : Nat} {rv : Bool} (h1_j : 1 ≤ j) (h4_j : j ≤ 4) (H : ((rv = false → zT zm_71 [.ref 73, .int (zbi rv)] p (zh (P, T, (yc, yl), (uc, ul), (dc, dp, df, dw, dx)) I A w) (zK zm_70 58 [some (.ref (4 * j)), some (.ref 73), some (.int (Int32.ofNat x2)), some (.int (Int32.ofNat x3)), some (.int (Int32.ofNat x4)), none, some (.int (1 : Int32)), none] [] p Q)) ∧ (rv = true → zT zm_57 [.ref 73, .int ((Int32.ofNat (zpj j)) - (1 : Int32))] p (zh (P, T, (yc, yl), (uc, ul), (dc, dp, df, dw, dx)) I A w) (zK zm_70 46 [some (.ref (4 * j)), some (.ref 73), some (.int (Int32.ofNat x2)), some (.int (Int32.ofNat x3)), some (.int (Int32.ofNat x4)), some (.int (zbi rv)), none, none] [] p Q)))) : zW zm_70 29 [some (.ref (4 * j)), some (.ref 73), some (.int (Int32.ofNat x2)), some (.int (Int32.ofNat x3)), some (.int (Int32.ofNat x4)), none, none, none] [.int (zbi rv)] p (zh (P, T, (yc, yl), (uc, ul), (dc, dp, df, dw, dx)) I A w) Q := by
  refine zW_bh (zcmp .eq (zbi rv) (0 : Int32)) 49 36 [some (.ref (4 * j)), some (.ref 73), some (.int (Int32.ofNat x2)), some (.int (Int32.ofNat x3)), some (.int (Int32.ofNat x4)), some (.int (zbi rv)), none, none] [] 3 (fun f => rfl) (fun c => ?_) (fun c => ?_)
  · have c9 : rv = false := ((Bool.not_eq_true' _).mp ((zcB_eq _).symm.trans c))
    replace H := H.1 c9
    refine zW_gh 55 [some (.ref (4 * j)), some (.ref 73), some (.int (Int32.ofNat x2)), some (.int (Int32.ofNat x3)), some (.int (Int32.ofNat x4)), some (.int (zbi rv)), some (.int (1 : Int32)), none] [.int (zbi rv), .ref 73] 4 (fun f => rfl) ?_
    refine zW_fg (L' := [some (.ref (4 * j)), some (.ref 73), some (.int (Int32.ofNat x2)), some (.int (Int32.ofNat x3)), some (.int (Int32.ofNat x4)), none, some (.int (1 : Int32)), none]) (zle_s _ (zle_s _ (zle_s _ (zle_s _ (zle_s _ (zle_n _ (zle_s _ (zle_s _ zle_nil)))))))) ?_
    exact zW_cl rfl rfl rfl rfl rfl H
  · have c9 : rv = true := ((Bool.not_eq_false' _).mp ((zcB_eq _).symm.trans c))
    replace H := H.2 c9
    refine zW_gh 38 [some (.ref (4 * j)), some (.ref 73), some (.int (Int32.ofNat x2)), some (.int (Int32.ofNat x3)), some (.int (Int32.ofNat x4)), some (.int (zbi rv)), none, none] [.ref (4 * j), .ref 73] 2 (fun f => rfl) ?_
    refine zW_gf rfl (by omega) (zh_P0 h1_j h4_j) rfl (v := .int (Int32.ofNat (zpj j))) rfl ?_
    refine zW_gh 43 [some (.ref (4 * j)), some (.ref 73), some (.int (Int32.ofNat x2)), some (.int (Int32.ofNat x3)), some (.int (Int32.ofNat x4)), some (.int (zbi rv)), none, none] [.int ((Int32.ofNat (zpj j)) - (1 : Int32)), .ref 73] 2 (fun f => rfl) ?_
    exact zW_cl rfl rfl rfl rfl rfl H
theorem b70_58 {P : zPt} {T : Nat → zX} {yc uc : Nat → Int32} {yl ul dp dw : Nat} {df : Int32} {dx : Bool} {dc : Nat → Int64} {I : zIt} {A : zAt} {w : Nat → Int64} {p : Nat × Nat} {Q : zR → zH → Prop} {x2 x3 x4 j : Nat} {x6 rv : Int32} (h1_j : 1 ≤ j) (h4_j : j ≤ 4) (H : ((rv < (Int32.ofNat x2) → (((!decide (df = -1)) = true → Q (.inl (some (.long (0 : Int64)))) (zh (P, T, (yc, yl), (uc, ul), (dc, dp, df, dw, dx)) I A w)) ∧ ((!decide (df = -1)) = false → ((rv < (0 : Int32) → Q (.inl (some (.long (0 : Int64)))) (zh (P, T, (yc, yl), (uc, ul), (dc, dp, df, dw, dx)) I A w)) ∧ (¬ rv < (0 : Int32) → ∀ k_rv, k_rv < 2147483648 → rv = Int32.ofNat k_rv → ((k_rv < 8 → (k_rv < 8 ∧ zT zm_51 [.ref 73, .int (43 : Int32)] p (zh ((va_up P j ((P j).1, (P j).2.1, (va_up (P j).2.2 k_rv x6))), T, (yc, yl), (uc, ul), (dc, dp, df, dw, dx)) I A w) (zK zm_70 111 [some (.ref (4 * j)), some (.ref 73), some (.int (Int32.ofNat k_rv)), some (.int (Int32.ofNat x3)), none, none, none, none] [] p Q))) ∧ (8 ≤ k_rv → Q (.inl (some (.long (0 : Int64)))) (zh (P, T, (yc, yl), (uc, ul), (dc, dp, df, dw, dx)) I A w)))))))) ∧ (¬ rv < (Int32.ofNat x2) → (((!decide ((bif decide (df = -1) then (Int32.ofNat x4) else df) = -1)) = true → Q (.inl (some (.long (0 : Int64)))) (zh (P, T, (yc, yl), (uc, ul), (dc, dp, (bif decide (df = -1) then (Int32.ofNat x4) else df), dw, dx)) I A w)) ∧ ((!decide ((bif decide (df = -1) then (Int32.ofNat x4) else df) = -1)) = false → ((rv < (0 : Int32) → Q (.inl (some (.long (0 : Int64)))) (zh (P, T, (yc, yl), (uc, ul), (dc, dp, (bif decide (df = -1) then (Int32.ofNat x4) else df), dw, dx)) I A w)) ∧ (¬ rv < (0 : Int32) → ∀ k_rv, k_rv < 2147483648 → rv = Int32.ofNat k_rv → ((k_rv < 8 → (k_rv < 8 ∧ zT zm_51 [.ref 73, .int (43 : Int32)] p (zh ((va_up P j ((P j).1, (P j).2.1, (va_up (P j).2.2 k_rv x6))), T, (yc, yl), (uc, ul), (dc, dp, (bif decide (df = -1) then (Int32.ofNat x4) else df), dw, dx)) I A w) (zK zm_70 111 [some (.ref (4 * j)), some (.ref 73), some (.int (Int32.ofNat k_rv)), some (.int (Int32.ofNat x3)), none, none, none, none] [] p Q))) ∧ (8 ≤ k_rv → Q (.inl (some (.long (0 : Int64)))) (zh (P, T, (yc, yl), (uc, ul), (dc, dp, (bif decide (df = -1) then (Int32.ofNat x4) else df), dw, dx)) I A w)))))))))) : zW zm_70 58 [some (.ref (4 * j)), some (.ref 73), some (.int (Int32.ofNat x2)), some (.int (Int32.ofNat x3)), some (.int (Int32.ofNat x4)), none, some (.int x6), none] [.int rv] p (zh (P, T, (yc, yl), (uc, ul), (dc, dp, df, dw, dx)) I A w) Q := by
  refine zW_bh (zcmp .lt rv (Int32.ofNat x2)) 72 66 [some (.ref (4 * j)), some (.ref 73), some (.int (Int32.ofNat x2)), some (.int (Int32.ofNat x3)), some (.int (Int32.ofNat x4)), none, some (.int x6), some (.int rv)] [] 4 (fun f => rfl) (fun c => ?_) (fun c => ?_)
  · have c9 : rv < (Int32.ofNat x2) := (of_decide_eq_true c)
    replace H := H.1 c9
    refine zW_gh 73 [some (.ref (4 * j)), some (.ref 73), some (.int (Int32.ofNat x2)), some (.int (Int32.ofNat x3)), some (.int (Int32.ofNat x4)), none, some (.int x6), some (.int rv)] [.ref 73] 1 (fun f => rfl) ?_
    refine zW_cl rfl rfl rfl rfl rfl (s53 ?_)
    change zW zm_70 76 [some (.ref (4 * j)), some (.ref 73), some (.int (Int32.ofNat x2)), some (.int (Int32.ofNat x3)), some (.int (Int32.ofNat x4)), none, some (.int x6), some (.int rv)] [.int (zbi (!decide (df = -1)))] p _ Q
    refine zW_bh (zcmp .ne (zbi (!decide (df = -1))) (0 : Int32)) 91 79 [some (.ref (4 * j)), some (.ref 73), some (.int (Int32.ofNat x2)), some (.int (Int32.ofNat x3)), some (.int (Int32.ofNat x4)), none, some (.int x6), some (.int rv)] [] 1 (fun f => rfl) (fun c => ?_) (fun c => ?_)
    · have c9 : (!decide (df = -1)) = true := ((zcB_ne _).symm.trans c)
      replace H := H.1 c9
      refine zW_gh 92 [some (.ref (4 * j)), some (.ref 73), some (.int (Int32.ofNat x2)), some (.int (Int32.ofNat x3)), some (.int (Int32.ofNat x4)), none, some (.int x6), some (.int rv)] [.long (0 : Int64)] 1 (fun f => rfl) ?_
      exact zW_rh (some (.long (0 : Int64))) 1 (fun f => rfl) H
    · have c9 : (!decide (df = -1)) = false := ((zcB_ne _).symm.trans c)
      replace H := H.2 c9
      refine zW_bh (zcmp .lt rv (0 : Int32)) 91 84 [some (.ref (4 * j)), some (.ref 73), some (.int (Int32.ofNat x2)), some (.int (Int32.ofNat x3)), some (.int (Int32.ofNat x4)), none, some (.int x6), some (.int rv)] [] 2 (fun f => rfl) (fun c => ?_) (fun c => ?_)
      · have c9 : rv < (0 : Int32) := (of_decide_eq_true c)
        replace H := H.1 c9
        refine zW_gh 92 [some (.ref (4 * j)), some (.ref 73), some (.int (Int32.ofNat x2)), some (.int (Int32.ofNat x3)), some (.int (Int32.ofNat x4)), none, some (.int x6), some (.int rv)] [.long (0 : Int64)] 1 (fun f => rfl) ?_
        exact zW_rh (some (.long (0 : Int64))) 1 (fun f => rfl) H
      · have c9 : ¬ rv < (0 : Int32) := (of_decide_eq_false c)
        replace H := H.2 c9
        obtain ⟨k_rv, h_k_rv, e_k_rv⟩ := zNn c9
        replace H := H k_rv h_k_rv e_k_rv
        subst e_k_rv
        refine zW_bh (zcmp .lt (Int32.ofNat k_rv) (8 : Int32)) 93 91 [some (.ref (4 * j)), some (.ref 73), some (.int (Int32.ofNat x2)), some (.int (Int32.ofNat x3)), some (.int (Int32.ofNat x4)), none, some (.int x6), some (.int (Int32.ofNat k_rv))] [] 3 (fun f => rfl) (fun c => ?_) (fun c => ?_)
        · have c9 : k_rv < 8 := (of_decide_eq_true ((zcN_lt (a := k_rv) (b := 8) rfl rfl h_k_rv (by decide)).symm.trans c))
          replace H := H.1 c9
          refine zW_gh 94 [some (.ref (4 * j)), some (.ref 73), some (.int (Int32.ofNat x2)), some (.int (Int32.ofNat x3)), some (.int (Int32.ofNat x4)), none, some (.int x6), some (.int (Int32.ofNat k_rv))] [.ref (4 * j)] 1 (fun f => rfl) ?_
          refine zW_gf rfl (by omega) (zh_P0 h1_j h4_j) rfl (v := .ref (4 * j + 3)) rfl ?_
          refine zW_gh 101 [some (.ref (4 * j)), some (.ref 73), some (.int (Int32.ofNat x2)), some (.int (Int32.ofNat x3)), some (.int (Int32.ofNat x4)), none, some (.int x6), some (.int (Int32.ofNat k_rv))] [.int x6, .int (Int32.ofNat k_rv), .ref (4 * j + 3)] 2 (fun f => rfl) ?_
          obtain ⟨h1, H⟩ := H
          refine zW_iast rfl (by omega) (zh_P (c := 3) h1_j h4_j (by decide)) (by decide) (zuF_P3 h1_j h4_j) rfl h1 ?_
          refine zW_gh 108 [some (.ref (4 * j)), some (.ref 73), some (.int (Int32.ofNat k_rv)), some (.int (Int32.ofNat x3)), some (.int (Int32.ofNat x4)), none, some (.int x6), some (.int (Int32.ofNat k_rv))] [.int (43 : Int32), .ref 73] 4 (fun f => rfl) ?_
          refine zW_fg (L' := [some (.ref (4 * j)), some (.ref 73), some (.int (Int32.ofNat k_rv)), some (.int (Int32.ofNat x3)), none, none, none, none]) (zle_s _ (zle_s _ (zle_s _ (zle_s _ (zle_n _ (zle_s _ (zle_n _ (zle_n _ zle_nil)))))))) ?_
          exact zW_cl rfl rfl rfl rfl rfl H
        · have c9 : 8 ≤ k_rv := (Nat.le_of_not_lt (of_decide_eq_false ((zcN_lt (a := k_rv) (b := 8) rfl rfl h_k_rv (by decide)).symm.trans c)))
          replace H := H.2 c9
          refine zW_gh 92 [some (.ref (4 * j)), some (.ref 73), some (.int (Int32.ofNat x2)), some (.int (Int32.ofNat x3)), some (.int (Int32.ofNat x4)), none, some (.int x6), some (.int (Int32.ofNat k_rv))] [.long (0 : Int64)] 1 (fun f => rfl) ?_
          exact zW_rh (some (.long (0 : Int64))) 1 (fun f => rfl) H
  · have c9 : ¬ rv < (Int32.ofNat x2) := (of_decide_eq_false c)
    replace H := H.2 c9
    refine zW_gh 69 [some (.ref (4 * j)), some (.ref 73), some (.int (Int32.ofNat x2)), some (.int (Int32.ofNat x3)), some (.int (Int32.ofNat x4)), none, some (.int x6), some (.int rv)] [.int (Int32.ofNat x4), .ref 73] 2 (fun f => rfl) ?_
    refine zW_cl rfl rfl rfl rfl rfl (s52 ?_)
    change zW zm_70 72 [some (.ref (4 * j)), some (.ref 73), some (.int (Int32.ofNat x2)), some (.int (Int32.ofNat x3)), some (.int (Int32.ofNat x4)), none, some (.int x6), some (.int rv)] [] p _ Q
    refine zW_gh 73 [some (.ref (4 * j)), some (.ref 73), some (.int (Int32.ofNat x2)), some (.int (Int32.ofNat x3)), some (.int (Int32.ofNat x4)), none, some (.int x6), some (.int rv)] [.ref 73] 1 (fun f => rfl) ?_
    refine zW_cl rfl rfl rfl rfl rfl (s53 ?_)
    change zW zm_70 76 [some (.ref (4 * j)), some (.ref 73), some (.int (Int32.ofNat x2)), some (.int (Int32.ofNat x3)), some (.int (Int32.ofNat x4)), none, some (.int x6), some (.int rv)] [.int (zbi (!decide ((bif decide (df = -1) then (Int32.ofNat x4) else df) = -1)))] p _ Q
    refine zW_bh (zcmp .ne (zbi (!decide ((bif decide (df = -1) then (Int32.ofNat x4) else df) = -1))) (0 : Int32)) 91 79 [some (.ref (4 * j)), some (.ref 73), some (.int (Int32.ofNat x2)), some (.int (Int32.ofNat x3)), some (.int (Int32.ofNat x4)), none, some (.int x6), some (.int rv)] [] 1 (fun f => rfl) (fun c => ?_) (fun c => ?_)
    · have c9 : (!decide ((bif decide (df = -1) then (Int32.ofNat x4) else df) = -1)) = true := ((zcB_ne _).symm.trans c)
      replace H := H.1 c9
      refine zW_gh 92 [some (.ref (4 * j)), some (.ref 73), some (.int (Int32.ofNat x2)), some (.int (Int32.ofNat x3)), some (.int (Int32.ofNat x4)), none, some (.int x6), some (.int rv)] [.long (0 : Int64)] 1 (fun f => rfl) ?_
      exact zW_rh (some (.long (0 : Int64))) 1 (fun f => rfl) H
    · have c9 : (!decide ((bif decide (df = -1) then (Int32.ofNat x4) else df) = -1)) = false := ((zcB_ne _).symm.trans c)
      replace H := H.2 c9
      refine zW_bh (zcmp .lt rv (0 : Int32)) 91 84 [some (.ref (4 * j)), some (.ref 73), some (.int (Int32.ofNat x2)), some (.int (Int32.ofNat x3)), some (.int (Int32.ofNat x4)), none, some (.int x6), some (.int rv)] [] 2 (fun f => rfl) (fun c => ?_) (fun c => ?_)
      · have c9 : rv < (0 : Int32) := (of_decide_eq_true c)
        replace H := H.1 c9
        refine zW_gh 92 [some (.ref (4 * j)), some (.ref 73), some (.int (Int32.ofNat x2)), some (.int (Int32.ofNat x3)), some (.int (Int32.ofNat x4)), none, some (.int x6), some (.int rv)] [.long (0 : Int64)] 1 (fun f => rfl) ?_
        exact zW_rh (some (.long (0 : Int64))) 1 (fun f => rfl) H
      · have c9 : ¬ rv < (0 : Int32) := (of_decide_eq_false c)
        replace H := H.2 c9
        obtain ⟨k_rv, h_k_rv, e_k_rv⟩ := zNn c9
        replace H := H k_rv h_k_rv e_k_rv
        subst e_k_rv
        refine zW_bh (zcmp .lt (Int32.ofNat k_rv) (8 : Int32)) 93 91 [some (.ref (4 * j)), some (.ref 73), some (.int (Int32.ofNat x2)), some (.int (Int32.ofNat x3)), some (.int (Int32.ofNat x4)), none, some (.int x6), some (.int (Int32.ofNat k_rv))] [] 3 (fun f => rfl) (fun c => ?_) (fun c => ?_)
        · have c9 : k_rv < 8 := (of_decide_eq_true ((zcN_lt (a := k_rv) (b := 8) rfl rfl h_k_rv (by decide)).symm.trans c))
          replace H := H.1 c9
          refine zW_gh 94 [some (.ref (4 * j)), some (.ref 73), some (.int (Int32.ofNat x2)), some (.int (Int32.ofNat x3)), some (.int (Int32.ofNat x4)), none, some (.int x6), some (.int (Int32.ofNat k_rv))] [.ref (4 * j)] 1 (fun f => rfl) ?_
          refine zW_gf rfl (by omega) (zh_P0 h1_j h4_j) rfl (v := .ref (4 * j + 3)) rfl ?_
          refine zW_gh 101 [some (.ref (4 * j)), some (.ref 73), some (.int (Int32.ofNat x2)), some (.int (Int32.ofNat x3)), some (.int (Int32.ofNat x4)), none, some (.int x6), some (.int (Int32.ofNat k_rv))] [.int x6, .int (Int32.ofNat k_rv), .ref (4 * j + 3)] 2 (fun f => rfl) ?_
          obtain ⟨h2, H⟩ := H
          refine zW_iast rfl (by omega) (zh_P (c := 3) h1_j h4_j (by decide)) (by decide) (zuF_P3 h1_j h4_j) rfl h2 ?_
          refine zW_gh 108 [some (.ref (4 * j)), some (.ref 73), some (.int (Int32.ofNat k_rv)), some (.int (Int32.ofNat x3)), some (.int (Int32.ofNat x4)), none, some (.int x6), some (.int (Int32.ofNat k_rv))] [.int (43 : Int32), .ref 73] 4 (fun f => rfl) ?_
          refine zW_fg (L' := [some (.ref (4 * j)), some (.ref 73), some (.int (Int32.ofNat k_rv)), some (.int (Int32.ofNat x3)), none, none, none, none]) (zle_s _ (zle_s _ (zle_s _ (zle_s _ (zle_n _ (zle_s _ (zle_n _ (zle_n _ zle_nil)))))))) ?_
          exact zW_cl rfl rfl rfl rfl rfl H
        · have c9 : 8 ≤ k_rv := (Nat.le_of_not_lt (of_decide_eq_false ((zcN_lt (a := k_rv) (b := 8) rfl rfl h_k_rv (by decide)).symm.trans c)))
          replace H := H.2 c9
          refine zW_gh 92 [some (.ref (4 * j)), some (.ref 73), some (.int (Int32.ofNat x2)), some (.int (Int32.ofNat x3)), some (.int (Int32.ofNat x4)), none, some (.int x6), some (.int (Int32.ofNat k_rv))] [.long (0 : Int64)] 1 (fun f => rfl) ?_
          exact zW_rh (some (.long (0 : Int64))) 1 (fun f => rfl) H
theorem b70_46 {P : zPt} {T : Nat → zX} {yc uc : Nat → Int32} {yl ul dp dw : Nat} {df : Int32} {dx : Bool} {dc : Nat → Int64} {I : zIt} {A : zAt} {w : Nat → Int64} {p : Nat × Nat} {Q : zR → zH → Prop} {x2 x3 x4 j : Nat} {rv : Int32} {x5 : Bool} (H : zT zm_71 [.ref 73, .int (zbi x5)] p (zh (P, T, (yc, yl), (uc, ul), (dc, dp, df, dw, dx)) I A w) (zK zm_70 58 [some (.ref (4 * j)), some (.ref 73), some (.int (Int32.ofNat x2)), some (.int (Int32.ofNat x3)), some (.int (Int32.ofNat x4)), none, some (.int rv), none] [] p Q)) : zW zm_70 46 [some (.ref (4 * j)), some (.ref 73), some (.int (Int32.ofNat x2)), some (.int (Int32.ofNat x3)), some (.int (Int32.ofNat x4)), some (.int (zbi x5)), none, none] [.int rv] p (zh (P, T, (yc, yl), (uc, ul), (dc, dp, df, dw, dx)) I A w) Q := by
  refine zW_gh 55 [some (.ref (4 * j)), some (.ref 73), some (.int (Int32.ofNat x2)), some (.int (Int32.ofNat x3)), some (.int (Int32.ofNat x4)), some (.int (zbi x5)), some (.int rv), none] [.int (zbi x5), .ref 73] 4 (fun f => rfl) ?_
  refine zW_fg (L' := [some (.ref (4 * j)), some (.ref 73), some (.int (Int32.ofNat x2)), some (.int (Int32.ofNat x3)), some (.int (Int32.ofNat x4)), none, some (.int rv), none]) (zle_s _ (zle_s _ (zle_s _ (zle_s _ (zle_s _ (zle_n _ (zle_s _ (zle_s _ zle_nil)))))))) ?_
  exact zW_cl rfl rfl rfl rfl rfl H
theorem b70_111 {P : zPt} {T : Nat → zX} {yc uc : Nat → Int32} {yl ul dp dw : Nat} {df : Int32} {dx : Bool} {dc : Nat → Int64} {I : zIt} {A : zAt} {w : Nat → Int64} {p : Nat × Nat} {Q : zR → zH → Prop} {x2 x3 j : Nat} {rv : Bool} (h1_j : 1 ≤ j) (h4_j : j ≤ 4) (H : ((rv = true → zW zm_70 13 [some (.ref (4 * j)), some (.ref 73), some (.int (Int32.ofNat x2)), some (.int (Int32.ofNat (x3 + 1))), none, none, none, none] [] p (zh (P, T, (yc, yl), (uc, ul), (dc, dp, df, dw, dx)) I A w) Q) ∧ (rv = false → zT zm_62 [.ref (4 * j), .ref (4 * j + 3)] p (zh (P, T, (yc, yl), (uc, ul), (dc, dp, df, dw, dx)) I A w) (zK zm_70 131 [none, none, none, none, none, none, none, none] [] p Q)))) : zW zm_70 111 [some (.ref (4 * j)), some (.ref 73), some (.int (Int32.ofNat x2)), some (.int (Int32.ofNat x3)), none, none, none, none] [.int (zbi rv)] p (zh (P, T, (yc, yl), (uc, ul), (dc, dp, df, dw, dx)) I A w) Q := by
  refine zW_bh (zcmp .ne (zbi rv) (0 : Int32)) 117 114 [some (.ref (4 * j)), some (.ref 73), some (.int (Int32.ofNat x2)), some (.int (Int32.ofNat x3)), none, none, none, none] [] 1 (fun f => rfl) (fun c => ?_) (fun c => ?_)
  · have c9 : rv = true := ((zcB_ne _).symm.trans c)
    replace H := H.1 c9
    refine zW_inc [some (.ref (4 * j)), some (.ref 73), some (.int (Int32.ofNat x2)), some (.int ((Int32.ofNat x3) + (1 : Int32))), none, none, none, none] rfl rfl rfl ?_
    rw [show ((Int32.ofNat x3) + (1 : Int32)) = Int32.ofNat (x3 + 1) from (zN_a rfl rfl)]
    refine zW_gh 13 [some (.ref (4 * j)), some (.ref 73), some (.int (Int32.ofNat x2)), some (.int (Int32.ofNat (x3 + 1))), none, none, none, none] [] 1 (fun f => rfl) ?_
    exact H
  · have c9 : rv = false := ((zcB_ne _).symm.trans c)
    replace H := H.2 c9
    refine zW_gh 125 [some (.ref (4 * j)), some (.ref 73), some (.int (Int32.ofNat x2)), some (.int (Int32.ofNat x3)), none, none, none, none] [.ref (4 * j), .ref (4 * j)] 3 (fun f => rfl) ?_
    refine zW_gf rfl (by omega) (zh_P0 h1_j h4_j) rfl (v := .ref (4 * j + 3)) rfl ?_
    refine zW_fg (L' := [none, none, none, none, none, none, none, none]) (zle_n _ (zle_n _ (zle_n _ (zle_n _ (zle_s _ (zle_s _ (zle_s _ (zle_s _ zle_nil)))))))) ?_
    exact zW_cv rfl rfl rfl (by omega) (zh_P0 h1_j h4_j) rfl rfl rfl rfl H
theorem b54 {P : zPt} {T : Nat → zX} {yc uc : Nat → Int32} {yl ul dp dw : Nat} {df : Int32} {dx : Bool} {dc : Nat → Int64} {I : zIt} {A : zAt} {w : Nat → Int64} {p : Nat × Nat} {Q : zR → zH → Prop} {a1 a0 : Nat} (H : (a1 < 2147483648 ∧ ((¬ a1 = 0 → zW zm_54 22 [some (.ref 73), some (.ref (zra a0)), some (.int (Int32.ofNat a1)), some (.int (Int32.ofNat dw)), some (.int (Int32.ofNat 0)), some (.int (Int32.ofNat 1)), some (.int (Int32.ofNat 0))] [] p (zh (P, T, (yc, yl), (uc, ul), (dc, dp, df, dw, dx)) I A w) Q) ∧ (a1 = 0 → zW zm_54 22 [some (.ref 73), some (.ref (zra a0)), some (.int (Int32.ofNat a1)), some (.int (Int32.ofNat 4)), some (.int (Int32.ofNat 0)), some (.int (Int32.ofNat 1)), some (.int (Int32.ofNat 0))] [] p (zh (P, T, (yc, yl), (uc, ul), (dc, dp, df, dw, dx)) I A w) Q)))) : zT zm_54 [.ref 73, .ref (zra a0), .int (Int32.ofNat a1)] p (zh (P, T, (yc, yl), (uc, ul), (dc, dp, df, dw, dx)) I A w) Q := by
  change zW zm_54 0 [some (.ref 73), some (.ref (zra a0)), some (.int (Int32.ofNat a1)), none, none, none, none] [] p _ Q
  obtain ⟨h1, H⟩ := H
  refine zW_bh (zcmp .ne (Int32.ofNat a1) (0 : Int32)) 8 4 [some (.ref 73), some (.ref (zra a0)), some (.int (Int32.ofNat a1)), none, none, none, none] [] 2 (fun f => rfl) (fun c => ?_) (fun c => ?_)
  · have c9 : ¬ a1 = 0 := (by have c := (zcN_ne (a := a1) (b := 0) rfl rfl h1 (by decide)).symm.trans c; simpa using c)
    replace H := H.1 c9
    refine zW_gh 22 [some (.ref 73), some (.ref (zra a0)), some (.int (Int32.ofNat a1)), some (.int (Int32.ofNat dw)), some (.int (0 : Int32)), some (.int (1 : Int32)), some (.int (0 : Int32))] [] 9 (fun f => rfl) ?_
    exact H
  · have c9 : a1 = 0 := (by have c := (zcN_ne (a := a1) (b := 0) rfl rfl h1 (by decide)).symm.trans c; simpa using c)
    replace H := H.2 c9
    refine zW_gh 22 [some (.ref 73), some (.ref (zra a0)), some (.int (Int32.ofNat a1)), some (.int (4 : Int32)), some (.int (0 : Int32)), some (.int (1 : Int32)), some (.int (0 : Int32))] [] 9 (fun f => rfl) ?_
    exact H
theorem b54_22 {P : zPt} {T : Nat → zX} {yc uc : Nat → Int32} {yl ul dp dw : Nat} {df : Int32} {dx : Bool} {dc : Nat → Int64} {I : zIt} {A : zAt} {w : Nat → Int64} {p : Nat × Nat} {Q : zR → zH → Prop} {x2 x3 x4 x5 x6 a0 : Nat} (H : (x6 < 2147483648 ∧ (x3 < 2147483648 ∧ ((x3 ≤ x6 → (x2 < 2147483648 ∧ ((¬ x2 = 0 → (x4 < 2147483648 ∧ (dw < 2147483648 ∧ ((dw ≤ x4 → ((x2 = 3 → zT zm_50 [.ref 73, .int (93 : Int32)] p (zh (P, T, (yc, yl), (uc, ul), (dc, dp, df, dw, dx)) I A w) (zK zm_54 144 [some (.ref 73), none, none, none, none, none, none] [] p Q)) ∧ (¬ x2 = 3 → zT zm_51 [.ref 73, .int (59 : Int32)] p (zh (P, T, (yc, yl), (uc, ul), (dc, dp, df, dw, dx)) I A w) (zK zm_54 135 [some (.ref 73), none, none, none, none, none, none] [] p Q)))) ∧ (x4 < dw → Q (.inl none) (zh (P, T, (yc, yl), (uc, ul), (dc, dp, (bif decide (df = -1) then (Int32.ofNat dp) else df), dw, dx)) I A w)))))) ∧ (x2 = 0 → (x4 < 2147483648 ∧ ((x4 ≤ x4 → ((x2 = 3 → zT zm_50 [.ref 73, .int (93 : Int32)] p (zh (P, T, (yc, yl), (uc, ul), (dc, dp, df, x4, dx)) I A w) (zK zm_54 144 [some (.ref 73), none, none, none, none, none, none] [] p Q)) ∧ (¬ x2 = 3 → zT zm_51 [.ref 73, .int (59 : Int32)] p (zh (P, T, (yc, yl), (uc, ul), (dc, dp, df, x4, dx)) I A w) (zK zm_54 135 [some (.ref 73), none, none, none, none, none, none] [] p Q)))) ∧ (x4 < x4 → Q (.inl none) (zh (P, T, (yc, yl), (uc, ul), (dc, dp, (bif decide (df = -1) then (Int32.ofNat dp) else df), x4, dx)) I A w)))))))) ∧ (x6 < x3 → ((4 ≤ x6 → (x2 < 2147483648 ∧ ((¬ x2 = 0 → (x4 < 2147483648 ∧ (dw < 2147483648 ∧ ((dw ≤ x4 → ((x2 = 3 → zT zm_50 [.ref 73, .int (93 : Int32)] p (zh (P, T, (yc, yl), (uc, ul), (dc, dp, df, dw, dx)) I A w) (zK zm_54 144 [some (.ref 73), none, none, none, none, none, none] [] p Q)) ∧ (¬ x2 = 3 → zT zm_51 [.ref 73, .int (59 : Int32)] p (zh (P, T, (yc, yl), (uc, ul), (dc, dp, df, dw, dx)) I A w) (zK zm_54 135 [some (.ref 73), none, none, none, none, none, none] [] p Q)))) ∧ (x4 < dw → Q (.inl none) (zh (P, T, (yc, yl), (uc, ul), (dc, dp, (bif decide (df = -1) then (Int32.ofNat dp) else df), dw, dx)) I A w)))))) ∧ (x2 = 0 → (x4 < 2147483648 ∧ ((x4 ≤ x4 → ((x2 = 3 → zT zm_50 [.ref 73, .int (93 : Int32)] p (zh (P, T, (yc, yl), (uc, ul), (dc, dp, df, x4, dx)) I A w) (zK zm_54 144 [some (.ref 73), none, none, none, none, none, none] [] p Q)) ∧ (¬ x2 = 3 → zT zm_51 [.ref 73, .int (59 : Int32)] p (zh (P, T, (yc, yl), (uc, ul), (dc, dp, df, x4, dx)) I A w) (zK zm_54 135 [some (.ref 73), none, none, none, none, none, none] [] p Q)))) ∧ (x4 < x4 → Q (.inl none) (zh (P, T, (yc, yl), (uc, ul), (dc, dp, (bif decide (df = -1) then (Int32.ofNat dp) else df), x4, dx)) I A w)))))))) ∧ (x6 < 4 → (x5 < 2147483648 ∧ ((x5 = 0 → (x2 < 2147483648 ∧ ((¬ x2 = 0 → (x4 < 2147483648 ∧ (dw < 2147483648 ∧ ((dw ≤ x4 → ((x2 = 3 → zT zm_50 [.ref 73, .int (93 : Int32)] p (zh (P, T, (yc, yl), (uc, ul), (dc, dp, df, dw, dx)) I A w) (zK zm_54 144 [some (.ref 73), none, none, none, none, none, none] [] p Q)) ∧ (¬ x2 = 3 → zT zm_51 [.ref 73, .int (59 : Int32)] p (zh (P, T, (yc, yl), (uc, ul), (dc, dp, df, dw, dx)) I A w) (zK zm_54 135 [some (.ref 73), none, none, none, none, none, none] [] p Q)))) ∧ (x4 < dw → Q (.inl none) (zh (P, T, (yc, yl), (uc, ul), (dc, dp, (bif decide (df = -1) then (Int32.ofNat dp) else df), dw, dx)) I A w)))))) ∧ (x2 = 0 → (x4 < 2147483648 ∧ ((x4 ≤ x4 → ((x2 = 3 → zT zm_50 [.ref 73, .int (93 : Int32)] p (zh (P, T, (yc, yl), (uc, ul), (dc, dp, df, x4, dx)) I A w) (zK zm_54 144 [some (.ref 73), none, none, none, none, none, none] [] p Q)) ∧ (¬ x2 = 3 → zT zm_51 [.ref 73, .int (59 : Int32)] p (zh (P, T, (yc, yl), (uc, ul), (dc, dp, df, x4, dx)) I A w) (zK zm_54 135 [some (.ref 73), none, none, none, none, none, none] [] p Q)))) ∧ (x4 < x4 → Q (.inl none) (zh (P, T, (yc, yl), (uc, ul), (dc, dp, (bif decide (df = -1) then (Int32.ofNat dp) else df), x4, dx)) I A w)))))))) ∧ (¬ x5 = 0 → zT (zrm a0 zm_24 zm_9 zm_70) [.ref (zra a0), .ref 73] p (zh (P, T, (yc, yl), (uc, ul), (dc, dp, df, dw, dx)) I A w) (zK zm_54 54 [some (.ref 73), some (.ref (zra a0)), some (.int (Int32.ofNat x2)), some (.int (Int32.ofNat x3)), some (.int (Int32.ofNat x4)), none, some (.int (Int32.ofNat x6))] [.int (Int32.ofNat ((x2 * 4) + x6)), .ref 74] p Q))))))))))) : zW zm_54 22 [some (.ref 73), some (.ref (zra a0)), some (.int (Int32.ofNat x2)), some (.int (Int32.ofNat x3)), some (.int (Int32.ofNat x4)), some (.int (Int32.ofNat x5)), some (.int (Int32.ofNat x6))] [] p (zh (P, T, (yc, yl), (uc, ul), (dc, dp, df, dw, dx)) I A w) Q := by
  obtain ⟨h1, H⟩ := H
  obtain ⟨h2, H⟩ := H
  refine zW_bh (zcmp .ge (Int32.ofNat x6) (Int32.ofNat x3)) 94 28 [some (.ref 73), some (.ref (zra a0)), some (.int (Int32.ofNat x2)), some (.int (Int32.ofNat x3)), some (.int (Int32.ofNat x4)), some (.int (Int32.ofNat x5)), some (.int (Int32.ofNat x6))] [] 3 (fun f => rfl) (fun c => ?_) (fun c => ?_)
  · have c9 : x3 ≤ x6 := (of_decide_eq_true ((zcN_ge (a := x6) (b := x3) rfl rfl h1 h2).symm.trans c))
    replace H := H.1 c9
    obtain ⟨h3, H⟩ := H
    refine zW_bh (zcmp .ne (Int32.ofNat x2) (0 : Int32)) 104 98 [some (.ref 73), some (.ref (zra a0)), some (.int (Int32.ofNat x2)), some (.int (Int32.ofNat x3)), some (.int (Int32.ofNat x4)), some (.int (Int32.ofNat x5)), some (.int (Int32.ofNat x6))] [] 2 (fun f => rfl) (fun c => ?_) (fun c => ?_)
    · have c9 : ¬ x2 = 0 := (by have c := (zcN_ne (a := x2) (b := 0) rfl rfl h3 (by decide)).symm.trans c; simpa using c)
      replace H := H.1 c9
      obtain ⟨h4, H⟩ := H
      obtain ⟨h5, H⟩ := H
      refine zW_bh (zcmp .ge (Int32.ofNat x4) (Int32.ofNat dw)) 124 113 [some (.ref 73), some (.ref (zra a0)), some (.int (Int32.ofNat x2)), some (.int (Int32.ofNat x3)), some (.int (Int32.ofNat x4)), some (.int (Int32.ofNat x5)), some (.int (Int32.ofNat x6))] [] 4 (fun f => rfl) (fun c => ?_) (fun c => ?_)
      · have c9 : dw ≤ x4 := (of_decide_eq_true ((zcN_ge (a := x4) (b := dw) rfl rfl h4 h5).symm.trans c))
        replace H := H.1 c9
        refine zW_bh (zcmp .eq (Int32.ofNat x2) (3 : Int32)) 138 129 [some (.ref 73), some (.ref (zra a0)), some (.int (Int32.ofNat x2)), some (.int (Int32.ofNat x3)), some (.int (Int32.ofNat x4)), some (.int (Int32.ofNat x5)), some (.int (Int32.ofNat x6))] [] 3 (fun f => rfl) (fun c => ?_) (fun c => ?_)
        · have c9 : x2 = 3 := (of_decide_eq_true ((zcN_eq (a := x2) (b := 3) rfl rfl h3 (by decide)).symm.trans c))
          replace H := H.1 c9
          refine zW_gh 141 [some (.ref 73), some (.ref (zra a0)), some (.int (Int32.ofNat x2)), some (.int (Int32.ofNat x3)), some (.int (Int32.ofNat x4)), some (.int (Int32.ofNat x5)), some (.int (Int32.ofNat x6))] [.int (93 : Int32), .ref 73] 2 (fun f => rfl) ?_
          refine zW_fg (L' := [some (.ref 73), none, none, none, none, none, none]) (zle_s _ (zle_n _ (zle_n _ (zle_n _ (zle_n _ (zle_n _ (zle_n _ zle_nil))))))) ?_
          exact zW_cl rfl rfl rfl rfl rfl H
        · have c9 : ¬ x2 = 3 := (of_decide_eq_false ((zcN_eq (a := x2) (b := 3) rfl rfl h3 (by decide)).symm.trans c))
          replace H := H.2 c9
          refine zW_gh 132 [some (.ref 73), some (.ref (zra a0)), some (.int (Int32.ofNat x2)), some (.int (Int32.ofNat x3)), some (.int (Int32.ofNat x4)), some (.int (Int32.ofNat x5)), some (.int (Int32.ofNat x6))] [.int (59 : Int32), .ref 73] 2 (fun f => rfl) ?_
          refine zW_fg (L' := [some (.ref 73), none, none, none, none, none, none]) (zle_s _ (zle_n _ (zle_n _ (zle_n _ (zle_n _ (zle_n _ (zle_n _ zle_nil))))))) ?_
          exact zW_cl rfl rfl rfl rfl rfl H
      · have c9 : x4 < dw := (Nat.lt_of_not_le (of_decide_eq_false ((zcN_ge (a := x4) (b := dw) rfl rfl h4 h5).symm.trans c)))
        replace H := H.2 c9
        refine zW_gh 118 [some (.ref 73), some (.ref (zra a0)), some (.int (Int32.ofNat x2)), some (.int (Int32.ofNat x3)), some (.int (Int32.ofNat x4)), some (.int (Int32.ofNat x5)), some (.int (Int32.ofNat x6))] [.int (Int32.ofNat dp), .ref 73] 3 (fun f => rfl) ?_
        refine zW_cl rfl rfl rfl rfl rfl (s52 ?_)
        change zW zm_54 121 [some (.ref 73), some (.ref (zra a0)), some (.int (Int32.ofNat x2)), some (.int (Int32.ofNat x3)), some (.int (Int32.ofNat x4)), some (.int (Int32.ofNat x5)), some (.int (Int32.ofNat x6))] [] p _ Q
        refine zW_gh 149 [some (.ref 73), some (.ref (zra a0)), some (.int (Int32.ofNat x2)), some (.int (Int32.ofNat x3)), some (.int (Int32.ofNat x4)), some (.int (Int32.ofNat x5)), some (.int (Int32.ofNat x6))] [] 1 (fun f => rfl) ?_
        exact zW_rh none 1 (fun f => rfl) H
    · have c9 : x2 = 0 := (by have c := (zcN_ne (a := x2) (b := 0) rfl rfl h3 (by decide)).symm.trans c; simpa using c)
      replace H := H.2 c9
      refine zW_gh 101 [some (.ref 73), some (.ref (zra a0)), some (.int (Int32.ofNat x2)), some (.int (Int32.ofNat x3)), some (.int (Int32.ofNat x4)), some (.int (Int32.ofNat x5)), some (.int (Int32.ofNat x6))] [.int (Int32.ofNat x4), .ref 73] 2 (fun f => rfl) ?_
      refine zW_go (pc' := 104) (L' := [some (.ref 73), some (.ref (zra a0)), some (.int (Int32.ofNat x2)), some (.int (Int32.ofNat x3)), some (.int (Int32.ofNat x4)), some (.int (Int32.ofNat x5)), some (.int (Int32.ofNat x6))]) (st' := []) (h' := (va_up (zh (P, T, (yc, yl), (uc, ul), (dc, dp, df, dw, dx)) I A w) 73 (.inr (3, [.ref 69, .ref 74, .int (Int32.ofNat dp), .int df, .int (Int32.ofNat x4), .int (zbi dx)])))) 1 (fun f => rfl) ?_
      refine zW_eq zu_73 ?_
      obtain ⟨h6, H⟩ := H
      refine zW_bh (zcmp .ge (Int32.ofNat x4) (Int32.ofNat x4)) 124 113 [some (.ref 73), some (.ref (zra a0)), some (.int (Int32.ofNat x2)), some (.int (Int32.ofNat x3)), some (.int (Int32.ofNat x4)), some (.int (Int32.ofNat x5)), some (.int (Int32.ofNat x6))] [] 4 (fun f => rfl) (fun c => ?_) (fun c => ?_)
      · have c9 : x4 ≤ x4 := (of_decide_eq_true ((zcN_ge (a := x4) (b := x4) rfl rfl h6 h6).symm.trans c))
        replace H := H.1 c9
        refine zW_bh (zcmp .eq (Int32.ofNat x2) (3 : Int32)) 138 129 [some (.ref 73), some (.ref (zra a0)), some (.int (Int32.ofNat x2)), some (.int (Int32.ofNat x3)), some (.int (Int32.ofNat x4)), some (.int (Int32.ofNat x5)), some (.int (Int32.ofNat x6))] [] 3 (fun f => rfl) (fun c => ?_) (fun c => ?_)
        · have c9 : x2 = 3 := (of_decide_eq_true ((zcN_eq (a := x2) (b := 3) rfl rfl h3 (by decide)).symm.trans c))
          replace H := H.1 c9
          refine zW_gh 141 [some (.ref 73), some (.ref (zra a0)), some (.int (Int32.ofNat x2)), some (.int (Int32.ofNat x3)), some (.int (Int32.ofNat x4)), some (.int (Int32.ofNat x5)), some (.int (Int32.ofNat x6))] [.int (93 : Int32), .ref 73] 2 (fun f => rfl) ?_
          refine zW_fg (L' := [some (.ref 73), none, none, none, none, none, none]) (zle_s _ (zle_n _ (zle_n _ (zle_n _ (zle_n _ (zle_n _ (zle_n _ zle_nil))))))) ?_
          exact zW_cl rfl rfl rfl rfl rfl H
        · have c9 : ¬ x2 = 3 := (of_decide_eq_false ((zcN_eq (a := x2) (b := 3) rfl rfl h3 (by decide)).symm.trans c))
          replace H := H.2 c9
          refine zW_gh 132 [some (.ref 73), some (.ref (zra a0)), some (.int (Int32.ofNat x2)), some (.int (Int32.ofNat x3)), some (.int (Int32.ofNat x4)), some (.int (Int32.ofNat x5)), some (.int (Int32.ofNat x6))] [.int (59 : Int32), .ref 73] 2 (fun f => rfl) ?_
          refine zW_fg (L' := [some (.ref 73), none, none, none, none, none, none]) (zle_s _ (zle_n _ (zle_n _ (zle_n _ (zle_n _ (zle_n _ (zle_n _ zle_nil))))))) ?_
          exact zW_cl rfl rfl rfl rfl rfl H
      · have c9 : x4 < x4 := (Nat.lt_of_not_le (of_decide_eq_false ((zcN_ge (a := x4) (b := x4) rfl rfl h6 h6).symm.trans c)))
        replace H := H.2 c9
        refine zW_gh 118 [some (.ref 73), some (.ref (zra a0)), some (.int (Int32.ofNat x2)), some (.int (Int32.ofNat x3)), some (.int (Int32.ofNat x4)), some (.int (Int32.ofNat x5)), some (.int (Int32.ofNat x6))] [.int (Int32.ofNat dp), .ref 73] 3 (fun f => rfl) ?_
        refine zW_cl rfl rfl rfl rfl rfl (s52 ?_)
        change zW zm_54 121 [some (.ref 73), some (.ref (zra a0)), some (.int (Int32.ofNat x2)), some (.int (Int32.ofNat x3)), some (.int (Int32.ofNat x4)), some (.int (Int32.ofNat x5)), some (.int (Int32.ofNat x6))] [] p _ Q
        refine zW_gh 149 [some (.ref 73), some (.ref (zra a0)), some (.int (Int32.ofNat x2)), some (.int (Int32.ofNat x3)), some (.int (Int32.ofNat x4)), some (.int (Int32.ofNat x5)), some (.int (Int32.ofNat x6))] [] 1 (fun f => rfl) ?_
        exact zW_rh none 1 (fun f => rfl) H
  · have c9 : x6 < x3 := (Nat.lt_of_not_le (of_decide_eq_false ((zcN_ge (a := x6) (b := x3) rfl rfl h1 h2).symm.trans c)))
    replace H := H.2 c9
    refine zW_bh (zcmp .ge (Int32.ofNat x6) (4 : Int32)) 94 34 [some (.ref 73), some (.ref (zra a0)), some (.int (Int32.ofNat x2)), some (.int (Int32.ofNat x3)), some (.int (Int32.ofNat x4)), some (.int (Int32.ofNat x5)), some (.int (Int32.ofNat x6))] [] 3 (fun f => rfl) (fun c => ?_) (fun c => ?_)
    · have c9 : 4 ≤ x6 := (of_decide_eq_true ((zcN_ge (a := x6) (b := 4) rfl rfl h1 (by decide)).symm.trans c))
      replace H := H.1 c9
      obtain ⟨h7, H⟩ := H
      refine zW_bh (zcmp .ne (Int32.ofNat x2) (0 : Int32)) 104 98 [some (.ref 73), some (.ref (zra a0)), some (.int (Int32.ofNat x2)), some (.int (Int32.ofNat x3)), some (.int (Int32.ofNat x4)), some (.int (Int32.ofNat x5)), some (.int (Int32.ofNat x6))] [] 2 (fun f => rfl) (fun c => ?_) (fun c => ?_)
      · have c9 : ¬ x2 = 0 := (by have c := (zcN_ne (a := x2) (b := 0) rfl rfl h7 (by decide)).symm.trans c; simpa using c)
        replace H := H.1 c9
        obtain ⟨h8, H⟩ := H
        obtain ⟨h9, H⟩ := H
        refine zW_bh (zcmp .ge (Int32.ofNat x4) (Int32.ofNat dw)) 124 113 [some (.ref 73), some (.ref (zra a0)), some (.int (Int32.ofNat x2)), some (.int (Int32.ofNat x3)), some (.int (Int32.ofNat x4)), some (.int (Int32.ofNat x5)), some (.int (Int32.ofNat x6))] [] 4 (fun f => rfl) (fun c => ?_) (fun c => ?_)
        · have c9 : dw ≤ x4 := (of_decide_eq_true ((zcN_ge (a := x4) (b := dw) rfl rfl h8 h9).symm.trans c))
          replace H := H.1 c9
          refine zW_bh (zcmp .eq (Int32.ofNat x2) (3 : Int32)) 138 129 [some (.ref 73), some (.ref (zra a0)), some (.int (Int32.ofNat x2)), some (.int (Int32.ofNat x3)), some (.int (Int32.ofNat x4)), some (.int (Int32.ofNat x5)), some (.int (Int32.ofNat x6))] [] 3 (fun f => rfl) (fun c => ?_) (fun c => ?_)
          · have c9 : x2 = 3 := (of_decide_eq_true ((zcN_eq (a := x2) (b := 3) rfl rfl h7 (by decide)).symm.trans c))
            replace H := H.1 c9
            refine zW_gh 141 [some (.ref 73), some (.ref (zra a0)), some (.int (Int32.ofNat x2)), some (.int (Int32.ofNat x3)), some (.int (Int32.ofNat x4)), some (.int (Int32.ofNat x5)), some (.int (Int32.ofNat x6))] [.int (93 : Int32), .ref 73] 2 (fun f => rfl) ?_
            refine zW_fg (L' := [some (.ref 73), none, none, none, none, none, none]) (zle_s _ (zle_n _ (zle_n _ (zle_n _ (zle_n _ (zle_n _ (zle_n _ zle_nil))))))) ?_
            exact zW_cl rfl rfl rfl rfl rfl H
          · have c9 : ¬ x2 = 3 := (of_decide_eq_false ((zcN_eq (a := x2) (b := 3) rfl rfl h7 (by decide)).symm.trans c))
            replace H := H.2 c9
            refine zW_gh 132 [some (.ref 73), some (.ref (zra a0)), some (.int (Int32.ofNat x2)), some (.int (Int32.ofNat x3)), some (.int (Int32.ofNat x4)), some (.int (Int32.ofNat x5)), some (.int (Int32.ofNat x6))] [.int (59 : Int32), .ref 73] 2 (fun f => rfl) ?_
            refine zW_fg (L' := [some (.ref 73), none, none, none, none, none, none]) (zle_s _ (zle_n _ (zle_n _ (zle_n _ (zle_n _ (zle_n _ (zle_n _ zle_nil))))))) ?_
            exact zW_cl rfl rfl rfl rfl rfl H
        · have c9 : x4 < dw := (Nat.lt_of_not_le (of_decide_eq_false ((zcN_ge (a := x4) (b := dw) rfl rfl h8 h9).symm.trans c)))
          replace H := H.2 c9
          refine zW_gh 118 [some (.ref 73), some (.ref (zra a0)), some (.int (Int32.ofNat x2)), some (.int (Int32.ofNat x3)), some (.int (Int32.ofNat x4)), some (.int (Int32.ofNat x5)), some (.int (Int32.ofNat x6))] [.int (Int32.ofNat dp), .ref 73] 3 (fun f => rfl) ?_
          refine zW_cl rfl rfl rfl rfl rfl (s52 ?_)
          change zW zm_54 121 [some (.ref 73), some (.ref (zra a0)), some (.int (Int32.ofNat x2)), some (.int (Int32.ofNat x3)), some (.int (Int32.ofNat x4)), some (.int (Int32.ofNat x5)), some (.int (Int32.ofNat x6))] [] p _ Q
          refine zW_gh 149 [some (.ref 73), some (.ref (zra a0)), some (.int (Int32.ofNat x2)), some (.int (Int32.ofNat x3)), some (.int (Int32.ofNat x4)), some (.int (Int32.ofNat x5)), some (.int (Int32.ofNat x6))] [] 1 (fun f => rfl) ?_
          exact zW_rh none 1 (fun f => rfl) H
      · have c9 : x2 = 0 := (by have c := (zcN_ne (a := x2) (b := 0) rfl rfl h7 (by decide)).symm.trans c; simpa using c)
        replace H := H.2 c9
        refine zW_gh 101 [some (.ref 73), some (.ref (zra a0)), some (.int (Int32.ofNat x2)), some (.int (Int32.ofNat x3)), some (.int (Int32.ofNat x4)), some (.int (Int32.ofNat x5)), some (.int (Int32.ofNat x6))] [.int (Int32.ofNat x4), .ref 73] 2 (fun f => rfl) ?_
        refine zW_go (pc' := 104) (L' := [some (.ref 73), some (.ref (zra a0)), some (.int (Int32.ofNat x2)), some (.int (Int32.ofNat x3)), some (.int (Int32.ofNat x4)), some (.int (Int32.ofNat x5)), some (.int (Int32.ofNat x6))]) (st' := []) (h' := (va_up (zh (P, T, (yc, yl), (uc, ul), (dc, dp, df, dw, dx)) I A w) 73 (.inr (3, [.ref 69, .ref 74, .int (Int32.ofNat dp), .int df, .int (Int32.ofNat x4), .int (zbi dx)])))) 1 (fun f => rfl) ?_
        refine zW_eq zu_73 ?_
        obtain ⟨h10, H⟩ := H
        refine zW_bh (zcmp .ge (Int32.ofNat x4) (Int32.ofNat x4)) 124 113 [some (.ref 73), some (.ref (zra a0)), some (.int (Int32.ofNat x2)), some (.int (Int32.ofNat x3)), some (.int (Int32.ofNat x4)), some (.int (Int32.ofNat x5)), some (.int (Int32.ofNat x6))] [] 4 (fun f => rfl) (fun c => ?_) (fun c => ?_)
        · have c9 : x4 ≤ x4 := (of_decide_eq_true ((zcN_ge (a := x4) (b := x4) rfl rfl h10 h10).symm.trans c))
          replace H := H.1 c9
          refine zW_bh (zcmp .eq (Int32.ofNat x2) (3 : Int32)) 138 129 [some (.ref 73), some (.ref (zra a0)), some (.int (Int32.ofNat x2)), some (.int (Int32.ofNat x3)), some (.int (Int32.ofNat x4)), some (.int (Int32.ofNat x5)), some (.int (Int32.ofNat x6))] [] 3 (fun f => rfl) (fun c => ?_) (fun c => ?_)
          · have c9 : x2 = 3 := (of_decide_eq_true ((zcN_eq (a := x2) (b := 3) rfl rfl h7 (by decide)).symm.trans c))
            replace H := H.1 c9
            refine zW_gh 141 [some (.ref 73), some (.ref (zra a0)), some (.int (Int32.ofNat x2)), some (.int (Int32.ofNat x3)), some (.int (Int32.ofNat x4)), some (.int (Int32.ofNat x5)), some (.int (Int32.ofNat x6))] [.int (93 : Int32), .ref 73] 2 (fun f => rfl) ?_
            refine zW_fg (L' := [some (.ref 73), none, none, none, none, none, none]) (zle_s _ (zle_n _ (zle_n _ (zle_n _ (zle_n _ (zle_n _ (zle_n _ zle_nil))))))) ?_
            exact zW_cl rfl rfl rfl rfl rfl H
          · have c9 : ¬ x2 = 3 := (of_decide_eq_false ((zcN_eq (a := x2) (b := 3) rfl rfl h7 (by decide)).symm.trans c))
            replace H := H.2 c9
            refine zW_gh 132 [some (.ref 73), some (.ref (zra a0)), some (.int (Int32.ofNat x2)), some (.int (Int32.ofNat x3)), some (.int (Int32.ofNat x4)), some (.int (Int32.ofNat x5)), some (.int (Int32.ofNat x6))] [.int (59 : Int32), .ref 73] 2 (fun f => rfl) ?_
            refine zW_fg (L' := [some (.ref 73), none, none, none, none, none, none]) (zle_s _ (zle_n _ (zle_n _ (zle_n _ (zle_n _ (zle_n _ (zle_n _ zle_nil))))))) ?_
            exact zW_cl rfl rfl rfl rfl rfl H
        · have c9 : x4 < x4 := (Nat.lt_of_not_le (of_decide_eq_false ((zcN_ge (a := x4) (b := x4) rfl rfl h10 h10).symm.trans c)))
          replace H := H.2 c9
          refine zW_gh 118 [some (.ref 73), some (.ref (zra a0)), some (.int (Int32.ofNat x2)), some (.int (Int32.ofNat x3)), some (.int (Int32.ofNat x4)), some (.int (Int32.ofNat x5)), some (.int (Int32.ofNat x6))] [.int (Int32.ofNat dp), .ref 73] 3 (fun f => rfl) ?_
          refine zW_cl rfl rfl rfl rfl rfl (s52 ?_)
          change zW zm_54 121 [some (.ref 73), some (.ref (zra a0)), some (.int (Int32.ofNat x2)), some (.int (Int32.ofNat x3)), some (.int (Int32.ofNat x4)), some (.int (Int32.ofNat x5)), some (.int (Int32.ofNat x6))] [] p _ Q
          refine zW_gh 149 [some (.ref 73), some (.ref (zra a0)), some (.int (Int32.ofNat x2)), some (.int (Int32.ofNat x3)), some (.int (Int32.ofNat x4)), some (.int (Int32.ofNat x5)), some (.int (Int32.ofNat x6))] [] 1 (fun f => rfl) ?_
          exact zW_rh none 1 (fun f => rfl) H
    · have c9 : x6 < 4 := (Nat.lt_of_not_le (of_decide_eq_false ((zcN_ge (a := x6) (b := 4) rfl rfl h1 (by decide)).symm.trans c)))
      replace H := H.2 c9
      obtain ⟨h11, H⟩ := H
      refine zW_bh (zcmp .eq (Int32.ofNat x5) (0 : Int32)) 94 39 [some (.ref 73), some (.ref (zra a0)), some (.int (Int32.ofNat x2)), some (.int (Int32.ofNat x3)), some (.int (Int32.ofNat x4)), some (.int (Int32.ofNat x5)), some (.int (Int32.ofNat x6))] [] 2 (fun f => rfl) (fun c => ?_) (fun c => ?_)
      · have c9 : x5 = 0 := (of_decide_eq_true ((zcN_eq (a := x5) (b := 0) rfl rfl h11 (by decide)).symm.trans c))
        replace H := H.1 c9
        obtain ⟨h12, H⟩ := H
        refine zW_bh (zcmp .ne (Int32.ofNat x2) (0 : Int32)) 104 98 [some (.ref 73), some (.ref (zra a0)), some (.int (Int32.ofNat x2)), some (.int (Int32.ofNat x3)), some (.int (Int32.ofNat x4)), some (.int (Int32.ofNat x5)), some (.int (Int32.ofNat x6))] [] 2 (fun f => rfl) (fun c => ?_) (fun c => ?_)
        · have c9 : ¬ x2 = 0 := (by have c := (zcN_ne (a := x2) (b := 0) rfl rfl h12 (by decide)).symm.trans c; simpa using c)
          replace H := H.1 c9
          obtain ⟨h13, H⟩ := H
          obtain ⟨h14, H⟩ := H
          refine zW_bh (zcmp .ge (Int32.ofNat x4) (Int32.ofNat dw)) 124 113 [some (.ref 73), some (.ref (zra a0)), some (.int (Int32.ofNat x2)), some (.int (Int32.ofNat x3)), some (.int (Int32.ofNat x4)), some (.int (Int32.ofNat x5)), some (.int (Int32.ofNat x6))] [] 4 (fun f => rfl) (fun c => ?_) (fun c => ?_)
          · have c9 : dw ≤ x4 := (of_decide_eq_true ((zcN_ge (a := x4) (b := dw) rfl rfl h13 h14).symm.trans c))
            replace H := H.1 c9
            refine zW_bh (zcmp .eq (Int32.ofNat x2) (3 : Int32)) 138 129 [some (.ref 73), some (.ref (zra a0)), some (.int (Int32.ofNat x2)), some (.int (Int32.ofNat x3)), some (.int (Int32.ofNat x4)), some (.int (Int32.ofNat x5)), some (.int (Int32.ofNat x6))] [] 3 (fun f => rfl) (fun c => ?_) (fun c => ?_)
            · have c9 : x2 = 3 := (of_decide_eq_true ((zcN_eq (a := x2) (b := 3) rfl rfl h12 (by decide)).symm.trans c))
              replace H := H.1 c9
              refine zW_gh 141 [some (.ref 73), some (.ref (zra a0)), some (.int (Int32.ofNat x2)), some (.int (Int32.ofNat x3)), some (.int (Int32.ofNat x4)), some (.int (Int32.ofNat x5)), some (.int (Int32.ofNat x6))] [.int (93 : Int32), .ref 73] 2 (fun f => rfl) ?_
              refine zW_fg (L' := [some (.ref 73), none, none, none, none, none, none]) (zle_s _ (zle_n _ (zle_n _ (zle_n _ (zle_n _ (zle_n _ (zle_n _ zle_nil))))))) ?_
              exact zW_cl rfl rfl rfl rfl rfl H
            · have c9 : ¬ x2 = 3 := (of_decide_eq_false ((zcN_eq (a := x2) (b := 3) rfl rfl h12 (by decide)).symm.trans c))
              replace H := H.2 c9
              refine zW_gh 132 [some (.ref 73), some (.ref (zra a0)), some (.int (Int32.ofNat x2)), some (.int (Int32.ofNat x3)), some (.int (Int32.ofNat x4)), some (.int (Int32.ofNat x5)), some (.int (Int32.ofNat x6))] [.int (59 : Int32), .ref 73] 2 (fun f => rfl) ?_
              refine zW_fg (L' := [some (.ref 73), none, none, none, none, none, none]) (zle_s _ (zle_n _ (zle_n _ (zle_n _ (zle_n _ (zle_n _ (zle_n _ zle_nil))))))) ?_
              exact zW_cl rfl rfl rfl rfl rfl H
          · have c9 : x4 < dw := (Nat.lt_of_not_le (of_decide_eq_false ((zcN_ge (a := x4) (b := dw) rfl rfl h13 h14).symm.trans c)))
            replace H := H.2 c9
            refine zW_gh 118 [some (.ref 73), some (.ref (zra a0)), some (.int (Int32.ofNat x2)), some (.int (Int32.ofNat x3)), some (.int (Int32.ofNat x4)), some (.int (Int32.ofNat x5)), some (.int (Int32.ofNat x6))] [.int (Int32.ofNat dp), .ref 73] 3 (fun f => rfl) ?_
            refine zW_cl rfl rfl rfl rfl rfl (s52 ?_)
            change zW zm_54 121 [some (.ref 73), some (.ref (zra a0)), some (.int (Int32.ofNat x2)), some (.int (Int32.ofNat x3)), some (.int (Int32.ofNat x4)), some (.int (Int32.ofNat x5)), some (.int (Int32.ofNat x6))] [] p _ Q
            refine zW_gh 149 [some (.ref 73), some (.ref (zra a0)), some (.int (Int32.ofNat x2)), some (.int (Int32.ofNat x3)), some (.int (Int32.ofNat x4)), some (.int (Int32.ofNat x5)), some (.int (Int32.ofNat x6))] [] 1 (fun f => rfl) ?_
            exact zW_rh none 1 (fun f => rfl) H
        · have c9 : x2 = 0 := (by have c := (zcN_ne (a := x2) (b := 0) rfl rfl h12 (by decide)).symm.trans c; simpa using c)
          replace H := H.2 c9
          refine zW_gh 101 [some (.ref 73), some (.ref (zra a0)), some (.int (Int32.ofNat x2)), some (.int (Int32.ofNat x3)), some (.int (Int32.ofNat x4)), some (.int (Int32.ofNat x5)), some (.int (Int32.ofNat x6))] [.int (Int32.ofNat x4), .ref 73] 2 (fun f => rfl) ?_
          refine zW_go (pc' := 104) (L' := [some (.ref 73), some (.ref (zra a0)), some (.int (Int32.ofNat x2)), some (.int (Int32.ofNat x3)), some (.int (Int32.ofNat x4)), some (.int (Int32.ofNat x5)), some (.int (Int32.ofNat x6))]) (st' := []) (h' := (va_up (zh (P, T, (yc, yl), (uc, ul), (dc, dp, df, dw, dx)) I A w) 73 (.inr (3, [.ref 69, .ref 74, .int (Int32.ofNat dp), .int df, .int (Int32.ofNat x4), .int (zbi dx)])))) 1 (fun f => rfl) ?_
          refine zW_eq zu_73 ?_
          obtain ⟨h15, H⟩ := H
          refine zW_bh (zcmp .ge (Int32.ofNat x4) (Int32.ofNat x4)) 124 113 [some (.ref 73), some (.ref (zra a0)), some (.int (Int32.ofNat x2)), some (.int (Int32.ofNat x3)), some (.int (Int32.ofNat x4)), some (.int (Int32.ofNat x5)), some (.int (Int32.ofNat x6))] [] 4 (fun f => rfl) (fun c => ?_) (fun c => ?_)
          · have c9 : x4 ≤ x4 := (of_decide_eq_true ((zcN_ge (a := x4) (b := x4) rfl rfl h15 h15).symm.trans c))
            replace H := H.1 c9
            refine zW_bh (zcmp .eq (Int32.ofNat x2) (3 : Int32)) 138 129 [some (.ref 73), some (.ref (zra a0)), some (.int (Int32.ofNat x2)), some (.int (Int32.ofNat x3)), some (.int (Int32.ofNat x4)), some (.int (Int32.ofNat x5)), some (.int (Int32.ofNat x6))] [] 3 (fun f => rfl) (fun c => ?_) (fun c => ?_)
            · have c9 : x2 = 3 := (of_decide_eq_true ((zcN_eq (a := x2) (b := 3) rfl rfl h12 (by decide)).symm.trans c))
              replace H := H.1 c9
              refine zW_gh 141 [some (.ref 73), some (.ref (zra a0)), some (.int (Int32.ofNat x2)), some (.int (Int32.ofNat x3)), some (.int (Int32.ofNat x4)), some (.int (Int32.ofNat x5)), some (.int (Int32.ofNat x6))] [.int (93 : Int32), .ref 73] 2 (fun f => rfl) ?_
              refine zW_fg (L' := [some (.ref 73), none, none, none, none, none, none]) (zle_s _ (zle_n _ (zle_n _ (zle_n _ (zle_n _ (zle_n _ (zle_n _ zle_nil))))))) ?_
              exact zW_cl rfl rfl rfl rfl rfl H
            · have c9 : ¬ x2 = 3 := (of_decide_eq_false ((zcN_eq (a := x2) (b := 3) rfl rfl h12 (by decide)).symm.trans c))
              replace H := H.2 c9
              refine zW_gh 132 [some (.ref 73), some (.ref (zra a0)), some (.int (Int32.ofNat x2)), some (.int (Int32.ofNat x3)), some (.int (Int32.ofNat x4)), some (.int (Int32.ofNat x5)), some (.int (Int32.ofNat x6))] [.int (59 : Int32), .ref 73] 2 (fun f => rfl) ?_
              refine zW_fg (L' := [some (.ref 73), none, none, none, none, none, none]) (zle_s _ (zle_n _ (zle_n _ (zle_n _ (zle_n _ (zle_n _ (zle_n _ zle_nil))))))) ?_
              exact zW_cl rfl rfl rfl rfl rfl H
          · have c9 : x4 < x4 := (Nat.lt_of_not_le (of_decide_eq_false ((zcN_ge (a := x4) (b := x4) rfl rfl h15 h15).symm.trans c)))
            replace H := H.2 c9
            refine zW_gh 118 [some (.ref 73), some (.ref (zra a0)), some (.int (Int32.ofNat x2)), some (.int (Int32.ofNat x3)), some (.int (Int32.ofNat x4)), some (.int (Int32.ofNat x5)), some (.int (Int32.ofNat x6))] [.int (Int32.ofNat dp), .ref 73] 3 (fun f => rfl) ?_
            refine zW_cl rfl rfl rfl rfl rfl (s52 ?_)
            change zW zm_54 121 [some (.ref 73), some (.ref (zra a0)), some (.int (Int32.ofNat x2)), some (.int (Int32.ofNat x3)), some (.int (Int32.ofNat x4)), some (.int (Int32.ofNat x5)), some (.int (Int32.ofNat x6))] [] p _ Q
            refine zW_gh 149 [some (.ref 73), some (.ref (zra a0)), some (.int (Int32.ofNat x2)), some (.int (Int32.ofNat x3)), some (.int (Int32.ofNat x4)), some (.int (Int32.ofNat x5)), some (.int (Int32.ofNat x6))] [] 1 (fun f => rfl) ?_
            exact zW_rh none 1 (fun f => rfl) H
      · have c9 : ¬ x5 = 0 := (of_decide_eq_false ((zcN_eq (a := x5) (b := 0) rfl rfl h11 (by decide)).symm.trans c))
        replace H := H.2 c9
        refine zW_gh 51 [some (.ref 73), some (.ref (zra a0)), some (.int (Int32.ofNat x2)), some (.int (Int32.ofNat x3)), some (.int (Int32.ofNat x4)), some (.int (Int32.ofNat x5)), some (.int (Int32.ofNat x6))] [.ref 73, .ref (zra a0), .int (((Int32.ofNat x2) * (4 : Int32)) + (Int32.ofNat x6)), .ref 74] 9 (fun f => rfl) ?_
        refine zW_fg (L' := [some (.ref 73), some (.ref (zra a0)), some (.int (Int32.ofNat x2)), some (.int (Int32.ofNat x3)), some (.int (Int32.ofNat x4)), none, some (.int (Int32.ofNat x6))]) (zle_s _ (zle_s _ (zle_s _ (zle_s _ (zle_s _ (zle_n _ (zle_s _ zle_nil))))))) ?_
        rw [show (((Int32.ofNat x2) * (4 : Int32)) + (Int32.ofNat x6)) = Int32.ofNat ((x2 * 4) + x6) from (zN_a (zN_m rfl rfl) rfl)]
        exact zW_cr rfl rfl rfl rfl rfl rfl rfl rfl rfl rfl rfl rfl rfl H
theorem b54_144 {P : zPt} {T : Nat → zX} {yc uc : Nat → Int32} {yl ul dp dw : Nat} {df : Int32} {dx : Bool} {dc : Nat → Int64} {I : zIt} {A : zAt} {w : Nat → Int64} {p : Nat × Nat} {Q : zR → zH → Prop} (H : Q (.inl none) (zh (P, T, (yc, yl), (uc, ul), (dc, dp, df, dw, true)) I A w)) : zW zm_54 144 [some (.ref 73), none, none, none, none, none, none] [] p (zh (P, T, (yc, yl), (uc, ul), (dc, dp, df, dw, dx)) I A w) Q := by
  refine zW_gh 146 [some (.ref 73), none, none, none, none, none, none] [.int (1 : Int32), .ref 73] 2 (fun f => rfl) ?_
  refine zW_go (pc' := 149) (L' := [some (.ref 73), none, none, none, none, none, none]) (st' := []) (h' := (va_up (zh (P, T, (yc, yl), (uc, ul), (dc, dp, df, dw, dx)) I A w) 73 (.inr (3, [.ref 69, .ref 74, .int (Int32.ofNat dp), .int df, .int (Int32.ofNat dw), .int (zbi true)])))) 1 (fun f => rfl) ?_
  refine zW_eq zu_73 ?_
  exact zW_rh none 1 (fun f => rfl) H
theorem b54_135 {P : zPt} {T : Nat → zX} {yc uc : Nat → Int32} {yl ul dp dw : Nat} {df : Int32} {dx : Bool} {dc : Nat → Int64} {I : zIt} {A : zAt} {w : Nat → Int64} {p : Nat × Nat} {Q : zR → zH → Prop} {rv : Bool} (H : ((rv = true → Q (.inl none) (zh (P, T, (yc, yl), (uc, ul), (dc, dp, df, dw, dx)) I A w)) ∧ (rv = false → zT zm_50 [.ref 73, .int (93 : Int32)] p (zh (P, T, (yc, yl), (uc, ul), (dc, dp, df, dw, dx)) I A w) (zK zm_54 144 [some (.ref 73), none, none, none, none, none, none] [] p Q)))) : zW zm_54 135 [some (.ref 73), none, none, none, none, none, none] [.int (zbi rv)] p (zh (P, T, (yc, yl), (uc, ul), (dc, dp, df, dw, dx)) I A w) Q := by
  refine zW_bh (zcmp .ne (zbi rv) (0 : Int32)) 149 138 [some (.ref 73), none, none, none, none, none, none] [] 1 (fun f => rfl) (fun c => ?_) (fun c => ?_)
  · have c9 : rv = true := ((zcB_ne _).symm.trans c)
    replace H := H.1 c9
    exact zW_rh none 1 (fun f => rfl) H
  · have c9 : rv = false := ((zcB_ne _).symm.trans c)
    replace H := H.2 c9
    refine zW_gh 141 [some (.ref 73), none, none, none, none, none, none] [.int (93 : Int32), .ref 73] 2 (fun f => rfl) ?_
    exact zW_cl rfl rfl rfl rfl rfl H
theorem b54_54 {P : zPt} {T : Nat → zX} {yc uc : Nat → Int32} {yl ul dp dw : Nat} {df : Int32} {dx : Bool} {dc : Nat → Int64} {I : zIt} {A : zAt} {w : Nat → Int64} {p : Nat × Nat} {Q : zR → zH → Prop} {x2 x3 x4 x6 s0 a0 : Nat} {rv : Int64} (H : (s0 < 16 ∧ (((!decide (df = -1)) = false → ((x4 + 1) < 2147483648 ∧ (x3 < 2147483648 ∧ ((x3 ≤ (x4 + 1) → zW zm_54 22 [some (.ref 73), some (.ref (zra a0)), some (.int (Int32.ofNat x2)), some (.int (Int32.ofNat x3)), some (.int (Int32.ofNat (x4 + 1))), some (.int (Int32.ofNat 0)), some (.int (Int32.ofNat (x6 + 1)))] [] p (zh (P, T, (yc, yl), (uc, ul), ((va_up dc s0 rv), dp, df, dw, dx)) I A w) Q) ∧ ((x4 + 1) < x3 → zT zm_51 [.ref 73, .int (44 : Int32)] p (zh (P, T, (yc, yl), (uc, ul), ((va_up dc s0 rv), dp, df, dw, dx)) I A w) (zK zm_54 78 [some (.ref 73), some (.ref (zra a0)), some (.int (Int32.ofNat x2)), some (.int (Int32.ofNat x3)), some (.int (Int32.ofNat (x4 + 1))), none, some (.int (Int32.ofNat x6))] [] p Q)))))) ∧ ((!decide (df = -1)) = true → Q (.inl none) (zh (P, T, (yc, yl), (uc, ul), ((va_up dc s0 rv), dp, df, dw, dx)) I A w))))) : zW zm_54 54 [some (.ref 73), some (.ref (zra a0)), some (.int (Int32.ofNat x2)), some (.int (Int32.ofNat x3)), some (.int (Int32.ofNat x4)), none, some (.int (Int32.ofNat x6))] [.long rv, .int (Int32.ofNat s0), .ref 74] p (zh (P, T, (yc, yl), (uc, ul), (dc, dp, df, dw, dx)) I A w) Q := by
  obtain ⟨h1, H⟩ := H
  refine zW_last rfl (by decide) rfl (by decide) zu_74 rfl h1 ?_
  refine zW_gh 56 [some (.ref 73), some (.ref (zra a0)), some (.int (Int32.ofNat x2)), some (.int (Int32.ofNat x3)), some (.int (Int32.ofNat x4)), none, some (.int (Int32.ofNat x6))] [.ref 73] 1 (fun f => rfl) ?_
  refine zW_cl rfl rfl rfl rfl rfl (s53 ?_)
  change zW zm_54 59 [some (.ref 73), some (.ref (zra a0)), some (.int (Int32.ofNat x2)), some (.int (Int32.ofNat x3)), some (.int (Int32.ofNat x4)), none, some (.int (Int32.ofNat x6))] [.int (zbi (!decide (df = -1)))] p _ Q
  refine zW_bh (zcmp .eq (zbi (!decide (df = -1))) (0 : Int32)) 63 62 [some (.ref 73), some (.ref (zra a0)), some (.int (Int32.ofNat x2)), some (.int (Int32.ofNat x3)), some (.int (Int32.ofNat x4)), none, some (.int (Int32.ofNat x6))] [] 1 (fun f => rfl) (fun c => ?_) (fun c => ?_)
  · have c9 : (!decide (df = -1)) = false := ((Bool.not_eq_true' _).mp ((zcB_eq _).symm.trans c))
    replace H := H.1 c9
    refine zW_inc [some (.ref 73), some (.ref (zra a0)), some (.int (Int32.ofNat x2)), some (.int (Int32.ofNat x3)), some (.int ((Int32.ofNat x4) + (1 : Int32))), none, some (.int (Int32.ofNat x6))] rfl rfl rfl ?_
    rw [show ((Int32.ofNat x4) + (1 : Int32)) = Int32.ofNat (x4 + 1) from (zN_a rfl rfl)]
    obtain ⟨h2, H⟩ := H
    obtain ⟨h3, H⟩ := H
    refine zW_bh (zcmp .ge (Int32.ofNat (x4 + 1)) (Int32.ofNat x3)) 85 72 [some (.ref 73), some (.ref (zra a0)), some (.int (Int32.ofNat x2)), some (.int (Int32.ofNat x3)), some (.int (Int32.ofNat (x4 + 1))), none, some (.int (Int32.ofNat x6))] [] 3 (fun f => rfl) (fun c => ?_) (fun c => ?_)
    · have c9 : x3 ≤ (x4 + 1) := (of_decide_eq_true ((zcN_ge (a := (x4 + 1)) (b := x3) rfl rfl h2 h3).symm.trans c))
      replace H := H.1 c9
      refine zW_gh 88 [some (.ref 73), some (.ref (zra a0)), some (.int (Int32.ofNat x2)), some (.int (Int32.ofNat x3)), some (.int (Int32.ofNat (x4 + 1))), some (.int (0 : Int32)), some (.int (Int32.ofNat x6))] [] 2 (fun f => rfl) ?_
      refine zW_inc [some (.ref 73), some (.ref (zra a0)), some (.int (Int32.ofNat x2)), some (.int (Int32.ofNat x3)), some (.int (Int32.ofNat (x4 + 1))), some (.int (0 : Int32)), some (.int ((Int32.ofNat x6) + (1 : Int32)))] rfl rfl rfl ?_
      rw [show ((Int32.ofNat x6) + (1 : Int32)) = Int32.ofNat (x6 + 1) from (zN_a rfl rfl)]
      refine zW_gh 22 [some (.ref 73), some (.ref (zra a0)), some (.int (Int32.ofNat x2)), some (.int (Int32.ofNat x3)), some (.int (Int32.ofNat (x4 + 1))), some (.int (0 : Int32)), some (.int (Int32.ofNat (x6 + 1)))] [] 1 (fun f => rfl) ?_
      exact H
    · have c9 : (x4 + 1) < x3 := (Nat.lt_of_not_le (of_decide_eq_false ((zcN_ge (a := (x4 + 1)) (b := x3) rfl rfl h2 h3).symm.trans c)))
      replace H := H.2 c9
      refine zW_gh 75 [some (.ref 73), some (.ref (zra a0)), some (.int (Int32.ofNat x2)), some (.int (Int32.ofNat x3)), some (.int (Int32.ofNat (x4 + 1))), none, some (.int (Int32.ofNat x6))] [.int (44 : Int32), .ref 73] 2 (fun f => rfl) ?_
      exact zW_cl rfl rfl rfl rfl rfl H
  · have c9 : (!decide (df = -1)) = true := ((Bool.not_eq_false' _).mp ((zcB_eq _).symm.trans c))
    replace H := H.2 c9
    exact zW_rh none 1 (fun f => rfl) H
theorem b54_78 {P : zPt} {T : Nat → zX} {yc uc : Nat → Int32} {yl ul dp dw : Nat} {df : Int32} {dx : Bool} {dc : Nat → Int64} {I : zIt} {A : zAt} {w : Nat → Int64} {p : Nat × Nat} {Q : zR → zH → Prop} {x2 x3 x4 x6 a0 : Nat} {rv : Bool} (H : ((rv = false → zW zm_54 22 [some (.ref 73), some (.ref (zra a0)), some (.int (Int32.ofNat x2)), some (.int (Int32.ofNat x3)), some (.int (Int32.ofNat x4)), some (.int (Int32.ofNat 0)), some (.int (Int32.ofNat (x6 + 1)))] [] p (zh (P, T, (yc, yl), (uc, ul), (dc, dp, df, dw, dx)) I A w) Q) ∧ (rv = true → zW zm_54 22 [some (.ref 73), some (.ref (zra a0)), some (.int (Int32.ofNat x2)), some (.int (Int32.ofNat x3)), some (.int (Int32.ofNat x4)), some (.int (Int32.ofNat 1)), some (.int (Int32.ofNat (x6 + 1)))] [] p (zh (P, T, (yc, yl), (uc, ul), (dc, dp, df, dw, dx)) I A w) Q))) : zW zm_54 78 [some (.ref 73), some (.ref (zra a0)), some (.int (Int32.ofNat x2)), some (.int (Int32.ofNat x3)), some (.int (Int32.ofNat x4)), none, some (.int (Int32.ofNat x6))] [.int (zbi rv)] p (zh (P, T, (yc, yl), (uc, ul), (dc, dp, df, dw, dx)) I A w) Q := by
  refine zW_bh (zcmp .eq (zbi rv) (0 : Int32)) 85 81 [some (.ref 73), some (.ref (zra a0)), some (.int (Int32.ofNat x2)), some (.int (Int32.ofNat x3)), some (.int (Int32.ofNat x4)), none, some (.int (Int32.ofNat x6))] [] 1 (fun f => rfl) (fun c => ?_) (fun c => ?_)
  · have c9 : rv = false := ((Bool.not_eq_true' _).mp ((zcB_eq _).symm.trans c))
    replace H := H.1 c9
    refine zW_gh 88 [some (.ref 73), some (.ref (zra a0)), some (.int (Int32.ofNat x2)), some (.int (Int32.ofNat x3)), some (.int (Int32.ofNat x4)), some (.int (0 : Int32)), some (.int (Int32.ofNat x6))] [] 2 (fun f => rfl) ?_
    refine zW_inc [some (.ref 73), some (.ref (zra a0)), some (.int (Int32.ofNat x2)), some (.int (Int32.ofNat x3)), some (.int (Int32.ofNat x4)), some (.int (0 : Int32)), some (.int ((Int32.ofNat x6) + (1 : Int32)))] rfl rfl rfl ?_
    rw [show ((Int32.ofNat x6) + (1 : Int32)) = Int32.ofNat (x6 + 1) from (zN_a rfl rfl)]
    refine zW_gh 22 [some (.ref 73), some (.ref (zra a0)), some (.int (Int32.ofNat x2)), some (.int (Int32.ofNat x3)), some (.int (Int32.ofNat x4)), some (.int (0 : Int32)), some (.int (Int32.ofNat (x6 + 1)))] [] 1 (fun f => rfl) ?_
    exact H
  · have c9 : rv = true := ((Bool.not_eq_false' _).mp ((zcB_eq _).symm.trans c))
    replace H := H.2 c9
    refine zW_gh 88 [some (.ref 73), some (.ref (zra a0)), some (.int (Int32.ofNat x2)), some (.int (Int32.ofNat x3)), some (.int (Int32.ofNat x4)), some (.int (1 : Int32)), some (.int (Int32.ofNat x6))] [] 3 (fun f => rfl) ?_
    refine zW_inc [some (.ref 73), some (.ref (zra a0)), some (.int (Int32.ofNat x2)), some (.int (Int32.ofNat x3)), some (.int (Int32.ofNat x4)), some (.int (1 : Int32)), some (.int ((Int32.ofNat x6) + (1 : Int32)))] rfl rfl rfl ?_
    rw [show ((Int32.ofNat x6) + (1 : Int32)) = Int32.ofNat (x6 + 1) from (zN_a rfl rfl)]
    refine zW_gh 22 [some (.ref 73), some (.ref (zra a0)), some (.int (Int32.ofNat x2)), some (.int (Int32.ofNat x3)), some (.int (Int32.ofNat x4)), some (.int (1 : Int32)), some (.int (Int32.ofNat (x6 + 1)))] [] 1 (fun f => rfl) ?_
    exact H
set_option maxRecDepth 20000 in
theorem b49 {P : zPt} {T : Nat → zX} {yc uc : Nat → Int32} {yl ul dp dw : Nat} {df : Int32} {dx : Bool} {dc : Nat → Int64} {I : zIt} {A : zAt} {w : Nat → Int64} {p : Nat × Nat} {Q : zR → zH → Prop} {a0 a1 : Nat} (H : zT zm_50 [.ref 73, .int (91 : Int32)] p (zh (P, T, (yc, yl), (uc, ul), (dc, 0, (-1 : Int32), 0, false)) I A w) (zK zm_49 26 [some (.ref 73), some (.ref (zra a0)), some (.ref (21 + 8 * a1)), none, none] [] p Q)) : zT zm_49 [.ref 73, .ref (zra a0), .ref (21 + 8 * a1)] p (zh (P, T, (yc, yl), (uc, ul), (dc, dp, df, dw, dx)) I A w) Q := by
  change zW zm_49 0 [some (.ref 73), some (.ref (zra a0)), some (.ref (21 + 8 * a1)), none, none] [] p _ Q
  refine zW_gh 2 [some (.ref 73), some (.ref (zra a0)), some (.ref (21 + 8 * a1)), none, none] [.int (0 : Int32), .ref 73] 2 (fun f => rfl) ?_
  refine zW_go (pc' := 5) (L' := [some (.ref 73), some (.ref (zra a0)), some (.ref (21 + 8 * a1)), none, none]) (st' := []) (h' := (va_up (zh (P, T, (yc, yl), (uc, ul), (dc, dp, df, dw, dx)) I A w) 73 (.inr (3, [.ref 69, .ref 74, .int (Int32.ofNat 0), .int df, .int (Int32.ofNat dw), .int (zbi dx)])))) 1 (fun f => rfl) ?_
  refine zW_eq zu_73 ?_
  refine zW_gh 7 [some (.ref 73), some (.ref (zra a0)), some (.ref (21 + 8 * a1)), none, none] [.int (-1 : Int32), .ref 73] 2 (fun f => rfl) ?_
  refine zW_go (pc' := 10) (L' := [some (.ref 73), some (.ref (zra a0)), some (.ref (21 + 8 * a1)), none, none]) (st' := []) (h' := (va_up (zh (P, T, (yc, yl), (uc, ul), (dc, 0, df, dw, dx)) I A w) 73 (.inr (3, [.ref 69, .ref 74, .int (Int32.ofNat 0), .int (-1 : Int32), .int (Int32.ofNat dw), .int (zbi dx)])))) 1 (fun f => rfl) ?_
  refine zW_eq zu_73 ?_
  refine zW_gh 12 [some (.ref 73), some (.ref (zra a0)), some (.ref (21 + 8 * a1)), none, none] [.int (0 : Int32), .ref 73] 2 (fun f => rfl) ?_
  refine zW_go (pc' := 15) (L' := [some (.ref 73), some (.ref (zra a0)), some (.ref (21 + 8 * a1)), none, none]) (st' := []) (h' := (va_up (zh (P, T, (yc, yl), (uc, ul), (dc, 0, (-1 : Int32), dw, dx)) I A w) 73 (.inr (3, [.ref 69, .ref 74, .int (Int32.ofNat 0), .int (-1 : Int32), .int (Int32.ofNat 0), .int (zbi dx)])))) 1 (fun f => rfl) ?_
  refine zW_eq zu_73 ?_
  refine zW_gh 17 [some (.ref 73), some (.ref (zra a0)), some (.ref (21 + 8 * a1)), none, none] [.int (0 : Int32), .ref 73] 2 (fun f => rfl) ?_
  refine zW_go (pc' := 20) (L' := [some (.ref 73), some (.ref (zra a0)), some (.ref (21 + 8 * a1)), none, none]) (st' := []) (h' := (va_up (zh (P, T, (yc, yl), (uc, ul), (dc, 0, (-1 : Int32), 0, dx)) I A w) 73 (.inr (3, [.ref 69, .ref 74, .int (Int32.ofNat 0), .int (-1 : Int32), .int (Int32.ofNat 0), .int (zbi false)])))) 1 (fun f => rfl) ?_
  refine zW_eq zu_73 ?_
  refine zW_gh 23 [some (.ref 73), some (.ref (zra a0)), some (.ref (21 + 8 * a1)), none, none] [.int (91 : Int32), .ref 73] 2 (fun f => rfl) ?_
  exact zW_cl rfl rfl rfl rfl rfl H
set_option maxRecDepth 20000 in
theorem b49_26 {P : zPt} {T : Nat → zX} {yc uc : Nat → Int32} {yl ul dp dw : Nat} {df : Int32} {dx : Bool} {dc : Nat → Int64} {I : zIt} {A : zAt} {w : Nat → Int64} {p : Nat × Nat} {Q : zR → zH → Prop} {a0 a1 : Nat} (H : zW zm_49 31 [some (.ref 73), some (.ref (zra a0)), some (.ref (21 + 8 * a1)), some (.int (Int32.ofNat 0)), some (.int (Int32.ofNat 0))] [] p (zh (P, T, (yc, yl), (uc, ul), (dc, dp, df, dw, dx)) I A w) Q) : zW zm_49 26 [some (.ref 73), some (.ref (zra a0)), some (.ref (21 + 8 * a1)), none, none] [] p (zh (P, T, (yc, yl), (uc, ul), (dc, dp, df, dw, dx)) I A w) Q := by
  refine zW_gh 31 [some (.ref 73), some (.ref (zra a0)), some (.ref (21 + 8 * a1)), some (.int (0 : Int32)), some (.int (0 : Int32))] [] 4 (fun f => rfl) ?_
  exact H
set_option maxRecDepth 20000 in
theorem b49_31 {P : zPt} {T : Nat → zX} {yc uc : Nat → Int32} {yl ul dp dw : Nat} {df : Int32} {dx : Bool} {dc : Nat → Int64} {I : zIt} {A : zAt} {w : Nat → Int64} {p : Nat × Nat} {Q : zR → zH → Prop} {x3 x4 a0 a1 : Nat} (hi_a1 : a1 < 6) (H : (x4 < 2147483648 ∧ ((4 ≤ x4 → (((!decide (df = -1)) = true → (((!decide (df = -1)) = true → Q (.inl (some (.int df))) (zh (P, T, (yc, yl), (uc, ul), (dc, dp, df, dw, dx)) I A w)) ∧ ((!decide (df = -1)) = false → zT zm_28 [.ref (21 + 8 * a1), .ref (zra a0), .int (Int32.ofNat x3), .int (Int32.ofNat dw)] p (zh (P, T, (yc, yl), (uc, ul), (dc, dp, df, dw, dx)) I A w) (zK zm_49 115 [some (.ref 73), none, some (.ref (21 + 8 * a1)), none, none] [] p Q)))) ∧ ((!decide (df = -1)) = false → (dp < 2147483648 ∧ (yl < 2147483648 ∧ ((yl ≤ dp → (((!decide (df = -1)) = true → Q (.inl (some (.int df))) (zh (P, T, (yc, yl), (uc, ul), (dc, dp, df, dw, dx)) I A w)) ∧ ((!decide (df = -1)) = false → zT zm_28 [.ref (21 + 8 * a1), .ref (zra a0), .int (Int32.ofNat x3), .int (Int32.ofNat dw)] p (zh (P, T, (yc, yl), (uc, ul), (dc, dp, df, dw, dx)) I A w) (zK zm_49 115 [some (.ref 73), none, some (.ref (21 + 8 * a1)), none, none] [] p Q)))) ∧ (dp < yl → (((!decide ((bif decide (df = -1) then (Int32.ofNat dp) else df) = -1)) = true → Q (.inl (some (.int (bif decide (df = -1) then (Int32.ofNat dp) else df)))) (zh (P, T, (yc, yl), (uc, ul), (dc, dp, (bif decide (df = -1) then (Int32.ofNat dp) else df), dw, dx)) I A w)) ∧ ((!decide ((bif decide (df = -1) then (Int32.ofNat dp) else df) = -1)) = false → zT zm_28 [.ref (21 + 8 * a1), .ref (zra a0), .int (Int32.ofNat x3), .int (Int32.ofNat dw)] p (zh (P, T, (yc, yl), (uc, ul), (dc, dp, (bif decide (df = -1) then (Int32.ofNat dp) else df), dw, dx)) I A w) (zK zm_49 115 [some (.ref 73), none, some (.ref (21 + 8 * a1)), none, none] [] p Q)))))))))) ∧ (x4 < 4 → ((dx = true → (((!decide (df = -1)) = true → (((!decide (df = -1)) = true → Q (.inl (some (.int df))) (zh (P, T, (yc, yl), (uc, ul), (dc, dp, df, dw, dx)) I A w)) ∧ ((!decide (df = -1)) = false → zT zm_28 [.ref (21 + 8 * a1), .ref (zra a0), .int (Int32.ofNat x3), .int (Int32.ofNat dw)] p (zh (P, T, (yc, yl), (uc, ul), (dc, dp, df, dw, dx)) I A w) (zK zm_49 115 [some (.ref 73), none, some (.ref (21 + 8 * a1)), none, none] [] p Q)))) ∧ ((!decide (df = -1)) = false → (dp < 2147483648 ∧ (yl < 2147483648 ∧ ((yl ≤ dp → (((!decide (df = -1)) = true → Q (.inl (some (.int df))) (zh (P, T, (yc, yl), (uc, ul), (dc, dp, df, dw, dx)) I A w)) ∧ ((!decide (df = -1)) = false → zT zm_28 [.ref (21 + 8 * a1), .ref (zra a0), .int (Int32.ofNat x3), .int (Int32.ofNat dw)] p (zh (P, T, (yc, yl), (uc, ul), (dc, dp, df, dw, dx)) I A w) (zK zm_49 115 [some (.ref 73), none, some (.ref (21 + 8 * a1)), none, none] [] p Q)))) ∧ (dp < yl → (((!decide ((bif decide (df = -1) then (Int32.ofNat dp) else df) = -1)) = true → Q (.inl (some (.int (bif decide (df = -1) then (Int32.ofNat dp) else df)))) (zh (P, T, (yc, yl), (uc, ul), (dc, dp, (bif decide (df = -1) then (Int32.ofNat dp) else df), dw, dx)) I A w)) ∧ ((!decide ((bif decide (df = -1) then (Int32.ofNat dp) else df) = -1)) = false → zT zm_28 [.ref (21 + 8 * a1), .ref (zra a0), .int (Int32.ofNat x3), .int (Int32.ofNat dw)] p (zh (P, T, (yc, yl), (uc, ul), (dc, dp, (bif decide (df = -1) then (Int32.ofNat dp) else df), dw, dx)) I A w) (zK zm_49 115 [some (.ref 73), none, some (.ref (21 + 8 * a1)), none, none] [] p Q)))))))))) ∧ (dx = false → (((!decide (df = -1)) = true → (((!decide (df = -1)) = true → (((!decide (df = -1)) = true → Q (.inl (some (.int df))) (zh (P, T, (yc, yl), (uc, ul), (dc, dp, df, dw, dx)) I A w)) ∧ ((!decide (df = -1)) = false → zT zm_28 [.ref (21 + 8 * a1), .ref (zra a0), .int (Int32.ofNat x3), .int (Int32.ofNat dw)] p (zh (P, T, (yc, yl), (uc, ul), (dc, dp, df, dw, dx)) I A w) (zK zm_49 115 [some (.ref 73), none, some (.ref (21 + 8 * a1)), none, none] [] p Q)))) ∧ ((!decide (df = -1)) = false → (dp < 2147483648 ∧ (yl < 2147483648 ∧ ((yl ≤ dp → (((!decide (df = -1)) = true → Q (.inl (some (.int df))) (zh (P, T, (yc, yl), (uc, ul), (dc, dp, df, dw, dx)) I A w)) ∧ ((!decide (df = -1)) = false → zT zm_28 [.ref (21 + 8 * a1), .ref (zra a0), .int (Int32.ofNat x3), .int (Int32.ofNat dw)] p (zh (P, T, (yc, yl), (uc, ul), (dc, dp, df, dw, dx)) I A w) (zK zm_49 115 [some (.ref 73), none, some (.ref (21 + 8 * a1)), none, none] [] p Q)))) ∧ (dp < yl → (((!decide ((bif decide (df = -1) then (Int32.ofNat dp) else df) = -1)) = true → Q (.inl (some (.int (bif decide (df = -1) then (Int32.ofNat dp) else df)))) (zh (P, T, (yc, yl), (uc, ul), (dc, dp, (bif decide (df = -1) then (Int32.ofNat dp) else df), dw, dx)) I A w)) ∧ ((!decide ((bif decide (df = -1) then (Int32.ofNat dp) else df) = -1)) = false → zT zm_28 [.ref (21 + 8 * a1), .ref (zra a0), .int (Int32.ofNat x3), .int (Int32.ofNat dw)] p (zh (P, T, (yc, yl), (uc, ul), (dc, dp, (bif decide (df = -1) then (Int32.ofNat dp) else df), dw, dx)) I A w) (zK zm_49 115 [some (.ref 73), none, some (.ref (21 + 8 * a1)), none, none] [] p Q)))))))))) ∧ ((!decide (df = -1)) = false → zT zm_54 [.ref 73, .ref (zra a0), .int (Int32.ofNat x4)] p (zh (P, T, (yc, yl), (uc, ul), (dc, dp, df, dw, dx)) I A w) (zK zm_49 58 [some (.ref 73), some (.ref (zra a0)), some (.ref (21 + 8 * a1)), none, some (.int (Int32.ofNat x4))] [] p Q))))))))) : zW zm_49 31 [some (.ref 73), some (.ref (zra a0)), some (.ref (21 + 8 * a1)), some (.int (Int32.ofNat x3)), some (.int (Int32.ofNat x4))] [] p (zh (P, T, (yc, yl), (uc, ul), (dc, dp, df, dw, dx)) I A w) Q := by
  obtain ⟨h1, H⟩ := H
  refine zW_bh (zcmp .ge (Int32.ofNat x4) (4 : Int32)) 69 37 [some (.ref 73), some (.ref (zra a0)), some (.ref (21 + 8 * a1)), some (.int (Int32.ofNat x3)), some (.int (Int32.ofNat x4))] [] 3 (fun f => rfl) (fun c => ?_) (fun c => ?_)
  · have c9 : 4 ≤ x4 := (of_decide_eq_true ((zcN_ge (a := x4) (b := 4) rfl rfl h1 (by decide)).symm.trans c))
    replace H := H.1 c9
    refine zW_gh 70 [some (.ref 73), some (.ref (zra a0)), some (.ref (21 + 8 * a1)), some (.int (Int32.ofNat x3)), some (.int (Int32.ofNat x4))] [.ref 73] 1 (fun f => rfl) ?_
    refine zW_cl rfl rfl rfl rfl rfl (s53 ?_)
    change zW zm_49 73 [some (.ref 73), some (.ref (zra a0)), some (.ref (21 + 8 * a1)), some (.int (Int32.ofNat x3)), some (.int (Int32.ofNat x4))] [.int (zbi (!decide (df = -1)))] p _ Q
    refine zW_bh (zcmp .ne (zbi (!decide (df = -1))) (0 : Int32)) 98 76 [some (.ref 73), some (.ref (zra a0)), some (.ref (21 + 8 * a1)), some (.int (Int32.ofNat x3)), some (.int (Int32.ofNat x4))] [] 1 (fun f => rfl) (fun c => ?_) (fun c => ?_)
    · have c9 : (!decide (df = -1)) = true := ((zcB_ne _).symm.trans c)
      replace H := H.1 c9
      refine zW_gh 99 [some (.ref 73), some (.ref (zra a0)), some (.ref (21 + 8 * a1)), some (.int (Int32.ofNat x3)), some (.int (Int32.ofNat x4))] [.ref 73] 1 (fun f => rfl) ?_
      refine zW_cl rfl rfl rfl rfl rfl (s53 ?_)
      change zW zm_49 102 [some (.ref 73), some (.ref (zra a0)), some (.ref (21 + 8 * a1)), some (.int (Int32.ofNat x3)), some (.int (Int32.ofNat x4))] [.int (zbi (!decide (df = -1)))] p _ Q
      refine zW_bh (zcmp .ne (zbi (!decide (df = -1))) (0 : Int32)) 154 105 [some (.ref 73), some (.ref (zra a0)), some (.ref (21 + 8 * a1)), some (.int (Int32.ofNat x3)), some (.int (Int32.ofNat x4))] [] 1 (fun f => rfl) (fun c => ?_) (fun c => ?_)
      · have c9 : (!decide (df = -1)) = true := ((zcB_ne _).symm.trans c)
        replace H := H.1 c9
        refine zW_gh 158 [some (.ref 73), some (.ref (zra a0)), some (.ref (21 + 8 * a1)), some (.int (Int32.ofNat x3)), some (.int (Int32.ofNat x4))] [.int df] 2 (fun f => rfl) ?_
        exact zW_rh (some (.int df)) 1 (fun f => rfl) H
      · have c9 : (!decide (df = -1)) = false := ((zcB_ne _).symm.trans c)
        replace H := H.2 c9
        refine zW_gh 112 [some (.ref 73), some (.ref (zra a0)), some (.ref (21 + 8 * a1)), some (.int (Int32.ofNat x3)), some (.int (Int32.ofNat x4))] [.int (Int32.ofNat dw), .int (Int32.ofNat x3), .ref (zra a0), .ref (21 + 8 * a1)] 5 (fun f => rfl) ?_
        refine zW_fg (L' := [some (.ref 73), none, some (.ref (21 + 8 * a1)), none, none]) (zle_s _ (zle_n _ (zle_s _ (zle_n _ (zle_n _ zle_nil))))) ?_
        exact zW_cv rfl rfl rfl (by have := hi_a1; omega) (zh_T0 hi_a1) rfl rfl rfl rfl H
    · have c9 : (!decide (df = -1)) = false := ((zcB_ne _).symm.trans c)
      replace H := H.2 c9
      obtain ⟨h2, H⟩ := H
      obtain ⟨h3, H⟩ := H
      refine zW_bh (zcmp .ge (Int32.ofNat dp) (Int32.ofNat yl)) 98 90 [some (.ref 73), some (.ref (zra a0)), some (.ref (21 + 8 * a1)), some (.int (Int32.ofNat x3)), some (.int (Int32.ofNat x4))] [] 6 (fun f => rfl) (fun c => ?_) (fun c => ?_)
      · have c9 : yl ≤ dp := (of_decide_eq_true ((zcN_ge (a := dp) (b := yl) rfl rfl h2 h3).symm.trans c))
        replace H := H.1 c9
        refine zW_gh 99 [some (.ref 73), some (.ref (zra a0)), some (.ref (21 + 8 * a1)), some (.int (Int32.ofNat x3)), some (.int (Int32.ofNat x4))] [.ref 73] 1 (fun f => rfl) ?_
        refine zW_cl rfl rfl rfl rfl rfl (s53 ?_)
        change zW zm_49 102 [some (.ref 73), some (.ref (zra a0)), some (.ref (21 + 8 * a1)), some (.int (Int32.ofNat x3)), some (.int (Int32.ofNat x4))] [.int (zbi (!decide (df = -1)))] p _ Q
        refine zW_bh (zcmp .ne (zbi (!decide (df = -1))) (0 : Int32)) 154 105 [some (.ref 73), some (.ref (zra a0)), some (.ref (21 + 8 * a1)), some (.int (Int32.ofNat x3)), some (.int (Int32.ofNat x4))] [] 1 (fun f => rfl) (fun c => ?_) (fun c => ?_)
        · have c9 : (!decide (df = -1)) = true := ((zcB_ne _).symm.trans c)
          replace H := H.1 c9
          refine zW_gh 158 [some (.ref 73), some (.ref (zra a0)), some (.ref (21 + 8 * a1)), some (.int (Int32.ofNat x3)), some (.int (Int32.ofNat x4))] [.int df] 2 (fun f => rfl) ?_
          exact zW_rh (some (.int df)) 1 (fun f => rfl) H
        · have c9 : (!decide (df = -1)) = false := ((zcB_ne _).symm.trans c)
          replace H := H.2 c9
          refine zW_gh 112 [some (.ref 73), some (.ref (zra a0)), some (.ref (21 + 8 * a1)), some (.int (Int32.ofNat x3)), some (.int (Int32.ofNat x4))] [.int (Int32.ofNat dw), .int (Int32.ofNat x3), .ref (zra a0), .ref (21 + 8 * a1)] 5 (fun f => rfl) ?_
          refine zW_fg (L' := [some (.ref 73), none, some (.ref (21 + 8 * a1)), none, none]) (zle_s _ (zle_n _ (zle_s _ (zle_n _ (zle_n _ zle_nil))))) ?_
          exact zW_cv rfl rfl rfl (by have := hi_a1; omega) (zh_T0 hi_a1) rfl rfl rfl rfl H
      · have c9 : dp < yl := (Nat.lt_of_not_le (of_decide_eq_false ((zcN_ge (a := dp) (b := yl) rfl rfl h2 h3).symm.trans c)))
        replace H := H.2 c9
        refine zW_gh 95 [some (.ref 73), some (.ref (zra a0)), some (.ref (21 + 8 * a1)), some (.int (Int32.ofNat x3)), some (.int (Int32.ofNat x4))] [.int (Int32.ofNat dp), .ref 73] 3 (fun f => rfl) ?_
        refine zW_cl rfl rfl rfl rfl rfl (s52 ?_)
        change zW zm_49 98 [some (.ref 73), some (.ref (zra a0)), some (.ref (21 + 8 * a1)), some (.int (Int32.ofNat x3)), some (.int (Int32.ofNat x4))] [] p _ Q
        refine zW_gh 99 [some (.ref 73), some (.ref (zra a0)), some (.ref (21 + 8 * a1)), some (.int (Int32.ofNat x3)), some (.int (Int32.ofNat x4))] [.ref 73] 1 (fun f => rfl) ?_
        refine zW_cl rfl rfl rfl rfl rfl (s53 ?_)
        change zW zm_49 102 [some (.ref 73), some (.ref (zra a0)), some (.ref (21 + 8 * a1)), some (.int (Int32.ofNat x3)), some (.int (Int32.ofNat x4))] [.int (zbi (!decide ((bif decide (df = -1) then (Int32.ofNat dp) else df) = -1)))] p _ Q
        refine zW_bh (zcmp .ne (zbi (!decide ((bif decide (df = -1) then (Int32.ofNat dp) else df) = -1))) (0 : Int32)) 154 105 [some (.ref 73), some (.ref (zra a0)), some (.ref (21 + 8 * a1)), some (.int (Int32.ofNat x3)), some (.int (Int32.ofNat x4))] [] 1 (fun f => rfl) (fun c => ?_) (fun c => ?_)
        · have c9 : (!decide ((bif decide (df = -1) then (Int32.ofNat dp) else df) = -1)) = true := ((zcB_ne _).symm.trans c)
          replace H := H.1 c9
          refine zW_gh 158 [some (.ref 73), some (.ref (zra a0)), some (.ref (21 + 8 * a1)), some (.int (Int32.ofNat x3)), some (.int (Int32.ofNat x4))] [.int (bif decide (df = -1) then (Int32.ofNat dp) else df)] 2 (fun f => rfl) ?_
          exact zW_rh (some (.int (bif decide (df = -1) then (Int32.ofNat dp) else df))) 1 (fun f => rfl) H
        · have c9 : (!decide ((bif decide (df = -1) then (Int32.ofNat dp) else df) = -1)) = false := ((zcB_ne _).symm.trans c)
          replace H := H.2 c9
          refine zW_gh 112 [some (.ref 73), some (.ref (zra a0)), some (.ref (21 + 8 * a1)), some (.int (Int32.ofNat x3)), some (.int (Int32.ofNat x4))] [.int (Int32.ofNat dw), .int (Int32.ofNat x3), .ref (zra a0), .ref (21 + 8 * a1)] 5 (fun f => rfl) ?_
          refine zW_fg (L' := [some (.ref 73), none, some (.ref (21 + 8 * a1)), none, none]) (zle_s _ (zle_n _ (zle_s _ (zle_n _ (zle_n _ zle_nil))))) ?_
          exact zW_cv rfl rfl rfl (by have := hi_a1; omega) (zh_T0 hi_a1) rfl rfl rfl rfl H
  · have c9 : x4 < 4 := (Nat.lt_of_not_le (of_decide_eq_false ((zcN_ge (a := x4) (b := 4) rfl rfl h1 (by decide)).symm.trans c)))
    replace H := H.2 c9
    refine zW_bh (zcmp .ne (zbi dx) (0 : Int32)) 69 44 [some (.ref 73), some (.ref (zra a0)), some (.ref (21 + 8 * a1)), some (.int (Int32.ofNat x3)), some (.int (Int32.ofNat x4))] [] 3 (fun f => rfl) (fun c => ?_) (fun c => ?_)
    · have c9 : dx = true := ((zcB_ne _).symm.trans c)
      replace H := H.1 c9
      refine zW_gh 70 [some (.ref 73), some (.ref (zra a0)), some (.ref (21 + 8 * a1)), some (.int (Int32.ofNat x3)), some (.int (Int32.ofNat x4))] [.ref 73] 1 (fun f => rfl) ?_
      refine zW_cl rfl rfl rfl rfl rfl (s53 ?_)
      change zW zm_49 73 [some (.ref 73), some (.ref (zra a0)), some (.ref (21 + 8 * a1)), some (.int (Int32.ofNat x3)), some (.int (Int32.ofNat x4))] [.int (zbi (!decide (df = -1)))] p _ Q
      refine zW_bh (zcmp .ne (zbi (!decide (df = -1))) (0 : Int32)) 98 76 [some (.ref 73), some (.ref (zra a0)), some (.ref (21 + 8 * a1)), some (.int (Int32.ofNat x3)), some (.int (Int32.ofNat x4))] [] 1 (fun f => rfl) (fun c => ?_) (fun c => ?_)
      · have c9 : (!decide (df = -1)) = true := ((zcB_ne _).symm.trans c)
        replace H := H.1 c9
        refine zW_gh 99 [some (.ref 73), some (.ref (zra a0)), some (.ref (21 + 8 * a1)), some (.int (Int32.ofNat x3)), some (.int (Int32.ofNat x4))] [.ref 73] 1 (fun f => rfl) ?_
        refine zW_cl rfl rfl rfl rfl rfl (s53 ?_)
        change zW zm_49 102 [some (.ref 73), some (.ref (zra a0)), some (.ref (21 + 8 * a1)), some (.int (Int32.ofNat x3)), some (.int (Int32.ofNat x4))] [.int (zbi (!decide (df = -1)))] p _ Q
        refine zW_bh (zcmp .ne (zbi (!decide (df = -1))) (0 : Int32)) 154 105 [some (.ref 73), some (.ref (zra a0)), some (.ref (21 + 8 * a1)), some (.int (Int32.ofNat x3)), some (.int (Int32.ofNat x4))] [] 1 (fun f => rfl) (fun c => ?_) (fun c => ?_)
        · have c9 : (!decide (df = -1)) = true := ((zcB_ne _).symm.trans c)
          replace H := H.1 c9
          refine zW_gh 158 [some (.ref 73), some (.ref (zra a0)), some (.ref (21 + 8 * a1)), some (.int (Int32.ofNat x3)), some (.int (Int32.ofNat x4))] [.int df] 2 (fun f => rfl) ?_
          exact zW_rh (some (.int df)) 1 (fun f => rfl) H
        · have c9 : (!decide (df = -1)) = false := ((zcB_ne _).symm.trans c)
          replace H := H.2 c9
          refine zW_gh 112 [some (.ref 73), some (.ref (zra a0)), some (.ref (21 + 8 * a1)), some (.int (Int32.ofNat x3)), some (.int (Int32.ofNat x4))] [.int (Int32.ofNat dw), .int (Int32.ofNat x3), .ref (zra a0), .ref (21 + 8 * a1)] 5 (fun f => rfl) ?_
          refine zW_fg (L' := [some (.ref 73), none, some (.ref (21 + 8 * a1)), none, none]) (zle_s _ (zle_n _ (zle_s _ (zle_n _ (zle_n _ zle_nil))))) ?_
          exact zW_cv rfl rfl rfl (by have := hi_a1; omega) (zh_T0 hi_a1) rfl rfl rfl rfl H
      · have c9 : (!decide (df = -1)) = false := ((zcB_ne _).symm.trans c)
        replace H := H.2 c9
        obtain ⟨h4, H⟩ := H
        obtain ⟨h5, H⟩ := H
        refine zW_bh (zcmp .ge (Int32.ofNat dp) (Int32.ofNat yl)) 98 90 [some (.ref 73), some (.ref (zra a0)), some (.ref (21 + 8 * a1)), some (.int (Int32.ofNat x3)), some (.int (Int32.ofNat x4))] [] 6 (fun f => rfl) (fun c => ?_) (fun c => ?_)
        · have c9 : yl ≤ dp := (of_decide_eq_true ((zcN_ge (a := dp) (b := yl) rfl rfl h4 h5).symm.trans c))
          replace H := H.1 c9
          refine zW_gh 99 [some (.ref 73), some (.ref (zra a0)), some (.ref (21 + 8 * a1)), some (.int (Int32.ofNat x3)), some (.int (Int32.ofNat x4))] [.ref 73] 1 (fun f => rfl) ?_
          refine zW_cl rfl rfl rfl rfl rfl (s53 ?_)
          change zW zm_49 102 [some (.ref 73), some (.ref (zra a0)), some (.ref (21 + 8 * a1)), some (.int (Int32.ofNat x3)), some (.int (Int32.ofNat x4))] [.int (zbi (!decide (df = -1)))] p _ Q
          refine zW_bh (zcmp .ne (zbi (!decide (df = -1))) (0 : Int32)) 154 105 [some (.ref 73), some (.ref (zra a0)), some (.ref (21 + 8 * a1)), some (.int (Int32.ofNat x3)), some (.int (Int32.ofNat x4))] [] 1 (fun f => rfl) (fun c => ?_) (fun c => ?_)
          · have c9 : (!decide (df = -1)) = true := ((zcB_ne _).symm.trans c)
            replace H := H.1 c9
            refine zW_gh 158 [some (.ref 73), some (.ref (zra a0)), some (.ref (21 + 8 * a1)), some (.int (Int32.ofNat x3)), some (.int (Int32.ofNat x4))] [.int df] 2 (fun f => rfl) ?_
            exact zW_rh (some (.int df)) 1 (fun f => rfl) H
          · have c9 : (!decide (df = -1)) = false := ((zcB_ne _).symm.trans c)
            replace H := H.2 c9
            refine zW_gh 112 [some (.ref 73), some (.ref (zra a0)), some (.ref (21 + 8 * a1)), some (.int (Int32.ofNat x3)), some (.int (Int32.ofNat x4))] [.int (Int32.ofNat dw), .int (Int32.ofNat x3), .ref (zra a0), .ref (21 + 8 * a1)] 5 (fun f => rfl) ?_
            refine zW_fg (L' := [some (.ref 73), none, some (.ref (21 + 8 * a1)), none, none]) (zle_s _ (zle_n _ (zle_s _ (zle_n _ (zle_n _ zle_nil))))) ?_
            exact zW_cv rfl rfl rfl (by have := hi_a1; omega) (zh_T0 hi_a1) rfl rfl rfl rfl H
        · have c9 : dp < yl := (Nat.lt_of_not_le (of_decide_eq_false ((zcN_ge (a := dp) (b := yl) rfl rfl h4 h5).symm.trans c)))
          replace H := H.2 c9
          refine zW_gh 95 [some (.ref 73), some (.ref (zra a0)), some (.ref (21 + 8 * a1)), some (.int (Int32.ofNat x3)), some (.int (Int32.ofNat x4))] [.int (Int32.ofNat dp), .ref 73] 3 (fun f => rfl) ?_
          refine zW_cl rfl rfl rfl rfl rfl (s52 ?_)
          change zW zm_49 98 [some (.ref 73), some (.ref (zra a0)), some (.ref (21 + 8 * a1)), some (.int (Int32.ofNat x3)), some (.int (Int32.ofNat x4))] [] p _ Q
          refine zW_gh 99 [some (.ref 73), some (.ref (zra a0)), some (.ref (21 + 8 * a1)), some (.int (Int32.ofNat x3)), some (.int (Int32.ofNat x4))] [.ref 73] 1 (fun f => rfl) ?_
          refine zW_cl rfl rfl rfl rfl rfl (s53 ?_)
          change zW zm_49 102 [some (.ref 73), some (.ref (zra a0)), some (.ref (21 + 8 * a1)), some (.int (Int32.ofNat x3)), some (.int (Int32.ofNat x4))] [.int (zbi (!decide ((bif decide (df = -1) then (Int32.ofNat dp) else df) = -1)))] p _ Q
          refine zW_bh (zcmp .ne (zbi (!decide ((bif decide (df = -1) then (Int32.ofNat dp) else df) = -1))) (0 : Int32)) 154 105 [some (.ref 73), some (.ref (zra a0)), some (.ref (21 + 8 * a1)), some (.int (Int32.ofNat x3)), some (.int (Int32.ofNat x4))] [] 1 (fun f => rfl) (fun c => ?_) (fun c => ?_)
          · have c9 : (!decide ((bif decide (df = -1) then (Int32.ofNat dp) else df) = -1)) = true := ((zcB_ne _).symm.trans c)
            replace H := H.1 c9
            refine zW_gh 158 [some (.ref 73), some (.ref (zra a0)), some (.ref (21 + 8 * a1)), some (.int (Int32.ofNat x3)), some (.int (Int32.ofNat x4))] [.int (bif decide (df = -1) then (Int32.ofNat dp) else df)] 2 (fun f => rfl) ?_
            exact zW_rh (some (.int (bif decide (df = -1) then (Int32.ofNat dp) else df))) 1 (fun f => rfl) H
          · have c9 : (!decide ((bif decide (df = -1) then (Int32.ofNat dp) else df) = -1)) = false := ((zcB_ne _).symm.trans c)
            replace H := H.2 c9
            refine zW_gh 112 [some (.ref 73), some (.ref (zra a0)), some (.ref (21 + 8 * a1)), some (.int (Int32.ofNat x3)), some (.int (Int32.ofNat x4))] [.int (Int32.ofNat dw), .int (Int32.ofNat x3), .ref (zra a0), .ref (21 + 8 * a1)] 5 (fun f => rfl) ?_
            refine zW_fg (L' := [some (.ref 73), none, some (.ref (21 + 8 * a1)), none, none]) (zle_s _ (zle_n _ (zle_s _ (zle_n _ (zle_n _ zle_nil))))) ?_
            exact zW_cv rfl rfl rfl (by have := hi_a1; omega) (zh_T0 hi_a1) rfl rfl rfl rfl H
    · have c9 : dx = false := ((zcB_ne _).symm.trans c)
      replace H := H.2 c9
      refine zW_gh 45 [some (.ref 73), some (.ref (zra a0)), some (.ref (21 + 8 * a1)), some (.int (Int32.ofNat x3)), some (.int (Int32.ofNat x4))] [.ref 73] 1 (fun f => rfl) ?_
      refine zW_cl rfl rfl rfl rfl rfl (s53 ?_)
      change zW zm_49 48 [some (.ref 73), some (.ref (zra a0)), some (.ref (21 + 8 * a1)), some (.int (Int32.ofNat x3)), some (.int (Int32.ofNat x4))] [.int (zbi (!decide (df = -1)))] p _ Q
      refine zW_bh (zcmp .ne (zbi (!decide (df = -1))) (0 : Int32)) 69 51 [some (.ref 73), some (.ref (zra a0)), some (.ref (21 + 8 * a1)), some (.int (Int32.ofNat x3)), some (.int (Int32.ofNat x4))] [] 1 (fun f => rfl) (fun c => ?_) (fun c => ?_)
      · have c9 : (!decide (df = -1)) = true := ((zcB_ne _).symm.trans c)
        replace H := H.1 c9
        refine zW_gh 70 [some (.ref 73), some (.ref (zra a0)), some (.ref (21 + 8 * a1)), some (.int (Int32.ofNat x3)), some (.int (Int32.ofNat x4))] [.ref 73] 1 (fun f => rfl) ?_
        refine zW_cl rfl rfl rfl rfl rfl (s53 ?_)
        change zW zm_49 73 [some (.ref 73), some (.ref (zra a0)), some (.ref (21 + 8 * a1)), some (.int (Int32.ofNat x3)), some (.int (Int32.ofNat x4))] [.int (zbi (!decide (df = -1)))] p _ Q
        refine zW_bh (zcmp .ne (zbi (!decide (df = -1))) (0 : Int32)) 98 76 [some (.ref 73), some (.ref (zra a0)), some (.ref (21 + 8 * a1)), some (.int (Int32.ofNat x3)), some (.int (Int32.ofNat x4))] [] 1 (fun f => rfl) (fun c => ?_) (fun c => ?_)
        · have c9 : (!decide (df = -1)) = true := ((zcB_ne _).symm.trans c)
          replace H := H.1 c9
          refine zW_gh 99 [some (.ref 73), some (.ref (zra a0)), some (.ref (21 + 8 * a1)), some (.int (Int32.ofNat x3)), some (.int (Int32.ofNat x4))] [.ref 73] 1 (fun f => rfl) ?_
          refine zW_cl rfl rfl rfl rfl rfl (s53 ?_)
          change zW zm_49 102 [some (.ref 73), some (.ref (zra a0)), some (.ref (21 + 8 * a1)), some (.int (Int32.ofNat x3)), some (.int (Int32.ofNat x4))] [.int (zbi (!decide (df = -1)))] p _ Q
          refine zW_bh (zcmp .ne (zbi (!decide (df = -1))) (0 : Int32)) 154 105 [some (.ref 73), some (.ref (zra a0)), some (.ref (21 + 8 * a1)), some (.int (Int32.ofNat x3)), some (.int (Int32.ofNat x4))] [] 1 (fun f => rfl) (fun c => ?_) (fun c => ?_)
          · have c9 : (!decide (df = -1)) = true := ((zcB_ne _).symm.trans c)
            replace H := H.1 c9
            refine zW_gh 158 [some (.ref 73), some (.ref (zra a0)), some (.ref (21 + 8 * a1)), some (.int (Int32.ofNat x3)), some (.int (Int32.ofNat x4))] [.int df] 2 (fun f => rfl) ?_
            exact zW_rh (some (.int df)) 1 (fun f => rfl) H
          · have c9 : (!decide (df = -1)) = false := ((zcB_ne _).symm.trans c)
            replace H := H.2 c9
            refine zW_gh 112 [some (.ref 73), some (.ref (zra a0)), some (.ref (21 + 8 * a1)), some (.int (Int32.ofNat x3)), some (.int (Int32.ofNat x4))] [.int (Int32.ofNat dw), .int (Int32.ofNat x3), .ref (zra a0), .ref (21 + 8 * a1)] 5 (fun f => rfl) ?_
            refine zW_fg (L' := [some (.ref 73), none, some (.ref (21 + 8 * a1)), none, none]) (zle_s _ (zle_n _ (zle_s _ (zle_n _ (zle_n _ zle_nil))))) ?_
            exact zW_cv rfl rfl rfl (by have := hi_a1; omega) (zh_T0 hi_a1) rfl rfl rfl rfl H
        · have c9 : (!decide (df = -1)) = false := ((zcB_ne _).symm.trans c)
          replace H := H.2 c9
          obtain ⟨h6, H⟩ := H
          obtain ⟨h7, H⟩ := H
          refine zW_bh (zcmp .ge (Int32.ofNat dp) (Int32.ofNat yl)) 98 90 [some (.ref 73), some (.ref (zra a0)), some (.ref (21 + 8 * a1)), some (.int (Int32.ofNat x3)), some (.int (Int32.ofNat x4))] [] 6 (fun f => rfl) (fun c => ?_) (fun c => ?_)
          · have c9 : yl ≤ dp := (of_decide_eq_true ((zcN_ge (a := dp) (b := yl) rfl rfl h6 h7).symm.trans c))
            replace H := H.1 c9
            refine zW_gh 99 [some (.ref 73), some (.ref (zra a0)), some (.ref (21 + 8 * a1)), some (.int (Int32.ofNat x3)), some (.int (Int32.ofNat x4))] [.ref 73] 1 (fun f => rfl) ?_
            refine zW_cl rfl rfl rfl rfl rfl (s53 ?_)
            change zW zm_49 102 [some (.ref 73), some (.ref (zra a0)), some (.ref (21 + 8 * a1)), some (.int (Int32.ofNat x3)), some (.int (Int32.ofNat x4))] [.int (zbi (!decide (df = -1)))] p _ Q
            refine zW_bh (zcmp .ne (zbi (!decide (df = -1))) (0 : Int32)) 154 105 [some (.ref 73), some (.ref (zra a0)), some (.ref (21 + 8 * a1)), some (.int (Int32.ofNat x3)), some (.int (Int32.ofNat x4))] [] 1 (fun f => rfl) (fun c => ?_) (fun c => ?_)
            · have c9 : (!decide (df = -1)) = true := ((zcB_ne _).symm.trans c)
              replace H := H.1 c9
              refine zW_gh 158 [some (.ref 73), some (.ref (zra a0)), some (.ref (21 + 8 * a1)), some (.int (Int32.ofNat x3)), some (.int (Int32.ofNat x4))] [.int df] 2 (fun f => rfl) ?_
              exact zW_rh (some (.int df)) 1 (fun f => rfl) H
            · have c9 : (!decide (df = -1)) = false := ((zcB_ne _).symm.trans c)
              replace H := H.2 c9
              refine zW_gh 112 [some (.ref 73), some (.ref (zra a0)), some (.ref (21 + 8 * a1)), some (.int (Int32.ofNat x3)), some (.int (Int32.ofNat x4))] [.int (Int32.ofNat dw), .int (Int32.ofNat x3), .ref (zra a0), .ref (21 + 8 * a1)] 5 (fun f => rfl) ?_
              refine zW_fg (L' := [some (.ref 73), none, some (.ref (21 + 8 * a1)), none, none]) (zle_s _ (zle_n _ (zle_s _ (zle_n _ (zle_n _ zle_nil))))) ?_
              exact zW_cv rfl rfl rfl (by have := hi_a1; omega) (zh_T0 hi_a1) rfl rfl rfl rfl H
          · have c9 : dp < yl := (Nat.lt_of_not_le (of_decide_eq_false ((zcN_ge (a := dp) (b := yl) rfl rfl h6 h7).symm.trans c)))
            replace H := H.2 c9
            refine zW_gh 95 [some (.ref 73), some (.ref (zra a0)), some (.ref (21 + 8 * a1)), some (.int (Int32.ofNat x3)), some (.int (Int32.ofNat x4))] [.int (Int32.ofNat dp), .ref 73] 3 (fun f => rfl) ?_
            refine zW_cl rfl rfl rfl rfl rfl (s52 ?_)
            change zW zm_49 98 [some (.ref 73), some (.ref (zra a0)), some (.ref (21 + 8 * a1)), some (.int (Int32.ofNat x3)), some (.int (Int32.ofNat x4))] [] p _ Q
            refine zW_gh 99 [some (.ref 73), some (.ref (zra a0)), some (.ref (21 + 8 * a1)), some (.int (Int32.ofNat x3)), some (.int (Int32.ofNat x4))] [.ref 73] 1 (fun f => rfl) ?_
            refine zW_cl rfl rfl rfl rfl rfl (s53 ?_)
            change zW zm_49 102 [some (.ref 73), some (.ref (zra a0)), some (.ref (21 + 8 * a1)), some (.int (Int32.ofNat x3)), some (.int (Int32.ofNat x4))] [.int (zbi (!decide ((bif decide (df = -1) then (Int32.ofNat dp) else df) = -1)))] p _ Q
            refine zW_bh (zcmp .ne (zbi (!decide ((bif decide (df = -1) then (Int32.ofNat dp) else df) = -1))) (0 : Int32)) 154 105 [some (.ref 73), some (.ref (zra a0)), some (.ref (21 + 8 * a1)), some (.int (Int32.ofNat x3)), some (.int (Int32.ofNat x4))] [] 1 (fun f => rfl) (fun c => ?_) (fun c => ?_)
            · have c9 : (!decide ((bif decide (df = -1) then (Int32.ofNat dp) else df) = -1)) = true := ((zcB_ne _).symm.trans c)
              replace H := H.1 c9
              refine zW_gh 158 [some (.ref 73), some (.ref (zra a0)), some (.ref (21 + 8 * a1)), some (.int (Int32.ofNat x3)), some (.int (Int32.ofNat x4))] [.int (bif decide (df = -1) then (Int32.ofNat dp) else df)] 2 (fun f => rfl) ?_
              exact zW_rh (some (.int (bif decide (df = -1) then (Int32.ofNat dp) else df))) 1 (fun f => rfl) H
            · have c9 : (!decide ((bif decide (df = -1) then (Int32.ofNat dp) else df) = -1)) = false := ((zcB_ne _).symm.trans c)
              replace H := H.2 c9
              refine zW_gh 112 [some (.ref 73), some (.ref (zra a0)), some (.ref (21 + 8 * a1)), some (.int (Int32.ofNat x3)), some (.int (Int32.ofNat x4))] [.int (Int32.ofNat dw), .int (Int32.ofNat x3), .ref (zra a0), .ref (21 + 8 * a1)] 5 (fun f => rfl) ?_
              refine zW_fg (L' := [some (.ref 73), none, some (.ref (21 + 8 * a1)), none, none]) (zle_s _ (zle_n _ (zle_s _ (zle_n _ (zle_n _ zle_nil))))) ?_
              exact zW_cv rfl rfl rfl (by have := hi_a1; omega) (zh_T0 hi_a1) rfl rfl rfl rfl H
      · have c9 : (!decide (df = -1)) = false := ((zcB_ne _).symm.trans c)
        replace H := H.2 c9
        refine zW_gh 55 [some (.ref 73), some (.ref (zra a0)), some (.ref (21 + 8 * a1)), some (.int (Int32.ofNat x3)), some (.int (Int32.ofNat x4))] [.int (Int32.ofNat x4), .ref (zra a0), .ref 73] 3 (fun f => rfl) ?_
        refine zW_fg (L' := [some (.ref 73), some (.ref (zra a0)), some (.ref (21 + 8 * a1)), none, some (.int (Int32.ofNat x4))]) (zle_s _ (zle_s _ (zle_s _ (zle_n _ (zle_s _ zle_nil))))) ?_
        exact zW_cl rfl rfl rfl rfl rfl H
set_option maxRecDepth 20000 in
theorem b49_115 {P : zPt} {T : Nat → zX} {yc uc : Nat → Int32} {yl ul dp dw : Nat} {df : Int32} {dx : Bool} {dc : Nat → Int64} {I : zIt} {A : zAt} {w : Nat → Int64} {p : Nat × Nat} {Q : zR → zH → Prop} {a1 : Nat} (H : zW zm_49 118 [some (.ref 73), none, some (.ref (21 + 8 * a1)), none, some (.int (Int32.ofNat 0))] [] p (zh (P, T, (yc, yl), (uc, ul), (dc, dp, df, dw, dx)) I A w) Q) : zW zm_49 115 [some (.ref 73), none, some (.ref (21 + 8 * a1)), none, none] [] p (zh (P, T, (yc, yl), (uc, ul), (dc, dp, df, dw, dx)) I A w) Q := by
  refine zW_gh 118 [some (.ref 73), none, some (.ref (21 + 8 * a1)), none, some (.int (0 : Int32))] [] 2 (fun f => rfl) ?_
  exact H
set_option maxRecDepth 20000 in
theorem b49_58 {P : zPt} {T : Nat → zX} {yc uc : Nat → Int32} {yl ul dp dw : Nat} {df : Int32} {dx : Bool} {dc : Nat → Int64} {I : zIt} {A : zAt} {w : Nat → Int64} {p : Nat × Nat} {Q : zR → zH → Prop} {x4 a0 a1 : Nat} (H : zW zm_49 31 [some (.ref 73), some (.ref (zra a0)), some (.ref (21 + 8 * a1)), some (.int (Int32.ofNat (x4 + 1))), some (.int (Int32.ofNat (x4 + 1)))] [] p (zh (P, T, (yc, yl), (uc, ul), (dc, dp, df, dw, dx)) I A w) Q) : zW zm_49 58 [some (.ref 73), some (.ref (zra a0)), some (.ref (21 + 8 * a1)), none, some (.int (Int32.ofNat x4))] [] p (zh (P, T, (yc, yl), (uc, ul), (dc, dp, df, dw, dx)) I A w) Q := by
  refine zW_gh 63 [some (.ref 73), some (.ref (zra a0)), some (.ref (21 + 8 * a1)), some (.int ((Int32.ofNat x4) + (1 : Int32))), some (.int (Int32.ofNat x4))] [] 4 (fun f => rfl) ?_
  rw [show ((Int32.ofNat x4) + (1 : Int32)) = Int32.ofNat (x4 + 1) from (zN_a rfl rfl)]
  refine zW_inc [some (.ref 73), some (.ref (zra a0)), some (.ref (21 + 8 * a1)), some (.int (Int32.ofNat (x4 + 1))), some (.int ((Int32.ofNat x4) + (1 : Int32)))] rfl rfl rfl ?_
  rw [show ((Int32.ofNat x4) + (1 : Int32)) = Int32.ofNat (x4 + 1) from (zN_a rfl rfl)]
  refine zW_gh 31 [some (.ref 73), some (.ref (zra a0)), some (.ref (21 + 8 * a1)), some (.int (Int32.ofNat (x4 + 1))), some (.int (Int32.ofNat (x4 + 1)))] [] 1 (fun f => rfl) ?_
  exact H
set_option maxRecDepth 20000 in
theorem b49_118 {P : zPt} {T : Nat → zX} {yc uc : Nat → Int32} {yl ul dp dw : Nat} {df : Int32} {dx : Bool} {dc : Nat → Int64} {I : zIt} {A : zAt} {w : Nat → Int64} {p : Nat × Nat} {Q : zR → zH → Prop} {x4 a1 : Nat} (hi_a1 : a1 < 6) (H : (x4 < 2147483648 ∧ ((16 ≤ x4 → zT zm_29 [.ref (21 + 8 * a1)] p (zh (P, T, (yc, yl), (uc, ul), (dc, dp, df, dw, dx)) I A w) (zK zm_49 154 [some (.ref 73), none, none, none, none] [] p Q)) ∧ (x4 < 16 → (x4 < 16 ∧ zT zm_32 [.ref (21 + 8 * a1), .int (Int32.ofNat (x4 / 4)), .int (Int32.ofNat (x4 % 4)), .long (dc x4)] p (zh (P, T, (yc, yl), (uc, ul), (dc, dp, df, dw, dx)) I A w) (zK zm_49 144 [some (.ref 73), none, some (.ref (21 + 8 * a1)), none, some (.int (Int32.ofNat x4))] [] p Q)))))) : zW zm_49 118 [some (.ref 73), none, some (.ref (21 + 8 * a1)), none, some (.int (Int32.ofNat x4))] [] p (zh (P, T, (yc, yl), (uc, ul), (dc, dp, df, dw, dx)) I A w) Q := by
  obtain ⟨h1, H⟩ := H
  refine zW_bh (zcmp .ge (Int32.ofNat x4) (16 : Int32)) 150 125 [some (.ref 73), none, some (.ref (21 + 8 * a1)), none, some (.int (Int32.ofNat x4))] [] 3 (fun f => rfl) (fun c => ?_) (fun c => ?_)
  · have c9 : 16 ≤ x4 := (of_decide_eq_true ((zcN_ge (a := x4) (b := 16) rfl rfl h1 (by decide)).symm.trans c))
    replace H := H.1 c9
    refine zW_gh 151 [some (.ref 73), none, some (.ref (21 + 8 * a1)), none, some (.int (Int32.ofNat x4))] [.ref (21 + 8 * a1)] 1 (fun f => rfl) ?_
    refine zW_fg (L' := [some (.ref 73), none, none, none, none]) (zle_s _ (zle_s _ (zle_n _ (zle_s _ (zle_n _ zle_nil))))) ?_
    exact zW_cv rfl rfl rfl (by have := hi_a1; omega) (zh_T0 hi_a1) rfl rfl rfl rfl H
  · have c9 : x4 < 16 := (Nat.lt_of_not_le (of_decide_eq_false ((zcN_ge (a := x4) (b := 16) rfl rfl h1 (by decide)).symm.trans c)))
    replace H := H.2 c9
    refine zW_gh 129 [some (.ref 73), none, some (.ref (21 + 8 * a1)), none, some (.int (Int32.ofNat x4))] [.int (4 : Int32), .int (Int32.ofNat x4), .ref (21 + 8 * a1)] 3 (fun f => rfl) ?_
    refine zW_idiv rfl (by decide) ?_
    rw [show ((Int32.ofNat x4) / (4 : Int32)) = Int32.ofNat (x4 / 4) from (zN_d rfl rfl h1 (by decide))]
    refine zW_gh 133 [some (.ref 73), none, some (.ref (21 + 8 * a1)), none, some (.int (Int32.ofNat x4))] [.int (4 : Int32), .int (Int32.ofNat x4), .int (Int32.ofNat (x4 / 4)), .ref (21 + 8 * a1)] 2 (fun f => rfl) ?_
    refine zW_irem rfl (by decide) ?_
    rw [show ((Int32.ofNat x4) - (Int32.ofNat x4) / (4 : Int32) * (4 : Int32)) = Int32.ofNat (x4 % 4) from (zN_r rfl rfl h1 (by decide))]
    refine zW_gh 140 [some (.ref 73), none, some (.ref (21 + 8 * a1)), none, some (.int (Int32.ofNat x4))] [.int (Int32.ofNat x4), .ref 74, .int (Int32.ofNat (x4 % 4)), .int (Int32.ofNat (x4 / 4)), .ref (21 + 8 * a1)] 3 (fun f => rfl) ?_
    obtain ⟨h2, H⟩ := H
    refine zW_lald rfl (by decide) rfl (by decide) rfl h2 ?_
    exact zW_cv rfl rfl rfl (by have := hi_a1; omega) (zh_T0 hi_a1) rfl rfl rfl rfl H
set_option maxRecDepth 20000 in
theorem b49_154 {P : zPt} {T : Nat → zX} {yc uc : Nat → Int32} {yl ul dp dw : Nat} {df : Int32} {dx : Bool} {dc : Nat → Int64} {I : zIt} {A : zAt} {w : Nat → Int64} {p : Nat × Nat} {Q : zR → zH → Prop} (H : Q (.inl (some (.int df))) (zh (P, T, (yc, yl), (uc, ul), (dc, dp, df, dw, dx)) I A w)) : zW zm_49 154 [some (.ref 73), none, none, none, none] [] p (zh (P, T, (yc, yl), (uc, ul), (dc, dp, df, dw, dx)) I A w) Q := by
  refine zW_gh 158 [some (.ref 73), none, none, none, none] [.int df] 2 (fun f => rfl) ?_
  exact zW_rh (some (.int df)) 1 (fun f => rfl) H
set_option maxRecDepth 20000 in
theorem b49_144 {P : zPt} {T : Nat → zX} {yc uc : Nat → Int32} {yl ul dp dw : Nat} {df : Int32} {dx : Bool} {dc : Nat → Int64} {I : zIt} {A : zAt} {w : Nat → Int64} {p : Nat × Nat} {Q : zR → zH → Prop} {x4 a1 : Nat} (H : zW zm_49 118 [some (.ref 73), none, some (.ref (21 + 8 * a1)), none, some (.int (Int32.ofNat (x4 + 1)))] [] p (zh (P, T, (yc, yl), (uc, ul), (dc, dp, df, dw, dx)) I A w) Q) : zW zm_49 144 [some (.ref 73), none, some (.ref (21 + 8 * a1)), none, some (.int (Int32.ofNat x4))] [] p (zh (P, T, (yc, yl), (uc, ul), (dc, dp, df, dw, dx)) I A w) Q := by
  refine zW_inc [some (.ref 73), none, some (.ref (21 + 8 * a1)), none, some (.int ((Int32.ofNat x4) + (1 : Int32)))] rfl rfl rfl ?_
  rw [show ((Int32.ofNat x4) + (1 : Int32)) = Int32.ofNat (x4 + 1) from (zN_a rfl rfl)]
  refine zW_gh 118 [some (.ref 73), none, some (.ref (21 + 8 * a1)), none, some (.int (Int32.ofNat (x4 + 1)))] [] 1 (fun f => rfl) ?_
  exact H
theorem b89 {P : zPt} {T : Nat → zX} {yc uc : Nat → Int32} {yl ul dp dw : Nat} {df : Int32} {dx : Bool} {dc : Nat → Int64} {I : zIt} {A : zAt} {w : Nat → Int64} {p : Nat × Nat} {Q : zR → zH → Prop} {a0 : Int32} (H : (ul < 2147483648 ∧ ((ul < 0 → Q (.inl none) (zh (P, T, (yc, yl), (uc, ul), (dc, dp, df, dw, dx)) I A w)) ∧ (0 ≤ ul → ((561 ≤ ul → Q (.inl none) (zh (P, T, (yc, yl), (uc, ul), (dc, dp, df, dw, dx)) I A w)) ∧ (ul < 561 → (ul < 561 ∧ Q (.inl none) (zh (P, T, (yc, yl), ((va_up uc ul a0), (ul + 1)), (dc, dp, df, dw, dx)) I A w)))))))) : zT zm_89 [.ref 71, .int a0] p (zh (P, T, (yc, yl), (uc, ul), (dc, dp, df, dw, dx)) I A w) Q := by
  change zW zm_89 0 [some (.ref 71), some (.int a0)] [] p _ Q
  obtain ⟨h1, H⟩ := H
  refine zW_bh (zcmp .lt (Int32.ofNat ul) (0 : Int32)) 39 7 [some (.ref 71), some (.int a0)] [] 3 (fun f => rfl) (fun c => ?_) (fun c => ?_)
  · have c9 : ul < 0 := (of_decide_eq_true ((zcN_lt (a := ul) (b := 0) rfl rfl h1 (by decide)).symm.trans c))
    replace H := H.1 c9
    exact zW_rh none 1 (fun f => rfl) H
  · have c9 : 0 ≤ ul := (Nat.le_of_not_lt (of_decide_eq_false ((zcN_lt (a := ul) (b := 0) rfl rfl h1 (by decide)).symm.trans c)))
    replace H := H.2 c9
    refine zW_bh (zcmp .ge (Int32.ofNat ul) (Int32.ofNat 561)) 39 19 [some (.ref 71), some (.int a0)] [] 6 (fun f => rfl) (fun c => ?_) (fun c => ?_)
    · have c9 : 561 ≤ ul := (of_decide_eq_true ((zcN_ge (a := ul) (b := 561) rfl rfl h1 (by decide)).symm.trans c))
      replace H := H.1 c9
      exact zW_rh none 1 (fun f => rfl) H
    · have c9 : ul < 561 := (Nat.lt_of_not_le (of_decide_eq_false ((zcN_ge (a := ul) (b := 561) rfl rfl h1 (by decide)).symm.trans c)))
      replace H := H.2 c9
      refine zW_gh 28 [some (.ref 71), some (.int a0)] [.int a0, .int (Int32.ofNat ul), .ref 72] 5 (fun f => rfl) ?_
      obtain ⟨h2, H⟩ := H
      refine zW_iast rfl (by decide) rfl (by decide) zu_72 rfl h2 ?_
      refine zW_gh 36 [some (.ref 71), some (.int a0)] [.int ((Int32.ofNat ul) + (1 : Int32)), .ref 71] 5 (fun f => rfl) ?_
      rw [show ((Int32.ofNat ul) + (1 : Int32)) = Int32.ofNat (ul + 1) from (zN_a rfl rfl)]
      refine zW_go (pc' := 39) (L' := [some (.ref 71), some (.int a0)]) (st' := []) (h' := (va_up (zh (P, T, (yc, yl), ((va_up uc ul a0), ul), (dc, dp, df, dw, dx)) I A w) 71 (.inr (5, [.ref 72, .int (Int32.ofNat (ul + 1))])))) 1 (fun f => rfl) ?_
      refine zW_eq zu_71 ?_
      exact zW_rh none 1 (fun f => rfl) H
theorem b91 {P : zPt} {T : Nat → zX} {yc uc : Nat → Int32} {yl ul dp dw : Nat} {df : Int32} {dx : Bool} {dc : Nat → Int64} {I : zIt} {A : zAt} {w : Nat → Int64} {p : Nat × Nat} {Q : zR → zH → Prop} {a0 : Int32} (H : (((0 : Int64) ≤ ((a0).toInt64) → zW zm_91 30 [some (.ref 71), none, some (.long ((a0).toInt64)), none, some (.int (Int32.ofNat 0)), some (.long (1000000000 : Int64)), none, some (.int (9 : Int32)), none] [] p (zh (P, T, (yc, yl), (uc, ul), (dc, dp, df, dw, dx)) I A w) Q) ∧ (¬ (0 : Int64) ≤ ((a0).toInt64) → zT zm_89 [.ref 71, .int (45 : Int32)] p (zh (P, T, (yc, yl), (uc, ul), (dc, dp, df, dw, dx)) I A w) (zK zm_91 15 [some (.ref 71), none, some (.long ((a0).toInt64)), none, none, none, none, none, none] [] p Q)))) : zT zm_91 [.ref 71, .int a0] p (zh (P, T, (yc, yl), (uc, ul), (dc, dp, df, dw, dx)) I A w) Q := by
  change zW zm_91 0 [some (.ref 71), some (.int a0), none, none, none, none, none, none, none] [] p _ Q
  refine zW_bh (zcmp .ge (lg_cmp ((a0).toInt64) (0 : Int64)) (0 : Int32)) 18 9 [some (.ref 71), some (.int a0), some (.long ((a0).toInt64)), none, none, none, none, none, none] [] 7 (fun f => rfl) (fun c => ?_) (fun c => ?_)
  · have c9 : (0 : Int64) ≤ ((a0).toInt64) := (of_decide_eq_true ((zcL_ge _ _).symm.trans c))
    replace H := H.1 c9
    refine zW_gh 30 [some (.ref 71), some (.int a0), some (.long ((a0).toInt64)), none, some (.int (0 : Int32)), some (.long (1000000000 : Int64)), none, some (.int (9 : Int32)), none] [] 6 (fun f => rfl) ?_
    refine zW_fg (L' := [some (.ref 71), none, some (.long ((a0).toInt64)), none, some (.int (0 : Int32)), some (.long (1000000000 : Int64)), none, some (.int (9 : Int32)), none]) (zle_s _ (zle_n _ (zle_s _ (zle_s _ (zle_s _ (zle_s _ (zle_s _ (zle_s _ (zle_s _ zle_nil))))))))) ?_
    exact H
  · have c9 : ¬ (0 : Int64) ≤ ((a0).toInt64) := (of_decide_eq_false ((zcL_ge _ _).symm.trans c))
    replace H := H.2 c9
    refine zW_gh 12 [some (.ref 71), some (.int a0), some (.long ((a0).toInt64)), none, none, none, none, none, none] [.int (45 : Int32), .ref 71] 2 (fun f => rfl) ?_
    refine zW_fg (L' := [some (.ref 71), none, some (.long ((a0).toInt64)), none, none, none, none, none, none]) (zle_s _ (zle_n _ (zle_s _ (zle_s _ (zle_s _ (zle_s _ (zle_s _ (zle_s _ (zle_s _ zle_nil))))))))) ?_
    exact zW_cl rfl rfl rfl rfl rfl H
theorem b91_30 {P : zPt} {T : Nat → zX} {yc uc : Nat → Int32} {yl ul dp dw : Nat} {df : Int32} {dx : Bool} {dc : Nat → Int64} {I : zIt} {A : zAt} {w : Nat → Int64} {p : Nat × Nat} {Q : zR → zH → Prop} {x4 : Nat} {x7 : Int32} {x2 x5 : Int64} (H : ((x7 < (0 : Int32) → Q (.inl none) (zh (P, T, (yc, yl), (uc, ul), (dc, dp, df, dw, dx)) I A w)) ∧ (¬ x7 < (0 : Int32) → ∀ k_x7, k_x7 < 2147483648 → x7 = Int32.ofNat k_x7 → ((x5 ≤ (0 : Int64) → Q (.inl none) (zh (P, T, (yc, yl), (uc, ul), (dc, dp, df, dw, dx)) I A w)) ∧ (¬ x5 ≤ (0 : Int64) → (x5 ≠ 0 ∧ (x4 < 2147483648 ∧ ((¬ x4 = 0 → zT zm_89 [.ref 71, .int ((48 : Int32) + (((x2 / x5) - (x2 / x5) / (10 : Int64) * (10 : Int64)).toInt32))] p (zh (P, T, (yc, yl), (uc, ul), (dc, dp, df, dw, dx)) I A w) (zK zm_91 89 [some (.ref 71), none, some (.long x2), none, some (.int (Int32.ofNat 1)), some (.long x5), none, some (.int (Int32.ofNat k_x7)), none] [] p Q)) ∧ (x4 = 0 → ((¬ (((x2 / x5) - (x2 / x5) / (10 : Int64) * (10 : Int64)).toInt32) = (0 : Int32) → zT zm_89 [.ref 71, .int ((48 : Int32) + (((x2 / x5) - (x2 / x5) / (10 : Int64) * (10 : Int64)).toInt32))] p (zh (P, T, (yc, yl), (uc, ul), (dc, dp, df, dw, dx)) I A w) (zK zm_91 89 [some (.ref 71), none, some (.long x2), none, some (.int (Int32.ofNat 1)), some (.long x5), none, some (.int (Int32.ofNat k_x7)), none] [] p Q)) ∧ ((((x2 / x5) - (x2 / x5) / (10 : Int64) * (10 : Int64)).toInt32) = (0 : Int32) → ((¬ k_x7 = 0 → zW zm_91 30 [some (.ref 71), none, some (.long x2), none, some (.int (Int32.ofNat 0)), some (.long (x5 / (10 : Int64))), none, some (.int ((Int32.ofNat k_x7) + Int32.ofInt (-1))), none] [] p (zh (P, T, (yc, yl), (uc, ul), (dc, dp, df, dw, dx)) I A w) Q) ∧ (k_x7 = 0 → zT zm_89 [.ref 71, .int ((48 : Int32) + (((x2 / x5) - (x2 / x5) / (10 : Int64) * (10 : Int64)).toInt32))] p (zh (P, T, (yc, yl), (uc, ul), (dc, dp, df, dw, dx)) I A w) (zK zm_91 89 [some (.ref 71), none, some (.long x2), none, some (.int (Int32.ofNat 1)), some (.long x5), none, some (.int (Int32.ofNat k_x7)), none] [] p Q)))))))))))))) : zW zm_91 30 [some (.ref 71), none, some (.long x2), none, some (.int (Int32.ofNat x4)), some (.long x5), none, some (.int x7), none] [] p (zh (P, T, (yc, yl), (uc, ul), (dc, dp, df, dw, dx)) I A w) Q := by
  refine zW_bh (zcmp .lt x7 (0 : Int32)) 103 35 [some (.ref 71), none, some (.long x2), none, some (.int (Int32.ofNat x4)), some (.long x5), none, some (.int x7), none] [] 2 (fun f => rfl) (fun c => ?_) (fun c => ?_)
  · have c9 : x7 < (0 : Int32) := (of_decide_eq_true c)
    replace H := H.1 c9
    exact zW_rh none 1 (fun f => rfl) H
  · have c9 : ¬ x7 < (0 : Int32) := (of_decide_eq_false c)
    replace H := H.2 c9
    obtain ⟨k_x7, h_k_x7, e_k_x7⟩ := zNn c9
    replace H := H k_x7 h_k_x7 e_k_x7
    subst e_k_x7
    refine zW_bh (zcmp .le (lg_cmp x5 (0 : Int64)) (0 : Int32)) 103 42 [some (.ref 71), none, some (.long x2), none, some (.int (Int32.ofNat x4)), some (.long x5), none, some (.int (Int32.ofNat k_x7)), none] [] 4 (fun f => rfl) (fun c => ?_) (fun c => ?_)
    · have c9 : x5 ≤ (0 : Int64) := (of_decide_eq_true ((zcL_le _ _).symm.trans c))
      replace H := H.1 c9
      exact zW_rh none 1 (fun f => rfl) H
    · have c9 : ¬ x5 ≤ (0 : Int64) := (of_decide_eq_false ((zcL_le _ _).symm.trans c))
      replace H := H.2 c9
      refine zW_gh 45 [some (.ref 71), none, some (.long x2), none, some (.int (Int32.ofNat x4)), some (.long x5), none, some (.int (Int32.ofNat k_x7)), none] [.long x5, .long x2] 2 (fun f => rfl) ?_
      obtain ⟨h1, H⟩ := H
      refine zW_ldiv rfl h1 ?_
      refine zW_gh 49 [some (.ref 71), none, some (.long x2), none, some (.int (Int32.ofNat x4)), some (.long x5), none, some (.int (Int32.ofNat k_x7)), none] [.long (10 : Int64), .long (x2 / x5)] 1 (fun f => rfl) ?_
      refine zW_lrem rfl (by decide) ?_
      obtain ⟨h2, H⟩ := H
      refine zW_bh (zcmp .ne (Int32.ofNat x4) (0 : Int32)) 68 58 [some (.ref 71), none, some (.long x2), none, some (.int (Int32.ofNat x4)), some (.long x5), none, some (.int (Int32.ofNat k_x7)), some (.int (((x2 / x5) - (x2 / x5) / (10 : Int64) * (10 : Int64)).toInt32))] [] 4 (fun f => rfl) (fun c => ?_) (fun c => ?_)
      · have c9 : ¬ x4 = 0 := (by have c := (zcN_ne (a := x4) (b := 0) rfl rfl h2 (by decide)).symm.trans c; simpa using c)
        replace H := H.1 c9
        refine zW_gh 86 [some (.ref 71), none, some (.long x2), none, some (.int (1 : Int32)), some (.long x5), none, some (.int (Int32.ofNat k_x7)), some (.int (((x2 / x5) - (x2 / x5) / (10 : Int64) * (10 : Int64)).toInt32))] [.int ((48 : Int32) + (((x2 / x5) - (x2 / x5) / (10 : Int64) * (10 : Int64)).toInt32)), .ref 71] 9 (fun f => rfl) ?_
        refine zW_fg (L' := [some (.ref 71), none, some (.long x2), none, some (.int (1 : Int32)), some (.long x5), none, some (.int (Int32.ofNat k_x7)), none]) (zle_s _ (zle_s _ (zle_s _ (zle_s _ (zle_s _ (zle_s _ (zle_s _ (zle_s _ (zle_n _ zle_nil))))))))) ?_
        exact zW_cl rfl rfl rfl rfl rfl H
      · have c9 : x4 = 0 := (by have c := (zcN_ne (a := x4) (b := 0) rfl rfl h2 (by decide)).symm.trans c; simpa using c)
        replace H := H.2 c9
        refine zW_bh (zcmp .ne (((x2 / x5) - (x2 / x5) / (10 : Int64) * (10 : Int64)).toInt32) (0 : Int32)) 68 63 [some (.ref 71), none, some (.long x2), none, some (.int (Int32.ofNat x4)), some (.long x5), none, some (.int (Int32.ofNat k_x7)), some (.int (((x2 / x5) - (x2 / x5) / (10 : Int64) * (10 : Int64)).toInt32))] [] 2 (fun f => rfl) (fun c => ?_) (fun c => ?_)
        · have c9 : ¬ (((x2 / x5) - (x2 / x5) / (10 : Int64) * (10 : Int64)).toInt32) = (0 : Int32) := (by simpa [zcmp] using c)
          replace H := H.1 c9
          refine zW_gh 86 [some (.ref 71), none, some (.long x2), none, some (.int (1 : Int32)), some (.long x5), none, some (.int (Int32.ofNat k_x7)), some (.int (((x2 / x5) - (x2 / x5) / (10 : Int64) * (10 : Int64)).toInt32))] [.int ((48 : Int32) + (((x2 / x5) - (x2 / x5) / (10 : Int64) * (10 : Int64)).toInt32)), .ref 71] 9 (fun f => rfl) ?_
          refine zW_fg (L' := [some (.ref 71), none, some (.long x2), none, some (.int (1 : Int32)), some (.long x5), none, some (.int (Int32.ofNat k_x7)), none]) (zle_s _ (zle_s _ (zle_s _ (zle_s _ (zle_s _ (zle_s _ (zle_s _ (zle_s _ (zle_n _ zle_nil))))))))) ?_
          exact zW_cl rfl rfl rfl rfl rfl H
        · have c9 : (((x2 / x5) - (x2 / x5) / (10 : Int64) * (10 : Int64)).toInt32) = (0 : Int32) := (by simpa [zcmp] using c)
          replace H := H.2 c9
          refine zW_bh (zcmp .ne (Int32.ofNat k_x7) (0 : Int32)) 72 68 [some (.ref 71), none, some (.long x2), none, some (.int (Int32.ofNat x4)), some (.long x5), none, some (.int (Int32.ofNat k_x7)), some (.int (((x2 / x5) - (x2 / x5) / (10 : Int64) * (10 : Int64)).toInt32))] [] 2 (fun f => rfl) (fun c => ?_) (fun c => ?_)
          · have c9 : ¬ k_x7 = 0 := (by have c := (zcN_ne (a := k_x7) (b := 0) rfl rfl h_k_x7 (by decide)).symm.trans c; simpa using c)
            replace H := H.1 c9
            refine zW_gh 94 [some (.ref 71), none, some (.long x2), none, some (.int (0 : Int32)), some (.long x5), none, some (.int (Int32.ofNat k_x7)), some (.int (((x2 / x5) - (x2 / x5) / (10 : Int64) * (10 : Int64)).toInt32))] [.long (10 : Int64), .long x5] 6 (fun f => rfl) ?_
            refine zW_ldiv rfl (by decide) ?_
            refine zW_gh 97 [some (.ref 71), none, some (.long x2), none, some (.int (0 : Int32)), some (.long (x5 / (10 : Int64))), none, some (.int (Int32.ofNat k_x7)), some (.int (((x2 / x5) - (x2 / x5) / (10 : Int64) * (10 : Int64)).toInt32))] [] 1 (fun f => rfl) ?_
            refine zW_inc [some (.ref 71), none, some (.long x2), none, some (.int (0 : Int32)), some (.long (x5 / (10 : Int64))), none, some (.int ((Int32.ofNat k_x7) + Int32.ofInt (-1))), some (.int (((x2 / x5) - (x2 / x5) / (10 : Int64) * (10 : Int64)).toInt32))] rfl rfl rfl ?_
            refine zW_gh 30 [some (.ref 71), none, some (.long x2), none, some (.int (0 : Int32)), some (.long (x5 / (10 : Int64))), none, some (.int ((Int32.ofNat k_x7) + Int32.ofInt (-1))), some (.int (((x2 / x5) - (x2 / x5) / (10 : Int64) * (10 : Int64)).toInt32))] [] 1 (fun f => rfl) ?_
            refine zW_fg (L' := [some (.ref 71), none, some (.long x2), none, some (.int (0 : Int32)), some (.long (x5 / (10 : Int64))), none, some (.int ((Int32.ofNat k_x7) + Int32.ofInt (-1))), none]) (zle_s _ (zle_s _ (zle_s _ (zle_s _ (zle_s _ (zle_s _ (zle_s _ (zle_s _ (zle_n _ zle_nil))))))))) ?_
            exact H
          · have c9 : k_x7 = 0 := (by have c := (zcN_ne (a := k_x7) (b := 0) rfl rfl h_k_x7 (by decide)).symm.trans c; simpa using c)
            replace H := H.2 c9
            refine zW_gh 86 [some (.ref 71), none, some (.long x2), none, some (.int (1 : Int32)), some (.long x5), none, some (.int (Int32.ofNat k_x7)), some (.int (((x2 / x5) - (x2 / x5) / (10 : Int64) * (10 : Int64)).toInt32))] [.int ((48 : Int32) + (((x2 / x5) - (x2 / x5) / (10 : Int64) * (10 : Int64)).toInt32)), .ref 71] 9 (fun f => rfl) ?_
            refine zW_fg (L' := [some (.ref 71), none, some (.long x2), none, some (.int (1 : Int32)), some (.long x5), none, some (.int (Int32.ofNat k_x7)), none]) (zle_s _ (zle_s _ (zle_s _ (zle_s _ (zle_s _ (zle_s _ (zle_s _ (zle_s _ (zle_n _ zle_nil))))))))) ?_
            exact zW_cl rfl rfl rfl rfl rfl H
theorem b91_15 {P : zPt} {T : Nat → zX} {yc uc : Nat → Int32} {yl ul dp dw : Nat} {df : Int32} {dx : Bool} {dc : Nat → Int64} {I : zIt} {A : zAt} {w : Nat → Int64} {p : Nat × Nat} {Q : zR → zH → Prop} {x2 : Int64} (H : zW zm_91 30 [some (.ref 71), none, some (.long (-x2)), none, some (.int (Int32.ofNat 0)), some (.long (1000000000 : Int64)), none, some (.int (9 : Int32)), none] [] p (zh (P, T, (yc, yl), (uc, ul), (dc, dp, df, dw, dx)) I A w) Q) : zW zm_91 15 [some (.ref 71), none, some (.long x2), none, none, none, none, none, none] [] p (zh (P, T, (yc, yl), (uc, ul), (dc, dp, df, dw, dx)) I A w) Q := by
  refine zW_gh 30 [some (.ref 71), none, some (.long (-x2)), none, some (.int (0 : Int32)), some (.long (1000000000 : Int64)), none, some (.int (9 : Int32)), none] [] 9 (fun f => rfl) ?_
  exact H
theorem b91_89 {P : zPt} {T : Nat → zX} {yc uc : Nat → Int32} {yl ul dp dw : Nat} {df : Int32} {dx : Bool} {dc : Nat → Int64} {I : zIt} {A : zAt} {w : Nat → Int64} {p : Nat × Nat} {Q : zR → zH → Prop} {x4 x7 : Nat} {x2 x5 : Int64} (H : zW zm_91 30 [some (.ref 71), none, some (.long x2), none, some (.int (Int32.ofNat x4)), some (.long (x5 / (10 : Int64))), none, some (.int ((Int32.ofNat x7) + Int32.ofInt (-1))), none] [] p (zh (P, T, (yc, yl), (uc, ul), (dc, dp, df, dw, dx)) I A w) Q) : zW zm_91 89 [some (.ref 71), none, some (.long x2), none, some (.int (Int32.ofNat x4)), some (.long x5), none, some (.int (Int32.ofNat x7)), none] [] p (zh (P, T, (yc, yl), (uc, ul), (dc, dp, df, dw, dx)) I A w) Q := by
  refine zW_gh 94 [some (.ref 71), none, some (.long x2), none, some (.int (Int32.ofNat x4)), some (.long x5), none, some (.int (Int32.ofNat x7)), none] [.long (10 : Int64), .long x5] 2 (fun f => rfl) ?_
  refine zW_ldiv rfl (by decide) ?_
  refine zW_gh 97 [some (.ref 71), none, some (.long x2), none, some (.int (Int32.ofNat x4)), some (.long (x5 / (10 : Int64))), none, some (.int (Int32.ofNat x7)), none] [] 1 (fun f => rfl) ?_
  refine zW_inc [some (.ref 71), none, some (.long x2), none, some (.int (Int32.ofNat x4)), some (.long (x5 / (10 : Int64))), none, some (.int ((Int32.ofNat x7) + Int32.ofInt (-1))), none] rfl rfl rfl ?_
  refine zW_gh 30 [some (.ref 71), none, some (.long x2), none, some (.int (Int32.ofNat x4)), some (.long (x5 / (10 : Int64))), none, some (.int ((Int32.ofNat x7) + Int32.ofInt (-1))), none] [] 1 (fun f => rfl) ?_
  exact H
theorem b25 {P : zPt} {T : Nat → zX} {yc uc : Nat → Int32} {yl ul dp dw : Nat} {df : Int32} {dx : Bool} {dc : Nat → Int64} {I : zIt} {A : zAt} {w : Nat → Int64} {p : Nat × Nat} {Q : zR → zH → Prop} {a1 : Int64} (H : zT zm_91 [.ref 71, .int (zfi a1)] p (zh (P, T, (yc, yl), (uc, ul), (dc, dp, df, dw, dx)) I A w) (zK zm_25 8 [none, none, none, none] [] p Q)) : zT zm_25 [.ref 1, .ref 71, .long a1] p (zh (P, T, (yc, yl), (uc, ul), (dc, dp, df, dw, dx)) I A w) Q := by
  change zW zm_25 0 [some (.ref 1), some (.ref 71), some (.long a1), none] [] p _ Q
  refine zW_gh 2 [some (.ref 1), some (.ref 71), some (.long a1), none] [.long a1, .ref 71] 2 (fun f => rfl) ?_
  refine zW_cl rfl rfl rfl rfl rfl (s75 ?_)
  change zW zm_25 5 [some (.ref 1), some (.ref 71), some (.long a1), none] [.int (zfi a1), .ref 71] p _ Q
  generalize (zfi a1) = g1 at H ⊢
  refine zW_fg (L' := [none, none, none, none]) (zle_n _ (zle_n _ (zle_n _ (zle_s _ zle_nil)))) ?_
  exact zW_cl rfl rfl rfl rfl rfl H
theorem b25_8 {P : zPt} {T : Nat → zX} {yc uc : Nat → Int32} {yl ul dp dw : Nat} {df : Int32} {dx : Bool} {dc : Nat → Int64} {I : zIt} {A : zAt} {w : Nat → Int64} {p : Nat × Nat} {Q : zR → zH → Prop} (H : Q (.inl none) (zh (P, T, (yc, yl), (uc, ul), (dc, dp, df, dw, dx)) I A w)) : zW zm_25 8 [none, none, none, none] [] p (zh (P, T, (yc, yl), (uc, ul), (dc, dp, df, dw, dx)) I A w) Q := by
  exact zW_rh none 1 (fun f => rfl) H
theorem b10 {P : zPt} {T : Nat → zX} {yc uc : Nat → Int32} {yl ul dp dw : Nat} {df : Int32} {dx : Bool} {dc : Nat → Int64} {I : zIt} {A : zAt} {w : Nat → Int64} {p : Nat × Nat} {Q : zR → zH → Prop} {a1 : Int64} (H : ((¬ (zfi a1) = (0 : Int32) → zT zm_91 [.ref 71, .int (zfi a1)] p (zh (P, T, (yc, yl), (uc, ul), (dc, dp, df, dw, dx)) I A w) (zK zm_10 28 [none, some (.ref 71), none, none, some (.int (zfi a1)), some (.int (zse a1))] [] p Q)) ∧ ((zfi a1) = (0 : Int32) → ((¬ (zse a1) = (0 : Int32) → ((¬ (zse a1) = (0 : Int32) → (((zfi a1) = (0 : Int32) → ((¬ (zse a1) = (-1 : Int32) → (((zse a1) = (1 : Int32) → zT zm_89 [.ref 71, .int (105 : Int32)] p (zh (P, T, (yc, yl), (uc, ul), (dc, dp, df, dw, dx)) I A w) (zK zm_10 83 [none, none, none, none, none, none] [] p Q)) ∧ (¬ (zse a1) = (1 : Int32) → zT zm_91 [.ref 71, .int (zse a1)] p (zh (P, T, (yc, yl), (uc, ul), (dc, dp, df, dw, dx)) I A w) (zK zm_10 77 [none, some (.ref 71), none, none, none, none] [] p Q)))) ∧ ((zse a1) = (-1 : Int32) → zT zm_89 [.ref 71, .int (45 : Int32)] p (zh (P, T, (yc, yl), (uc, ul), (dc, dp, df, dw, dx)) I A w) (zK zm_10 62 [none, some (.ref 71), none, none, none, none] [] p Q)))) ∧ (¬ (zfi a1) = (0 : Int32) → (((zse a1) ≤ (0 : Int32) → ((¬ (zse a1) = (-1 : Int32) → (((zse a1) = (1 : Int32) → zT zm_89 [.ref 71, .int (105 : Int32)] p (zh (P, T, (yc, yl), (uc, ul), (dc, dp, df, dw, dx)) I A w) (zK zm_10 83 [none, none, none, none, none, none] [] p Q)) ∧ (¬ (zse a1) = (1 : Int32) → zT zm_91 [.ref 71, .int (zse a1)] p (zh (P, T, (yc, yl), (uc, ul), (dc, dp, df, dw, dx)) I A w) (zK zm_10 77 [none, some (.ref 71), none, none, none, none] [] p Q)))) ∧ ((zse a1) = (-1 : Int32) → zT zm_89 [.ref 71, .int (45 : Int32)] p (zh (P, T, (yc, yl), (uc, ul), (dc, dp, df, dw, dx)) I A w) (zK zm_10 62 [none, some (.ref 71), none, none, none, none] [] p Q)))) ∧ (¬ (zse a1) ≤ (0 : Int32) → zT zm_89 [.ref 71, .int (43 : Int32)] p (zh (P, T, (yc, yl), (uc, ul), (dc, dp, df, dw, dx)) I A w) (zK zm_10 50 [none, some (.ref 71), none, none, none, some (.int (zse a1))] [] p Q)))))) ∧ ((zse a1) = (0 : Int32) → Q (.inl none) (zh (P, T, (yc, yl), (uc, ul), (dc, dp, df, dw, dx)) I A w)))) ∧ ((zse a1) = (0 : Int32) → zT zm_91 [.ref 71, .int (zfi a1)] p (zh (P, T, (yc, yl), (uc, ul), (dc, dp, df, dw, dx)) I A w) (zK zm_10 28 [none, some (.ref 71), none, none, some (.int (zfi a1)), some (.int (zse a1))] [] p Q)))))) : zT zm_10 [.ref 3, .ref 71, .long a1] p (zh (P, T, (yc, yl), (uc, ul), (dc, dp, df, dw, dx)) I A w) Q := by
  change zW zm_10 0 [some (.ref 3), some (.ref 71), some (.long a1), none, none, none] [] p _ Q
  refine zW_gh 1 [some (.ref 3), some (.ref 71), some (.long a1), none, none, none] [.long a1] 1 (fun f => rfl) ?_
  refine zW_cl rfl rfl rfl rfl rfl (s75 ?_)
  change zW zm_10 4 [some (.ref 3), some (.ref 71), some (.long a1), none, none, none] [.int (zfi a1)] p _ Q
  generalize (zfi a1) = g1 at H ⊢
  refine zW_gh 7 [some (.ref 3), some (.ref 71), some (.long a1), none, some (.int g1), none] [.long a1] 2 (fun f => rfl) ?_
  refine zW_cl rfl rfl rfl rfl rfl (s78 ?_)
  change zW zm_10 10 [some (.ref 3), some (.ref 71), some (.long a1), none, some (.int g1), none] [.int (zse a1)] p _ Q
  generalize (zse a1) = g2 at H ⊢
  refine zW_bh (zcmp .ne g1 (0 : Int32)) 22 17 [some (.ref 3), some (.ref 71), some (.long a1), none, some (.int g1), some (.int g2)] [] 3 (fun f => rfl) (fun c => ?_) (fun c => ?_)
  · have c9 : ¬ g1 = (0 : Int32) := (by simpa [zcmp] using c)
    replace H := H.1 c9
    refine zW_gh 25 [some (.ref 3), some (.ref 71), some (.long a1), none, some (.int g1), some (.int g2)] [.int g1, .ref 71] 2 (fun f => rfl) ?_
    refine zW_fg (L' := [none, some (.ref 71), none, none, some (.int g1), some (.int g2)]) (zle_n _ (zle_s _ (zle_n _ (zle_s _ (zle_s _ (zle_s _ zle_nil)))))) ?_
    exact zW_cl rfl rfl rfl rfl rfl H
  · have c9 : g1 = (0 : Int32) := (by simpa [zcmp] using c)
    replace H := H.2 c9
    refine zW_bh (zcmp .ne g2 (0 : Int32)) 28 22 [some (.ref 3), some (.ref 71), some (.long a1), none, some (.int g1), some (.int g2)] [] 2 (fun f => rfl) (fun c => ?_) (fun c => ?_)
    · have c9 : ¬ g2 = (0 : Int32) := (by simpa [zcmp] using c)
      replace H := H.1 c9
      refine zW_bh (zcmp .ne g2 (0 : Int32)) 34 33 [some (.ref 3), some (.ref 71), some (.long a1), none, some (.int g1), some (.int g2)] [] 2 (fun f => rfl) (fun c => ?_) (fun c => ?_)
      · have c9 : ¬ g2 = (0 : Int32) := (by simpa [zcmp] using c)
        replace H := H.1 c9
        refine zW_bh (zcmp .eq g1 (0 : Int32)) 50 39 [some (.ref 3), some (.ref 71), some (.long a1), none, some (.int g1), some (.int g2)] [] 2 (fun f => rfl) (fun c => ?_) (fun c => ?_)
        · have c9 : g1 = (0 : Int32) := (of_decide_eq_true c)
          replace H := H.1 c9
          refine zW_bh (zcmp .ne g2 (-1 : Int32)) 65 56 [some (.ref 3), some (.ref 71), some (.long a1), none, some (.int g1), some (.int g2)] [] 3 (fun f => rfl) (fun c => ?_) (fun c => ?_)
          · have c9 : ¬ g2 = (-1 : Int32) := (by simpa [zcmp] using c)
            replace H := H.1 c9
            refine zW_bh (zcmp .eq g2 (1 : Int32)) 77 71 [some (.ref 3), some (.ref 71), some (.long a1), none, some (.int g1), some (.int g2)] [] 3 (fun f => rfl) (fun c => ?_) (fun c => ?_)
            · have c9 : g2 = (1 : Int32) := (of_decide_eq_true c)
              replace H := H.1 c9
              refine zW_gh 80 [some (.ref 3), some (.ref 71), some (.long a1), none, some (.int g1), some (.int g2)] [.int (105 : Int32), .ref 71] 2 (fun f => rfl) ?_
              refine zW_fg (L' := [none, none, none, none, none, none]) (zle_n _ (zle_n _ (zle_n _ (zle_s _ (zle_n _ (zle_n _ zle_nil)))))) ?_
              exact zW_cl rfl rfl rfl rfl rfl H
            · have c9 : ¬ g2 = (1 : Int32) := (of_decide_eq_false c)
              replace H := H.2 c9
              refine zW_gh 74 [some (.ref 3), some (.ref 71), some (.long a1), none, some (.int g1), some (.int g2)] [.int g2, .ref 71] 2 (fun f => rfl) ?_
              refine zW_fg (L' := [none, some (.ref 71), none, none, none, none]) (zle_n _ (zle_s _ (zle_n _ (zle_s _ (zle_n _ (zle_n _ zle_nil)))))) ?_
              exact zW_cl rfl rfl rfl rfl rfl H
          · have c9 : g2 = (-1 : Int32) := (by simpa [zcmp] using c)
            replace H := H.2 c9
            refine zW_gh 59 [some (.ref 3), some (.ref 71), some (.long a1), none, some (.int g1), some (.int g2)] [.int (45 : Int32), .ref 71] 2 (fun f => rfl) ?_
            refine zW_fg (L' := [none, some (.ref 71), none, none, none, none]) (zle_n _ (zle_s _ (zle_n _ (zle_s _ (zle_n _ (zle_n _ zle_nil)))))) ?_
            exact zW_cl rfl rfl rfl rfl rfl H
        · have c9 : ¬ g1 = (0 : Int32) := (of_decide_eq_false c)
          replace H := H.2 c9
          refine zW_bh (zcmp .le g2 (0 : Int32)) 50 44 [some (.ref 3), some (.ref 71), some (.long a1), none, some (.int g1), some (.int g2)] [] 2 (fun f => rfl) (fun c => ?_) (fun c => ?_)
          · have c9 : g2 ≤ (0 : Int32) := (of_decide_eq_true c)
            replace H := H.1 c9
            refine zW_bh (zcmp .ne g2 (-1 : Int32)) 65 56 [some (.ref 3), some (.ref 71), some (.long a1), none, some (.int g1), some (.int g2)] [] 3 (fun f => rfl) (fun c => ?_) (fun c => ?_)
            · have c9 : ¬ g2 = (-1 : Int32) := (by simpa [zcmp] using c)
              replace H := H.1 c9
              refine zW_bh (zcmp .eq g2 (1 : Int32)) 77 71 [some (.ref 3), some (.ref 71), some (.long a1), none, some (.int g1), some (.int g2)] [] 3 (fun f => rfl) (fun c => ?_) (fun c => ?_)
              · have c9 : g2 = (1 : Int32) := (of_decide_eq_true c)
                replace H := H.1 c9
                refine zW_gh 80 [some (.ref 3), some (.ref 71), some (.long a1), none, some (.int g1), some (.int g2)] [.int (105 : Int32), .ref 71] 2 (fun f => rfl) ?_
                refine zW_fg (L' := [none, none, none, none, none, none]) (zle_n _ (zle_n _ (zle_n _ (zle_s _ (zle_n _ (zle_n _ zle_nil)))))) ?_
                exact zW_cl rfl rfl rfl rfl rfl H
              · have c9 : ¬ g2 = (1 : Int32) := (of_decide_eq_false c)
                replace H := H.2 c9
                refine zW_gh 74 [some (.ref 3), some (.ref 71), some (.long a1), none, some (.int g1), some (.int g2)] [.int g2, .ref 71] 2 (fun f => rfl) ?_
                refine zW_fg (L' := [none, some (.ref 71), none, none, none, none]) (zle_n _ (zle_s _ (zle_n _ (zle_s _ (zle_n _ (zle_n _ zle_nil)))))) ?_
                exact zW_cl rfl rfl rfl rfl rfl H
            · have c9 : g2 = (-1 : Int32) := (by simpa [zcmp] using c)
              replace H := H.2 c9
              refine zW_gh 59 [some (.ref 3), some (.ref 71), some (.long a1), none, some (.int g1), some (.int g2)] [.int (45 : Int32), .ref 71] 2 (fun f => rfl) ?_
              refine zW_fg (L' := [none, some (.ref 71), none, none, none, none]) (zle_n _ (zle_s _ (zle_n _ (zle_s _ (zle_n _ (zle_n _ zle_nil)))))) ?_
              exact zW_cl rfl rfl rfl rfl rfl H
          · have c9 : ¬ g2 ≤ (0 : Int32) := (of_decide_eq_false c)
            replace H := H.2 c9
            refine zW_gh 47 [some (.ref 3), some (.ref 71), some (.long a1), none, some (.int g1), some (.int g2)] [.int (43 : Int32), .ref 71] 2 (fun f => rfl) ?_
            refine zW_fg (L' := [none, some (.ref 71), none, none, none, some (.int g2)]) (zle_n _ (zle_s _ (zle_n _ (zle_s _ (zle_n _ (zle_s _ zle_nil)))))) ?_
            exact zW_cl rfl rfl rfl rfl rfl H
      · have c9 : g2 = (0 : Int32) := (by simpa [zcmp] using c)
        replace H := H.2 c9
        exact zW_rh none 1 (fun f => rfl) H
    · have c9 : g2 = (0 : Int32) := (by simpa [zcmp] using c)
      replace H := H.2 c9
      refine zW_gh 25 [some (.ref 3), some (.ref 71), some (.long a1), none, some (.int g1), some (.int g2)] [.int g1, .ref 71] 2 (fun f => rfl) ?_
      refine zW_fg (L' := [none, some (.ref 71), none, none, some (.int g1), some (.int g2)]) (zle_n _ (zle_s _ (zle_n _ (zle_s _ (zle_s _ (zle_s _ zle_nil)))))) ?_
      exact zW_cl rfl rfl rfl rfl rfl H
theorem b10_28 {P : zPt} {T : Nat → zX} {yc uc : Nat → Int32} {yl ul dp dw : Nat} {df : Int32} {dx : Bool} {dc : Nat → Int64} {I : zIt} {A : zAt} {w : Nat → Int64} {p : Nat × Nat} {Q : zR → zH → Prop} {x4 x5 : Int32} (H : ((¬ x5 = (0 : Int32) → ((x4 = (0 : Int32) → ((¬ x5 = (-1 : Int32) → ((x5 = (1 : Int32) → zT zm_89 [.ref 71, .int (105 : Int32)] p (zh (P, T, (yc, yl), (uc, ul), (dc, dp, df, dw, dx)) I A w) (zK zm_10 83 [none, none, none, none, none, none] [] p Q)) ∧ (¬ x5 = (1 : Int32) → zT zm_91 [.ref 71, .int x5] p (zh (P, T, (yc, yl), (uc, ul), (dc, dp, df, dw, dx)) I A w) (zK zm_10 77 [none, some (.ref 71), none, none, none, none] [] p Q)))) ∧ (x5 = (-1 : Int32) → zT zm_89 [.ref 71, .int (45 : Int32)] p (zh (P, T, (yc, yl), (uc, ul), (dc, dp, df, dw, dx)) I A w) (zK zm_10 62 [none, some (.ref 71), none, none, none, none] [] p Q)))) ∧ (¬ x4 = (0 : Int32) → ((x5 ≤ (0 : Int32) → ((¬ x5 = (-1 : Int32) → ((x5 = (1 : Int32) → zT zm_89 [.ref 71, .int (105 : Int32)] p (zh (P, T, (yc, yl), (uc, ul), (dc, dp, df, dw, dx)) I A w) (zK zm_10 83 [none, none, none, none, none, none] [] p Q)) ∧ (¬ x5 = (1 : Int32) → zT zm_91 [.ref 71, .int x5] p (zh (P, T, (yc, yl), (uc, ul), (dc, dp, df, dw, dx)) I A w) (zK zm_10 77 [none, some (.ref 71), none, none, none, none] [] p Q)))) ∧ (x5 = (-1 : Int32) → zT zm_89 [.ref 71, .int (45 : Int32)] p (zh (P, T, (yc, yl), (uc, ul), (dc, dp, df, dw, dx)) I A w) (zK zm_10 62 [none, some (.ref 71), none, none, none, none] [] p Q)))) ∧ (¬ x5 ≤ (0 : Int32) → zT zm_89 [.ref 71, .int (43 : Int32)] p (zh (P, T, (yc, yl), (uc, ul), (dc, dp, df, dw, dx)) I A w) (zK zm_10 50 [none, some (.ref 71), none, none, none, some (.int x5)] [] p Q)))))) ∧ (x5 = (0 : Int32) → Q (.inl none) (zh (P, T, (yc, yl), (uc, ul), (dc, dp, df, dw, dx)) I A w)))) : zW zm_10 28 [none, some (.ref 71), none, none, some (.int x4), some (.int x5)] [] p (zh (P, T, (yc, yl), (uc, ul), (dc, dp, df, dw, dx)) I A w) Q := by
  refine zW_bh (zcmp .ne x5 (0 : Int32)) 34 33 [none, some (.ref 71), none, none, some (.int x4), some (.int x5)] [] 2 (fun f => rfl) (fun c => ?_) (fun c => ?_)
  · have c9 : ¬ x5 = (0 : Int32) := (by simpa [zcmp] using c)
    replace H := H.1 c9
    refine zW_bh (zcmp .eq x4 (0 : Int32)) 50 39 [none, some (.ref 71), none, none, some (.int x4), some (.int x5)] [] 2 (fun f => rfl) (fun c => ?_) (fun c => ?_)
    · have c9 : x4 = (0 : Int32) := (of_decide_eq_true c)
      replace H := H.1 c9
      refine zW_bh (zcmp .ne x5 (-1 : Int32)) 65 56 [none, some (.ref 71), none, none, some (.int x4), some (.int x5)] [] 3 (fun f => rfl) (fun c => ?_) (fun c => ?_)
      · have c9 : ¬ x5 = (-1 : Int32) := (by simpa [zcmp] using c)
        replace H := H.1 c9
        refine zW_bh (zcmp .eq x5 (1 : Int32)) 77 71 [none, some (.ref 71), none, none, some (.int x4), some (.int x5)] [] 3 (fun f => rfl) (fun c => ?_) (fun c => ?_)
        · have c9 : x5 = (1 : Int32) := (of_decide_eq_true c)
          replace H := H.1 c9
          refine zW_gh 80 [none, some (.ref 71), none, none, some (.int x4), some (.int x5)] [.int (105 : Int32), .ref 71] 2 (fun f => rfl) ?_
          refine zW_fg (L' := [none, none, none, none, none, none]) (zle_s _ (zle_n _ (zle_s _ (zle_s _ (zle_n _ (zle_n _ zle_nil)))))) ?_
          exact zW_cl rfl rfl rfl rfl rfl H
        · have c9 : ¬ x5 = (1 : Int32) := (of_decide_eq_false c)
          replace H := H.2 c9
          refine zW_gh 74 [none, some (.ref 71), none, none, some (.int x4), some (.int x5)] [.int x5, .ref 71] 2 (fun f => rfl) ?_
          refine zW_fg (L' := [none, some (.ref 71), none, none, none, none]) (zle_s _ (zle_s _ (zle_s _ (zle_s _ (zle_n _ (zle_n _ zle_nil)))))) ?_
          exact zW_cl rfl rfl rfl rfl rfl H
      · have c9 : x5 = (-1 : Int32) := (by simpa [zcmp] using c)
        replace H := H.2 c9
        refine zW_gh 59 [none, some (.ref 71), none, none, some (.int x4), some (.int x5)] [.int (45 : Int32), .ref 71] 2 (fun f => rfl) ?_
        refine zW_fg (L' := [none, some (.ref 71), none, none, none, none]) (zle_s _ (zle_s _ (zle_s _ (zle_s _ (zle_n _ (zle_n _ zle_nil)))))) ?_
        exact zW_cl rfl rfl rfl rfl rfl H
    · have c9 : ¬ x4 = (0 : Int32) := (of_decide_eq_false c)
      replace H := H.2 c9
      refine zW_bh (zcmp .le x5 (0 : Int32)) 50 44 [none, some (.ref 71), none, none, some (.int x4), some (.int x5)] [] 2 (fun f => rfl) (fun c => ?_) (fun c => ?_)
      · have c9 : x5 ≤ (0 : Int32) := (of_decide_eq_true c)
        replace H := H.1 c9
        refine zW_bh (zcmp .ne x5 (-1 : Int32)) 65 56 [none, some (.ref 71), none, none, some (.int x4), some (.int x5)] [] 3 (fun f => rfl) (fun c => ?_) (fun c => ?_)
        · have c9 : ¬ x5 = (-1 : Int32) := (by simpa [zcmp] using c)
          replace H := H.1 c9
          refine zW_bh (zcmp .eq x5 (1 : Int32)) 77 71 [none, some (.ref 71), none, none, some (.int x4), some (.int x5)] [] 3 (fun f => rfl) (fun c => ?_) (fun c => ?_)
          · have c9 : x5 = (1 : Int32) := (of_decide_eq_true c)
            replace H := H.1 c9
            refine zW_gh 80 [none, some (.ref 71), none, none, some (.int x4), some (.int x5)] [.int (105 : Int32), .ref 71] 2 (fun f => rfl) ?_
            refine zW_fg (L' := [none, none, none, none, none, none]) (zle_s _ (zle_n _ (zle_s _ (zle_s _ (zle_n _ (zle_n _ zle_nil)))))) ?_
            exact zW_cl rfl rfl rfl rfl rfl H
          · have c9 : ¬ x5 = (1 : Int32) := (of_decide_eq_false c)
            replace H := H.2 c9
            refine zW_gh 74 [none, some (.ref 71), none, none, some (.int x4), some (.int x5)] [.int x5, .ref 71] 2 (fun f => rfl) ?_
            refine zW_fg (L' := [none, some (.ref 71), none, none, none, none]) (zle_s _ (zle_s _ (zle_s _ (zle_s _ (zle_n _ (zle_n _ zle_nil)))))) ?_
            exact zW_cl rfl rfl rfl rfl rfl H
        · have c9 : x5 = (-1 : Int32) := (by simpa [zcmp] using c)
          replace H := H.2 c9
          refine zW_gh 59 [none, some (.ref 71), none, none, some (.int x4), some (.int x5)] [.int (45 : Int32), .ref 71] 2 (fun f => rfl) ?_
          refine zW_fg (L' := [none, some (.ref 71), none, none, none, none]) (zle_s _ (zle_s _ (zle_s _ (zle_s _ (zle_n _ (zle_n _ zle_nil)))))) ?_
          exact zW_cl rfl rfl rfl rfl rfl H
      · have c9 : ¬ x5 ≤ (0 : Int32) := (of_decide_eq_false c)
        replace H := H.2 c9
        refine zW_gh 47 [none, some (.ref 71), none, none, some (.int x4), some (.int x5)] [.int (43 : Int32), .ref 71] 2 (fun f => rfl) ?_
        refine zW_fg (L' := [none, some (.ref 71), none, none, none, some (.int x5)]) (zle_s _ (zle_s _ (zle_s _ (zle_s _ (zle_n _ (zle_s _ zle_nil)))))) ?_
        exact zW_cl rfl rfl rfl rfl rfl H
  · have c9 : x5 = (0 : Int32) := (by simpa [zcmp] using c)
    replace H := H.2 c9
    exact zW_rh none 1 (fun f => rfl) H
theorem b10_83 {P : zPt} {T : Nat → zX} {yc uc : Nat → Int32} {yl ul dp dw : Nat} {df : Int32} {dx : Bool} {dc : Nat → Int64} {I : zIt} {A : zAt} {w : Nat → Int64} {p : Nat × Nat} {Q : zR → zH → Prop} (H : Q (.inl none) (zh (P, T, (yc, yl), (uc, ul), (dc, dp, df, dw, dx)) I A w)) : zW zm_10 83 [none, none, none, none, none, none] [] p (zh (P, T, (yc, yl), (uc, ul), (dc, dp, df, dw, dx)) I A w) Q := by
  exact zW_rh none 1 (fun f => rfl) H
theorem b10_77 {P : zPt} {T : Nat → zX} {yc uc : Nat → Int32} {yl ul dp dw : Nat} {df : Int32} {dx : Bool} {dc : Nat → Int64} {I : zIt} {A : zAt} {w : Nat → Int64} {p : Nat × Nat} {Q : zR → zH → Prop} (H : zT zm_89 [.ref 71, .int (105 : Int32)] p (zh (P, T, (yc, yl), (uc, ul), (dc, dp, df, dw, dx)) I A w) (zK zm_10 83 [none, none, none, none, none, none] [] p Q)) : zW zm_10 77 [none, some (.ref 71), none, none, none, none] [] p (zh (P, T, (yc, yl), (uc, ul), (dc, dp, df, dw, dx)) I A w) Q := by
  refine zW_gh 80 [none, some (.ref 71), none, none, none, none] [.int (105 : Int32), .ref 71] 2 (fun f => rfl) ?_
  refine zW_fg (L' := [none, none, none, none, none, none]) (zle_s _ (zle_n _ (zle_s _ (zle_s _ (zle_s _ (zle_s _ zle_nil)))))) ?_
  exact zW_cl rfl rfl rfl rfl rfl H
theorem b10_62 {P : zPt} {T : Nat → zX} {yc uc : Nat → Int32} {yl ul dp dw : Nat} {df : Int32} {dx : Bool} {dc : Nat → Int64} {I : zIt} {A : zAt} {w : Nat → Int64} {p : Nat × Nat} {Q : zR → zH → Prop} (H : zT zm_89 [.ref 71, .int (105 : Int32)] p (zh (P, T, (yc, yl), (uc, ul), (dc, dp, df, dw, dx)) I A w) (zK zm_10 83 [none, none, none, none, none, none] [] p Q)) : zW zm_10 62 [none, some (.ref 71), none, none, none, none] [] p (zh (P, T, (yc, yl), (uc, ul), (dc, dp, df, dw, dx)) I A w) Q := by
  refine zW_gh 80 [none, some (.ref 71), none, none, none, none] [.int (105 : Int32), .ref 71] 3 (fun f => rfl) ?_
  refine zW_fg (L' := [none, none, none, none, none, none]) (zle_s _ (zle_n _ (zle_s _ (zle_s _ (zle_s _ (zle_s _ zle_nil)))))) ?_
  exact zW_cl rfl rfl rfl rfl rfl H
theorem b10_50 {P : zPt} {T : Nat → zX} {yc uc : Nat → Int32} {yl ul dp dw : Nat} {df : Int32} {dx : Bool} {dc : Nat → Int64} {I : zIt} {A : zAt} {w : Nat → Int64} {p : Nat × Nat} {Q : zR → zH → Prop} {x5 : Int32} (H : ((¬ x5 = (-1 : Int32) → ((x5 = (1 : Int32) → zT zm_89 [.ref 71, .int (105 : Int32)] p (zh (P, T, (yc, yl), (uc, ul), (dc, dp, df, dw, dx)) I A w) (zK zm_10 83 [none, none, none, none, none, none] [] p Q)) ∧ (¬ x5 = (1 : Int32) → zT zm_91 [.ref 71, .int x5] p (zh (P, T, (yc, yl), (uc, ul), (dc, dp, df, dw, dx)) I A w) (zK zm_10 77 [none, some (.ref 71), none, none, none, none] [] p Q)))) ∧ (x5 = (-1 : Int32) → zT zm_89 [.ref 71, .int (45 : Int32)] p (zh (P, T, (yc, yl), (uc, ul), (dc, dp, df, dw, dx)) I A w) (zK zm_10 62 [none, some (.ref 71), none, none, none, none] [] p Q)))) : zW zm_10 50 [none, some (.ref 71), none, none, none, some (.int x5)] [] p (zh (P, T, (yc, yl), (uc, ul), (dc, dp, df, dw, dx)) I A w) Q := by
  refine zW_bh (zcmp .ne x5 (-1 : Int32)) 65 56 [none, some (.ref 71), none, none, none, some (.int x5)] [] 3 (fun f => rfl) (fun c => ?_) (fun c => ?_)
  · have c9 : ¬ x5 = (-1 : Int32) := (by simpa [zcmp] using c)
    replace H := H.1 c9
    refine zW_bh (zcmp .eq x5 (1 : Int32)) 77 71 [none, some (.ref 71), none, none, none, some (.int x5)] [] 3 (fun f => rfl) (fun c => ?_) (fun c => ?_)
    · have c9 : x5 = (1 : Int32) := (of_decide_eq_true c)
      replace H := H.1 c9
      refine zW_gh 80 [none, some (.ref 71), none, none, none, some (.int x5)] [.int (105 : Int32), .ref 71] 2 (fun f => rfl) ?_
      refine zW_fg (L' := [none, none, none, none, none, none]) (zle_s _ (zle_n _ (zle_s _ (zle_s _ (zle_s _ (zle_n _ zle_nil)))))) ?_
      exact zW_cl rfl rfl rfl rfl rfl H
    · have c9 : ¬ x5 = (1 : Int32) := (of_decide_eq_false c)
      replace H := H.2 c9
      refine zW_gh 74 [none, some (.ref 71), none, none, none, some (.int x5)] [.int x5, .ref 71] 2 (fun f => rfl) ?_
      refine zW_fg (L' := [none, some (.ref 71), none, none, none, none]) (zle_s _ (zle_s _ (zle_s _ (zle_s _ (zle_s _ (zle_n _ zle_nil)))))) ?_
      exact zW_cl rfl rfl rfl rfl rfl H
  · have c9 : x5 = (-1 : Int32) := (by simpa [zcmp] using c)
    replace H := H.2 c9
    refine zW_gh 59 [none, some (.ref 71), none, none, none, some (.int x5)] [.int (45 : Int32), .ref 71] 2 (fun f => rfl) ?_
    refine zW_fg (L' := [none, some (.ref 71), none, none, none, none]) (zle_s _ (zle_s _ (zle_s _ (zle_s _ (zle_s _ (zle_n _ zle_nil)))))) ?_
    exact zW_cl rfl rfl rfl rfl rfl H
theorem b73 {P : zPt} {T : Nat → zX} {yc uc : Nat → Int32} {yl ul dp dw : Nat} {df : Int32} {dx : Bool} {dc : Nat → Int64} {I : zIt} {A : zAt} {w : Nat → Int64} {p : Nat × Nat} {Q : zR → zH → Prop} {a1 a2 : Int32} (H : ((¬ a1 = (1 : Int32) → zT zm_89 [.ref 71, .int ((48 : Int32) + a1)] p (zh (P, T, (yc, yl), (uc, ul), (dc, dp, df, dw, dx)) I A w) (zK zm_73 17 [some (.ref 71), none, some (.int a2)] [] p Q)) ∧ (a1 = (1 : Int32) → ((¬ a2 = (0 : Int32) → ((a2 ≤ (0 : Int32) → ((a2 ≤ (1 : Int32) → Q (.inl none) (zh (P, T, (yc, yl), (uc, ul), (dc, dp, df, dw, dx)) I A w)) ∧ (¬ a2 ≤ (1 : Int32) → zT zm_89 [.ref 71, .int (94 : Int32)] p (zh (P, T, (yc, yl), (uc, ul), (dc, dp, df, dw, dx)) I A w) (zK zm_73 38 [some (.ref 71), none, some (.int a2)] [] p Q)))) ∧ (¬ a2 ≤ (0 : Int32) → zT zm_89 [.ref 71, .int (120 : Int32)] p (zh (P, T, (yc, yl), (uc, ul), (dc, dp, df, dw, dx)) I A w) (zK zm_73 27 [some (.ref 71), none, some (.int a2)] [] p Q)))) ∧ (a2 = (0 : Int32) → zT zm_89 [.ref 71, .int ((48 : Int32) + a1)] p (zh (P, T, (yc, yl), (uc, ul), (dc, dp, df, dw, dx)) I A w) (zK zm_73 17 [some (.ref 71), none, some (.int a2)] [] p Q)))))) : zT zm_73 [.ref 71, .int a1, .int a2] p (zh (P, T, (yc, yl), (uc, ul), (dc, dp, df, dw, dx)) I A w) Q := by
  change zW zm_73 0 [some (.ref 71), some (.int a1), some (.int a2)] [] p _ Q
  refine zW_bh (zcmp .ne a1 (1 : Int32)) 9 5 [some (.ref 71), some (.int a1), some (.int a2)] [] 3 (fun f => rfl) (fun c => ?_) (fun c => ?_)
  · have c9 : ¬ a1 = (1 : Int32) := (by simpa [zcmp] using c)
    replace H := H.1 c9
    refine zW_gh 14 [some (.ref 71), some (.int a1), some (.int a2)] [.int ((48 : Int32) + a1), .ref 71] 4 (fun f => rfl) ?_
    refine zW_fg (L' := [some (.ref 71), none, some (.int a2)]) (zle_s _ (zle_n _ (zle_s _ zle_nil))) ?_
    exact zW_cl rfl rfl rfl rfl rfl H
  · have c9 : a1 = (1 : Int32) := (by simpa [zcmp] using c)
    replace H := H.2 c9
    refine zW_bh (zcmp .ne a2 (0 : Int32)) 17 9 [some (.ref 71), some (.int a1), some (.int a2)] [] 2 (fun f => rfl) (fun c => ?_) (fun c => ?_)
    · have c9 : ¬ a2 = (0 : Int32) := (by simpa [zcmp] using c)
      replace H := H.1 c9
      refine zW_bh (zcmp .le a2 (0 : Int32)) 27 21 [some (.ref 71), some (.int a1), some (.int a2)] [] 2 (fun f => rfl) (fun c => ?_) (fun c => ?_)
      · have c9 : a2 ≤ (0 : Int32) := (of_decide_eq_true c)
        replace H := H.1 c9
        refine zW_bh (zcmp .le a2 (1 : Int32)) 46 32 [some (.ref 71), some (.int a1), some (.int a2)] [] 3 (fun f => rfl) (fun c => ?_) (fun c => ?_)
        · have c9 : a2 ≤ (1 : Int32) := (of_decide_eq_true c)
          replace H := H.1 c9
          exact zW_rh none 1 (fun f => rfl) H
        · have c9 : ¬ a2 ≤ (1 : Int32) := (of_decide_eq_false c)
          replace H := H.2 c9
          refine zW_gh 35 [some (.ref 71), some (.int a1), some (.int a2)] [.int (94 : Int32), .ref 71] 2 (fun f => rfl) ?_
          refine zW_fg (L' := [some (.ref 71), none, some (.int a2)]) (zle_s _ (zle_n _ (zle_s _ zle_nil))) ?_
          exact zW_cl rfl rfl rfl rfl rfl H
      · have c9 : ¬ a2 ≤ (0 : Int32) := (of_decide_eq_false c)
        replace H := H.2 c9
        refine zW_gh 24 [some (.ref 71), some (.int a1), some (.int a2)] [.int (120 : Int32), .ref 71] 2 (fun f => rfl) ?_
        refine zW_fg (L' := [some (.ref 71), none, some (.int a2)]) (zle_s _ (zle_n _ (zle_s _ zle_nil))) ?_
        exact zW_cl rfl rfl rfl rfl rfl H
    · have c9 : a2 = (0 : Int32) := (by simpa [zcmp] using c)
      replace H := H.2 c9
      refine zW_gh 14 [some (.ref 71), some (.int a1), some (.int a2)] [.int ((48 : Int32) + a1), .ref 71] 4 (fun f => rfl) ?_
      refine zW_fg (L' := [some (.ref 71), none, some (.int a2)]) (zle_s _ (zle_n _ (zle_s _ zle_nil))) ?_
      exact zW_cl rfl rfl rfl rfl rfl H
theorem b73_17 {P : zPt} {T : Nat → zX} {yc uc : Nat → Int32} {yl ul dp dw : Nat} {df : Int32} {dx : Bool} {dc : Nat → Int64} {I : zIt} {A : zAt} {w : Nat → Int64} {p : Nat × Nat} {Q : zR → zH → Prop} {x2 : Int32} (H : ((x2 ≤ (0 : Int32) → ((x2 ≤ (1 : Int32) → Q (.inl none) (zh (P, T, (yc, yl), (uc, ul), (dc, dp, df, dw, dx)) I A w)) ∧ (¬ x2 ≤ (1 : Int32) → zT zm_89 [.ref 71, .int (94 : Int32)] p (zh (P, T, (yc, yl), (uc, ul), (dc, dp, df, dw, dx)) I A w) (zK zm_73 38 [some (.ref 71), none, some (.int x2)] [] p Q)))) ∧ (¬ x2 ≤ (0 : Int32) → zT zm_89 [.ref 71, .int (120 : Int32)] p (zh (P, T, (yc, yl), (uc, ul), (dc, dp, df, dw, dx)) I A w) (zK zm_73 27 [some (.ref 71), none, some (.int x2)] [] p Q)))) : zW zm_73 17 [some (.ref 71), none, some (.int x2)] [] p (zh (P, T, (yc, yl), (uc, ul), (dc, dp, df, dw, dx)) I A w) Q := by
  refine zW_bh (zcmp .le x2 (0 : Int32)) 27 21 [some (.ref 71), none, some (.int x2)] [] 2 (fun f => rfl) (fun c => ?_) (fun c => ?_)
  · have c9 : x2 ≤ (0 : Int32) := (of_decide_eq_true c)
    replace H := H.1 c9
    refine zW_bh (zcmp .le x2 (1 : Int32)) 46 32 [some (.ref 71), none, some (.int x2)] [] 3 (fun f => rfl) (fun c => ?_) (fun c => ?_)
    · have c9 : x2 ≤ (1 : Int32) := (of_decide_eq_true c)
      replace H := H.1 c9
      exact zW_rh none 1 (fun f => rfl) H
    · have c9 : ¬ x2 ≤ (1 : Int32) := (of_decide_eq_false c)
      replace H := H.2 c9
      refine zW_gh 35 [some (.ref 71), none, some (.int x2)] [.int (94 : Int32), .ref 71] 2 (fun f => rfl) ?_
      exact zW_cl rfl rfl rfl rfl rfl H
  · have c9 : ¬ x2 ≤ (0 : Int32) := (of_decide_eq_false c)
    replace H := H.2 c9
    refine zW_gh 24 [some (.ref 71), none, some (.int x2)] [.int (120 : Int32), .ref 71] 2 (fun f => rfl) ?_
    exact zW_cl rfl rfl rfl rfl rfl H
theorem b73_38 {P : zPt} {T : Nat → zX} {yc uc : Nat → Int32} {yl ul dp dw : Nat} {df : Int32} {dx : Bool} {dc : Nat → Int64} {I : zIt} {A : zAt} {w : Nat → Int64} {p : Nat × Nat} {Q : zR → zH → Prop} {x2 : Int32} (H : zT zm_89 [.ref 71, .int ((48 : Int32) + x2)] p (zh (P, T, (yc, yl), (uc, ul), (dc, dp, df, dw, dx)) I A w) (zK zm_73 46 [none, none, none] [] p Q)) : zW zm_73 38 [some (.ref 71), none, some (.int x2)] [] p (zh (P, T, (yc, yl), (uc, ul), (dc, dp, df, dw, dx)) I A w) Q := by
  refine zW_gh 43 [some (.ref 71), none, some (.int x2)] [.int ((48 : Int32) + x2), .ref 71] 4 (fun f => rfl) ?_
  refine zW_fg (L' := [none, none, none]) (zle_n _ (zle_s _ (zle_n _ zle_nil))) ?_
  exact zW_cl rfl rfl rfl rfl rfl H
theorem b73_27 {P : zPt} {T : Nat → zX} {yc uc : Nat → Int32} {yl ul dp dw : Nat} {df : Int32} {dx : Bool} {dc : Nat → Int64} {I : zIt} {A : zAt} {w : Nat → Int64} {p : Nat × Nat} {Q : zR → zH → Prop} {x2 : Int32} (H : ((x2 ≤ (1 : Int32) → Q (.inl none) (zh (P, T, (yc, yl), (uc, ul), (dc, dp, df, dw, dx)) I A w)) ∧ (¬ x2 ≤ (1 : Int32) → zT zm_89 [.ref 71, .int (94 : Int32)] p (zh (P, T, (yc, yl), (uc, ul), (dc, dp, df, dw, dx)) I A w) (zK zm_73 38 [some (.ref 71), none, some (.int x2)] [] p Q)))) : zW zm_73 27 [some (.ref 71), none, some (.int x2)] [] p (zh (P, T, (yc, yl), (uc, ul), (dc, dp, df, dw, dx)) I A w) Q := by
  refine zW_bh (zcmp .le x2 (1 : Int32)) 46 32 [some (.ref 71), none, some (.int x2)] [] 3 (fun f => rfl) (fun c => ?_) (fun c => ?_)
  · have c9 : x2 ≤ (1 : Int32) := (of_decide_eq_true c)
    replace H := H.1 c9
    exact zW_rh none 1 (fun f => rfl) H
  · have c9 : ¬ x2 ≤ (1 : Int32) := (of_decide_eq_false c)
    replace H := H.2 c9
    refine zW_gh 35 [some (.ref 71), none, some (.int x2)] [.int (94 : Int32), .ref 71] 2 (fun f => rfl) ?_
    exact zW_cl rfl rfl rfl rfl rfl H
theorem b73_46 {P : zPt} {T : Nat → zX} {yc uc : Nat → Int32} {yl ul dp dw : Nat} {df : Int32} {dx : Bool} {dc : Nat → Int64} {I : zIt} {A : zAt} {w : Nat → Int64} {p : Nat × Nat} {Q : zR → zH → Prop} (H : Q (.inl none) (zh (P, T, (yc, yl), (uc, ul), (dc, dp, df, dw, dx)) I A w)) : zW zm_73 46 [none, none, none] [] p (zh (P, T, (yc, yl), (uc, ul), (dc, dp, df, dw, dx)) I A w) Q := by
  exact zW_rh none 1 (fun f => rfl) H
theorem b72 {P : zPt} {T : Nat → zX} {yc uc : Nat → Int32} {yl ul dp dw : Nat} {df : Int32} {dx : Bool} {dc : Nat → Int64} {I : zIt} {A : zAt} {w : Nat → Int64} {p : Nat × Nat} {Q : zR → zH → Prop} {j : Nat} {a1 : Int64} (h1_j : 1 ≤ j) (h4_j : j ≤ 4) (H : zT zm_61 [.ref (4 * j), .long a1, .ref (4 * j + 3)] p (zh (P, T, (yc, yl), (uc, ul), (dc, dp, df, dw, dx)) I A w) (zK zm_72 9 [some (.ref (4 * j)), some (.ref 71), none, none, none, none] [] p Q)) : zT zm_72 [.ref (4 * j), .ref 71, .long a1] p (zh (P, T, (yc, yl), (uc, ul), (dc, dp, df, dw, dx)) I A w) Q := by
  change zW zm_72 0 [some (.ref (4 * j)), some (.ref 71), some (.long a1), none, none, none] [] p _ Q
  refine zW_gh 3 [some (.ref (4 * j)), some (.ref 71), some (.long a1), none, none, none] [.ref (4 * j), .long a1, .ref (4 * j)] 3 (fun f => rfl) ?_
  refine zW_gf rfl (by omega) (zh_P0 h1_j h4_j) rfl (v := .ref (4 * j + 3)) rfl ?_
  refine zW_fg (L' := [some (.ref (4 * j)), some (.ref 71), none, none, none, none]) (zle_s _ (zle_s _ (zle_n _ (zle_s _ (zle_s _ (zle_s _ zle_nil)))))) ?_
  exact zW_cv rfl rfl rfl (by omega) (zh_P0 h1_j h4_j) rfl rfl rfl rfl H
theorem b72_9 {P : zPt} {T : Nat → zX} {yc uc : Nat → Int32} {yl ul dp dw : Nat} {df : Int32} {dx : Bool} {dc : Nat → Int64} {I : zIt} {A : zAt} {w : Nat → Int64} {p : Nat × Nat} {Q : zR → zH → Prop} {j : Nat} {rv : Int32} (H : (((0 : Int32) ≤ rv → ∀ k_rv, k_rv < 2147483648 → rv = Int32.ofNat k_rv → zW zm_72 26 [some (.ref (4 * j)), some (.ref 71), none, none, some (.int (Int32.ofNat k_rv)), some (.int (7 : Int32))] [] p (zh (P, T, (yc, yl), (uc, ul), (dc, dp, df, dw, dx)) I A w) Q) ∧ (¬ (0 : Int32) ≤ rv → zT zm_89 [.ref 71, .int (48 : Int32)] p (zh (P, T, (yc, yl), (uc, ul), (dc, dp, df, dw, dx)) I A w) (zK zm_72 22 [some (.ref (4 * j)), some (.ref 71), none, none, some (.int rv), none] [] p Q)))) : zW zm_72 9 [some (.ref (4 * j)), some (.ref 71), none, none, none, none] [.int rv] p (zh (P, T, (yc, yl), (uc, ul), (dc, dp, df, dw, dx)) I A w) Q := by
  refine zW_bh (zcmp .ge rv (0 : Int32)) 22 16 [some (.ref (4 * j)), some (.ref 71), none, none, some (.int rv), none] [] 3 (fun f => rfl) (fun c => ?_) (fun c => ?_)
  · have c9 : (0 : Int32) ≤ rv := (of_decide_eq_true c)
    replace H := H.1 c9
    obtain ⟨k_rv, h_k_rv, e_k_rv⟩ := zNn' c9
    replace H := H k_rv h_k_rv e_k_rv
    subst e_k_rv
    refine zW_gh 26 [some (.ref (4 * j)), some (.ref 71), none, none, some (.int (Int32.ofNat k_rv)), some (.int (7 : Int32))] [] 2 (fun f => rfl) ?_
    exact H
  · have c9 : ¬ (0 : Int32) ≤ rv := (of_decide_eq_false c)
    replace H := H.2 c9
    refine zW_gh 19 [some (.ref (4 * j)), some (.ref 71), none, none, some (.int rv), none] [.int (48 : Int32), .ref 71] 2 (fun f => rfl) ?_
    exact zW_cl rfl rfl rfl rfl rfl H
theorem b72_26 {P : zPt} {T : Nat → zX} {yc uc : Nat → Int32} {yl ul dp dw : Nat} {df : Int32} {dx : Bool} {dc : Nat → Int64} {I : zIt} {A : zAt} {w : Nat → Int64} {p : Nat × Nat} {Q : zR → zH → Prop} {j : Nat} {x4 x5 : Int32} (h1_j : 1 ≤ j) (h4_j : j ≤ 4) (H : ((x5 < (0 : Int32) → Q (.inl none) (zh (P, T, (yc, yl), (uc, ul), (dc, dp, df, dw, dx)) I A w)) ∧ (¬ x5 < (0 : Int32) → ∀ k_x5, k_x5 < 2147483648 → x5 = Int32.ofNat k_x5 → (k_x5 < 8 ∧ ((((P j).2.2 k_x5) = (0 : Int32) → zW zm_72 26 [some (.ref (4 * j)), some (.ref 71), none, none, some (.int x4), some (.int ((Int32.ofNat k_x5) + Int32.ofInt (-1)))] [] p (zh (P, T, (yc, yl), (uc, ul), (dc, dp, df, dw, dx)) I A w) Q) ∧ (¬ ((P j).2.2 k_x5) = (0 : Int32) → ((x4 ≤ (Int32.ofNat k_x5) → zT zm_73 [.ref 71, .int ((P j).2.2 k_x5), .int (Int32.ofNat k_x5)] p (zh (P, T, (yc, yl), (uc, ul), (dc, dp, df, dw, dx)) I A w) (zK zm_72 67 [some (.ref (4 * j)), some (.ref 71), none, none, some (.int x4), some (.int (Int32.ofNat k_x5))] [] p Q)) ∧ (¬ x4 ≤ (Int32.ofNat k_x5) → zT zm_89 [.ref 71, .int (43 : Int32)] p (zh (P, T, (yc, yl), (uc, ul), (dc, dp, df, dw, dx)) I A w) (zK zm_72 54 [some (.ref (4 * j)), some (.ref 71), none, none, some (.int x4), some (.int (Int32.ofNat k_x5))] [] p Q))))))))) : zW zm_72 26 [some (.ref (4 * j)), some (.ref 71), none, none, some (.int x4), some (.int x5)] [] p (zh (P, T, (yc, yl), (uc, ul), (dc, dp, df, dw, dx)) I A w) Q := by
  refine zW_bh (zcmp .lt x5 (0 : Int32)) 73 31 [some (.ref (4 * j)), some (.ref 71), none, none, some (.int x4), some (.int x5)] [] 2 (fun f => rfl) (fun c => ?_) (fun c => ?_)
  · have c9 : x5 < (0 : Int32) := (of_decide_eq_true c)
    replace H := H.1 c9
    exact zW_rh none 1 (fun f => rfl) H
  · have c9 : ¬ x5 < (0 : Int32) := (of_decide_eq_false c)
    replace H := H.2 c9
    obtain ⟨k_x5, h_k_x5, e_k_x5⟩ := zNn c9
    replace H := H k_x5 h_k_x5 e_k_x5
    subst e_k_x5
    refine zW_gh 32 [some (.ref (4 * j)), some (.ref 71), none, none, some (.int x4), some (.int (Int32.ofNat k_x5))] [.ref (4 * j)] 1 (fun f => rfl) ?_
    refine zW_gf rfl (by omega) (zh_P0 h1_j h4_j) rfl (v := .ref (4 * j + 3)) rfl ?_
    refine zW_gh 37 [some (.ref (4 * j)), some (.ref 71), none, none, some (.int x4), some (.int (Int32.ofNat k_x5))] [.int (Int32.ofNat k_x5), .ref (4 * j + 3)] 1 (fun f => rfl) ?_
    obtain ⟨h1, H⟩ := H
    refine zW_iald rfl (by omega) (zh_P (c := 3) h1_j h4_j (by decide)) (by decide) rfl h1 ?_
    refine zW_bh (zcmp .eq ((P j).2.2 k_x5) (0 : Int32)) 67 41 [some (.ref (4 * j)), some (.ref 71), none, none, some (.int x4), some (.int (Int32.ofNat k_x5))] [] 1 (fun f => rfl) (fun c => ?_) (fun c => ?_)
    · have c9 : ((P j).2.2 k_x5) = (0 : Int32) := (of_decide_eq_true c)
      replace H := H.1 c9
      refine zW_inc [some (.ref (4 * j)), some (.ref 71), none, none, some (.int x4), some (.int ((Int32.ofNat k_x5) + Int32.ofInt (-1)))] rfl rfl rfl ?_
      refine zW_gh 26 [some (.ref (4 * j)), some (.ref 71), none, none, some (.int x4), some (.int ((Int32.ofNat k_x5) + Int32.ofInt (-1)))] [] 1 (fun f => rfl) ?_
      exact H
    · have c9 : ¬ ((P j).2.2 k_x5) = (0 : Int32) := (of_decide_eq_false c)
      replace H := H.2 c9
      refine zW_bh (zcmp .ge (Int32.ofNat k_x5) x4) 54 48 [some (.ref (4 * j)), some (.ref 71), none, none, some (.int x4), some (.int (Int32.ofNat k_x5))] [] 3 (fun f => rfl) (fun c => ?_) (fun c => ?_)
      · have c9 : x4 ≤ (Int32.ofNat k_x5) := (of_decide_eq_true c)
        replace H := H.1 c9
        refine zW_gh 56 [some (.ref (4 * j)), some (.ref 71), none, none, some (.int x4), some (.int (Int32.ofNat k_x5))] [.ref (4 * j), .ref 71] 2 (fun f => rfl) ?_
        refine zW_gf rfl (by omega) (zh_P0 h1_j h4_j) rfl (v := .ref (4 * j + 3)) rfl ?_
        refine zW_gh 61 [some (.ref (4 * j)), some (.ref 71), none, none, some (.int x4), some (.int (Int32.ofNat k_x5))] [.int (Int32.ofNat k_x5), .ref (4 * j + 3), .ref 71] 1 (fun f => rfl) ?_
        refine zW_iald rfl (by omega) (zh_P (c := 3) h1_j h4_j (by decide)) (by decide) rfl h1 ?_
        refine zW_gh 64 [some (.ref (4 * j)), some (.ref 71), none, none, some (.int x4), some (.int (Int32.ofNat k_x5))] [.int (Int32.ofNat k_x5), .int ((P j).2.2 k_x5), .ref 71] 1 (fun f => rfl) ?_
        exact zW_cl rfl rfl rfl rfl rfl H
      · have c9 : ¬ x4 ≤ (Int32.ofNat k_x5) := (of_decide_eq_false c)
        replace H := H.2 c9
        refine zW_gh 51 [some (.ref (4 * j)), some (.ref 71), none, none, some (.int x4), some (.int (Int32.ofNat k_x5))] [.int (43 : Int32), .ref 71] 2 (fun f => rfl) ?_
        exact zW_cl rfl rfl rfl rfl rfl H
theorem b72_22 {P : zPt} {T : Nat → zX} {yc uc : Nat → Int32} {yl ul dp dw : Nat} {df : Int32} {dx : Bool} {dc : Nat → Int64} {I : zIt} {A : zAt} {w : Nat → Int64} {p : Nat × Nat} {Q : zR → zH → Prop} {j : Nat} {x4 : Int32} (H : zW zm_72 26 [some (.ref (4 * j)), some (.ref 71), none, none, some (.int x4), some (.int (7 : Int32))] [] p (zh (P, T, (yc, yl), (uc, ul), (dc, dp, df, dw, dx)) I A w) Q) : zW zm_72 22 [some (.ref (4 * j)), some (.ref 71), none, none, some (.int x4), none] [] p (zh (P, T, (yc, yl), (uc, ul), (dc, dp, df, dw, dx)) I A w) Q := by
  refine zW_gh 26 [some (.ref (4 * j)), some (.ref 71), none, none, some (.int x4), some (.int (7 : Int32))] [] 2 (fun f => rfl) ?_
  exact H
theorem b72_67 {P : zPt} {T : Nat → zX} {yc uc : Nat → Int32} {yl ul dp dw : Nat} {df : Int32} {dx : Bool} {dc : Nat → Int64} {I : zIt} {A : zAt} {w : Nat → Int64} {p : Nat × Nat} {Q : zR → zH → Prop} {x5 j : Nat} {x4 : Int32} (H : zW zm_72 26 [some (.ref (4 * j)), some (.ref 71), none, none, some (.int x4), some (.int ((Int32.ofNat x5) + Int32.ofInt (-1)))] [] p (zh (P, T, (yc, yl), (uc, ul), (dc, dp, df, dw, dx)) I A w) Q) : zW zm_72 67 [some (.ref (4 * j)), some (.ref 71), none, none, some (.int x4), some (.int (Int32.ofNat x5))] [] p (zh (P, T, (yc, yl), (uc, ul), (dc, dp, df, dw, dx)) I A w) Q := by
  refine zW_inc [some (.ref (4 * j)), some (.ref 71), none, none, some (.int x4), some (.int ((Int32.ofNat x5) + Int32.ofInt (-1)))] rfl rfl rfl ?_
  refine zW_gh 26 [some (.ref (4 * j)), some (.ref 71), none, none, some (.int x4), some (.int ((Int32.ofNat x5) + Int32.ofInt (-1)))] [] 1 (fun f => rfl) ?_
  exact H
theorem b72_54 {P : zPt} {T : Nat → zX} {yc uc : Nat → Int32} {yl ul dp dw : Nat} {df : Int32} {dx : Bool} {dc : Nat → Int64} {I : zIt} {A : zAt} {w : Nat → Int64} {p : Nat × Nat} {Q : zR → zH → Prop} {x5 j : Nat} {x4 : Int32} (h1_j : 1 ≤ j) (h4_j : j ≤ 4) (H : (x5 < 8 ∧ zT zm_73 [.ref 71, .int ((P j).2.2 x5), .int (Int32.ofNat x5)] p (zh (P, T, (yc, yl), (uc, ul), (dc, dp, df, dw, dx)) I A w) (zK zm_72 67 [some (.ref (4 * j)), some (.ref 71), none, none, some (.int x4), some (.int (Int32.ofNat x5))] [] p Q))) : zW zm_72 54 [some (.ref (4 * j)), some (.ref 71), none, none, some (.int x4), some (.int (Int32.ofNat x5))] [] p (zh (P, T, (yc, yl), (uc, ul), (dc, dp, df, dw, dx)) I A w) Q := by
  refine zW_gh 56 [some (.ref (4 * j)), some (.ref 71), none, none, some (.int x4), some (.int (Int32.ofNat x5))] [.ref (4 * j), .ref 71] 2 (fun f => rfl) ?_
  refine zW_gf rfl (by omega) (zh_P0 h1_j h4_j) rfl (v := .ref (4 * j + 3)) rfl ?_
  refine zW_gh 61 [some (.ref (4 * j)), some (.ref 71), none, none, some (.int x4), some (.int (Int32.ofNat x5))] [.int (Int32.ofNat x5), .ref (4 * j + 3), .ref 71] 1 (fun f => rfl) ?_
  obtain ⟨h1, H⟩ := H
  refine zW_iald rfl (by omega) (zh_P (c := 3) h1_j h4_j (by decide)) (by decide) rfl h1 ?_
  refine zW_gh 64 [some (.ref (4 * j)), some (.ref 71), none, none, some (.int x4), some (.int (Int32.ofNat x5))] [.int (Int32.ofNat x5), .int ((P j).2.2 x5), .ref 71] 1 (fun f => rfl) ?_
  exact zW_cl rfl rfl rfl rfl rfl H
theorem b93 {P : zPt} {T : Nat → zX} {yc uc : Nat → Int32} {yl ul dp dw : Nat} {df : Int32} {dx : Bool} {dc : Nat → Int64} {I : zIt} {A : zAt} {w : Nat → Int64} {p : Nat × Nat} {Q : zR → zH → Prop} (H : Q (.inl (some (.int (Int32.ofNat yl)))) (zh (P, T, (yc, 0), (uc, ul), (dc, dp, df, dw, dx)) I A w)) : zT zm_93 [.ref 0] p (zh (P, T, (yc, yl), (uc, ul), (dc, dp, df, dw, dx)) I A w) Q := by
  change zW zm_93 0 [some (.ref 0), none] [] p _ Q
  refine zW_gh 13 [some (.ref 0), some (.int (Int32.ofNat yl))] [.int (0 : Int32), .ref 69] 7 (fun f => rfl) ?_
  refine zW_go (pc' := 16) (L' := [some (.ref 0), some (.int (Int32.ofNat yl))]) (st' := []) (h' := (va_up (zh (P, T, (yc, yl), (uc, ul), (dc, dp, df, dw, dx)) I A w) 69 (.inr (5, [.ref 70, .int (Int32.ofNat 0)])))) 1 (fun f => rfl) ?_
  refine zW_eq zu_69 ?_
  refine zW_gh 17 [some (.ref 0), some (.int (Int32.ofNat yl))] [.int (Int32.ofNat yl)] 1 (fun f => rfl) ?_
  exact zW_rh (some (.int (Int32.ofNat yl))) 1 (fun f => rfl) H
theorem b132 {P : zPt} {T : Nat → zX} {yc uc : Nat → Int32} {yl ul dp dw : Nat} {df : Int32} {dx : Bool} {dc : Nat → Int64} {I : zIt} {A : zAt} {w : Nat → Int64} {p : Nat × Nat} {Q : zR → zH → Prop} {a0 : Int32} (H : ((a0 < (0 : Int32) → Q (.inr 2) (zh (P, T, (yc, yl), (uc, ul), (dc, dp, df, dw, dx)) I A w)) ∧ (¬ a0 < (0 : Int32) → ∀ k_a0, k_a0 < 2147483648 → a0 = Int32.ofNat k_a0 → ((255 < k_a0 → Q (.inr 2) (zh (P, T, (yc, yl), (uc, ul), (dc, dp, df, dw, dx)) I A w)) ∧ (k_a0 ≤ 255 → (yl < 2147483648 ∧ ((120 ≤ yl → Q (.inr 1) (zh (P, T, (yc, yl), (uc, ul), (dc, dp, df, dw, dx)) I A w)) ∧ (yl < 120 → zT zm_89 [.ref 69, .int (Int32.ofNat k_a0)] p (zh (P, T, (yc, yl), (uc, ul), (dc, dp, df, dw, dx)) I A w) (zK zm_132 47 [some (.ref 0), none] [] p Q))))))))) : zT zm_132 [.ref 0, .int a0] p (zh (P, T, (yc, yl), (uc, ul), (dc, dp, df, dw, dx)) I A w) Q := by
  change zW zm_132 0 [some (.ref 0), some (.int a0)] [] p _ Q
  refine zW_bh (zcmp .lt a0 (0 : Int32)) 15 4 [some (.ref 0), some (.int a0)] [] 2 (fun f => rfl) (fun c => ?_) (fun c => ?_)
  · have c9 : a0 < (0 : Int32) := (of_decide_eq_true c)
    replace H := H.1 c9
    refine zW_gh 16 [some (.ref 0), some (.int a0)] [.int (0 : Int32)] 1 (fun f => rfl) ?_
    exact zW_cl rfl rfl rfl rfl rfl (s97f H)
  · have c9 : ¬ a0 < (0 : Int32) := (of_decide_eq_false c)
    replace H := H.2 c9
    obtain ⟨k_a0, h_k_a0, e_k_a0⟩ := zNn c9
    replace H := H k_a0 h_k_a0 e_k_a0
    subst e_k_a0
    refine zW_bh (zcmp .gt (Int32.ofNat k_a0) (255 : Int32)) 15 11 [some (.ref 0), some (.int (Int32.ofNat k_a0))] [] 3 (fun f => rfl) (fun c => ?_) (fun c => ?_)
    · have c9 : 255 < k_a0 := (of_decide_eq_true ((zcN_gt (a := k_a0) (b := 255) rfl rfl h_k_a0 (by decide)).symm.trans c))
      replace H := H.1 c9
      refine zW_gh 16 [some (.ref 0), some (.int (Int32.ofNat k_a0))] [.int (0 : Int32)] 1 (fun f => rfl) ?_
      exact zW_cl rfl rfl rfl rfl rfl (s97f H)
    · have c9 : k_a0 ≤ 255 := (Nat.le_of_not_lt (of_decide_eq_false ((zcN_gt (a := k_a0) (b := 255) rfl rfl h_k_a0 (by decide)).symm.trans c)))
      replace H := H.2 c9
      refine zW_gh 16 [some (.ref 0), some (.int (Int32.ofNat k_a0))] [.int (1 : Int32)] 2 (fun f => rfl) ?_
      refine zW_cl rfl rfl rfl rfl rfl (s97t ?_)
      change zW zm_132 19 [some (.ref 0), some (.int (Int32.ofNat k_a0))] [] p _ Q
      obtain ⟨h1, H⟩ := H
      refine zW_bh (zcmp .ge (Int32.ofNat yl) (120 : Int32)) 35 31 [some (.ref 0), some (.int (Int32.ofNat k_a0))] [] 5 (fun f => rfl) (fun c => ?_) (fun c => ?_)
      · have c9 : 120 ≤ yl := (of_decide_eq_true ((zcN_ge (a := yl) (b := 120) rfl rfl h1 (by decide)).symm.trans c))
        replace H := H.1 c9
        refine zW_gh 36 [some (.ref 0), some (.int (Int32.ofNat k_a0))] [.int (0 : Int32)] 1 (fun f => rfl) ?_
        exact zW_cl rfl rfl rfl rfl rfl (s100f H)
      · have c9 : yl < 120 := (Nat.lt_of_not_le (of_decide_eq_false ((zcN_ge (a := yl) (b := 120) rfl rfl h1 (by decide)).symm.trans c)))
        replace H := H.2 c9
        refine zW_gh 36 [some (.ref 0), some (.int (Int32.ofNat k_a0))] [.int (1 : Int32)] 2 (fun f => rfl) ?_
        refine zW_cl rfl rfl rfl rfl rfl (s100t ?_)
        change zW zm_132 39 [some (.ref 0), some (.int (Int32.ofNat k_a0))] [] p _ Q
        refine zW_gh 44 [some (.ref 0), some (.int (Int32.ofNat k_a0))] [.int (Int32.ofNat k_a0), .ref 69] 3 (fun f => rfl) ?_
        refine zW_fg (L' := [some (.ref 0), none]) (zle_s _ (zle_n _ zle_nil)) ?_
        exact zW_cl rfl rfl rfl rfl rfl H
theorem b132_47 {P : zPt} {T : Nat → zX} {yc uc : Nat → Int32} {yl ul dp dw : Nat} {df : Int32} {dx : Bool} {dc : Nat → Int64} {I : zIt} {A : zAt} {w : Nat → Int64} {p : Nat × Nat} {Q : zR → zH → Prop} (H : Q (.inl (some (.int (Int32.ofNat yl)))) (zh (P, T, (yc, yl), (uc, ul), (dc, dp, df, dw, dx)) I A w)) : zW zm_132 47 [some (.ref 0), none] [] p (zh (P, T, (yc, yl), (uc, ul), (dc, dp, df, dw, dx)) I A w) Q := by
  refine zW_gh 54 [some (.ref 0), none] [.int (Int32.ofNat yl)] 3 (fun f => rfl) ?_
  exact zW_rh (some (.int (Int32.ofNat yl))) 1 (fun f => rfl) H
theorem b133 {P : zPt} {T : Nat → zX} {yc uc : Nat → Int32} {yl ul dp dw : Nat} {df : Int32} {dx : Bool} {dc : Nat → Int64} {I : zIt} {A : zAt} {w : Nat → Int64} {p : Nat × Nat} {Q : zR → zH → Prop} {a0 : Int32} (H : ((zisr a0 = true → ∀ k_a0, zrg k_a0 → a0 = Int32.ofNat k_a0 → zT zm_49 [.ref 73, .ref (zra k_a0), .ref (21 + 8 * 3)] p (zh (P, T, (yc, yl), (uc, ul), (dc, dp, df, dw, dx)) I A w) (zK zm_133 18 [none, none, none] [] p Q)) ∧ (zisr a0 = false → Q (.inr 2) (zh (P, T, (yc, yl), (uc, ul), (dc, dp, df, dw, dx)) I A w)))) : zT zm_133 [.ref 0, .int a0] p (zh (P, T, (yc, yl), (uc, ul), (dc, dp, df, dw, dx)) I A w) Q := by
  change zW zm_133 0 [some (.ref 0), some (.int a0), none] [] p _ Q
  refine zW_gh 2 [some (.ref 0), some (.int a0), none] [.int a0, .ref 0] 2 (fun f => rfl) ?_
  refine zW_cl rfl rfl rfl rfl rfl (s96 ⟨fun c9 k_a0 h_k_a0 e_k_a0 => ?_, fun c9 => ?_⟩)
  · replace H := H.1 c9 k_a0 h_k_a0 e_k_a0
    subst e_k_a0
    change zW zm_133 5 [some (.ref 0), some (.int (Int32.ofNat k_a0)), none] [.ref (zra k_a0)] p _ Q
    refine zW_gh 15 [some (.ref 0), some (.int (Int32.ofNat k_a0)), some (.ref (zra k_a0))] [.ref (21 + 8 * 3), .ref (zra k_a0), .ref 73] 6 (fun f => rfl) ?_
    refine zW_fg (L' := [none, none, none]) (zle_n _ (zle_n _ (zle_n _ zle_nil))) ?_
    exact zW_cl rfl rfl rfl rfl rfl H
  · exact H.2 c9
theorem b133_18 {P : zPt} {T : Nat → zX} {yc uc : Nat → Int32} {yl ul dp dw : Nat} {df : Int32} {dx : Bool} {dc : Nat → Int64} {I : zIt} {A : zAt} {w : Nat → Int64} {p : Nat × Nat} {Q : zR → zH → Prop} {rv : Int32} (H : Q (.inl (some (.int rv))) (zh (P, T, (yc, yl), (uc, ul), (dc, dp, df, dw, dx)) I A w)) : zW zm_133 18 [none, none, none] [.int rv] p (zh (P, T, (yc, yl), (uc, ul), (dc, dp, df, dw, dx)) I A w) Q := by
  exact zW_rh (some (.int rv)) 1 (fun f => rfl) H
theorem b134 {P : zPt} {T : Nat → zX} {yc uc : Nat → Int32} {yl ul dp dw : Nat} {df : Int32} {dx : Bool} {dc : Nat → Int64} {I : zIt} {A : zAt} {w : Nat → Int64} {p : Nat × Nat} {Q : zR → zH → Prop} {a0 a1 : Int32} (H : ((zslot a0 = true → ∀ k_a0, k_a0 < 3 → a0 = Int32.ofNat k_a0 → ((zisr a1 = true → ∀ k_a1, zrg k_a1 → a1 = Int32.ofNat k_a1 → zT zm_49 [.ref 73, .ref (zra k_a1), .ref (21 + 8 * 3)] p (zh (P, T, (yc, yl), (uc, ul), (dc, dp, df, dw, dx)) I A w) (zK zm_134 26 [some (.ref 0), none, none, some (.ref (21 + 8 * k_a0)), none] [] p Q)) ∧ (zisr a1 = false → Q (.inr 2) (zh (P, T, (yc, yl), (uc, ul), (dc, dp, df, dw, dx)) I A w)))) ∧ (zslot a0 = false → Q (.inr 0) (zh (P, T, (yc, yl), (uc, ul), (dc, dp, df, dw, dx)) I A w)))) : zT zm_134 [.ref 0, .int a0, .int a1] p (zh (P, T, (yc, yl), (uc, ul), (dc, dp, df, dw, dx)) I A w) Q := by
  change zW zm_134 0 [some (.ref 0), some (.int a0), some (.int a1), none, none] [] p _ Q
  refine zW_gh 2 [some (.ref 0), some (.int a0), some (.int a1), none, none] [.int a0, .ref 0] 2 (fun f => rfl) ?_
  refine zW_cl rfl rfl rfl rfl rfl (s95 ⟨fun c9 k_a0 h_k_a0 e_k_a0 => ?_, fun c9 => ?_⟩)
  · replace H := H.1 c9 k_a0 h_k_a0 e_k_a0
    subst e_k_a0
    change zW zm_134 5 [some (.ref 0), some (.int (Int32.ofNat k_a0)), some (.int a1), none, none] [.ref (21 + 8 * k_a0)] p _ Q
    refine zW_gh 8 [some (.ref 0), some (.int (Int32.ofNat k_a0)), some (.int a1), some (.ref (21 + 8 * k_a0)), none] [.int a1, .ref 0] 3 (fun f => rfl) ?_
    refine zW_cl rfl rfl rfl rfl rfl (s96 ⟨fun c9 k_a1 h_k_a1 e_k_a1 => ?_, fun c9 => ?_⟩)
    · replace H := H.1 c9 k_a1 h_k_a1 e_k_a1
      subst e_k_a1
      change zW zm_134 11 [some (.ref 0), some (.int (Int32.ofNat k_a0)), some (.int (Int32.ofNat k_a1)), some (.ref (21 + 8 * k_a0)), none] [.ref (zra k_a1)] p _ Q
      refine zW_gh 23 [some (.ref 0), some (.int (Int32.ofNat k_a0)), some (.int (Int32.ofNat k_a1)), some (.ref (21 + 8 * k_a0)), some (.ref (zra k_a1))] [.ref (21 + 8 * 3), .ref (zra k_a1), .ref 73] 6 (fun f => rfl) ?_
      refine zW_fg (L' := [some (.ref 0), none, none, some (.ref (21 + 8 * k_a0)), none]) (zle_s _ (zle_n _ (zle_n _ (zle_s _ (zle_n _ zle_nil))))) ?_
      exact zW_cl rfl rfl rfl rfl rfl H
    · exact H.2 c9
  · exact H.2 c9
theorem b134_26 {P : zPt} {T : Nat → zX} {yc uc : Nat → Int32} {yl ul dp dw : Nat} {df : Int32} {dx : Bool} {dc : Nat → Int64} {I : zIt} {A : zAt} {w : Nat → Int64} {p : Nat × Nat} {Q : zR → zH → Prop} {k_a0 : Nat} {rv : Int32} (hi_k_a0 : k_a0 < 6) (H : ((¬ rv = (-1 : Int32) → Q (.inr 1) (zh (P, T, (yc, yl), (uc, ul), (dc, dp, df, dw, dx)) I A w)) ∧ (rv = (-1 : Int32) → zT zm_36 [.ref (21 + 8 * k_a0), .ref (21 + 8 * 3)] p (zh (P, T, (yc, yl), (uc, ul), (dc, dp, df, dw, dx)) I A w) (zK zm_134 46 [some (.ref 0), none, none, some (.ref (21 + 8 * k_a0)), none] [] p Q)))) : zW zm_134 26 [some (.ref 0), none, none, some (.ref (21 + 8 * k_a0)), none] [.int rv] p (zh (P, T, (yc, yl), (uc, ul), (dc, dp, df, dw, dx)) I A w) Q := by
  refine zW_bh (zcmp .ne rv (-1 : Int32)) 34 30 [some (.ref 0), none, none, some (.ref (21 + 8 * k_a0)), none] [] 2 (fun f => rfl) (fun c => ?_) (fun c => ?_)
  · have c9 : ¬ rv = (-1 : Int32) := (by simpa [zcmp] using c)
    replace H := H.1 c9
    refine zW_gh 35 [some (.ref 0), none, none, some (.ref (21 + 8 * k_a0)), none] [.int (0 : Int32)] 1 (fun f => rfl) ?_
    exact zW_cl rfl rfl rfl rfl rfl (s100f H)
  · have c9 : rv = (-1 : Int32) := (by simpa [zcmp] using c)
    replace H := H.2 c9
    refine zW_gh 35 [some (.ref 0), none, none, some (.ref (21 + 8 * k_a0)), none] [.int (1 : Int32)] 2 (fun f => rfl) ?_
    refine zW_cl rfl rfl rfl rfl rfl (s100t ?_)
    change zW zm_134 38 [some (.ref 0), none, none, some (.ref (21 + 8 * k_a0)), none] [] p _ Q
    refine zW_gh 43 [some (.ref 0), none, none, some (.ref (21 + 8 * k_a0)), none] [.ref (21 + 8 * 3), .ref (21 + 8 * k_a0)] 3 (fun f => rfl) ?_
    exact zW_cv rfl rfl rfl (by have := hi_k_a0; omega) (zh_T0 hi_k_a0) rfl rfl rfl rfl H
theorem b134_46 {P : zPt} {T : Nat → zX} {yc uc : Nat → Int32} {yl ul dp dw : Nat} {df : Int32} {dx : Bool} {dc : Nat → Int64} {I : zIt} {A : zAt} {w : Nat → Int64} {p : Nat × Nat} {Q : zR → zH → Prop} {k_a0 : Nat} (hi_k_a0 : k_a0 < 6) (H : Q (.inl (some (.int (Int32.ofNat ((T k_a0).2.1))))) (zh (P, T, (yc, 0), (uc, ul), (dc, dp, df, dw, dx)) I A w)) : zW zm_134 46 [some (.ref 0), none, none, some (.ref (21 + 8 * k_a0)), none] [] p (zh (P, T, (yc, yl), (uc, ul), (dc, dp, df, dw, dx)) I A w) Q := by
  refine zW_gh 51 [some (.ref 0), none, none, some (.ref (21 + 8 * k_a0)), none] [.int (0 : Int32), .ref 69] 3 (fun f => rfl) ?_
  refine zW_go (pc' := 54) (L' := [some (.ref 0), none, none, some (.ref (21 + 8 * k_a0)), none]) (st' := []) (h' := (va_up (zh (P, T, (yc, yl), (uc, ul), (dc, dp, df, dw, dx)) I A w) 69 (.inr (5, [.ref 70, .int (Int32.ofNat 0)])))) 1 (fun f => rfl) ?_
  refine zW_eq zu_69 ?_
  refine zW_gh 55 [some (.ref 0), none, none, some (.ref (21 + 8 * k_a0)), none] [.ref (21 + 8 * k_a0)] 1 (fun f => rfl) ?_
  refine zW_gf rfl (by have := hi_k_a0; omega) (zh_T0 hi_k_a0) rfl (v := .int (Int32.ofNat ((T k_a0).2.1))) rfl ?_
  exact zW_rh (some (.int (Int32.ofNat ((T k_a0).2.1)))) 1 (fun f => rfl) H
theorem b135 {P : zPt} {T : Nat → zX} {yc uc : Nat → Int32} {yl ul dp dw : Nat} {df : Int32} {dx : Bool} {dc : Nat → Int64} {I : zIt} {A : zAt} {w : Nat → Int64} {p : Nat × Nat} {Q : zR → zH → Prop} {a0 : Int32} (H : (zTb T ∧ ((zslot a0 = true ∧ zfil T a0 → ∀ k_a0, k_a0 < 3 → a0 = Int32.ofNat k_a0 → zW zm_135 16 [some (.ref 0), none, some (.ref (21 + 8 * k_a0)), some (.int (Int32.ofNat 0)), none] [] p (zh (P, T, (yc, yl), (uc, 0), (dc, dp, df, dw, dx)) I A w) Q) ∧ ((zslot a0 = false → Q (.inr 0) (zh (P, T, (yc, yl), (uc, ul), (dc, dp, df, dw, dx)) I A w)) ∧ (zslot a0 = true ∧ ¬ zfil T a0 → Q (.inr 1) (zh (P, T, (yc, yl), (uc, ul), (dc, dp, df, dw, dx)) I A w)))))) : zT zm_135 [.ref 0, .int a0] p (zh (P, T, (yc, yl), (uc, ul), (dc, dp, df, dw, dx)) I A w) Q := by
  change zW zm_135 0 [some (.ref 0), some (.int a0), none, none, none] [] p _ Q
  refine zW_gh 2 [some (.ref 0), some (.int a0), none, none, none] [.int a0, .ref 0] 2 (fun f => rfl) ?_
  obtain ⟨h1, H⟩ := H
  refine zW_cl rfl rfl rfl rfl rfl (s99 h1 ⟨fun c9 k_a0 h_k_a0 e_k_a0 => ?_, fun c9 => ?_, fun c9 => ?_⟩)
  · replace H := H.1 c9 k_a0 h_k_a0 e_k_a0
    subst e_k_a0
    change zW zm_135 5 [some (.ref 0), some (.int (Int32.ofNat k_a0)), none, none, none] [.ref (21 + 8 * k_a0)] p _ Q
    refine zW_gh 11 [some (.ref 0), some (.int (Int32.ofNat k_a0)), some (.ref (21 + 8 * k_a0)), none, none] [.int (0 : Int32), .ref 71] 4 (fun f => rfl) ?_
    refine zW_go (pc' := 14) (L' := [some (.ref 0), some (.int (Int32.ofNat k_a0)), some (.ref (21 + 8 * k_a0)), none, none]) (st' := []) (h' := (va_up (zh (P, T, (yc, yl), (uc, ul), (dc, dp, df, dw, dx)) I A w) 71 (.inr (5, [.ref 72, .int (Int32.ofNat 0)])))) 1 (fun f => rfl) ?_
    refine zW_eq zu_71 ?_
    refine zW_gh 16 [some (.ref 0), some (.int (Int32.ofNat k_a0)), some (.ref (21 + 8 * k_a0)), some (.int (0 : Int32)), none] [] 2 (fun f => rfl) ?_
    refine zW_fg (L' := [some (.ref 0), none, some (.ref (21 + 8 * k_a0)), some (.int (0 : Int32)), none]) (zle_s _ (zle_n _ (zle_s _ (zle_s _ (zle_s _ zle_nil))))) ?_
    exact H
  · exact H.2.1 c9
  · exact H.2.2 c9
theorem b135_16 {P : zPt} {T : Nat → zX} {yc uc : Nat → Int32} {yl ul dp dw : Nat} {df : Int32} {dx : Bool} {dc : Nat → Int64} {I : zIt} {A : zAt} {w : Nat → Int64} {p : Nat × Nat} {Q : zR → zH → Prop} {x3 k_a0 : Nat} (hi_k_a0 : k_a0 < 6) (H : (x3 < 2147483648 ∧ ((T k_a0).2.1 < 2147483648 ∧ (((T k_a0).2.1 ≤ x3 → zT zm_89 [.ref 71, .int (93 : Int32)] p (zh (P, T, (yc, yl), (uc, ul), (dc, dp, df, dw, dx)) I A w) (zK zm_135 107 [some (.ref 0), none, none, none, none] [] p Q)) ∧ (x3 < (T k_a0).2.1 → ((¬ x3 = 0 → zT zm_89 [.ref 71, .int (59 : Int32)] p (zh (P, T, (yc, yl), (uc, ul), (dc, dp, df, dw, dx)) I A w) (zK zm_135 42 [some (.ref 0), none, some (.ref (21 + 8 * k_a0)), some (.int (Int32.ofNat x3)), none] [] p Q)) ∧ (x3 = 0 → zT zm_89 [.ref 71, .int (91 : Int32)] p (zh (P, T, (yc, yl), (uc, ul), (dc, dp, df, dw, dx)) I A w) (zK zm_135 42 [some (.ref 0), none, some (.ref (21 + 8 * k_a0)), some (.int (Int32.ofNat x3)), none] [] p Q)))))))) : zW zm_135 16 [some (.ref 0), none, some (.ref (21 + 8 * k_a0)), some (.int (Int32.ofNat x3)), none] [] p (zh (P, T, (yc, yl), (uc, ul), (dc, dp, df, dw, dx)) I A w) Q := by
  refine zW_gh 18 [some (.ref 0), none, some (.ref (21 + 8 * k_a0)), some (.int (Int32.ofNat x3)), none] [.ref (21 + 8 * k_a0), .int (Int32.ofNat x3)] 2 (fun f => rfl) ?_
  refine zW_gf rfl (by have := hi_k_a0; omega) (zh_T0 hi_k_a0) rfl (v := .int (Int32.ofNat ((T k_a0).2.1))) rfl ?_
  obtain ⟨h1, H⟩ := H
  obtain ⟨h2, H⟩ := H
  refine zW_bh (zcmp .ge (Int32.ofNat x3) (Int32.ofNat ((T k_a0).2.1))) 98 24 [some (.ref 0), none, some (.ref (21 + 8 * k_a0)), some (.int (Int32.ofNat x3)), none] [] 1 (fun f => rfl) (fun c => ?_) (fun c => ?_)
  · have c9 : (T k_a0).2.1 ≤ x3 := (of_decide_eq_true ((zcN_ge (a := x3) (b := (T k_a0).2.1) rfl rfl h1 h2).symm.trans c))
    replace H := H.1 c9
    refine zW_gh 104 [some (.ref 0), none, some (.ref (21 + 8 * k_a0)), some (.int (Int32.ofNat x3)), none] [.int (93 : Int32), .ref 71] 3 (fun f => rfl) ?_
    refine zW_fg (L' := [some (.ref 0), none, none, none, none]) (zle_s _ (zle_s _ (zle_n _ (zle_n _ (zle_s _ zle_nil))))) ?_
    exact zW_cl rfl rfl rfl rfl rfl H
  · have c9 : x3 < (T k_a0).2.1 := (Nat.lt_of_not_le (of_decide_eq_false ((zcN_ge (a := x3) (b := (T k_a0).2.1) rfl rfl h1 h2).symm.trans c)))
    replace H := H.2 c9
    refine zW_bh (zcmp .ne (Int32.ofNat x3) (0 : Int32)) 37 32 [some (.ref 0), none, some (.ref (21 + 8 * k_a0)), some (.int (Int32.ofNat x3)), none] [.ref 71] 4 (fun f => rfl) (fun c => ?_) (fun c => ?_)
    · have c9 : ¬ x3 = 0 := (by have c := (zcN_ne (a := x3) (b := 0) rfl rfl h1 (by decide)).symm.trans c; simpa using c)
      replace H := H.1 c9
      refine zW_gh 39 [some (.ref 0), none, some (.ref (21 + 8 * k_a0)), some (.int (Int32.ofNat x3)), none] [.int (59 : Int32), .ref 71] 1 (fun f => rfl) ?_
      exact zW_cl rfl rfl rfl rfl rfl H
    · have c9 : x3 = 0 := (by have c := (zcN_ne (a := x3) (b := 0) rfl rfl h1 (by decide)).symm.trans c; simpa using c)
      replace H := H.2 c9
      refine zW_gh 39 [some (.ref 0), none, some (.ref (21 + 8 * k_a0)), some (.int (Int32.ofNat x3)), none] [.int (91 : Int32), .ref 71] 2 (fun f => rfl) ?_
      exact zW_cl rfl rfl rfl rfl rfl H
theorem b135_107 {P : zPt} {T : Nat → zX} {yc uc : Nat → Int32} {yl ul dp dw : Nat} {df : Int32} {dx : Bool} {dc : Nat → Int64} {I : zIt} {A : zAt} {w : Nat → Int64} {p : Nat × Nat} {Q : zR → zH → Prop} (H : Q (.inl (some (.int (Int32.ofNat ul)))) (zh (P, T, (yc, yl), (uc, ul), (dc, dp, df, dw, dx)) I A w)) : zW zm_135 107 [some (.ref 0), none, none, none, none] [] p (zh (P, T, (yc, yl), (uc, ul), (dc, dp, df, dw, dx)) I A w) Q := by
  refine zW_gh 114 [some (.ref 0), none, none, none, none] [.int (Int32.ofNat ul)] 3 (fun f => rfl) ?_
  exact zW_rh (some (.int (Int32.ofNat ul))) 1 (fun f => rfl) H
theorem b135_42 {P : zPt} {T : Nat → zX} {yc uc : Nat → Int32} {yl ul dp dw : Nat} {df : Int32} {dx : Bool} {dc : Nat → Int64} {I : zIt} {A : zAt} {w : Nat → Int64} {p : Nat × Nat} {Q : zR → zH → Prop} {x3 k_a0 : Nat} (H : zW zm_135 45 [some (.ref 0), none, some (.ref (21 + 8 * k_a0)), some (.int (Int32.ofNat x3)), some (.int (Int32.ofNat 0))] [] p (zh (P, T, (yc, yl), (uc, ul), (dc, dp, df, dw, dx)) I A w) Q) : zW zm_135 42 [some (.ref 0), none, some (.ref (21 + 8 * k_a0)), some (.int (Int32.ofNat x3)), none] [] p (zh (P, T, (yc, yl), (uc, ul), (dc, dp, df, dw, dx)) I A w) Q := by
  refine zW_gh 45 [some (.ref 0), none, some (.ref (21 + 8 * k_a0)), some (.int (Int32.ofNat x3)), some (.int (0 : Int32))] [] 2 (fun f => rfl) ?_
  exact H
theorem b135_45 {P : zPt} {T : Nat → zX} {yc uc : Nat → Int32} {yl ul dp dw : Nat} {df : Int32} {dx : Bool} {dc : Nat → Int64} {I : zIt} {A : zAt} {w : Nat → Int64} {p : Nat × Nat} {Q : zR → zH → Prop} {x3 x4 k_a0 : Nat} (hi_k_a0 : k_a0 < 6) (H : (x4 < 2147483648 ∧ ((T k_a0).2.2.1 < 2147483648 ∧ (((T k_a0).2.2.1 ≤ x4 → zW zm_135 16 [some (.ref 0), none, some (.ref (21 + 8 * k_a0)), some (.int (Int32.ofNat (x3 + 1))), none] [] p (zh (P, T, (yc, yl), (uc, ul), (dc, dp, df, dw, dx)) I A w) Q) ∧ (x4 < (T k_a0).2.2.1 → ((x4 ≤ 0 → (zXb (T k_a0) ∧ zT (zrm ((T k_a0).1) zm_25 zm_10 zm_72) [.ref (zra ((T k_a0).1)), .ref 71, .long (zxat (T k_a0) (Int32.ofNat x3) (Int32.ofNat x4))] p (zh (P, T, (yc, yl), (uc, ul), (dc, dp, df, dw, dx)) I A w) (zK zm_135 86 [some (.ref 0), none, some (.ref (21 + 8 * k_a0)), some (.int (Int32.ofNat x3)), some (.int (Int32.ofNat x4))] [] p Q))) ∧ (0 < x4 → zT zm_89 [.ref 71, .int (44 : Int32)] p (zh (P, T, (yc, yl), (uc, ul), (dc, dp, df, dw, dx)) I A w) (zK zm_135 68 [some (.ref 0), none, some (.ref (21 + 8 * k_a0)), some (.int (Int32.ofNat x3)), some (.int (Int32.ofNat x4))] [] p Q)))))))) : zW zm_135 45 [some (.ref 0), none, some (.ref (21 + 8 * k_a0)), some (.int (Int32.ofNat x3)), some (.int (Int32.ofNat x4))] [] p (zh (P, T, (yc, yl), (uc, ul), (dc, dp, df, dw, dx)) I A w) Q := by
  refine zW_gh 48 [some (.ref 0), none, some (.ref (21 + 8 * k_a0)), some (.int (Int32.ofNat x3)), some (.int (Int32.ofNat x4))] [.ref (21 + 8 * k_a0), .int (Int32.ofNat x4)] 2 (fun f => rfl) ?_
  refine zW_gf rfl (by have := hi_k_a0; omega) (zh_T0 hi_k_a0) rfl (v := .int (Int32.ofNat ((T k_a0).2.2.1))) rfl ?_
  obtain ⟨h1, H⟩ := H
  obtain ⟨h2, H⟩ := H
  refine zW_bh (zcmp .ge (Int32.ofNat x4) (Int32.ofNat ((T k_a0).2.2.1))) 92 54 [some (.ref 0), none, some (.ref (21 + 8 * k_a0)), some (.int (Int32.ofNat x3)), some (.int (Int32.ofNat x4))] [] 1 (fun f => rfl) (fun c => ?_) (fun c => ?_)
  · have c9 : (T k_a0).2.2.1 ≤ x4 := (of_decide_eq_true ((zcN_ge (a := x4) (b := (T k_a0).2.2.1) rfl rfl h1 h2).symm.trans c))
    replace H := H.1 c9
    refine zW_inc [some (.ref 0), none, some (.ref (21 + 8 * k_a0)), some (.int ((Int32.ofNat x3) + (1 : Int32))), some (.int (Int32.ofNat x4))] rfl rfl rfl ?_
    rw [show ((Int32.ofNat x3) + (1 : Int32)) = Int32.ofNat (x3 + 1) from (zN_a rfl rfl)]
    refine zW_gh 16 [some (.ref 0), none, some (.ref (21 + 8 * k_a0)), some (.int (Int32.ofNat (x3 + 1))), some (.int (Int32.ofNat x4))] [] 1 (fun f => rfl) ?_
    refine zW_fg (L' := [some (.ref 0), none, some (.ref (21 + 8 * k_a0)), some (.int (Int32.ofNat (x3 + 1))), none]) (zle_s _ (zle_s _ (zle_s _ (zle_s _ (zle_n _ zle_nil))))) ?_
    exact H
  · have c9 : x4 < (T k_a0).2.2.1 := (Nat.lt_of_not_le (of_decide_eq_false ((zcN_ge (a := x4) (b := (T k_a0).2.2.1) rfl rfl h1 h2).symm.trans c)))
    replace H := H.2 c9
    refine zW_bh (zcmp .le (Int32.ofNat x4) (0 : Int32)) 68 59 [some (.ref 0), none, some (.ref (21 + 8 * k_a0)), some (.int (Int32.ofNat x3)), some (.int (Int32.ofNat x4))] [] 2 (fun f => rfl) (fun c => ?_) (fun c => ?_)
    · have c9 : x4 ≤ 0 := (of_decide_eq_true ((zcN_le (a := x4) (b := 0) rfl rfl h1 (by decide)).symm.trans c))
      replace H := H.1 c9
      refine zW_gh 69 [some (.ref 0), none, some (.ref (21 + 8 * k_a0)), some (.int (Int32.ofNat x3)), some (.int (Int32.ofNat x4))] [.ref (21 + 8 * k_a0)] 1 (fun f => rfl) ?_
      refine zW_gf rfl (by have := hi_k_a0; omega) (zh_T0 hi_k_a0) rfl (v := .ref (zra ((T k_a0).1))) rfl ?_
      refine zW_gh 80 [some (.ref 0), none, some (.ref (21 + 8 * k_a0)), some (.int (Int32.ofNat x3)), some (.int (Int32.ofNat x4))] [.int (Int32.ofNat x4), .int (Int32.ofNat x3), .ref (21 + 8 * k_a0), .ref 71, .ref (zra ((T k_a0).1))] 5 (fun f => rfl) ?_
      obtain ⟨h3, H⟩ := H
      refine zW_cv rfl rfl rfl (by have := hi_k_a0; omega) (zh_T0 hi_k_a0) rfl rfl rfl rfl ((s31 hi_k_a0) h3 ?_)
      change zW zm_135 83 [some (.ref 0), none, some (.ref (21 + 8 * k_a0)), some (.int (Int32.ofNat x3)), some (.int (Int32.ofNat x4))] [.long (zxat (T k_a0) (Int32.ofNat x3) (Int32.ofNat x4)), .ref 71, .ref (zra ((T k_a0).1))] p _ Q
      generalize (zxat (T k_a0) (Int32.ofNat x3) (Int32.ofNat x4)) = g4 at H ⊢
      exact zW_cr rfl rfl rfl rfl rfl rfl rfl rfl rfl rfl rfl rfl rfl H
    · have c9 : 0 < x4 := (Nat.lt_of_not_le (of_decide_eq_false ((zcN_le (a := x4) (b := 0) rfl rfl h1 (by decide)).symm.trans c)))
      replace H := H.2 c9
      refine zW_gh 65 [some (.ref 0), none, some (.ref (21 + 8 * k_a0)), some (.int (Int32.ofNat x3)), some (.int (Int32.ofNat x4))] [.int (44 : Int32), .ref 71] 3 (fun f => rfl) ?_
      exact zW_cl rfl rfl rfl rfl rfl H
theorem b135_86 {P : zPt} {T : Nat → zX} {yc uc : Nat → Int32} {yl ul dp dw : Nat} {df : Int32} {dx : Bool} {dc : Nat → Int64} {I : zIt} {A : zAt} {w : Nat → Int64} {p : Nat × Nat} {Q : zR → zH → Prop} {x3 x4 k_a0 : Nat} (H : zW zm_135 45 [some (.ref 0), none, some (.ref (21 + 8 * k_a0)), some (.int (Int32.ofNat x3)), some (.int (Int32.ofNat (x4 + 1)))] [] p (zh (P, T, (yc, yl), (uc, ul), (dc, dp, df, dw, dx)) I A w) Q) : zW zm_135 86 [some (.ref 0), none, some (.ref (21 + 8 * k_a0)), some (.int (Int32.ofNat x3)), some (.int (Int32.ofNat x4))] [] p (zh (P, T, (yc, yl), (uc, ul), (dc, dp, df, dw, dx)) I A w) Q := by
  refine zW_inc [some (.ref 0), none, some (.ref (21 + 8 * k_a0)), some (.int (Int32.ofNat x3)), some (.int ((Int32.ofNat x4) + (1 : Int32)))] rfl rfl rfl ?_
  rw [show ((Int32.ofNat x4) + (1 : Int32)) = Int32.ofNat (x4 + 1) from (zN_a rfl rfl)]
  refine zW_gh 45 [some (.ref 0), none, some (.ref (21 + 8 * k_a0)), some (.int (Int32.ofNat x3)), some (.int (Int32.ofNat (x4 + 1)))] [] 1 (fun f => rfl) ?_
  exact H
theorem b135_68 {P : zPt} {T : Nat → zX} {yc uc : Nat → Int32} {yl ul dp dw : Nat} {df : Int32} {dx : Bool} {dc : Nat → Int64} {I : zIt} {A : zAt} {w : Nat → Int64} {p : Nat × Nat} {Q : zR → zH → Prop} {x3 x4 k_a0 : Nat} (hi_k_a0 : k_a0 < 6) (H : (zXb (T k_a0) ∧ zT (zrm ((T k_a0).1) zm_25 zm_10 zm_72) [.ref (zra ((T k_a0).1)), .ref 71, .long (zxat (T k_a0) (Int32.ofNat x3) (Int32.ofNat x4))] p (zh (P, T, (yc, yl), (uc, ul), (dc, dp, df, dw, dx)) I A w) (zK zm_135 86 [some (.ref 0), none, some (.ref (21 + 8 * k_a0)), some (.int (Int32.ofNat x3)), some (.int (Int32.ofNat x4))] [] p Q))) : zW zm_135 68 [some (.ref 0), none, some (.ref (21 + 8 * k_a0)), some (.int (Int32.ofNat x3)), some (.int (Int32.ofNat x4))] [] p (zh (P, T, (yc, yl), (uc, ul), (dc, dp, df, dw, dx)) I A w) Q := by
  refine zW_gh 69 [some (.ref 0), none, some (.ref (21 + 8 * k_a0)), some (.int (Int32.ofNat x3)), some (.int (Int32.ofNat x4))] [.ref (21 + 8 * k_a0)] 1 (fun f => rfl) ?_
  refine zW_gf rfl (by have := hi_k_a0; omega) (zh_T0 hi_k_a0) rfl (v := .ref (zra ((T k_a0).1))) rfl ?_
  refine zW_gh 80 [some (.ref 0), none, some (.ref (21 + 8 * k_a0)), some (.int (Int32.ofNat x3)), some (.int (Int32.ofNat x4))] [.int (Int32.ofNat x4), .int (Int32.ofNat x3), .ref (21 + 8 * k_a0), .ref 71, .ref (zra ((T k_a0).1))] 5 (fun f => rfl) ?_
  obtain ⟨h1, H⟩ := H
  refine zW_cv rfl rfl rfl (by have := hi_k_a0; omega) (zh_T0 hi_k_a0) rfl rfl rfl rfl ((s31 hi_k_a0) h1 ?_)
  change zW zm_135 83 [some (.ref 0), none, some (.ref (21 + 8 * k_a0)), some (.int (Int32.ofNat x3)), some (.int (Int32.ofNat x4))] [.long (zxat (T k_a0) (Int32.ofNat x3) (Int32.ofNat x4)), .ref 71, .ref (zra ((T k_a0).1))] p _ Q
  generalize (zxat (T k_a0) (Int32.ofNat x3) (Int32.ofNat x4)) = g2 at H ⊢
  exact zW_cr rfl rfl rfl rfl rfl rfl rfl rfl rfl rfl rfl rfl rfl H
theorem b136 {P : zPt} {T : Nat → zX} {yc uc : Nat → Int32} {yl ul dp dw : Nat} {df : Int32} {dx : Bool} {dc : Nat → Int64} {I : zIt} {A : zAt} {w : Nat → Int64} {p : Nat × Nat} {Q : zR → zH → Prop} {a0 : Int32} (H : ((a0 < (0 : Int32) → Q (.inr 0) (zh (P, T, (yc, yl), (uc, ul), (dc, dp, df, dw, dx)) I A w)) ∧ (¬ a0 < (0 : Int32) → ∀ k_a0, k_a0 < 2147483648 → a0 = Int32.ofNat k_a0 → (ul < 2147483648 ∧ ((k_a0 < ul → (ul < 2147483648 ∧ Q (.inl (some (.int (zcda uc ul (Int32.ofNat k_a0) 561)))) (zh (P, T, (yc, yl), (uc, ul), (dc, dp, df, dw, dx)) I A w))) ∧ (ul ≤ k_a0 → Q (.inr 0) (zh (P, T, (yc, yl), (uc, ul), (dc, dp, df, dw, dx)) I A w))))))) : zT zm_136 [.ref 0, .int a0] p (zh (P, T, (yc, yl), (uc, ul), (dc, dp, df, dw, dx)) I A w) Q := by
  change zW zm_136 0 [some (.ref 0), some (.int a0)] [] p _ Q
  refine zW_bh (zcmp .lt a0 (0 : Int32)) 15 4 [some (.ref 0), some (.int a0)] [] 2 (fun f => rfl) (fun c => ?_) (fun c => ?_)
  · have c9 : a0 < (0 : Int32) := (of_decide_eq_true c)
    replace H := H.1 c9
    exact zW_th 0 1 (fun f => rfl) H
  · have c9 : ¬ a0 < (0 : Int32) := (of_decide_eq_false c)
    replace H := H.2 c9
    obtain ⟨k_a0, h_k_a0, e_k_a0⟩ := zNn c9
    replace H := H k_a0 h_k_a0 e_k_a0
    subst e_k_a0
    obtain ⟨h1, H⟩ := H
    refine zW_bh (zcmp .lt (Int32.ofNat k_a0) (Int32.ofNat ul)) 26 15 [some (.ref 0), some (.int (Int32.ofNat k_a0))] [] 5 (fun f => rfl) (fun c => ?_) (fun c => ?_)
    · have c9 : k_a0 < ul := (of_decide_eq_true ((zcN_lt (a := k_a0) (b := ul) rfl rfl h_k_a0 h1).symm.trans c))
      replace H := H.1 c9
      refine zW_gh 31 [some (.ref 0), some (.int (Int32.ofNat k_a0))] [.int (Int32.ofNat k_a0), .ref 71] 3 (fun f => rfl) ?_
      obtain ⟨h2, H⟩ := H
      refine zW_cl rfl rfl rfl rfl rfl (s90u h2 ?_)
      change zW zm_136 34 [some (.ref 0), some (.int (Int32.ofNat k_a0))] [.int (zcda uc ul (Int32.ofNat k_a0) 561)] p _ Q
      generalize (zcda uc ul (Int32.ofNat k_a0) 561) = g3 at H ⊢
      exact zW_rh (some (.int g3)) 1 (fun f => rfl) H
    · have c9 : ul ≤ k_a0 := (Nat.le_of_not_lt (of_decide_eq_false ((zcN_lt (a := k_a0) (b := ul) rfl rfl h_k_a0 h1).symm.trans c)))
      replace H := H.2 c9
      exact zW_th 0 1 (fun f => rfl) H
