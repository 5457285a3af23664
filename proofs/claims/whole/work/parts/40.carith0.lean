theorem b17 {P : zPt} {T : Nat → zX} {Y : zYt} {I : zIt} {A : zAt} {w : Nat → Int64} {p : Nat × Nat} {Q : zR → zH → Prop} {a0 a1 a2 : Int64} (H : (((zir0 ((((zfi a0)).toInt64) + ((((zfi a1)).toInt64) * (((zfi a2)).toInt64))) (0 : Int64)) = true → Q (.inl (some (.long (ze64 ((((zfi a0)).toInt64) + ((((zfi a1)).toInt64) * (((zfi a2)).toInt64))) (0 : Int64))))) (zh (P, T, Y) I A w)) ∧ ((zir0 ((((zfi a0)).toInt64) + ((((zfi a1)).toInt64) * (((zfi a2)).toInt64))) (0 : Int64)) = false → Q (.inr 3) (zh (P, T, Y) I A w)))) : zT zm_17 [.ref 1, .long a0, .long a1, .long a2] p (zh (P, T, Y) I A w) Q := by
  change zW zm_17 0 [some (.ref 1), some (.long a0), none, some (.long a1), none, some (.long a2), none, none, none] [] p _ Q
  refine zW_gh 1 [some (.ref 1), some (.long a0), none, some (.long a1), none, some (.long a2), none, none, none] [.long a0] 1 (fun f => rfl) ?_
  refine zW_cl rfl rfl rfl rfl rfl (s75 ?_)
  change zW zm_17 4 [some (.ref 1), some (.long a0), none, some (.long a1), none, some (.long a2), none, none, none] [.int (zfi a0)] p _ Q
  generalize (zfi a0) = g1 at H ⊢
  refine zW_gh 6 [some (.ref 1), some (.long a0), none, some (.long a1), none, some (.long a2), none, none, none] [.long a1, .long ((g1).toInt64)] 2 (fun f => rfl) ?_
  refine zW_cl rfl rfl rfl rfl rfl (s75 ?_)
  change zW zm_17 9 [some (.ref 1), some (.long a0), none, some (.long a1), none, some (.long a2), none, none, none] [.int (zfi a1), .long ((g1).toInt64)] p _ Q
  generalize (zfi a1) = g2 at H ⊢
  refine zW_gh 12 [some (.ref 1), some (.long a0), none, some (.long a1), none, some (.long a2), none, none, none] [.long a2, .long ((g2).toInt64), .long ((g1).toInt64)] 2 (fun f => rfl) ?_
  refine zW_cl rfl rfl rfl rfl rfl (s75 ?_)
  change zW zm_17 15 [some (.ref 1), some (.long a0), none, some (.long a1), none, some (.long a2), none, none, none] [.int (zfi a2), .long ((g2).toInt64), .long ((g1).toInt64)] p _ Q
  generalize (zfi a2) = g3 at H ⊢
  refine zW_gh 24 [some (.ref 1), some (.long a0), none, some (.long a1), none, some (.long a2), none, some (.long (((g1).toInt64) + (((g2).toInt64) * ((g3).toInt64)))), none] [.long (0 : Int64), .long (((g1).toInt64) + (((g2).toInt64) * ((g3).toInt64))), .ref 1] 7 (fun f => rfl) ?_
  refine zW_cl rfl rfl rfl rfl rfl (s16 ?_)
  change zW zm_17 27 [some (.ref 1), some (.long a0), none, some (.long a1), none, some (.long a2), none, some (.long (((g1).toInt64) + (((g2).toInt64) * ((g3).toInt64)))), none] [.int (zbi (zir0 (((g1).toInt64) + (((g2).toInt64) * ((g3).toInt64))) (0 : Int64)))] p _ Q
  refine zW_bh (zcmp .ne (zbi (zir0 (((g1).toInt64) + (((g2).toInt64) * ((g3).toInt64))) (0 : Int64))) (0 : Int32)) 40 30 [some (.ref 1), some (.long a0), none, some (.long a1), none, some (.long a2), none, some (.long (((g1).toInt64) + (((g2).toInt64) * ((g3).toInt64)))), none] [] 1 (fun f => rfl) (fun c => ?_) (fun c => ?_)
  · have c9 : (zir0 (((g1).toInt64) + (((g2).toInt64) * ((g3).toInt64))) (0 : Int64)) = true := ((zcB_ne _).symm.trans c)
    replace H := H.1 c9
    refine zW_gh 43 [some (.ref 1), some (.long a0), none, some (.long a1), none, some (.long a2), none, some (.long (((g1).toInt64) + (((g2).toInt64) * ((g3).toInt64)))), none] [.long (0 : Int64), .long (((g1).toInt64) + (((g2).toInt64) * ((g3).toInt64)))] 2 (fun f => rfl) ?_
    refine zW_cl rfl rfl rfl rfl rfl (s76 ?_)
    change zW zm_17 46 [some (.ref 1), some (.long a0), none, some (.long a1), none, some (.long a2), none, some (.long (((g1).toInt64) + (((g2).toInt64) * ((g3).toInt64)))), none] [.long (ze64 (((g1).toInt64) + (((g2).toInt64) * ((g3).toInt64))) (0 : Int64))] p _ Q
    generalize (ze64 (((g1).toInt64) + (((g2).toInt64) * ((g3).toInt64))) (0 : Int64)) = g4 at H ⊢
    exact zW_rh (some (.long g4)) 1 (fun f => rfl) H
  · have c9 : (zir0 (((g1).toInt64) + (((g2).toInt64) * ((g3).toInt64))) (0 : Int64)) = false := ((zcB_ne _).symm.trans c)
    replace H := H.2 c9
    exact zW_th 3 1 (fun f => rfl) H
theorem b18 {P : zPt} {T : Nat → zX} {Y : zYt} {I : zIt} {A : zAt} {w : Nat → Int64} {p : Nat × Nat} {Q : zR → zH → Prop} {a0 : Int64} (H : Q (.inl (some (.long (((zabs (zfi a0))).toInt64)))) (zh (P, T, Y) I A w)) : zT zm_18 [.ref 1, .long a0] p (zh (P, T, Y) I A w) Q := by
  change zW zm_18 0 [some (.ref 1), some (.long a0), none] [] p _ Q
  refine zW_gh 1 [some (.ref 1), some (.long a0), none] [.long a0] 1 (fun f => rfl) ?_
  refine zW_cl rfl rfl rfl rfl rfl (s75 ?_)
  change zW zm_18 4 [some (.ref 1), some (.long a0), none] [.int (zfi a0)] p _ Q
  generalize (zfi a0) = g1 at H ⊢
  refine zW_cl rfl rfl rfl rfl rfl (s280 ?_)
  change zW zm_18 7 [some (.ref 1), some (.long a0), none] [.int (zabs g1)] p _ Q
  generalize (zabs g1) = g2 at H ⊢
  refine zW_gh 8 [some (.ref 1), some (.long a0), none] [.long ((g2).toInt64)] 1 (fun f => rfl) ?_
  exact zW_rh (some (.long ((g2).toInt64))) 1 (fun f => rfl) H
theorem b19 {P : zPt} {T : Nat → zX} {Y : zYt} {I : zIt} {A : zAt} {w : Nat → Int64} {p : Nat × Nat} {Q : zR → zH → Prop} {a0 : Int64} (H : Q (.inl (some (.long (ze64 (((-(zfi a0))).toInt64) (0 : Int64))))) (zh (P, T, Y) I A w)) : zT zm_19 [.ref 1, .long a0] p (zh (P, T, Y) I A w) Q := by
  change zW zm_19 0 [some (.ref 1), some (.long a0), none] [] p _ Q
  refine zW_gh 1 [some (.ref 1), some (.long a0), none] [.long a0] 1 (fun f => rfl) ?_
  refine zW_cl rfl rfl rfl rfl rfl (s75 ?_)
  change zW zm_19 4 [some (.ref 1), some (.long a0), none] [.int (zfi a0)] p _ Q
  generalize (zfi a0) = g1 at H ⊢
  refine zW_gh 7 [some (.ref 1), some (.long a0), none] [.long (0 : Int64), .long (((-g1)).toInt64)] 3 (fun f => rfl) ?_
  refine zW_cl rfl rfl rfl rfl rfl (s76 ?_)
  change zW zm_19 10 [some (.ref 1), some (.long a0), none] [.long (ze64 (((-g1)).toInt64) (0 : Int64))] p _ Q
  generalize (ze64 (((-g1)).toInt64) (0 : Int64)) = g2 at H ⊢
  exact zW_rh (some (.long g2)) 1 (fun f => rfl) H
theorem b20 {P : zPt} {T : Nat → zX} {Y : zYt} {I : zIt} {A : zAt} {w : Nat → Int64} {p : Nat × Nat} {Q : zR → zH → Prop} {a0 : Int64} (H : Q (.inl (some (.long a0))) (zh (P, T, Y) I A w)) : zT zm_20 [.ref 1, .long a0] p (zh (P, T, Y) I A w) Q := by
  change zW zm_20 0 [some (.ref 1), some (.long a0), none] [] p _ Q
  refine zW_gh 1 [some (.ref 1), some (.long a0), none] [.long a0] 1 (fun f => rfl) ?_
  exact zW_rh (some (.long a0)) 1 (fun f => rfl) H
theorem b21 {P : zPt} {T : Nat → zX} {Y : zYt} {I : zIt} {A : zAt} {w : Nat → Int64} {p : Nat × Nat} {Q : zR → zH → Prop} {a0 a1 : Int64} (H : ((¬ (zfi a1) = (0 : Int32) → zW zm_21 14 [none, none, none, none, none, some (.int (zfi a1)), none] [.long a0] p (zh (P, T, Y) I A w) Q) ∧ ((zfi a1) = (0 : Int32) → Q (.inl (some (.long (0 : Int64)))) (zh (P, T, Y) I A w)))) : zT zm_21 [.ref 1, .long a0, .long a1] p (zh (P, T, Y) I A w) Q := by
  change zW zm_21 0 [some (.ref 1), some (.long a0), none, some (.long a1), none, none, none] [] p _ Q
  refine zW_gh 1 [some (.ref 1), some (.long a0), none, some (.long a1), none, none, none] [.long a1] 1 (fun f => rfl) ?_
  refine zW_cl rfl rfl rfl rfl rfl (s75 ?_)
  change zW zm_21 4 [some (.ref 1), some (.long a0), none, some (.long a1), none, none, none] [.int (zfi a1)] p _ Q
  generalize (zfi a1) = g1 at H ⊢
  refine zW_bh (zcmp .ne g1 (0 : Int32)) 13 11 [some (.ref 1), some (.long a0), none, some (.long a1), none, some (.int g1), none] [] 3 (fun f => rfl) (fun c => ?_) (fun c => ?_)
  · have c9 : ¬ g1 = (0 : Int32) := (by simpa [zcmp] using c)
    replace H := H.1 c9
    refine zW_gh 14 [some (.ref 1), some (.long a0), none, some (.long a1), none, some (.int g1), none] [.long a0] 1 (fun f => rfl) ?_
    refine zW_fg (L' := [none, none, none, none, none, some (.int g1), none]) (zle_n _ (zle_n _ (zle_s _ (zle_n _ (zle_s _ (zle_s _ (zle_s _ zle_nil))))))) ?_
    exact H
  · have c9 : g1 = (0 : Int32) := (by simpa [zcmp] using c)
    replace H := H.2 c9
    refine zW_gh 12 [some (.ref 1), some (.long a0), none, some (.long a1), none, some (.int g1), none] [.long (0 : Int64)] 1 (fun f => rfl) ?_
    exact zW_rh (some (.long (0 : Int64))) 1 (fun f => rfl) H
theorem b21_14 {P : zPt} {T : Nat → zX} {Y : zYt} {I : zIt} {A : zAt} {w : Nat → Int64} {p : Nat × Nat} {Q : zR → zH → Prop} {x5 : Int32} {s0 : Int64} (H : zW zm_21 22 [none, none, none, none, none, some (.int x5), none] [.int (zabs x5), .int (zfi s0)] p (zh (P, T, Y) I A w) Q) : zW zm_21 14 [none, none, none, none, none, some (.int x5), none] [.long s0] p (zh (P, T, Y) I A w) Q := by
  refine zW_cl rfl rfl rfl rfl rfl (s75 ?_)
  change zW zm_21 17 [none, none, none, none, none, some (.int x5), none] [.int (zfi s0)] p _ Q
  generalize (zfi s0) = g1 at H ⊢
  refine zW_gh 19 [none, none, none, none, none, some (.int x5), none] [.int x5, .int g1] 1 (fun f => rfl) ?_
  refine zW_cl rfl rfl rfl rfl rfl (s280 ?_)
  change zW zm_21 22 [none, none, none, none, none, some (.int x5), none] [.int (zabs x5), .int g1] p _ Q
  generalize (zabs x5) = g2 at H ⊢
  exact H
theorem b21_22 {P : zPt} {T : Nat → zX} {Y : zYt} {I : zIt} {A : zAt} {w : Nat → Int64} {p : Nat × Nat} {Q : zR → zH → Prop} {x5 s0 s1 : Int32} (H : (s0 ≠ 0 ∧ zW zm_21 25 [none, none, none, none, none, some (.int x5), none] [.int (zfdi s1 s0)] p (zh (P, T, Y) I A w) Q)) : zW zm_21 22 [none, none, none, none, none, some (.int x5), none] [.int s0, .int s1] p (zh (P, T, Y) I A w) Q := by
  obtain ⟨h1, H⟩ := H
  refine zW_cl rfl rfl rfl rfl rfl (s282 h1 ?_)
  change zW zm_21 25 [none, none, none, none, none, some (.int x5), none] [.int (zfdi s1 s0)] p _ Q
  generalize (zfdi s1 s0) = g2 at H ⊢
  exact H
theorem b21_25 {P : zPt} {T : Nat → zX} {Y : zYt} {I : zIt} {A : zAt} {w : Nat → Int64} {p : Nat × Nat} {Q : zR → zH → Prop} {x5 s0 : Int32} (H : ((x5 ≤ (0 : Int32) → Q (.inl (some (.long (ze64 (((-s0)).toInt64) (0 : Int64))))) (zh (P, T, Y) I A w)) ∧ (¬ x5 ≤ (0 : Int32) → Q (.inl (some (.long (ze64 ((s0).toInt64) (0 : Int64))))) (zh (P, T, Y) I A w)))) : zW zm_21 25 [none, none, none, none, none, some (.int x5), none] [.int s0] p (zh (P, T, Y) I A w) Q := by
  refine zW_bh (zcmp .le x5 (0 : Int32)) 38 32 [none, none, none, none, none, some (.int x5), some (.int s0)] [] 3 (fun f => rfl) (fun c => ?_) (fun c => ?_)
  · have c9 : x5 ≤ (0 : Int32) := (of_decide_eq_true c)
    replace H := H.1 c9
    refine zW_gh 43 [none, none, none, none, none, some (.int x5), some (.int s0)] [.long (0 : Int64), .long (((-s0)).toInt64)] 4 (fun f => rfl) ?_
    refine zW_cl rfl rfl rfl rfl rfl (s76 ?_)
    change zW zm_21 46 [none, none, none, none, none, some (.int x5), some (.int s0)] [.long (ze64 (((-s0)).toInt64) (0 : Int64))] p _ Q
    generalize (ze64 (((-s0)).toInt64) (0 : Int64)) = g1 at H ⊢
    exact zW_rh (some (.long g1)) 1 (fun f => rfl) H
  · have c9 : ¬ x5 ≤ (0 : Int32) := (of_decide_eq_false c)
    replace H := H.2 c9
    refine zW_gh 43 [none, none, none, none, none, some (.int x5), some (.int s0)] [.long (0 : Int64), .long ((s0).toInt64)] 4 (fun f => rfl) ?_
    refine zW_cl rfl rfl rfl rfl rfl (s76 ?_)
    change zW zm_21 46 [none, none, none, none, none, some (.int x5), some (.int s0)] [.long (ze64 ((s0).toInt64) (0 : Int64))] p _ Q
    generalize (ze64 ((s0).toInt64) (0 : Int64)) = g2 at H ⊢
    exact zW_rh (some (.long g2)) 1 (fun f => rfl) H
theorem b22 {P : zPt} {T : Nat → zX} {Y : zYt} {I : zIt} {A : zAt} {w : Nat → Int64} {p : Nat × Nat} {Q : zR → zH → Prop} {a0 : Int64} (H : (((0 : Int32) ≤ (zfi a0) → Q (.inl (some (.long (ze64 (1 : Int64) (0 : Int64))))) (zh (P, T, Y) I A w)) ∧ (¬ (0 : Int32) ≤ (zfi a0) → Q (.inl (some (.long (ze64 (-1 : Int64) (0 : Int64))))) (zh (P, T, Y) I A w)))) : zT zm_22 [.ref 1, .long a0] p (zh (P, T, Y) I A w) Q := by
  change zW zm_22 0 [some (.ref 1), some (.long a0), none] [] p _ Q
  refine zW_gh 1 [some (.ref 1), some (.long a0), none] [.long a0] 1 (fun f => rfl) ?_
  refine zW_cl rfl rfl rfl rfl rfl (s75 ?_)
  change zW zm_22 4 [some (.ref 1), some (.long a0), none] [.int (zfi a0)] p _ Q
  generalize (zfi a0) = g1 at H ⊢
  refine zW_bh (zcmp .ge g1 (0 : Int32)) 13 7 [some (.ref 1), some (.long a0), none] [] 1 (fun f => rfl) (fun c => ?_) (fun c => ?_)
  · have c9 : (0 : Int32) ≤ g1 := (of_decide_eq_true c)
    replace H := H.1 c9
    refine zW_gh 15 [some (.ref 1), some (.long a0), none] [.long (0 : Int64), .long (1 : Int64)] 2 (fun f => rfl) ?_
    refine zW_cl rfl rfl rfl rfl rfl (s76 ?_)
    change zW zm_22 18 [some (.ref 1), some (.long a0), none] [.long (ze64 (1 : Int64) (0 : Int64))] p _ Q
    generalize (ze64 (1 : Int64) (0 : Int64)) = g2 at H ⊢
    exact zW_rh (some (.long g2)) 1 (fun f => rfl) H
  · have c9 : ¬ (0 : Int32) ≤ g1 := (of_decide_eq_false c)
    replace H := H.2 c9
    refine zW_gh 15 [some (.ref 1), some (.long a0), none] [.long (0 : Int64), .long (-1 : Int64)] 3 (fun f => rfl) ?_
    refine zW_cl rfl rfl rfl rfl rfl (s76 ?_)
    change zW zm_22 18 [some (.ref 1), some (.long a0), none] [.long (ze64 (-1 : Int64) (0 : Int64))] p _ Q
    generalize (ze64 (-1 : Int64) (0 : Int64)) = g3 at H ⊢
    exact zW_rh (some (.long g3)) 1 (fun f => rfl) H
theorem b23 {P : zPt} {T : Nat → zX} {Y : zYt} {I : zIt} {A : zAt} {w : Nat → Int64} {p : Nat × Nat} {Q : zR → zH → Prop} {a0 : Int64} (H : zT zm_18 [.ref 1, .long a0] p (zh (P, T, Y) I A w) (zK zm_23 5 [none, none, none] [] p Q)) : zT zm_23 [.ref 1, .long a0] p (zh (P, T, Y) I A w) Q := by
  change zW zm_23 0 [some (.ref 1), some (.long a0), none] [] p _ Q
  refine zW_gh 2 [some (.ref 1), some (.long a0), none] [.long a0, .ref 1] 2 (fun f => rfl) ?_
  refine zW_fg (L' := [none, none, none]) (zle_n _ (zle_n _ (zle_s _ zle_nil))) ?_
  exact zW_cl rfl rfl rfl rfl rfl H
theorem b23_5 {P : zPt} {T : Nat → zX} {Y : zYt} {I : zIt} {A : zAt} {w : Nat → Int64} {p : Nat × Nat} {Q : zR → zH → Prop} {rv : Int64} (H : Q (.inl (some (.long rv))) (zh (P, T, Y) I A w)) : zW zm_23 5 [none, none, none] [.long rv] p (zh (P, T, Y) I A w) Q := by
  exact zW_rh (some (.long rv)) 1 (fun f => rfl) H
theorem b2 {P : zPt} {T : Nat → zX} {Y : zYt} {I : zIt} {A : zAt} {w : Nat → Int64} {p : Nat × Nat} {Q : zR → zH → Prop} {a0 a1 a2 : Int64} (H : (((zir1 (((((zfi a0)).toInt64) + ((((zfi a1)).toInt64) * (((zfi a2)).toInt64))) - ((((zse a1)).toInt64) * (((zse a2)).toInt64))) (((((zse a0)).toInt64) + ((((zfi a1)).toInt64) * (((zse a2)).toInt64))) + ((((zse a1)).toInt64) * (((zfi a2)).toInt64)))) = true → Q (.inl (some (.long (ze64 (((((zfi a0)).toInt64) + ((((zfi a1)).toInt64) * (((zfi a2)).toInt64))) - ((((zse a1)).toInt64) * (((zse a2)).toInt64))) (((((zse a0)).toInt64) + ((((zfi a1)).toInt64) * (((zse a2)).toInt64))) + ((((zse a1)).toInt64) * (((zfi a2)).toInt64))))))) (zh (P, T, Y) I A w)) ∧ ((zir1 (((((zfi a0)).toInt64) + ((((zfi a1)).toInt64) * (((zfi a2)).toInt64))) - ((((zse a1)).toInt64) * (((zse a2)).toInt64))) (((((zse a0)).toInt64) + ((((zfi a1)).toInt64) * (((zse a2)).toInt64))) + ((((zse a1)).toInt64) * (((zfi a2)).toInt64)))) = false → Q (.inr 3) (zh (P, T, Y) I A w)))) : zT zm_2 [.ref 3, .long a0, .long a1, .long a2] p (zh (P, T, Y) I A w) Q := by
  change zW zm_2 0 [some (.ref 3), some (.long a0), none, some (.long a1), none, some (.long a2), none, none, none, none, none, none, none, none, none, none, none, none, none] [] p _ Q
  refine zW_gh 1 [some (.ref 3), some (.long a0), none, some (.long a1), none, some (.long a2), none, none, none, none, none, none, none, none, none, none, none, none, none] [.long a1] 1 (fun f => rfl) ?_
  refine zW_cl rfl rfl rfl rfl rfl (s75 ?_)
  change zW zm_2 4 [some (.ref 3), some (.long a0), none, some (.long a1), none, some (.long a2), none, none, none, none, none, none, none, none, none, none, none, none, none] [.int (zfi a1)] p _ Q
  generalize (zfi a1) = g1 at H ⊢
  refine zW_gh 8 [some (.ref 3), some (.long a0), none, some (.long a1), none, some (.long a2), none, some (.long ((g1).toInt64)), none, none, none, none, none, none, none, none, none, none, none] [.long a1] 3 (fun f => rfl) ?_
  refine zW_cl rfl rfl rfl rfl rfl (s78 ?_)
  change zW zm_2 11 [some (.ref 3), some (.long a0), none, some (.long a1), none, some (.long a2), none, some (.long ((g1).toInt64)), none, none, none, none, none, none, none, none, none, none, none] [.int (zse a1)] p _ Q
  generalize (zse a1) = g2 at H ⊢
  refine zW_gh 16 [some (.ref 3), some (.long a0), none, some (.long a1), none, some (.long a2), none, some (.long ((g1).toInt64)), none, some (.long ((g2).toInt64)), none, none, none, none, none, none, none, none, none] [.long a2] 3 (fun f => rfl) ?_
  refine zW_cl rfl rfl rfl rfl rfl (s75 ?_)
  change zW zm_2 19 [some (.ref 3), some (.long a0), none, some (.long a1), none, some (.long a2), none, some (.long ((g1).toInt64)), none, some (.long ((g2).toInt64)), none, none, none, none, none, none, none, none, none] [.int (zfi a2)] p _ Q
  generalize (zfi a2) = g3 at H ⊢
  refine zW_gh 24 [some (.ref 3), some (.long a0), none, some (.long a1), none, some (.long a2), none, some (.long ((g1).toInt64)), none, some (.long ((g2).toInt64)), none, some (.long ((g3).toInt64)), none, none, none, none, none, none, none] [.long a2] 3 (fun f => rfl) ?_
  refine zW_cl rfl rfl rfl rfl rfl (s78 ?_)
  change zW zm_2 27 [some (.ref 3), some (.long a0), none, some (.long a1), none, some (.long a2), none, some (.long ((g1).toInt64)), none, some (.long ((g2).toInt64)), none, some (.long ((g3).toInt64)), none, none, none, none, none, none, none] [.int (zse a2)] p _ Q
  generalize (zse a2) = g4 at H ⊢
  refine zW_gh 31 [some (.ref 3), some (.long a0), none, some (.long a1), none, some (.long a2), none, some (.long ((g1).toInt64)), none, some (.long ((g2).toInt64)), none, some (.long ((g3).toInt64)), none, some (.long ((g4).toInt64)), none, none, none, none, none] [.long a0] 3 (fun f => rfl) ?_
  refine zW_cl rfl rfl rfl rfl rfl (s75 ?_)
  change zW zm_2 34 [some (.ref 3), some (.long a0), none, some (.long a1), none, some (.long a2), none, some (.long ((g1).toInt64)), none, some (.long ((g2).toInt64)), none, some (.long ((g3).toInt64)), none, some (.long ((g4).toInt64)), none, none, none, none, none] [.int (zfi a0)] p _ Q
  generalize (zfi a0) = g5 at H ⊢
  refine zW_gh 47 [some (.ref 3), some (.long a0), none, some (.long a1), none, some (.long a2), none, some (.long ((g1).toInt64)), none, some (.long ((g2).toInt64)), none, some (.long ((g3).toInt64)), none, some (.long ((g4).toInt64)), none, none, none, none, none] [.long ((((g5).toInt64) + (((g1).toInt64) * ((g3).toInt64))) - (((g2).toInt64) * ((g4).toInt64)))] 9 (fun f => rfl) ?_
  refine zW_gh 50 [some (.ref 3), some (.long a0), none, some (.long a1), none, some (.long a2), none, some (.long ((g1).toInt64)), none, some (.long ((g2).toInt64)), none, some (.long ((g3).toInt64)), none, some (.long ((g4).toInt64)), none, some (.long ((((g5).toInt64) + (((g1).toInt64) * ((g3).toInt64))) - (((g2).toInt64) * ((g4).toInt64)))), none, none, none] [.long a0] 2 (fun f => rfl) ?_
  refine zW_cl rfl rfl rfl rfl rfl (s78 ?_)
  change zW zm_2 53 [some (.ref 3), some (.long a0), none, some (.long a1), none, some (.long a2), none, some (.long ((g1).toInt64)), none, some (.long ((g2).toInt64)), none, some (.long ((g3).toInt64)), none, some (.long ((g4).toInt64)), none, some (.long ((((g5).toInt64) + (((g1).toInt64) * ((g3).toInt64))) - (((g2).toInt64) * ((g4).toInt64)))), none, none, none] [.int (zse a0)] p _ Q
  generalize (zse a0) = g6 at H ⊢
  refine zW_gh 66 [some (.ref 3), some (.long a0), none, some (.long a1), none, some (.long a2), none, some (.long ((g1).toInt64)), none, some (.long ((g2).toInt64)), none, some (.long ((g3).toInt64)), none, some (.long ((g4).toInt64)), none, some (.long ((((g5).toInt64) + (((g1).toInt64) * ((g3).toInt64))) - (((g2).toInt64) * ((g4).toInt64)))), none, none, none] [.long ((((g6).toInt64) + (((g1).toInt64) * ((g4).toInt64))) + (((g2).toInt64) * ((g3).toInt64)))] 9 (fun f => rfl) ?_
  refine zW_gh 73 [some (.ref 3), some (.long a0), none, some (.long a1), none, some (.long a2), none, some (.long ((g1).toInt64)), none, some (.long ((g2).toInt64)), none, some (.long ((g3).toInt64)), none, some (.long ((g4).toInt64)), none, some (.long ((((g5).toInt64) + (((g1).toInt64) * ((g3).toInt64))) - (((g2).toInt64) * ((g4).toInt64)))), none, some (.long ((((g6).toInt64) + (((g1).toInt64) * ((g4).toInt64))) + (((g2).toInt64) * ((g3).toInt64)))), none] [.long ((((g6).toInt64) + (((g1).toInt64) * ((g4).toInt64))) + (((g2).toInt64) * ((g3).toInt64))), .long ((((g5).toInt64) + (((g1).toInt64) * ((g3).toInt64))) - (((g2).toInt64) * ((g4).toInt64))), .ref 3] 4 (fun f => rfl) ?_
  refine zW_cl rfl rfl rfl rfl rfl (s1 ?_)
  change zW zm_2 76 [some (.ref 3), some (.long a0), none, some (.long a1), none, some (.long a2), none, some (.long ((g1).toInt64)), none, some (.long ((g2).toInt64)), none, some (.long ((g3).toInt64)), none, some (.long ((g4).toInt64)), none, some (.long ((((g5).toInt64) + (((g1).toInt64) * ((g3).toInt64))) - (((g2).toInt64) * ((g4).toInt64)))), none, some (.long ((((g6).toInt64) + (((g1).toInt64) * ((g4).toInt64))) + (((g2).toInt64) * ((g3).toInt64)))), none] [.int (zbi (zir1 ((((g5).toInt64) + (((g1).toInt64) * ((g3).toInt64))) - (((g2).toInt64) * ((g4).toInt64))) ((((g6).toInt64) + (((g1).toInt64) * ((g4).toInt64))) + (((g2).toInt64) * ((g3).toInt64)))))] p _ Q
  refine zW_bh (zcmp .ne (zbi (zir1 ((((g5).toInt64) + (((g1).toInt64) * ((g3).toInt64))) - (((g2).toInt64) * ((g4).toInt64))) ((((g6).toInt64) + (((g1).toInt64) * ((g4).toInt64))) + (((g2).toInt64) * ((g3).toInt64))))) (0 : Int32)) 89 79 [some (.ref 3), some (.long a0), none, some (.long a1), none, some (.long a2), none, some (.long ((g1).toInt64)), none, some (.long ((g2).toInt64)), none, some (.long ((g3).toInt64)), none, some (.long ((g4).toInt64)), none, some (.long ((((g5).toInt64) + (((g1).toInt64) * ((g3).toInt64))) - (((g2).toInt64) * ((g4).toInt64)))), none, some (.long ((((g6).toInt64) + (((g1).toInt64) * ((g4).toInt64))) + (((g2).toInt64) * ((g3).toInt64)))), none] [] 1 (fun f => rfl) (fun c => ?_) (fun c => ?_)
  · have c9 : (zir1 ((((g5).toInt64) + (((g1).toInt64) * ((g3).toInt64))) - (((g2).toInt64) * ((g4).toInt64))) ((((g6).toInt64) + (((g1).toInt64) * ((g4).toInt64))) + (((g2).toInt64) * ((g3).toInt64)))) = true := ((zcB_ne _).symm.trans c)
    replace H := H.1 c9
    refine zW_gh 93 [some (.ref 3), some (.long a0), none, some (.long a1), none, some (.long a2), none, some (.long ((g1).toInt64)), none, some (.long ((g2).toInt64)), none, some (.long ((g3).toInt64)), none, some (.long ((g4).toInt64)), none, some (.long ((((g5).toInt64) + (((g1).toInt64) * ((g3).toInt64))) - (((g2).toInt64) * ((g4).toInt64)))), none, some (.long ((((g6).toInt64) + (((g1).toInt64) * ((g4).toInt64))) + (((g2).toInt64) * ((g3).toInt64)))), none] [.long ((((g6).toInt64) + (((g1).toInt64) * ((g4).toInt64))) + (((g2).toInt64) * ((g3).toInt64))), .long ((((g5).toInt64) + (((g1).toInt64) * ((g3).toInt64))) - (((g2).toInt64) * ((g4).toInt64)))] 2 (fun f => rfl) ?_
    refine zW_cl rfl rfl rfl rfl rfl (s76 ?_)
    change zW zm_2 96 [some (.ref 3), some (.long a0), none, some (.long a1), none, some (.long a2), none, some (.long ((g1).toInt64)), none, some (.long ((g2).toInt64)), none, some (.long ((g3).toInt64)), none, some (.long ((g4).toInt64)), none, some (.long ((((g5).toInt64) + (((g1).toInt64) * ((g3).toInt64))) - (((g2).toInt64) * ((g4).toInt64)))), none, some (.long ((((g6).toInt64) + (((g1).toInt64) * ((g4).toInt64))) + (((g2).toInt64) * ((g3).toInt64)))), none] [.long (ze64 ((((g5).toInt64) + (((g1).toInt64) * ((g3).toInt64))) - (((g2).toInt64) * ((g4).toInt64))) ((((g6).toInt64) + (((g1).toInt64) * ((g4).toInt64))) + (((g2).toInt64) * ((g3).toInt64))))] p _ Q
    generalize (ze64 ((((g5).toInt64) + (((g1).toInt64) * ((g3).toInt64))) - (((g2).toInt64) * ((g4).toInt64))) ((((g6).toInt64) + (((g1).toInt64) * ((g4).toInt64))) + (((g2).toInt64) * ((g3).toInt64)))) = g7 at H ⊢
    exact zW_rh (some (.long g7)) 1 (fun f => rfl) H
  · have c9 : (zir1 ((((g5).toInt64) + (((g1).toInt64) * ((g3).toInt64))) - (((g2).toInt64) * ((g4).toInt64))) ((((g6).toInt64) + (((g1).toInt64) * ((g4).toInt64))) + (((g2).toInt64) * ((g3).toInt64)))) = false := ((zcB_ne _).symm.trans c)
    replace H := H.2 c9
    exact zW_th 3 1 (fun f => rfl) H
theorem b3 {P : zPt} {T : Nat → zX} {Y : zYt} {I : zIt} {A : zAt} {w : Nat → Int64} {p : Nat × Nat} {Q : zR → zH → Prop} {a0 : Int64} (H : Q (.inl (some (.long (((((zfi a0)).toInt64) * (((zfi a0)).toInt64)) + ((((zse a0)).toInt64) * (((zse a0)).toInt64)))))) (zh (P, T, Y) I A w)) : zT zm_3 [.ref 3, .long a0] p (zh (P, T, Y) I A w) Q := by
  change zW zm_3 0 [some (.ref 3), some (.long a0), none, none, none, none, none] [] p _ Q
  refine zW_gh 1 [some (.ref 3), some (.long a0), none, none, none, none, none] [.long a0] 1 (fun f => rfl) ?_
  refine zW_cl rfl rfl rfl rfl rfl (s75 ?_)
  change zW zm_3 4 [some (.ref 3), some (.long a0), none, none, none, none, none] [.int (zfi a0)] p _ Q
  generalize (zfi a0) = g1 at H ⊢
  refine zW_gh 7 [some (.ref 3), some (.long a0), none, some (.long ((g1).toInt64)), none, none, none] [.long a0] 3 (fun f => rfl) ?_
  refine zW_cl rfl rfl rfl rfl rfl (s78 ?_)
  change zW zm_3 10 [some (.ref 3), some (.long a0), none, some (.long ((g1).toInt64)), none, none, none] [.int (zse a0)] p _ Q
  generalize (zse a0) = g2 at H ⊢
  refine zW_gh 22 [some (.ref 3), some (.long a0), none, some (.long ((g1).toInt64)), none, some (.long ((g2).toInt64)), none] [.long ((((g1).toInt64) * ((g1).toInt64)) + (((g2).toInt64) * ((g2).toInt64)))] 9 (fun f => rfl) ?_
  exact zW_rh (some (.long ((((g1).toInt64) * ((g1).toInt64)) + (((g2).toInt64) * ((g2).toInt64))))) 1 (fun f => rfl) H
theorem b4 {P : zPt} {T : Nat → zX} {Y : zYt} {I : zIt} {A : zAt} {w : Nat → Int64} {p : Nat × Nat} {Q : zR → zH → Prop} {a0 : Int64} (H : Q (.inl (some (.long (ze64 (((-(zfi a0))).toInt64) (((-(zse a0))).toInt64))))) (zh (P, T, Y) I A w)) : zT zm_4 [.ref 3, .long a0] p (zh (P, T, Y) I A w) Q := by
  change zW zm_4 0 [some (.ref 3), some (.long a0), none] [] p _ Q
  refine zW_gh 1 [some (.ref 3), some (.long a0), none] [.long a0] 1 (fun f => rfl) ?_
  refine zW_cl rfl rfl rfl rfl rfl (s75 ?_)
  change zW zm_4 4 [some (.ref 3), some (.long a0), none] [.int (zfi a0)] p _ Q
  generalize (zfi a0) = g1 at H ⊢
  refine zW_gh 7 [some (.ref 3), some (.long a0), none] [.long a0, .long (((-g1)).toInt64)] 3 (fun f => rfl) ?_
  refine zW_cl rfl rfl rfl rfl rfl (s78 ?_)
  change zW zm_4 10 [some (.ref 3), some (.long a0), none] [.int (zse a0), .long (((-g1)).toInt64)] p _ Q
  generalize (zse a0) = g2 at H ⊢
  refine zW_gh 12 [some (.ref 3), some (.long a0), none] [.long (((-g2)).toInt64), .long (((-g1)).toInt64)] 2 (fun f => rfl) ?_
  refine zW_cl rfl rfl rfl rfl rfl (s76 ?_)
  change zW zm_4 15 [some (.ref 3), some (.long a0), none] [.long (ze64 (((-g1)).toInt64) (((-g2)).toInt64))] p _ Q
  generalize (ze64 (((-g1)).toInt64) (((-g2)).toInt64)) = g3 at H ⊢
  exact zW_rh (some (.long g3)) 1 (fun f => rfl) H
theorem b5 {P : zPt} {T : Nat → zX} {Y : zYt} {I : zIt} {A : zAt} {w : Nat → Int64} {p : Nat × Nat} {Q : zR → zH → Prop} {a0 : Int64} (H : Q (.inl (some (.long (ze64 (((zfi a0)).toInt64) (((-(zse a0))).toInt64))))) (zh (P, T, Y) I A w)) : zT zm_5 [.ref 3, .long a0] p (zh (P, T, Y) I A w) Q := by
  change zW zm_5 0 [some (.ref 3), some (.long a0), none] [] p _ Q
  refine zW_gh 1 [some (.ref 3), some (.long a0), none] [.long a0] 1 (fun f => rfl) ?_
  refine zW_cl rfl rfl rfl rfl rfl (s75 ?_)
  change zW zm_5 4 [some (.ref 3), some (.long a0), none] [.int (zfi a0)] p _ Q
  generalize (zfi a0) = g1 at H ⊢
  refine zW_gh 6 [some (.ref 3), some (.long a0), none] [.long a0, .long ((g1).toInt64)] 2 (fun f => rfl) ?_
  refine zW_cl rfl rfl rfl rfl rfl (s78 ?_)
  change zW zm_5 9 [some (.ref 3), some (.long a0), none] [.int (zse a0), .long ((g1).toInt64)] p _ Q
  generalize (zse a0) = g2 at H ⊢
  refine zW_gh 11 [some (.ref 3), some (.long a0), none] [.long (((-g2)).toInt64), .long ((g1).toInt64)] 2 (fun f => rfl) ?_
  refine zW_cl rfl rfl rfl rfl rfl (s76 ?_)
  change zW zm_5 14 [some (.ref 3), some (.long a0), none] [.long (ze64 ((g1).toInt64) (((-g2)).toInt64))] p _ Q
  generalize (ze64 ((g1).toInt64) (((-g2)).toInt64)) = g3 at H ⊢
  exact zW_rh (some (.long g3)) 1 (fun f => rfl) H
theorem b6 {P : zPt} {T : Nat → zX} {Y : zYt} {I : zIt} {A : zAt} {w : Nat → Int64} {p : Nat × Nat} {Q : zR → zH → Prop} {a0 a1 : Int64} (H : zT zm_3 [.ref 3, .long a1] p (zh (P, T, Y) I A w) (zK zm_6 5 [none, some (.long a0), none, some (.long a1), none, none, none, none, none, none, none, none, none, none, none, none, none, none, none] [] p Q)) : zT zm_6 [.ref 3, .long a0, .long a1] p (zh (P, T, Y) I A w) Q := by
  change zW zm_6 0 [some (.ref 3), some (.long a0), none, some (.long a1), none, none, none, none, none, none, none, none, none, none, none, none, none, none, none] [] p _ Q
  refine zW_gh 2 [some (.ref 3), some (.long a0), none, some (.long a1), none, none, none, none, none, none, none, none, none, none, none, none, none, none, none] [.long a1, .ref 3] 2 (fun f => rfl) ?_
  refine zW_fg (L' := [none, some (.long a0), none, some (.long a1), none, none, none, none, none, none, none, none, none, none, none, none, none, none, none]) (zle_n _ (zle_s _ (zle_s _ (zle_s _ (zle_s _ (zle_s _ (zle_s _ (zle_s _ (zle_s _ (zle_s _ (zle_s _ (zle_s _ (zle_s _ (zle_s _ (zle_s _ (zle_s _ (zle_s _ (zle_s _ (zle_s _ zle_nil))))))))))))))))))) ?_
  exact zW_cl rfl rfl rfl rfl rfl H
theorem b6_5 {P : zPt} {T : Nat → zX} {Y : zYt} {I : zIt} {A : zAt} {w : Nat → Int64} {p : Nat × Nat} {Q : zR → zH → Prop} {x1 x3 rv : Int64} (H : ((¬ rv = (0 : Int64) → (((2 : Int64) * rv) ≠ 0 ∧ (((2 : Int64) * rv) ≠ 0 ∧ Q (.inl (some (.long (ze64 (zfdl (((2 : Int64) * (((((zfi x1)).toInt64) * (((zfi x3)).toInt64)) + ((((zse x1)).toInt64) * (((zse x3)).toInt64)))) + rv) ((2 : Int64) * rv)) (zfdl (((2 : Int64) * (((((zse x1)).toInt64) * (((zfi x3)).toInt64)) - ((((zfi x1)).toInt64) * (((zse x3)).toInt64)))) + rv) ((2 : Int64) * rv)))))) (zh (P, T, Y) I A w)))) ∧ (rv = (0 : Int64) → Q (.inl (some (.long (0 : Int64)))) (zh (P, T, Y) I A w)))) : zW zm_6 5 [none, some (.long x1), none, some (.long x3), none, none, none, none, none, none, none, none, none, none, none, none, none, none, none] [.long rv] p (zh (P, T, Y) I A w) Q := by
  refine zW_bh (zcmp .ne (lg_cmp rv (0 : Int64)) (0 : Int32)) 16 14 [none, some (.long x1), none, some (.long x3), none, some (.long rv), none, none, none, none, none, none, none, none, none, none, none, none, none] [] 5 (fun f => rfl) (fun c => ?_) (fun c => ?_)
  · have c9 : ¬ rv = (0 : Int64) := (by rw [zcL_ne] at c; simpa using c)
    replace H := H.1 c9
    refine zW_gh 17 [none, some (.long x1), none, some (.long x3), none, some (.long rv), none, none, none, none, none, none, none, none, none, none, none, none, none] [.long x1] 1 (fun f => rfl) ?_
    refine zW_cl rfl rfl rfl rfl rfl (s75 ?_)
    change zW zm_6 20 [none, some (.long x1), none, some (.long x3), none, some (.long rv), none, none, none, none, none, none, none, none, none, none, none, none, none] [.int (zfi x1)] p _ Q
    generalize (zfi x1) = g1 at H ⊢
    refine zW_gh 24 [none, some (.long x1), none, some (.long x3), none, some (.long rv), none, some (.long ((g1).toInt64)), none, none, none, none, none, none, none, none, none, none, none] [.long x1] 3 (fun f => rfl) ?_
    refine zW_cl rfl rfl rfl rfl rfl (s78 ?_)
    change zW zm_6 27 [none, some (.long x1), none, some (.long x3), none, some (.long rv), none, some (.long ((g1).toInt64)), none, none, none, none, none, none, none, none, none, none, none] [.int (zse x1)] p _ Q
    generalize (zse x1) = g2 at H ⊢
    refine zW_gh 31 [none, some (.long x1), none, some (.long x3), none, some (.long rv), none, some (.long ((g1).toInt64)), none, some (.long ((g2).toInt64)), none, none, none, none, none, none, none, none, none] [.long x3] 3 (fun f => rfl) ?_
    refine zW_cl rfl rfl rfl rfl rfl (s75 ?_)
    change zW zm_6 34 [none, some (.long x1), none, some (.long x3), none, some (.long rv), none, some (.long ((g1).toInt64)), none, some (.long ((g2).toInt64)), none, none, none, none, none, none, none, none, none] [.int (zfi x3)] p _ Q
    generalize (zfi x3) = g3 at H ⊢
    refine zW_gh 38 [none, some (.long x1), none, some (.long x3), none, some (.long rv), none, some (.long ((g1).toInt64)), none, some (.long ((g2).toInt64)), none, some (.long ((g3).toInt64)), none, none, none, none, none, none, none] [.long x3] 3 (fun f => rfl) ?_
    refine zW_cl rfl rfl rfl rfl rfl (s78 ?_)
    change zW zm_6 41 [none, some (.long x1), none, some (.long x3), none, some (.long rv), none, some (.long ((g1).toInt64)), none, some (.long ((g2).toInt64)), none, some (.long ((g3).toInt64)), none, none, none, none, none, none, none] [.int (zse x3)] p _ Q
    generalize (zse x3) = g4 at H ⊢
    refine zW_gh 55 [none, some (.long x1), none, some (.long x3), none, some (.long rv), none, some (.long ((g1).toInt64)), none, some (.long ((g2).toInt64)), none, some (.long ((g3).toInt64)), none, some (.long ((g4).toInt64)), none, none, none, none, none] [.long ((((g1).toInt64) * ((g3).toInt64)) + (((g2).toInt64) * ((g4).toInt64)))] 9 (fun f => rfl) ?_
    refine zW_gh 70 [none, some (.long x1), none, some (.long x3), none, some (.long rv), none, some (.long ((g1).toInt64)), none, some (.long ((g2).toInt64)), none, some (.long ((g3).toInt64)), none, some (.long ((g4).toInt64)), none, some (.long ((((g1).toInt64) * ((g3).toInt64)) + (((g2).toInt64) * ((g4).toInt64)))), none, some (.long ((((g2).toInt64) * ((g3).toInt64)) - (((g1).toInt64) * ((g4).toInt64)))), none] [] 9 (fun f => rfl) ?_
    refine zW_gh 85 [none, some (.long x1), none, some (.long x3), none, some (.long rv), none, some (.long ((g1).toInt64)), none, some (.long ((g2).toInt64)), none, some (.long ((g3).toInt64)), none, some (.long ((g4).toInt64)), none, some (.long ((((g1).toInt64) * ((g3).toInt64)) + (((g2).toInt64) * ((g4).toInt64)))), none, some (.long ((((g2).toInt64) * ((g3).toInt64)) - (((g1).toInt64) * ((g4).toInt64)))), none] [.long ((2 : Int64) * rv), .long (((2 : Int64) * ((((g1).toInt64) * ((g3).toInt64)) + (((g2).toInt64) * ((g4).toInt64)))) + rv)] 8 (fun f => rfl) ?_
    obtain ⟨h5, H⟩ := H
    refine zW_cl rfl rfl rfl rfl rfl (s281 h5 ?_)
    change zW zm_6 88 [none, some (.long x1), none, some (.long x3), none, some (.long rv), none, some (.long ((g1).toInt64)), none, some (.long ((g2).toInt64)), none, some (.long ((g3).toInt64)), none, some (.long ((g4).toInt64)), none, some (.long ((((g1).toInt64) * ((g3).toInt64)) + (((g2).toInt64) * ((g4).toInt64)))), none, some (.long ((((g2).toInt64) * ((g3).toInt64)) - (((g1).toInt64) * ((g4).toInt64)))), none] [.long (zfdl (((2 : Int64) * ((((g1).toInt64) * ((g3).toInt64)) + (((g2).toInt64) * ((g4).toInt64)))) + rv) ((2 : Int64) * rv))] p _ Q
    generalize (zfdl (((2 : Int64) * ((((g1).toInt64) * ((g3).toInt64)) + (((g2).toInt64) * ((g4).toInt64)))) + rv) ((2 : Int64) * rv)) = g6 at H ⊢
    refine zW_gh 103 [none, some (.long x1), none, some (.long x3), none, some (.long rv), none, some (.long ((g1).toInt64)), none, some (.long ((g2).toInt64)), none, some (.long ((g3).toInt64)), none, some (.long ((g4).toInt64)), none, some (.long ((((g1).toInt64) * ((g3).toInt64)) + (((g2).toInt64) * ((g4).toInt64)))), none, some (.long ((((g2).toInt64) * ((g3).toInt64)) - (((g1).toInt64) * ((g4).toInt64)))), none] [.long ((2 : Int64) * rv), .long (((2 : Int64) * ((((g2).toInt64) * ((g3).toInt64)) - (((g1).toInt64) * ((g4).toInt64)))) + rv), .long g6] 8 (fun f => rfl) ?_
    obtain ⟨h7, H⟩ := H
    refine zW_cl rfl rfl rfl rfl rfl (s281 h7 ?_)
    change zW zm_6 106 [none, some (.long x1), none, some (.long x3), none, some (.long rv), none, some (.long ((g1).toInt64)), none, some (.long ((g2).toInt64)), none, some (.long ((g3).toInt64)), none, some (.long ((g4).toInt64)), none, some (.long ((((g1).toInt64) * ((g3).toInt64)) + (((g2).toInt64) * ((g4).toInt64)))), none, some (.long ((((g2).toInt64) * ((g3).toInt64)) - (((g1).toInt64) * ((g4).toInt64)))), none] [.long (zfdl (((2 : Int64) * ((((g2).toInt64) * ((g3).toInt64)) - (((g1).toInt64) * ((g4).toInt64)))) + rv) ((2 : Int64) * rv)), .long g6] p _ Q
    generalize (zfdl (((2 : Int64) * ((((g2).toInt64) * ((g3).toInt64)) - (((g1).toInt64) * ((g4).toInt64)))) + rv) ((2 : Int64) * rv)) = g8 at H ⊢
    refine zW_cl rfl rfl rfl rfl rfl (s76 ?_)
    change zW zm_6 109 [none, some (.long x1), none, some (.long x3), none, some (.long rv), none, some (.long ((g1).toInt64)), none, some (.long ((g2).toInt64)), none, some (.long ((g3).toInt64)), none, some (.long ((g4).toInt64)), none, some (.long ((((g1).toInt64) * ((g3).toInt64)) + (((g2).toInt64) * ((g4).toInt64)))), none, some (.long ((((g2).toInt64) * ((g3).toInt64)) - (((g1).toInt64) * ((g4).toInt64)))), none] [.long (ze64 g6 g8)] p _ Q
    generalize (ze64 g6 g8) = g9 at H ⊢
    exact zW_rh (some (.long g9)) 1 (fun f => rfl) H
  · have c9 : rv = (0 : Int64) := (by rw [zcL_ne] at c; simpa using c)
    replace H := H.2 c9
    refine zW_gh 15 [none, some (.long x1), none, some (.long x3), none, some (.long rv), none, none, none, none, none, none, none, none, none, none, none, none, none] [.long (0 : Int64)] 1 (fun f => rfl) ?_
    exact zW_rh (some (.long (0 : Int64))) 1 (fun f => rfl) H
theorem b7 {P : zPt} {T : Nat → zX} {Y : zYt} {I : zIt} {A : zAt} {w : Nat → Int64} {p : Nat × Nat} {Q : zR → zH → Prop} {a0 : Int64} (H : (((0 : Int32) < (zfi a0) → (((0 : Int32) ≤ (zfi a0) → (((0 : Int32) ≤ (zse a0) → Q (.inl (some (.long (4294967296 : Int64)))) (zh (P, T, Y) I A w)) ∧ (¬ (0 : Int32) ≤ (zse a0) → Q (.inl (some (.long (ze64 (0 : Int64) (1 : Int64))))) (zh (P, T, Y) I A w)))) ∧ (¬ (0 : Int32) ≤ (zfi a0) → Q (.inl (some (.long (ze64 (-1 : Int64) (0 : Int64))))) (zh (P, T, Y) I A w)))) ∧ (¬ (0 : Int32) < (zfi a0) → (((zse a0) ≤ (0 : Int32) → (((0 : Int32) ≤ (zfi a0) → (((0 : Int32) ≤ (zse a0) → Q (.inl (some (.long (4294967296 : Int64)))) (zh (P, T, Y) I A w)) ∧ (¬ (0 : Int32) ≤ (zse a0) → Q (.inl (some (.long (ze64 (0 : Int64) (1 : Int64))))) (zh (P, T, Y) I A w)))) ∧ (¬ (0 : Int32) ≤ (zfi a0) → Q (.inl (some (.long (ze64 (-1 : Int64) (0 : Int64))))) (zh (P, T, Y) I A w)))) ∧ (¬ (zse a0) ≤ (0 : Int32) → Q (.inl (some (.long (ze64 (0 : Int64) (-1 : Int64))))) (zh (P, T, Y) I A w)))))) : zT zm_7 [.ref 3, .long a0] p (zh (P, T, Y) I A w) Q := by
  change zW zm_7 0 [some (.ref 3), some (.long a0), none, none, none] [] p _ Q
  refine zW_gh 1 [some (.ref 3), some (.long a0), none, none, none] [.long a0] 1 (fun f => rfl) ?_
  refine zW_cl rfl rfl rfl rfl rfl (s75 ?_)
  change zW zm_7 4 [some (.ref 3), some (.long a0), none, none, none] [.int (zfi a0)] p _ Q
  generalize (zfi a0) = g1 at H ⊢
  refine zW_gh 6 [some (.ref 3), some (.long a0), none, some (.int g1), none] [.long a0] 2 (fun f => rfl) ?_
  refine zW_cl rfl rfl rfl rfl rfl (s78 ?_)
  change zW zm_7 9 [some (.ref 3), some (.long a0), none, some (.int g1), none] [.int (zse a0)] p _ Q
  generalize (zse a0) = g2 at H ⊢
  refine zW_bh (zcmp .gt g1 (0 : Int32)) 28 15 [some (.ref 3), some (.long a0), none, some (.int g1), some (.int g2)] [] 3 (fun f => rfl) (fun c => ?_) (fun c => ?_)
  · have c9 : (0 : Int32) < g1 := (of_decide_eq_true c)
    replace H := H.1 c9
    refine zW_bh (zcmp .ge g1 (0 : Int32)) 40 32 [some (.ref 3), some (.long a0), none, some (.int g1), some (.int g2)] [] 2 (fun f => rfl) (fun c => ?_) (fun c => ?_)
    · have c9 : (0 : Int32) ≤ g1 := (of_decide_eq_true c)
      replace H := H.1 c9
      refine zW_bh (zcmp .ge g2 (0 : Int32)) 53 45 [some (.ref 3), some (.long a0), none, some (.int g1), some (.int g2)] [] 2 (fun f => rfl) (fun c => ?_) (fun c => ?_)
      · have c9 : (0 : Int32) ≤ g2 := (of_decide_eq_true c)
        replace H := H.1 c9
        refine zW_gh 56 [some (.ref 3), some (.long a0), none, some (.int g1), some (.int g2)] [.long (4294967296 : Int64)] 1 (fun f => rfl) ?_
        exact zW_rh (some (.long (4294967296 : Int64))) 1 (fun f => rfl) H
      · have c9 : ¬ (0 : Int32) ≤ g2 := (of_decide_eq_false c)
        replace H := H.2 c9
        refine zW_gh 47 [some (.ref 3), some (.long a0), none, some (.int g1), some (.int g2)] [.long (1 : Int64), .long (0 : Int64)] 2 (fun f => rfl) ?_
        refine zW_cl rfl rfl rfl rfl rfl (s76 ?_)
        change zW zm_7 50 [some (.ref 3), some (.long a0), none, some (.int g1), some (.int g2)] [.long (ze64 (0 : Int64) (1 : Int64))] p _ Q
        generalize (ze64 (0 : Int64) (1 : Int64)) = g3 at H ⊢
        refine zW_gh 56 [some (.ref 3), some (.long a0), none, some (.int g1), some (.int g2)] [.long g3] 1 (fun f => rfl) ?_
        exact zW_rh (some (.long g3)) 1 (fun f => rfl) H
    · have c9 : ¬ (0 : Int32) ≤ g1 := (of_decide_eq_false c)
      replace H := H.2 c9
      refine zW_gh 36 [some (.ref 3), some (.long a0), none, some (.int g1), some (.int g2)] [.long (0 : Int64), .long (-1 : Int64)] 2 (fun f => rfl) ?_
      refine zW_cl rfl rfl rfl rfl rfl (s76 ?_)
      change zW zm_7 39 [some (.ref 3), some (.long a0), none, some (.int g1), some (.int g2)] [.long (ze64 (-1 : Int64) (0 : Int64))] p _ Q
      generalize (ze64 (-1 : Int64) (0 : Int64)) = g4 at H ⊢
      exact zW_rh (some (.long g4)) 1 (fun f => rfl) H
  · have c9 : ¬ (0 : Int32) < g1 := (of_decide_eq_false c)
    replace H := H.2 c9
    refine zW_bh (zcmp .le g2 (0 : Int32)) 28 20 [some (.ref 3), some (.long a0), none, some (.int g1), some (.int g2)] [] 2 (fun f => rfl) (fun c => ?_) (fun c => ?_)
    · have c9 : g2 ≤ (0 : Int32) := (of_decide_eq_true c)
      replace H := H.1 c9
      refine zW_bh (zcmp .ge g1 (0 : Int32)) 40 32 [some (.ref 3), some (.long a0), none, some (.int g1), some (.int g2)] [] 2 (fun f => rfl) (fun c => ?_) (fun c => ?_)
      · have c9 : (0 : Int32) ≤ g1 := (of_decide_eq_true c)
        replace H := H.1 c9
        refine zW_bh (zcmp .ge g2 (0 : Int32)) 53 45 [some (.ref 3), some (.long a0), none, some (.int g1), some (.int g2)] [] 2 (fun f => rfl) (fun c => ?_) (fun c => ?_)
        · have c9 : (0 : Int32) ≤ g2 := (of_decide_eq_true c)
          replace H := H.1 c9
          refine zW_gh 56 [some (.ref 3), some (.long a0), none, some (.int g1), some (.int g2)] [.long (4294967296 : Int64)] 1 (fun f => rfl) ?_
          exact zW_rh (some (.long (4294967296 : Int64))) 1 (fun f => rfl) H
        · have c9 : ¬ (0 : Int32) ≤ g2 := (of_decide_eq_false c)
          replace H := H.2 c9
          refine zW_gh 47 [some (.ref 3), some (.long a0), none, some (.int g1), some (.int g2)] [.long (1 : Int64), .long (0 : Int64)] 2 (fun f => rfl) ?_
          refine zW_cl rfl rfl rfl rfl rfl (s76 ?_)
          change zW zm_7 50 [some (.ref 3), some (.long a0), none, some (.int g1), some (.int g2)] [.long (ze64 (0 : Int64) (1 : Int64))] p _ Q
          generalize (ze64 (0 : Int64) (1 : Int64)) = g5 at H ⊢
          refine zW_gh 56 [some (.ref 3), some (.long a0), none, some (.int g1), some (.int g2)] [.long g5] 1 (fun f => rfl) ?_
          exact zW_rh (some (.long g5)) 1 (fun f => rfl) H
      · have c9 : ¬ (0 : Int32) ≤ g1 := (of_decide_eq_false c)
        replace H := H.2 c9
        refine zW_gh 36 [some (.ref 3), some (.long a0), none, some (.int g1), some (.int g2)] [.long (0 : Int64), .long (-1 : Int64)] 2 (fun f => rfl) ?_
        refine zW_cl rfl rfl rfl rfl rfl (s76 ?_)
        change zW zm_7 39 [some (.ref 3), some (.long a0), none, some (.int g1), some (.int g2)] [.long (ze64 (-1 : Int64) (0 : Int64))] p _ Q
        generalize (ze64 (-1 : Int64) (0 : Int64)) = g6 at H ⊢
        exact zW_rh (some (.long g6)) 1 (fun f => rfl) H
    · have c9 : ¬ g2 ≤ (0 : Int32) := (of_decide_eq_false c)
      replace H := H.2 c9
      refine zW_gh 24 [some (.ref 3), some (.long a0), none, some (.int g1), some (.int g2)] [.long (-1 : Int64), .long (0 : Int64)] 2 (fun f => rfl) ?_
      refine zW_cl rfl rfl rfl rfl rfl (s76 ?_)
      change zW zm_7 27 [some (.ref 3), some (.long a0), none, some (.int g1), some (.int g2)] [.long (ze64 (0 : Int64) (-1 : Int64))] p _ Q
      generalize (ze64 (0 : Int64) (-1 : Int64)) = g7 at H ⊢
      exact zW_rh (some (.long g7)) 1 (fun f => rfl) H
theorem b8 {P : zPt} {T : Nat → zX} {Y : zYt} {I : zIt} {A : zAt} {w : Nat → Int64} {p : Nat × Nat} {Q : zR → zH → Prop} {a0 : Int64} (H : zT zm_3 [.ref 3, .long a0] p (zh (P, T, Y) I A w) (zK zm_8 5 [none, none, none] [] p Q)) : zT zm_8 [.ref 3, .long a0] p (zh (P, T, Y) I A w) Q := by
  change zW zm_8 0 [some (.ref 3), some (.long a0), none] [] p _ Q
  refine zW_gh 2 [some (.ref 3), some (.long a0), none] [.long a0, .ref 3] 2 (fun f => rfl) ?_
  refine zW_fg (L' := [none, none, none]) (zle_n _ (zle_n _ (zle_s _ zle_nil))) ?_
  exact zW_cl rfl rfl rfl rfl rfl H
theorem b8_5 {P : zPt} {T : Nat → zX} {Y : zYt} {I : zIt} {A : zAt} {w : Nat → Int64} {p : Nat × Nat} {Q : zR → zH → Prop} {rv : Int64} (H : Q (.inl (some (.long rv))) (zh (P, T, Y) I A w)) : zW zm_8 5 [none, none, none] [.long rv] p (zh (P, T, Y) I A w) Q := by
  exact zW_rh (some (.long rv)) 1 (fun f => rfl) H
theorem b61l {P : zPt} {T : Nat → zX} {Y : zYt} {I : zIt} {A : zAt} {w : Nat → Int64} {p : Nat × Nat} {Q : zR → zH → Prop} {j : Nat} {a0 : Int64} (H : zW zm_61 12 [some (.ref (4 * j)), none, none, some (.ref (4 * j + 1)), some (.int (zfi a0)), some (.int (-1 : Int32)), some (.int (Int32.ofNat 0))] [] p (zh (P, T, Y) I A w) Q) : zT zm_61 [.ref (4 * j), .long a0, .ref (4 * j + 1)] p (zh (P, T, Y) I A w) Q := by
  change zW zm_61 0 [some (.ref (4 * j)), some (.long a0), none, some (.ref (4 * j + 1)), none, none, none] [] p _ Q
  refine zW_gh 1 [some (.ref (4 * j)), some (.long a0), none, some (.ref (4 * j + 1)), none, none, none] [.long a0] 1 (fun f => rfl) ?_
  refine zW_cl rfl rfl rfl rfl rfl (s75 ?_)
  change zW zm_61 4 [some (.ref (4 * j)), some (.long a0), none, some (.ref (4 * j + 1)), none, none, none] [.int (zfi a0)] p _ Q
  generalize (zfi a0) = g1 at H ⊢
  refine zW_gh 12 [some (.ref (4 * j)), some (.long a0), none, some (.ref (4 * j + 1)), some (.int g1), some (.int (-1 : Int32)), some (.int (0 : Int32))] [] 5 (fun f => rfl) ?_
  refine zW_fg (L' := [some (.ref (4 * j)), none, none, some (.ref (4 * j + 1)), some (.int g1), some (.int (-1 : Int32)), some (.int (0 : Int32))]) (zle_s _ (zle_n _ (zle_s _ (zle_s _ (zle_s _ (zle_s _ (zle_s _ zle_nil))))))) ?_
  exact H
theorem b61l_12 {P : zPt} {T : Nat → zX} {Y : zYt} {I : zIt} {A : zAt} {w : Nat → Int64} {p : Nat × Nat} {Q : zR → zH → Prop} {x6 j : Nat} {x4 x5 : Int32} (h1_j : 1 ≤ j) (h4_j : j ≤ 4) (H : (x6 < 2147483648 ∧ ((8 ≤ x6 → Q (.inl (some (.int x5))) (zh (P, T, Y) I A w)) ∧ (x6 < 8 → ((Int32.ofNat (zpj j)) ≠ 0 ∧ (x6 < 8 ∧ ((Int32.ofNat (zpj j)) ≠ 0 ∧ ((((va_up (P j).1 x6 (x4 - x4 / (Int32.ofNat (zpj j)) * (Int32.ofNat (zpj j)))) x6) = (0 : Int32) → zW zm_61 12 [some (.ref (4 * j)), none, none, some (.ref (4 * j + 1)), some (.int (x4 / (Int32.ofNat (zpj j)))), some (.int x5), some (.int (Int32.ofNat (x6 + 1)))] [] p (zh ((va_up P j ((va_up (P j).1 x6 (x4 - x4 / (Int32.ofNat (zpj j)) * (Int32.ofNat (zpj j)))), (P j).2.1, (P j).2.2)), T, Y) I A w) Q) ∧ (¬ ((va_up (P j).1 x6 (x4 - x4 / (Int32.ofNat (zpj j)) * (Int32.ofNat (zpj j)))) x6) = (0 : Int32) → zW zm_61 12 [some (.ref (4 * j)), none, none, some (.ref (4 * j + 1)), some (.int (x4 / (Int32.ofNat (zpj j)))), some (.int (Int32.ofNat x6)), some (.int (Int32.ofNat (x6 + 1)))] [] p (zh ((va_up P j ((va_up (P j).1 x6 (x4 - x4 / (Int32.ofNat (zpj j)) * (Int32.ofNat (zpj j)))), (P j).2.1, (P j).2.2)), T, Y) I A w) Q))))))))) : zW zm_61 12 [some (.ref (4 * j)), none, none, some (.ref (4 * j + 1)), some (.int x4), some (.int x5), some (.int (Int32.ofNat x6))] [] p (zh (P, T, Y) I A w) Q := by
  obtain ⟨h1, H⟩ := H
  refine zW_bh (zcmp .ge (Int32.ofNat x6) (8 : Int32)) 56 19 [some (.ref (4 * j)), none, none, some (.ref (4 * j + 1)), some (.int x4), some (.int x5), some (.int (Int32.ofNat x6))] [] 3 (fun f => rfl) (fun c => ?_) (fun c => ?_)
  · have c9 : 8 ≤ x6 := (of_decide_eq_true ((zcN_ge (a := x6) (b := 8) rfl rfl h1 (by decide)).symm.trans c))
    replace H := H.1 c9
    refine zW_gh 58 [some (.ref (4 * j)), none, none, some (.ref (4 * j + 1)), some (.int x4), some (.int x5), some (.int (Int32.ofNat x6))] [.int x5] 1 (fun f => rfl) ?_
    exact zW_rh (some (.int x5)) 1 (fun f => rfl) H
  · have c9 : x6 < 8 := (Nat.lt_of_not_le (of_decide_eq_false ((zcN_ge (a := x6) (b := 8) rfl rfl h1 (by decide)).symm.trans c)))
    replace H := H.2 c9
    refine zW_gh 25 [some (.ref (4 * j)), none, none, some (.ref (4 * j + 1)), some (.int x4), some (.int x5), some (.int (Int32.ofNat x6))] [.ref (4 * j), .int x4, .int (Int32.ofNat x6), .ref (4 * j + 1)] 4 (fun f => rfl) ?_
    refine zW_gf rfl (by omega) (zh_P0 h1_j h4_j) rfl (v := .int (Int32.ofNat (zpj j))) rfl ?_
    obtain ⟨h2, H⟩ := H
    refine zW_irem rfl h2 ?_
    obtain ⟨h3, H⟩ := H
    refine zW_iast rfl (by omega) (zh_P (c := 1) h1_j h4_j (by decide)) (by decide) (zuF_P1 h1_j h4_j) rfl h3 ?_
    refine zW_gh 33 [some (.ref (4 * j)), none, none, some (.ref (4 * j + 1)), some (.int x4), some (.int x5), some (.int (Int32.ofNat x6))] [.ref (4 * j), .int x4] 2 (fun f => rfl) ?_
    refine zW_gf rfl (by omega) (zh_P0 h1_j h4_j) rfl (v := .int (Int32.ofNat (zpj j))) rfl ?_
    obtain ⟨h4, H⟩ := H
    refine zW_idiv rfl h4 ?_
    refine zW_gh 42 [some (.ref (4 * j)), none, none, some (.ref (4 * j + 1)), some (.int (x4 / (Int32.ofNat (zpj j)))), some (.int x5), some (.int (Int32.ofNat x6))] [.int (Int32.ofNat x6), .ref (4 * j + 1)] 3 (fun f => rfl) ?_
    refine zW_iald rfl (by omega) (zh_PU (c := 1) h1_j h4_j (by decide)) (by decide) rfl h3 ?_
    refine zW_bh (zcmp .eq ((va_up (P j).1 x6 (x4 - x4 / (Int32.ofNat (zpj j)) * (Int32.ofNat (zpj j)))) x6) (0 : Int32)) 50 46 [some (.ref (4 * j)), none, none, some (.ref (4 * j + 1)), some (.int (x4 / (Int32.ofNat (zpj j)))), some (.int x5), some (.int (Int32.ofNat x6))] [] 1 (fun f => rfl) (fun c => ?_) (fun c => ?_)
    · have c9 : ((va_up (P j).1 x6 (x4 - x4 / (Int32.ofNat (zpj j)) * (Int32.ofNat (zpj j)))) x6) = (0 : Int32) := (of_decide_eq_true c)
      replace H := H.1 c9
      refine zW_inc [some (.ref (4 * j)), none, none, some (.ref (4 * j + 1)), some (.int (x4 / (Int32.ofNat (zpj j)))), some (.int x5), some (.int ((Int32.ofNat x6) + (1 : Int32)))] rfl rfl rfl ?_
      rw [show ((Int32.ofNat x6) + (1 : Int32)) = Int32.ofNat (x6 + 1) from (zN_a rfl rfl)]
      refine zW_gh 12 [some (.ref (4 * j)), none, none, some (.ref (4 * j + 1)), some (.int (x4 / (Int32.ofNat (zpj j)))), some (.int x5), some (.int (Int32.ofNat (x6 + 1)))] [] 1 (fun f => rfl) ?_
      exact H
    · have c9 : ¬ ((va_up (P j).1 x6 (x4 - x4 / (Int32.ofNat (zpj j)) * (Int32.ofNat (zpj j)))) x6) = (0 : Int32) := (of_decide_eq_false c)
      replace H := H.2 c9
      refine zW_gh 50 [some (.ref (4 * j)), none, none, some (.ref (4 * j + 1)), some (.int (x4 / (Int32.ofNat (zpj j)))), some (.int (Int32.ofNat x6)), some (.int (Int32.ofNat x6))] [] 2 (fun f => rfl) ?_
      refine zW_inc [some (.ref (4 * j)), none, none, some (.ref (4 * j + 1)), some (.int (x4 / (Int32.ofNat (zpj j)))), some (.int (Int32.ofNat x6)), some (.int ((Int32.ofNat x6) + (1 : Int32)))] rfl rfl rfl ?_
      rw [show ((Int32.ofNat x6) + (1 : Int32)) = Int32.ofNat (x6 + 1) from (zN_a rfl rfl)]
      refine zW_gh 12 [some (.ref (4 * j)), none, none, some (.ref (4 * j + 1)), some (.int (x4 / (Int32.ofNat (zpj j)))), some (.int (Int32.ofNat x6)), some (.int (Int32.ofNat (x6 + 1)))] [] 1 (fun f => rfl) ?_
      exact H
theorem b61r {P : zPt} {T : Nat → zX} {Y : zYt} {I : zIt} {A : zAt} {w : Nat → Int64} {p : Nat × Nat} {Q : zR → zH → Prop} {j : Nat} {a0 : Int64} (H : zW zm_61 12 [some (.ref (4 * j)), none, none, some (.ref (4 * j + 2)), some (.int (zfi a0)), some (.int (-1 : Int32)), some (.int (Int32.ofNat 0))] [] p (zh (P, T, Y) I A w) Q) : zT zm_61 [.ref (4 * j), .long a0, .ref (4 * j + 2)] p (zh (P, T, Y) I A w) Q := by
  change zW zm_61 0 [some (.ref (4 * j)), some (.long a0), none, some (.ref (4 * j + 2)), none, none, none] [] p _ Q
  refine zW_gh 1 [some (.ref (4 * j)), some (.long a0), none, some (.ref (4 * j + 2)), none, none, none] [.long a0] 1 (fun f => rfl) ?_
  refine zW_cl rfl rfl rfl rfl rfl (s75 ?_)
  change zW zm_61 4 [some (.ref (4 * j)), some (.long a0), none, some (.ref (4 * j + 2)), none, none, none] [.int (zfi a0)] p _ Q
  generalize (zfi a0) = g1 at H ⊢
  refine zW_gh 12 [some (.ref (4 * j)), some (.long a0), none, some (.ref (4 * j + 2)), some (.int g1), some (.int (-1 : Int32)), some (.int (0 : Int32))] [] 5 (fun f => rfl) ?_
  refine zW_fg (L' := [some (.ref (4 * j)), none, none, some (.ref (4 * j + 2)), some (.int g1), some (.int (-1 : Int32)), some (.int (0 : Int32))]) (zle_s _ (zle_n _ (zle_s _ (zle_s _ (zle_s _ (zle_s _ (zle_s _ zle_nil))))))) ?_
  exact H
theorem b61r_12 {P : zPt} {T : Nat → zX} {Y : zYt} {I : zIt} {A : zAt} {w : Nat → Int64} {p : Nat × Nat} {Q : zR → zH → Prop} {x6 j : Nat} {x4 x5 : Int32} (h1_j : 1 ≤ j) (h4_j : j ≤ 4) (H : (x6 < 2147483648 ∧ ((8 ≤ x6 → Q (.inl (some (.int x5))) (zh (P, T, Y) I A w)) ∧ (x6 < 8 → ((Int32.ofNat (zpj j)) ≠ 0 ∧ (x6 < 8 ∧ ((Int32.ofNat (zpj j)) ≠ 0 ∧ ((((va_up (P j).2.1 x6 (x4 - x4 / (Int32.ofNat (zpj j)) * (Int32.ofNat (zpj j)))) x6) = (0 : Int32) → zW zm_61 12 [some (.ref (4 * j)), none, none, some (.ref (4 * j + 2)), some (.int (x4 / (Int32.ofNat (zpj j)))), some (.int x5), some (.int (Int32.ofNat (x6 + 1)))] [] p (zh ((va_up P j ((P j).1, (va_up (P j).2.1 x6 (x4 - x4 / (Int32.ofNat (zpj j)) * (Int32.ofNat (zpj j)))), (P j).2.2)), T, Y) I A w) Q) ∧ (¬ ((va_up (P j).2.1 x6 (x4 - x4 / (Int32.ofNat (zpj j)) * (Int32.ofNat (zpj j)))) x6) = (0 : Int32) → zW zm_61 12 [some (.ref (4 * j)), none, none, some (.ref (4 * j + 2)), some (.int (x4 / (Int32.ofNat (zpj j)))), some (.int (Int32.ofNat x6)), some (.int (Int32.ofNat (x6 + 1)))] [] p (zh ((va_up P j ((P j).1, (va_up (P j).2.1 x6 (x4 - x4 / (Int32.ofNat (zpj j)) * (Int32.ofNat (zpj j)))), (P j).2.2)), T, Y) I A w) Q))))))))) : zW zm_61 12 [some (.ref (4 * j)), none, none, some (.ref (4 * j + 2)), some (.int x4), some (.int x5), some (.int (Int32.ofNat x6))] [] p (zh (P, T, Y) I A w) Q := by
  obtain ⟨h1, H⟩ := H
  refine zW_bh (zcmp .ge (Int32.ofNat x6) (8 : Int32)) 56 19 [some (.ref (4 * j)), none, none, some (.ref (4 * j + 2)), some (.int x4), some (.int x5), some (.int (Int32.ofNat x6))] [] 3 (fun f => rfl) (fun c => ?_) (fun c => ?_)
  · have c9 : 8 ≤ x6 := (of_decide_eq_true ((zcN_ge (a := x6) (b := 8) rfl rfl h1 (by decide)).symm.trans c))
    replace H := H.1 c9
    refine zW_gh 58 [some (.ref (4 * j)), none, none, some (.ref (4 * j + 2)), some (.int x4), some (.int x5), some (.int (Int32.ofNat x6))] [.int x5] 1 (fun f => rfl) ?_
    exact zW_rh (some (.int x5)) 1 (fun f => rfl) H
  · have c9 : x6 < 8 := (Nat.lt_of_not_le (of_decide_eq_false ((zcN_ge (a := x6) (b := 8) rfl rfl h1 (by decide)).symm.trans c)))
    replace H := H.2 c9
    refine zW_gh 25 [some (.ref (4 * j)), none, none, some (.ref (4 * j + 2)), some (.int x4), some (.int x5), some (.int (Int32.ofNat x6))] [.ref (4 * j), .int x4, .int (Int32.ofNat x6), .ref (4 * j + 2)] 4 (fun f => rfl) ?_
    refine zW_gf rfl (by omega) (zh_P0 h1_j h4_j) rfl (v := .int (Int32.ofNat (zpj j))) rfl ?_
    obtain ⟨h2, H⟩ := H
    refine zW_irem rfl h2 ?_
    obtain ⟨h3, H⟩ := H
    refine zW_iast rfl (by omega) (zh_P (c := 2) h1_j h4_j (by decide)) (by decide) (zuF_P2 h1_j h4_j) rfl h3 ?_
    refine zW_gh 33 [some (.ref (4 * j)), none, none, some (.ref (4 * j + 2)), some (.int x4), some (.int x5), some (.int (Int32.ofNat x6))] [.ref (4 * j), .int x4] 2 (fun f => rfl) ?_
    refine zW_gf rfl (by omega) (zh_P0 h1_j h4_j) rfl (v := .int (Int32.ofNat (zpj j))) rfl ?_
    obtain ⟨h4, H⟩ := H
    refine zW_idiv rfl h4 ?_
    refine zW_gh 42 [some (.ref (4 * j)), none, none, some (.ref (4 * j + 2)), some (.int (x4 / (Int32.ofNat (zpj j)))), some (.int x5), some (.int (Int32.ofNat x6))] [.int (Int32.ofNat x6), .ref (4 * j + 2)] 3 (fun f => rfl) ?_
    refine zW_iald rfl (by omega) (zh_PU (c := 2) h1_j h4_j (by decide)) (by decide) rfl h3 ?_
    refine zW_bh (zcmp .eq ((va_up (P j).2.1 x6 (x4 - x4 / (Int32.ofNat (zpj j)) * (Int32.ofNat (zpj j)))) x6) (0 : Int32)) 50 46 [some (.ref (4 * j)), none, none, some (.ref (4 * j + 2)), some (.int (x4 / (Int32.ofNat (zpj j)))), some (.int x5), some (.int (Int32.ofNat x6))] [] 1 (fun f => rfl) (fun c => ?_) (fun c => ?_)
    · have c9 : ((va_up (P j).2.1 x6 (x4 - x4 / (Int32.ofNat (zpj j)) * (Int32.ofNat (zpj j)))) x6) = (0 : Int32) := (of_decide_eq_true c)
      replace H := H.1 c9
      refine zW_inc [some (.ref (4 * j)), none, none, some (.ref (4 * j + 2)), some (.int (x4 / (Int32.ofNat (zpj j)))), some (.int x5), some (.int ((Int32.ofNat x6) + (1 : Int32)))] rfl rfl rfl ?_
      rw [show ((Int32.ofNat x6) + (1 : Int32)) = Int32.ofNat (x6 + 1) from (zN_a rfl rfl)]
      refine zW_gh 12 [some (.ref (4 * j)), none, none, some (.ref (4 * j + 2)), some (.int (x4 / (Int32.ofNat (zpj j)))), some (.int x5), some (.int (Int32.ofNat (x6 + 1)))] [] 1 (fun f => rfl) ?_
      exact H
    · have c9 : ¬ ((va_up (P j).2.1 x6 (x4 - x4 / (Int32.ofNat (zpj j)) * (Int32.ofNat (zpj j)))) x6) = (0 : Int32) := (of_decide_eq_false c)
      replace H := H.2 c9
      refine zW_gh 50 [some (.ref (4 * j)), none, none, some (.ref (4 * j + 2)), some (.int (x4 / (Int32.ofNat (zpj j)))), some (.int (Int32.ofNat x6)), some (.int (Int32.ofNat x6))] [] 2 (fun f => rfl) ?_
      refine zW_inc [some (.ref (4 * j)), none, none, some (.ref (4 * j + 2)), some (.int (x4 / (Int32.ofNat (zpj j)))), some (.int (Int32.ofNat x6)), some (.int ((Int32.ofNat x6) + (1 : Int32)))] rfl rfl rfl ?_
      rw [show ((Int32.ofNat x6) + (1 : Int32)) = Int32.ofNat (x6 + 1) from (zN_a rfl rfl)]
      refine zW_gh 12 [some (.ref (4 * j)), none, none, some (.ref (4 * j + 2)), some (.int (x4 / (Int32.ofNat (zpj j)))), some (.int (Int32.ofNat x6)), some (.int (Int32.ofNat (x6 + 1)))] [] 1 (fun f => rfl) ?_
      exact H
theorem b61t {P : zPt} {T : Nat → zX} {Y : zYt} {I : zIt} {A : zAt} {w : Nat → Int64} {p : Nat × Nat} {Q : zR → zH → Prop} {j : Nat} {a0 : Int64} (H : zW zm_61 12 [some (.ref (4 * j)), none, none, some (.ref (4 * j + 3)), some (.int (zfi a0)), some (.int (-1 : Int32)), some (.int (Int32.ofNat 0))] [] p (zh (P, T, Y) I A w) Q) : zT zm_61 [.ref (4 * j), .long a0, .ref (4 * j + 3)] p (zh (P, T, Y) I A w) Q := by
  change zW zm_61 0 [some (.ref (4 * j)), some (.long a0), none, some (.ref (4 * j + 3)), none, none, none] [] p _ Q
  refine zW_gh 1 [some (.ref (4 * j)), some (.long a0), none, some (.ref (4 * j + 3)), none, none, none] [.long a0] 1 (fun f => rfl) ?_
  refine zW_cl rfl rfl rfl rfl rfl (s75 ?_)
  change zW zm_61 4 [some (.ref (4 * j)), some (.long a0), none, some (.ref (4 * j + 3)), none, none, none] [.int (zfi a0)] p _ Q
  generalize (zfi a0) = g1 at H ⊢
  refine zW_gh 12 [some (.ref (4 * j)), some (.long a0), none, some (.ref (4 * j + 3)), some (.int g1), some (.int (-1 : Int32)), some (.int (0 : Int32))] [] 5 (fun f => rfl) ?_
  refine zW_fg (L' := [some (.ref (4 * j)), none, none, some (.ref (4 * j + 3)), some (.int g1), some (.int (-1 : Int32)), some (.int (0 : Int32))]) (zle_s _ (zle_n _ (zle_s _ (zle_s _ (zle_s _ (zle_s _ (zle_s _ zle_nil))))))) ?_
  exact H
theorem b61t_12 {P : zPt} {T : Nat → zX} {Y : zYt} {I : zIt} {A : zAt} {w : Nat → Int64} {p : Nat × Nat} {Q : zR → zH → Prop} {x6 j : Nat} {x4 x5 : Int32} (h1_j : 1 ≤ j) (h4_j : j ≤ 4) (H : (x6 < 2147483648 ∧ ((8 ≤ x6 → Q (.inl (some (.int x5))) (zh (P, T, Y) I A w)) ∧ (x6 < 8 → ((Int32.ofNat (zpj j)) ≠ 0 ∧ (x6 < 8 ∧ ((Int32.ofNat (zpj j)) ≠ 0 ∧ ((((va_up (P j).2.2 x6 (x4 - x4 / (Int32.ofNat (zpj j)) * (Int32.ofNat (zpj j)))) x6) = (0 : Int32) → zW zm_61 12 [some (.ref (4 * j)), none, none, some (.ref (4 * j + 3)), some (.int (x4 / (Int32.ofNat (zpj j)))), some (.int x5), some (.int (Int32.ofNat (x6 + 1)))] [] p (zh ((va_up P j ((P j).1, (P j).2.1, (va_up (P j).2.2 x6 (x4 - x4 / (Int32.ofNat (zpj j)) * (Int32.ofNat (zpj j)))))), T, Y) I A w) Q) ∧ (¬ ((va_up (P j).2.2 x6 (x4 - x4 / (Int32.ofNat (zpj j)) * (Int32.ofNat (zpj j)))) x6) = (0 : Int32) → zW zm_61 12 [some (.ref (4 * j)), none, none, some (.ref (4 * j + 3)), some (.int (x4 / (Int32.ofNat (zpj j)))), some (.int (Int32.ofNat x6)), some (.int (Int32.ofNat (x6 + 1)))] [] p (zh ((va_up P j ((P j).1, (P j).2.1, (va_up (P j).2.2 x6 (x4 - x4 / (Int32.ofNat (zpj j)) * (Int32.ofNat (zpj j)))))), T, Y) I A w) Q))))))))) : zW zm_61 12 [some (.ref (4 * j)), none, none, some (.ref (4 * j + 3)), some (.int x4), some (.int x5), some (.int (Int32.ofNat x6))] [] p (zh (P, T, Y) I A w) Q := by
  obtain ⟨h1, H⟩ := H
  refine zW_bh (zcmp .ge (Int32.ofNat x6) (8 : Int32)) 56 19 [some (.ref (4 * j)), none, none, some (.ref (4 * j + 3)), some (.int x4), some (.int x5), some (.int (Int32.ofNat x6))] [] 3 (fun f => rfl) (fun c => ?_) (fun c => ?_)
  · have c9 : 8 ≤ x6 := (of_decide_eq_true ((zcN_ge (a := x6) (b := 8) rfl rfl h1 (by decide)).symm.trans c))
    replace H := H.1 c9
    refine zW_gh 58 [some (.ref (4 * j)), none, none, some (.ref (4 * j + 3)), some (.int x4), some (.int x5), some (.int (Int32.ofNat x6))] [.int x5] 1 (fun f => rfl) ?_
    exact zW_rh (some (.int x5)) 1 (fun f => rfl) H
  · have c9 : x6 < 8 := (Nat.lt_of_not_le (of_decide_eq_false ((zcN_ge (a := x6) (b := 8) rfl rfl h1 (by decide)).symm.trans c)))
    replace H := H.2 c9
    refine zW_gh 25 [some (.ref (4 * j)), none, none, some (.ref (4 * j + 3)), some (.int x4), some (.int x5), some (.int (Int32.ofNat x6))] [.ref (4 * j), .int x4, .int (Int32.ofNat x6), .ref (4 * j + 3)] 4 (fun f => rfl) ?_
    refine zW_gf rfl (by omega) (zh_P0 h1_j h4_j) rfl (v := .int (Int32.ofNat (zpj j))) rfl ?_
    obtain ⟨h2, H⟩ := H
    refine zW_irem rfl h2 ?_
    obtain ⟨h3, H⟩ := H
    refine zW_iast rfl (by omega) (zh_P (c := 3) h1_j h4_j (by decide)) (by decide) (zuF_P3 h1_j h4_j) rfl h3 ?_
    refine zW_gh 33 [some (.ref (4 * j)), none, none, some (.ref (4 * j + 3)), some (.int x4), some (.int x5), some (.int (Int32.ofNat x6))] [.ref (4 * j), .int x4] 2 (fun f => rfl) ?_
    refine zW_gf rfl (by omega) (zh_P0 h1_j h4_j) rfl (v := .int (Int32.ofNat (zpj j))) rfl ?_
    obtain ⟨h4, H⟩ := H
    refine zW_idiv rfl h4 ?_
    refine zW_gh 42 [some (.ref (4 * j)), none, none, some (.ref (4 * j + 3)), some (.int (x4 / (Int32.ofNat (zpj j)))), some (.int x5), some (.int (Int32.ofNat x6))] [.int (Int32.ofNat x6), .ref (4 * j + 3)] 3 (fun f => rfl) ?_
    refine zW_iald rfl (by omega) (zh_PU (c := 3) h1_j h4_j (by decide)) (by decide) rfl h3 ?_
    refine zW_bh (zcmp .eq ((va_up (P j).2.2 x6 (x4 - x4 / (Int32.ofNat (zpj j)) * (Int32.ofNat (zpj j)))) x6) (0 : Int32)) 50 46 [some (.ref (4 * j)), none, none, some (.ref (4 * j + 3)), some (.int (x4 / (Int32.ofNat (zpj j)))), some (.int x5), some (.int (Int32.ofNat x6))] [] 1 (fun f => rfl) (fun c => ?_) (fun c => ?_)
    · have c9 : ((va_up (P j).2.2 x6 (x4 - x4 / (Int32.ofNat (zpj j)) * (Int32.ofNat (zpj j)))) x6) = (0 : Int32) := (of_decide_eq_true c)
      replace H := H.1 c9
      refine zW_inc [some (.ref (4 * j)), none, none, some (.ref (4 * j + 3)), some (.int (x4 / (Int32.ofNat (zpj j)))), some (.int x5), some (.int ((Int32.ofNat x6) + (1 : Int32)))] rfl rfl rfl ?_
      rw [show ((Int32.ofNat x6) + (1 : Int32)) = Int32.ofNat (x6 + 1) from (zN_a rfl rfl)]
      refine zW_gh 12 [some (.ref (4 * j)), none, none, some (.ref (4 * j + 3)), some (.int (x4 / (Int32.ofNat (zpj j)))), some (.int x5), some (.int (Int32.ofNat (x6 + 1)))] [] 1 (fun f => rfl) ?_
      exact H
    · have c9 : ¬ ((va_up (P j).2.2 x6 (x4 - x4 / (Int32.ofNat (zpj j)) * (Int32.ofNat (zpj j)))) x6) = (0 : Int32) := (of_decide_eq_false c)
      replace H := H.2 c9
      refine zW_gh 50 [some (.ref (4 * j)), none, none, some (.ref (4 * j + 3)), some (.int (x4 / (Int32.ofNat (zpj j)))), some (.int (Int32.ofNat x6)), some (.int (Int32.ofNat x6))] [] 2 (fun f => rfl) ?_
      refine zW_inc [some (.ref (4 * j)), none, none, some (.ref (4 * j + 3)), some (.int (x4 / (Int32.ofNat (zpj j)))), some (.int (Int32.ofNat x6)), some (.int ((Int32.ofNat x6) + (1 : Int32)))] rfl rfl rfl ?_
      rw [show ((Int32.ofNat x6) + (1 : Int32)) = Int32.ofNat (x6 + 1) from (zN_a rfl rfl)]
      refine zW_gh 12 [some (.ref (4 * j)), none, none, some (.ref (4 * j + 3)), some (.int (x4 / (Int32.ofNat (zpj j)))), some (.int (Int32.ofNat x6)), some (.int (Int32.ofNat (x6 + 1)))] [] 1 (fun f => rfl) ?_
      exact H
theorem b62l {P : zPt} {T : Nat → zX} {Y : zYt} {I : zIt} {A : zAt} {w : Nat → Int64} {p : Nat × Nat} {Q : zR → zH → Prop} {j : Nat} (H : zW zm_62 6 [some (.ref (4 * j)), some (.ref (4 * j + 1)), some (.long (0 : Int64)), none, some (.int (7 : Int32))] [] p (zh (P, T, Y) I A w) Q) : zT zm_62 [.ref (4 * j), .ref (4 * j + 1)] p (zh (P, T, Y) I A w) Q := by
  change zW zm_62 0 [some (.ref (4 * j)), some (.ref (4 * j + 1)), none, none, none] [] p _ Q
  refine zW_gh 6 [some (.ref (4 * j)), some (.ref (4 * j + 1)), some (.long (0 : Int64)), none, some (.int (7 : Int32))] [] 4 (fun f => rfl) ?_
  exact H
theorem b62l_6 {P : zPt} {T : Nat → zX} {Y : zYt} {I : zIt} {A : zAt} {w : Nat → Int64} {p : Nat × Nat} {Q : zR → zH → Prop} {j : Nat} {x4 : Int32} {x2 : Int64} (h1_j : 1 ≤ j) (h4_j : j ≤ 4) (H : ((x4 < (0 : Int32) → Q (.inl (some (.long (ze64 x2 (0 : Int64))))) (zh (P, T, Y) I A w)) ∧ (¬ x4 < (0 : Int32) → ∀ k_x4, k_x4 < 2147483648 → x4 = Int32.ofNat k_x4 → (k_x4 < 8 ∧ ((Int32.ofNat (zpj j)) ≠ 0 ∧ zW zm_62 6 [some (.ref (4 * j)), some (.ref (4 * j + 1)), some (.long ((x2 * (((Int32.ofNat (zpj j))).toInt64)) + (((((P j).1 k_x4) - ((P j).1 k_x4) / (Int32.ofNat (zpj j)) * (Int32.ofNat (zpj j)))).toInt64))), none, some (.int ((Int32.ofNat k_x4) + Int32.ofInt (-1)))] [] p (zh (P, T, Y) I A w) Q))))) : zW zm_62 6 [some (.ref (4 * j)), some (.ref (4 * j + 1)), some (.long x2), none, some (.int x4)] [] p (zh (P, T, Y) I A w) Q := by
  refine zW_bh (zcmp .lt x4 (0 : Int32)) 36 11 [some (.ref (4 * j)), some (.ref (4 * j + 1)), some (.long x2), none, some (.int x4)] [] 2 (fun f => rfl) (fun c => ?_) (fun c => ?_)
  · have c9 : x4 < (0 : Int32) := (of_decide_eq_true c)
    replace H := H.1 c9
    refine zW_gh 38 [some (.ref (4 * j)), some (.ref (4 * j + 1)), some (.long x2), none, some (.int x4)] [.long (0 : Int64), .long x2] 2 (fun f => rfl) ?_
    refine zW_cl rfl rfl rfl rfl rfl (s76 ?_)
    change zW zm_62 41 [some (.ref (4 * j)), some (.ref (4 * j + 1)), some (.long x2), none, some (.int x4)] [.long (ze64 x2 (0 : Int64))] p _ Q
    generalize (ze64 x2 (0 : Int64)) = g1 at H ⊢
    exact zW_rh (some (.long g1)) 1 (fun f => rfl) H
  · have c9 : ¬ x4 < (0 : Int32) := (of_decide_eq_false c)
    replace H := H.2 c9
    obtain ⟨k_x4, h_k_x4, e_k_x4⟩ := zNn c9
    replace H := H k_x4 h_k_x4 e_k_x4
    subst e_k_x4
    refine zW_gh 13 [some (.ref (4 * j)), some (.ref (4 * j + 1)), some (.long x2), none, some (.int (Int32.ofNat k_x4))] [.ref (4 * j), .long x2] 2 (fun f => rfl) ?_
    refine zW_gf rfl (by omega) (zh_P0 h1_j h4_j) rfl (v := .int (Int32.ofNat (zpj j))) rfl ?_
    refine zW_gh 21 [some (.ref (4 * j)), some (.ref (4 * j + 1)), some (.long x2), none, some (.int (Int32.ofNat k_x4))] [.int (Int32.ofNat k_x4), .ref (4 * j + 1), .long (x2 * (((Int32.ofNat (zpj j))).toInt64))] 4 (fun f => rfl) ?_
    obtain ⟨h2, H⟩ := H
    refine zW_iald rfl (by omega) (zh_P (c := 1) h1_j h4_j (by decide)) (by decide) rfl h2 ?_
    refine zW_gh 23 [some (.ref (4 * j)), some (.ref (4 * j + 1)), some (.long x2), none, some (.int (Int32.ofNat k_x4))] [.ref (4 * j), .int ((P j).1 k_x4), .long (x2 * (((Int32.ofNat (zpj j))).toInt64))] 1 (fun f => rfl) ?_
    refine zW_gf rfl (by omega) (zh_P0 h1_j h4_j) rfl (v := .int (Int32.ofNat (zpj j))) rfl ?_
    obtain ⟨h3, H⟩ := H
    refine zW_irem rfl h3 ?_
    refine zW_gh 30 [some (.ref (4 * j)), some (.ref (4 * j + 1)), some (.long ((x2 * (((Int32.ofNat (zpj j))).toInt64)) + (((((P j).1 k_x4) - ((P j).1 k_x4) / (Int32.ofNat (zpj j)) * (Int32.ofNat (zpj j)))).toInt64))), none, some (.int (Int32.ofNat k_x4))] [] 3 (fun f => rfl) ?_
    refine zW_inc [some (.ref (4 * j)), some (.ref (4 * j + 1)), some (.long ((x2 * (((Int32.ofNat (zpj j))).toInt64)) + (((((P j).1 k_x4) - ((P j).1 k_x4) / (Int32.ofNat (zpj j)) * (Int32.ofNat (zpj j)))).toInt64))), none, some (.int ((Int32.ofNat k_x4) + Int32.ofInt (-1)))] rfl rfl rfl ?_
    refine zW_gh 6 [some (.ref (4 * j)), some (.ref (4 * j + 1)), some (.long ((x2 * (((Int32.ofNat (zpj j))).toInt64)) + (((((P j).1 k_x4) - ((P j).1 k_x4) / (Int32.ofNat (zpj j)) * (Int32.ofNat (zpj j)))).toInt64))), none, some (.int ((Int32.ofNat k_x4) + Int32.ofInt (-1)))] [] 1 (fun f => rfl) ?_
    exact H
theorem b62t {P : zPt} {T : Nat → zX} {Y : zYt} {I : zIt} {A : zAt} {w : Nat → Int64} {p : Nat × Nat} {Q : zR → zH → Prop} {j : Nat} (H : zW zm_62 6 [some (.ref (4 * j)), some (.ref (4 * j + 3)), some (.long (0 : Int64)), none, some (.int (7 : Int32))] [] p (zh (P, T, Y) I A w) Q) : zT zm_62 [.ref (4 * j), .ref (4 * j + 3)] p (zh (P, T, Y) I A w) Q := by
  change zW zm_62 0 [some (.ref (4 * j)), some (.ref (4 * j + 3)), none, none, none] [] p _ Q
  refine zW_gh 6 [some (.ref (4 * j)), some (.ref (4 * j + 3)), some (.long (0 : Int64)), none, some (.int (7 : Int32))] [] 4 (fun f => rfl) ?_
  exact H
theorem b62t_6 {P : zPt} {T : Nat → zX} {Y : zYt} {I : zIt} {A : zAt} {w : Nat → Int64} {p : Nat × Nat} {Q : zR → zH → Prop} {j : Nat} {x4 : Int32} {x2 : Int64} (h1_j : 1 ≤ j) (h4_j : j ≤ 4) (H : ((x4 < (0 : Int32) → Q (.inl (some (.long (ze64 x2 (0 : Int64))))) (zh (P, T, Y) I A w)) ∧ (¬ x4 < (0 : Int32) → ∀ k_x4, k_x4 < 2147483648 → x4 = Int32.ofNat k_x4 → (k_x4 < 8 ∧ ((Int32.ofNat (zpj j)) ≠ 0 ∧ zW zm_62 6 [some (.ref (4 * j)), some (.ref (4 * j + 3)), some (.long ((x2 * (((Int32.ofNat (zpj j))).toInt64)) + (((((P j).2.2 k_x4) - ((P j).2.2 k_x4) / (Int32.ofNat (zpj j)) * (Int32.ofNat (zpj j)))).toInt64))), none, some (.int ((Int32.ofNat k_x4) + Int32.ofInt (-1)))] [] p (zh (P, T, Y) I A w) Q))))) : zW zm_62 6 [some (.ref (4 * j)), some (.ref (4 * j + 3)), some (.long x2), none, some (.int x4)] [] p (zh (P, T, Y) I A w) Q := by
  refine zW_bh (zcmp .lt x4 (0 : Int32)) 36 11 [some (.ref (4 * j)), some (.ref (4 * j + 3)), some (.long x2), none, some (.int x4)] [] 2 (fun f => rfl) (fun c => ?_) (fun c => ?_)
  · have c9 : x4 < (0 : Int32) := (of_decide_eq_true c)
    replace H := H.1 c9
    refine zW_gh 38 [some (.ref (4 * j)), some (.ref (4 * j + 3)), some (.long x2), none, some (.int x4)] [.long (0 : Int64), .long x2] 2 (fun f => rfl) ?_
    refine zW_cl rfl rfl rfl rfl rfl (s76 ?_)
    change zW zm_62 41 [some (.ref (4 * j)), some (.ref (4 * j + 3)), some (.long x2), none, some (.int x4)] [.long (ze64 x2 (0 : Int64))] p _ Q
    generalize (ze64 x2 (0 : Int64)) = g1 at H ⊢
    exact zW_rh (some (.long g1)) 1 (fun f => rfl) H
  · have c9 : ¬ x4 < (0 : Int32) := (of_decide_eq_false c)
    replace H := H.2 c9
    obtain ⟨k_x4, h_k_x4, e_k_x4⟩ := zNn c9
    replace H := H k_x4 h_k_x4 e_k_x4
    subst e_k_x4
    refine zW_gh 13 [some (.ref (4 * j)), some (.ref (4 * j + 3)), some (.long x2), none, some (.int (Int32.ofNat k_x4))] [.ref (4 * j), .long x2] 2 (fun f => rfl) ?_
    refine zW_gf rfl (by omega) (zh_P0 h1_j h4_j) rfl (v := .int (Int32.ofNat (zpj j))) rfl ?_
    refine zW_gh 21 [some (.ref (4 * j)), some (.ref (4 * j + 3)), some (.long x2), none, some (.int (Int32.ofNat k_x4))] [.int (Int32.ofNat k_x4), .ref (4 * j + 3), .long (x2 * (((Int32.ofNat (zpj j))).toInt64))] 4 (fun f => rfl) ?_
    obtain ⟨h2, H⟩ := H
    refine zW_iald rfl (by omega) (zh_P (c := 3) h1_j h4_j (by decide)) (by decide) rfl h2 ?_
    refine zW_gh 23 [some (.ref (4 * j)), some (.ref (4 * j + 3)), some (.long x2), none, some (.int (Int32.ofNat k_x4))] [.ref (4 * j), .int ((P j).2.2 k_x4), .long (x2 * (((Int32.ofNat (zpj j))).toInt64))] 1 (fun f => rfl) ?_
    refine zW_gf rfl (by omega) (zh_P0 h1_j h4_j) rfl (v := .int (Int32.ofNat (zpj j))) rfl ?_
    obtain ⟨h3, H⟩ := H
    refine zW_irem rfl h3 ?_
    refine zW_gh 30 [some (.ref (4 * j)), some (.ref (4 * j + 3)), some (.long ((x2 * (((Int32.ofNat (zpj j))).toInt64)) + (((((P j).2.2 k_x4) - ((P j).2.2 k_x4) / (Int32.ofNat (zpj j)) * (Int32.ofNat (zpj j)))).toInt64))), none, some (.int (Int32.ofNat k_x4))] [] 3 (fun f => rfl) ?_
    refine zW_inc [some (.ref (4 * j)), some (.ref (4 * j + 3)), some (.long ((x2 * (((Int32.ofNat (zpj j))).toInt64)) + (((((P j).2.2 k_x4) - ((P j).2.2 k_x4) / (Int32.ofNat (zpj j)) * (Int32.ofNat (zpj j)))).toInt64))), none, some (.int ((Int32.ofNat k_x4) + Int32.ofInt (-1)))] rfl rfl rfl ?_
    refine zW_gh 6 [some (.ref (4 * j)), some (.ref (4 * j + 3)), some (.long ((x2 * (((Int32.ofNat (zpj j))).toInt64)) + (((((P j).2.2 k_x4) - ((P j).2.2 k_x4) / (Int32.ofNat (zpj j)) * (Int32.ofNat (zpj j)))).toInt64))), none, some (.int ((Int32.ofNat k_x4) + Int32.ofInt (-1)))] [] 1 (fun f => rfl) ?_
    exact H
theorem b284l {P : zPt} {T : Nat → zX} {Y : zYt} {I : zIt} {A : zAt} {w : Nat → Int64} {p : Nat × Nat} {Q : zR → zH → Prop} {j : Nat} {a1 : Int32} (h1_j : 1 ≤ j) (h4_j : j ≤ 4) (H : zW zm_284 5 [some (.ref (4 * j + 1)), some (.int a1), some (.int (Int32.ofNat 0)), some (.int (Int32.ofNat 8))] [] p (zh (P, T, Y) I A w) Q) : zT zm_284 [.ref (4 * j + 1), .int a1] p (zh (P, T, Y) I A w) Q := by
  change zW zm_284 0 [some (.ref (4 * j + 1)), some (.int a1), none, none] [] p _ Q
  refine zW_gh 3 [some (.ref (4 * j + 1)), some (.int a1), some (.int (0 : Int32)), none] [.ref (4 * j + 1)] 3 (fun f => rfl) ?_
  refine zW_al rfl (by omega) (zh_P (c := 1) h1_j h4_j (by decide)) rfl ?_
  refine zW_gh 5 [some (.ref (4 * j + 1)), some (.int a1), some (.int (0 : Int32)), some (.int (Int32.ofNat 8))] [] 1 (fun f => rfl) ?_
  exact H
theorem b284l_5 {P : zPt} {T : Nat → zX} {Y : zYt} {I : zIt} {A : zAt} {w : Nat → Int64} {p : Nat × Nat} {Q : zR → zH → Prop} {x2 x3 j : Nat} {x1 : Int32} (h1_j : 1 ≤ j) (h4_j : j ≤ 4) (H : (x2 < 2147483648 ∧ (x3 < 2147483648 ∧ ((x3 ≤ x2 → Q (.inl none) (zh (P, T, Y) I A w)) ∧ (x2 < x3 → (x2 < 8 ∧ zW zm_284 5 [some (.ref (4 * j + 1)), some (.int x1), some (.int (Int32.ofNat (x2 + 1))), some (.int (Int32.ofNat x3))] [] p (zh ((va_up P j ((va_up (P j).1 x2 x1), (P j).2.1, (P j).2.2)), T, Y) I A w) Q)))))) : zW zm_284 5 [some (.ref (4 * j + 1)), some (.int x1), some (.int (Int32.ofNat x2)), some (.int (Int32.ofNat x3))] [] p (zh (P, T, Y) I A w) Q := by
  obtain ⟨h1, H⟩ := H
  obtain ⟨h2, H⟩ := H
  refine zW_bh (zcmp .ge (Int32.ofNat x2) (Int32.ofNat x3)) 20 10 [some (.ref (4 * j + 1)), some (.int x1), some (.int (Int32.ofNat x2)), some (.int (Int32.ofNat x3))] [] 3 (fun f => rfl) (fun c => ?_) (fun c => ?_)
  · have c9 : x3 ≤ x2 := (of_decide_eq_true ((zcN_ge (a := x2) (b := x3) rfl rfl h1 h2).symm.trans c))
    replace H := H.1 c9
    exact zW_rh none 1 (fun f => rfl) H
  · have c9 : x2 < x3 := (Nat.lt_of_not_le (of_decide_eq_false ((zcN_ge (a := x2) (b := x3) rfl rfl h1 h2).symm.trans c)))
    replace H := H.2 c9
    refine zW_gh 13 [some (.ref (4 * j + 1)), some (.int x1), some (.int (Int32.ofNat x2)), some (.int (Int32.ofNat x3))] [.int x1, .int (Int32.ofNat x2), .ref (4 * j + 1)] 3 (fun f => rfl) ?_
    obtain ⟨h3, H⟩ := H
    refine zW_iast rfl (by omega) (zh_P (c := 1) h1_j h4_j (by decide)) (by decide) (zuF_P1 h1_j h4_j) rfl h3 ?_
    refine zW_inc [some (.ref (4 * j + 1)), some (.int x1), some (.int ((Int32.ofNat x2) + (1 : Int32))), some (.int (Int32.ofNat x3))] rfl rfl rfl ?_
    rw [show ((Int32.ofNat x2) + (1 : Int32)) = Int32.ofNat (x2 + 1) from (zN_a rfl rfl)]
    refine zW_gh 5 [some (.ref (4 * j + 1)), some (.int x1), some (.int (Int32.ofNat (x2 + 1))), some (.int (Int32.ofNat x3))] [] 1 (fun f => rfl) ?_
    exact H
theorem b284t {P : zPt} {T : Nat → zX} {Y : zYt} {I : zIt} {A : zAt} {w : Nat → Int64} {p : Nat × Nat} {Q : zR → zH → Prop} {j : Nat} {a1 : Int32} (h1_j : 1 ≤ j) (h4_j : j ≤ 4) (H : zW zm_284 5 [some (.ref (4 * j + 3)), some (.int a1), some (.int (Int32.ofNat 0)), some (.int (Int32.ofNat 8))] [] p (zh (P, T, Y) I A w) Q) : zT zm_284 [.ref (4 * j + 3), .int a1] p (zh (P, T, Y) I A w) Q := by
  change zW zm_284 0 [some (.ref (4 * j + 3)), some (.int a1), none, none] [] p _ Q
  refine zW_gh 3 [some (.ref (4 * j + 3)), some (.int a1), some (.int (0 : Int32)), none] [.ref (4 * j + 3)] 3 (fun f => rfl) ?_
  refine zW_al rfl (by omega) (zh_P (c := 3) h1_j h4_j (by decide)) rfl ?_
  refine zW_gh 5 [some (.ref (4 * j + 3)), some (.int a1), some (.int (0 : Int32)), some (.int (Int32.ofNat 8))] [] 1 (fun f => rfl) ?_
  exact H
theorem b284t_5 {P : zPt} {T : Nat → zX} {Y : zYt} {I : zIt} {A : zAt} {w : Nat → Int64} {p : Nat × Nat} {Q : zR → zH → Prop} {x2 x3 j : Nat} {x1 : Int32} (h1_j : 1 ≤ j) (h4_j : j ≤ 4) (H : (x2 < 2147483648 ∧ (x3 < 2147483648 ∧ ((x3 ≤ x2 → Q (.inl none) (zh (P, T, Y) I A w)) ∧ (x2 < x3 → (x2 < 8 ∧ zW zm_284 5 [some (.ref (4 * j + 3)), some (.int x1), some (.int (Int32.ofNat (x2 + 1))), some (.int (Int32.ofNat x3))] [] p (zh ((va_up P j ((P j).1, (P j).2.1, (va_up (P j).2.2 x2 x1))), T, Y) I A w) Q)))))) : zW zm_284 5 [some (.ref (4 * j + 3)), some (.int x1), some (.int (Int32.ofNat x2)), some (.int (Int32.ofNat x3))] [] p (zh (P, T, Y) I A w) Q := by
  obtain ⟨h1, H⟩ := H
  obtain ⟨h2, H⟩ := H
  refine zW_bh (zcmp .ge (Int32.ofNat x2) (Int32.ofNat x3)) 20 10 [some (.ref (4 * j + 3)), some (.int x1), some (.int (Int32.ofNat x2)), some (.int (Int32.ofNat x3))] [] 3 (fun f => rfl) (fun c => ?_) (fun c => ?_)
  · have c9 : x3 ≤ x2 := (of_decide_eq_true ((zcN_ge (a := x2) (b := x3) rfl rfl h1 h2).symm.trans c))
    replace H := H.1 c9
    exact zW_rh none 1 (fun f => rfl) H
  · have c9 : x2 < x3 := (Nat.lt_of_not_le (of_decide_eq_false ((zcN_ge (a := x2) (b := x3) rfl rfl h1 h2).symm.trans c)))
    replace H := H.2 c9
    refine zW_gh 13 [some (.ref (4 * j + 3)), some (.int x1), some (.int (Int32.ofNat x2)), some (.int (Int32.ofNat x3))] [.int x1, .int (Int32.ofNat x2), .ref (4 * j + 3)] 3 (fun f => rfl) ?_
    obtain ⟨h3, H⟩ := H
    refine zW_iast rfl (by omega) (zh_P (c := 3) h1_j h4_j (by decide)) (by decide) (zuF_P3 h1_j h4_j) rfl h3 ?_
    refine zW_inc [some (.ref (4 * j + 3)), some (.int x1), some (.int ((Int32.ofNat x2) + (1 : Int32))), some (.int (Int32.ofNat x3))] rfl rfl rfl ?_
    rw [show ((Int32.ofNat x2) + (1 : Int32)) = Int32.ofNat (x2 + 1) from (zN_a rfl rfl)]
    refine zW_gh 5 [some (.ref (4 * j + 3)), some (.int x1), some (.int (Int32.ofNat (x2 + 1))), some (.int (Int32.ofNat x3))] [] 1 (fun f => rfl) ?_
    exact H
theorem b283 {P : zPt} {T : Nat → zX} {Y : zYt} {I : zIt} {A : zAt} {w : Nat → Int64} {p : Nat × Nat} {Q : zR → zH → Prop} {i : Nat} {a1 : Int64} (hi_i : i < 6) (H : zW zm_283 6 [some (.ref (21 + 8 * i + 1)), some (.long a1), none, some (.int (Int32.ofNat 0)), some (.int (Int32.ofNat 16))] [] p (zh (P, T, Y) I A w) Q) : zT zm_283 [.ref (21 + 8 * i + 1), .long a1] p (zh (P, T, Y) I A w) Q := by
  change zW zm_283 0 [some (.ref (21 + 8 * i + 1)), some (.long a1), none, none, none] [] p _ Q
  refine zW_gh 3 [some (.ref (21 + 8 * i + 1)), some (.long a1), none, some (.int (0 : Int32)), none] [.ref (21 + 8 * i + 1)] 3 (fun f => rfl) ?_
  refine zW_al rfl (by have := hi_i; omega) (zh_T (c := 1) hi_i (by decide)) rfl ?_
  refine zW_gh 6 [some (.ref (21 + 8 * i + 1)), some (.long a1), none, some (.int (0 : Int32)), some (.int (Int32.ofNat 16))] [] 1 (fun f => rfl) ?_
  exact H
theorem b283_6 {P : zPt} {T : Nat → zX} {Y : zYt} {I : zIt} {A : zAt} {w : Nat → Int64} {p : Nat × Nat} {Q : zR → zH → Prop} {x3 x4 i : Nat} {x1 : Int64} (hi_i : i < 6) (H : (x3 < 2147483648 ∧ (x4 < 2147483648 ∧ ((x4 ≤ x3 → Q (.inl none) (zh (P, T, Y) I A w)) ∧ (x3 < x4 → (x3 < 16 ∧ zW zm_283 6 [some (.ref (21 + 8 * i + 1)), some (.long x1), none, some (.int (Int32.ofNat (x3 + 1))), some (.int (Int32.ofNat x4))] [] p (zh (P, (va_up T i ((T i).1, (T i).2.1, (T i).2.2.1, (T i).2.2.2.1, (va_up (T i).2.2.2.2.1 x3 x1), (T i).2.2.2.2.2.1, (T i).2.2.2.2.2.2.1, (T i).2.2.2.2.2.2.2.1, (T i).2.2.2.2.2.2.2.2.1, (T i).2.2.2.2.2.2.2.2.2.1, (T i).2.2.2.2.2.2.2.2.2.2)), Y) I A w) Q)))))) : zW zm_283 6 [some (.ref (21 + 8 * i + 1)), some (.long x1), none, some (.int (Int32.ofNat x3)), some (.int (Int32.ofNat x4))] [] p (zh (P, T, Y) I A w) Q := by
  obtain ⟨h1, H⟩ := H
  obtain ⟨h2, H⟩ := H
  refine zW_bh (zcmp .ge (Int32.ofNat x3) (Int32.ofNat x4)) 22 12 [some (.ref (21 + 8 * i + 1)), some (.long x1), none, some (.int (Int32.ofNat x3)), some (.int (Int32.ofNat x4))] [] 3 (fun f => rfl) (fun c => ?_) (fun c => ?_)
  · have c9 : x4 ≤ x3 := (of_decide_eq_true ((zcN_ge (a := x3) (b := x4) rfl rfl h1 h2).symm.trans c))
    replace H := H.1 c9
    exact zW_rh none 1 (fun f => rfl) H
  · have c9 : x3 < x4 := (Nat.lt_of_not_le (of_decide_eq_false ((zcN_ge (a := x3) (b := x4) rfl rfl h1 h2).symm.trans c)))
    replace H := H.2 c9
    refine zW_gh 15 [some (.ref (21 + 8 * i + 1)), some (.long x1), none, some (.int (Int32.ofNat x3)), some (.int (Int32.ofNat x4))] [.long x1, .int (Int32.ofNat x3), .ref (21 + 8 * i + 1)] 3 (fun f => rfl) ?_
    obtain ⟨h3, H⟩ := H
    refine zW_last rfl (by have := hi_i; omega) (zh_T (c := 1) hi_i (by decide)) (by decide) (zuF_M1 hi_i) rfl h3 ?_
    refine zW_inc [some (.ref (21 + 8 * i + 1)), some (.long x1), none, some (.int ((Int32.ofNat x3) + (1 : Int32))), some (.int (Int32.ofNat x4))] rfl rfl rfl ?_
    rw [show ((Int32.ofNat x3) + (1 : Int32)) = Int32.ofNat (x3 + 1) from (zN_a rfl rfl)]
    refine zW_gh 6 [some (.ref (21 + 8 * i + 1)), some (.long x1), none, some (.int (Int32.ofNat (x3 + 1))), some (.int (Int32.ofNat x4))] [] 1 (fun f => rfl) ?_
    exact H
theorem b59 {P : zPt} {T : Nat → zX} {Y : zYt} {I : zIt} {A : zAt} {w : Nat → Int64} {p : Nat × Nat} {Q : zR → zH → Prop} {j : Nat} {a0 a1 : Int64} (h1_j : 1 ≤ j) (h4_j : j ≤ 4) (H : ((a0 < (0 : Int64) → Q (.inl (some (.int (0 : Int32)))) (zh (P, T, Y) I A w)) ∧ (¬ a0 < (0 : Int64) → (((((Int32.ofNat (zpb j))).toInt64) ≤ a0 → Q (.inl (some (.int (0 : Int32)))) (zh (P, T, Y) I A w)) ∧ (¬ (((Int32.ofNat (zpb j))).toInt64) ≤ a0 → ((¬ a1 = (0 : Int64) → Q (.inl (some (.int (0 : Int32)))) (zh (P, T, Y) I A w)) ∧ (a1 = (0 : Int64) → Q (.inl (some (.int (1 : Int32)))) (zh (P, T, Y) I A w)))))))) : zT zm_59 [.ref (4 * j), .long a0, .long a1] p (zh (P, T, Y) I A w) Q := by
  change zW zm_59 0 [some (.ref (4 * j)), some (.long a0), none, some (.long a1), none] [] p _ Q
  refine zW_bh (zcmp .lt (lg_cmp a0 (0 : Int64)) (0 : Int32)) 26 6 [some (.ref (4 * j)), some (.long a0), none, some (.long a1), none] [] 4 (fun f => rfl) (fun c => ?_) (fun c => ?_)
  · have c9 : a0 < (0 : Int64) := (of_decide_eq_true ((zcL_lt _ _).symm.trans c))
    replace H := H.1 c9
    refine zW_gh 27 [some (.ref (4 * j)), some (.long a0), none, some (.long a1), none] [.int (0 : Int32)] 1 (fun f => rfl) ?_
    exact zW_rh (some (.int (0 : Int32))) 1 (fun f => rfl) H
  · have c9 : ¬ a0 < (0 : Int64) := (of_decide_eq_false ((zcL_lt _ _).symm.trans c))
    replace H := H.2 c9
    refine zW_gh 8 [some (.ref (4 * j)), some (.long a0), none, some (.long a1), none] [.ref (4 * j), .long a0] 2 (fun f => rfl) ?_
    refine zW_gf rfl (by omega) (zh_P0 h1_j h4_j) rfl (v := .int (Int32.ofNat (zpb j))) rfl ?_
    refine zW_bh (zcmp .ge (lg_cmp a0 (((Int32.ofNat (zpb j))).toInt64)) (0 : Int32)) 26 16 [some (.ref (4 * j)), some (.long a0), none, some (.long a1), none] [] 3 (fun f => rfl) (fun c => ?_) (fun c => ?_)
    · have c9 : (((Int32.ofNat (zpb j))).toInt64) ≤ a0 := (of_decide_eq_true ((zcL_ge _ _).symm.trans c))
      replace H := H.1 c9
      refine zW_gh 27 [some (.ref (4 * j)), some (.long a0), none, some (.long a1), none] [.int (0 : Int32)] 1 (fun f => rfl) ?_
      exact zW_rh (some (.int (0 : Int32))) 1 (fun f => rfl) H
    · have c9 : ¬ (((Int32.ofNat (zpb j))).toInt64) ≤ a0 := (of_decide_eq_false ((zcL_ge _ _).symm.trans c))
      replace H := H.2 c9
      refine zW_bh (zcmp .ne (lg_cmp a1 (0 : Int64)) (0 : Int32)) 26 22 [some (.ref (4 * j)), some (.long a0), none, some (.long a1), none] [] 4 (fun f => rfl) (fun c => ?_) (fun c => ?_)
      · have c9 : ¬ a1 = (0 : Int64) := (by rw [zcL_ne] at c; simpa using c)
        replace H := H.1 c9
        refine zW_gh 27 [some (.ref (4 * j)), some (.long a0), none, some (.long a1), none] [.int (0 : Int32)] 1 (fun f => rfl) ?_
        exact zW_rh (some (.int (0 : Int32))) 1 (fun f => rfl) H
      · have c9 : a1 = (0 : Int64) := (by rw [zcL_ne] at c; simpa using c)
        replace H := H.2 c9
        refine zW_gh 27 [some (.ref (4 * j)), some (.long a0), none, some (.long a1), none] [.int (1 : Int32)] 2 (fun f => rfl) ?_
        exact zW_rh (some (.int (1 : Int32))) 1 (fun f => rfl) H
theorem b66 {P : zPt} {T : Nat → zX} {Y : zYt} {I : zIt} {A : zAt} {w : Nat → Int64} {p : Nat × Nat} {Q : zR → zH → Prop} {a0 j : Nat} (H : zW zm_66 2 [some (.ref (4 * j)), some (.int (Int32.ofNat a0)), some (.int (Int32.ofNat 1))] [] p (zh (P, T, Y) I A w) Q) : zT zm_66 [.ref (4 * j), .int (Int32.ofNat a0)] p (zh (P, T, Y) I A w) Q := by
  change zW zm_66 0 [some (.ref (4 * j)), some (.int (Int32.ofNat a0)), none] [] p _ Q
  refine zW_gh 2 [some (.ref (4 * j)), some (.int (Int32.ofNat a0)), some (.int (1 : Int32))] [] 2 (fun f => rfl) ?_
  exact H
theorem b66_2 {P : zPt} {T : Nat → zX} {Y : zYt} {I : zIt} {A : zAt} {w : Nat → Int64} {p : Nat × Nat} {Q : zR → zH → Prop} {x1 x2 j : Nat} (h1_j : 1 ≤ j) (h4_j : j ≤ 4) (H : (x2 < 2147483648 ∧ ((zpj j) < 2147483648 ∧ (((zpj j) ≤ x2 → Q (.inl (some (.int (1 : Int32)))) (zh (P, T, Y) I A w)) ∧ (x2 < (zpj j) → (0 < (zpj j) ∧ ((x2 * x1) < 2147483648 ∧ (((x2 * x1) % (zpj j)) < 2147483648 ∧ ((¬ ((x2 * x1) % (zpj j)) = 1 → zW zm_66 2 [some (.ref (4 * j)), some (.int (Int32.ofNat x1)), some (.int (Int32.ofNat (x2 + 1)))] [] p (zh (P, T, Y) I A w) Q) ∧ (((x2 * x1) % (zpj j)) = 1 → Q (.inl (some (.int (Int32.ofNat x2)))) (zh (P, T, Y) I A w))))))))))) : zW zm_66 2 [some (.ref (4 * j)), some (.int (Int32.ofNat x1)), some (.int (Int32.ofNat x2))] [] p (zh (P, T, Y) I A w) Q := by
  refine zW_gh 4 [some (.ref (4 * j)), some (.int (Int32.ofNat x1)), some (.int (Int32.ofNat x2))] [.ref (4 * j), .int (Int32.ofNat x2)] 2 (fun f => rfl) ?_
  refine zW_gf rfl (by omega) (zh_P0 h1_j h4_j) rfl (v := .int (Int32.ofNat (zpj j))) rfl ?_
  obtain ⟨h1, H⟩ := H
  obtain ⟨h2, H⟩ := H
  refine zW_bh (zcmp .ge (Int32.ofNat x2) (Int32.ofNat (zpj j))) 30 10 [some (.ref (4 * j)), some (.int (Int32.ofNat x1)), some (.int (Int32.ofNat x2))] [] 1 (fun f => rfl) (fun c => ?_) (fun c => ?_)
  · have c9 : (zpj j) ≤ x2 := (of_decide_eq_true ((zcN_ge (a := x2) (b := (zpj j)) rfl rfl h1 h2).symm.trans c))
    replace H := H.1 c9
    refine zW_gh 31 [some (.ref (4 * j)), some (.int (Int32.ofNat x1)), some (.int (Int32.ofNat x2))] [.int (1 : Int32)] 1 (fun f => rfl) ?_
    exact zW_rh (some (.int (1 : Int32))) 1 (fun f => rfl) H
  · have c9 : x2 < (zpj j) := (Nat.lt_of_not_le (of_decide_eq_false ((zcN_ge (a := x2) (b := (zpj j)) rfl rfl h1 h2).symm.trans c)))
    replace H := H.2 c9
    refine zW_gh 14 [some (.ref (4 * j)), some (.int (Int32.ofNat x1)), some (.int (Int32.ofNat x2))] [.ref (4 * j), .int ((Int32.ofNat x2) * (Int32.ofNat x1))] 4 (fun f => rfl) ?_
    refine zW_gf rfl (by omega) (zh_P0 h1_j h4_j) rfl (v := .int (Int32.ofNat (zpj j))) rfl ?_
    obtain ⟨h3, H⟩ := H
    obtain ⟨h4, H⟩ := H
    refine zW_irem rfl (zN_nz rfl h3 h2) ?_
    rw [show (((Int32.ofNat x2) * (Int32.ofNat x1)) - ((Int32.ofNat x2) * (Int32.ofNat x1)) / (Int32.ofNat (zpj j)) * (Int32.ofNat (zpj j))) = Int32.ofNat ((x2 * x1) % (zpj j)) from (zN_r (zN_m rfl rfl) rfl h4 h2)]
    obtain ⟨h5, H⟩ := H
    refine zW_bh (zcmp .ne (Int32.ofNat ((x2 * x1) % (zpj j))) (1 : Int32)) 24 22 [some (.ref (4 * j)), some (.int (Int32.ofNat x1)), some (.int (Int32.ofNat x2))] [] 2 (fun f => rfl) (fun c => ?_) (fun c => ?_)
    · have c9 : ¬ ((x2 * x1) % (zpj j)) = 1 := (by have c := (zcN_ne (a := ((x2 * x1) % (zpj j))) (b := 1) rfl rfl h5 (by decide)).symm.trans c; simpa using c)
      replace H := H.1 c9
      refine zW_inc [some (.ref (4 * j)), some (.int (Int32.ofNat x1)), some (.int ((Int32.ofNat x2) + (1 : Int32)))] rfl rfl rfl ?_
      rw [show ((Int32.ofNat x2) + (1 : Int32)) = Int32.ofNat (x2 + 1) from (zN_a rfl rfl)]
      refine zW_gh 2 [some (.ref (4 * j)), some (.int (Int32.ofNat x1)), some (.int (Int32.ofNat (x2 + 1)))] [] 1 (fun f => rfl) ?_
      exact H
    · have c9 : ((x2 * x1) % (zpj j)) = 1 := (by have c := (zcN_ne (a := ((x2 * x1) % (zpj j))) (b := 1) rfl rfl h5 (by decide)).symm.trans c; simpa using c)
      replace H := H.2 c9
      refine zW_gh 23 [some (.ref (4 * j)), some (.int (Int32.ofNat x1)), some (.int (Int32.ofNat x2))] [.int (Int32.ofNat x2)] 1 (fun f => rfl) ?_
      exact zW_rh (some (.int (Int32.ofNat x2))) 1 (fun f => rfl) H
theorem b60 {P : zPt} {T : Nat → zX} {Y : zYt} {I : zIt} {A : zAt} {w : Nat → Int64} {p : Nat × Nat} {Q : zR → zH → Prop} {j : Nat} {a0 a1 a2 : Int64} (h1_j : 1 ≤ j) (h4_j : j ≤ 4) (H : ((a1 = (0 : Int64) → Q (.inl (some (.long a0))) (zh (P, T, Y) I A w)) ∧ (¬ a1 = (0 : Int64) → ((¬ a2 = (0 : Int64) → zT zm_61 [.ref (4 * j), .long a1, .ref (4 * j + 1)] p (zh (P, T, Y) I A w) (zK zm_60 24 [some (.ref (4 * j)), some (.long a0), none, none, none, some (.long a2), none, none, none, none] [] p Q)) ∧ (a2 = (0 : Int64) → Q (.inl (some (.long a0))) (zh (P, T, Y) I A w)))))) : zT zm_60 [.ref (4 * j), .long a0, .long a1, .long a2] p (zh (P, T, Y) I A w) Q := by
  change zW zm_60 0 [some (.ref (4 * j)), some (.long a0), none, some (.long a1), none, some (.long a2), none, none, none, none] [] p _ Q
  refine zW_bh (zcmp .eq (lg_cmp a1 (0 : Int64)) (0 : Int32)) 13 6 [some (.ref (4 * j)), some (.long a0), none, some (.long a1), none, some (.long a2), none, none, none, none] [] 4 (fun f => rfl) (fun c => ?_) (fun c => ?_)
  · have c9 : a1 = (0 : Int64) := (of_decide_eq_true ((zcL_eq _ _).symm.trans c))
    replace H := H.1 c9
    refine zW_gh 14 [some (.ref (4 * j)), some (.long a0), none, some (.long a1), none, some (.long a2), none, none, none, none] [.long a0] 1 (fun f => rfl) ?_
    exact zW_rh (some (.long a0)) 1 (fun f => rfl) H
  · have c9 : ¬ a1 = (0 : Int64) := (of_decide_eq_false ((zcL_eq _ _).symm.trans c))
    replace H := H.2 c9
    refine zW_bh (zcmp .ne (lg_cmp a2 (0 : Int64)) (0 : Int32)) 15 13 [some (.ref (4 * j)), some (.long a0), none, some (.long a1), none, some (.long a2), none, none, none, none] [] 4 (fun f => rfl) (fun c => ?_) (fun c => ?_)
    · have c9 : ¬ a2 = (0 : Int64) := (by rw [zcL_ne] at c; simpa using c)
      replace H := H.1 c9
      refine zW_gh 18 [some (.ref (4 * j)), some (.long a0), none, some (.long a1), none, some (.long a2), none, none, none, none] [.ref (4 * j), .long a1, .ref (4 * j)] 3 (fun f => rfl) ?_
      refine zW_gf rfl (by omega) (zh_P0 h1_j h4_j) rfl (v := .ref (4 * j + 1)) rfl ?_
      refine zW_fg (L' := [some (.ref (4 * j)), some (.long a0), none, none, none, some (.long a2), none, none, none, none]) (zle_s _ (zle_s _ (zle_s _ (zle_n _ (zle_s _ (zle_s _ (zle_s _ (zle_s _ (zle_s _ (zle_s _ zle_nil)))))))))) ?_
      exact zW_cv rfl rfl rfl (by omega) (zh_P0 h1_j h4_j) rfl rfl rfl rfl H
    · have c9 : a2 = (0 : Int64) := (by rw [zcL_ne] at c; simpa using c)
      replace H := H.2 c9
      refine zW_gh 14 [some (.ref (4 * j)), some (.long a0), none, some (.long a1), none, some (.long a2), none, none, none, none] [.long a0] 1 (fun f => rfl) ?_
      exact zW_rh (some (.long a0)) 1 (fun f => rfl) H
theorem b60_24 {P : zPt} {T : Nat → zX} {Y : zYt} {I : zIt} {A : zAt} {w : Nat → Int64} {p : Nat × Nat} {Q : zR → zH → Prop} {j : Nat} {rv : Int32} {x1 x5 : Int64} (h1_j : 1 ≤ j) (h4_j : j ≤ 4) (H : zT zm_61 [.ref (4 * j), .long x5, .ref (4 * j + 2)] p (zh (P, T, Y) I A w) (zK zm_60 34 [some (.ref (4 * j)), some (.long x1), none, none, none, none, none, none, none, none] [.int rv] p Q)) : zW zm_60 24 [some (.ref (4 * j)), some (.long x1), none, none, none, some (.long x5), none, none, none, none] [.int rv] p (zh (P, T, Y) I A w) Q := by
  refine zW_gh 28 [some (.ref (4 * j)), some (.long x1), none, none, none, some (.long x5), none, none, none, none] [.ref (4 * j), .long x5, .ref (4 * j), .int rv] 3 (fun f => rfl) ?_
  refine zW_gf rfl (by omega) (zh_P0 h1_j h4_j) rfl (v := .ref (4 * j + 2)) rfl ?_
  refine zW_fg (L' := [some (.ref (4 * j)), some (.long x1), none, none, none, none, none, none, none, none]) (zle_s _ (zle_s _ (zle_s _ (zle_s _ (zle_s _ (zle_n _ (zle_s _ (zle_s _ (zle_s _ (zle_s _ zle_nil)))))))))) ?_
  exact zW_cv rfl rfl rfl (by omega) (zh_P0 h1_j h4_j) rfl rfl rfl rfl H
theorem b60_34 {P : zPt} {T : Nat → zX} {Y : zYt} {I : zIt} {A : zAt} {w : Nat → Int64} {p : Nat × Nat} {Q : zR → zH → Prop} {j : Nat} {rv s0 : Int32} {x1 : Int64} (h1_j : 1 ≤ j) (h4_j : j ≤ 4) (H : (((s0 + rv) < (8 : Int32) → zT zm_61 [.ref (4 * j), .long x1, .ref (4 * j + 3)] p (zh (P, T, Y) I A w) (zK zm_60 63 [some (.ref (4 * j)), none, none, none, none, none, none, none, none, none] [] p Q)) ∧ (¬ (s0 + rv) < (8 : Int32) → Q (.inr 3) (zh (P, T, Y) I A w)))) : zW zm_60 34 [some (.ref (4 * j)), some (.long x1), none, none, none, none, none, none, none, none] [.int rv, .int s0] p (zh (P, T, Y) I A w) Q := by
  refine zW_bh (zcmp .lt (s0 + rv) (8 : Int32)) 54 44 [some (.ref (4 * j)), some (.long x1), none, none, none, none, none, some (.int (s0 + rv)), none, none] [] 5 (fun f => rfl) (fun c => ?_) (fun c => ?_)
  · have c9 : (s0 + rv) < (8 : Int32) := (of_decide_eq_true c)
    replace H := H.1 c9
    refine zW_gh 57 [some (.ref (4 * j)), some (.long x1), none, none, none, none, none, some (.int (s0 + rv)), none, none] [.ref (4 * j), .long x1, .ref (4 * j)] 3 (fun f => rfl) ?_
    refine zW_gf rfl (by omega) (zh_P0 h1_j h4_j) rfl (v := .ref (4 * j + 3)) rfl ?_
    refine zW_fg (L' := [some (.ref (4 * j)), none, none, none, none, none, none, none, none, none]) (zle_s _ (zle_n _ (zle_s _ (zle_s _ (zle_s _ (zle_s _ (zle_s _ (zle_n _ (zle_s _ (zle_s _ zle_nil)))))))))) ?_
    exact zW_cv rfl rfl rfl (by omega) (zh_P0 h1_j h4_j) rfl rfl rfl rfl H
  · have c9 : ¬ (s0 + rv) < (8 : Int32) := (of_decide_eq_false c)
    replace H := H.2 c9
    exact zW_th 3 1 (fun f => rfl) H
theorem b60_63 {P : zPt} {T : Nat → zX} {Y : zYt} {I : zIt} {A : zAt} {w : Nat → Int64} {p : Nat × Nat} {Q : zR → zH → Prop} {j : Nat} {rv : Int32} (H : zW zm_60 67 [some (.ref (4 * j)), none, none, none, none, none, none, none, some (.int (Int32.ofNat 0)), none] [] p (zh (P, T, Y) I A w) Q) : zW zm_60 63 [some (.ref (4 * j)), none, none, none, none, none, none, none, none, none] [.int rv] p (zh (P, T, Y) I A w) Q := by
  refine zW_gh 67 [some (.ref (4 * j)), none, none, none, none, none, none, none, some (.int (0 : Int32)), none] [] 3 (fun f => rfl) ?_
  exact H
theorem b60_67 {P : zPt} {T : Nat → zX} {Y : zYt} {I : zIt} {A : zAt} {w : Nat → Int64} {p : Nat × Nat} {Q : zR → zH → Prop} {x8 j : Nat} (h1_j : 1 ≤ j) (h4_j : j ≤ 4) (H : (x8 < 2147483648 ∧ ((8 ≤ x8 → zT zm_62 [.ref (4 * j), .ref (4 * j + 3)] p (zh (P, T, Y) I A w) (zK zm_60 135 [none, none, none, none, none, none, none, none, none, none] [] p Q)) ∧ (x8 < 8 → zW zm_60 77 [some (.ref (4 * j)), none, none, none, none, none, none, none, some (.int (Int32.ofNat x8)), some (.int (Int32.ofNat 0))] [] p (zh (P, T, Y) I A w) Q)))) : zW zm_60 67 [some (.ref (4 * j)), none, none, none, none, none, none, none, some (.int (Int32.ofNat x8)), none] [] p (zh (P, T, Y) I A w) Q := by
  obtain ⟨h1, H⟩ := H
  refine zW_bh (zcmp .ge (Int32.ofNat x8) (8 : Int32)) 127 74 [some (.ref (4 * j)), none, none, none, none, none, none, none, some (.int (Int32.ofNat x8)), none] [] 3 (fun f => rfl) (fun c => ?_) (fun c => ?_)
  · have c9 : 8 ≤ x8 := (of_decide_eq_true ((zcN_ge (a := x8) (b := 8) rfl rfl h1 (by decide)).symm.trans c))
    replace H := H.1 c9
    refine zW_gh 129 [some (.ref (4 * j)), none, none, none, none, none, none, none, some (.int (Int32.ofNat x8)), none] [.ref (4 * j), .ref (4 * j)] 2 (fun f => rfl) ?_
    refine zW_gf rfl (by omega) (zh_P0 h1_j h4_j) rfl (v := .ref (4 * j + 3)) rfl ?_
    refine zW_fg (L' := [none, none, none, none, none, none, none, none, none, none]) (zle_n _ (zle_s _ (zle_s _ (zle_s _ (zle_s _ (zle_s _ (zle_s _ (zle_s _ (zle_n _ (zle_s _ zle_nil)))))))))) ?_
    exact zW_cv rfl rfl rfl (by omega) (zh_P0 h1_j h4_j) rfl rfl rfl rfl H
  · have c9 : x8 < 8 := (Nat.lt_of_not_le (of_decide_eq_false ((zcN_ge (a := x8) (b := 8) rfl rfl h1 (by decide)).symm.trans c)))
    replace H := H.2 c9
    refine zW_gh 77 [some (.ref (4 * j)), none, none, none, none, none, none, none, some (.int (Int32.ofNat x8)), some (.int (0 : Int32))] [] 2 (fun f => rfl) ?_
    exact H
theorem b60_135 {P : zPt} {T : Nat → zX} {Y : zYt} {I : zIt} {A : zAt} {w : Nat → Int64} {p : Nat × Nat} {Q : zR → zH → Prop} {rv : Int64} (H : Q (.inl (some (.long rv))) (zh (P, T, Y) I A w)) : zW zm_60 135 [none, none, none, none, none, none, none, none, none, none] [.long rv] p (zh (P, T, Y) I A w) Q := by
  exact zW_rh (some (.long rv)) 1 (fun f => rfl) H
theorem b60_77 {P : zPt} {T : Nat → zX} {Y : zYt} {I : zIt} {A : zAt} {w : Nat → Int64} {p : Nat × Nat} {Q : zR → zH → Prop} {x8 x9 j : Nat} (h1_j : 1 ≤ j) (h4_j : j ≤ 4) (H : ((x8 + x9) < 2147483648 ∧ ((8 ≤ (x8 + x9) → zW zm_60 67 [some (.ref (4 * j)), none, none, none, none, none, none, none, some (.int (Int32.ofNat (x8 + 1))), none] [] p (zh (P, T, Y) I A w) Q) ∧ ((x8 + x9) < 8 → ((x8 + x9) < 8 ∧ (x8 < 8 ∧ (x9 < 8 ∧ zW zm_60 77 [some (.ref (4 * j)), none, none, none, none, none, none, none, some (.int (Int32.ofNat x8)), some (.int (Int32.ofNat (x9 + 1)))] [] p (zh ((va_up P j ((P j).1, (P j).2.1, (va_up (P j).2.2 (x8 + x9) (((P j).2.2 (x8 + x9)) + (((P j).1 x8) * ((P j).2.1 x9)))))), T, Y) I A w) Q))))))) : zW zm_60 77 [some (.ref (4 * j)), none, none, none, none, none, none, none, some (.int (Int32.ofNat x8)), some (.int (Int32.ofNat x9))] [] p (zh (P, T, Y) I A w) Q := by
  obtain ⟨h1, H⟩ := H
  refine zW_bh (zcmp .ge ((Int32.ofNat x8) + (Int32.ofNat x9)) (8 : Int32)) 121 87 [some (.ref (4 * j)), none, none, none, none, none, none, none, some (.int (Int32.ofNat x8)), some (.int (Int32.ofNat x9))] [] 5 (fun f => rfl) (fun c => ?_) (fun c => ?_)
  · have c9 : 8 ≤ (x8 + x9) := (of_decide_eq_true ((zcN_ge (a := (x8 + x9)) (b := 8) (zN_a rfl rfl) rfl h1 (by decide)).symm.trans c))
    replace H := H.1 c9
    refine zW_inc [some (.ref (4 * j)), none, none, none, none, none, none, none, some (.int ((Int32.ofNat x8) + (1 : Int32))), some (.int (Int32.ofNat x9))] rfl rfl rfl ?_
    rw [show ((Int32.ofNat x8) + (1 : Int32)) = Int32.ofNat (x8 + 1) from (zN_a rfl rfl)]
    refine zW_gh 67 [some (.ref (4 * j)), none, none, none, none, none, none, none, some (.int (Int32.ofNat (x8 + 1))), some (.int (Int32.ofNat x9))] [] 1 (fun f => rfl) ?_
    refine zW_fg (L' := [some (.ref (4 * j)), none, none, none, none, none, none, none, some (.int (Int32.ofNat (x8 + 1))), none]) (zle_s _ (zle_s _ (zle_s _ (zle_s _ (zle_s _ (zle_s _ (zle_s _ (zle_s _ (zle_s _ (zle_n _ zle_nil)))))))))) ?_
    exact H
  · have c9 : (x8 + x9) < 8 := (Nat.lt_of_not_le (of_decide_eq_false ((zcN_ge (a := (x8 + x9)) (b := 8) (zN_a rfl rfl) rfl h1 (by decide)).symm.trans c)))
    replace H := H.2 c9
    refine zW_gh 88 [some (.ref (4 * j)), none, none, none, none, none, none, none, some (.int (Int32.ofNat x8)), some (.int (Int32.ofNat x9))] [.ref (4 * j)] 1 (fun f => rfl) ?_
    refine zW_gf rfl (by omega) (zh_P0 h1_j h4_j) rfl (v := .ref (4 * j + 3)) rfl ?_
    refine zW_gh 97 [some (.ref (4 * j)), none, none, none, none, none, none, none, some (.int (Int32.ofNat x8)), some (.int (Int32.ofNat x9))] [.int ((Int32.ofNat x8) + (Int32.ofNat x9)), .ref (4 * j + 3), .int ((Int32.ofNat x8) + (Int32.ofNat x9)), .ref (4 * j + 3)] 4 (fun f => rfl) ?_
    obtain ⟨h2, H⟩ := H
    refine zW_iald rfl (by omega) (zh_P (c := 3) h1_j h4_j (by decide)) (by decide) (zN_a rfl rfl) h2 ?_
    refine zW_gh 99 [some (.ref (4 * j)), none, none, none, none, none, none, none, some (.int (Int32.ofNat x8)), some (.int (Int32.ofNat x9))] [.ref (4 * j), .int ((P j).2.2 (x8 + x9)), .int ((Int32.ofNat x8) + (Int32.ofNat x9)), .ref (4 * j + 3)] 1 (fun f => rfl) ?_
    refine zW_gf rfl (by omega) (zh_P0 h1_j h4_j) rfl (v := .ref (4 * j + 1)) rfl ?_
    refine zW_gh 104 [some (.ref (4 * j)), none, none, none, none, none, none, none, some (.int (Int32.ofNat x8)), some (.int (Int32.ofNat x9))] [.int (Int32.ofNat x8), .ref (4 * j + 1), .int ((P j).2.2 (x8 + x9)), .int ((Int32.ofNat x8) + (Int32.ofNat x9)), .ref (4 * j + 3)] 1 (fun f => rfl) ?_
    obtain ⟨h3, H⟩ := H
    refine zW_iald rfl (by omega) (zh_P (c := 1) h1_j h4_j (by decide)) (by decide) rfl h3 ?_
    refine zW_gh 106 [some (.ref (4 * j)), none, none, none, none, none, none, none, some (.int (Int32.ofNat x8)), some (.int (Int32.ofNat x9))] [.ref (4 * j), .int ((P j).1 x8), .int ((P j).2.2 (x8 + x9)), .int ((Int32.ofNat x8) + (Int32.ofNat x9)), .ref (4 * j + 3)] 1 (fun f => rfl) ?_
    refine zW_gf rfl (by omega) (zh_P0 h1_j h4_j) rfl (v := .ref (4 * j + 2)) rfl ?_
    refine zW_gh 111 [some (.ref (4 * j)), none, none, none, none, none, none, none, some (.int (Int32.ofNat x8)), some (.int (Int32.ofNat x9))] [.int (Int32.ofNat x9), .ref (4 * j + 2), .int ((P j).1 x8), .int ((P j).2.2 (x8 + x9)), .int ((Int32.ofNat x8) + (Int32.ofNat x9)), .ref (4 * j + 3)] 1 (fun f => rfl) ?_
    obtain ⟨h4, H⟩ := H
    refine zW_iald rfl (by omega) (zh_P (c := 2) h1_j h4_j (by decide)) (by decide) rfl h4 ?_
    refine zW_gh 114 [some (.ref (4 * j)), none, none, none, none, none, none, none, some (.int (Int32.ofNat x8)), some (.int (Int32.ofNat x9))] [.int (((P j).2.2 (x8 + x9)) + (((P j).1 x8) * ((P j).2.1 x9))), .int ((Int32.ofNat x8) + (Int32.ofNat x9)), .ref (4 * j + 3)] 2 (fun f => rfl) ?_
    refine zW_iast rfl (by omega) (zh_P (c := 3) h1_j h4_j (by decide)) (by decide) (zuF_P3 h1_j h4_j) (zN_a rfl rfl) h2 ?_
    refine zW_inc [some (.ref (4 * j)), none, none, none, none, none, none, none, some (.int (Int32.ofNat x8)), some (.int ((Int32.ofNat x9) + (1 : Int32)))] rfl rfl rfl ?_
    rw [show ((Int32.ofNat x9) + (1 : Int32)) = Int32.ofNat (x9 + 1) from (zN_a rfl rfl)]
    refine zW_gh 77 [some (.ref (4 * j)), none, none, none, none, none, none, none, some (.int (Int32.ofNat x8)), some (.int (Int32.ofNat (x9 + 1)))] [] 1 (fun f => rfl) ?_
    exact H
theorem b63 {P : zPt} {T : Nat → zX} {Y : zYt} {I : zIt} {A : zAt} {w : Nat → Int64} {p : Nat × Nat} {Q : zR → zH → Prop} {j : Nat} {a0 : Int64} (h1_j : 1 ≤ j) (h4_j : j ≤ 4) (H : zT zm_61 [.ref (4 * j), .long a0, .ref (4 * j + 3)] p (zh (P, T, Y) I A w) (zK zm_63 10 [none, none, none] [.int (Int32.ofNat 1)] p Q)) : zT zm_63 [.ref (4 * j), .long a0] p (zh (P, T, Y) I A w) Q := by
  change zW zm_63 0 [some (.ref (4 * j)), some (.long a0), none] [] p _ Q
  refine zW_gh 4 [some (.ref (4 * j)), some (.long a0), none] [.ref (4 * j), .long a0, .ref (4 * j), .int (1 : Int32)] 4 (fun f => rfl) ?_
  refine zW_gf rfl (by omega) (zh_P0 h1_j h4_j) rfl (v := .ref (4 * j + 3)) rfl ?_
  refine zW_fg (L' := [none, none, none]) (zle_n _ (zle_n _ (zle_s _ zle_nil))) ?_
  exact zW_cv rfl rfl rfl (by omega) (zh_P0 h1_j h4_j) rfl rfl rfl rfl H
theorem b63_10 {P : zPt} {T : Nat → zX} {Y : zYt} {I : zIt} {A : zAt} {w : Nat → Int64} {p : Nat × Nat} {Q : zR → zH → Prop} {s0 : Nat} {rv : Int32} (H : Q (.inl (some (.long ((((Int32.ofNat s0) + rv)).toInt64)))) (zh (P, T, Y) I A w)) : zW zm_63 10 [none, none, none] [.int rv, .int (Int32.ofNat s0)] p (zh (P, T, Y) I A w) Q := by
  refine zW_gh 12 [none, none, none] [.long ((((Int32.ofNat s0) + rv)).toInt64)] 2 (fun f => rfl) ?_
  exact zW_rh (some (.long ((((Int32.ofNat s0) + rv)).toInt64))) 1 (fun f => rfl) H
theorem b64 {P : zPt} {T : Nat → zX} {Y : zYt} {I : zIt} {A : zAt} {w : Nat → Int64} {p : Nat × Nat} {Q : zR → zH → Prop} {j : Nat} {a0 : Int64} (h1_j : 1 ≤ j) (h4_j : j ≤ 4) (H : zT zm_61 [.ref (4 * j), .long a0, .ref (4 * j + 3)] p (zh (P, T, Y) I A w) (zK zm_64 9 [some (.ref (4 * j)), none, none, none] [] p Q)) : zT zm_64 [.ref (4 * j), .long a0] p (zh (P, T, Y) I A w) Q := by
  change zW zm_64 0 [some (.ref (4 * j)), some (.long a0), none, none] [] p _ Q
  refine zW_gh 3 [some (.ref (4 * j)), some (.long a0), none, none] [.ref (4 * j), .long a0, .ref (4 * j)] 3 (fun f => rfl) ?_
  refine zW_gf rfl (by omega) (zh_P0 h1_j h4_j) rfl (v := .ref (4 * j + 3)) rfl ?_
  refine zW_fg (L' := [some (.ref (4 * j)), none, none, none]) (zle_s _ (zle_n _ (zle_s _ (zle_s _ zle_nil)))) ?_
  exact zW_cv rfl rfl rfl (by omega) (zh_P0 h1_j h4_j) rfl rfl rfl rfl H
theorem b64_9 {P : zPt} {T : Nat → zX} {Y : zYt} {I : zIt} {A : zAt} {w : Nat → Int64} {p : Nat × Nat} {Q : zR → zH → Prop} {j : Nat} {rv : Int32} (H : zW zm_64 12 [some (.ref (4 * j)), none, none, some (.int (Int32.ofNat 0))] [] p (zh (P, T, Y) I A w) Q) : zW zm_64 9 [some (.ref (4 * j)), none, none, none] [.int rv] p (zh (P, T, Y) I A w) Q := by
  refine zW_gh 12 [some (.ref (4 * j)), none, none, some (.int (0 : Int32))] [] 3 (fun f => rfl) ?_
  exact H
theorem b64_12 {P : zPt} {T : Nat → zX} {Y : zYt} {I : zIt} {A : zAt} {w : Nat → Int64} {p : Nat × Nat} {Q : zR → zH → Prop} {x3 j : Nat} (h1_j : 1 ≤ j) (h4_j : j ≤ 4) (H : (x3 < 2147483648 ∧ ((8 ≤ x3 → zT zm_62 [.ref (4 * j), .ref (4 * j + 3)] p (zh (P, T, Y) I A w) (zK zm_64 49 [none, none, none, none] [] p Q)) ∧ (x3 < 8 → (x3 < 8 ∧ zW zm_64 12 [some (.ref (4 * j)), none, none, some (.int (Int32.ofNat (x3 + 1)))] [] p (zh ((va_up P j ((P j).1, (P j).2.1, (va_up (P j).2.2 x3 ((Int32.ofNat (zpj j)) - ((P j).2.2 x3))))), T, Y) I A w) Q))))) : zW zm_64 12 [some (.ref (4 * j)), none, none, some (.int (Int32.ofNat x3))] [] p (zh (P, T, Y) I A w) Q := by
  obtain ⟨h1, H⟩ := H
  refine zW_bh (zcmp .ge (Int32.ofNat x3) (8 : Int32)) 41 18 [some (.ref (4 * j)), none, none, some (.int (Int32.ofNat x3))] [] 3 (fun f => rfl) (fun c => ?_) (fun c => ?_)
  · have c9 : 8 ≤ x3 := (of_decide_eq_true ((zcN_ge (a := x3) (b := 8) rfl rfl h1 (by decide)).symm.trans c))
    replace H := H.1 c9
    refine zW_gh 43 [some (.ref (4 * j)), none, none, some (.int (Int32.ofNat x3))] [.ref (4 * j), .ref (4 * j)] 2 (fun f => rfl) ?_
    refine zW_gf rfl (by omega) (zh_P0 h1_j h4_j) rfl (v := .ref (4 * j + 3)) rfl ?_
    refine zW_fg (L' := [none, none, none, none]) (zle_n _ (zle_s _ (zle_s _ (zle_n _ zle_nil)))) ?_
    exact zW_cv rfl rfl rfl (by omega) (zh_P0 h1_j h4_j) rfl rfl rfl rfl H
  · have c9 : x3 < 8 := (Nat.lt_of_not_le (of_decide_eq_false ((zcN_ge (a := x3) (b := 8) rfl rfl h1 (by decide)).symm.trans c)))
    replace H := H.2 c9
    refine zW_gh 19 [some (.ref (4 * j)), none, none, some (.int (Int32.ofNat x3))] [.ref (4 * j)] 1 (fun f => rfl) ?_
    refine zW_gf rfl (by omega) (zh_P0 h1_j h4_j) rfl (v := .ref (4 * j + 3)) rfl ?_
    refine zW_gh 24 [some (.ref (4 * j)), none, none, some (.int (Int32.ofNat x3))] [.ref (4 * j), .int (Int32.ofNat x3), .ref (4 * j + 3)] 2 (fun f => rfl) ?_
    refine zW_gf rfl (by omega) (zh_P0 h1_j h4_j) rfl (v := .int (Int32.ofNat (zpj j))) rfl ?_
    refine zW_gh 28 [some (.ref (4 * j)), none, none, some (.int (Int32.ofNat x3))] [.ref (4 * j), .int (Int32.ofNat (zpj j)), .int (Int32.ofNat x3), .ref (4 * j + 3)] 1 (fun f => rfl) ?_
    refine zW_gf rfl (by omega) (zh_P0 h1_j h4_j) rfl (v := .ref (4 * j + 3)) rfl ?_
    refine zW_gh 32 [some (.ref (4 * j)), none, none, some (.int (Int32.ofNat x3))] [.int (Int32.ofNat x3), .ref (4 * j + 3), .int (Int32.ofNat (zpj j)), .int (Int32.ofNat x3), .ref (4 * j + 3)] 1 (fun f => rfl) ?_
    obtain ⟨h2, H⟩ := H
    refine zW_iald rfl (by omega) (zh_P (c := 3) h1_j h4_j (by decide)) (by decide) rfl h2 ?_
    refine zW_gh 34 [some (.ref (4 * j)), none, none, some (.int (Int32.ofNat x3))] [.int ((Int32.ofNat (zpj j)) - ((P j).2.2 x3)), .int (Int32.ofNat x3), .ref (4 * j + 3)] 1 (fun f => rfl) ?_
    refine zW_iast rfl (by omega) (zh_P (c := 3) h1_j h4_j (by decide)) (by decide) (zuF_P3 h1_j h4_j) rfl h2 ?_
    refine zW_inc [some (.ref (4 * j)), none, none, some (.int ((Int32.ofNat x3) + (1 : Int32)))] rfl rfl rfl ?_
    rw [show ((Int32.ofNat x3) + (1 : Int32)) = Int32.ofNat (x3 + 1) from (zN_a rfl rfl)]
    refine zW_gh 12 [some (.ref (4 * j)), none, none, some (.int (Int32.ofNat (x3 + 1)))] [] 1 (fun f => rfl) ?_
    exact H
theorem b64_49 {P : zPt} {T : Nat → zX} {Y : zYt} {I : zIt} {A : zAt} {w : Nat → Int64} {p : Nat × Nat} {Q : zR → zH → Prop} {rv : Int64} (H : Q (.inl (some (.long rv))) (zh (P, T, Y) I A w)) : zW zm_64 49 [none, none, none, none] [.long rv] p (zh (P, T, Y) I A w) Q := by
  exact zW_rh (some (.long rv)) 1 (fun f => rfl) H
theorem b65 {P : zPt} {T : Nat → zX} {Y : zYt} {I : zIt} {A : zAt} {w : Nat → Int64} {p : Nat × Nat} {Q : zR → zH → Prop} {j : Nat} {a0 : Int64} (h1_j : 1 ≤ j) (h4_j : j ≤ 4) (H : zT zm_66 [.ref (4 * j), .int (zfi a0)] p (zh (P, T, Y) I A w) (zK zm_65 8 [none, none, none] [] p Q)) : zT zm_65 [.ref (4 * j), .long a0] p (zh (P, T, Y) I A w) Q := by
  change zW zm_65 0 [some (.ref (4 * j)), some (.long a0), none] [] p _ Q
  refine zW_gh 2 [some (.ref (4 * j)), some (.long a0), none] [.long a0, .ref (4 * j)] 2 (fun f => rfl) ?_
  refine zW_cl rfl rfl rfl rfl rfl (s75 ?_)
  change zW zm_65 5 [some (.ref (4 * j)), some (.long a0), none] [.int (zfi a0), .ref (4 * j)] p _ Q
  generalize (zfi a0) = g1 at H ⊢
  refine zW_fg (L' := [none, none, none]) (zle_n _ (zle_n _ (zle_s _ zle_nil))) ?_
  exact zW_cv rfl rfl rfl (by omega) (zh_P0 h1_j h4_j) rfl rfl rfl rfl H
theorem b65_8 {P : zPt} {T : Nat → zX} {Y : zYt} {I : zIt} {A : zAt} {w : Nat → Int64} {p : Nat × Nat} {Q : zR → zH → Prop} {rv : Int32} (H : Q (.inl (some (.long (ze64 ((rv).toInt64) (0 : Int64))))) (zh (P, T, Y) I A w)) : zW zm_65 8 [none, none, none] [.int rv] p (zh (P, T, Y) I A w) Q := by
  refine zW_gh 10 [none, none, none] [.long (0 : Int64), .long ((rv).toInt64)] 2 (fun f => rfl) ?_
  refine zW_cl rfl rfl rfl rfl rfl (s76 ?_)
  change zW zm_65 13 [none, none, none] [.long (ze64 ((rv).toInt64) (0 : Int64))] p _ Q
  generalize (ze64 ((rv).toInt64) (0 : Int64)) = g1 at H ⊢
  exact zW_rh (some (.long g1)) 1 (fun f => rfl) H
set_option maxRecDepth 20000 in
theorem b67 {P : zPt} {T : Nat → zX} {Y : zYt} {I : zIt} {A : zAt} {w : Nat → Int64} {p : Nat × Nat} {Q : zR → zH → Prop} {j : Nat} {a0 a1 : Int64} (h1_j : 1 ≤ j) (h4_j : j ≤ 4) (H : ((¬ a1 = (0 : Int64) → zT zm_61 [.ref (4 * j), .long a0, .ref (4 * j + 3)] p (zh (P, T, Y) I A w) (zK zm_67 17 [some (.ref (4 * j)), none, none, some (.long a1), none, none, none, none, none, none] [] p Q)) ∧ (a1 = (0 : Int64) → Q (.inl (some (.long (0 : Int64)))) (zh (P, T, Y) I A w)))) : zT zm_67 [.ref (4 * j), .long a0, .long a1] p (zh (P, T, Y) I A w) Q := by
  change zW zm_67 0 [some (.ref (4 * j)), some (.long a0), none, some (.long a1), none, none, none, none, none, none] [] p _ Q
  refine zW_bh (zcmp .ne (lg_cmp a1 (0 : Int64)) (0 : Int32)) 8 6 [some (.ref (4 * j)), some (.long a0), none, some (.long a1), none, none, none, none, none, none] [] 4 (fun f => rfl) (fun c => ?_) (fun c => ?_)
  · have c9 : ¬ a1 = (0 : Int64) := (by rw [zcL_ne] at c; simpa using c)
    replace H := H.1 c9
    refine zW_gh 11 [some (.ref (4 * j)), some (.long a0), none, some (.long a1), none, none, none, none, none, none] [.ref (4 * j), .long a0, .ref (4 * j)] 3 (fun f => rfl) ?_
    refine zW_gf rfl (by omega) (zh_P0 h1_j h4_j) rfl (v := .ref (4 * j + 3)) rfl ?_
    refine zW_fg (L' := [some (.ref (4 * j)), none, none, some (.long a1), none, none, none, none, none, none]) (zle_s _ (zle_n _ (zle_s _ (zle_s _ (zle_s _ (zle_s _ (zle_s _ (zle_s _ (zle_s _ (zle_s _ zle_nil)))))))))) ?_
    exact zW_cv rfl rfl rfl (by omega) (zh_P0 h1_j h4_j) rfl rfl rfl rfl H
  · have c9 : a1 = (0 : Int64) := (by rw [zcL_ne] at c; simpa using c)
    replace H := H.2 c9
    refine zW_gh 7 [some (.ref (4 * j)), some (.long a0), none, some (.long a1), none, none, none, none, none, none] [.long (0 : Int64)] 1 (fun f => rfl) ?_
    exact zW_rh (some (.long (0 : Int64))) 1 (fun f => rfl) H
set_option maxRecDepth 20000 in
theorem b67_17 {P : zPt} {T : Nat → zX} {Y : zYt} {I : zIt} {A : zAt} {w : Nat → Int64} {p : Nat × Nat} {Q : zR → zH → Prop} {j : Nat} {rv : Int32} {x3 : Int64} (h1_j : 1 ≤ j) (h4_j : j ≤ 4) (H : zT zm_61 [.ref (4 * j), .long x3, .ref (4 * j + 2)] p (zh (P, T, Y) I A w) (zK zm_67 27 [some (.ref (4 * j)), none, none, none, none, none, none, none, none, none] [] p Q)) : zW zm_67 17 [some (.ref (4 * j)), none, none, some (.long x3), none, none, none, none, none, none] [.int rv] p (zh (P, T, Y) I A w) Q := by
  refine zW_gh 21 [some (.ref (4 * j)), none, none, some (.long x3), none, none, none, none, none, none] [.ref (4 * j), .long x3, .ref (4 * j)] 4 (fun f => rfl) ?_
  refine zW_gf rfl (by omega) (zh_P0 h1_j h4_j) rfl (v := .ref (4 * j + 2)) rfl ?_
  refine zW_fg (L' := [some (.ref (4 * j)), none, none, none, none, none, none, none, none, none]) (zle_s _ (zle_s _ (zle_s _ (zle_n _ (zle_s _ (zle_s _ (zle_s _ (zle_s _ (zle_s _ (zle_s _ zle_nil)))))))))) ?_
  exact zW_cv rfl rfl rfl (by omega) (zh_P0 h1_j h4_j) rfl rfl rfl rfl H
set_option maxRecDepth 20000 in
theorem b67_27 {P : zPt} {T : Nat → zX} {Y : zYt} {I : zIt} {A : zAt} {w : Nat → Int64} {p : Nat × Nat} {Q : zR → zH → Prop} {j : Nat} {rv : Int32} (h1_j : 1 ≤ j) (h4_j : j ≤ 4) (H : (∃ j2, (zmax rv (0 : Int32)) = Int32.ofNat j2 ∧ (j2 < 8 ∧ zT zm_66 [.ref (4 * j), .int ((P j).2.1 j2)] p (zh (P, T, Y) I A w) (zK zm_67 44 [some (.ref (4 * j)), none, none, none, none, some (.int (zmax rv (0 : Int32))), none, none, none, none] [] p Q)))) : zW zm_67 27 [some (.ref (4 * j)), none, none, none, none, none, none, none, none, none] [.int rv] p (zh (P, T, Y) I A w) Q := by
  refine zW_gh 28 [some (.ref (4 * j)), none, none, none, none, none, none, none, none, none] [.int (0 : Int32), .int rv] 1 (fun f => rfl) ?_
  refine zW_cl rfl rfl rfl rfl rfl (s278 ?_)
  change zW zm_67 31 [some (.ref (4 * j)), none, none, none, none, none, none, none, none, none] [.int (zmax rv (0 : Int32))] p _ Q
  generalize (zmax rv (0 : Int32)) = g1 at H ⊢
  refine zW_gh 35 [some (.ref (4 * j)), none, none, none, none, some (.int g1), none, none, none, none] [.ref (4 * j), .ref (4 * j)] 3 (fun f => rfl) ?_
  refine zW_gf rfl (by omega) (zh_P0 h1_j h4_j) rfl (v := .ref (4 * j + 2)) rfl ?_
  refine zW_gh 40 [some (.ref (4 * j)), none, none, none, none, some (.int g1), none, none, none, none] [.int g1, .ref (4 * j + 2), .ref (4 * j)] 1 (fun f => rfl) ?_
  obtain ⟨j2, e_j2, H⟩ := H
  obtain ⟨h3, H⟩ := H
  refine zW_iald rfl (by omega) (zh_P (c := 2) h1_j h4_j (by decide)) (by decide) e_j2 h3 ?_
  exact zW_cv rfl rfl rfl (by omega) (zh_P0 h1_j h4_j) rfl rfl rfl rfl H
set_option maxRecDepth 20000 in
theorem b67_44 {P : zPt} {T : Nat → zX} {Y : zYt} {I : zIt} {A : zAt} {w : Nat → Int64} {p : Nat × Nat} {Q : zR → zH → Prop} {j : Nat} {x5 rv : Int32} (h1_j : 1 ≤ j) (h4_j : j ≤ 4) (H : zT zm_284 [.ref (4 * j + 1), .int (0 : Int32)] p (zh (P, T, Y) I A w) (zK zm_67 54 [some (.ref (4 * j)), none, none, none, none, some (.int x5), some (.int rv), none, none, none] [] p Q)) : zW zm_67 44 [some (.ref (4 * j)), none, none, none, none, some (.int x5), none, none, none, none] [.int rv] p (zh (P, T, Y) I A w) Q := by
  refine zW_gh 47 [some (.ref (4 * j)), none, none, none, none, some (.int x5), some (.int rv), none, none, none] [.ref (4 * j)] 2 (fun f => rfl) ?_
  refine zW_gf rfl (by omega) (zh_P0 h1_j h4_j) rfl (v := .ref (4 * j + 1)) rfl ?_
  refine zW_gh 51 [some (.ref (4 * j)), none, none, none, none, some (.int x5), some (.int rv), none, none, none] [.int (0 : Int32), .ref (4 * j + 1)] 1 (fun f => rfl) ?_
  exact zW_cl rfl rfl rfl rfl rfl H
set_option maxRecDepth 20000 in
theorem b67_54 {P : zPt} {T : Nat → zX} {Y : zYt} {I : zIt} {A : zAt} {w : Nat → Int64} {p : Nat × Nat} {Q : zR → zH → Prop} {j : Nat} {x5 x6 : Int32} (H : zW zm_67 61 [some (.ref (4 * j)), none, none, none, none, some (.int x5), some (.int x6), some (.int ((7 : Int32) - x5)), none, none] [] p (zh (P, T, Y) I A w) Q) : zW zm_67 54 [some (.ref (4 * j)), none, none, none, none, some (.int x5), some (.int x6), none, none, none] [] p (zh (P, T, Y) I A w) Q := by
  refine zW_gh 61 [some (.ref (4 * j)), none, none, none, none, some (.int x5), some (.int x6), some (.int ((7 : Int32) - x5)), none, none] [] 4 (fun f => rfl) ?_
  exact H
set_option maxRecDepth 20000 in
theorem b67_61 {P : zPt} {T : Nat → zX} {Y : zYt} {I : zIt} {A : zAt} {w : Nat → Int64} {p : Nat × Nat} {Q : zR → zH → Prop} {j : Nat} {x5 x6 x7 : Int32} (h1_j : 1 ≤ j) (h4_j : j ≤ 4) (H : ((x7 < (0 : Int32) → zT zm_62 [.ref (4 * j), .ref (4 * j + 1)] p (zh (P, T, Y) I A w) (zK zm_67 166 [none, none, none, none, none, none, none, none, none, none] [] p Q)) ∧ (¬ x7 < (0 : Int32) → ∀ k_x7, k_x7 < 2147483648 → x7 = Int32.ofNat k_x7 → (∃ j1, ((Int32.ofNat k_x7) + x5) = Int32.ofNat j1 ∧ (j1 < 8 ∧ ((Int32.ofNat (zpj j)) ≠ 0 ∧ (k_x7 < 8 ∧ zW zm_67 98 [some (.ref (4 * j)), none, none, none, none, some (.int x5), some (.int x6), some (.int (Int32.ofNat k_x7)), some (.int ((((P j).2.2 j1) * x6) - (((P j).2.2 j1) * x6) / (Int32.ofNat (zpj j)) * (Int32.ofNat (zpj j)))), some (.int (Int32.ofNat 0))] [] p (zh ((va_up P j ((va_up (P j).1 k_x7 ((((P j).2.2 j1) * x6) - (((P j).2.2 j1) * x6) / (Int32.ofNat (zpj j)) * (Int32.ofNat (zpj j)))), (P j).2.1, (P j).2.2)), T, Y) I A w) Q))))))) : zW zm_67 61 [some (.ref (4 * j)), none, none, none, none, some (.int x5), some (.int x6), some (.int x7), none, none] [] p (zh (P, T, Y) I A w) Q := by
  refine zW_bh (zcmp .lt x7 (0 : Int32)) 158 66 [some (.ref (4 * j)), none, none, none, none, some (.int x5), some (.int x6), some (.int x7), none, none] [] 2 (fun f => rfl) (fun c => ?_) (fun c => ?_)
  · have c9 : x7 < (0 : Int32) := (of_decide_eq_true c)
    replace H := H.1 c9
    refine zW_gh 160 [some (.ref (4 * j)), none, none, none, none, some (.int x5), some (.int x6), some (.int x7), none, none] [.ref (4 * j), .ref (4 * j)] 2 (fun f => rfl) ?_
    refine zW_gf rfl (by omega) (zh_P0 h1_j h4_j) rfl (v := .ref (4 * j + 1)) rfl ?_
    refine zW_fg (L' := [none, none, none, none, none, none, none, none, none, none]) (zle_n _ (zle_s _ (zle_s _ (zle_s _ (zle_s _ (zle_n _ (zle_n _ (zle_n _ (zle_s _ (zle_s _ zle_nil)))))))))) ?_
    exact zW_cv rfl rfl rfl (by omega) (zh_P0 h1_j h4_j) rfl rfl rfl rfl H
  · have c9 : ¬ x7 < (0 : Int32) := (of_decide_eq_false c)
    replace H := H.2 c9
    obtain ⟨k_x7, h_k_x7, e_k_x7⟩ := zNn c9
    replace H := H k_x7 h_k_x7 e_k_x7
    subst e_k_x7
    refine zW_gh 67 [some (.ref (4 * j)), none, none, none, none, some (.int x5), some (.int x6), some (.int (Int32.ofNat k_x7)), none, none] [.ref (4 * j)] 1 (fun f => rfl) ?_
    refine zW_gf rfl (by omega) (zh_P0 h1_j h4_j) rfl (v := .ref (4 * j + 3)) rfl ?_
    refine zW_gh 75 [some (.ref (4 * j)), none, none, none, none, some (.int x5), some (.int x6), some (.int (Int32.ofNat k_x7)), none, none] [.int ((Int32.ofNat k_x7) + x5), .ref (4 * j + 3)] 3 (fun f => rfl) ?_
    obtain ⟨j1, e_j1, H⟩ := H
    obtain ⟨h2, H⟩ := H
    refine zW_iald rfl (by omega) (zh_P (c := 3) h1_j h4_j (by decide)) (by decide) e_j1 h2 ?_
    refine zW_gh 80 [some (.ref (4 * j)), none, none, none, none, some (.int x5), some (.int x6), some (.int (Int32.ofNat k_x7)), none, none] [.ref (4 * j), .int (((P j).2.2 j1) * x6)] 3 (fun f => rfl) ?_
    refine zW_gf rfl (by omega) (zh_P0 h1_j h4_j) rfl (v := .int (Int32.ofNat (zpj j))) rfl ?_
    obtain ⟨h3, H⟩ := H
    refine zW_irem rfl h3 ?_
    refine zW_gh 87 [some (.ref (4 * j)), none, none, none, none, some (.int x5), some (.int x6), some (.int (Int32.ofNat k_x7)), some (.int ((((P j).2.2 j1) * x6) - (((P j).2.2 j1) * x6) / (Int32.ofNat (zpj j)) * (Int32.ofNat (zpj j)))), none] [.ref (4 * j)] 2 (fun f => rfl) ?_
    refine zW_gf rfl (by omega) (zh_P0 h1_j h4_j) rfl (v := .ref (4 * j + 1)) rfl ?_
    refine zW_gh 94 [some (.ref (4 * j)), none, none, none, none, some (.int x5), some (.int x6), some (.int (Int32.ofNat k_x7)), some (.int ((((P j).2.2 j1) * x6) - (((P j).2.2 j1) * x6) / (Int32.ofNat (zpj j)) * (Int32.ofNat (zpj j)))), none] [.int ((((P j).2.2 j1) * x6) - (((P j).2.2 j1) * x6) / (Int32.ofNat (zpj j)) * (Int32.ofNat (zpj j))), .int (Int32.ofNat k_x7), .ref (4 * j + 1)] 2 (fun f => rfl) ?_
    obtain ⟨h4, H⟩ := H
    refine zW_iast rfl (by omega) (zh_P (c := 1) h1_j h4_j (by decide)) (by decide) (zuF_P1 h1_j h4_j) rfl h4 ?_
    refine zW_gh 98 [some (.ref (4 * j)), none, none, none, none, some (.int x5), some (.int x6), some (.int (Int32.ofNat k_x7)), some (.int ((((P j).2.2 j1) * x6) - (((P j).2.2 j1) * x6) / (Int32.ofNat (zpj j)) * (Int32.ofNat (zpj j)))), some (.int (0 : Int32))] [] 2 (fun f => rfl) ?_
    exact H
set_option maxRecDepth 20000 in
theorem b67_166 {P : zPt} {T : Nat → zX} {Y : zYt} {I : zIt} {A : zAt} {w : Nat → Int64} {p : Nat × Nat} {Q : zR → zH → Prop} {rv : Int64} (H : Q (.inl (some (.long rv))) (zh (P, T, Y) I A w)) : zW zm_67 166 [none, none, none, none, none, none, none, none, none, none] [.long rv] p (zh (P, T, Y) I A w) Q := by
  exact zW_rh (some (.long rv)) 1 (fun f => rfl) H
set_option maxRecDepth 20000 in
theorem b67_98 {P : zPt} {T : Nat → zX} {Y : zYt} {I : zIt} {A : zAt} {w : Nat → Int64} {p : Nat × Nat} {Q : zR → zH → Prop} {x7 x9 j : Nat} {x5 x6 x8 : Int32} (h1_j : 1 ≤ j) (h4_j : j ≤ 4) (H : ((x5 < (Int32.ofNat x9) → zW zm_67 61 [some (.ref (4 * j)), none, none, none, none, some (.int x5), some (.int x6), some (.int ((Int32.ofNat x7) + Int32.ofInt (-1))), none, none] [] p (zh (P, T, Y) I A w) Q) ∧ (¬ x5 < (Int32.ofNat x9) → ((x7 + x9) < 8 ∧ (x9 < 8 ∧ ((Int32.ofNat (zpj j)) ≠ 0 ∧ zW zm_67 98 [some (.ref (4 * j)), none, none, none, none, some (.int x5), some (.int x6), some (.int (Int32.ofNat x7)), some (.int x8), some (.int (Int32.ofNat (x9 + 1)))] [] p (zh ((va_up P j ((P j).1, (P j).2.1, (va_up (P j).2.2 (x7 + x9) ((((P j).2.2 (x7 + x9)) + (((Int32.ofNat (zpj j)) - x8) * ((P j).2.1 x9))) - (((P j).2.2 (x7 + x9)) + (((Int32.ofNat (zpj j)) - x8) * ((P j).2.1 x9))) / (Int32.ofNat (zpj j)) * (Int32.ofNat (zpj j)))))), T, Y) I A w) Q)))))) : zW zm_67 98 [some (.ref (4 * j)), none, none, none, none, some (.int x5), some (.int x6), some (.int (Int32.ofNat x7)), some (.int x8), some (.int (Int32.ofNat x9))] [] p (zh (P, T, Y) I A w) Q := by
  refine zW_bh (zcmp .gt (Int32.ofNat x9) x5) 152 105 [some (.ref (4 * j)), none, none, none, none, some (.int x5), some (.int x6), some (.int (Int32.ofNat x7)), some (.int x8), some (.int (Int32.ofNat x9))] [] 3 (fun f => rfl) (fun c => ?_) (fun c => ?_)
  · have c9 : x5 < (Int32.ofNat x9) := (of_decide_eq_true c)
    replace H := H.1 c9
    refine zW_inc [some (.ref (4 * j)), none, none, none, none, some (.int x5), some (.int x6), some (.int ((Int32.ofNat x7) + Int32.ofInt (-1))), some (.int x8), some (.int (Int32.ofNat x9))] rfl rfl rfl ?_
    refine zW_gh 61 [some (.ref (4 * j)), none, none, none, none, some (.int x5), some (.int x6), some (.int ((Int32.ofNat x7) + Int32.ofInt (-1))), some (.int x8), some (.int (Int32.ofNat x9))] [] 1 (fun f => rfl) ?_
    refine zW_fg (L' := [some (.ref (4 * j)), none, none, none, none, some (.int x5), some (.int x6), some (.int ((Int32.ofNat x7) + Int32.ofInt (-1))), none, none]) (zle_s _ (zle_s _ (zle_s _ (zle_s _ (zle_s _ (zle_s _ (zle_s _ (zle_s _ (zle_n _ (zle_n _ zle_nil)))))))))) ?_
    exact H
  · have c9 : ¬ x5 < (Int32.ofNat x9) := (of_decide_eq_false c)
    replace H := H.2 c9
    refine zW_gh 106 [some (.ref (4 * j)), none, none, none, none, some (.int x5), some (.int x6), some (.int (Int32.ofNat x7)), some (.int x8), some (.int (Int32.ofNat x9))] [.ref (4 * j)] 1 (fun f => rfl) ?_
    refine zW_gf rfl (by omega) (zh_P0 h1_j h4_j) rfl (v := .ref (4 * j + 3)) rfl ?_
    refine zW_gh 115 [some (.ref (4 * j)), none, none, none, none, some (.int x5), some (.int x6), some (.int (Int32.ofNat x7)), some (.int x8), some (.int (Int32.ofNat x9))] [.ref (4 * j), .int ((Int32.ofNat x7) + (Int32.ofNat x9)), .ref (4 * j + 3)] 4 (fun f => rfl) ?_
    refine zW_gf rfl (by omega) (zh_P0 h1_j h4_j) rfl (v := .ref (4 * j + 3)) rfl ?_
    refine zW_gh 123 [some (.ref (4 * j)), none, none, none, none, some (.int x5), some (.int x6), some (.int (Int32.ofNat x7)), some (.int x8), some (.int (Int32.ofNat x9))] [.int ((Int32.ofNat x7) + (Int32.ofNat x9)), .ref (4 * j + 3), .int ((Int32.ofNat x7) + (Int32.ofNat x9)), .ref (4 * j + 3)] 3 (fun f => rfl) ?_
    obtain ⟨h1, H⟩ := H
    refine zW_iald rfl (by omega) (zh_P (c := 3) h1_j h4_j (by decide)) (by decide) (zN_a rfl rfl) h1 ?_
    refine zW_gh 125 [some (.ref (4 * j)), none, none, none, none, some (.int x5), some (.int x6), some (.int (Int32.ofNat x7)), some (.int x8), some (.int (Int32.ofNat x9))] [.ref (4 * j), .int ((P j).2.2 (x7 + x9)), .int ((Int32.ofNat x7) + (Int32.ofNat x9)), .ref (4 * j + 3)] 1 (fun f => rfl) ?_
    refine zW_gf rfl (by omega) (zh_P0 h1_j h4_j) rfl (v := .int (Int32.ofNat (zpj j))) rfl ?_
    refine zW_gh 132 [some (.ref (4 * j)), none, none, none, none, some (.int x5), some (.int x6), some (.int (Int32.ofNat x7)), some (.int x8), some (.int (Int32.ofNat x9))] [.ref (4 * j), .int ((Int32.ofNat (zpj j)) - x8), .int ((P j).2.2 (x7 + x9)), .int ((Int32.ofNat x7) + (Int32.ofNat x9)), .ref (4 * j + 3)] 3 (fun f => rfl) ?_
    refine zW_gf rfl (by omega) (zh_P0 h1_j h4_j) rfl (v := .ref (4 * j + 2)) rfl ?_
    refine zW_gh 137 [some (.ref (4 * j)), none, none, none, none, some (.int x5), some (.int x6), some (.int (Int32.ofNat x7)), some (.int x8), some (.int (Int32.ofNat x9))] [.int (Int32.ofNat x9), .ref (4 * j + 2), .int ((Int32.ofNat (zpj j)) - x8), .int ((P j).2.2 (x7 + x9)), .int ((Int32.ofNat x7) + (Int32.ofNat x9)), .ref (4 * j + 3)] 1 (fun f => rfl) ?_
    obtain ⟨h2, H⟩ := H
    refine zW_iald rfl (by omega) (zh_P (c := 2) h1_j h4_j (by decide)) (by decide) rfl h2 ?_
    refine zW_gh 141 [some (.ref (4 * j)), none, none, none, none, some (.int x5), some (.int x6), some (.int (Int32.ofNat x7)), some (.int x8), some (.int (Int32.ofNat x9))] [.ref (4 * j), .int (((P j).2.2 (x7 + x9)) + (((Int32.ofNat (zpj j)) - x8) * ((P j).2.1 x9))), .int ((Int32.ofNat x7) + (Int32.ofNat x9)), .ref (4 * j + 3)] 3 (fun f => rfl) ?_
    refine zW_gf rfl (by omega) (zh_P0 h1_j h4_j) rfl (v := .int (Int32.ofNat (zpj j))) rfl ?_
    obtain ⟨h3, H⟩ := H
    refine zW_irem rfl h3 ?_
    refine zW_iast rfl (by omega) (zh_P (c := 3) h1_j h4_j (by decide)) (by decide) (zuF_P3 h1_j h4_j) (zN_a rfl rfl) h1 ?_
    refine zW_inc [some (.ref (4 * j)), none, none, none, none, some (.int x5), some (.int x6), some (.int (Int32.ofNat x7)), some (.int x8), some (.int ((Int32.ofNat x9) + (1 : Int32)))] rfl rfl rfl ?_
    rw [show ((Int32.ofNat x9) + (1 : Int32)) = Int32.ofNat (x9 + 1) from (zN_a rfl rfl)]
    refine zW_gh 98 [some (.ref (4 * j)), none, none, none, none, some (.int x5), some (.int x6), some (.int (Int32.ofNat x7)), some (.int x8), some (.int (Int32.ofNat (x9 + 1)))] [] 1 (fun f => rfl) ?_
    exact H
theorem b68 {P : zPt} {T : Nat → zX} {Y : zYt} {I : zIt} {A : zAt} {w : Nat → Int64} {p : Nat × Nat} {Q : zR → zH → Prop} {j : Nat} {a0 : Int64} (h1_j : 1 ≤ j) (h4_j : j ≤ 4) (H : zT zm_61 [.ref (4 * j), .long a0, .ref (4 * j + 3)] p (zh (P, T, Y) I A w) (zK zm_68 9 [some (.ref (4 * j)), none, none, none] [] p Q)) : zT zm_68 [.ref (4 * j), .long a0] p (zh (P, T, Y) I A w) Q := by
  change zW zm_68 0 [some (.ref (4 * j)), some (.long a0), none, none] [] p _ Q
  refine zW_gh 3 [some (.ref (4 * j)), some (.long a0), none, none] [.ref (4 * j), .long a0, .ref (4 * j)] 3 (fun f => rfl) ?_
  refine zW_gf rfl (by omega) (zh_P0 h1_j h4_j) rfl (v := .ref (4 * j + 3)) rfl ?_
  refine zW_fg (L' := [some (.ref (4 * j)), none, none, none]) (zle_s _ (zle_n _ (zle_s _ (zle_s _ zle_nil)))) ?_
  exact zW_cv rfl rfl rfl (by omega) (zh_P0 h1_j h4_j) rfl rfl rfl rfl H
theorem b68_9 {P : zPt} {T : Nat → zX} {Y : zYt} {I : zIt} {A : zAt} {w : Nat → Int64} {p : Nat × Nat} {Q : zR → zH → Prop} {j : Nat} {rv : Int32} (h1_j : 1 ≤ j) (h4_j : j ≤ 4) (H : (((0 : Int32) ≤ rv → ∀ k_rv, k_rv < 2147483648 → rv = Int32.ofNat k_rv → (k_rv < 8 ∧ zT zm_66 [.ref (4 * j), .int ((P j).2.2 k_rv)] p (zh (P, T, Y) I A w) (zK zm_68 30 [none, none, none, none] [] p Q))) ∧ (¬ (0 : Int32) ≤ rv → Q (.inl (some (.long (4294967296 : Int64)))) (zh (P, T, Y) I A w)))) : zW zm_68 9 [some (.ref (4 * j)), none, none, none] [.int rv] p (zh (P, T, Y) I A w) Q := by
  refine zW_bh (zcmp .ge rv (0 : Int32)) 20 14 [some (.ref (4 * j)), none, none, some (.int rv)] [] 3 (fun f => rfl) (fun c => ?_) (fun c => ?_)
  · have c9 : (0 : Int32) ≤ rv := (of_decide_eq_true c)
    replace H := H.1 c9
    obtain ⟨k_rv, h_k_rv, e_k_rv⟩ := zNn' c9
    replace H := H k_rv h_k_rv e_k_rv
    subst e_k_rv
    refine zW_gh 22 [some (.ref (4 * j)), none, none, some (.int (Int32.ofNat k_rv))] [.ref (4 * j), .ref (4 * j)] 2 (fun f => rfl) ?_
    refine zW_gf rfl (by omega) (zh_P0 h1_j h4_j) rfl (v := .ref (4 * j + 3)) rfl ?_
    refine zW_gh 26 [some (.ref (4 * j)), none, none, some (.int (Int32.ofNat k_rv))] [.int (Int32.ofNat k_rv), .ref (4 * j + 3), .ref (4 * j)] 1 (fun f => rfl) ?_
    obtain ⟨h1, H⟩ := H
    refine zW_iald rfl (by omega) (zh_P (c := 3) h1_j h4_j (by decide)) (by decide) rfl h1 ?_
    refine zW_fg (L' := [none, none, none, none]) (zle_n _ (zle_s _ (zle_s _ (zle_n _ zle_nil)))) ?_
    exact zW_cv rfl rfl rfl (by omega) (zh_P0 h1_j h4_j) rfl rfl rfl rfl H
  · have c9 : ¬ (0 : Int32) ≤ rv := (of_decide_eq_false c)
    replace H := H.2 c9
    refine zW_gh 35 [some (.ref (4 * j)), none, none, some (.int rv)] [.long (4294967296 : Int64)] 2 (fun f => rfl) ?_
    exact zW_rh (some (.long (4294967296 : Int64))) 1 (fun f => rfl) H
theorem b68_30 {P : zPt} {T : Nat → zX} {Y : zYt} {I : zIt} {A : zAt} {w : Nat → Int64} {p : Nat × Nat} {Q : zR → zH → Prop} {rv : Int32} (H : Q (.inl (some (.long (ze64 ((rv).toInt64) (0 : Int64))))) (zh (P, T, Y) I A w)) : zW zm_68 30 [none, none, none, none] [.int rv] p (zh (P, T, Y) I A w) Q := by
  refine zW_gh 32 [none, none, none, none] [.long (0 : Int64), .long ((rv).toInt64)] 2 (fun f => rfl) ?_
  refine zW_cl rfl rfl rfl rfl rfl (s76 ?_)
  change zW zm_68 35 [none, none, none, none] [.long (ze64 ((rv).toInt64) (0 : Int64))] p _ Q
  generalize (ze64 ((rv).toInt64) (0 : Int64)) = g1 at H ⊢
  exact zW_rh (some (.long g1)) 1 (fun f => rfl) H
theorem b69 {P : zPt} {T : Nat → zX} {Y : zYt} {I : zIt} {A : zAt} {w : Nat → Int64} {p : Nat × Nat} {Q : zR → zH → Prop} {j : Nat} {a0 : Int64} (h1_j : 1 ≤ j) (h4_j : j ≤ 4) (H : zT zm_61 [.ref (4 * j), .long a0, .ref (4 * j + 3)] p (zh (P, T, Y) I A w) (zK zm_69 9 [some (.ref (4 * j)), none, none, none, none, none, none] [] p Q)) : zT zm_69 [.ref (4 * j), .long a0] p (zh (P, T, Y) I A w) Q := by
  change zW zm_69 0 [some (.ref (4 * j)), some (.long a0), none, none, none, none, none] [] p _ Q
  refine zW_gh 3 [some (.ref (4 * j)), some (.long a0), none, none, none, none, none] [.ref (4 * j), .long a0, .ref (4 * j)] 3 (fun f => rfl) ?_
  refine zW_gf rfl (by omega) (zh_P0 h1_j h4_j) rfl (v := .ref (4 * j + 3)) rfl ?_
  refine zW_fg (L' := [some (.ref (4 * j)), none, none, none, none, none, none]) (zle_s _ (zle_n _ (zle_s _ (zle_s _ (zle_s _ (zle_s _ (zle_s _ zle_nil))))))) ?_
  exact zW_cv rfl rfl rfl (by omega) (zh_P0 h1_j h4_j) rfl rfl rfl rfl H
theorem b69_9 {P : zPt} {T : Nat → zX} {Y : zYt} {I : zIt} {A : zAt} {w : Nat → Int64} {p : Nat × Nat} {Q : zR → zH → Prop} {j : Nat} {rv : Int32} (H : zW zm_69 16 [some (.ref (4 * j)), none, none, some (.int rv), some (.long (1 : Int64)), none, some (.int (Int32.ofNat 0))] [] p (zh (P, T, Y) I A w) Q) : zW zm_69 9 [some (.ref (4 * j)), none, none, none, none, none, none] [.int rv] p (zh (P, T, Y) I A w) Q := by
  refine zW_gh 16 [some (.ref (4 * j)), none, none, some (.int rv), some (.long (1 : Int64)), none, some (.int (0 : Int32))] [] 5 (fun f => rfl) ?_
  exact H
theorem b69_16 {P : zPt} {T : Nat → zX} {Y : zYt} {I : zIt} {A : zAt} {w : Nat → Int64} {p : Nat × Nat} {Q : zR → zH → Prop} {x6 j : Nat} {x3 : Int32} {x4 : Int64} (h1_j : 1 ≤ j) (h4_j : j ≤ 4) (H : ((x3 ≤ (Int32.ofNat x6) → Q (.inl (some (.long x4))) (zh (P, T, Y) I A w)) ∧ (¬ x3 ≤ (Int32.ofNat x6) → zW zm_69 16 [some (.ref (4 * j)), none, none, some (.int x3), some (.long (x4 * (((Int32.ofNat (zpj j))).toInt64))), none, some (.int (Int32.ofNat (x6 + 1)))] [] p (zh (P, T, Y) I A w) Q))) : zW zm_69 16 [some (.ref (4 * j)), none, none, some (.int x3), some (.long x4), none, some (.int (Int32.ofNat x6))] [] p (zh (P, T, Y) I A w) Q := by
  refine zW_bh (zcmp .ge (Int32.ofNat x6) x3) 38 22 [some (.ref (4 * j)), none, none, some (.int x3), some (.long x4), none, some (.int (Int32.ofNat x6))] [] 3 (fun f => rfl) (fun c => ?_) (fun c => ?_)
  · have c9 : x3 ≤ (Int32.ofNat x6) := (of_decide_eq_true c)
    replace H := H.1 c9
    refine zW_gh 40 [some (.ref (4 * j)), none, none, some (.int x3), some (.long x4), none, some (.int (Int32.ofNat x6))] [.long x4] 1 (fun f => rfl) ?_
    exact zW_rh (some (.long x4)) 1 (fun f => rfl) H
  · have c9 : ¬ x3 ≤ (Int32.ofNat x6) := (of_decide_eq_false c)
    replace H := H.2 c9
    refine zW_gh 25 [some (.ref (4 * j)), none, none, some (.int x3), some (.long x4), none, some (.int (Int32.ofNat x6))] [.ref (4 * j), .long x4] 2 (fun f => rfl) ?_
    refine zW_gf rfl (by omega) (zh_P0 h1_j h4_j) rfl (v := .int (Int32.ofNat (zpj j))) rfl ?_
    refine zW_gh 32 [some (.ref (4 * j)), none, none, some (.int x3), some (.long (x4 * (((Int32.ofNat (zpj j))).toInt64))), none, some (.int (Int32.ofNat x6))] [] 3 (fun f => rfl) ?_
    refine zW_inc [some (.ref (4 * j)), none, none, some (.int x3), some (.long (x4 * (((Int32.ofNat (zpj j))).toInt64))), none, some (.int ((Int32.ofNat x6) + (1 : Int32)))] rfl rfl rfl ?_
    rw [show ((Int32.ofNat x6) + (1 : Int32)) = Int32.ofNat (x6 + 1) from (zN_a rfl rfl)]
    refine zW_gh 16 [some (.ref (4 * j)), none, none, some (.int x3), some (.long (x4 * (((Int32.ofNat (zpj j))).toInt64))), none, some (.int (Int32.ofNat (x6 + 1)))] [] 1 (fun f => rfl) ?_
    exact H
theorem b77 {P : zPt} {T : Nat → zX} {Y : zYt} {I : zIt} {A : zAt} {w : Nat → Int64} {p : Nat × Nat} {Q : zR → zH → Prop} {r : Nat} {a0 a1 : Int64} (H : zT (zrm r zm_17 zm_2 zm_60) [.ref (zra r), .long (0 : Int64), .long a0, .long a1] p (zh (P, T, Y) I A w) (zK zm_77 7 [none, none, none, none, none] [] p Q)) : zT zm_77 [.ref (zra r), .long a0, .long a1] p (zh (P, T, Y) I A w) Q := by
  change zW zm_77 0 [some (.ref (zra r)), some (.long a0), none, some (.long a1), none] [] p _ Q
  refine zW_gh 4 [some (.ref (zra r)), some (.long a0), none, some (.long a1), none] [.long a1, .long a0, .long (0 : Int64), .ref (zra r)] 4 (fun f => rfl) ?_
  refine zW_fg (L' := [none, none, none, none, none]) (zle_n _ (zle_n _ (zle_s _ (zle_n _ (zle_s _ zle_nil))))) ?_
  exact zW_cr rfl rfl rfl rfl rfl rfl rfl rfl rfl rfl rfl rfl rfl H
theorem b77_7 {P : zPt} {T : Nat → zX} {Y : zYt} {I : zIt} {A : zAt} {w : Nat → Int64} {p : Nat × Nat} {Q : zR → zH → Prop} {rv : Int64} (H : Q (.inl (some (.long rv))) (zh (P, T, Y) I A w)) : zW zm_77 7 [none, none, none, none, none] [.long rv] p (zh (P, T, Y) I A w) Q := by
  exact zW_rh (some (.long rv)) 1 (fun f => rfl) H
theorem b79 {P : zPt} {T : Nat → zX} {Y : zYt} {I : zIt} {A : zAt} {w : Nat → Int64} {p : Nat × Nat} {Q : zR → zH → Prop} {r : Nat} {a0 : Int64} (H : zT (zrm r zm_18 zm_3 zm_63) [.ref (zra r), .long a0] p (zh (P, T, Y) I A w) (zK zm_79 5 [none, none, none] [] p Q)) : zT zm_79 [.ref (zra r), .long a0] p (zh (P, T, Y) I A w) Q := by
  change zW zm_79 0 [some (.ref (zra r)), some (.long a0), none] [] p _ Q
  refine zW_gh 2 [some (.ref (zra r)), some (.long a0), none] [.long a0, .ref (zra r)] 2 (fun f => rfl) ?_
  refine zW_fg (L' := [none, none, none]) (zle_n _ (zle_n _ (zle_s _ zle_nil))) ?_
  exact zW_cr rfl rfl rfl rfl rfl rfl rfl rfl rfl rfl rfl rfl rfl H
theorem b79_5 {P : zPt} {T : Nat → zX} {Y : zYt} {I : zIt} {A : zAt} {w : Nat → Int64} {p : Nat × Nat} {Q : zR → zH → Prop} {rv : Int64} (H : ((¬ rv = (1 : Int64) → Q (.inl (some (.int (0 : Int32)))) (zh (P, T, Y) I A w)) ∧ (rv = (1 : Int64) → Q (.inl (some (.int (1 : Int32)))) (zh (P, T, Y) I A w)))) : zW zm_79 5 [none, none, none] [.long rv] p (zh (P, T, Y) I A w) Q := by
  refine zW_bh (zcmp .ne (lg_cmp rv (1 : Int64)) (0 : Int32)) 14 10 [none, none, none] [] 3 (fun f => rfl) (fun c => ?_) (fun c => ?_)
  · have c9 : ¬ rv = (1 : Int64) := (by rw [zcL_ne] at c; simpa using c)
    replace H := H.1 c9
    refine zW_gh 15 [none, none, none] [.int (0 : Int32)] 1 (fun f => rfl) ?_
    exact zW_rh (some (.int (0 : Int32))) 1 (fun f => rfl) H
  · have c9 : rv = (1 : Int64) := (by rw [zcL_ne] at c; simpa using c)
    replace H := H.2 c9
    refine zW_gh 15 [none, none, none] [.int (1 : Int32)] 2 (fun f => rfl) ?_
    exact zW_rh (some (.int (1 : Int32))) 1 (fun f => rfl) H
theorem b80 {P : zPt} {T : Nat → zX} {Y : zYt} {I : zIt} {A : zAt} {w : Nat → Int64} {p : Nat × Nat} {Q : zR → zH → Prop} {r : Nat} {a0 a1 : Int64} (H : zT (zrm r zm_21 zm_6 zm_67) [.ref (zra r), .long a0, .long a1] p (zh (P, T, Y) I A w) (zK zm_80 7 [none, none, none, none, none] [.ref (zra r)] p Q)) : zT zm_80 [.ref (zra r), .long a0, .long a1] p (zh (P, T, Y) I A w) Q := by
  change zW zm_80 0 [some (.ref (zra r)), some (.long a0), none, some (.long a1), none] [] p _ Q
  refine zW_gh 4 [some (.ref (zra r)), some (.long a0), none, some (.long a1), none] [.long a1, .long a0, .ref (zra r), .ref (zra r)] 4 (fun f => rfl) ?_
  refine zW_fg (L' := [none, none, none, none, none]) (zle_n _ (zle_n _ (zle_s _ (zle_n _ (zle_s _ zle_nil))))) ?_
  exact zW_cr rfl rfl rfl rfl rfl rfl rfl rfl rfl rfl rfl rfl rfl H
theorem b80_7 {P : zPt} {T : Nat → zX} {Y : zYt} {I : zIt} {A : zAt} {w : Nat → Int64} {p : Nat × Nat} {Q : zR → zH → Prop} {r : Nat} {rv : Int64} (H : zT (zrm r zm_19 zm_4 zm_64) [.ref (zra r), .long rv] p (zh (P, T, Y) I A w) (zK zm_80 10 [none, none, none, none, none] [] p Q)) : zW zm_80 7 [none, none, none, none, none] [.long rv, .ref (zra r)] p (zh (P, T, Y) I A w) Q := by
  exact zW_cr rfl rfl rfl rfl rfl rfl rfl rfl rfl rfl rfl rfl rfl H
theorem b80_10 {P : zPt} {T : Nat → zX} {Y : zYt} {I : zIt} {A : zAt} {w : Nat → Int64} {p : Nat × Nat} {Q : zR → zH → Prop} {rv : Int64} (H : Q (.inl (some (.long rv))) (zh (P, T, Y) I A w)) : zW zm_80 10 [none, none, none, none, none] [.long rv] p (zh (P, T, Y) I A w) Q := by
  exact zW_rh (some (.long rv)) 1 (fun f => rfl) H
theorem b81 {P : zPt} {T : Nat → zX} {Y : zYt} {I : zIt} {A : zAt} {w : Nat → Int64} {p : Nat × Nat} {Q : zR → zH → Prop} {r : Nat} {a0 a1 : Int64} (H : zT (zrm r zm_21 zm_6 zm_67) [.ref (zra r), .long a0, .long a1] p (zh (P, T, Y) I A w) (zK zm_81 9 [none, none, none, some (.long a1), none] [.ref (zra r), .long a0, .ref (zra r)] p Q)) : zT zm_81 [.ref (zra r), .long a0, .long a1] p (zh (P, T, Y) I A w) Q := by
  change zW zm_81 0 [some (.ref (zra r)), some (.long a0), none, some (.long a1), none] [] p _ Q
  refine zW_gh 6 [some (.ref (zra r)), some (.long a0), none, some (.long a1), none] [.long a1, .long a0, .ref (zra r), .ref (zra r), .long a0, .ref (zra r)] 6 (fun f => rfl) ?_
  refine zW_fg (L' := [none, none, none, some (.long a1), none]) (zle_n _ (zle_n _ (zle_s _ (zle_s _ (zle_s _ zle_nil))))) ?_
  exact zW_cr rfl rfl rfl rfl rfl rfl rfl rfl rfl rfl rfl rfl rfl H
theorem b81_9 {P : zPt} {T : Nat → zX} {Y : zYt} {I : zIt} {A : zAt} {w : Nat → Int64} {p : Nat × Nat} {Q : zR → zH → Prop} {r : Nat} {x3 rv s1 : Int64} (H : zT (zrm r zm_19 zm_4 zm_64) [.ref (zra r), .long rv] p (zh (P, T, Y) I A w) (zK zm_81 12 [none, none, none, some (.long x3), none] [.long s1, .ref (zra r)] p Q)) : zW zm_81 9 [none, none, none, some (.long x3), none] [.long rv, .ref (zra r), .long s1, .ref (zra r)] p (zh (P, T, Y) I A w) Q := by
  exact zW_cr rfl rfl rfl rfl rfl rfl rfl rfl rfl rfl rfl rfl rfl H
theorem b81_12 {P : zPt} {T : Nat → zX} {Y : zYt} {I : zIt} {A : zAt} {w : Nat → Int64} {p : Nat × Nat} {Q : zR → zH → Prop} {r : Nat} {x3 rv s0 : Int64} (H : zT (zrm r zm_17 zm_2 zm_60) [.ref (zra r), .long s0, .long rv, .long x3] p (zh (P, T, Y) I A w) (zK zm_81 16 [none, none, none, none, none] [] p Q)) : zW zm_81 12 [none, none, none, some (.long x3), none] [.long rv, .long s0, .ref (zra r)] p (zh (P, T, Y) I A w) Q := by
  refine zW_gh 13 [none, none, none, some (.long x3), none] [.long x3, .long rv, .long s0, .ref (zra r)] 1 (fun f => rfl) ?_
  refine zW_fg (L' := [none, none, none, none, none]) (zle_s _ (zle_s _ (zle_s _ (zle_n _ (zle_s _ zle_nil))))) ?_
  exact zW_cr rfl rfl rfl rfl rfl rfl rfl rfl rfl rfl rfl rfl rfl H
theorem b81_16 {P : zPt} {T : Nat → zX} {Y : zYt} {I : zIt} {A : zAt} {w : Nat → Int64} {p : Nat × Nat} {Q : zR → zH → Prop} {rv : Int64} (H : Q (.inl (some (.long rv))) (zh (P, T, Y) I A w)) : zW zm_81 16 [none, none, none, none, none] [.long rv] p (zh (P, T, Y) I A w) Q := by
  exact zW_rh (some (.long rv)) 1 (fun f => rfl) H
