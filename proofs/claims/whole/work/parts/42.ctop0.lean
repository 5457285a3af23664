theorem b94 {P : zPt} {T : Nat → zX} {Y : zYt} {I : zIt} {A : zAt} {w : Nat → Int64} {p : Nat × Nat} {Q : zR → zH → Prop} {a0 a1 a2 a3 : Int32} (H : ((zslot a0 = true → ∀ k_a0, k_a0 < 3 → a0 = Int32.ofNat k_a0 → ((zisr a1 = true → ∀ k_a1, zrg k_a1 → a1 = Int32.ofNat k_a1 → ((a2 < (1 : Int32) → Q (.inr 2) (zh (P, T, Y) I A w)) ∧ (¬ a2 < (1 : Int32) → (((4 : Int32) < a2 → Q (.inr 2) (zh (P, T, Y) I A w)) ∧ (¬ (4 : Int32) < a2 → ((a3 < (1 : Int32) → Q (.inr 2) (zh (P, T, Y) I A w)) ∧ (¬ a3 < (1 : Int32) → (((4 : Int32) < a3 → Q (.inr 2) (zh (P, T, Y) I A w)) ∧ (¬ (4 : Int32) < a3 → ((T k_a0).2.1 < 2147483648 ∧ (((decide ((T k_a0).2.1 = 0)) = false → zT zm_28 [.ref (21 + 8 * k_a0), .ref (zra k_a1), .int a2, .int a3] p (zh (P, T, Y) I A w) (zK zm_94 69 [none, none, none, none, none, none, none, some (.int (Int32.ofNat 0))] [] p Q)) ∧ ((decide ((T k_a0).2.1 = 0)) = true → zT zm_28 [.ref (21 + 8 * k_a0), .ref (zra k_a1), .int a2, .int a3] p (zh (P, T, Y) I A w) (zK zm_94 69 [none, none, none, none, none, none, none, some (.int (Int32.ofNat 1))] [] p Q))))))))))))) ∧ (zisr a1 = false → Q (.inr 2) (zh (P, T, Y) I A w)))) ∧ (zslot a0 = false → Q (.inr 0) (zh (P, T, Y) I A w)))) : zT zm_94 [.ref 0, .int a0, .int a1, .int a2, .int a3] p (zh (P, T, Y) I A w) Q := by
  change zW zm_94 0 [some (.ref 0), some (.int a0), some (.int a1), some (.int a2), some (.int a3), none, none, none] [] p _ Q
  refine zW_gh 2 [some (.ref 0), some (.int a0), some (.int a1), some (.int a2), some (.int a3), none, none, none] [.int a0, .ref 0] 2 (fun f => rfl) ?_
  refine zW_cl rfl rfl rfl rfl rfl (s95 ⟨fun c9 k_a0 h_k_a0 e_k_a0 => ?_, fun c9 => ?_⟩)
  · replace H := H.1 c9 k_a0 h_k_a0 e_k_a0
    subst e_k_a0
    change zW zm_94 5 [some (.ref 0), some (.int (Int32.ofNat k_a0)), some (.int a1), some (.int a2), some (.int a3), none, none, none] [.ref (21 + 8 * k_a0)] p _ Q
    refine zW_gh 9 [some (.ref 0), some (.int (Int32.ofNat k_a0)), some (.int a1), some (.int a2), some (.int a3), some (.ref (21 + 8 * k_a0)), none, none] [.int a1, .ref 0] 3 (fun f => rfl) ?_
    refine zW_cl rfl rfl rfl rfl rfl (s96 ⟨fun c9 k_a1 h_k_a1 e_k_a1 => ?_, fun c9 => ?_⟩)
    · replace H := H.1 c9 k_a1 h_k_a1 e_k_a1
      subst e_k_a1
      change zW zm_94 12 [some (.ref 0), some (.int (Int32.ofNat k_a0)), some (.int (Int32.ofNat k_a1)), some (.int a2), some (.int a3), some (.ref (21 + 8 * k_a0)), none, none] [.ref (zra k_a1)] p _ Q
      refine zW_bh (zcmp .lt a2 (1 : Int32)) 40 19 [some (.ref 0), some (.int (Int32.ofNat k_a0)), some (.int (Int32.ofNat k_a1)), some (.int a2), some (.int a3), some (.ref (21 + 8 * k_a0)), some (.ref (zra k_a1)), none] [] 4 (fun f => rfl) (fun c => ?_) (fun c => ?_)
      · have c9 : a2 < (1 : Int32) := (of_decide_eq_true c)
        replace H := H.1 c9
        refine zW_gh 41 [some (.ref 0), some (.int (Int32.ofNat k_a0)), some (.int (Int32.ofNat k_a1)), some (.int a2), some (.int a3), some (.ref (21 + 8 * k_a0)), some (.ref (zra k_a1)), none] [.int (0 : Int32)] 1 (fun f => rfl) ?_
        exact zW_cl rfl rfl rfl rfl rfl (s97f H)
      · have c9 : ¬ a2 < (1 : Int32) := (of_decide_eq_false c)
        replace H := H.2 c9
        refine zW_bh (zcmp .gt a2 (4 : Int32)) 40 24 [some (.ref 0), some (.int (Int32.ofNat k_a0)), some (.int (Int32.ofNat k_a1)), some (.int a2), some (.int a3), some (.ref (21 + 8 * k_a0)), some (.ref (zra k_a1)), none] [] 3 (fun f => rfl) (fun c => ?_) (fun c => ?_)
        · have c9 : (4 : Int32) < a2 := (of_decide_eq_true c)
          replace H := H.1 c9
          refine zW_gh 41 [some (.ref 0), some (.int (Int32.ofNat k_a0)), some (.int (Int32.ofNat k_a1)), some (.int a2), some (.int a3), some (.ref (21 + 8 * k_a0)), some (.ref (zra k_a1)), none] [.int (0 : Int32)] 1 (fun f => rfl) ?_
          exact zW_cl rfl rfl rfl rfl rfl (s97f H)
        · have c9 : ¬ (4 : Int32) < a2 := (of_decide_eq_false c)
          replace H := H.2 c9
          refine zW_bh (zcmp .lt a3 (1 : Int32)) 40 30 [some (.ref 0), some (.int (Int32.ofNat k_a0)), some (.int (Int32.ofNat k_a1)), some (.int a2), some (.int a3), some (.ref (21 + 8 * k_a0)), some (.ref (zra k_a1)), none] [] 3 (fun f => rfl) (fun c => ?_) (fun c => ?_)
          · have c9 : a3 < (1 : Int32) := (of_decide_eq_true c)
            replace H := H.1 c9
            refine zW_gh 41 [some (.ref 0), some (.int (Int32.ofNat k_a0)), some (.int (Int32.ofNat k_a1)), some (.int a2), some (.int a3), some (.ref (21 + 8 * k_a0)), some (.ref (zra k_a1)), none] [.int (0 : Int32)] 1 (fun f => rfl) ?_
            exact zW_cl rfl rfl rfl rfl rfl (s97f H)
          · have c9 : ¬ a3 < (1 : Int32) := (of_decide_eq_false c)
            replace H := H.2 c9
            refine zW_bh (zcmp .gt a3 (4 : Int32)) 40 36 [some (.ref 0), some (.int (Int32.ofNat k_a0)), some (.int (Int32.ofNat k_a1)), some (.int a2), some (.int a3), some (.ref (21 + 8 * k_a0)), some (.ref (zra k_a1)), none] [] 3 (fun f => rfl) (fun c => ?_) (fun c => ?_)
            · have c9 : (4 : Int32) < a3 := (of_decide_eq_true c)
              replace H := H.1 c9
              refine zW_gh 41 [some (.ref 0), some (.int (Int32.ofNat k_a0)), some (.int (Int32.ofNat k_a1)), some (.int a2), some (.int a3), some (.ref (21 + 8 * k_a0)), some (.ref (zra k_a1)), none] [.int (0 : Int32)] 1 (fun f => rfl) ?_
              exact zW_cl rfl rfl rfl rfl rfl (s97f H)
            · have c9 : ¬ (4 : Int32) < a3 := (of_decide_eq_false c)
              replace H := H.2 c9
              refine zW_gh 41 [some (.ref 0), some (.int (Int32.ofNat k_a0)), some (.int (Int32.ofNat k_a1)), some (.int a2), some (.int a3), some (.ref (21 + 8 * k_a0)), some (.ref (zra k_a1)), none] [.int (1 : Int32)] 2 (fun f => rfl) ?_
              refine zW_cl rfl rfl rfl rfl rfl (s97t ?_)
              change zW zm_94 44 [some (.ref 0), some (.int (Int32.ofNat k_a0)), some (.int (Int32.ofNat k_a1)), some (.int a2), some (.int a3), some (.ref (21 + 8 * k_a0)), some (.ref (zra k_a1)), none] [] p _ Q
              refine zW_gh 46 [some (.ref 0), some (.int (Int32.ofNat k_a0)), some (.int (Int32.ofNat k_a1)), some (.int a2), some (.int a3), some (.ref (21 + 8 * k_a0)), some (.ref (zra k_a1)), none] [.ref (21 + 8 * k_a0)] 1 (fun f => rfl) ?_
              obtain ⟨h1, H⟩ := H
              refine zW_cv rfl rfl rfl (by have := (show k_a0 < 6 from Nat.lt_trans h_k_a0 (by decide)); omega) (zh_T0 (show k_a0 < 6 from Nat.lt_trans h_k_a0 (by decide))) rfl rfl rfl rfl ((s27 (show k_a0 < 6 from Nat.lt_trans h_k_a0 (by decide))) h1 ?_)
              change zW zm_94 49 [some (.ref 0), some (.int (Int32.ofNat k_a0)), some (.int (Int32.ofNat k_a1)), some (.int a2), some (.int a3), some (.ref (21 + 8 * k_a0)), some (.ref (zra k_a1)), none] [.int (zbi (decide ((T k_a0).2.1 = 0)))] p _ Q
              refine zW_bh (zcmp .eq (zbi (decide ((T k_a0).2.1 = 0))) (0 : Int32)) 56 52 [some (.ref 0), some (.int (Int32.ofNat k_a0)), some (.int (Int32.ofNat k_a1)), some (.int a2), some (.int a3), some (.ref (21 + 8 * k_a0)), some (.ref (zra k_a1)), none] [] 1 (fun f => rfl) (fun c => ?_) (fun c => ?_)
              · have c9 : (decide ((T k_a0).2.1 = 0)) = false := ((Bool.not_eq_true' _).mp ((zcB_eq _).symm.trans c))
                replace H := H.1 c9
                refine zW_gh 66 [some (.ref 0), some (.int (Int32.ofNat k_a0)), some (.int (Int32.ofNat k_a1)), some (.int a2), some (.int a3), some (.ref (21 + 8 * k_a0)), some (.ref (zra k_a1)), some (.int (0 : Int32))] [.int a3, .int a2, .ref (zra k_a1), .ref (21 + 8 * k_a0)] 6 (fun f => rfl) ?_
                refine zW_fg (L' := [none, none, none, none, none, none, none, some (.int (0 : Int32))]) (zle_n _ (zle_n _ (zle_n _ (zle_n _ (zle_n _ (zle_n _ (zle_n _ (zle_s _ zle_nil)))))))) ?_
                exact zW_cv rfl rfl rfl (by have := (show k_a0 < 6 from Nat.lt_trans h_k_a0 (by decide)); omega) (zh_T0 (show k_a0 < 6 from Nat.lt_trans h_k_a0 (by decide))) rfl rfl rfl rfl H
              · have c9 : (decide ((T k_a0).2.1 = 0)) = true := ((Bool.not_eq_false' _).mp ((zcB_eq _).symm.trans c))
                replace H := H.2 c9
                refine zW_gh 66 [some (.ref 0), some (.int (Int32.ofNat k_a0)), some (.int (Int32.ofNat k_a1)), some (.int a2), some (.int a3), some (.ref (21 + 8 * k_a0)), some (.ref (zra k_a1)), some (.int (1 : Int32))] [.int a3, .int a2, .ref (zra k_a1), .ref (21 + 8 * k_a0)] 7 (fun f => rfl) ?_
                refine zW_fg (L' := [none, none, none, none, none, none, none, some (.int (1 : Int32))]) (zle_n _ (zle_n _ (zle_n _ (zle_n _ (zle_n _ (zle_n _ (zle_n _ (zle_s _ zle_nil)))))))) ?_
                exact zW_cv rfl rfl rfl (by have := (show k_a0 < 6 from Nat.lt_trans h_k_a0 (by decide)); omega) (zh_T0 (show k_a0 < 6 from Nat.lt_trans h_k_a0 (by decide))) rfl rfl rfl rfl H
    · exact H.2 c9
  · exact H.2 c9
theorem b94_69 {P : zPt} {T : Nat → zX} {Y : zYt} {I : zIt} {A : zAt} {w : Nat → Int64} {p : Nat × Nat} {Q : zR → zH → Prop} {x7 : Nat} (H : Q (.inl (some (.int (Int32.ofNat x7)))) (zh (P, T, Y) I A w)) : zW zm_94 69 [none, none, none, none, none, none, none, some (.int (Int32.ofNat x7))] [] p (zh (P, T, Y) I A w) Q := by
  refine zW_gh 71 [none, none, none, none, none, none, none, some (.int (Int32.ofNat x7))] [.int (Int32.ofNat x7)] 1 (fun f => rfl) ?_
  exact zW_rh (some (.int (Int32.ofNat x7))) 1 (fun f => rfl) H
theorem b98 {P : zPt} {T : Nat → zX} {Y : zYt} {I : zIt} {A : zAt} {w : Nat → Int64} {p : Nat × Nat} {Q : zR → zH → Prop} {a0 a1 a2 a3 a4 : Int32} (H : (zTb T ∧ ((zslot a0 = true ∧ zfil T a0 → ∀ k_a0, k_a0 < 3 → a0 = Int32.ofNat k_a0 → (((zcell (T k_a0) a1 a2) = false → Q (.inr 2) (zh (P, T, Y) I A w)) ∧ ((zcell (T k_a0) a1 a2) = true → ∀ k_a1, k_a1 < 2147483648 → a1 = Int32.ofNat k_a1 → ∀ k_a2, k_a2 < 2147483648 → a2 = Int32.ofNat k_a2 → zT (zrm ((T k_a0).1) zm_16 zm_1 zm_59) [.ref (zra ((T k_a0).1)), .long ((a3).toInt64), .long ((a4).toInt64)] p (zh (P, T, Y) I A w) (zK zm_98 31 [none, none, some (.int (Int32.ofNat k_a1)), some (.int (Int32.ofNat k_a2)), some (.int a3), some (.int a4), some (.ref (21 + 8 * k_a0)), none] [] p Q)))) ∧ ((zslot a0 = false → Q (.inr 0) (zh (P, T, Y) I A w)) ∧ (zslot a0 = true ∧ ¬ zfil T a0 → Q (.inr 1) (zh (P, T, Y) I A w)))))) : zT zm_98 [.ref 0, .int a0, .int a1, .int a2, .int a3, .int a4] p (zh (P, T, Y) I A w) Q := by
  change zW zm_98 0 [some (.ref 0), some (.int a0), some (.int a1), some (.int a2), some (.int a3), some (.int a4), none, none] [] p _ Q
  refine zW_gh 2 [some (.ref 0), some (.int a0), some (.int a1), some (.int a2), some (.int a3), some (.int a4), none, none] [.int a0, .ref 0] 2 (fun f => rfl) ?_
  obtain ⟨h1, H⟩ := H
  refine zW_cl rfl rfl rfl rfl rfl (s99 h1 ⟨fun c9 k_a0 h_k_a0 e_k_a0 => ?_, fun c9 => ?_, fun c9 => ?_⟩)
  · replace H := H.1 c9 k_a0 h_k_a0 e_k_a0
    subst e_k_a0
    change zW zm_98 5 [some (.ref 0), some (.int (Int32.ofNat k_a0)), some (.int a1), some (.int a2), some (.int a3), some (.int a4), none, none] [.ref (21 + 8 * k_a0)] p _ Q
    refine zW_gh 11 [some (.ref 0), some (.int (Int32.ofNat k_a0)), some (.int a1), some (.int a2), some (.int a3), some (.int a4), some (.ref (21 + 8 * k_a0)), none] [.int a2, .int a1, .ref (21 + 8 * k_a0)] 4 (fun f => rfl) ?_
    refine zW_cv rfl rfl rfl (by have := (show k_a0 < 6 from Nat.lt_trans h_k_a0 (by decide)); omega) (zh_T0 (show k_a0 < 6 from Nat.lt_trans h_k_a0 (by decide))) rfl rfl rfl rfl ((s30 (show k_a0 < 6 from Nat.lt_trans h_k_a0 (by decide))) ?_)
    change zW zm_98 14 [some (.ref 0), some (.int (Int32.ofNat k_a0)), some (.int a1), some (.int a2), some (.int a3), some (.int a4), some (.ref (21 + 8 * k_a0)), none] [.int (zbi (zcell (T k_a0) a1 a2))] p _ Q
    refine zW_bh (zcmp .eq (zbi (zcell (T k_a0) a1 a2)) (0 : Int32)) 38 17 [some (.ref 0), some (.int (Int32.ofNat k_a0)), some (.int a1), some (.int a2), some (.int a3), some (.int a4), some (.ref (21 + 8 * k_a0)), none] [] 1 (fun f => rfl) (fun c => ?_) (fun c => ?_)
    · have c9 : (zcell (T k_a0) a1 a2) = false := ((Bool.not_eq_true' _).mp ((zcB_eq _).symm.trans c))
      replace H := H.1 c9
      refine zW_gh 39 [some (.ref 0), some (.int (Int32.ofNat k_a0)), some (.int a1), some (.int a2), some (.int a3), some (.int a4), some (.ref (21 + 8 * k_a0)), none] [.int (0 : Int32)] 1 (fun f => rfl) ?_
      exact zW_cl rfl rfl rfl rfl rfl (s97f H)
    · have c9 : (zcell (T k_a0) a1 a2) = true := ((Bool.not_eq_false' _).mp ((zcB_eq _).symm.trans c))
      replace H := H.2 c9
      obtain ⟨k_a1, h_k_a1, e_k_a1⟩ := zcell_r c9
      replace H := H k_a1 h_k_a1 e_k_a1
      subst e_k_a1
      obtain ⟨k_a2, h_k_a2, e_k_a2⟩ := zcell_c c9
      replace H := H k_a2 h_k_a2 e_k_a2
      subst e_k_a2
      refine zW_gh 19 [some (.ref 0), some (.int (Int32.ofNat k_a0)), some (.int (Int32.ofNat k_a1)), some (.int (Int32.ofNat k_a2)), some (.int a3), some (.int a4), some (.ref (21 + 8 * k_a0)), none] [.ref (21 + 8 * k_a0)] 1 (fun f => rfl) ?_
      refine zW_gf rfl (by have := (show k_a0 < 6 from Nat.lt_trans h_k_a0 (by decide)); omega) (zh_T0 (show k_a0 < 6 from Nat.lt_trans h_k_a0 (by decide))) rfl (v := .ref (zra ((T k_a0).1))) rfl ?_
      refine zW_gh 28 [some (.ref 0), some (.int (Int32.ofNat k_a0)), some (.int (Int32.ofNat k_a1)), some (.int (Int32.ofNat k_a2)), some (.int a3), some (.int a4), some (.ref (21 + 8 * k_a0)), none] [.long ((a4).toInt64), .long ((a3).toInt64), .ref (zra ((T k_a0).1))] 4 (fun f => rfl) ?_
      refine zW_fg (L' := [none, none, some (.int (Int32.ofNat k_a1)), some (.int (Int32.ofNat k_a2)), some (.int a3), some (.int a4), some (.ref (21 + 8 * k_a0)), none]) (zle_n _ (zle_n _ (zle_s _ (zle_s _ (zle_s _ (zle_s _ (zle_s _ (zle_s _ zle_nil)))))))) ?_
      exact zW_cr rfl rfl rfl rfl rfl rfl rfl rfl rfl rfl rfl rfl rfl H
  · exact H.2.1 c9
  · exact H.2.2 c9
theorem b98_31 {P : zPt} {T : Nat → zX} {Y : zYt} {I : zIt} {A : zAt} {w : Nat → Int64} {p : Nat × Nat} {Q : zR → zH → Prop} {x2 x3 k_a0 : Nat} {x4 x5 : Int32} {rv : Bool} (hi_k_a0 : k_a0 < 6) (H : ((rv = false → Q (.inr 2) (zh (P, T, Y) I A w)) ∧ (rv = true → (zXb (T k_a0) ∧ zT zm_32 [.ref (21 + 8 * k_a0), .int (Int32.ofNat x2), .int (Int32.ofNat x3), .long (ze64 ((x4).toInt64) ((x5).toInt64))] p (zh (P, T, Y) I A w) (zK zm_98 70 [none, none, none, none, none, none, some (.ref (21 + 8 * k_a0)), some (.int (zfi (zxat (T k_a0) (Int32.ofNat x2) (Int32.ofNat x3))))] [] p Q))))) : zW zm_98 31 [none, none, some (.int (Int32.ofNat x2)), some (.int (Int32.ofNat x3)), some (.int x4), some (.int x5), some (.ref (21 + 8 * k_a0)), none] [.int (zbi rv)] p (zh (P, T, Y) I A w) Q := by
  refine zW_bh (zcmp .eq (zbi rv) (0 : Int32)) 38 34 [none, none, some (.int (Int32.ofNat x2)), some (.int (Int32.ofNat x3)), some (.int x4), some (.int x5), some (.ref (21 + 8 * k_a0)), none] [] 1 (fun f => rfl) (fun c => ?_) (fun c => ?_)
  · have c9 : rv = false := ((Bool.not_eq_true' _).mp ((zcB_eq _).symm.trans c))
    replace H := H.1 c9
    refine zW_gh 39 [none, none, some (.int (Int32.ofNat x2)), some (.int (Int32.ofNat x3)), some (.int x4), some (.int x5), some (.ref (21 + 8 * k_a0)), none] [.int (0 : Int32)] 1 (fun f => rfl) ?_
    exact zW_cl rfl rfl rfl rfl rfl (s97f H)
  · have c9 : rv = true := ((Bool.not_eq_false' _).mp ((zcB_eq _).symm.trans c))
    replace H := H.2 c9
    refine zW_gh 39 [none, none, some (.int (Int32.ofNat x2)), some (.int (Int32.ofNat x3)), some (.int x4), some (.int x5), some (.ref (21 + 8 * k_a0)), none] [.int (1 : Int32)] 2 (fun f => rfl) ?_
    refine zW_cl rfl rfl rfl rfl rfl (s97t ?_)
    change zW zm_98 42 [none, none, some (.int (Int32.ofNat x2)), some (.int (Int32.ofNat x3)), some (.int x4), some (.int x5), some (.ref (21 + 8 * k_a0)), none] [] p _ Q
    refine zW_gh 46 [none, none, some (.int (Int32.ofNat x2)), some (.int (Int32.ofNat x3)), some (.int x4), some (.int x5), some (.ref (21 + 8 * k_a0)), none] [.int (Int32.ofNat x3), .int (Int32.ofNat x2), .ref (21 + 8 * k_a0)] 3 (fun f => rfl) ?_
    obtain ⟨h1, H⟩ := H
    refine zW_cv rfl rfl rfl (by have := hi_k_a0; omega) (zh_T0 hi_k_a0) rfl rfl rfl rfl ((s31 hi_k_a0) h1 ?_)
    change zW zm_98 49 [none, none, some (.int (Int32.ofNat x2)), some (.int (Int32.ofNat x3)), some (.int x4), some (.int x5), some (.ref (21 + 8 * k_a0)), none] [.long (zxat (T k_a0) (Int32.ofNat x2) (Int32.ofNat x3))] p _ Q
    generalize (zxat (T k_a0) (Int32.ofNat x2) (Int32.ofNat x3)) = g2 at H ⊢
    refine zW_cl rfl rfl rfl rfl rfl (s75 ?_)
    change zW zm_98 52 [none, none, some (.int (Int32.ofNat x2)), some (.int (Int32.ofNat x3)), some (.int x4), some (.int x5), some (.ref (21 + 8 * k_a0)), none] [.int (zfi g2)] p _ Q
    generalize (zfi g2) = g3 at H ⊢
    refine zW_gh 64 [none, none, some (.int (Int32.ofNat x2)), some (.int (Int32.ofNat x3)), some (.int x4), some (.int x5), some (.ref (21 + 8 * k_a0)), some (.int g3)] [.long ((x5).toInt64), .long ((x4).toInt64), .int (Int32.ofNat x3), .int (Int32.ofNat x2), .ref (21 + 8 * k_a0)] 8 (fun f => rfl) ?_
    refine zW_cl rfl rfl rfl rfl rfl (s76 ?_)
    change zW zm_98 67 [none, none, some (.int (Int32.ofNat x2)), some (.int (Int32.ofNat x3)), some (.int x4), some (.int x5), some (.ref (21 + 8 * k_a0)), some (.int g3)] [.long (ze64 ((x4).toInt64) ((x5).toInt64)), .int (Int32.ofNat x3), .int (Int32.ofNat x2), .ref (21 + 8 * k_a0)] p _ Q
    generalize (ze64 ((x4).toInt64) ((x5).toInt64)) = g4 at H ⊢
    refine zW_fg (L' := [none, none, none, none, none, none, some (.ref (21 + 8 * k_a0)), some (.int g3)]) (zle_s _ (zle_s _ (zle_n _ (zle_n _ (zle_n _ (zle_n _ (zle_s _ (zle_s _ zle_nil)))))))) ?_
    exact zW_cv rfl rfl rfl (by have := hi_k_a0; omega) (zh_T0 hi_k_a0) rfl rfl rfl rfl H
theorem b98_70 {P : zPt} {T : Nat → zX} {Y : zYt} {I : zIt} {A : zAt} {w : Nat → Int64} {p : Nat × Nat} {Q : zR → zH → Prop} {k_a0 : Nat} {x7 : Int32} (hi_k_a0 : k_a0 < 6) (H : zT zm_29 [.ref (21 + 8 * k_a0)] p (zh (P, T, Y) I A w) (zK zm_98 75 [none, none, none, none, none, none, none, some (.int x7)] [] p Q)) : zW zm_98 70 [none, none, none, none, none, none, some (.ref (21 + 8 * k_a0)), some (.int x7)] [] p (zh (P, T, Y) I A w) Q := by
  refine zW_gh 72 [none, none, none, none, none, none, some (.ref (21 + 8 * k_a0)), some (.int x7)] [.ref (21 + 8 * k_a0)] 1 (fun f => rfl) ?_
  refine zW_fg (L' := [none, none, none, none, none, none, none, some (.int x7)]) (zle_s _ (zle_s _ (zle_s _ (zle_s _ (zle_s _ (zle_s _ (zle_n _ (zle_s _ zle_nil)))))))) ?_
  exact zW_cv rfl rfl rfl (by have := hi_k_a0; omega) (zh_T0 hi_k_a0) rfl rfl rfl rfl H
theorem b98_75 {P : zPt} {T : Nat → zX} {Y : zYt} {I : zIt} {A : zAt} {w : Nat → Int64} {p : Nat × Nat} {Q : zR → zH → Prop} {x7 : Int32} (H : Q (.inl (some (.int x7))) (zh (P, T, Y) I A w)) : zW zm_98 75 [none, none, none, none, none, none, none, some (.int x7)] [] p (zh (P, T, Y) I A w) Q := by
  refine zW_gh 77 [none, none, none, none, none, none, none, some (.int x7)] [.int x7] 1 (fun f => rfl) ?_
  exact zW_rh (some (.int x7)) 1 (fun f => rfl) H
theorem b101 {P : zPt} {T : Nat → zX} {Y : zYt} {I : zIt} {A : zAt} {w : Nat → Int64} {p : Nat × Nat} {Q : zR → zH → Prop} {a0 a1 : Int32} (H : ((zslot a1 = true → ∀ k_a1, k_a1 < 3 → a1 = Int32.ofNat k_a1 → (zTb T ∧ ((zslot a0 = true ∧ zfil T a0 → ∀ k_a0, k_a0 < 3 → a0 = Int32.ofNat k_a0 → zT zm_33 [.ref (21 + 8 * k_a1), .ref (21 + 8 * k_a0)] p (zh (P, T, Y) I A w) (zK zm_101 19 [none, none, none, none, some (.ref (21 + 8 * k_a0))] [] p Q)) ∧ ((zslot a0 = false → Q (.inr 0) (zh (P, T, Y) I A w)) ∧ (zslot a0 = true ∧ ¬ zfil T a0 → Q (.inr 1) (zh (P, T, Y) I A w)))))) ∧ (zslot a1 = false → Q (.inr 0) (zh (P, T, Y) I A w)))) : zT zm_101 [.ref 0, .int a0, .int a1] p (zh (P, T, Y) I A w) Q := by
  change zW zm_101 0 [some (.ref 0), some (.int a0), some (.int a1), none, none] [] p _ Q
  refine zW_gh 2 [some (.ref 0), some (.int a0), some (.int a1), none, none] [.int a1, .ref 0] 2 (fun f => rfl) ?_
  refine zW_cl rfl rfl rfl rfl rfl (s95 ⟨fun c9 k_a1 h_k_a1 e_k_a1 => ?_, fun c9 => ?_⟩)
  · replace H := H.1 c9 k_a1 h_k_a1 e_k_a1
    subst e_k_a1
    change zW zm_101 5 [some (.ref 0), some (.int a0), some (.int (Int32.ofNat k_a1)), none, none] [.ref (21 + 8 * k_a1)] p _ Q
    refine zW_gh 8 [some (.ref 0), some (.int a0), some (.int (Int32.ofNat k_a1)), some (.ref (21 + 8 * k_a1)), none] [.int a0, .ref 0] 3 (fun f => rfl) ?_
    obtain ⟨h1, H⟩ := H
    refine zW_cl rfl rfl rfl rfl rfl (s99 h1 ⟨fun c9 k_a0 h_k_a0 e_k_a0 => ?_, fun c9 => ?_, fun c9 => ?_⟩)
    · replace H := H.1 c9 k_a0 h_k_a0 e_k_a0
      subst e_k_a0
      change zW zm_101 11 [some (.ref 0), some (.int (Int32.ofNat k_a0)), some (.int (Int32.ofNat k_a1)), some (.ref (21 + 8 * k_a1)), none] [.ref (21 + 8 * k_a0)] p _ Q
      refine zW_gh 16 [some (.ref 0), some (.int (Int32.ofNat k_a0)), some (.int (Int32.ofNat k_a1)), some (.ref (21 + 8 * k_a1)), some (.ref (21 + 8 * k_a0))] [.ref (21 + 8 * k_a0), .ref (21 + 8 * k_a1)] 3 (fun f => rfl) ?_
      refine zW_fg (L' := [none, none, none, none, some (.ref (21 + 8 * k_a0))]) (zle_n _ (zle_n _ (zle_n _ (zle_n _ (zle_s _ zle_nil))))) ?_
      exact zW_cv rfl rfl rfl (by have := (show k_a1 < 6 from Nat.lt_trans h_k_a1 (by decide)); omega) (zh_T0 (show k_a1 < 6 from Nat.lt_trans h_k_a1 (by decide))) rfl rfl rfl rfl H
    · exact H.2.1 c9
    · exact H.2.2 c9
  · exact H.2 c9
theorem b101_19 {P : zPt} {T : Nat → zX} {Y : zYt} {I : zIt} {A : zAt} {w : Nat → Int64} {p : Nat × Nat} {Q : zR → zH → Prop} {k_a0 : Nat} (hi_k_a0 : k_a0 < 6) (H : Q (.inl (some (.int (Int32.ofNat ((T k_a0).2.2.2.1))))) (zh (P, T, Y) I A w)) : zW zm_101 19 [none, none, none, none, some (.ref (21 + 8 * k_a0))] [] p (zh (P, T, Y) I A w) Q := by
  refine zW_gh 21 [none, none, none, none, some (.ref (21 + 8 * k_a0))] [.ref (21 + 8 * k_a0)] 1 (fun f => rfl) ?_
  refine zW_gf rfl (by have := hi_k_a0; omega) (zh_T0 hi_k_a0) rfl (v := .int (Int32.ofNat ((T k_a0).2.2.2.1))) rfl ?_
  exact zW_rh (some (.int (Int32.ofNat ((T k_a0).2.2.2.1)))) 1 (fun f => rfl) H
theorem b103 {P : zPt} {T : Nat → zX} {Y : zYt} {I : zIt} {A : zAt} {w : Nat → Int64} {p : Nat × Nat} {Q : zR → zH → Prop} {a2 a3 i j : Nat} (hi_i : i < 6) (H : zW zm_103 12 [some (.ref (21 + 8 * i)), some (.ref (21 + 8 * j)), some (.int (Int32.ofNat a2)), some (.int (Int32.ofNat a3)), some (.ref (zra ((T i).1))), some (.long (0 : Int64)), none, some (.int (Int32.ofNat 0)), none, none] [] p (zh (P, T, Y) I A w) Q) : zT zm_103 [.ref (21 + 8 * i), .ref (21 + 8 * j), .int (Int32.ofNat a2), .int (Int32.ofNat a3)] p (zh (P, T, Y) I A w) Q := by
  change zW zm_103 0 [some (.ref (21 + 8 * i)), some (.ref (21 + 8 * j)), some (.int (Int32.ofNat a2)), some (.int (Int32.ofNat a3)), none, none, none, none, none, none] [] p _ Q
  refine zW_gh 1 [some (.ref (21 + 8 * i)), some (.ref (21 + 8 * j)), some (.int (Int32.ofNat a2)), some (.int (Int32.ofNat a3)), none, none, none, none, none, none] [.ref (21 + 8 * i)] 1 (fun f => rfl) ?_
  refine zW_gf rfl (by have := hi_i; omega) (zh_T0 hi_i) rfl (v := .ref (zra ((T i).1))) rfl ?_
  refine zW_gh 12 [some (.ref (21 + 8 * i)), some (.ref (21 + 8 * j)), some (.int (Int32.ofNat a2)), some (.int (Int32.ofNat a3)), some (.ref (zra ((T i).1))), some (.long (0 : Int64)), none, some (.int (0 : Int32)), none, none] [] 5 (fun f => rfl) ?_
  exact H
theorem b103_12 {P : zPt} {T : Nat → zX} {Y : zYt} {I : zIt} {A : zAt} {w : Nat → Int64} {p : Nat × Nat} {Q : zR → zH → Prop} {x2 x3 x7 i j x4 : Nat} {x5 : Int64} (hi_i : i < 6) (hi_j : j < 6) (H : (x7 < 2147483648 ∧ ((T i).2.2.1 < 2147483648 ∧ (((T i).2.2.1 ≤ x7 → Q (.inl (some (.long x5))) (zh (P, T, Y) I A w)) ∧ (x7 < (T i).2.2.1 → (zXb (T i) ∧ (zXb (T j) ∧ zT zm_77 [.ref (zra x4), .long (zxat (T i) (Int32.ofNat x2) (Int32.ofNat x7)), .long (zxat (T j) (Int32.ofNat x7) (Int32.ofNat x3))] p (zh (P, T, Y) I A w) (zK zm_103 40 [some (.ref (21 + 8 * i)), some (.ref (21 + 8 * j)), some (.int (Int32.ofNat x2)), some (.int (Int32.ofNat x3)), some (.ref (zra x4)), some (.long x5), none, some (.int (Int32.ofNat x7)), none, none] [] p Q)))))))) : zW zm_103 12 [some (.ref (21 + 8 * i)), some (.ref (21 + 8 * j)), some (.int (Int32.ofNat x2)), some (.int (Int32.ofNat x3)), some (.ref (zra x4)), some (.long x5), none, some (.int (Int32.ofNat x7)), none, none] [] p (zh (P, T, Y) I A w) Q := by
  refine zW_gh 15 [some (.ref (21 + 8 * i)), some (.ref (21 + 8 * j)), some (.int (Int32.ofNat x2)), some (.int (Int32.ofNat x3)), some (.ref (zra x4)), some (.long x5), none, some (.int (Int32.ofNat x7)), none, none] [.ref (21 + 8 * i), .int (Int32.ofNat x7)] 2 (fun f => rfl) ?_
  refine zW_gf rfl (by have := hi_i; omega) (zh_T0 hi_i) rfl (v := .int (Int32.ofNat ((T i).2.2.1))) rfl ?_
  obtain ⟨h1, H⟩ := H
  obtain ⟨h2, H⟩ := H
  refine zW_bh (zcmp .ge (Int32.ofNat x7) (Int32.ofNat ((T i).2.2.1))) 62 21 [some (.ref (21 + 8 * i)), some (.ref (21 + 8 * j)), some (.int (Int32.ofNat x2)), some (.int (Int32.ofNat x3)), some (.ref (zra x4)), some (.long x5), none, some (.int (Int32.ofNat x7)), none, none] [] 1 (fun f => rfl) (fun c => ?_) (fun c => ?_)
  · have c9 : (T i).2.2.1 ≤ x7 := (of_decide_eq_true ((zcN_ge (a := x7) (b := (T i).2.2.1) rfl rfl h1 h2).symm.trans c))
    replace H := H.1 c9
    refine zW_gh 64 [some (.ref (21 + 8 * i)), some (.ref (21 + 8 * j)), some (.int (Int32.ofNat x2)), some (.int (Int32.ofNat x3)), some (.ref (zra x4)), some (.long x5), none, some (.int (Int32.ofNat x7)), none, none] [.long x5] 1 (fun f => rfl) ?_
    exact zW_rh (some (.long x5)) 1 (fun f => rfl) H
  · have c9 : x7 < (T i).2.2.1 := (Nat.lt_of_not_le (of_decide_eq_false ((zcN_ge (a := x7) (b := (T i).2.2.1) rfl rfl h1 h2).symm.trans c)))
    replace H := H.2 c9
    refine zW_gh 27 [some (.ref (21 + 8 * i)), some (.ref (21 + 8 * j)), some (.int (Int32.ofNat x2)), some (.int (Int32.ofNat x3)), some (.ref (zra x4)), some (.long x5), none, some (.int (Int32.ofNat x7)), none, none] [.int (Int32.ofNat x7), .int (Int32.ofNat x2), .ref (21 + 8 * i), .ref (zra x4)] 4 (fun f => rfl) ?_
    obtain ⟨h3, H⟩ := H
    refine zW_cv rfl rfl rfl (by have := hi_i; omega) (zh_T0 hi_i) rfl rfl rfl rfl ((s31 hi_i) h3 ?_)
    change zW zm_103 30 [some (.ref (21 + 8 * i)), some (.ref (21 + 8 * j)), some (.int (Int32.ofNat x2)), some (.int (Int32.ofNat x3)), some (.ref (zra x4)), some (.long x5), none, some (.int (Int32.ofNat x7)), none, none] [.long (zxat (T i) (Int32.ofNat x2) (Int32.ofNat x7)), .ref (zra x4)] p _ Q
    generalize (zxat (T i) (Int32.ofNat x2) (Int32.ofNat x7)) = g4 at H ⊢
    refine zW_gh 34 [some (.ref (21 + 8 * i)), some (.ref (21 + 8 * j)), some (.int (Int32.ofNat x2)), some (.int (Int32.ofNat x3)), some (.ref (zra x4)), some (.long x5), none, some (.int (Int32.ofNat x7)), none, none] [.int (Int32.ofNat x3), .int (Int32.ofNat x7), .ref (21 + 8 * j), .long g4, .ref (zra x4)] 3 (fun f => rfl) ?_
    obtain ⟨h5, H⟩ := H
    refine zW_cv rfl rfl rfl (by have := hi_j; omega) (zh_T0 hi_j) rfl rfl rfl rfl ((s31 hi_j) h5 ?_)
    change zW zm_103 37 [some (.ref (21 + 8 * i)), some (.ref (21 + 8 * j)), some (.int (Int32.ofNat x2)), some (.int (Int32.ofNat x3)), some (.ref (zra x4)), some (.long x5), none, some (.int (Int32.ofNat x7)), none, none] [.long (zxat (T j) (Int32.ofNat x7) (Int32.ofNat x3)), .long g4, .ref (zra x4)] p _ Q
    generalize (zxat (T j) (Int32.ofNat x7) (Int32.ofNat x3)) = g6 at H ⊢
    exact zW_cr1 rfl rfl rfl rfl rfl rfl rfl rfl rfl H
theorem b103_40 {P : zPt} {T : Nat → zX} {Y : zYt} {I : zIt} {A : zAt} {w : Nat → Int64} {p : Nat × Nat} {Q : zR → zH → Prop} {x2 x3 x7 i j x4 : Nat} {x5 rv : Int64} (H : zT (zrm x4 zm_17 zm_2 zm_60) [.ref (zra x4), .long x5, .long (4294967296 : Int64), .long rv] p (zh (P, T, Y) I A w) (zK zm_103 54 [some (.ref (21 + 8 * i)), some (.ref (21 + 8 * j)), some (.int (Int32.ofNat x2)), some (.int (Int32.ofNat x3)), some (.ref (zra x4)), none, none, some (.int (Int32.ofNat x7)), none, none] [] p Q)) : zW zm_103 40 [some (.ref (21 + 8 * i)), some (.ref (21 + 8 * j)), some (.int (Int32.ofNat x2)), some (.int (Int32.ofNat x3)), some (.ref (zra x4)), some (.long x5), none, some (.int (Int32.ofNat x7)), none, none] [.long rv] p (zh (P, T, Y) I A w) Q := by
  refine zW_gh 51 [some (.ref (21 + 8 * i)), some (.ref (21 + 8 * j)), some (.int (Int32.ofNat x2)), some (.int (Int32.ofNat x3)), some (.ref (zra x4)), some (.long x5), none, some (.int (Int32.ofNat x7)), some (.long rv), none] [.long rv, .long (4294967296 : Int64), .long x5, .ref (zra x4)] 5 (fun f => rfl) ?_
  refine zW_fg (L' := [some (.ref (21 + 8 * i)), some (.ref (21 + 8 * j)), some (.int (Int32.ofNat x2)), some (.int (Int32.ofNat x3)), some (.ref (zra x4)), none, none, some (.int (Int32.ofNat x7)), none, none]) (zle_s _ (zle_s _ (zle_s _ (zle_s _ (zle_s _ (zle_n _ (zle_s _ (zle_s _ (zle_n _ (zle_s _ zle_nil)))))))))) ?_
  exact zW_cr rfl rfl rfl rfl rfl rfl rfl rfl rfl rfl rfl rfl rfl H
theorem b103_54 {P : zPt} {T : Nat → zX} {Y : zYt} {I : zIt} {A : zAt} {w : Nat → Int64} {p : Nat × Nat} {Q : zR → zH → Prop} {x2 x3 x7 i j x4 : Nat} {rv : Int64} (H : zW zm_103 12 [some (.ref (21 + 8 * i)), some (.ref (21 + 8 * j)), some (.int (Int32.ofNat x2)), some (.int (Int32.ofNat x3)), some (.ref (zra x4)), some (.long rv), none, some (.int (Int32.ofNat (x7 + 1))), none, none] [] p (zh (P, T, Y) I A w) Q) : zW zm_103 54 [some (.ref (21 + 8 * i)), some (.ref (21 + 8 * j)), some (.int (Int32.ofNat x2)), some (.int (Int32.ofNat x3)), some (.ref (zra x4)), none, none, some (.int (Int32.ofNat x7)), none, none] [.long rv] p (zh (P, T, Y) I A w) Q := by
  refine zW_gh 56 [some (.ref (21 + 8 * i)), some (.ref (21 + 8 * j)), some (.int (Int32.ofNat x2)), some (.int (Int32.ofNat x3)), some (.ref (zra x4)), some (.long rv), none, some (.int (Int32.ofNat x7)), none, none] [] 1 (fun f => rfl) ?_
  refine zW_inc [some (.ref (21 + 8 * i)), some (.ref (21 + 8 * j)), some (.int (Int32.ofNat x2)), some (.int (Int32.ofNat x3)), some (.ref (zra x4)), some (.long rv), none, some (.int ((Int32.ofNat x7) + (1 : Int32))), none, none] rfl rfl rfl ?_
  rw [show ((Int32.ofNat x7) + (1 : Int32)) = Int32.ofNat (x7 + 1) from (zN_a rfl rfl)]
  refine zW_gh 12 [some (.ref (21 + 8 * i)), some (.ref (21 + 8 * j)), some (.int (Int32.ofNat x2)), some (.int (Int32.ofNat x3)), some (.ref (zra x4)), some (.long rv), none, some (.int (Int32.ofNat (x7 + 1))), none, none] [] 1 (fun f => rfl) ?_
  exact H
set_option maxRecDepth 20000 in
theorem b102 {P : zPt} {T : Nat → zX} {Y : zYt} {I : zIt} {A : zAt} {w : Nat → Int64} {p : Nat × Nat} {Q : zR → zH → Prop} {a0 a1 a2 : Int32} (H : ((zslot a2 = true → ∀ k_a2, k_a2 < 3 → a2 = Int32.ofNat k_a2 → ((zslot a0 = true → ∀ k_a0, k_a0 < 3 → a0 = Int32.ofNat k_a0 → ((zslot a1 = true → ∀ k_a1, k_a1 < 3 → a1 = Int32.ofNat k_a1 → ((T k_a0).2.1 < 2147483648 ∧ (((decide ((T k_a0).2.1 = 0)) = true → Q (.inr 1) (zh (P, T, Y) I A w)) ∧ ((decide ((T k_a0).2.1 = 0)) = false → ((T k_a1).2.1 < 2147483648 ∧ (((decide ((T k_a1).2.1 = 0)) = true → Q (.inr 1) (zh (P, T, Y) I A w)) ∧ ((decide ((T k_a1).2.1 = 0)) = false → (((decide (zrno (T k_a0).1 = zrno (T k_a1).1)) = false → Q (.inr 1) (zh (P, T, Y) I A w)) ∧ ((decide (zrno (T k_a0).1 = zrno (T k_a1).1)) = true → ((T k_a0).2.2.1 < 2147483648 ∧ ((T k_a1).2.1 < 2147483648 ∧ ((¬ (T k_a0).2.2.1 = (T k_a1).2.1 → Q (.inr 1) (zh (P, T, Y) I A w)) ∧ ((T k_a0).2.2.1 = (T k_a1).2.1 → zT zm_28 [.ref (21 + 8 * 3), .ref (zra ((T k_a0).1)), .int (Int32.ofNat ((T k_a0).2.1)), .int (Int32.ofNat ((T k_a1).2.2.1))] p (zh (P, T, Y) I A w) (zK zm_102 90 [some (.ref 0), none, none, none, some (.ref (21 + 8 * k_a2)), some (.ref (21 + 8 * k_a0)), some (.ref (21 + 8 * k_a1)), none, none] [] p Q)))))))))))))) ∧ (zslot a1 = false → Q (.inr 0) (zh (P, T, Y) I A w)))) ∧ (zslot a0 = false → Q (.inr 0) (zh (P, T, Y) I A w)))) ∧ (zslot a2 = false → Q (.inr 0) (zh (P, T, Y) I A w)))) : zT zm_102 [.ref 0, .int a0, .int a1, .int a2] p (zh (P, T, Y) I A w) Q := by
  change zW zm_102 0 [some (.ref 0), some (.int a0), some (.int a1), some (.int a2), none, none, none, none, none] [] p _ Q
  refine zW_gh 2 [some (.ref 0), some (.int a0), some (.int a1), some (.int a2), none, none, none, none, none] [.int a2, .ref 0] 2 (fun f => rfl) ?_
  refine zW_cl rfl rfl rfl rfl rfl (s95 ⟨fun c9 k_a2 h_k_a2 e_k_a2 => ?_, fun c9 => ?_⟩)
  · replace H := H.1 c9 k_a2 h_k_a2 e_k_a2
    subst e_k_a2
    change zW zm_102 5 [some (.ref 0), some (.int a0), some (.int a1), some (.int (Int32.ofNat k_a2)), none, none, none, none, none] [.ref (21 + 8 * k_a2)] p _ Q
    refine zW_gh 9 [some (.ref 0), some (.int a0), some (.int a1), some (.int (Int32.ofNat k_a2)), some (.ref (21 + 8 * k_a2)), none, none, none, none] [.int a0, .ref 0] 3 (fun f => rfl) ?_
    refine zW_cl rfl rfl rfl rfl rfl (s95 ⟨fun c9 k_a0 h_k_a0 e_k_a0 => ?_, fun c9 => ?_⟩)
    · replace H := H.1 c9 k_a0 h_k_a0 e_k_a0
      subst e_k_a0
      change zW zm_102 12 [some (.ref 0), some (.int (Int32.ofNat k_a0)), some (.int a1), some (.int (Int32.ofNat k_a2)), some (.ref (21 + 8 * k_a2)), none, none, none, none] [.ref (21 + 8 * k_a0)] p _ Q
      refine zW_gh 16 [some (.ref 0), some (.int (Int32.ofNat k_a0)), some (.int a1), some (.int (Int32.ofNat k_a2)), some (.ref (21 + 8 * k_a2)), some (.ref (21 + 8 * k_a0)), none, none, none] [.int a1, .ref 0] 3 (fun f => rfl) ?_
      refine zW_cl rfl rfl rfl rfl rfl (s95 ⟨fun c9 k_a1 h_k_a1 e_k_a1 => ?_, fun c9 => ?_⟩)
      · replace H := H.1 c9 k_a1 h_k_a1 e_k_a1
        subst e_k_a1
        change zW zm_102 19 [some (.ref 0), some (.int (Int32.ofNat k_a0)), some (.int (Int32.ofNat k_a1)), some (.int (Int32.ofNat k_a2)), some (.ref (21 + 8 * k_a2)), some (.ref (21 + 8 * k_a0)), none, none, none] [.ref (21 + 8 * k_a1)] p _ Q
        refine zW_gh 23 [some (.ref 0), some (.int (Int32.ofNat k_a0)), some (.int (Int32.ofNat k_a1)), some (.int (Int32.ofNat k_a2)), some (.ref (21 + 8 * k_a2)), some (.ref (21 + 8 * k_a0)), some (.ref (21 + 8 * k_a1)), none, none] [.ref (21 + 8 * k_a0)] 2 (fun f => rfl) ?_
        obtain ⟨h1, H⟩ := H
        refine zW_cv rfl rfl rfl (by have := (show k_a0 < 6 from Nat.lt_trans h_k_a0 (by decide)); omega) (zh_T0 (show k_a0 < 6 from Nat.lt_trans h_k_a0 (by decide))) rfl rfl rfl rfl ((s27 (show k_a0 < 6 from Nat.lt_trans h_k_a0 (by decide))) h1 ?_)
        change zW zm_102 26 [some (.ref 0), some (.int (Int32.ofNat k_a0)), some (.int (Int32.ofNat k_a1)), some (.int (Int32.ofNat k_a2)), some (.ref (21 + 8 * k_a2)), some (.ref (21 + 8 * k_a0)), some (.ref (21 + 8 * k_a1)), none, none] [.int (zbi (decide ((T k_a0).2.1 = 0)))] p _ Q
        refine zW_bh (zcmp .ne (zbi (decide ((T k_a0).2.1 = 0))) (0 : Int32)) 64 29 [some (.ref 0), some (.int (Int32.ofNat k_a0)), some (.int (Int32.ofNat k_a1)), some (.int (Int32.ofNat k_a2)), some (.ref (21 + 8 * k_a2)), some (.ref (21 + 8 * k_a0)), some (.ref (21 + 8 * k_a1)), none, none] [] 1 (fun f => rfl) (fun c => ?_) (fun c => ?_)
        · have c9 : (decide ((T k_a0).2.1 = 0)) = true := ((zcB_ne _).symm.trans c)
          replace H := H.1 c9
          refine zW_gh 65 [some (.ref 0), some (.int (Int32.ofNat k_a0)), some (.int (Int32.ofNat k_a1)), some (.int (Int32.ofNat k_a2)), some (.ref (21 + 8 * k_a2)), some (.ref (21 + 8 * k_a0)), some (.ref (21 + 8 * k_a1)), none, none] [.int (0 : Int32)] 1 (fun f => rfl) ?_
          exact zW_cl rfl rfl rfl rfl rfl (s100f H)
        · have c9 : (decide ((T k_a0).2.1 = 0)) = false := ((zcB_ne _).symm.trans c)
          replace H := H.2 c9
          refine zW_gh 31 [some (.ref 0), some (.int (Int32.ofNat k_a0)), some (.int (Int32.ofNat k_a1)), some (.int (Int32.ofNat k_a2)), some (.ref (21 + 8 * k_a2)), some (.ref (21 + 8 * k_a0)), some (.ref (21 + 8 * k_a1)), none, none] [.ref (21 + 8 * k_a1)] 1 (fun f => rfl) ?_
          obtain ⟨h2, H⟩ := H
          refine zW_cv rfl rfl rfl (by have := (show k_a1 < 6 from Nat.lt_trans h_k_a1 (by decide)); omega) (zh_T0 (show k_a1 < 6 from Nat.lt_trans h_k_a1 (by decide))) rfl rfl rfl rfl ((s27 (show k_a1 < 6 from Nat.lt_trans h_k_a1 (by decide))) h2 ?_)
          change zW zm_102 34 [some (.ref 0), some (.int (Int32.ofNat k_a0)), some (.int (Int32.ofNat k_a1)), some (.int (Int32.ofNat k_a2)), some (.ref (21 + 8 * k_a2)), some (.ref (21 + 8 * k_a0)), some (.ref (21 + 8 * k_a1)), none, none] [.int (zbi (decide ((T k_a1).2.1 = 0)))] p _ Q
          refine zW_bh (zcmp .ne (zbi (decide ((T k_a1).2.1 = 0))) (0 : Int32)) 64 37 [some (.ref 0), some (.int (Int32.ofNat k_a0)), some (.int (Int32.ofNat k_a1)), some (.int (Int32.ofNat k_a2)), some (.ref (21 + 8 * k_a2)), some (.ref (21 + 8 * k_a0)), some (.ref (21 + 8 * k_a1)), none, none] [] 1 (fun f => rfl) (fun c => ?_) (fun c => ?_)
          · have c9 : (decide ((T k_a1).2.1 = 0)) = true := ((zcB_ne _).symm.trans c)
            replace H := H.1 c9
            refine zW_gh 65 [some (.ref 0), some (.int (Int32.ofNat k_a0)), some (.int (Int32.ofNat k_a1)), some (.int (Int32.ofNat k_a2)), some (.ref (21 + 8 * k_a2)), some (.ref (21 + 8 * k_a0)), some (.ref (21 + 8 * k_a1)), none, none] [.int (0 : Int32)] 1 (fun f => rfl) ?_
            exact zW_cl rfl rfl rfl rfl rfl (s100f H)
          · have c9 : (decide ((T k_a1).2.1 = 0)) = false := ((zcB_ne _).symm.trans c)
            replace H := H.2 c9
            refine zW_gh 41 [some (.ref 0), some (.int (Int32.ofNat k_a0)), some (.int (Int32.ofNat k_a1)), some (.int (Int32.ofNat k_a2)), some (.ref (21 + 8 * k_a2)), some (.ref (21 + 8 * k_a0)), some (.ref (21 + 8 * k_a1)), none, none] [.ref (21 + 8 * k_a1), .ref (21 + 8 * k_a0)] 2 (fun f => rfl) ?_
            refine zW_cv rfl rfl rfl (by have := (show k_a0 < 6 from Nat.lt_trans h_k_a0 (by decide)); omega) (zh_T0 (show k_a0 < 6 from Nat.lt_trans h_k_a0 (by decide))) rfl rfl rfl rfl ((s35 (show k_a0 < 6 from Nat.lt_trans h_k_a0 (by decide)) (show k_a1 < 6 from Nat.lt_trans h_k_a1 (by decide))) ?_)
            change zW zm_102 44 [some (.ref 0), some (.int (Int32.ofNat k_a0)), some (.int (Int32.ofNat k_a1)), some (.int (Int32.ofNat k_a2)), some (.ref (21 + 8 * k_a2)), some (.ref (21 + 8 * k_a0)), some (.ref (21 + 8 * k_a1)), none, none] [.int (zbi (decide (zrno (T k_a0).1 = zrno (T k_a1).1)))] p _ Q
            refine zW_bh (zcmp .eq (zbi (decide (zrno (T k_a0).1 = zrno (T k_a1).1))) (0 : Int32)) 64 47 [some (.ref 0), some (.int (Int32.ofNat k_a0)), some (.int (Int32.ofNat k_a1)), some (.int (Int32.ofNat k_a2)), some (.ref (21 + 8 * k_a2)), some (.ref (21 + 8 * k_a0)), some (.ref (21 + 8 * k_a1)), none, none] [] 1 (fun f => rfl) (fun c => ?_) (fun c => ?_)
            · have c9 : (decide (zrno (T k_a0).1 = zrno (T k_a1).1)) = false := ((Bool.not_eq_true' _).mp ((zcB_eq _).symm.trans c))
              replace H := H.1 c9
              refine zW_gh 65 [some (.ref 0), some (.int (Int32.ofNat k_a0)), some (.int (Int32.ofNat k_a1)), some (.int (Int32.ofNat k_a2)), some (.ref (21 + 8 * k_a2)), some (.ref (21 + 8 * k_a0)), some (.ref (21 + 8 * k_a1)), none, none] [.int (0 : Int32)] 1 (fun f => rfl) ?_
              exact zW_cl rfl rfl rfl rfl rfl (s100f H)
            · have c9 : (decide (zrno (T k_a0).1 = zrno (T k_a1).1)) = true := ((Bool.not_eq_false' _).mp ((zcB_eq _).symm.trans c))
              replace H := H.2 c9
              refine zW_gh 49 [some (.ref 0), some (.int (Int32.ofNat k_a0)), some (.int (Int32.ofNat k_a1)), some (.int (Int32.ofNat k_a2)), some (.ref (21 + 8 * k_a2)), some (.ref (21 + 8 * k_a0)), some (.ref (21 + 8 * k_a1)), none, none] [.ref (21 + 8 * k_a0)] 1 (fun f => rfl) ?_
              refine zW_gf rfl (by have := (show k_a0 < 6 from Nat.lt_trans h_k_a0 (by decide)); omega) (zh_T0 (show k_a0 < 6 from Nat.lt_trans h_k_a0 (by decide))) rfl (v := .int (Int32.ofNat ((T k_a0).2.2.1))) rfl ?_
              refine zW_gh 54 [some (.ref 0), some (.int (Int32.ofNat k_a0)), some (.int (Int32.ofNat k_a1)), some (.int (Int32.ofNat k_a2)), some (.ref (21 + 8 * k_a2)), some (.ref (21 + 8 * k_a0)), some (.ref (21 + 8 * k_a1)), none, none] [.ref (21 + 8 * k_a1), .int (Int32.ofNat ((T k_a0).2.2.1))] 1 (fun f => rfl) ?_
              refine zW_gf rfl (by have := (show k_a1 < 6 from Nat.lt_trans h_k_a1 (by decide)); omega) (zh_T0 (show k_a1 < 6 from Nat.lt_trans h_k_a1 (by decide))) rfl (v := .int (Int32.ofNat ((T k_a1).2.1))) rfl ?_
              obtain ⟨h3, H⟩ := H
              obtain ⟨h4, H⟩ := H
              refine zW_bh (zcmp .ne (Int32.ofNat ((T k_a0).2.2.1)) (Int32.ofNat ((T k_a1).2.1))) 64 60 [some (.ref 0), some (.int (Int32.ofNat k_a0)), some (.int (Int32.ofNat k_a1)), some (.int (Int32.ofNat k_a2)), some (.ref (21 + 8 * k_a2)), some (.ref (21 + 8 * k_a0)), some (.ref (21 + 8 * k_a1)), none, none] [] 1 (fun f => rfl) (fun c => ?_) (fun c => ?_)
              · have c9 : ¬ (T k_a0).2.2.1 = (T k_a1).2.1 := (by have c := (zcN_ne (a := (T k_a0).2.2.1) (b := (T k_a1).2.1) rfl rfl h3 h4).symm.trans c; simpa using c)
                replace H := H.1 c9
                refine zW_gh 65 [some (.ref 0), some (.int (Int32.ofNat k_a0)), some (.int (Int32.ofNat k_a1)), some (.int (Int32.ofNat k_a2)), some (.ref (21 + 8 * k_a2)), some (.ref (21 + 8 * k_a0)), some (.ref (21 + 8 * k_a1)), none, none] [.int (0 : Int32)] 1 (fun f => rfl) ?_
                exact zW_cl rfl rfl rfl rfl rfl (s100f H)
              · have c9 : (T k_a0).2.2.1 = (T k_a1).2.1 := (by have c := (zcN_ne (a := (T k_a0).2.2.1) (b := (T k_a1).2.1) rfl rfl h3 h4).symm.trans c; simpa using c)
                replace H := H.2 c9
                refine zW_gh 65 [some (.ref 0), some (.int (Int32.ofNat k_a0)), some (.int (Int32.ofNat k_a1)), some (.int (Int32.ofNat k_a2)), some (.ref (21 + 8 * k_a2)), some (.ref (21 + 8 * k_a0)), some (.ref (21 + 8 * k_a1)), none, none] [.int (1 : Int32)] 2 (fun f => rfl) ?_
                refine zW_cl rfl rfl rfl rfl rfl (s100t ?_)
                change zW zm_102 68 [some (.ref 0), some (.int (Int32.ofNat k_a0)), some (.int (Int32.ofNat k_a1)), some (.int (Int32.ofNat k_a2)), some (.ref (21 + 8 * k_a2)), some (.ref (21 + 8 * k_a0)), some (.ref (21 + 8 * k_a1)), none, none] [] p _ Q
                refine zW_gh 74 [some (.ref 0), some (.int (Int32.ofNat k_a0)), some (.int (Int32.ofNat k_a1)), some (.int (Int32.ofNat k_a2)), some (.ref (21 + 8 * k_a2)), some (.ref (21 + 8 * k_a0)), some (.ref (21 + 8 * k_a1)), none, none] [.ref (21 + 8 * k_a0), .ref (21 + 8 * 3)] 3 (fun f => rfl) ?_
                refine zW_gf rfl (by have := (show k_a0 < 6 from Nat.lt_trans h_k_a0 (by decide)); omega) (zh_T0 (show k_a0 < 6 from Nat.lt_trans h_k_a0 (by decide))) rfl (v := .ref (zra ((T k_a0).1))) rfl ?_
                refine zW_gh 79 [some (.ref 0), some (.int (Int32.ofNat k_a0)), some (.int (Int32.ofNat k_a1)), some (.int (Int32.ofNat k_a2)), some (.ref (21 + 8 * k_a2)), some (.ref (21 + 8 * k_a0)), some (.ref (21 + 8 * k_a1)), none, none] [.ref (21 + 8 * k_a0), .ref (zra ((T k_a0).1)), .ref (21 + 8 * 3)] 1 (fun f => rfl) ?_
                refine zW_gf rfl (by have := (show k_a0 < 6 from Nat.lt_trans h_k_a0 (by decide)); omega) (zh_T0 (show k_a0 < 6 from Nat.lt_trans h_k_a0 (by decide))) rfl (v := .int (Int32.ofNat ((T k_a0).2.1))) rfl ?_
                refine zW_gh 84 [some (.ref 0), some (.int (Int32.ofNat k_a0)), some (.int (Int32.ofNat k_a1)), some (.int (Int32.ofNat k_a2)), some (.ref (21 + 8 * k_a2)), some (.ref (21 + 8 * k_a0)), some (.ref (21 + 8 * k_a1)), none, none] [.ref (21 + 8 * k_a1), .int (Int32.ofNat ((T k_a0).2.1)), .ref (zra ((T k_a0).1)), .ref (21 + 8 * 3)] 1 (fun f => rfl) ?_
                refine zW_gf rfl (by have := (show k_a1 < 6 from Nat.lt_trans h_k_a1 (by decide)); omega) (zh_T0 (show k_a1 < 6 from Nat.lt_trans h_k_a1 (by decide))) rfl (v := .int (Int32.ofNat ((T k_a1).2.2.1))) rfl ?_
                refine zW_fg (L' := [some (.ref 0), none, none, none, some (.ref (21 + 8 * k_a2)), some (.ref (21 + 8 * k_a0)), some (.ref (21 + 8 * k_a1)), none, none]) (zle_s _ (zle_n _ (zle_n _ (zle_n _ (zle_s _ (zle_s _ (zle_s _ (zle_s _ (zle_s _ zle_nil))))))))) ?_
                exact zW_cv rfl rfl rfl (by decide) (zh_T0 (by decide : 3 < 6)) rfl rfl rfl rfl H
      · exact H.2 c9
    · exact H.2 c9
  · exact H.2 c9
set_option maxRecDepth 20000 in
theorem b102_90 {P : zPt} {T : Nat → zX} {Y : zYt} {I : zIt} {A : zAt} {w : Nat → Int64} {p : Nat × Nat} {Q : zR → zH → Prop} {k_a2 k_a0 k_a1 : Nat} (H : zW zm_102 93 [some (.ref 0), none, none, none, some (.ref (21 + 8 * k_a2)), some (.ref (21 + 8 * k_a0)), some (.ref (21 + 8 * k_a1)), some (.int (Int32.ofNat 0)), none] [] p (zh (P, T, Y) I A w) Q) : zW zm_102 90 [some (.ref 0), none, none, none, some (.ref (21 + 8 * k_a2)), some (.ref (21 + 8 * k_a0)), some (.ref (21 + 8 * k_a1)), none, none] [] p (zh (P, T, Y) I A w) Q := by
  refine zW_gh 93 [some (.ref 0), none, none, none, some (.ref (21 + 8 * k_a2)), some (.ref (21 + 8 * k_a0)), some (.ref (21 + 8 * k_a1)), some (.int (0 : Int32)), none] [] 2 (fun f => rfl) ?_
  exact H
set_option maxRecDepth 20000 in
theorem b102_93 {P : zPt} {T : Nat → zX} {Y : zYt} {I : zIt} {A : zAt} {w : Nat → Int64} {p : Nat × Nat} {Q : zR → zH → Prop} {x7 k_a2 k_a0 k_a1 : Nat} (hi_k_a0 : k_a0 < 6) (hi_k_a2 : k_a2 < 6) (H : (x7 < 2147483648 ∧ ((T k_a0).2.1 < 2147483648 ∧ (((T k_a0).2.1 ≤ x7 → zT zm_36 [.ref (21 + 8 * k_a2), .ref (21 + 8 * 3)] p (zh (P, T, Y) I A w) (zK zm_102 159 [none, none, none, none, some (.ref (21 + 8 * k_a2)), none, none, none, none] [] p Q)) ∧ (x7 < (T k_a0).2.1 → zW zm_102 106 [some (.ref 0), none, none, none, some (.ref (21 + 8 * k_a2)), some (.ref (21 + 8 * k_a0)), some (.ref (21 + 8 * k_a1)), some (.int (Int32.ofNat x7)), some (.int (Int32.ofNat 0))] [] p (zh (P, T, Y) I A w) Q))))) : zW zm_102 93 [some (.ref 0), none, none, none, some (.ref (21 + 8 * k_a2)), some (.ref (21 + 8 * k_a0)), some (.ref (21 + 8 * k_a1)), some (.int (Int32.ofNat x7)), none] [] p (zh (P, T, Y) I A w) Q := by
  refine zW_gh 97 [some (.ref 0), none, none, none, some (.ref (21 + 8 * k_a2)), some (.ref (21 + 8 * k_a0)), some (.ref (21 + 8 * k_a1)), some (.int (Int32.ofNat x7)), none] [.ref (21 + 8 * k_a0), .int (Int32.ofNat x7)] 2 (fun f => rfl) ?_
  refine zW_gf rfl (by have := hi_k_a0; omega) (zh_T0 hi_k_a0) rfl (v := .int (Int32.ofNat ((T k_a0).2.1))) rfl ?_
  obtain ⟨h1, H⟩ := H
  obtain ⟨h2, H⟩ := H
  refine zW_bh (zcmp .ge (Int32.ofNat x7) (Int32.ofNat ((T k_a0).2.1))) 150 103 [some (.ref 0), none, none, none, some (.ref (21 + 8 * k_a2)), some (.ref (21 + 8 * k_a0)), some (.ref (21 + 8 * k_a1)), some (.int (Int32.ofNat x7)), none] [] 1 (fun f => rfl) (fun c => ?_) (fun c => ?_)
  · have c9 : (T k_a0).2.1 ≤ x7 := (of_decide_eq_true ((zcN_ge (a := x7) (b := (T k_a0).2.1) rfl rfl h1 h2).symm.trans c))
    replace H := H.1 c9
    refine zW_gh 156 [some (.ref 0), none, none, none, some (.ref (21 + 8 * k_a2)), some (.ref (21 + 8 * k_a0)), some (.ref (21 + 8 * k_a1)), some (.int (Int32.ofNat x7)), none] [.ref (21 + 8 * 3), .ref (21 + 8 * k_a2)] 3 (fun f => rfl) ?_
    refine zW_fg (L' := [none, none, none, none, some (.ref (21 + 8 * k_a2)), none, none, none, none]) (zle_n _ (zle_s _ (zle_s _ (zle_s _ (zle_s _ (zle_n _ (zle_n _ (zle_n _ (zle_s _ zle_nil))))))))) ?_
    exact zW_cv rfl rfl rfl (by have := hi_k_a2; omega) (zh_T0 hi_k_a2) rfl rfl rfl rfl H
  · have c9 : x7 < (T k_a0).2.1 := (Nat.lt_of_not_le (of_decide_eq_false ((zcN_ge (a := x7) (b := (T k_a0).2.1) rfl rfl h1 h2).symm.trans c)))
    replace H := H.2 c9
    refine zW_gh 106 [some (.ref 0), none, none, none, some (.ref (21 + 8 * k_a2)), some (.ref (21 + 8 * k_a0)), some (.ref (21 + 8 * k_a1)), some (.int (Int32.ofNat x7)), some (.int (0 : Int32))] [] 2 (fun f => rfl) ?_
    exact H
set_option maxRecDepth 20000 in
theorem b102_159 {P : zPt} {T : Nat → zX} {Y : zYt} {I : zIt} {A : zAt} {w : Nat → Int64} {p : Nat × Nat} {Q : zR → zH → Prop} {k_a2 : Nat} (hi_k_a2 : k_a2 < 6) (H : Q (.inl (some (.int (Int32.ofNat ((T k_a2).2.2.1))))) (zh (P, T, Y) I A w)) : zW zm_102 159 [none, none, none, none, some (.ref (21 + 8 * k_a2)), none, none, none, none] [] p (zh (P, T, Y) I A w) Q := by
  refine zW_gh 161 [none, none, none, none, some (.ref (21 + 8 * k_a2)), none, none, none, none] [.ref (21 + 8 * k_a2)] 1 (fun f => rfl) ?_
  refine zW_gf rfl (by have := hi_k_a2; omega) (zh_T0 hi_k_a2) rfl (v := .int (Int32.ofNat ((T k_a2).2.2.1))) rfl ?_
  exact zW_rh (some (.int (Int32.ofNat ((T k_a2).2.2.1)))) 1 (fun f => rfl) H
set_option maxRecDepth 20000 in
theorem b102_106 {P : zPt} {T : Nat → zX} {Y : zYt} {I : zIt} {A : zAt} {w : Nat → Int64} {p : Nat × Nat} {Q : zR → zH → Prop} {x7 x8 k_a2 k_a0 k_a1 : Nat} (hi_k_a1 : k_a1 < 6) (H : (x8 < 2147483648 ∧ ((T k_a1).2.2.1 < 2147483648 ∧ (((T k_a1).2.2.1 ≤ x8 → zW zm_102 93 [some (.ref 0), none, none, none, some (.ref (21 + 8 * k_a2)), some (.ref (21 + 8 * k_a0)), some (.ref (21 + 8 * k_a1)), some (.int (Int32.ofNat (x7 + 1))), none] [] p (zh (P, T, Y) I A w) Q) ∧ (x8 < (T k_a1).2.2.1 → zT zm_103 [.ref (21 + 8 * k_a0), .ref (21 + 8 * k_a1), .int (Int32.ofNat x7), .int (Int32.ofNat x8)] p (zh (P, T, Y) I A w) (zK zm_102 135 [some (.ref 0), none, none, none, some (.ref (21 + 8 * k_a2)), some (.ref (21 + 8 * k_a0)), some (.ref (21 + 8 * k_a1)), some (.int (Int32.ofNat x7)), some (.int (Int32.ofNat x8))] [.int (Int32.ofNat x8), .int (Int32.ofNat x7), .ref (21 + 8 * 3)] p Q)))))) : zW zm_102 106 [some (.ref 0), none, none, none, some (.ref (21 + 8 * k_a2)), some (.ref (21 + 8 * k_a0)), some (.ref (21 + 8 * k_a1)), some (.int (Int32.ofNat x7)), some (.int (Int32.ofNat x8))] [] p (zh (P, T, Y) I A w) Q := by
  refine zW_gh 110 [some (.ref 0), none, none, none, some (.ref (21 + 8 * k_a2)), some (.ref (21 + 8 * k_a0)), some (.ref (21 + 8 * k_a1)), some (.int (Int32.ofNat x7)), some (.int (Int32.ofNat x8))] [.ref (21 + 8 * k_a1), .int (Int32.ofNat x8)] 2 (fun f => rfl) ?_
  refine zW_gf rfl (by have := hi_k_a1; omega) (zh_T0 hi_k_a1) rfl (v := .int (Int32.ofNat ((T k_a1).2.2.1))) rfl ?_
  obtain ⟨h1, H⟩ := H
  obtain ⟨h2, H⟩ := H
  refine zW_bh (zcmp .ge (Int32.ofNat x8) (Int32.ofNat ((T k_a1).2.2.1))) 144 116 [some (.ref 0), none, none, none, some (.ref (21 + 8 * k_a2)), some (.ref (21 + 8 * k_a0)), some (.ref (21 + 8 * k_a1)), some (.int (Int32.ofNat x7)), some (.int (Int32.ofNat x8))] [] 1 (fun f => rfl) (fun c => ?_) (fun c => ?_)
  · have c9 : (T k_a1).2.2.1 ≤ x8 := (of_decide_eq_true ((zcN_ge (a := x8) (b := (T k_a1).2.2.1) rfl rfl h1 h2).symm.trans c))
    replace H := H.1 c9
    refine zW_inc [some (.ref 0), none, none, none, some (.ref (21 + 8 * k_a2)), some (.ref (21 + 8 * k_a0)), some (.ref (21 + 8 * k_a1)), some (.int ((Int32.ofNat x7) + (1 : Int32))), some (.int (Int32.ofNat x8))] rfl rfl rfl ?_
    rw [show ((Int32.ofNat x7) + (1 : Int32)) = Int32.ofNat (x7 + 1) from (zN_a rfl rfl)]
    refine zW_gh 93 [some (.ref 0), none, none, none, some (.ref (21 + 8 * k_a2)), some (.ref (21 + 8 * k_a0)), some (.ref (21 + 8 * k_a1)), some (.int (Int32.ofNat (x7 + 1))), some (.int (Int32.ofNat x8))] [] 1 (fun f => rfl) ?_
    refine zW_fg (L' := [some (.ref 0), none, none, none, some (.ref (21 + 8 * k_a2)), some (.ref (21 + 8 * k_a0)), some (.ref (21 + 8 * k_a1)), some (.int (Int32.ofNat (x7 + 1))), none]) (zle_s _ (zle_s _ (zle_s _ (zle_s _ (zle_s _ (zle_s _ (zle_s _ (zle_s _ (zle_n _ zle_nil))))))))) ?_
    exact H
  · have c9 : x8 < (T k_a1).2.2.1 := (Nat.lt_of_not_le (of_decide_eq_false ((zcN_ge (a := x8) (b := (T k_a1).2.2.1) rfl rfl h1 h2).symm.trans c)))
    replace H := H.2 c9
    refine zW_gh 132 [some (.ref 0), none, none, none, some (.ref (21 + 8 * k_a2)), some (.ref (21 + 8 * k_a0)), some (.ref (21 + 8 * k_a1)), some (.int (Int32.ofNat x7)), some (.int (Int32.ofNat x8))] [.int (Int32.ofNat x8), .int (Int32.ofNat x7), .ref (21 + 8 * k_a1), .ref (21 + 8 * k_a0), .int (Int32.ofNat x8), .int (Int32.ofNat x7), .ref (21 + 8 * 3)] 8 (fun f => rfl) ?_
    exact zW_cl rfl rfl rfl rfl rfl H
set_option maxRecDepth 20000 in
theorem b102_135 {P : zPt} {T : Nat → zX} {Y : zYt} {I : zIt} {A : zAt} {w : Nat → Int64} {p : Nat × Nat} {Q : zR → zH → Prop} {x7 x8 s0 s1 k_a2 k_a0 k_a1 : Nat} {rv : Int64} (H : zT zm_32 [.ref (21 + 8 * 3), .int (Int32.ofNat s1), .int (Int32.ofNat s0), .long rv] p (zh (P, T, Y) I A w) (zK zm_102 138 [some (.ref 0), none, none, none, some (.ref (21 + 8 * k_a2)), some (.ref (21 + 8 * k_a0)), some (.ref (21 + 8 * k_a1)), some (.int (Int32.ofNat x7)), some (.int (Int32.ofNat x8))] [] p Q)) : zW zm_102 135 [some (.ref 0), none, none, none, some (.ref (21 + 8 * k_a2)), some (.ref (21 + 8 * k_a0)), some (.ref (21 + 8 * k_a1)), some (.int (Int32.ofNat x7)), some (.int (Int32.ofNat x8))] [.long rv, .int (Int32.ofNat s0), .int (Int32.ofNat s1), .ref (21 + 8 * 3)] p (zh (P, T, Y) I A w) Q := by
  exact zW_cv rfl rfl rfl (by decide) (zh_T0 (by decide : 3 < 6)) rfl rfl rfl rfl H
set_option maxRecDepth 20000 in
theorem b102_138 {P : zPt} {T : Nat → zX} {Y : zYt} {I : zIt} {A : zAt} {w : Nat → Int64} {p : Nat × Nat} {Q : zR → zH → Prop} {x7 x8 k_a2 k_a0 k_a1 : Nat} (H : zW zm_102 106 [some (.ref 0), none, none, none, some (.ref (21 + 8 * k_a2)), some (.ref (21 + 8 * k_a0)), some (.ref (21 + 8 * k_a1)), some (.int (Int32.ofNat x7)), some (.int (Int32.ofNat (x8 + 1)))] [] p (zh (P, T, Y) I A w) Q) : zW zm_102 138 [some (.ref 0), none, none, none, some (.ref (21 + 8 * k_a2)), some (.ref (21 + 8 * k_a0)), some (.ref (21 + 8 * k_a1)), some (.int (Int32.ofNat x7)), some (.int (Int32.ofNat x8))] [] p (zh (P, T, Y) I A w) Q := by
  refine zW_inc [some (.ref 0), none, none, none, some (.ref (21 + 8 * k_a2)), some (.ref (21 + 8 * k_a0)), some (.ref (21 + 8 * k_a1)), some (.int (Int32.ofNat x7)), some (.int ((Int32.ofNat x8) + (1 : Int32)))] rfl rfl rfl ?_
  rw [show ((Int32.ofNat x8) + (1 : Int32)) = Int32.ofNat (x8 + 1) from (zN_a rfl rfl)]
  refine zW_gh 106 [some (.ref 0), none, none, none, some (.ref (21 + 8 * k_a2)), some (.ref (21 + 8 * k_a0)), some (.ref (21 + 8 * k_a1)), some (.int (Int32.ofNat x7)), some (.int (Int32.ofNat (x8 + 1)))] [] 1 (fun f => rfl) ?_
  exact H
theorem b104 {P : zPt} {T : Nat → zX} {Y : zYt} {I : zIt} {A : zAt} {w : Nat → Int64} {p : Nat × Nat} {Q : zR → zH → Prop} {a0 : Int32} (H : ((zslot a0 = true → ∀ k_a0, k_a0 < 3 → a0 = Int32.ofNat k_a0 → ((T k_a0).2.1 < 2147483648 ∧ (((decide ((T k_a0).2.1 = 0)) = false → Q (.inl (some (.int (Int32.ofNat (zrno ((T k_a0).1)))))) (zh (P, T, Y) I A w)) ∧ ((decide ((T k_a0).2.1 = 0)) = true → Q (.inl (some (.int (-1 : Int32)))) (zh (P, T, Y) I A w))))) ∧ (zslot a0 = false → Q (.inr 0) (zh (P, T, Y) I A w)))) : zT zm_104 [.ref 0, .int a0] p (zh (P, T, Y) I A w) Q := by
  change zW zm_104 0 [some (.ref 0), some (.int a0), none] [] p _ Q
  refine zW_gh 2 [some (.ref 0), some (.int a0), none] [.int a0, .ref 0] 2 (fun f => rfl) ?_
  refine zW_cl rfl rfl rfl rfl rfl (s95 ⟨fun c9 k_a0 h_k_a0 e_k_a0 => ?_, fun c9 => ?_⟩)
  · replace H := H.1 c9 k_a0 h_k_a0 e_k_a0
    subst e_k_a0
    change zW zm_104 5 [some (.ref 0), some (.int (Int32.ofNat k_a0)), none] [.ref (21 + 8 * k_a0)] p _ Q
    refine zW_gh 7 [some (.ref 0), some (.int (Int32.ofNat k_a0)), some (.ref (21 + 8 * k_a0))] [.ref (21 + 8 * k_a0)] 2 (fun f => rfl) ?_
    obtain ⟨h1, H⟩ := H
    refine zW_cv rfl rfl rfl (by have := (show k_a0 < 6 from Nat.lt_trans h_k_a0 (by decide)); omega) (zh_T0 (show k_a0 < 6 from Nat.lt_trans h_k_a0 (by decide))) rfl rfl rfl rfl ((s27 (show k_a0 < 6 from Nat.lt_trans h_k_a0 (by decide))) h1 ?_)
    change zW zm_104 10 [some (.ref 0), some (.int (Int32.ofNat k_a0)), some (.ref (21 + 8 * k_a0))] [.int (zbi (decide ((T k_a0).2.1 = 0)))] p _ Q
    refine zW_bh (zcmp .eq (zbi (decide ((T k_a0).2.1 = 0))) (0 : Int32)) 17 13 [some (.ref 0), some (.int (Int32.ofNat k_a0)), some (.ref (21 + 8 * k_a0))] [] 1 (fun f => rfl) (fun c => ?_) (fun c => ?_)
    · have c9 : (decide ((T k_a0).2.1 = 0)) = false := ((Bool.not_eq_true' _).mp ((zcB_eq _).symm.trans c))
      replace H := H.1 c9
      refine zW_gh 18 [some (.ref 0), some (.int (Int32.ofNat k_a0)), some (.ref (21 + 8 * k_a0))] [.ref (21 + 8 * k_a0)] 1 (fun f => rfl) ?_
      refine zW_gf rfl (by have := (show k_a0 < 6 from Nat.lt_trans h_k_a0 (by decide)); omega) (zh_T0 (show k_a0 < 6 from Nat.lt_trans h_k_a0 (by decide))) rfl (v := .ref (zra ((T k_a0).1))) rfl ?_
      refine zW_gr rfl rfl rfl rfl ?_
      exact zW_rh (some (.int (Int32.ofNat (zrno ((T k_a0).1))))) 1 (fun f => rfl) H
    · have c9 : (decide ((T k_a0).2.1 = 0)) = true := ((Bool.not_eq_false' _).mp ((zcB_eq _).symm.trans c))
      replace H := H.2 c9
      refine zW_gh 24 [some (.ref 0), some (.int (Int32.ofNat k_a0)), some (.ref (21 + 8 * k_a0))] [.int (-1 : Int32)] 2 (fun f => rfl) ?_
      exact zW_rh (some (.int (-1 : Int32))) 1 (fun f => rfl) H
  · exact H.2 c9
theorem b105 {P : zPt} {T : Nat → zX} {Y : zYt} {I : zIt} {A : zAt} {w : Nat → Int64} {p : Nat × Nat} {Q : zR → zH → Prop} {a0 : Int32} (H : ((zslot a0 = true → ∀ k_a0, k_a0 < 3 → a0 = Int32.ofNat k_a0 → Q (.inl (some (.int (Int32.ofNat ((T k_a0).2.1))))) (zh (P, T, Y) I A w)) ∧ (zslot a0 = false → Q (.inr 0) (zh (P, T, Y) I A w)))) : zT zm_105 [.ref 0, .int a0] p (zh (P, T, Y) I A w) Q := by
  change zW zm_105 0 [some (.ref 0), some (.int a0)] [] p _ Q
  refine zW_gh 2 [some (.ref 0), some (.int a0)] [.int a0, .ref 0] 2 (fun f => rfl) ?_
  refine zW_cl rfl rfl rfl rfl rfl (s95 ⟨fun c9 k_a0 h_k_a0 e_k_a0 => ?_, fun c9 => ?_⟩)
  · replace H := H.1 c9 k_a0 h_k_a0 e_k_a0
    subst e_k_a0
    change zW zm_105 5 [some (.ref 0), some (.int (Int32.ofNat k_a0))] [.ref (21 + 8 * k_a0)] p _ Q
    refine zW_gf rfl (by have := (show k_a0 < 6 from Nat.lt_trans h_k_a0 (by decide)); omega) (zh_T0 (show k_a0 < 6 from Nat.lt_trans h_k_a0 (by decide))) rfl (v := .int (Int32.ofNat ((T k_a0).2.1))) rfl ?_
    exact zW_rh (some (.int (Int32.ofNat ((T k_a0).2.1)))) 1 (fun f => rfl) H
  · exact H.2 c9
theorem b106 {P : zPt} {T : Nat → zX} {Y : zYt} {I : zIt} {A : zAt} {w : Nat → Int64} {p : Nat × Nat} {Q : zR → zH → Prop} {a0 : Int32} (H : ((zslot a0 = true → ∀ k_a0, k_a0 < 3 → a0 = Int32.ofNat k_a0 → Q (.inl (some (.int (Int32.ofNat ((T k_a0).2.2.1))))) (zh (P, T, Y) I A w)) ∧ (zslot a0 = false → Q (.inr 0) (zh (P, T, Y) I A w)))) : zT zm_106 [.ref 0, .int a0] p (zh (P, T, Y) I A w) Q := by
  change zW zm_106 0 [some (.ref 0), some (.int a0)] [] p _ Q
  refine zW_gh 2 [some (.ref 0), some (.int a0)] [.int a0, .ref 0] 2 (fun f => rfl) ?_
  refine zW_cl rfl rfl rfl rfl rfl (s95 ⟨fun c9 k_a0 h_k_a0 e_k_a0 => ?_, fun c9 => ?_⟩)
  · replace H := H.1 c9 k_a0 h_k_a0 e_k_a0
    subst e_k_a0
    change zW zm_106 5 [some (.ref 0), some (.int (Int32.ofNat k_a0))] [.ref (21 + 8 * k_a0)] p _ Q
    refine zW_gf rfl (by have := (show k_a0 < 6 from Nat.lt_trans h_k_a0 (by decide)); omega) (zh_T0 (show k_a0 < 6 from Nat.lt_trans h_k_a0 (by decide))) rfl (v := .int (Int32.ofNat ((T k_a0).2.2.1))) rfl ?_
    exact zW_rh (some (.int (Int32.ofNat ((T k_a0).2.2.1)))) 1 (fun f => rfl) H
  · exact H.2 c9
theorem b107 {P : zPt} {T : Nat → zX} {Y : zYt} {I : zIt} {A : zAt} {w : Nat → Int64} {p : Nat × Nat} {Q : zR → zH → Prop} {a0 a1 a2 a3 : Int32} (H : (zTb T ∧ ((zslot a0 = true ∧ zfil T a0 → ∀ k_a0, k_a0 < 3 → a0 = Int32.ofNat k_a0 → (((zcell (T k_a0) a1 a2) = false → Q (.inr 2) (zh (P, T, Y) I A w)) ∧ ((zcell (T k_a0) a1 a2) = true → ∀ k_a1, k_a1 < 2147483648 → a1 = Int32.ofNat k_a1 → ∀ k_a2, k_a2 < 2147483648 → a2 = Int32.ofNat k_a2 → (((zprt a3) = false → Q (.inr 2) (zh (P, T, Y) I A w)) ∧ ((zprt a3) = true → (zXb (T k_a0) ∧ Q (.inl (some (.int (zpo (zxat (T k_a0) (Int32.ofNat k_a1) (Int32.ofNat k_a2)) a3)))) (zh (P, T, Y) I A w))))))) ∧ ((zslot a0 = false → Q (.inr 0) (zh (P, T, Y) I A w)) ∧ (zslot a0 = true ∧ ¬ zfil T a0 → Q (.inr 1) (zh (P, T, Y) I A w)))))) : zT zm_107 [.ref 0, .int a0, .int a1, .int a2, .int a3] p (zh (P, T, Y) I A w) Q := by
  change zW zm_107 0 [some (.ref 0), some (.int a0), some (.int a1), some (.int a2), some (.int a3), none] [] p _ Q
  refine zW_gh 2 [some (.ref 0), some (.int a0), some (.int a1), some (.int a2), some (.int a3), none] [.int a0, .ref 0] 2 (fun f => rfl) ?_
  obtain ⟨h1, H⟩ := H
  refine zW_cl rfl rfl rfl rfl rfl (s99 h1 ⟨fun c9 k_a0 h_k_a0 e_k_a0 => ?_, fun c9 => ?_, fun c9 => ?_⟩)
  · replace H := H.1 c9 k_a0 h_k_a0 e_k_a0
    subst e_k_a0
    change zW zm_107 5 [some (.ref 0), some (.int (Int32.ofNat k_a0)), some (.int a1), some (.int a2), some (.int a3), none] [.ref (21 + 8 * k_a0)] p _ Q
    refine zW_gh 11 [some (.ref 0), some (.int (Int32.ofNat k_a0)), some (.int a1), some (.int a2), some (.int a3), some (.ref (21 + 8 * k_a0))] [.int a2, .int a1, .ref (21 + 8 * k_a0)] 4 (fun f => rfl) ?_
    refine zW_cv rfl rfl rfl (by have := (show k_a0 < 6 from Nat.lt_trans h_k_a0 (by decide)); omega) (zh_T0 (show k_a0 < 6 from Nat.lt_trans h_k_a0 (by decide))) rfl rfl rfl rfl ((s30 (show k_a0 < 6 from Nat.lt_trans h_k_a0 (by decide))) ?_)
    change zW zm_107 14 [some (.ref 0), some (.int (Int32.ofNat k_a0)), some (.int a1), some (.int a2), some (.int a3), some (.ref (21 + 8 * k_a0))] [.int (zbi (zcell (T k_a0) a1 a2))] p _ Q
    refine zW_bh (zcmp .eq (zbi (zcell (T k_a0) a1 a2)) (0 : Int32)) 29 17 [some (.ref 0), some (.int (Int32.ofNat k_a0)), some (.int a1), some (.int a2), some (.int a3), some (.ref (21 + 8 * k_a0))] [] 1 (fun f => rfl) (fun c => ?_) (fun c => ?_)
    · have c9 : (zcell (T k_a0) a1 a2) = false := ((Bool.not_eq_true' _).mp ((zcB_eq _).symm.trans c))
      replace H := H.1 c9
      refine zW_gh 30 [some (.ref 0), some (.int (Int32.ofNat k_a0)), some (.int a1), some (.int a2), some (.int a3), some (.ref (21 + 8 * k_a0))] [.int (0 : Int32)] 1 (fun f => rfl) ?_
      exact zW_cl rfl rfl rfl rfl rfl (s97f H)
    · have c9 : (zcell (T k_a0) a1 a2) = true := ((Bool.not_eq_false' _).mp ((zcB_eq _).symm.trans c))
      replace H := H.2 c9
      obtain ⟨k_a1, h_k_a1, e_k_a1⟩ := zcell_r c9
      replace H := H k_a1 h_k_a1 e_k_a1
      subst e_k_a1
      obtain ⟨k_a2, h_k_a2, e_k_a2⟩ := zcell_c c9
      replace H := H k_a2 h_k_a2 e_k_a2
      subst e_k_a2
      refine zW_gh 19 [some (.ref 0), some (.int (Int32.ofNat k_a0)), some (.int (Int32.ofNat k_a1)), some (.int (Int32.ofNat k_a2)), some (.int a3), some (.ref (21 + 8 * k_a0))] [.int a3] 1 (fun f => rfl) ?_
      refine zW_cl rfl rfl rfl rfl rfl (s108 ?_)
      change zW zm_107 22 [some (.ref 0), some (.int (Int32.ofNat k_a0)), some (.int (Int32.ofNat k_a1)), some (.int (Int32.ofNat k_a2)), some (.int a3), some (.ref (21 + 8 * k_a0))] [.int (zbi (zprt a3))] p _ Q
      refine zW_bh (zcmp .eq (zbi (zprt a3)) (0 : Int32)) 29 25 [some (.ref 0), some (.int (Int32.ofNat k_a0)), some (.int (Int32.ofNat k_a1)), some (.int (Int32.ofNat k_a2)), some (.int a3), some (.ref (21 + 8 * k_a0))] [] 1 (fun f => rfl) (fun c => ?_) (fun c => ?_)
      · have c9 : (zprt a3) = false := ((Bool.not_eq_true' _).mp ((zcB_eq _).symm.trans c))
        replace H := H.1 c9
        refine zW_gh 30 [some (.ref 0), some (.int (Int32.ofNat k_a0)), some (.int (Int32.ofNat k_a1)), some (.int (Int32.ofNat k_a2)), some (.int a3), some (.ref (21 + 8 * k_a0))] [.int (0 : Int32)] 1 (fun f => rfl) ?_
        exact zW_cl rfl rfl rfl rfl rfl (s97f H)
      · have c9 : (zprt a3) = true := ((Bool.not_eq_false' _).mp ((zcB_eq _).symm.trans c))
        replace H := H.2 c9
        refine zW_gh 30 [some (.ref 0), some (.int (Int32.ofNat k_a0)), some (.int (Int32.ofNat k_a1)), some (.int (Int32.ofNat k_a2)), some (.int a3), some (.ref (21 + 8 * k_a0))] [.int (1 : Int32)] 2 (fun f => rfl) ?_
        refine zW_cl rfl rfl rfl rfl rfl (s97t ?_)
        change zW zm_107 33 [some (.ref 0), some (.int (Int32.ofNat k_a0)), some (.int (Int32.ofNat k_a1)), some (.int (Int32.ofNat k_a2)), some (.int a3), some (.ref (21 + 8 * k_a0))] [] p _ Q
        refine zW_gh 37 [some (.ref 0), some (.int (Int32.ofNat k_a0)), some (.int (Int32.ofNat k_a1)), some (.int (Int32.ofNat k_a2)), some (.int a3), some (.ref (21 + 8 * k_a0))] [.int (Int32.ofNat k_a2), .int (Int32.ofNat k_a1), .ref (21 + 8 * k_a0)] 3 (fun f => rfl) ?_
        obtain ⟨h2, H⟩ := H
        refine zW_cv rfl rfl rfl (by have := (show k_a0 < 6 from Nat.lt_trans h_k_a0 (by decide)); omega) (zh_T0 (show k_a0 < 6 from Nat.lt_trans h_k_a0 (by decide))) rfl rfl rfl rfl ((s31 (show k_a0 < 6 from Nat.lt_trans h_k_a0 (by decide))) h2 ?_)
        change zW zm_107 40 [some (.ref 0), some (.int (Int32.ofNat k_a0)), some (.int (Int32.ofNat k_a1)), some (.int (Int32.ofNat k_a2)), some (.int a3), some (.ref (21 + 8 * k_a0))] [.long (zxat (T k_a0) (Int32.ofNat k_a1) (Int32.ofNat k_a2))] p _ Q
        generalize (zxat (T k_a0) (Int32.ofNat k_a1) (Int32.ofNat k_a2)) = g3 at H ⊢
        refine zW_gh 42 [some (.ref 0), some (.int (Int32.ofNat k_a0)), some (.int (Int32.ofNat k_a1)), some (.int (Int32.ofNat k_a2)), some (.int a3), some (.ref (21 + 8 * k_a0))] [.int a3, .long g3] 1 (fun f => rfl) ?_
        refine zW_cl rfl rfl rfl rfl rfl (s109 ?_)
        change zW zm_107 45 [some (.ref 0), some (.int (Int32.ofNat k_a0)), some (.int (Int32.ofNat k_a1)), some (.int (Int32.ofNat k_a2)), some (.int a3), some (.ref (21 + 8 * k_a0))] [.int (zpo g3 a3)] p _ Q
        generalize (zpo g3 a3) = g4 at H ⊢
        exact zW_rh (some (.int g4)) 1 (fun f => rfl) H
  · exact H.2.1 c9
  · exact H.2.2 c9
theorem b110 {P : zPt} {T : Nat → zX} {Y : zYt} {I : zIt} {A : zAt} {w : Nat → Int64} {p : Nat × Nat} {Q : zR → zH → Prop} {a0 a2 a3 : Int32} {a1 : Bool} (H : (zTb T ∧ ((zslot a0 = true ∧ zfil T a0 → ∀ k_a0, k_a0 < 3 → a0 = Int32.ofNat k_a0 → (((zisl (T k_a0) a1 a2) = false → Q (.inr 2) (zh (P, T, Y) I A w)) ∧ ((zisl (T k_a0) a1 a2) = true → ∀ k_a2, k_a2 < 2147483648 → a2 = Int32.ofNat k_a2 → (((zisl (T k_a0) a1 a3) = false → Q (.inr 2) (zh (P, T, Y) I A w)) ∧ ((zisl (T k_a0) a1 a3) = true → ∀ k_a3, k_a3 < 2147483648 → a3 = Int32.ofNat k_a3 → ((k_a2 = k_a3 → Q (.inr 2) (zh (P, T, Y) I A w)) ∧ (¬ k_a2 = k_a3 → zT zm_39 [.ref (21 + 8 * k_a0), .int (Int32.ofNat (zkd 0 a1)), .int (Int32.ofNat k_a2), .int (Int32.ofNat k_a3), .long (0 : Int64)] p (zh (P, T, Y) I A w) (zK zm_110 56 [none, none, none, none, none, some (.ref (21 + 8 * k_a0))] [] p Q)))))))) ∧ ((zslot a0 = false → Q (.inr 0) (zh (P, T, Y) I A w)) ∧ (zslot a0 = true ∧ ¬ zfil T a0 → Q (.inr 1) (zh (P, T, Y) I A w)))))) : zT zm_110 [.ref 0, .int a0, .int (zbi a1), .int a2, .int a3] p (zh (P, T, Y) I A w) Q := by
  change zW zm_110 0 [some (.ref 0), some (.int a0), some (.int (zbi a1)), some (.int a2), some (.int a3), none] [] p _ Q
  refine zW_gh 2 [some (.ref 0), some (.int a0), some (.int (zbi a1)), some (.int a2), some (.int a3), none] [.int a0, .ref 0] 2 (fun f => rfl) ?_
  obtain ⟨h1, H⟩ := H
  refine zW_cl rfl rfl rfl rfl rfl (s99 h1 ⟨fun c9 k_a0 h_k_a0 e_k_a0 => ?_, fun c9 => ?_, fun c9 => ?_⟩)
  · replace H := H.1 c9 k_a0 h_k_a0 e_k_a0
    subst e_k_a0
    change zW zm_110 5 [some (.ref 0), some (.int (Int32.ofNat k_a0)), some (.int (zbi a1)), some (.int a2), some (.int a3), none] [.ref (21 + 8 * k_a0)] p _ Q
    refine zW_gh 11 [some (.ref 0), some (.int (Int32.ofNat k_a0)), some (.int (zbi a1)), some (.int a2), some (.int a3), some (.ref (21 + 8 * k_a0))] [.int a2, .int (zbi a1), .ref (21 + 8 * k_a0)] 4 (fun f => rfl) ?_
    refine zW_cv rfl rfl rfl (by have := (show k_a0 < 6 from Nat.lt_trans h_k_a0 (by decide)); omega) (zh_T0 (show k_a0 < 6 from Nat.lt_trans h_k_a0 (by decide))) rfl rfl rfl rfl ((s37 (c := a1) (show k_a0 < 6 from Nat.lt_trans h_k_a0 (by decide))) ?_)
    change zW zm_110 14 [some (.ref 0), some (.int (Int32.ofNat k_a0)), some (.int (zbi a1)), some (.int a2), some (.int a3), some (.ref (21 + 8 * k_a0))] [.int (zbi (zisl (T k_a0) a1 a2))] p _ Q
    refine zW_bh (zcmp .eq (zbi (zisl (T k_a0) a1 a2)) (0 : Int32)) 38 17 [some (.ref 0), some (.int (Int32.ofNat k_a0)), some (.int (zbi a1)), some (.int a2), some (.int a3), some (.ref (21 + 8 * k_a0))] [] 1 (fun f => rfl) (fun c => ?_) (fun c => ?_)
    · have c9 : (zisl (T k_a0) a1 a2) = false := ((Bool.not_eq_true' _).mp ((zcB_eq _).symm.trans c))
      replace H := H.1 c9
      refine zW_gh 39 [some (.ref 0), some (.int (Int32.ofNat k_a0)), some (.int (zbi a1)), some (.int a2), some (.int a3), some (.ref (21 + 8 * k_a0))] [.int (0 : Int32)] 1 (fun f => rfl) ?_
      exact zW_cl rfl rfl rfl rfl rfl (s97f H)
    · have c9 : (zisl (T k_a0) a1 a2) = true := ((Bool.not_eq_false' _).mp ((zcB_eq _).symm.trans c))
      replace H := H.2 c9
      obtain ⟨k_a2, h_k_a2, e_k_a2⟩ := zisl_n c9
      replace H := H k_a2 h_k_a2 e_k_a2
      subst e_k_a2
      refine zW_gh 22 [some (.ref 0), some (.int (Int32.ofNat k_a0)), some (.int (zbi a1)), some (.int (Int32.ofNat k_a2)), some (.int a3), some (.ref (21 + 8 * k_a0))] [.int a3, .int (zbi a1), .ref (21 + 8 * k_a0)] 3 (fun f => rfl) ?_
      refine zW_cv rfl rfl rfl (by have := (show k_a0 < 6 from Nat.lt_trans h_k_a0 (by decide)); omega) (zh_T0 (show k_a0 < 6 from Nat.lt_trans h_k_a0 (by decide))) rfl rfl rfl rfl ((s37 (c := a1) (show k_a0 < 6 from Nat.lt_trans h_k_a0 (by decide))) ?_)
      change zW zm_110 25 [some (.ref 0), some (.int (Int32.ofNat k_a0)), some (.int (zbi a1)), some (.int (Int32.ofNat k_a2)), some (.int a3), some (.ref (21 + 8 * k_a0))] [.int (zbi (zisl (T k_a0) a1 a3))] p _ Q
      refine zW_bh (zcmp .eq (zbi (zisl (T k_a0) a1 a3)) (0 : Int32)) 38 28 [some (.ref 0), some (.int (Int32.ofNat k_a0)), some (.int (zbi a1)), some (.int (Int32.ofNat k_a2)), some (.int a3), some (.ref (21 + 8 * k_a0))] [] 1 (fun f => rfl) (fun c => ?_) (fun c => ?_)
      · have c9 : (zisl (T k_a0) a1 a3) = false := ((Bool.not_eq_true' _).mp ((zcB_eq _).symm.trans c))
        replace H := H.1 c9
        refine zW_gh 39 [some (.ref 0), some (.int (Int32.ofNat k_a0)), some (.int (zbi a1)), some (.int (Int32.ofNat k_a2)), some (.int a3), some (.ref (21 + 8 * k_a0))] [.int (0 : Int32)] 1 (fun f => rfl) ?_
        exact zW_cl rfl rfl rfl rfl rfl (s97f H)
      · have c9 : (zisl (T k_a0) a1 a3) = true := ((Bool.not_eq_false' _).mp ((zcB_eq _).symm.trans c))
        replace H := H.2 c9
        obtain ⟨k_a3, h_k_a3, e_k_a3⟩ := zisl_n c9
        replace H := H k_a3 h_k_a3 e_k_a3
        subst e_k_a3
        refine zW_bh (zcmp .eq (Int32.ofNat k_a2) (Int32.ofNat k_a3)) 38 34 [some (.ref 0), some (.int (Int32.ofNat k_a0)), some (.int (zbi a1)), some (.int (Int32.ofNat k_a2)), some (.int (Int32.ofNat k_a3)), some (.ref (21 + 8 * k_a0))] [] 3 (fun f => rfl) (fun c => ?_) (fun c => ?_)
        · have c9 : k_a2 = k_a3 := (of_decide_eq_true ((zcN_eq (a := k_a2) (b := k_a3) rfl rfl h_k_a2 h_k_a3).symm.trans c))
          replace H := H.1 c9
          refine zW_gh 39 [some (.ref 0), some (.int (Int32.ofNat k_a0)), some (.int (zbi a1)), some (.int (Int32.ofNat k_a2)), some (.int (Int32.ofNat k_a3)), some (.ref (21 + 8 * k_a0))] [.int (0 : Int32)] 1 (fun f => rfl) ?_
          exact zW_cl rfl rfl rfl rfl rfl (s97f H)
        · have c9 : ¬ k_a2 = k_a3 := (of_decide_eq_false ((zcN_eq (a := k_a2) (b := k_a3) rfl rfl h_k_a2 h_k_a3).symm.trans c))
          replace H := H.2 c9
          refine zW_gh 39 [some (.ref 0), some (.int (Int32.ofNat k_a0)), some (.int (zbi a1)), some (.int (Int32.ofNat k_a2)), some (.int (Int32.ofNat k_a3)), some (.ref (21 + 8 * k_a0))] [.int (1 : Int32)] 2 (fun f => rfl) ?_
          refine zW_cl rfl rfl rfl rfl rfl (s97t ?_)
          change zW zm_110 42 [some (.ref 0), some (.int (Int32.ofNat k_a0)), some (.int (zbi a1)), some (.int (Int32.ofNat k_a2)), some (.int (Int32.ofNat k_a3)), some (.ref (21 + 8 * k_a0))] [] p _ Q
          refine zW_gh 46 [some (.ref 0), some (.int (Int32.ofNat k_a0)), some (.int (zbi a1)), some (.int (Int32.ofNat k_a2)), some (.int (Int32.ofNat k_a3)), some (.ref (21 + 8 * k_a0))] [.int (zbi a1), .int (0 : Int32), .ref (21 + 8 * k_a0)] 3 (fun f => rfl) ?_
          refine zW_cl rfl rfl rfl rfl rfl ((s111 (c := a1) rfl) ?_)
          change zW zm_110 49 [some (.ref 0), some (.int (Int32.ofNat k_a0)), some (.int (zbi a1)), some (.int (Int32.ofNat k_a2)), some (.int (Int32.ofNat k_a3)), some (.ref (21 + 8 * k_a0))] [.int (Int32.ofNat (zkd 0 a1)), .ref (21 + 8 * k_a0)] p _ Q
          refine zW_gh 53 [some (.ref 0), some (.int (Int32.ofNat k_a0)), some (.int (zbi a1)), some (.int (Int32.ofNat k_a2)), some (.int (Int32.ofNat k_a3)), some (.ref (21 + 8 * k_a0))] [.long (0 : Int64), .int (Int32.ofNat k_a3), .int (Int32.ofNat k_a2), .int (Int32.ofNat (zkd 0 a1)), .ref (21 + 8 * k_a0)] 3 (fun f => rfl) ?_
          refine zW_fg (L' := [none, none, none, none, none, some (.ref (21 + 8 * k_a0))]) (zle_n _ (zle_n _ (zle_n _ (zle_n _ (zle_n _ (zle_s _ zle_nil)))))) ?_
          exact zW_cv rfl rfl rfl (by have := (show k_a0 < 6 from Nat.lt_trans h_k_a0 (by decide)); omega) (zh_T0 (show k_a0 < 6 from Nat.lt_trans h_k_a0 (by decide))) rfl rfl rfl rfl H
  · exact H.2.1 c9
  · exact H.2.2 c9
theorem b110_56 {P : zPt} {T : Nat → zX} {Y : zYt} {I : zIt} {A : zAt} {w : Nat → Int64} {p : Nat × Nat} {Q : zR → zH → Prop} {k_a0 : Nat} (hi_k_a0 : k_a0 < 6) (H : Q (.inl (some (.int (Int32.ofNat ((T k_a0).2.2.2.1))))) (zh (P, T, Y) I A w)) : zW zm_110 56 [none, none, none, none, none, some (.ref (21 + 8 * k_a0))] [] p (zh (P, T, Y) I A w) Q := by
  refine zW_gh 58 [none, none, none, none, none, some (.ref (21 + 8 * k_a0))] [.ref (21 + 8 * k_a0)] 1 (fun f => rfl) ?_
  refine zW_gf rfl (by have := hi_k_a0; omega) (zh_T0 hi_k_a0) rfl (v := .int (Int32.ofNat ((T k_a0).2.2.2.1))) rfl ?_
  exact zW_rh (some (.int (Int32.ofNat ((T k_a0).2.2.2.1)))) 1 (fun f => rfl) H
theorem b112 {P : zPt} {T : Nat → zX} {Y : zYt} {I : zIt} {A : zAt} {w : Nat → Int64} {p : Nat × Nat} {Q : zR → zH → Prop} {a0 a2 a3 a4 a5 : Int32} {a1 : Bool} (H : (zTb T ∧ ((zslot a0 = true ∧ zfil T a0 → ∀ k_a0, k_a0 < 3 → a0 = Int32.ofNat k_a0 → (((zisl (T k_a0) a1 a2) = false → Q (.inr 2) (zh (P, T, Y) I A w)) ∧ ((zisl (T k_a0) a1 a2) = true → ∀ k_a2, k_a2 < 2147483648 → a2 = Int32.ofNat k_a2 → (((zisl (T k_a0) a1 a3) = false → Q (.inr 2) (zh (P, T, Y) I A w)) ∧ ((zisl (T k_a0) a1 a3) = true → ∀ k_a3, k_a3 < 2147483648 → a3 = Int32.ofNat k_a3 → ((k_a2 = k_a3 → Q (.inr 2) (zh (P, T, Y) I A w)) ∧ (¬ k_a2 = k_a3 → zT (zrm ((T k_a0).1) zm_16 zm_1 zm_59) [.ref (zra ((T k_a0).1)), .long ((a4).toInt64), .long ((a5).toInt64)] p (zh (P, T, Y) I A w) (zK zm_112 56 [none, none, some (.int (zbi a1)), some (.int (Int32.ofNat k_a2)), some (.int (Int32.ofNat k_a3)), some (.int a4), some (.int a5), some (.ref (21 + 8 * k_a0))] [] p Q)))))))) ∧ ((zslot a0 = false → Q (.inr 0) (zh (P, T, Y) I A w)) ∧ (zslot a0 = true ∧ ¬ zfil T a0 → Q (.inr 1) (zh (P, T, Y) I A w)))))) : zT zm_112 [.ref 0, .int a0, .int (zbi a1), .int a2, .int a3, .int a4, .int a5] p (zh (P, T, Y) I A w) Q := by
  change zW zm_112 0 [some (.ref 0), some (.int a0), some (.int (zbi a1)), some (.int a2), some (.int a3), some (.int a4), some (.int a5), none] [] p _ Q
  refine zW_gh 2 [some (.ref 0), some (.int a0), some (.int (zbi a1)), some (.int a2), some (.int a3), some (.int a4), some (.int a5), none] [.int a0, .ref 0] 2 (fun f => rfl) ?_
  obtain ⟨h1, H⟩ := H
  refine zW_cl rfl rfl rfl rfl rfl (s99 h1 ⟨fun c9 k_a0 h_k_a0 e_k_a0 => ?_, fun c9 => ?_, fun c9 => ?_⟩)
  · replace H := H.1 c9 k_a0 h_k_a0 e_k_a0
    subst e_k_a0
    change zW zm_112 5 [some (.ref 0), some (.int (Int32.ofNat k_a0)), some (.int (zbi a1)), some (.int a2), some (.int a3), some (.int a4), some (.int a5), none] [.ref (21 + 8 * k_a0)] p _ Q
    refine zW_gh 11 [some (.ref 0), some (.int (Int32.ofNat k_a0)), some (.int (zbi a1)), some (.int a2), some (.int a3), some (.int a4), some (.int a5), some (.ref (21 + 8 * k_a0))] [.int a2, .int (zbi a1), .ref (21 + 8 * k_a0)] 4 (fun f => rfl) ?_
    refine zW_cv rfl rfl rfl (by have := (show k_a0 < 6 from Nat.lt_trans h_k_a0 (by decide)); omega) (zh_T0 (show k_a0 < 6 from Nat.lt_trans h_k_a0 (by decide))) rfl rfl rfl rfl ((s37 (c := a1) (show k_a0 < 6 from Nat.lt_trans h_k_a0 (by decide))) ?_)
    change zW zm_112 14 [some (.ref 0), some (.int (Int32.ofNat k_a0)), some (.int (zbi a1)), some (.int a2), some (.int a3), some (.int a4), some (.int a5), some (.ref (21 + 8 * k_a0))] [.int (zbi (zisl (T k_a0) a1 a2))] p _ Q
    refine zW_bh (zcmp .eq (zbi (zisl (T k_a0) a1 a2)) (0 : Int32)) 38 17 [some (.ref 0), some (.int (Int32.ofNat k_a0)), some (.int (zbi a1)), some (.int a2), some (.int a3), some (.int a4), some (.int a5), some (.ref (21 + 8 * k_a0))] [] 1 (fun f => rfl) (fun c => ?_) (fun c => ?_)
    · have c9 : (zisl (T k_a0) a1 a2) = false := ((Bool.not_eq_true' _).mp ((zcB_eq _).symm.trans c))
      replace H := H.1 c9
      refine zW_gh 39 [some (.ref 0), some (.int (Int32.ofNat k_a0)), some (.int (zbi a1)), some (.int a2), some (.int a3), some (.int a4), some (.int a5), some (.ref (21 + 8 * k_a0))] [.int (0 : Int32)] 1 (fun f => rfl) ?_
      exact zW_cl rfl rfl rfl rfl rfl (s97f H)
    · have c9 : (zisl (T k_a0) a1 a2) = true := ((Bool.not_eq_false' _).mp ((zcB_eq _).symm.trans c))
      replace H := H.2 c9
      obtain ⟨k_a2, h_k_a2, e_k_a2⟩ := zisl_n c9
      replace H := H k_a2 h_k_a2 e_k_a2
      subst e_k_a2
      refine zW_gh 22 [some (.ref 0), some (.int (Int32.ofNat k_a0)), some (.int (zbi a1)), some (.int (Int32.ofNat k_a2)), some (.int a3), some (.int a4), some (.int a5), some (.ref (21 + 8 * k_a0))] [.int a3, .int (zbi a1), .ref (21 + 8 * k_a0)] 3 (fun f => rfl) ?_
      refine zW_cv rfl rfl rfl (by have := (show k_a0 < 6 from Nat.lt_trans h_k_a0 (by decide)); omega) (zh_T0 (show k_a0 < 6 from Nat.lt_trans h_k_a0 (by decide))) rfl rfl rfl rfl ((s37 (c := a1) (show k_a0 < 6 from Nat.lt_trans h_k_a0 (by decide))) ?_)
      change zW zm_112 25 [some (.ref 0), some (.int (Int32.ofNat k_a0)), some (.int (zbi a1)), some (.int (Int32.ofNat k_a2)), some (.int a3), some (.int a4), some (.int a5), some (.ref (21 + 8 * k_a0))] [.int (zbi (zisl (T k_a0) a1 a3))] p _ Q
      refine zW_bh (zcmp .eq (zbi (zisl (T k_a0) a1 a3)) (0 : Int32)) 38 28 [some (.ref 0), some (.int (Int32.ofNat k_a0)), some (.int (zbi a1)), some (.int (Int32.ofNat k_a2)), some (.int a3), some (.int a4), some (.int a5), some (.ref (21 + 8 * k_a0))] [] 1 (fun f => rfl) (fun c => ?_) (fun c => ?_)
      · have c9 : (zisl (T k_a0) a1 a3) = false := ((Bool.not_eq_true' _).mp ((zcB_eq _).symm.trans c))
        replace H := H.1 c9
        refine zW_gh 39 [some (.ref 0), some (.int (Int32.ofNat k_a0)), some (.int (zbi a1)), some (.int (Int32.ofNat k_a2)), some (.int a3), some (.int a4), some (.int a5), some (.ref (21 + 8 * k_a0))] [.int (0 : Int32)] 1 (fun f => rfl) ?_
        exact zW_cl rfl rfl rfl rfl rfl (s97f H)
      · have c9 : (zisl (T k_a0) a1 a3) = true := ((Bool.not_eq_false' _).mp ((zcB_eq _).symm.trans c))
        replace H := H.2 c9
        obtain ⟨k_a3, h_k_a3, e_k_a3⟩ := zisl_n c9
        replace H := H k_a3 h_k_a3 e_k_a3
        subst e_k_a3
        refine zW_bh (zcmp .eq (Int32.ofNat k_a2) (Int32.ofNat k_a3)) 38 34 [some (.ref 0), some (.int (Int32.ofNat k_a0)), some (.int (zbi a1)), some (.int (Int32.ofNat k_a2)), some (.int (Int32.ofNat k_a3)), some (.int a4), some (.int a5), some (.ref (21 + 8 * k_a0))] [] 3 (fun f => rfl) (fun c => ?_) (fun c => ?_)
        · have c9 : k_a2 = k_a3 := (of_decide_eq_true ((zcN_eq (a := k_a2) (b := k_a3) rfl rfl h_k_a2 h_k_a3).symm.trans c))
          replace H := H.1 c9
          refine zW_gh 39 [some (.ref 0), some (.int (Int32.ofNat k_a0)), some (.int (zbi a1)), some (.int (Int32.ofNat k_a2)), some (.int (Int32.ofNat k_a3)), some (.int a4), some (.int a5), some (.ref (21 + 8 * k_a0))] [.int (0 : Int32)] 1 (fun f => rfl) ?_
          exact zW_cl rfl rfl rfl rfl rfl (s97f H)
        · have c9 : ¬ k_a2 = k_a3 := (of_decide_eq_false ((zcN_eq (a := k_a2) (b := k_a3) rfl rfl h_k_a2 h_k_a3).symm.trans c))
          replace H := H.2 c9
          refine zW_gh 39 [some (.ref 0), some (.int (Int32.ofNat k_a0)), some (.int (zbi a1)), some (.int (Int32.ofNat k_a2)), some (.int (Int32.ofNat k_a3)), some (.int a4), some (.int a5), some (.ref (21 + 8 * k_a0))] [.int (1 : Int32)] 2 (fun f => rfl) ?_
          refine zW_cl rfl rfl rfl rfl rfl (s97t ?_)
          change zW zm_112 42 [some (.ref 0), some (.int (Int32.ofNat k_a0)), some (.int (zbi a1)), some (.int (Int32.ofNat k_a2)), some (.int (Int32.ofNat k_a3)), some (.int a4), some (.int a5), some (.ref (21 + 8 * k_a0))] [] p _ Q
          refine zW_gh 44 [some (.ref 0), some (.int (Int32.ofNat k_a0)), some (.int (zbi a1)), some (.int (Int32.ofNat k_a2)), some (.int (Int32.ofNat k_a3)), some (.int a4), some (.int a5), some (.ref (21 + 8 * k_a0))] [.ref (21 + 8 * k_a0)] 1 (fun f => rfl) ?_
          refine zW_gf rfl (by have := (show k_a0 < 6 from Nat.lt_trans h_k_a0 (by decide)); omega) (zh_T0 (show k_a0 < 6 from Nat.lt_trans h_k_a0 (by decide))) rfl (v := .ref (zra ((T k_a0).1))) rfl ?_
          refine zW_gh 53 [some (.ref 0), some (.int (Int32.ofNat k_a0)), some (.int (zbi a1)), some (.int (Int32.ofNat k_a2)), some (.int (Int32.ofNat k_a3)), some (.int a4), some (.int a5), some (.ref (21 + 8 * k_a0))] [.long ((a5).toInt64), .long ((a4).toInt64), .ref (zra ((T k_a0).1))] 4 (fun f => rfl) ?_
          refine zW_fg (L' := [none, none, some (.int (zbi a1)), some (.int (Int32.ofNat k_a2)), some (.int (Int32.ofNat k_a3)), some (.int a4), some (.int a5), some (.ref (21 + 8 * k_a0))]) (zle_n _ (zle_n _ (zle_s _ (zle_s _ (zle_s _ (zle_s _ (zle_s _ (zle_s _ zle_nil)))))))) ?_
          exact zW_cr rfl rfl rfl rfl rfl rfl rfl rfl rfl rfl rfl rfl rfl H
  · exact H.2.1 c9
  · exact H.2.2 c9
theorem b112_56 {P : zPt} {T : Nat → zX} {Y : zYt} {I : zIt} {A : zAt} {w : Nat → Int64} {p : Nat × Nat} {Q : zR → zH → Prop} {x3 x4 k_a0 : Nat} {x5 x6 : Int32} {x2 rv : Bool} (hi_k_a0 : k_a0 < 6) (H : ((rv = true → zT zm_39 [.ref (21 + 8 * k_a0), .int (Int32.ofNat (zkd 1 x2)), .int (Int32.ofNat x3), .int (Int32.ofNat x4), .long (ze64 ((x5).toInt64) ((x6).toInt64))] p (zh (P, T, Y) I A w) (zK zm_112 81 [none, none, none, none, none, none, none, some (.ref (21 + 8 * k_a0))] [] p Q)) ∧ (rv = false → Q (.inr 2) (zh (P, T, Y) I A w)))) : zW zm_112 56 [none, none, some (.int (zbi x2)), some (.int (Int32.ofNat x3)), some (.int (Int32.ofNat x4)), some (.int x5), some (.int x6), some (.ref (21 + 8 * k_a0))] [.int (zbi rv)] p (zh (P, T, Y) I A w) Q := by
  refine zW_cl rfl rfl rfl rfl rfl (s97 ⟨fun c9 => ?_, fun c9 => ?_⟩)
  · replace H := H.1 c9
    change zW zm_112 59 [none, none, some (.int (zbi x2)), some (.int (Int32.ofNat x3)), some (.int (Int32.ofNat x4)), some (.int x5), some (.int x6), some (.ref (21 + 8 * k_a0))] [] p _ Q
    refine zW_gh 63 [none, none, some (.int (zbi x2)), some (.int (Int32.ofNat x3)), some (.int (Int32.ofNat x4)), some (.int x5), some (.int x6), some (.ref (21 + 8 * k_a0))] [.int (zbi x2), .int (1 : Int32), .ref (21 + 8 * k_a0)] 3 (fun f => rfl) ?_
    refine zW_cl rfl rfl rfl rfl rfl ((s111 (c := x2) rfl) ?_)
    change zW zm_112 66 [none, none, some (.int (zbi x2)), some (.int (Int32.ofNat x3)), some (.int (Int32.ofNat x4)), some (.int x5), some (.int x6), some (.ref (21 + 8 * k_a0))] [.int (Int32.ofNat (zkd 1 x2)), .ref (21 + 8 * k_a0)] p _ Q
    refine zW_gh 75 [none, none, some (.int (zbi x2)), some (.int (Int32.ofNat x3)), some (.int (Int32.ofNat x4)), some (.int x5), some (.int x6), some (.ref (21 + 8 * k_a0))] [.long ((x6).toInt64), .long ((x5).toInt64), .int (Int32.ofNat x4), .int (Int32.ofNat x3), .int (Int32.ofNat (zkd 1 x2)), .ref (21 + 8 * k_a0)] 6 (fun f => rfl) ?_
    refine zW_cl rfl rfl rfl rfl rfl (s76 ?_)
    change zW zm_112 78 [none, none, some (.int (zbi x2)), some (.int (Int32.ofNat x3)), some (.int (Int32.ofNat x4)), some (.int x5), some (.int x6), some (.ref (21 + 8 * k_a0))] [.long (ze64 ((x5).toInt64) ((x6).toInt64)), .int (Int32.ofNat x4), .int (Int32.ofNat x3), .int (Int32.ofNat (zkd 1 x2)), .ref (21 + 8 * k_a0)] p _ Q
    generalize (ze64 ((x5).toInt64) ((x6).toInt64)) = g1 at H ⊢
    refine zW_fg (L' := [none, none, none, none, none, none, none, some (.ref (21 + 8 * k_a0))]) (zle_s _ (zle_s _ (zle_n _ (zle_n _ (zle_n _ (zle_n _ (zle_n _ (zle_s _ zle_nil)))))))) ?_
    exact zW_cv rfl rfl rfl (by have := hi_k_a0; omega) (zh_T0 hi_k_a0) rfl rfl rfl rfl H
  · exact H.2 c9
theorem b112_81 {P : zPt} {T : Nat → zX} {Y : zYt} {I : zIt} {A : zAt} {w : Nat → Int64} {p : Nat × Nat} {Q : zR → zH → Prop} {k_a0 : Nat} (hi_k_a0 : k_a0 < 6) (H : Q (.inl (some (.int (Int32.ofNat ((T k_a0).2.2.2.1))))) (zh (P, T, Y) I A w)) : zW zm_112 81 [none, none, none, none, none, none, none, some (.ref (21 + 8 * k_a0))] [] p (zh (P, T, Y) I A w) Q := by
  refine zW_gh 83 [none, none, none, none, none, none, none, some (.ref (21 + 8 * k_a0))] [.ref (21 + 8 * k_a0)] 1 (fun f => rfl) ?_
  refine zW_gf rfl (by have := hi_k_a0; omega) (zh_T0 hi_k_a0) rfl (v := .int (Int32.ofNat ((T k_a0).2.2.2.1))) rfl ?_
  exact zW_rh (some (.int (Int32.ofNat ((T k_a0).2.2.2.1)))) 1 (fun f => rfl) H
theorem b113 {P : zPt} {T : Nat → zX} {Y : zYt} {I : zIt} {A : zAt} {w : Nat → Int64} {p : Nat × Nat} {Q : zR → zH → Prop} {a0 a2 a3 a4 : Int32} {a1 : Bool} (H : (zTb T ∧ ((zslot a0 = true ∧ zfil T a0 → ∀ k_a0, k_a0 < 3 → a0 = Int32.ofNat k_a0 → (((zisl (T k_a0) a1 a2) = false → Q (.inr 2) (zh (P, T, Y) I A w)) ∧ ((zisl (T k_a0) a1 a2) = true → ∀ k_a2, k_a2 < 2147483648 → a2 = Int32.ofNat k_a2 → zT (zrm ((T k_a0).1) zm_16 zm_1 zm_59) [.ref (zra ((T k_a0).1)), .long ((a3).toInt64), .long ((a4).toInt64)] p (zh (P, T, Y) I A w) (zK zm_113 31 [none, none, some (.int (zbi a1)), some (.int (Int32.ofNat k_a2)), some (.int a3), some (.int a4), some (.ref (21 + 8 * k_a0)), none, none] [] p Q)))) ∧ ((zslot a0 = false → Q (.inr 0) (zh (P, T, Y) I A w)) ∧ (zslot a0 = true ∧ ¬ zfil T a0 → Q (.inr 1) (zh (P, T, Y) I A w)))))) : zT zm_113 [.ref 0, .int a0, .int (zbi a1), .int a2, .int a3, .int a4] p (zh (P, T, Y) I A w) Q := by
  change zW zm_113 0 [some (.ref 0), some (.int a0), some (.int (zbi a1)), some (.int a2), some (.int a3), some (.int a4), none, none, none] [] p _ Q
  refine zW_gh 2 [some (.ref 0), some (.int a0), some (.int (zbi a1)), some (.int a2), some (.int a3), some (.int a4), none, none, none] [.int a0, .ref 0] 2 (fun f => rfl) ?_
  obtain ⟨h1, H⟩ := H
  refine zW_cl rfl rfl rfl rfl rfl (s99 h1 ⟨fun c9 k_a0 h_k_a0 e_k_a0 => ?_, fun c9 => ?_, fun c9 => ?_⟩)
  · replace H := H.1 c9 k_a0 h_k_a0 e_k_a0
    subst e_k_a0
    change zW zm_113 5 [some (.ref 0), some (.int (Int32.ofNat k_a0)), some (.int (zbi a1)), some (.int a2), some (.int a3), some (.int a4), none, none, none] [.ref (21 + 8 * k_a0)] p _ Q
    refine zW_gh 11 [some (.ref 0), some (.int (Int32.ofNat k_a0)), some (.int (zbi a1)), some (.int a2), some (.int a3), some (.int a4), some (.ref (21 + 8 * k_a0)), none, none] [.int a2, .int (zbi a1), .ref (21 + 8 * k_a0)] 4 (fun f => rfl) ?_
    refine zW_cv rfl rfl rfl (by have := (show k_a0 < 6 from Nat.lt_trans h_k_a0 (by decide)); omega) (zh_T0 (show k_a0 < 6 from Nat.lt_trans h_k_a0 (by decide))) rfl rfl rfl rfl ((s37 (c := a1) (show k_a0 < 6 from Nat.lt_trans h_k_a0 (by decide))) ?_)
    change zW zm_113 14 [some (.ref 0), some (.int (Int32.ofNat k_a0)), some (.int (zbi a1)), some (.int a2), some (.int a3), some (.int a4), some (.ref (21 + 8 * k_a0)), none, none] [.int (zbi (zisl (T k_a0) a1 a2))] p _ Q
    refine zW_bh (zcmp .eq (zbi (zisl (T k_a0) a1 a2)) (0 : Int32)) 38 17 [some (.ref 0), some (.int (Int32.ofNat k_a0)), some (.int (zbi a1)), some (.int a2), some (.int a3), some (.int a4), some (.ref (21 + 8 * k_a0)), none, none] [] 1 (fun f => rfl) (fun c => ?_) (fun c => ?_)
    · have c9 : (zisl (T k_a0) a1 a2) = false := ((Bool.not_eq_true' _).mp ((zcB_eq _).symm.trans c))
      replace H := H.1 c9
      refine zW_gh 39 [some (.ref 0), some (.int (Int32.ofNat k_a0)), some (.int (zbi a1)), some (.int a2), some (.int a3), some (.int a4), some (.ref (21 + 8 * k_a0)), none, none] [.int (0 : Int32)] 1 (fun f => rfl) ?_
      exact zW_cl rfl rfl rfl rfl rfl (s97f H)
    · have c9 : (zisl (T k_a0) a1 a2) = true := ((Bool.not_eq_false' _).mp ((zcB_eq _).symm.trans c))
      replace H := H.2 c9
      obtain ⟨k_a2, h_k_a2, e_k_a2⟩ := zisl_n c9
      replace H := H k_a2 h_k_a2 e_k_a2
      subst e_k_a2
      refine zW_gh 19 [some (.ref 0), some (.int (Int32.ofNat k_a0)), some (.int (zbi a1)), some (.int (Int32.ofNat k_a2)), some (.int a3), some (.int a4), some (.ref (21 + 8 * k_a0)), none, none] [.ref (21 + 8 * k_a0)] 1 (fun f => rfl) ?_
      refine zW_gf rfl (by have := (show k_a0 < 6 from Nat.lt_trans h_k_a0 (by decide)); omega) (zh_T0 (show k_a0 < 6 from Nat.lt_trans h_k_a0 (by decide))) rfl (v := .ref (zra ((T k_a0).1))) rfl ?_
      refine zW_gh 28 [some (.ref 0), some (.int (Int32.ofNat k_a0)), some (.int (zbi a1)), some (.int (Int32.ofNat k_a2)), some (.int a3), some (.int a4), some (.ref (21 + 8 * k_a0)), none, none] [.long ((a4).toInt64), .long ((a3).toInt64), .ref (zra ((T k_a0).1))] 4 (fun f => rfl) ?_
      refine zW_fg (L' := [none, none, some (.int (zbi a1)), some (.int (Int32.ofNat k_a2)), some (.int a3), some (.int a4), some (.ref (21 + 8 * k_a0)), none, none]) (zle_n _ (zle_n _ (zle_s _ (zle_s _ (zle_s _ (zle_s _ (zle_s _ (zle_s _ (zle_s _ zle_nil))))))))) ?_
      exact zW_cr rfl rfl rfl rfl rfl rfl rfl rfl rfl rfl rfl rfl rfl H
  · exact H.2.1 c9
  · exact H.2.2 c9
theorem b113_31 {P : zPt} {T : Nat → zX} {Y : zYt} {I : zIt} {A : zAt} {w : Nat → Int64} {p : Nat × Nat} {Q : zR → zH → Prop} {x3 k_a0 : Nat} {x4 x5 : Int32} {x2 rv : Bool} (hi_k_a0 : k_a0 < 6) (H : ((rv = false → Q (.inr 2) (zh (P, T, Y) I A w)) ∧ (rv = true → zT zm_79 [.ref (zra ((T k_a0).1)), .long (ze64 ((x4).toInt64) ((x5).toInt64))] p (zh (P, T, Y) I A w) (zK zm_113 63 [none, none, some (.int (zbi x2)), some (.int (Int32.ofNat x3)), none, none, some (.ref (21 + 8 * k_a0)), some (.long (ze64 ((x4).toInt64) ((x5).toInt64))), none] [] p Q)))) : zW zm_113 31 [none, none, some (.int (zbi x2)), some (.int (Int32.ofNat x3)), some (.int x4), some (.int x5), some (.ref (21 + 8 * k_a0)), none, none] [.int (zbi rv)] p (zh (P, T, Y) I A w) Q := by
  refine zW_bh (zcmp .eq (zbi rv) (0 : Int32)) 38 34 [none, none, some (.int (zbi x2)), some (.int (Int32.ofNat x3)), some (.int x4), some (.int x5), some (.ref (21 + 8 * k_a0)), none, none] [] 1 (fun f => rfl) (fun c => ?_) (fun c => ?_)
  · have c9 : rv = false := ((Bool.not_eq_true' _).mp ((zcB_eq _).symm.trans c))
    replace H := H.1 c9
    refine zW_gh 39 [none, none, some (.int (zbi x2)), some (.int (Int32.ofNat x3)), some (.int x4), some (.int x5), some (.ref (21 + 8 * k_a0)), none, none] [.int (0 : Int32)] 1 (fun f => rfl) ?_
    exact zW_cl rfl rfl rfl rfl rfl (s97f H)
  · have c9 : rv = true := ((Bool.not_eq_false' _).mp ((zcB_eq _).symm.trans c))
    replace H := H.2 c9
    refine zW_gh 39 [none, none, some (.int (zbi x2)), some (.int (Int32.ofNat x3)), some (.int x4), some (.int x5), some (.ref (21 + 8 * k_a0)), none, none] [.int (1 : Int32)] 2 (fun f => rfl) ?_
    refine zW_cl rfl rfl rfl rfl rfl (s97t ?_)
    change zW zm_113 42 [none, none, some (.int (zbi x2)), some (.int (Int32.ofNat x3)), some (.int x4), some (.int x5), some (.ref (21 + 8 * k_a0)), none, none] [] p _ Q
    refine zW_gh 48 [none, none, some (.int (zbi x2)), some (.int (Int32.ofNat x3)), some (.int x4), some (.int x5), some (.ref (21 + 8 * k_a0)), none, none] [.long ((x5).toInt64), .long ((x4).toInt64)] 4 (fun f => rfl) ?_
    refine zW_cl rfl rfl rfl rfl rfl (s76 ?_)
    change zW zm_113 51 [none, none, some (.int (zbi x2)), some (.int (Int32.ofNat x3)), some (.int x4), some (.int x5), some (.ref (21 + 8 * k_a0)), none, none] [.long (ze64 ((x4).toInt64) ((x5).toInt64))] p _ Q
    generalize (ze64 ((x4).toInt64) ((x5).toInt64)) = g1 at H ⊢
    refine zW_gh 55 [none, none, some (.int (zbi x2)), some (.int (Int32.ofNat x3)), some (.int x4), some (.int x5), some (.ref (21 + 8 * k_a0)), some (.long g1), none] [.ref (21 + 8 * k_a0)] 2 (fun f => rfl) ?_
    refine zW_gf rfl (by have := hi_k_a0; omega) (zh_T0 hi_k_a0) rfl (v := .ref (zra ((T k_a0).1))) rfl ?_
    refine zW_gh 60 [none, none, some (.int (zbi x2)), some (.int (Int32.ofNat x3)), some (.int x4), some (.int x5), some (.ref (21 + 8 * k_a0)), some (.long g1), none] [.long g1, .ref (zra ((T k_a0).1))] 1 (fun f => rfl) ?_
    refine zW_fg (L' := [none, none, some (.int (zbi x2)), some (.int (Int32.ofNat x3)), none, none, some (.ref (21 + 8 * k_a0)), some (.long g1), none]) (zle_s _ (zle_s _ (zle_s _ (zle_s _ (zle_n _ (zle_n _ (zle_s _ (zle_s _ (zle_s _ zle_nil))))))))) ?_
    exact zW_cr1 rfl rfl rfl rfl rfl rfl rfl rfl rfl H
theorem b113_63 {P : zPt} {T : Nat → zX} {Y : zYt} {I : zIt} {A : zAt} {w : Nat → Int64} {p : Nat × Nat} {Q : zR → zH → Prop} {x3 k_a0 : Nat} {x2 rv : Bool} {x7 : Int64} (hi_k_a0 : k_a0 < 6) (H : ((rv = true → zT zm_39 [.ref (21 + 8 * k_a0), .int (Int32.ofNat (zkd 2 x2)), .int (Int32.ofNat x3), .int (-1 : Int32), .long x7] p (zh (P, T, Y) I A w) (zK zm_113 80 [none, none, none, none, none, none, some (.ref (21 + 8 * k_a0)), none, none] [] p Q)) ∧ (rv = false → Q (.inr 2) (zh (P, T, Y) I A w)))) : zW zm_113 63 [none, none, some (.int (zbi x2)), some (.int (Int32.ofNat x3)), none, none, some (.ref (21 + 8 * k_a0)), some (.long x7), none] [.int (zbi rv)] p (zh (P, T, Y) I A w) Q := by
  refine zW_cl rfl rfl rfl rfl rfl (s97 ⟨fun c9 => ?_, fun c9 => ?_⟩)
  · replace H := H.1 c9
    change zW zm_113 66 [none, none, some (.int (zbi x2)), some (.int (Int32.ofNat x3)), none, none, some (.ref (21 + 8 * k_a0)), some (.long x7), none] [] p _ Q
    refine zW_gh 70 [none, none, some (.int (zbi x2)), some (.int (Int32.ofNat x3)), none, none, some (.ref (21 + 8 * k_a0)), some (.long x7), none] [.int (zbi x2), .int (2 : Int32), .ref (21 + 8 * k_a0)] 3 (fun f => rfl) ?_
    refine zW_cl rfl rfl rfl rfl rfl ((s111 (c := x2) rfl) ?_)
    change zW zm_113 73 [none, none, some (.int (zbi x2)), some (.int (Int32.ofNat x3)), none, none, some (.ref (21 + 8 * k_a0)), some (.long x7), none] [.int (Int32.ofNat (zkd 2 x2)), .ref (21 + 8 * k_a0)] p _ Q
    refine zW_gh 77 [none, none, some (.int (zbi x2)), some (.int (Int32.ofNat x3)), none, none, some (.ref (21 + 8 * k_a0)), some (.long x7), none] [.long x7, .int (-1 : Int32), .int (Int32.ofNat x3), .int (Int32.ofNat (zkd 2 x2)), .ref (21 + 8 * k_a0)] 3 (fun f => rfl) ?_
    refine zW_fg (L' := [none, none, none, none, none, none, some (.ref (21 + 8 * k_a0)), none, none]) (zle_s _ (zle_s _ (zle_n _ (zle_n _ (zle_s _ (zle_s _ (zle_s _ (zle_n _ (zle_s _ zle_nil))))))))) ?_
    exact zW_cv rfl rfl rfl (by have := hi_k_a0; omega) (zh_T0 hi_k_a0) rfl rfl rfl rfl H
  · exact H.2 c9
theorem b113_80 {P : zPt} {T : Nat → zX} {Y : zYt} {I : zIt} {A : zAt} {w : Nat → Int64} {p : Nat × Nat} {Q : zR → zH → Prop} {k_a0 : Nat} (hi_k_a0 : k_a0 < 6) (H : Q (.inl (some (.int (Int32.ofNat ((T k_a0).2.2.2.1))))) (zh (P, T, Y) I A w)) : zW zm_113 80 [none, none, none, none, none, none, some (.ref (21 + 8 * k_a0)), none, none] [] p (zh (P, T, Y) I A w) Q := by
  refine zW_gh 82 [none, none, none, none, none, none, some (.ref (21 + 8 * k_a0)), none, none] [.ref (21 + 8 * k_a0)] 1 (fun f => rfl) ?_
  refine zW_gf rfl (by have := hi_k_a0; omega) (zh_T0 hi_k_a0) rfl (v := .int (Int32.ofNat ((T k_a0).2.2.2.1))) rfl ?_
  exact zW_rh (some (.int (Int32.ofNat ((T k_a0).2.2.2.1)))) 1 (fun f => rfl) H
theorem b114 {P : zPt} {T : Nat → zX} {Y : zYt} {I : zIt} {A : zAt} {w : Nat → Int64} {p : Nat × Nat} {Q : zR → zH → Prop} {a0 : Int32} (H : (zTb T ∧ ((zslot a0 = true ∧ zfil T a0 → ∀ k_a0, k_a0 < 3 → a0 = Int32.ofNat k_a0 → ((T k_a0).2.2.2.1 < 2147483648 ∧ (((T k_a0).2.2.2.1 ≤ 0 → Q (.inr 1) (zh (P, T, Y) I A w)) ∧ (0 < (T k_a0).2.2.2.1 → zT zm_43 [.ref (21 + 8 * k_a0)] p (zh (P, T, Y) I A w) (zK zm_114 25 [none, none, some (.ref (21 + 8 * k_a0))] [] p Q))))) ∧ ((zslot a0 = false → Q (.inr 0) (zh (P, T, Y) I A w)) ∧ (zslot a0 = true ∧ ¬ zfil T a0 → Q (.inr 1) (zh (P, T, Y) I A w)))))) : zT zm_114 [.ref 0, .int a0] p (zh (P, T, Y) I A w) Q := by
  change zW zm_114 0 [some (.ref 0), some (.int a0), none] [] p _ Q
  refine zW_gh 2 [some (.ref 0), some (.int a0), none] [.int a0, .ref 0] 2 (fun f => rfl) ?_
  obtain ⟨h1, H⟩ := H
  refine zW_cl rfl rfl rfl rfl rfl (s99 h1 ⟨fun c9 k_a0 h_k_a0 e_k_a0 => ?_, fun c9 => ?_, fun c9 => ?_⟩)
  · replace H := H.1 c9 k_a0 h_k_a0 e_k_a0
    subst e_k_a0
    change zW zm_114 5 [some (.ref 0), some (.int (Int32.ofNat k_a0)), none] [.ref (21 + 8 * k_a0)] p _ Q
    refine zW_gh 7 [some (.ref 0), some (.int (Int32.ofNat k_a0)), some (.ref (21 + 8 * k_a0))] [.ref (21 + 8 * k_a0)] 2 (fun f => rfl) ?_
    refine zW_gf rfl (by have := (show k_a0 < 6 from Nat.lt_trans h_k_a0 (by decide)); omega) (zh_T0 (show k_a0 < 6 from Nat.lt_trans h_k_a0 (by decide))) rfl (v := .int (Int32.ofNat ((T k_a0).2.2.2.1))) rfl ?_
    obtain ⟨h2, H⟩ := H
    refine zW_bh (zcmp .le (Int32.ofNat ((T k_a0).2.2.2.1)) (0 : Int32)) 17 13 [some (.ref 0), some (.int (Int32.ofNat k_a0)), some (.ref (21 + 8 * k_a0))] [] 1 (fun f => rfl) (fun c => ?_) (fun c => ?_)
    · have c9 : (T k_a0).2.2.2.1 ≤ 0 := (of_decide_eq_true ((zcN_le (a := (T k_a0).2.2.2.1) (b := 0) rfl rfl h2 (by decide)).symm.trans c))
      replace H := H.1 c9
      refine zW_gh 18 [some (.ref 0), some (.int (Int32.ofNat k_a0)), some (.ref (21 + 8 * k_a0))] [.int (0 : Int32)] 1 (fun f => rfl) ?_
      exact zW_cl rfl rfl rfl rfl rfl (s100f H)
    · have c9 : 0 < (T k_a0).2.2.2.1 := (Nat.lt_of_not_le (of_decide_eq_false ((zcN_le (a := (T k_a0).2.2.2.1) (b := 0) rfl rfl h2 (by decide)).symm.trans c)))
      replace H := H.2 c9
      refine zW_gh 18 [some (.ref 0), some (.int (Int32.ofNat k_a0)), some (.ref (21 + 8 * k_a0))] [.int (1 : Int32)] 2 (fun f => rfl) ?_
      refine zW_cl rfl rfl rfl rfl rfl (s100t ?_)
      change zW zm_114 21 [some (.ref 0), some (.int (Int32.ofNat k_a0)), some (.ref (21 + 8 * k_a0))] [] p _ Q
      refine zW_gh 22 [some (.ref 0), some (.int (Int32.ofNat k_a0)), some (.ref (21 + 8 * k_a0))] [.ref (21 + 8 * k_a0)] 1 (fun f => rfl) ?_
      refine zW_fg (L' := [none, none, some (.ref (21 + 8 * k_a0))]) (zle_n _ (zle_n _ (zle_s _ zle_nil))) ?_
      exact zW_cv rfl rfl rfl (by have := (show k_a0 < 6 from Nat.lt_trans h_k_a0 (by decide)); omega) (zh_T0 (show k_a0 < 6 from Nat.lt_trans h_k_a0 (by decide))) rfl rfl rfl rfl H
  · exact H.2.1 c9
  · exact H.2.2 c9
theorem b114_25 {P : zPt} {T : Nat → zX} {Y : zYt} {I : zIt} {A : zAt} {w : Nat → Int64} {p : Nat × Nat} {Q : zR → zH → Prop} {k_a0 : Nat} (hi_k_a0 : k_a0 < 6) (H : Q (.inl (some (.int (Int32.ofNat ((T k_a0).2.2.2.1))))) (zh (P, T, Y) I A w)) : zW zm_114 25 [none, none, some (.ref (21 + 8 * k_a0))] [] p (zh (P, T, Y) I A w) Q := by
  refine zW_gh 26 [none, none, some (.ref (21 + 8 * k_a0))] [.ref (21 + 8 * k_a0)] 1 (fun f => rfl) ?_
  refine zW_gf rfl (by have := hi_k_a0; omega) (zh_T0 hi_k_a0) rfl (v := .int (Int32.ofNat ((T k_a0).2.2.2.1))) rfl ?_
  exact zW_rh (some (.int (Int32.ofNat ((T k_a0).2.2.2.1)))) 1 (fun f => rfl) H
theorem b115 {P : zPt} {T : Nat → zX} {Y : zYt} {I : zIt} {A : zAt} {w : Nat → Int64} {p : Nat × Nat} {Q : zR → zH → Prop} {a0 a1 : Int32} {a2 : Bool} (H : ((zslot a0 = true → ∀ k_a0, k_a0 < 3 → a0 = Int32.ofNat k_a0 → ((zslot a1 = true → ∀ k_a1, k_a1 < 3 → a1 = Int32.ofNat k_a1 → ((T k_a0).2.1 < 2147483648 ∧ (((decide ((T k_a0).2.1 = 0)) = true → Q (.inr 1) (zh (P, T, Y) I A w)) ∧ ((decide ((T k_a0).2.1 = 0)) = false → ((T k_a1).2.1 < 2147483648 ∧ (((decide ((T k_a1).2.1 = 0)) = true → Q (.inr 1) (zh (P, T, Y) I A w)) ∧ ((decide ((T k_a1).2.1 = 0)) = false → ((k_a0 = k_a1 → Q (.inr 1) (zh (P, T, Y) I A w)) ∧ (¬ k_a0 = k_a1 → (((decide (zrno (T k_a0).1 = zrno (T k_a1).1)) = false → Q (.inr 1) (zh (P, T, Y) I A w)) ∧ ((decide (zrno (T k_a0).1 = zrno (T k_a1).1)) = true → ((zlns (T k_a0) a2) < 2147483648 ∧ ((zlns (T k_a1) a2) < 2147483648 ∧ ((¬ (zlns (T k_a0) a2) = (zlns (T k_a1) a2) → Q (.inr 1) (zh (P, T, Y) I A w)) ∧ ((zlns (T k_a0) a2) = (zlns (T k_a1) a2) → zT zm_33 [.ref (21 + 8 * 3), .ref (21 + 8 * k_a1)] p (zh (P, T, Y) I A w) (zK zm_115 85 [some (.ref 0), none, none, some (.int (zbi a2)), some (.ref (21 + 8 * k_a0)), some (.ref (21 + 8 * k_a1)), none] [] p Q)))))))))))))))) ∧ (zslot a1 = false → Q (.inr 0) (zh (P, T, Y) I A w)))) ∧ (zslot a0 = false → Q (.inr 0) (zh (P, T, Y) I A w)))) : zT zm_115 [.ref 0, .int a0, .int a1, .int (zbi a2)] p (zh (P, T, Y) I A w) Q := by
  change zW zm_115 0 [some (.ref 0), some (.int a0), some (.int a1), some (.int (zbi a2)), none, none, none] [] p _ Q
  refine zW_gh 2 [some (.ref 0), some (.int a0), some (.int a1), some (.int (zbi a2)), none, none, none] [.int a0, .ref 0] 2 (fun f => rfl) ?_
  refine zW_cl rfl rfl rfl rfl rfl (s95 ⟨fun c9 k_a0 h_k_a0 e_k_a0 => ?_, fun c9 => ?_⟩)
  · replace H := H.1 c9 k_a0 h_k_a0 e_k_a0
    subst e_k_a0
    change zW zm_115 5 [some (.ref 0), some (.int (Int32.ofNat k_a0)), some (.int a1), some (.int (zbi a2)), none, none, none] [.ref (21 + 8 * k_a0)] p _ Q
    refine zW_gh 9 [some (.ref 0), some (.int (Int32.ofNat k_a0)), some (.int a1), some (.int (zbi a2)), some (.ref (21 + 8 * k_a0)), none, none] [.int a1, .ref 0] 3 (fun f => rfl) ?_
    refine zW_cl rfl rfl rfl rfl rfl (s95 ⟨fun c9 k_a1 h_k_a1 e_k_a1 => ?_, fun c9 => ?_⟩)
    · replace H := H.1 c9 k_a1 h_k_a1 e_k_a1
      subst e_k_a1
      change zW zm_115 12 [some (.ref 0), some (.int (Int32.ofNat k_a0)), some (.int (Int32.ofNat k_a1)), some (.int (zbi a2)), some (.ref (21 + 8 * k_a0)), none, none] [.ref (21 + 8 * k_a1)] p _ Q
      refine zW_gh 16 [some (.ref 0), some (.int (Int32.ofNat k_a0)), some (.int (Int32.ofNat k_a1)), some (.int (zbi a2)), some (.ref (21 + 8 * k_a0)), some (.ref (21 + 8 * k_a1)), none] [.ref (21 + 8 * k_a0)] 2 (fun f => rfl) ?_
      obtain ⟨h1, H⟩ := H
      refine zW_cv rfl rfl rfl (by have := (show k_a0 < 6 from Nat.lt_trans h_k_a0 (by decide)); omega) (zh_T0 (show k_a0 < 6 from Nat.lt_trans h_k_a0 (by decide))) rfl rfl rfl rfl ((s27 (show k_a0 < 6 from Nat.lt_trans h_k_a0 (by decide))) h1 ?_)
      change zW zm_115 19 [some (.ref 0), some (.int (Int32.ofNat k_a0)), some (.int (Int32.ofNat k_a1)), some (.int (zbi a2)), some (.ref (21 + 8 * k_a0)), some (.ref (21 + 8 * k_a1)), none] [.int (zbi (decide ((T k_a0).2.1 = 0)))] p _ Q
      refine zW_bh (zcmp .ne (zbi (decide ((T k_a0).2.1 = 0))) (0 : Int32)) 49 22 [some (.ref 0), some (.int (Int32.ofNat k_a0)), some (.int (Int32.ofNat k_a1)), some (.int (zbi a2)), some (.ref (21 + 8 * k_a0)), some (.ref (21 + 8 * k_a1)), none] [] 1 (fun f => rfl) (fun c => ?_) (fun c => ?_)
      · have c9 : (decide ((T k_a0).2.1 = 0)) = true := ((zcB_ne _).symm.trans c)
        replace H := H.1 c9
        refine zW_gh 50 [some (.ref 0), some (.int (Int32.ofNat k_a0)), some (.int (Int32.ofNat k_a1)), some (.int (zbi a2)), some (.ref (21 + 8 * k_a0)), some (.ref (21 + 8 * k_a1)), none] [.int (0 : Int32)] 1 (fun f => rfl) ?_
        exact zW_cl rfl rfl rfl rfl rfl (s100f H)
      · have c9 : (decide ((T k_a0).2.1 = 0)) = false := ((zcB_ne _).symm.trans c)
        replace H := H.2 c9
        refine zW_gh 24 [some (.ref 0), some (.int (Int32.ofNat k_a0)), some (.int (Int32.ofNat k_a1)), some (.int (zbi a2)), some (.ref (21 + 8 * k_a0)), some (.ref (21 + 8 * k_a1)), none] [.ref (21 + 8 * k_a1)] 1 (fun f => rfl) ?_
        obtain ⟨h2, H⟩ := H
        refine zW_cv rfl rfl rfl (by have := (show k_a1 < 6 from Nat.lt_trans h_k_a1 (by decide)); omega) (zh_T0 (show k_a1 < 6 from Nat.lt_trans h_k_a1 (by decide))) rfl rfl rfl rfl ((s27 (show k_a1 < 6 from Nat.lt_trans h_k_a1 (by decide))) h2 ?_)
        change zW zm_115 27 [some (.ref 0), some (.int (Int32.ofNat k_a0)), some (.int (Int32.ofNat k_a1)), some (.int (zbi a2)), some (.ref (21 + 8 * k_a0)), some (.ref (21 + 8 * k_a1)), none] [.int (zbi (decide ((T k_a1).2.1 = 0)))] p _ Q
        refine zW_bh (zcmp .ne (zbi (decide ((T k_a1).2.1 = 0))) (0 : Int32)) 49 30 [some (.ref 0), some (.int (Int32.ofNat k_a0)), some (.int (Int32.ofNat k_a1)), some (.int (zbi a2)), some (.ref (21 + 8 * k_a0)), some (.ref (21 + 8 * k_a1)), none] [] 1 (fun f => rfl) (fun c => ?_) (fun c => ?_)
        · have c9 : (decide ((T k_a1).2.1 = 0)) = true := ((zcB_ne _).symm.trans c)
          replace H := H.1 c9
          refine zW_gh 50 [some (.ref 0), some (.int (Int32.ofNat k_a0)), some (.int (Int32.ofNat k_a1)), some (.int (zbi a2)), some (.ref (21 + 8 * k_a0)), some (.ref (21 + 8 * k_a1)), none] [.int (0 : Int32)] 1 (fun f => rfl) ?_
          exact zW_cl rfl rfl rfl rfl rfl (s100f H)
        · have c9 : (decide ((T k_a1).2.1 = 0)) = false := ((zcB_ne _).symm.trans c)
          replace H := H.2 c9
          refine zW_bh (zcmp .eq (Int32.ofNat k_a0) (Int32.ofNat k_a1)) 49 35 [some (.ref 0), some (.int (Int32.ofNat k_a0)), some (.int (Int32.ofNat k_a1)), some (.int (zbi a2)), some (.ref (21 + 8 * k_a0)), some (.ref (21 + 8 * k_a1)), none] [] 3 (fun f => rfl) (fun c => ?_) (fun c => ?_)
          · have c9 : k_a0 = k_a1 := (of_decide_eq_true ((zcN_eq (a := k_a0) (b := k_a1) rfl rfl (by omega) (by omega)).symm.trans c))
            replace H := H.1 c9
            refine zW_gh 50 [some (.ref 0), some (.int (Int32.ofNat k_a0)), some (.int (Int32.ofNat k_a1)), some (.int (zbi a2)), some (.ref (21 + 8 * k_a0)), some (.ref (21 + 8 * k_a1)), none] [.int (0 : Int32)] 1 (fun f => rfl) ?_
            exact zW_cl rfl rfl rfl rfl rfl (s100f H)
          · have c9 : ¬ k_a0 = k_a1 := (of_decide_eq_false ((zcN_eq (a := k_a0) (b := k_a1) rfl rfl (by omega) (by omega)).symm.trans c))
            replace H := H.2 c9
            refine zW_gh 39 [some (.ref 0), some (.int (Int32.ofNat k_a0)), some (.int (Int32.ofNat k_a1)), some (.int (zbi a2)), some (.ref (21 + 8 * k_a0)), some (.ref (21 + 8 * k_a1)), none] [.ref (21 + 8 * k_a1), .ref (21 + 8 * k_a0)] 2 (fun f => rfl) ?_
            refine zW_cv rfl rfl rfl (by have := (show k_a0 < 6 from Nat.lt_trans h_k_a0 (by decide)); omega) (zh_T0 (show k_a0 < 6 from Nat.lt_trans h_k_a0 (by decide))) rfl rfl rfl rfl ((s35 (show k_a0 < 6 from Nat.lt_trans h_k_a0 (by decide)) (show k_a1 < 6 from Nat.lt_trans h_k_a1 (by decide))) ?_)
            change zW zm_115 42 [some (.ref 0), some (.int (Int32.ofNat k_a0)), some (.int (Int32.ofNat k_a1)), some (.int (zbi a2)), some (.ref (21 + 8 * k_a0)), some (.ref (21 + 8 * k_a1)), none] [.int (zbi (decide (zrno (T k_a0).1 = zrno (T k_a1).1)))] p _ Q
            refine zW_bh (zcmp .eq (zbi (decide (zrno (T k_a0).1 = zrno (T k_a1).1))) (0 : Int32)) 49 45 [some (.ref 0), some (.int (Int32.ofNat k_a0)), some (.int (Int32.ofNat k_a1)), some (.int (zbi a2)), some (.ref (21 + 8 * k_a0)), some (.ref (21 + 8 * k_a1)), none] [] 1 (fun f => rfl) (fun c => ?_) (fun c => ?_)
            · have c9 : (decide (zrno (T k_a0).1 = zrno (T k_a1).1)) = false := ((Bool.not_eq_true' _).mp ((zcB_eq _).symm.trans c))
              replace H := H.1 c9
              refine zW_gh 50 [some (.ref 0), some (.int (Int32.ofNat k_a0)), some (.int (Int32.ofNat k_a1)), some (.int (zbi a2)), some (.ref (21 + 8 * k_a0)), some (.ref (21 + 8 * k_a1)), none] [.int (0 : Int32)] 1 (fun f => rfl) ?_
              exact zW_cl rfl rfl rfl rfl rfl (s100f H)
            · have c9 : (decide (zrno (T k_a0).1 = zrno (T k_a1).1)) = true := ((Bool.not_eq_false' _).mp ((zcB_eq _).symm.trans c))
              replace H := H.2 c9
              refine zW_gh 50 [some (.ref 0), some (.int (Int32.ofNat k_a0)), some (.int (Int32.ofNat k_a1)), some (.int (zbi a2)), some (.ref (21 + 8 * k_a0)), some (.ref (21 + 8 * k_a1)), none] [.int (1 : Int32)] 2 (fun f => rfl) ?_
              refine zW_cl rfl rfl rfl rfl rfl (s100t ?_)
              change zW zm_115 53 [some (.ref 0), some (.int (Int32.ofNat k_a0)), some (.int (Int32.ofNat k_a1)), some (.int (zbi a2)), some (.ref (21 + 8 * k_a0)), some (.ref (21 + 8 * k_a1)), none] [] p _ Q
              refine zW_gh 56 [some (.ref 0), some (.int (Int32.ofNat k_a0)), some (.int (Int32.ofNat k_a1)), some (.int (zbi a2)), some (.ref (21 + 8 * k_a0)), some (.ref (21 + 8 * k_a1)), none] [.int (zbi a2), .ref (21 + 8 * k_a0)] 2 (fun f => rfl) ?_
              refine zW_cv rfl rfl rfl (by have := (show k_a0 < 6 from Nat.lt_trans h_k_a0 (by decide)); omega) (zh_T0 (show k_a0 < 6 from Nat.lt_trans h_k_a0 (by decide))) rfl rfl rfl rfl ((s38 (c := a2) (show k_a0 < 6 from Nat.lt_trans h_k_a0 (by decide))) ?_)
              change zW zm_115 59 [some (.ref 0), some (.int (Int32.ofNat k_a0)), some (.int (Int32.ofNat k_a1)), some (.int (zbi a2)), some (.ref (21 + 8 * k_a0)), some (.ref (21 + 8 * k_a1)), none] [.int (Int32.ofNat (zlns (T k_a0) a2))] p _ Q
              refine zW_gh 62 [some (.ref 0), some (.int (Int32.ofNat k_a0)), some (.int (Int32.ofNat k_a1)), some (.int (zbi a2)), some (.ref (21 + 8 * k_a0)), some (.ref (21 + 8 * k_a1)), none] [.int (zbi a2), .ref (21 + 8 * k_a1), .int (Int32.ofNat (zlns (T k_a0) a2))] 2 (fun f => rfl) ?_
              refine zW_cv rfl rfl rfl (by have := (show k_a1 < 6 from Nat.lt_trans h_k_a1 (by decide)); omega) (zh_T0 (show k_a1 < 6 from Nat.lt_trans h_k_a1 (by decide))) rfl rfl rfl rfl ((s38 (c := a2) (show k_a1 < 6 from Nat.lt_trans h_k_a1 (by decide))) ?_)
              change zW zm_115 65 [some (.ref 0), some (.int (Int32.ofNat k_a0)), some (.int (Int32.ofNat k_a1)), some (.int (zbi a2)), some (.ref (21 + 8 * k_a0)), some (.ref (21 + 8 * k_a1)), none] [.int (Int32.ofNat (zlns (T k_a1) a2)), .int (Int32.ofNat (zlns (T k_a0) a2))] p _ Q
              obtain ⟨h3, H⟩ := H
              obtain ⟨h4, H⟩ := H
              refine zW_bh (zcmp .ne (Int32.ofNat (zlns (T k_a0) a2)) (Int32.ofNat (zlns (T k_a1) a2))) 72 68 [some (.ref 0), some (.int (Int32.ofNat k_a0)), some (.int (Int32.ofNat k_a1)), some (.int (zbi a2)), some (.ref (21 + 8 * k_a0)), some (.ref (21 + 8 * k_a1)), none] [] 1 (fun f => rfl) (fun c => ?_) (fun c => ?_)
              · have c9 : ¬ (zlns (T k_a0) a2) = (zlns (T k_a1) a2) := (by have c := (zcN_ne (a := (zlns (T k_a0) a2)) (b := (zlns (T k_a1) a2)) rfl rfl h3 h4).symm.trans c; simpa using c)
                replace H := H.1 c9
                refine zW_gh 73 [some (.ref 0), some (.int (Int32.ofNat k_a0)), some (.int (Int32.ofNat k_a1)), some (.int (zbi a2)), some (.ref (21 + 8 * k_a0)), some (.ref (21 + 8 * k_a1)), none] [.int (0 : Int32)] 1 (fun f => rfl) ?_
                exact zW_cl rfl rfl rfl rfl rfl (s100f H)
              · have c9 : (zlns (T k_a0) a2) = (zlns (T k_a1) a2) := (by have c := (zcN_ne (a := (zlns (T k_a0) a2)) (b := (zlns (T k_a1) a2)) rfl rfl h3 h4).symm.trans c; simpa using c)
                replace H := H.2 c9
                refine zW_gh 73 [some (.ref 0), some (.int (Int32.ofNat k_a0)), some (.int (Int32.ofNat k_a1)), some (.int (zbi a2)), some (.ref (21 + 8 * k_a0)), some (.ref (21 + 8 * k_a1)), none] [.int (1 : Int32)] 2 (fun f => rfl) ?_
                refine zW_cl rfl rfl rfl rfl rfl (s100t ?_)
                change zW zm_115 76 [some (.ref 0), some (.int (Int32.ofNat k_a0)), some (.int (Int32.ofNat k_a1)), some (.int (zbi a2)), some (.ref (21 + 8 * k_a0)), some (.ref (21 + 8 * k_a1)), none] [] p _ Q
                refine zW_gh 82 [some (.ref 0), some (.int (Int32.ofNat k_a0)), some (.int (Int32.ofNat k_a1)), some (.int (zbi a2)), some (.ref (21 + 8 * k_a0)), some (.ref (21 + 8 * k_a1)), none] [.ref (21 + 8 * k_a1), .ref (21 + 8 * 3)] 3 (fun f => rfl) ?_
                refine zW_fg (L' := [some (.ref 0), none, none, some (.int (zbi a2)), some (.ref (21 + 8 * k_a0)), some (.ref (21 + 8 * k_a1)), none]) (zle_s _ (zle_n _ (zle_n _ (zle_s _ (zle_s _ (zle_s _ (zle_s _ zle_nil))))))) ?_
                exact zW_cv rfl rfl rfl (by decide) (zh_T0 (by decide : 3 < 6)) rfl rfl rfl rfl H
    · exact H.2 c9
  · exact H.2 c9
theorem b115_85 {P : zPt} {T : Nat → zX} {Y : zYt} {I : zIt} {A : zAt} {w : Nat → Int64} {p : Nat × Nat} {Q : zR → zH → Prop} {k_a0 k_a1 : Nat} {x3 : Bool} (H : zT zm_44 [.ref (21 + 8 * 3), .ref (21 + 8 * k_a0), .int (zbi x3)] p (zh (P, T, Y) I A w) (zK zm_115 95 [some (.ref 0), none, none, none, none, some (.ref (21 + 8 * k_a1)), none] [] p Q)) : zW zm_115 85 [some (.ref 0), none, none, some (.int (zbi x3)), some (.ref (21 + 8 * k_a0)), some (.ref (21 + 8 * k_a1)), none] [] p (zh (P, T, Y) I A w) Q := by
  refine zW_gh 92 [some (.ref 0), none, none, some (.int (zbi x3)), some (.ref (21 + 8 * k_a0)), some (.ref (21 + 8 * k_a1)), none] [.int (zbi x3), .ref (21 + 8 * k_a0), .ref (21 + 8 * 3)] 4 (fun f => rfl) ?_
  refine zW_fg (L' := [some (.ref 0), none, none, none, none, some (.ref (21 + 8 * k_a1)), none]) (zle_s _ (zle_s _ (zle_s _ (zle_n _ (zle_n _ (zle_s _ (zle_s _ zle_nil))))))) ?_
  exact zW_cv rfl rfl rfl (by decide) (zh_T0 (by decide : 3 < 6)) rfl rfl rfl rfl H
theorem b115_95 {P : zPt} {T : Nat → zX} {Y : zYt} {I : zIt} {A : zAt} {w : Nat → Int64} {p : Nat × Nat} {Q : zR → zH → Prop} {k_a1 : Nat} {rv : Int32} (hi_k_a1 : k_a1 < 6) (H : zT zm_33 [.ref (21 + 8 * k_a1), .ref (21 + 8 * 3)] p (zh (P, T, Y) I A w) (zK zm_115 106 [none, none, none, none, none, none, some (.int rv)] [] p Q)) : zW zm_115 95 [some (.ref 0), none, none, none, none, some (.ref (21 + 8 * k_a1)), none] [.int rv] p (zh (P, T, Y) I A w) Q := by
  refine zW_gh 103 [some (.ref 0), none, none, none, none, some (.ref (21 + 8 * k_a1)), some (.int rv)] [.ref (21 + 8 * 3), .ref (21 + 8 * k_a1)] 4 (fun f => rfl) ?_
  refine zW_fg (L' := [none, none, none, none, none, none, some (.int rv)]) (zle_n _ (zle_s _ (zle_s _ (zle_s _ (zle_s _ (zle_n _ (zle_s _ zle_nil))))))) ?_
  exact zW_cv rfl rfl rfl (by have := hi_k_a1; omega) (zh_T0 hi_k_a1) rfl rfl rfl rfl H
theorem b115_106 {P : zPt} {T : Nat → zX} {Y : zYt} {I : zIt} {A : zAt} {w : Nat → Int64} {p : Nat × Nat} {Q : zR → zH → Prop} {x6 : Int32} (H : Q (.inl (some (.int x6))) (zh (P, T, Y) I A w)) : zW zm_115 106 [none, none, none, none, none, none, some (.int x6)] [] p (zh (P, T, Y) I A w) Q := by
  refine zW_gh 108 [none, none, none, none, none, none, some (.int x6)] [.int x6] 1 (fun f => rfl) ?_
  exact zW_rh (some (.int x6)) 1 (fun f => rfl) H
theorem b116 {P : zPt} {T : Nat → zX} {Y : zYt} {I : zIt} {A : zAt} {w : Nat → Int64} {p : Nat × Nat} {Q : zR → zH → Prop} {a0 : Int32} (H : (zTb T ∧ ((zslot a0 = true ∧ zfil T a0 → ∀ k_a0, k_a0 < 3 → a0 = Int32.ofNat k_a0 → zT zm_33 [.ref (21 + 8 * 3), .ref (21 + 8 * k_a0)] p (zh (P, T, Y) I A w) (zK zm_116 14 [some (.ref 0), none, some (.ref (21 + 8 * k_a0)), none] [] p Q)) ∧ ((zslot a0 = false → Q (.inr 0) (zh (P, T, Y) I A w)) ∧ (zslot a0 = true ∧ ¬ zfil T a0 → Q (.inr 1) (zh (P, T, Y) I A w)))))) : zT zm_116 [.ref 0, .int a0] p (zh (P, T, Y) I A w) Q := by
  change zW zm_116 0 [some (.ref 0), some (.int a0), none, none] [] p _ Q
  refine zW_gh 2 [some (.ref 0), some (.int a0), none, none] [.int a0, .ref 0] 2 (fun f => rfl) ?_
  obtain ⟨h1, H⟩ := H
  refine zW_cl rfl rfl rfl rfl rfl (s99 h1 ⟨fun c9 k_a0 h_k_a0 e_k_a0 => ?_, fun c9 => ?_, fun c9 => ?_⟩)
  · replace H := H.1 c9 k_a0 h_k_a0 e_k_a0
    subst e_k_a0
    change zW zm_116 5 [some (.ref 0), some (.int (Int32.ofNat k_a0)), none, none] [.ref (21 + 8 * k_a0)] p _ Q
    refine zW_gh 11 [some (.ref 0), some (.int (Int32.ofNat k_a0)), some (.ref (21 + 8 * k_a0)), none] [.ref (21 + 8 * k_a0), .ref (21 + 8 * 3)] 4 (fun f => rfl) ?_
    refine zW_fg (L' := [some (.ref 0), none, some (.ref (21 + 8 * k_a0)), none]) (zle_s _ (zle_n _ (zle_s _ (zle_s _ zle_nil)))) ?_
    exact zW_cv rfl rfl rfl (by decide) (zh_T0 (by decide : 3 < 6)) rfl rfl rfl rfl H
  · exact H.2.1 c9
  · exact H.2.2 c9
theorem b116_14 {P : zPt} {T : Nat → zX} {Y : zYt} {I : zIt} {A : zAt} {w : Nat → Int64} {p : Nat × Nat} {Q : zR → zH → Prop} {k_a0 : Nat} (H : zT zm_11 [.ref (21 + 8 * 3)] p (zh (P, T, Y) I A w) (zK zm_116 21 [some (.ref 0), none, some (.ref (21 + 8 * k_a0)), none] [] p Q)) : zW zm_116 14 [some (.ref 0), none, some (.ref (21 + 8 * k_a0)), none] [] p (zh (P, T, Y) I A w) Q := by
  refine zW_gh 18 [some (.ref 0), none, some (.ref (21 + 8 * k_a0)), none] [.ref (21 + 8 * 3)] 2 (fun f => rfl) ?_
  exact zW_cl rfl rfl rfl rfl rfl H
theorem b116_21 {P : zPt} {T : Nat → zX} {Y : zYt} {I : zIt} {A : zAt} {w : Nat → Int64} {p : Nat × Nat} {Q : zR → zH → Prop} {k_a0 : Nat} {rv : Int32} (hi_k_a0 : k_a0 < 6) (H : zT zm_33 [.ref (21 + 8 * k_a0), .ref (21 + 8 * 3)] p (zh (P, T, Y) I A w) (zK zm_116 30 [none, none, none, some (.int rv)] [] p Q)) : zW zm_116 21 [some (.ref 0), none, some (.ref (21 + 8 * k_a0)), none] [.int rv] p (zh (P, T, Y) I A w) Q := by
  refine zW_gh 27 [some (.ref 0), none, some (.ref (21 + 8 * k_a0)), some (.int rv)] [.ref (21 + 8 * 3), .ref (21 + 8 * k_a0)] 4 (fun f => rfl) ?_
  refine zW_fg (L' := [none, none, none, some (.int rv)]) (zle_n _ (zle_s _ (zle_n _ (zle_s _ zle_nil)))) ?_
  exact zW_cv rfl rfl rfl (by have := hi_k_a0; omega) (zh_T0 hi_k_a0) rfl rfl rfl rfl H
theorem b116_30 {P : zPt} {T : Nat → zX} {Y : zYt} {I : zIt} {A : zAt} {w : Nat → Int64} {p : Nat × Nat} {Q : zR → zH → Prop} {x3 : Int32} (H : Q (.inl (some (.int x3))) (zh (P, T, Y) I A w)) : zW zm_116 30 [none, none, none, some (.int x3)] [] p (zh (P, T, Y) I A w) Q := by
  refine zW_gh 31 [none, none, none, some (.int x3)] [.int x3] 1 (fun f => rfl) ?_
  exact zW_rh (some (.int x3)) 1 (fun f => rfl) H
theorem b117 {P : zPt} {T : Nat → zX} {Y : zYt} {I : zIt} {A : zAt} {w : Nat → Int64} {p : Nat × Nat} {Q : zR → zH → Prop} {a0 : Int32} (H : (zTb T ∧ ((zslot a0 = true ∧ zfil T a0 → ∀ k_a0, k_a0 < 3 → a0 = Int32.ofNat k_a0 → zT zm_33 [.ref (21 + 8 * 3), .ref (21 + 8 * k_a0)] p (zh (P, T, Y) I A w) (zK zm_117 14 [some (.ref 0), none, some (.ref (21 + 8 * k_a0)), none] [] p Q)) ∧ ((zslot a0 = false → Q (.inr 0) (zh (P, T, Y) I A w)) ∧ (zslot a0 = true ∧ ¬ zfil T a0 → Q (.inr 1) (zh (P, T, Y) I A w)))))) : zT zm_117 [.ref 0, .int a0] p (zh (P, T, Y) I A w) Q := by
  change zW zm_117 0 [some (.ref 0), some (.int a0), none, none] [] p _ Q
  refine zW_gh 2 [some (.ref 0), some (.int a0), none, none] [.int a0, .ref 0] 2 (fun f => rfl) ?_
  obtain ⟨h1, H⟩ := H
  refine zW_cl rfl rfl rfl rfl rfl (s99 h1 ⟨fun c9 k_a0 h_k_a0 e_k_a0 => ?_, fun c9 => ?_, fun c9 => ?_⟩)
  · replace H := H.1 c9 k_a0 h_k_a0 e_k_a0
    subst e_k_a0
    change zW zm_117 5 [some (.ref 0), some (.int (Int32.ofNat k_a0)), none, none] [.ref (21 + 8 * k_a0)] p _ Q
    refine zW_gh 11 [some (.ref 0), some (.int (Int32.ofNat k_a0)), some (.ref (21 + 8 * k_a0)), none] [.ref (21 + 8 * k_a0), .ref (21 + 8 * 3)] 4 (fun f => rfl) ?_
    refine zW_fg (L' := [some (.ref 0), none, some (.ref (21 + 8 * k_a0)), none]) (zle_s _ (zle_n _ (zle_s _ (zle_s _ zle_nil)))) ?_
    exact zW_cv rfl rfl rfl (by decide) (zh_T0 (by decide : 3 < 6)) rfl rfl rfl rfl H
  · exact H.2.1 c9
  · exact H.2.2 c9
theorem b117_14 {P : zPt} {T : Nat → zX} {Y : zYt} {I : zIt} {A : zAt} {w : Nat → Int64} {p : Nat × Nat} {Q : zR → zH → Prop} {k_a0 : Nat} (H : zT zm_82 [.ref (21 + 8 * 3)] p (zh (P, T, Y) I A w) (zK zm_117 21 [some (.ref 0), none, some (.ref (21 + 8 * k_a0)), none] [] p Q)) : zW zm_117 14 [some (.ref 0), none, some (.ref (21 + 8 * k_a0)), none] [] p (zh (P, T, Y) I A w) Q := by
  refine zW_gh 18 [some (.ref 0), none, some (.ref (21 + 8 * k_a0)), none] [.ref (21 + 8 * 3)] 2 (fun f => rfl) ?_
  exact zW_cl rfl rfl rfl rfl rfl H
theorem b117_21 {P : zPt} {T : Nat → zX} {Y : zYt} {I : zIt} {A : zAt} {w : Nat → Int64} {p : Nat × Nat} {Q : zR → zH → Prop} {k_a0 : Nat} {rv : Int32} (hi_k_a0 : k_a0 < 6) (H : zT zm_33 [.ref (21 + 8 * k_a0), .ref (21 + 8 * 3)] p (zh (P, T, Y) I A w) (zK zm_117 30 [none, none, none, some (.int rv)] [] p Q)) : zW zm_117 21 [some (.ref 0), none, some (.ref (21 + 8 * k_a0)), none] [.int rv] p (zh (P, T, Y) I A w) Q := by
  refine zW_gh 27 [some (.ref 0), none, some (.ref (21 + 8 * k_a0)), some (.int rv)] [.ref (21 + 8 * 3), .ref (21 + 8 * k_a0)] 4 (fun f => rfl) ?_
  refine zW_fg (L' := [none, none, none, some (.int rv)]) (zle_n _ (zle_s _ (zle_n _ (zle_s _ zle_nil)))) ?_
  exact zW_cv rfl rfl rfl (by have := hi_k_a0; omega) (zh_T0 hi_k_a0) rfl rfl rfl rfl H
theorem b117_30 {P : zPt} {T : Nat → zX} {Y : zYt} {I : zIt} {A : zAt} {w : Nat → Int64} {p : Nat × Nat} {Q : zR → zH → Prop} {x3 : Int32} (H : Q (.inl (some (.int x3))) (zh (P, T, Y) I A w)) : zW zm_117 30 [none, none, none, some (.int x3)] [] p (zh (P, T, Y) I A w) Q := by
  refine zW_gh 31 [none, none, none, some (.int x3)] [.int x3] 1 (fun f => rfl) ?_
  exact zW_rh (some (.int x3)) 1 (fun f => rfl) H
theorem b118 {P : zPt} {T : Nat → zX} {Y : zYt} {I : zIt} {A : zAt} {w : Nat → Int64} {p : Nat × Nat} {Q : zR → zH → Prop} {a0 : Int32} (H : ((zslot a0 = true → ∀ k_a0, k_a0 < 3 → a0 = Int32.ofNat k_a0 → Q (.inl (some (.int (Int32.ofNat ((T k_a0).2.2.2.1))))) (zh (P, T, Y) I A w)) ∧ (zslot a0 = false → Q (.inr 0) (zh (P, T, Y) I A w)))) : zT zm_118 [.ref 0, .int a0] p (zh (P, T, Y) I A w) Q := by
  change zW zm_118 0 [some (.ref 0), some (.int a0)] [] p _ Q
  refine zW_gh 2 [some (.ref 0), some (.int a0)] [.int a0, .ref 0] 2 (fun f => rfl) ?_
  refine zW_cl rfl rfl rfl rfl rfl (s95 ⟨fun c9 k_a0 h_k_a0 e_k_a0 => ?_, fun c9 => ?_⟩)
  · replace H := H.1 c9 k_a0 h_k_a0 e_k_a0
    subst e_k_a0
    change zW zm_118 5 [some (.ref 0), some (.int (Int32.ofNat k_a0))] [.ref (21 + 8 * k_a0)] p _ Q
    refine zW_gf rfl (by have := (show k_a0 < 6 from Nat.lt_trans h_k_a0 (by decide)); omega) (zh_T0 (show k_a0 < 6 from Nat.lt_trans h_k_a0 (by decide))) rfl (v := .int (Int32.ofNat ((T k_a0).2.2.2.1))) rfl ?_
    exact zW_rh (some (.int (Int32.ofNat ((T k_a0).2.2.2.1)))) 1 (fun f => rfl) H
  · exact H.2 c9
theorem b119 {P : zPt} {T : Nat → zX} {Y : zYt} {I : zIt} {A : zAt} {w : Nat → Int64} {p : Nat × Nat} {Q : zR → zH → Prop} {a0 a1 a2 : Int32} (H : ((zslot a0 = true → ∀ k_a0, k_a0 < 3 → a0 = Int32.ofNat k_a0 → ((a1 < (0 : Int32) → Q (.inr 0) (zh (P, T, Y) I A w)) ∧ (¬ a1 < (0 : Int32) → ∀ k_a1, k_a1 < 2147483648 → a1 = Int32.ofNat k_a1 → ((T k_a0).2.2.2.1 < 2147483648 ∧ ((k_a1 < (T k_a0).2.2.2.1 → ((a2 < (0 : Int32) → Q (.inr 2) (zh (P, T, Y) I A w)) ∧ (¬ a2 < (0 : Int32) → ∀ k_a2, k_a2 < 2147483648 → a2 = Int32.ofNat k_a2 → ((4 < k_a2 → Q (.inr 2) (zh (P, T, Y) I A w)) ∧ (k_a2 ≤ 4 → ((¬ k_a2 = 0 → ((¬ k_a2 = 1 → ((¬ k_a2 = 2 → (k_a1 < 200 ∧ Q (.inl (some (.int (zpo ((T k_a0).2.2.2.2.2.2.2.2.2.2 k_a1) ((Int32.ofNat k_a2) - (3 : Int32)))))) (zh (P, T, Y) I A w))) ∧ (k_a2 = 2 → (k_a1 < 200 ∧ Q (.inl (some (.int ((T k_a0).2.2.2.2.2.2.2.2.2.1 k_a1)))) (zh (P, T, Y) I A w))))) ∧ (k_a2 = 1 → (k_a1 < 200 ∧ Q (.inl (some (.int ((T k_a0).2.2.2.2.2.2.2.2.1 k_a1)))) (zh (P, T, Y) I A w))))) ∧ (k_a2 = 0 → (k_a1 < 200 ∧ Q (.inl (some (.int ((T k_a0).2.2.2.2.2.2.2.1 k_a1)))) (zh (P, T, Y) I A w))))))))) ∧ ((T k_a0).2.2.2.1 ≤ k_a1 → Q (.inr 0) (zh (P, T, Y) I A w))))))) ∧ (zslot a0 = false → Q (.inr 0) (zh (P, T, Y) I A w)))) : zT zm_119 [.ref 0, .int a0, .int a1, .int a2] p (zh (P, T, Y) I A w) Q := by
  change zW zm_119 0 [some (.ref 0), some (.int a0), some (.int a1), some (.int a2), none] [] p _ Q
  refine zW_gh 2 [some (.ref 0), some (.int a0), some (.int a1), some (.int a2), none] [.int a0, .ref 0] 2 (fun f => rfl) ?_
  refine zW_cl rfl rfl rfl rfl rfl (s95 ⟨fun c9 k_a0 h_k_a0 e_k_a0 => ?_, fun c9 => ?_⟩)
  · replace H := H.1 c9 k_a0 h_k_a0 e_k_a0
    subst e_k_a0
    change zW zm_119 5 [some (.ref 0), some (.int (Int32.ofNat k_a0)), some (.int a1), some (.int a2), none] [.ref (21 + 8 * k_a0)] p _ Q
    refine zW_bh (zcmp .lt a1 (0 : Int32)) 20 11 [some (.ref 0), some (.int (Int32.ofNat k_a0)), some (.int a1), some (.int a2), some (.ref (21 + 8 * k_a0))] [] 3 (fun f => rfl) (fun c => ?_) (fun c => ?_)
    · have c9 : a1 < (0 : Int32) := (of_decide_eq_true c)
      replace H := H.1 c9
      exact zW_th 0 1 (fun f => rfl) H
    · have c9 : ¬ a1 < (0 : Int32) := (of_decide_eq_false c)
      replace H := H.2 c9
      obtain ⟨k_a1, h_k_a1, e_k_a1⟩ := zNn c9
      replace H := H k_a1 h_k_a1 e_k_a1
      subst e_k_a1
      refine zW_gh 14 [some (.ref 0), some (.int (Int32.ofNat k_a0)), some (.int (Int32.ofNat k_a1)), some (.int a2), some (.ref (21 + 8 * k_a0))] [.ref (21 + 8 * k_a0), .int (Int32.ofNat k_a1)] 2 (fun f => rfl) ?_
      refine zW_gf rfl (by have := (show k_a0 < 6 from Nat.lt_trans h_k_a0 (by decide)); omega) (zh_T0 (show k_a0 < 6 from Nat.lt_trans h_k_a0 (by decide))) rfl (v := .int (Int32.ofNat ((T k_a0).2.2.2.1))) rfl ?_
      obtain ⟨h1, H⟩ := H
      refine zW_bh (zcmp .lt (Int32.ofNat k_a1) (Int32.ofNat ((T k_a0).2.2.2.1))) 30 20 [some (.ref 0), some (.int (Int32.ofNat k_a0)), some (.int (Int32.ofNat k_a1)), some (.int a2), some (.ref (21 + 8 * k_a0))] [] 1 (fun f => rfl) (fun c => ?_) (fun c => ?_)
      · have c9 : k_a1 < (T k_a0).2.2.2.1 := (of_decide_eq_true ((zcN_lt (a := k_a1) (b := (T k_a0).2.2.2.1) rfl rfl h_k_a1 h1).symm.trans c))
        replace H := H.1 c9
        refine zW_bh (zcmp .lt a2 (0 : Int32)) 43 34 [some (.ref 0), some (.int (Int32.ofNat k_a0)), some (.int (Int32.ofNat k_a1)), some (.int a2), some (.ref (21 + 8 * k_a0))] [] 2 (fun f => rfl) (fun c => ?_) (fun c => ?_)
        · have c9 : a2 < (0 : Int32) := (of_decide_eq_true c)
          replace H := H.1 c9
          refine zW_gh 44 [some (.ref 0), some (.int (Int32.ofNat k_a0)), some (.int (Int32.ofNat k_a1)), some (.int a2), some (.ref (21 + 8 * k_a0))] [.int (0 : Int32)] 1 (fun f => rfl) ?_
          exact zW_cl rfl rfl rfl rfl rfl (s97f H)
        · have c9 : ¬ a2 < (0 : Int32) := (of_decide_eq_false c)
          replace H := H.2 c9
          obtain ⟨k_a2, h_k_a2, e_k_a2⟩ := zNn c9
          replace H := H k_a2 h_k_a2 e_k_a2
          subst e_k_a2
          refine zW_bh (zcmp .gt (Int32.ofNat k_a2) (4 : Int32)) 43 39 [some (.ref 0), some (.int (Int32.ofNat k_a0)), some (.int (Int32.ofNat k_a1)), some (.int (Int32.ofNat k_a2)), some (.ref (21 + 8 * k_a0))] [] 3 (fun f => rfl) (fun c => ?_) (fun c => ?_)
          · have c9 : 4 < k_a2 := (of_decide_eq_true ((zcN_gt (a := k_a2) (b := 4) rfl rfl h_k_a2 (by decide)).symm.trans c))
            replace H := H.1 c9
            refine zW_gh 44 [some (.ref 0), some (.int (Int32.ofNat k_a0)), some (.int (Int32.ofNat k_a1)), some (.int (Int32.ofNat k_a2)), some (.ref (21 + 8 * k_a0))] [.int (0 : Int32)] 1 (fun f => rfl) ?_
            exact zW_cl rfl rfl rfl rfl rfl (s97f H)
          · have c9 : k_a2 ≤ 4 := (Nat.le_of_not_lt (of_decide_eq_false ((zcN_gt (a := k_a2) (b := 4) rfl rfl h_k_a2 (by decide)).symm.trans c)))
            replace H := H.2 c9
            refine zW_gh 44 [some (.ref 0), some (.int (Int32.ofNat k_a0)), some (.int (Int32.ofNat k_a1)), some (.int (Int32.ofNat k_a2)), some (.ref (21 + 8 * k_a0))] [.int (1 : Int32)] 2 (fun f => rfl) ?_
            refine zW_cl rfl rfl rfl rfl rfl (s97t ?_)
            change zW zm_119 47 [some (.ref 0), some (.int (Int32.ofNat k_a0)), some (.int (Int32.ofNat k_a1)), some (.int (Int32.ofNat k_a2)), some (.ref (21 + 8 * k_a0))] [] p _ Q
            refine zW_bh (zcmp .ne (Int32.ofNat k_a2) (0 : Int32)) 59 51 [some (.ref 0), some (.int (Int32.ofNat k_a0)), some (.int (Int32.ofNat k_a1)), some (.int (Int32.ofNat k_a2)), some (.ref (21 + 8 * k_a0))] [] 2 (fun f => rfl) (fun c => ?_) (fun c => ?_)
            · have c9 : ¬ k_a2 = 0 := (by have c := (zcN_ne (a := k_a2) (b := 0) rfl rfl h_k_a2 (by decide)).symm.trans c; simpa using c)
              replace H := H.1 c9
              refine zW_bh (zcmp .ne (Int32.ofNat k_a2) (1 : Int32)) 72 64 [some (.ref 0), some (.int (Int32.ofNat k_a0)), some (.int (Int32.ofNat k_a1)), some (.int (Int32.ofNat k_a2)), some (.ref (21 + 8 * k_a0))] [] 3 (fun f => rfl) (fun c => ?_) (fun c => ?_)
              · have c9 : ¬ k_a2 = 1 := (by have c := (zcN_ne (a := k_a2) (b := 1) rfl rfl h_k_a2 (by decide)).symm.trans c; simpa using c)
                replace H := H.1 c9
                refine zW_bh (zcmp .ne (Int32.ofNat k_a2) (2 : Int32)) 85 77 [some (.ref 0), some (.int (Int32.ofNat k_a0)), some (.int (Int32.ofNat k_a1)), some (.int (Int32.ofNat k_a2)), some (.ref (21 + 8 * k_a0))] [] 3 (fun f => rfl) (fun c => ?_) (fun c => ?_)
                · have c9 : ¬ k_a2 = 2 := (by have c := (zcN_ne (a := k_a2) (b := 2) rfl rfl h_k_a2 (by decide)).symm.trans c; simpa using c)
                  replace H := H.1 c9
                  refine zW_gh 87 [some (.ref 0), some (.int (Int32.ofNat k_a0)), some (.int (Int32.ofNat k_a1)), some (.int (Int32.ofNat k_a2)), some (.ref (21 + 8 * k_a0))] [.ref (21 + 8 * k_a0)] 1 (fun f => rfl) ?_
                  refine zW_gf rfl (by have := (show k_a0 < 6 from Nat.lt_trans h_k_a0 (by decide)); omega) (zh_T0 (show k_a0 < 6 from Nat.lt_trans h_k_a0 (by decide))) rfl (v := .ref (21 + 8 * k_a0 + 7)) rfl ?_
                  refine zW_gh 91 [some (.ref 0), some (.int (Int32.ofNat k_a0)), some (.int (Int32.ofNat k_a1)), some (.int (Int32.ofNat k_a2)), some (.ref (21 + 8 * k_a0))] [.int (Int32.ofNat k_a1), .ref (21 + 8 * k_a0 + 7)] 1 (fun f => rfl) ?_
                  obtain ⟨h2, H⟩ := H
                  refine zW_lald rfl (by have := (show k_a0 < 6 from Nat.lt_trans h_k_a0 (by decide)); omega) (zh_T (c := 7) (show k_a0 < 6 from Nat.lt_trans h_k_a0 (by decide)) (by decide)) (by decide) rfl h2 ?_
                  refine zW_gh 95 [some (.ref 0), some (.int (Int32.ofNat k_a0)), some (.int (Int32.ofNat k_a1)), some (.int (Int32.ofNat k_a2)), some (.ref (21 + 8 * k_a0))] [.int ((Int32.ofNat k_a2) - (3 : Int32)), .long ((T k_a0).2.2.2.2.2.2.2.2.2.2 k_a1)] 3 (fun f => rfl) ?_
                  refine zW_cl rfl rfl rfl rfl rfl (s109 ?_)
                  change zW zm_119 98 [some (.ref 0), some (.int (Int32.ofNat k_a0)), some (.int (Int32.ofNat k_a1)), some (.int (Int32.ofNat k_a2)), some (.ref (21 + 8 * k_a0))] [.int (zpo ((T k_a0).2.2.2.2.2.2.2.2.2.2 k_a1) ((Int32.ofNat k_a2) - (3 : Int32)))] p _ Q
                  generalize (zpo ((T k_a0).2.2.2.2.2.2.2.2.2.2 k_a1) ((Int32.ofNat k_a2) - (3 : Int32))) = g3 at H ⊢
                  exact zW_rh (some (.int g3)) 1 (fun f => rfl) H
                · have c9 : k_a2 = 2 := (by have c := (zcN_ne (a := k_a2) (b := 2) rfl rfl h_k_a2 (by decide)).symm.trans c; simpa using c)
                  replace H := H.2 c9
                  refine zW_gh 79 [some (.ref 0), some (.int (Int32.ofNat k_a0)), some (.int (Int32.ofNat k_a1)), some (.int (Int32.ofNat k_a2)), some (.ref (21 + 8 * k_a0))] [.ref (21 + 8 * k_a0)] 1 (fun f => rfl) ?_
                  refine zW_gf rfl (by have := (show k_a0 < 6 from Nat.lt_trans h_k_a0 (by decide)); omega) (zh_T0 (show k_a0 < 6 from Nat.lt_trans h_k_a0 (by decide))) rfl (v := .ref (21 + 8 * k_a0 + 6)) rfl ?_
                  refine zW_gh 83 [some (.ref 0), some (.int (Int32.ofNat k_a0)), some (.int (Int32.ofNat k_a1)), some (.int (Int32.ofNat k_a2)), some (.ref (21 + 8 * k_a0))] [.int (Int32.ofNat k_a1), .ref (21 + 8 * k_a0 + 6)] 1 (fun f => rfl) ?_
                  obtain ⟨h4, H⟩ := H
                  refine zW_iald rfl (by have := (show k_a0 < 6 from Nat.lt_trans h_k_a0 (by decide)); omega) (zh_T (c := 6) (show k_a0 < 6 from Nat.lt_trans h_k_a0 (by decide)) (by decide)) (by decide) rfl h4 ?_
                  exact zW_rh (some (.int ((T k_a0).2.2.2.2.2.2.2.2.2.1 k_a1))) 1 (fun f => rfl) H
              · have c9 : k_a2 = 1 := (by have c := (zcN_ne (a := k_a2) (b := 1) rfl rfl h_k_a2 (by decide)).symm.trans c; simpa using c)
                replace H := H.2 c9
                refine zW_gh 66 [some (.ref 0), some (.int (Int32.ofNat k_a0)), some (.int (Int32.ofNat k_a1)), some (.int (Int32.ofNat k_a2)), some (.ref (21 + 8 * k_a0))] [.ref (21 + 8 * k_a0)] 1 (fun f => rfl) ?_
                refine zW_gf rfl (by have := (show k_a0 < 6 from Nat.lt_trans h_k_a0 (by decide)); omega) (zh_T0 (show k_a0 < 6 from Nat.lt_trans h_k_a0 (by decide))) rfl (v := .ref (21 + 8 * k_a0 + 5)) rfl ?_
                refine zW_gh 70 [some (.ref 0), some (.int (Int32.ofNat k_a0)), some (.int (Int32.ofNat k_a1)), some (.int (Int32.ofNat k_a2)), some (.ref (21 + 8 * k_a0))] [.int (Int32.ofNat k_a1), .ref (21 + 8 * k_a0 + 5)] 1 (fun f => rfl) ?_
                obtain ⟨h5, H⟩ := H
                refine zW_iald rfl (by have := (show k_a0 < 6 from Nat.lt_trans h_k_a0 (by decide)); omega) (zh_T (c := 5) (show k_a0 < 6 from Nat.lt_trans h_k_a0 (by decide)) (by decide)) (by decide) rfl h5 ?_
                exact zW_rh (some (.int ((T k_a0).2.2.2.2.2.2.2.2.1 k_a1))) 1 (fun f => rfl) H
            · have c9 : k_a2 = 0 := (by have c := (zcN_ne (a := k_a2) (b := 0) rfl rfl h_k_a2 (by decide)).symm.trans c; simpa using c)
              replace H := H.2 c9
              refine zW_gh 53 [some (.ref 0), some (.int (Int32.ofNat k_a0)), some (.int (Int32.ofNat k_a1)), some (.int (Int32.ofNat k_a2)), some (.ref (21 + 8 * k_a0))] [.ref (21 + 8 * k_a0)] 1 (fun f => rfl) ?_
              refine zW_gf rfl (by have := (show k_a0 < 6 from Nat.lt_trans h_k_a0 (by decide)); omega) (zh_T0 (show k_a0 < 6 from Nat.lt_trans h_k_a0 (by decide))) rfl (v := .ref (21 + 8 * k_a0 + 4)) rfl ?_
              refine zW_gh 57 [some (.ref 0), some (.int (Int32.ofNat k_a0)), some (.int (Int32.ofNat k_a1)), some (.int (Int32.ofNat k_a2)), some (.ref (21 + 8 * k_a0))] [.int (Int32.ofNat k_a1), .ref (21 + 8 * k_a0 + 4)] 1 (fun f => rfl) ?_
              obtain ⟨h6, H⟩ := H
              refine zW_iald rfl (by have := (show k_a0 < 6 from Nat.lt_trans h_k_a0 (by decide)); omega) (zh_T (c := 4) (show k_a0 < 6 from Nat.lt_trans h_k_a0 (by decide)) (by decide)) (by decide) rfl h6 ?_
              exact zW_rh (some (.int ((T k_a0).2.2.2.2.2.2.2.1 k_a1))) 1 (fun f => rfl) H
      · have c9 : (T k_a0).2.2.2.1 ≤ k_a1 := (Nat.le_of_not_lt (of_decide_eq_false ((zcN_lt (a := k_a1) (b := (T k_a0).2.2.2.1) rfl rfl h_k_a1 h1).symm.trans c)))
        replace H := H.2 c9
        exact zW_th 0 1 (fun f => rfl) H
  · exact H.2 c9
theorem b120 {P : zPt} {T : Nat → zX} {Y : zYt} {I : zIt} {A : zAt} {w : Nat → Int64} {p : Nat × Nat} {Q : zR → zH → Prop} {a0 a1 a2 a3 a4 : Int32} (H : (zTb T ∧ ((zslot a0 = true ∧ zfil T a0 → ∀ k_a0, k_a0 < 3 → a0 = Int32.ofNat k_a0 → ((a1 < (0 : Int32) → Q (.inr 2) (zh (P, T, Y) I A w)) ∧ (¬ a1 < (0 : Int32) → ∀ k_a1, k_a1 < 2147483648 → a1 = Int32.ofNat k_a1 → ((T k_a0).2.2.2.1 < 2147483648 ∧ (((T k_a0).2.2.2.1 < k_a1 → Q (.inr 2) (zh (P, T, Y) I A w)) ∧ (k_a1 ≤ (T k_a0).2.2.2.1 → (((zcell (T k_a0) a2 a3) = false → Q (.inr 2) (zh (P, T, Y) I A w)) ∧ ((zcell (T k_a0) a2 a3) = true → ∀ k_a2, k_a2 < 2147483648 → a2 = Int32.ofNat k_a2 → ∀ k_a3, k_a3 < 2147483648 → a3 = Int32.ofNat k_a3 → (((zprt a4) = false → Q (.inr 2) (zh (P, T, Y) I A w)) ∧ ((zprt a4) = true → zT zm_45 [.ref (21 + 8 * 3), .ref (21 + 8 * k_a0), .int (Int32.ofNat k_a1)] p (zh (P, T, Y) I A w) (zK zm_120 65 [some (.ref 0), none, none, some (.int (Int32.ofNat k_a2)), some (.int (Int32.ofNat k_a3)), some (.int a4), none] [] p Q))))))))))) ∧ ((zslot a0 = false → Q (.inr 0) (zh (P, T, Y) I A w)) ∧ (zslot a0 = true ∧ ¬ zfil T a0 → Q (.inr 1) (zh (P, T, Y) I A w)))))) : zT zm_120 [.ref 0, .int a0, .int a1, .int a2, .int a3, .int a4] p (zh (P, T, Y) I A w) Q := by
  change zW zm_120 0 [some (.ref 0), some (.int a0), some (.int a1), some (.int a2), some (.int a3), some (.int a4), none] [] p _ Q
  refine zW_gh 2 [some (.ref 0), some (.int a0), some (.int a1), some (.int a2), some (.int a3), some (.int a4), none] [.int a0, .ref 0] 2 (fun f => rfl) ?_
  obtain ⟨h1, H⟩ := H
  refine zW_cl rfl rfl rfl rfl rfl (s99 h1 ⟨fun c9 k_a0 h_k_a0 e_k_a0 => ?_, fun c9 => ?_, fun c9 => ?_⟩)
  · replace H := H.1 c9 k_a0 h_k_a0 e_k_a0
    subst e_k_a0
    change zW zm_120 5 [some (.ref 0), some (.int (Int32.ofNat k_a0)), some (.int a1), some (.int a2), some (.int a3), some (.int a4), none] [.ref (21 + 8 * k_a0)] p _ Q
    refine zW_bh (zcmp .lt a1 (0 : Int32)) 24 11 [some (.ref 0), some (.int (Int32.ofNat k_a0)), some (.int a1), some (.int a2), some (.int a3), some (.int a4), some (.ref (21 + 8 * k_a0))] [] 3 (fun f => rfl) (fun c => ?_) (fun c => ?_)
    · have c9 : a1 < (0 : Int32) := (of_decide_eq_true c)
      replace H := H.1 c9
      refine zW_gh 25 [some (.ref 0), some (.int (Int32.ofNat k_a0)), some (.int a1), some (.int a2), some (.int a3), some (.int a4), some (.ref (21 + 8 * k_a0))] [.int (0 : Int32)] 1 (fun f => rfl) ?_
      exact zW_cl rfl rfl rfl rfl rfl (s97f H)
    · have c9 : ¬ a1 < (0 : Int32) := (of_decide_eq_false c)
      replace H := H.2 c9
      obtain ⟨k_a1, h_k_a1, e_k_a1⟩ := zNn c9
      replace H := H k_a1 h_k_a1 e_k_a1
      subst e_k_a1
      refine zW_gh 14 [some (.ref 0), some (.int (Int32.ofNat k_a0)), some (.int (Int32.ofNat k_a1)), some (.int a2), some (.int a3), some (.int a4), some (.ref (21 + 8 * k_a0))] [.ref (21 + 8 * k_a0), .int (Int32.ofNat k_a1)] 2 (fun f => rfl) ?_
      refine zW_gf rfl (by have := (show k_a0 < 6 from Nat.lt_trans h_k_a0 (by decide)); omega) (zh_T0 (show k_a0 < 6 from Nat.lt_trans h_k_a0 (by decide))) rfl (v := .int (Int32.ofNat ((T k_a0).2.2.2.1))) rfl ?_
      obtain ⟨h2, H⟩ := H
      refine zW_bh (zcmp .gt (Int32.ofNat k_a1) (Int32.ofNat ((T k_a0).2.2.2.1))) 24 20 [some (.ref 0), some (.int (Int32.ofNat k_a0)), some (.int (Int32.ofNat k_a1)), some (.int a2), some (.int a3), some (.int a4), some (.ref (21 + 8 * k_a0))] [] 1 (fun f => rfl) (fun c => ?_) (fun c => ?_)
      · have c9 : (T k_a0).2.2.2.1 < k_a1 := (of_decide_eq_true ((zcN_gt (a := k_a1) (b := (T k_a0).2.2.2.1) rfl rfl h_k_a1 h2).symm.trans c))
        replace H := H.1 c9
        refine zW_gh 25 [some (.ref 0), some (.int (Int32.ofNat k_a0)), some (.int (Int32.ofNat k_a1)), some (.int a2), some (.int a3), some (.int a4), some (.ref (21 + 8 * k_a0))] [.int (0 : Int32)] 1 (fun f => rfl) ?_
        exact zW_cl rfl rfl rfl rfl rfl (s97f H)
      · have c9 : k_a1 ≤ (T k_a0).2.2.2.1 := (Nat.le_of_not_lt (of_decide_eq_false ((zcN_gt (a := k_a1) (b := (T k_a0).2.2.2.1) rfl rfl h_k_a1 h2).symm.trans c)))
        replace H := H.2 c9
        refine zW_gh 25 [some (.ref 0), some (.int (Int32.ofNat k_a0)), some (.int (Int32.ofNat k_a1)), some (.int a2), some (.int a3), some (.int a4), some (.ref (21 + 8 * k_a0))] [.int (1 : Int32)] 2 (fun f => rfl) ?_
        refine zW_cl rfl rfl rfl rfl rfl (s97t ?_)
        change zW zm_120 28 [some (.ref 0), some (.int (Int32.ofNat k_a0)), some (.int (Int32.ofNat k_a1)), some (.int a2), some (.int a3), some (.int a4), some (.ref (21 + 8 * k_a0))] [] p _ Q
        refine zW_gh 33 [some (.ref 0), some (.int (Int32.ofNat k_a0)), some (.int (Int32.ofNat k_a1)), some (.int a2), some (.int a3), some (.int a4), some (.ref (21 + 8 * k_a0))] [.int a3, .int a2, .ref (21 + 8 * k_a0)] 3 (fun f => rfl) ?_
        refine zW_cv rfl rfl rfl (by have := (show k_a0 < 6 from Nat.lt_trans h_k_a0 (by decide)); omega) (zh_T0 (show k_a0 < 6 from Nat.lt_trans h_k_a0 (by decide))) rfl rfl rfl rfl ((s30 (show k_a0 < 6 from Nat.lt_trans h_k_a0 (by decide))) ?_)
        change zW zm_120 36 [some (.ref 0), some (.int (Int32.ofNat k_a0)), some (.int (Int32.ofNat k_a1)), some (.int a2), some (.int a3), some (.int a4), some (.ref (21 + 8 * k_a0))] [.int (zbi (zcell (T k_a0) a2 a3))] p _ Q
        refine zW_bh (zcmp .eq (zbi (zcell (T k_a0) a2 a3)) (0 : Int32)) 51 39 [some (.ref 0), some (.int (Int32.ofNat k_a0)), some (.int (Int32.ofNat k_a1)), some (.int a2), some (.int a3), some (.int a4), some (.ref (21 + 8 * k_a0))] [] 1 (fun f => rfl) (fun c => ?_) (fun c => ?_)
        · have c9 : (zcell (T k_a0) a2 a3) = false := ((Bool.not_eq_true' _).mp ((zcB_eq _).symm.trans c))
          replace H := H.1 c9
          refine zW_gh 52 [some (.ref 0), some (.int (Int32.ofNat k_a0)), some (.int (Int32.ofNat k_a1)), some (.int a2), some (.int a3), some (.int a4), some (.ref (21 + 8 * k_a0))] [.int (0 : Int32)] 1 (fun f => rfl) ?_
          exact zW_cl rfl rfl rfl rfl rfl (s97f H)
        · have c9 : (zcell (T k_a0) a2 a3) = true := ((Bool.not_eq_false' _).mp ((zcB_eq _).symm.trans c))
          replace H := H.2 c9
          obtain ⟨k_a2, h_k_a2, e_k_a2⟩ := zcell_r c9
          replace H := H k_a2 h_k_a2 e_k_a2
          subst e_k_a2
          obtain ⟨k_a3, h_k_a3, e_k_a3⟩ := zcell_c c9
          replace H := H k_a3 h_k_a3 e_k_a3
          subst e_k_a3
          refine zW_gh 41 [some (.ref 0), some (.int (Int32.ofNat k_a0)), some (.int (Int32.ofNat k_a1)), some (.int (Int32.ofNat k_a2)), some (.int (Int32.ofNat k_a3)), some (.int a4), some (.ref (21 + 8 * k_a0))] [.int a4] 1 (fun f => rfl) ?_
          refine zW_cl rfl rfl rfl rfl rfl (s108 ?_)
          change zW zm_120 44 [some (.ref 0), some (.int (Int32.ofNat k_a0)), some (.int (Int32.ofNat k_a1)), some (.int (Int32.ofNat k_a2)), some (.int (Int32.ofNat k_a3)), some (.int a4), some (.ref (21 + 8 * k_a0))] [.int (zbi (zprt a4))] p _ Q
          refine zW_bh (zcmp .eq (zbi (zprt a4)) (0 : Int32)) 51 47 [some (.ref 0), some (.int (Int32.ofNat k_a0)), some (.int (Int32.ofNat k_a1)), some (.int (Int32.ofNat k_a2)), some (.int (Int32.ofNat k_a3)), some (.int a4), some (.ref (21 + 8 * k_a0))] [] 1 (fun f => rfl) (fun c => ?_) (fun c => ?_)
          · have c9 : (zprt a4) = false := ((Bool.not_eq_true' _).mp ((zcB_eq _).symm.trans c))
            replace H := H.1 c9
            refine zW_gh 52 [some (.ref 0), some (.int (Int32.ofNat k_a0)), some (.int (Int32.ofNat k_a1)), some (.int (Int32.ofNat k_a2)), some (.int (Int32.ofNat k_a3)), some (.int a4), some (.ref (21 + 8 * k_a0))] [.int (0 : Int32)] 1 (fun f => rfl) ?_
            exact zW_cl rfl rfl rfl rfl rfl (s97f H)
          · have c9 : (zprt a4) = true := ((Bool.not_eq_false' _).mp ((zcB_eq _).symm.trans c))
            replace H := H.2 c9
            refine zW_gh 52 [some (.ref 0), some (.int (Int32.ofNat k_a0)), some (.int (Int32.ofNat k_a1)), some (.int (Int32.ofNat k_a2)), some (.int (Int32.ofNat k_a3)), some (.int a4), some (.ref (21 + 8 * k_a0))] [.int (1 : Int32)] 2 (fun f => rfl) ?_
            refine zW_cl rfl rfl rfl rfl rfl (s97t ?_)
            change zW zm_120 55 [some (.ref 0), some (.int (Int32.ofNat k_a0)), some (.int (Int32.ofNat k_a1)), some (.int (Int32.ofNat k_a2)), some (.int (Int32.ofNat k_a3)), some (.int a4), some (.ref (21 + 8 * k_a0))] [] p _ Q
            refine zW_gh 62 [some (.ref 0), some (.int (Int32.ofNat k_a0)), some (.int (Int32.ofNat k_a1)), some (.int (Int32.ofNat k_a2)), some (.int (Int32.ofNat k_a3)), some (.int a4), some (.ref (21 + 8 * k_a0))] [.int (Int32.ofNat k_a1), .ref (21 + 8 * k_a0), .ref (21 + 8 * 3)] 4 (fun f => rfl) ?_
            refine zW_fg (L' := [some (.ref 0), none, none, some (.int (Int32.ofNat k_a2)), some (.int (Int32.ofNat k_a3)), some (.int a4), none]) (zle_s _ (zle_n _ (zle_n _ (zle_s _ (zle_s _ (zle_s _ (zle_n _ zle_nil))))))) ?_
            exact zW_cv rfl rfl rfl (by decide) (zh_T0 (by decide : 3 < 6)) rfl rfl rfl rfl H
  · exact H.2.1 c9
  · exact H.2.2 c9
theorem b120_65 {P : zPt} {T : Nat → zX} {Y : zYt} {I : zIt} {A : zAt} {w : Nat → Int64} {p : Nat × Nat} {Q : zR → zH → Prop} {x3 x4 : Nat} {x5 : Int32} (H : (zXb (T 3) ∧ Q (.inl (some (.int (zpo (zxat (T 3) (Int32.ofNat x3) (Int32.ofNat x4)) x5)))) (zh (P, T, Y) I A w))) : zW zm_120 65 [some (.ref 0), none, none, some (.int (Int32.ofNat x3)), some (.int (Int32.ofNat x4)), some (.int x5), none] [] p (zh (P, T, Y) I A w) Q := by
  refine zW_gh 72 [some (.ref 0), none, none, some (.int (Int32.ofNat x3)), some (.int (Int32.ofNat x4)), some (.int x5), none] [.int (Int32.ofNat x4), .int (Int32.ofNat x3), .ref (21 + 8 * 3)] 4 (fun f => rfl) ?_
  obtain ⟨h1, H⟩ := H
  refine zW_cv rfl rfl rfl (by decide) (zh_T0 (by decide : 3 < 6)) rfl rfl rfl rfl ((s31 (by decide : 3 < 6)) h1 ?_)
  change zW zm_120 75 [some (.ref 0), none, none, some (.int (Int32.ofNat x3)), some (.int (Int32.ofNat x4)), some (.int x5), none] [.long (zxat (T 3) (Int32.ofNat x3) (Int32.ofNat x4))] p _ Q
  generalize (zxat (T 3) (Int32.ofNat x3) (Int32.ofNat x4)) = g2 at H ⊢
  refine zW_gh 77 [some (.ref 0), none, none, some (.int (Int32.ofNat x3)), some (.int (Int32.ofNat x4)), some (.int x5), none] [.int x5, .long g2] 1 (fun f => rfl) ?_
  refine zW_cl rfl rfl rfl rfl rfl (s109 ?_)
  change zW zm_120 80 [some (.ref 0), none, none, some (.int (Int32.ofNat x3)), some (.int (Int32.ofNat x4)), some (.int x5), none] [.int (zpo g2 x5)] p _ Q
  generalize (zpo g2 x5) = g3 at H ⊢
  exact zW_rh (some (.int g3)) 1 (fun f => rfl) H
theorem b122 {P : zPt} {T : Nat → zX} {Y : zYt} {I : zIt} {A : zAt} {w : Nat → Int64} {p : Nat × Nat} {Q : zR → zH → Prop} {a0 : Nat} (H : zT zm_28 [.ref (21 + 8 * 5), .ref (zra ((T 3).1)), .int (Int32.ofNat ((T 3).2.2.1)), .int (1 : Int32)] p (zh (P, T, Y) I A w) (zK zm_122 24 [some (.ref 0), some (.int (Int32.ofNat a0)), some (.ref (zra ((T 3).1))), none, none, none, none, none] [] p Q)) : zT zm_122 [.ref 0, .int (Int32.ofNat a0)] p (zh (P, T, Y) I A w) Q := by
  change zW zm_122 0 [some (.ref 0), some (.int (Int32.ofNat a0)), none, none, none, none, none, none] [] p _ Q
  refine zW_gh 4 [some (.ref 0), some (.int (Int32.ofNat a0)), none, none, none, none, none, none] [.ref (21 + 8 * 3)] 2 (fun f => rfl) ?_
  refine zW_gf rfl (by decide) (zh_T0 (by decide : 3 < 6)) rfl (v := .ref (zra ((T 3).1))) rfl ?_
  refine zW_gh 17 [some (.ref 0), some (.int (Int32.ofNat a0)), some (.ref (zra ((T 3).1))), none, none, none, none, none] [.ref (21 + 8 * 3), .ref (zra ((T 3).1)), .ref (21 + 8 * 5)] 6 (fun f => rfl) ?_
  refine zW_gf rfl (by decide) (zh_T0 (by decide : 3 < 6)) rfl (v := .int (Int32.ofNat ((T 3).2.2.1))) rfl ?_
  refine zW_gh 21 [some (.ref 0), some (.int (Int32.ofNat a0)), some (.ref (zra ((T 3).1))), none, none, none, none, none] [.int (1 : Int32), .int (Int32.ofNat ((T 3).2.2.1)), .ref (zra ((T 3).1)), .ref (21 + 8 * 5)] 1 (fun f => rfl) ?_
  exact zW_cv rfl rfl rfl (by decide) (zh_T0 (by decide : 5 < 6)) rfl rfl rfl rfl H
theorem b122_24 {P : zPt} {T : Nat → zX} {Y : zYt} {I : zIt} {A : zAt} {w : Nat → Int64} {p : Nat × Nat} {Q : zR → zH → Prop} {x1 x2 : Nat} (H : zW zm_122 26 [some (.ref 0), some (.int (Int32.ofNat x1)), some (.ref (zra x2)), some (.int (Int32.ofNat 0)), none, none, none, none] [] p (zh (P, T, Y) I A w) Q) : zW zm_122 24 [some (.ref 0), some (.int (Int32.ofNat x1)), some (.ref (zra x2)), none, none, none, none, none] [] p (zh (P, T, Y) I A w) Q := by
  refine zW_gh 26 [some (.ref 0), some (.int (Int32.ofNat x1)), some (.ref (zra x2)), some (.int (0 : Int32)), none, none, none, none] [] 2 (fun f => rfl) ?_
  exact H
theorem b122_26 {P : zPt} {T : Nat → zX} {Y : zYt} {I : zIt} {A : zAt} {w : Nat → Int64} {p : Nat × Nat} {Q : zR → zH → Prop} {x1 x3 x2 : Nat} (H : (x3 < 2147483648 ∧ ((T 4).2.1 < 2147483648 ∧ (((T 4).2.1 ≤ x3 → Q (.inl (some (.int (1 : Int32)))) (zh (P, T, Y) I A w)) ∧ (x3 < (T 4).2.1 → (zXb (T 4) ∧ (x1 < 2147483648 ∧ ((x3 < x1 → (zXb (T 3) ∧ zT zm_81 [.ref (zra x2), .long (zxat (T 4) (Int32.ofNat x3) (0 : Int32)), .long (zxat (T 3) (Int32.ofNat x3) (Int32.ofNat x3))] p (zh (P, T, Y) I A w) (zK zm_122 81 [some (.ref 0), some (.int (Int32.ofNat x1)), some (.ref (zra x2)), some (.int (Int32.ofNat x3)), some (.long (zxat (T 4) (Int32.ofNat x3) (0 : Int32))), none, some (.long (zxat (T 3) (Int32.ofNat x3) (Int32.ofNat x3))), none] [] p Q))) ∧ (x1 ≤ x3 → (((zxat (T 4) (Int32.ofNat x3) (0 : Int32)) = (0 : Int64) → zW zm_122 26 [some (.ref 0), some (.int (Int32.ofNat x1)), some (.ref (zra x2)), some (.int (Int32.ofNat (x3 + 1))), none, none, none, none] [] p (zh (P, T, Y) I A w) Q) ∧ (¬ (zxat (T 4) (Int32.ofNat x3) (0 : Int32)) = (0 : Int64) → Q (.inl (some (.int (0 : Int32)))) (zh (P, T, Y) I A w)))))))))))) : zW zm_122 26 [some (.ref 0), some (.int (Int32.ofNat x1)), some (.ref (zra x2)), some (.int (Int32.ofNat x3)), none, none, none, none] [] p (zh (P, T, Y) I A w) Q := by
  refine zW_gh 31 [some (.ref 0), some (.int (Int32.ofNat x1)), some (.ref (zra x2)), some (.int (Int32.ofNat x3)), none, none, none, none] [.ref (21 + 8 * 4), .int (Int32.ofNat x3)] 3 (fun f => rfl) ?_
  refine zW_gf rfl (by decide) (zh_T0 (by decide : 4 < 6)) rfl (v := .int (Int32.ofNat ((T 4).2.1))) rfl ?_
  obtain ⟨h1, H⟩ := H
  obtain ⟨h2, H⟩ := H
  refine zW_bh (zcmp .ge (Int32.ofNat x3) (Int32.ofNat ((T 4).2.1))) 111 37 [some (.ref 0), some (.int (Int32.ofNat x1)), some (.ref (zra x2)), some (.int (Int32.ofNat x3)), none, none, none, none] [] 1 (fun f => rfl) (fun c => ?_) (fun c => ?_)
  · have c9 : (T 4).2.1 ≤ x3 := (of_decide_eq_true ((zcN_ge (a := x3) (b := (T 4).2.1) rfl rfl h1 h2).symm.trans c))
    replace H := H.1 c9
    refine zW_gh 112 [some (.ref 0), some (.int (Int32.ofNat x1)), some (.ref (zra x2)), some (.int (Int32.ofNat x3)), none, none, none, none] [.int (1 : Int32)] 1 (fun f => rfl) ?_
    exact zW_rh (some (.int (1 : Int32))) 1 (fun f => rfl) H
  · have c9 : x3 < (T 4).2.1 := (Nat.lt_of_not_le (of_decide_eq_false ((zcN_ge (a := x3) (b := (T 4).2.1) rfl rfl h1 h2).symm.trans c)))
    replace H := H.2 c9
    refine zW_gh 43 [some (.ref 0), some (.int (Int32.ofNat x1)), some (.ref (zra x2)), some (.int (Int32.ofNat x3)), none, none, none, none] [.int (0 : Int32), .int (Int32.ofNat x3), .ref (21 + 8 * 4)] 4 (fun f => rfl) ?_
    obtain ⟨h3, H⟩ := H
    refine zW_cv rfl rfl rfl (by decide) (zh_T0 (by decide : 4 < 6)) rfl rfl rfl rfl ((s31 (by decide : 4 < 6)) h3 ?_)
    change zW zm_122 46 [some (.ref 0), some (.int (Int32.ofNat x1)), some (.ref (zra x2)), some (.int (Int32.ofNat x3)), none, none, none, none] [.long (zxat (T 4) (Int32.ofNat x3) (0 : Int32))] p _ Q
    generalize (zxat (T 4) (Int32.ofNat x3) (0 : Int32)) = g4 at H ⊢
    obtain ⟨h5, H⟩ := H
    refine zW_bh (zcmp .lt (Int32.ofNat x3) (Int32.ofNat x1)) 62 53 [some (.ref 0), some (.int (Int32.ofNat x1)), some (.ref (zra x2)), some (.int (Int32.ofNat x3)), some (.long g4), none, none, none] [] 4 (fun f => rfl) (fun c => ?_) (fun c => ?_)
    · have c9 : x3 < x1 := (of_decide_eq_true ((zcN_lt (a := x3) (b := x1) rfl rfl h1 h5).symm.trans c))
      replace H := H.1 c9
      refine zW_gh 68 [some (.ref 0), some (.int (Int32.ofNat x1)), some (.ref (zra x2)), some (.int (Int32.ofNat x3)), some (.long g4), none, none, none] [.int (Int32.ofNat x3), .int (Int32.ofNat x3), .ref (21 + 8 * 3)] 4 (fun f => rfl) ?_
      obtain ⟨h6, H⟩ := H
      refine zW_cv rfl rfl rfl (by decide) (zh_T0 (by decide : 3 < 6)) rfl rfl rfl rfl ((s31 (by decide : 3 < 6)) h6 ?_)
      change zW zm_122 71 [some (.ref 0), some (.int (Int32.ofNat x1)), some (.ref (zra x2)), some (.int (Int32.ofNat x3)), some (.long g4), none, none, none] [.long (zxat (T 3) (Int32.ofNat x3) (Int32.ofNat x3))] p _ Q
      generalize (zxat (T 3) (Int32.ofNat x3) (Int32.ofNat x3)) = g7 at H ⊢
      refine zW_gh 78 [some (.ref 0), some (.int (Int32.ofNat x1)), some (.ref (zra x2)), some (.int (Int32.ofNat x3)), some (.long g4), none, some (.long g7), none] [.long g7, .long g4, .ref (zra x2)] 4 (fun f => rfl) ?_
      exact zW_cr1 rfl rfl rfl rfl rfl rfl rfl rfl rfl H
    · have c9 : x1 ≤ x3 := (Nat.le_of_not_lt (of_decide_eq_false ((zcN_lt (a := x3) (b := x1) rfl rfl h1 h5).symm.trans c)))
      replace H := H.2 c9
      refine zW_bh (zcmp .eq (lg_cmp g4 (0 : Int64)) (0 : Int32)) 105 60 [some (.ref 0), some (.int (Int32.ofNat x1)), some (.ref (zra x2)), some (.int (Int32.ofNat x3)), some (.long g4), none, none, none] [] 4 (fun f => rfl) (fun c => ?_) (fun c => ?_)
      · have c9 : g4 = (0 : Int64) := (of_decide_eq_true ((zcL_eq _ _).symm.trans c))
        replace H := H.1 c9
        refine zW_inc [some (.ref 0), some (.int (Int32.ofNat x1)), some (.ref (zra x2)), some (.int ((Int32.ofNat x3) + (1 : Int32))), some (.long g4), none, none, none] rfl rfl rfl ?_
        rw [show ((Int32.ofNat x3) + (1 : Int32)) = Int32.ofNat (x3 + 1) from (zN_a rfl rfl)]
        refine zW_gh 26 [some (.ref 0), some (.int (Int32.ofNat x1)), some (.ref (zra x2)), some (.int (Int32.ofNat (x3 + 1))), some (.long g4), none, none, none] [] 1 (fun f => rfl) ?_
        refine zW_fg (L' := [some (.ref 0), some (.int (Int32.ofNat x1)), some (.ref (zra x2)), some (.int (Int32.ofNat (x3 + 1))), none, none, none, none]) (zle_s _ (zle_s _ (zle_s _ (zle_s _ (zle_n _ (zle_s _ (zle_s _ (zle_s _ zle_nil)))))))) ?_
        exact H
      · have c9 : ¬ g4 = (0 : Int64) := (of_decide_eq_false ((zcL_eq _ _).symm.trans c))
        replace H := H.2 c9
        refine zW_gh 61 [some (.ref 0), some (.int (Int32.ofNat x1)), some (.ref (zra x2)), some (.int (Int32.ofNat x3)), some (.long g4), none, none, none] [.int (0 : Int32)] 1 (fun f => rfl) ?_
        exact zW_rh (some (.int (0 : Int32))) 1 (fun f => rfl) H
theorem b122_81 {P : zPt} {T : Nat → zX} {Y : zYt} {I : zIt} {A : zAt} {w : Nat → Int64} {p : Nat × Nat} {Q : zR → zH → Prop} {x1 x3 x2 : Nat} {x4 x6 rv : Int64} (H : ((rv = (0 : Int64) → zT (zrm x2 zm_21 zm_6 zm_67) [.ref (zra x2), .long x4, .long x6] p (zh (P, T, Y) I A w) (zK zm_122 102 [some (.ref 0), some (.int (Int32.ofNat x1)), some (.ref (zra x2)), some (.int (Int32.ofNat x3)), none, none, none, none] [.int (Int32.ofNat 0), .int (Int32.ofNat x3), .ref (21 + 8 * 5)] p Q)) ∧ (¬ rv = (0 : Int64) → Q (.inl (some (.int (0 : Int32)))) (zh (P, T, Y) I A w)))) : zW zm_122 81 [some (.ref 0), some (.int (Int32.ofNat x1)), some (.ref (zra x2)), some (.int (Int32.ofNat x3)), some (.long x4), none, some (.long x6), none] [.long rv] p (zh (P, T, Y) I A w) Q := by
  refine zW_bh (zcmp .eq (lg_cmp rv (0 : Int64)) (0 : Int32)) 88 86 [some (.ref 0), some (.int (Int32.ofNat x1)), some (.ref (zra x2)), some (.int (Int32.ofNat x3)), some (.long x4), none, some (.long x6), none] [] 3 (fun f => rfl) (fun c => ?_) (fun c => ?_)
  · have c9 : rv = (0 : Int64) := (of_decide_eq_true ((zcL_eq _ _).symm.trans c))
    replace H := H.1 c9
    refine zW_gh 99 [some (.ref 0), some (.int (Int32.ofNat x1)), some (.ref (zra x2)), some (.int (Int32.ofNat x3)), some (.long x4), none, some (.long x6), none] [.long x6, .long x4, .ref (zra x2), .int (0 : Int32), .int (Int32.ofNat x3), .ref (21 + 8 * 5)] 7 (fun f => rfl) ?_
    refine zW_fg (L' := [some (.ref 0), some (.int (Int32.ofNat x1)), some (.ref (zra x2)), some (.int (Int32.ofNat x3)), none, none, none, none]) (zle_s _ (zle_s _ (zle_s _ (zle_s _ (zle_n _ (zle_s _ (zle_n _ (zle_s _ zle_nil)))))))) ?_
    exact zW_cr rfl rfl rfl rfl rfl rfl rfl rfl rfl rfl rfl rfl rfl H
  · have c9 : ¬ rv = (0 : Int64) := (of_decide_eq_false ((zcL_eq _ _).symm.trans c))
    replace H := H.2 c9
    refine zW_gh 87 [some (.ref 0), some (.int (Int32.ofNat x1)), some (.ref (zra x2)), some (.int (Int32.ofNat x3)), some (.long x4), none, some (.long x6), none] [.int (0 : Int32)] 1 (fun f => rfl) ?_
    exact zW_rh (some (.int (0 : Int32))) 1 (fun f => rfl) H
theorem b122_102 {P : zPt} {T : Nat → zX} {Y : zYt} {I : zIt} {A : zAt} {w : Nat → Int64} {p : Nat × Nat} {Q : zR → zH → Prop} {x1 x3 s0 s1 x2 : Nat} {rv : Int64} (H : zT zm_32 [.ref (21 + 8 * 5), .int (Int32.ofNat s1), .int (Int32.ofNat s0), .long rv] p (zh (P, T, Y) I A w) (zK zm_122 105 [some (.ref 0), some (.int (Int32.ofNat x1)), some (.ref (zra x2)), some (.int (Int32.ofNat x3)), none, none, none, none] [] p Q)) : zW zm_122 102 [some (.ref 0), some (.int (Int32.ofNat x1)), some (.ref (zra x2)), some (.int (Int32.ofNat x3)), none, none, none, none] [.long rv, .int (Int32.ofNat s0), .int (Int32.ofNat s1), .ref (21 + 8 * 5)] p (zh (P, T, Y) I A w) Q := by
  exact zW_cv rfl rfl rfl (by decide) (zh_T0 (by decide : 5 < 6)) rfl rfl rfl rfl H
theorem b122_105 {P : zPt} {T : Nat → zX} {Y : zYt} {I : zIt} {A : zAt} {w : Nat → Int64} {p : Nat × Nat} {Q : zR → zH → Prop} {x1 x3 x2 : Nat} (H : zW zm_122 26 [some (.ref 0), some (.int (Int32.ofNat x1)), some (.ref (zra x2)), some (.int (Int32.ofNat (x3 + 1))), none, none, none, none] [] p (zh (P, T, Y) I A w) Q) : zW zm_122 105 [some (.ref 0), some (.int (Int32.ofNat x1)), some (.ref (zra x2)), some (.int (Int32.ofNat x3)), none, none, none, none] [] p (zh (P, T, Y) I A w) Q := by
  refine zW_inc [some (.ref 0), some (.int (Int32.ofNat x1)), some (.ref (zra x2)), some (.int ((Int32.ofNat x3) + (1 : Int32))), none, none, none, none] rfl rfl rfl ?_
  rw [show ((Int32.ofNat x3) + (1 : Int32)) = Int32.ofNat (x3 + 1) from (zN_a rfl rfl)]
  refine zW_gh 26 [some (.ref 0), some (.int (Int32.ofNat x1)), some (.ref (zra x2)), some (.int (Int32.ofNat (x3 + 1))), none, none, none, none] [] 1 (fun f => rfl) ?_
  exact H
set_option maxRecDepth 20000 in
theorem b121 {P : zPt} {T : Nat → zX} {Y : zYt} {I : zIt} {A : zAt} {w : Nat → Int64} {p : Nat × Nat} {Q : zR → zH → Prop} {a0 a1 a2 : Int32} (H : ((zslot a2 = true → ∀ k_a2, k_a2 < 3 → a2 = Int32.ofNat k_a2 → ((zslot a0 = true → ∀ k_a0, k_a0 < 3 → a0 = Int32.ofNat k_a0 → ((zslot a1 = true → ∀ k_a1, k_a1 < 3 → a1 = Int32.ofNat k_a1 → ((T k_a0).2.1 < 2147483648 ∧ (((decide ((T k_a0).2.1 = 0)) = true → Q (.inr 1) (zh (P, T, Y) I A w)) ∧ ((decide ((T k_a0).2.1 = 0)) = false → ((T k_a1).2.1 < 2147483648 ∧ (((decide ((T k_a1).2.1 = 0)) = true → Q (.inr 1) (zh (P, T, Y) I A w)) ∧ ((decide ((T k_a1).2.1 = 0)) = false → (((decide (zrno (T k_a0).1 = zrno (T k_a1).1)) = false → Q (.inr 1) (zh (P, T, Y) I A w)) ∧ ((decide (zrno (T k_a0).1 = zrno (T k_a1).1)) = true → ((T k_a1).2.2.1 < 2147483648 ∧ ((¬ (T k_a1).2.2.1 = 1 → Q (.inr 1) (zh (P, T, Y) I A w)) ∧ ((T k_a1).2.2.1 = 1 → ((T k_a1).2.1 < 2147483648 ∧ ((T k_a0).2.1 < 2147483648 ∧ ((¬ (T k_a1).2.1 = (T k_a0).2.1 → Q (.inr 1) (zh (P, T, Y) I A w)) ∧ ((T k_a1).2.1 = (T k_a0).2.1 → zT zm_36 [.ref (21 + 8 * 3), .ref (21 + 8 * k_a0)] p (zh (P, T, Y) I A w) (zK zm_121 94 [some (.ref 0), none, none, none, some (.ref (21 + 8 * k_a2)), none, some (.ref (21 + 8 * k_a1)), none] [] p Q))))))))))))))))) ∧ (zslot a1 = false → Q (.inr 0) (zh (P, T, Y) I A w)))) ∧ (zslot a0 = false → Q (.inr 0) (zh (P, T, Y) I A w)))) ∧ (zslot a2 = false → Q (.inr 0) (zh (P, T, Y) I A w)))) : zT zm_121 [.ref 0, .int a0, .int a1, .int a2] p (zh (P, T, Y) I A w) Q := by
  change zW zm_121 0 [some (.ref 0), some (.int a0), some (.int a1), some (.int a2), none, none, none, none] [] p _ Q
  refine zW_gh 2 [some (.ref 0), some (.int a0), some (.int a1), some (.int a2), none, none, none, none] [.int a2, .ref 0] 2 (fun f => rfl) ?_
  refine zW_cl rfl rfl rfl rfl rfl (s95 ⟨fun c9 k_a2 h_k_a2 e_k_a2 => ?_, fun c9 => ?_⟩)
  · replace H := H.1 c9 k_a2 h_k_a2 e_k_a2
    subst e_k_a2
    change zW zm_121 5 [some (.ref 0), some (.int a0), some (.int a1), some (.int (Int32.ofNat k_a2)), none, none, none, none] [.ref (21 + 8 * k_a2)] p _ Q
    refine zW_gh 9 [some (.ref 0), some (.int a0), some (.int a1), some (.int (Int32.ofNat k_a2)), some (.ref (21 + 8 * k_a2)), none, none, none] [.int a0, .ref 0] 3 (fun f => rfl) ?_
    refine zW_cl rfl rfl rfl rfl rfl (s95 ⟨fun c9 k_a0 h_k_a0 e_k_a0 => ?_, fun c9 => ?_⟩)
    · replace H := H.1 c9 k_a0 h_k_a0 e_k_a0
      subst e_k_a0
      change zW zm_121 12 [some (.ref 0), some (.int (Int32.ofNat k_a0)), some (.int a1), some (.int (Int32.ofNat k_a2)), some (.ref (21 + 8 * k_a2)), none, none, none] [.ref (21 + 8 * k_a0)] p _ Q
      refine zW_gh 16 [some (.ref 0), some (.int (Int32.ofNat k_a0)), some (.int a1), some (.int (Int32.ofNat k_a2)), some (.ref (21 + 8 * k_a2)), some (.ref (21 + 8 * k_a0)), none, none] [.int a1, .ref 0] 3 (fun f => rfl) ?_
      refine zW_cl rfl rfl rfl rfl rfl (s95 ⟨fun c9 k_a1 h_k_a1 e_k_a1 => ?_, fun c9 => ?_⟩)
      · replace H := H.1 c9 k_a1 h_k_a1 e_k_a1
        subst e_k_a1
        change zW zm_121 19 [some (.ref 0), some (.int (Int32.ofNat k_a0)), some (.int (Int32.ofNat k_a1)), some (.int (Int32.ofNat k_a2)), some (.ref (21 + 8 * k_a2)), some (.ref (21 + 8 * k_a0)), none, none] [.ref (21 + 8 * k_a1)] p _ Q
        refine zW_gh 23 [some (.ref 0), some (.int (Int32.ofNat k_a0)), some (.int (Int32.ofNat k_a1)), some (.int (Int32.ofNat k_a2)), some (.ref (21 + 8 * k_a2)), some (.ref (21 + 8 * k_a0)), some (.ref (21 + 8 * k_a1)), none] [.ref (21 + 8 * k_a0)] 2 (fun f => rfl) ?_
        obtain ⟨h1, H⟩ := H
        refine zW_cv rfl rfl rfl (by have := (show k_a0 < 6 from Nat.lt_trans h_k_a0 (by decide)); omega) (zh_T0 (show k_a0 < 6 from Nat.lt_trans h_k_a0 (by decide))) rfl rfl rfl rfl ((s27 (show k_a0 < 6 from Nat.lt_trans h_k_a0 (by decide))) h1 ?_)
        change zW zm_121 26 [some (.ref 0), some (.int (Int32.ofNat k_a0)), some (.int (Int32.ofNat k_a1)), some (.int (Int32.ofNat k_a2)), some (.ref (21 + 8 * k_a2)), some (.ref (21 + 8 * k_a0)), some (.ref (21 + 8 * k_a1)), none] [.int (zbi (decide ((T k_a0).2.1 = 0)))] p _ Q
        refine zW_bh (zcmp .ne (zbi (decide ((T k_a0).2.1 = 0))) (0 : Int32)) 51 29 [some (.ref 0), some (.int (Int32.ofNat k_a0)), some (.int (Int32.ofNat k_a1)), some (.int (Int32.ofNat k_a2)), some (.ref (21 + 8 * k_a2)), some (.ref (21 + 8 * k_a0)), some (.ref (21 + 8 * k_a1)), none] [] 1 (fun f => rfl) (fun c => ?_) (fun c => ?_)
        · have c9 : (decide ((T k_a0).2.1 = 0)) = true := ((zcB_ne _).symm.trans c)
          replace H := H.1 c9
          refine zW_gh 52 [some (.ref 0), some (.int (Int32.ofNat k_a0)), some (.int (Int32.ofNat k_a1)), some (.int (Int32.ofNat k_a2)), some (.ref (21 + 8 * k_a2)), some (.ref (21 + 8 * k_a0)), some (.ref (21 + 8 * k_a1)), none] [.int (0 : Int32)] 1 (fun f => rfl) ?_
          exact zW_cl rfl rfl rfl rfl rfl (s100f H)
        · have c9 : (decide ((T k_a0).2.1 = 0)) = false := ((zcB_ne _).symm.trans c)
          replace H := H.2 c9
          refine zW_gh 31 [some (.ref 0), some (.int (Int32.ofNat k_a0)), some (.int (Int32.ofNat k_a1)), some (.int (Int32.ofNat k_a2)), some (.ref (21 + 8 * k_a2)), some (.ref (21 + 8 * k_a0)), some (.ref (21 + 8 * k_a1)), none] [.ref (21 + 8 * k_a1)] 1 (fun f => rfl) ?_
          obtain ⟨h2, H⟩ := H
          refine zW_cv rfl rfl rfl (by have := (show k_a1 < 6 from Nat.lt_trans h_k_a1 (by decide)); omega) (zh_T0 (show k_a1 < 6 from Nat.lt_trans h_k_a1 (by decide))) rfl rfl rfl rfl ((s27 (show k_a1 < 6 from Nat.lt_trans h_k_a1 (by decide))) h2 ?_)
          change zW zm_121 34 [some (.ref 0), some (.int (Int32.ofNat k_a0)), some (.int (Int32.ofNat k_a1)), some (.int (Int32.ofNat k_a2)), some (.ref (21 + 8 * k_a2)), some (.ref (21 + 8 * k_a0)), some (.ref (21 + 8 * k_a1)), none] [.int (zbi (decide ((T k_a1).2.1 = 0)))] p _ Q
          refine zW_bh (zcmp .ne (zbi (decide ((T k_a1).2.1 = 0))) (0 : Int32)) 51 37 [some (.ref 0), some (.int (Int32.ofNat k_a0)), some (.int (Int32.ofNat k_a1)), some (.int (Int32.ofNat k_a2)), some (.ref (21 + 8 * k_a2)), some (.ref (21 + 8 * k_a0)), some (.ref (21 + 8 * k_a1)), none] [] 1 (fun f => rfl) (fun c => ?_) (fun c => ?_)
          · have c9 : (decide ((T k_a1).2.1 = 0)) = true := ((zcB_ne _).symm.trans c)
            replace H := H.1 c9
            refine zW_gh 52 [some (.ref 0), some (.int (Int32.ofNat k_a0)), some (.int (Int32.ofNat k_a1)), some (.int (Int32.ofNat k_a2)), some (.ref (21 + 8 * k_a2)), some (.ref (21 + 8 * k_a0)), some (.ref (21 + 8 * k_a1)), none] [.int (0 : Int32)] 1 (fun f => rfl) ?_
            exact zW_cl rfl rfl rfl rfl rfl (s100f H)
          · have c9 : (decide ((T k_a1).2.1 = 0)) = false := ((zcB_ne _).symm.trans c)
            replace H := H.2 c9
            refine zW_gh 41 [some (.ref 0), some (.int (Int32.ofNat k_a0)), some (.int (Int32.ofNat k_a1)), some (.int (Int32.ofNat k_a2)), some (.ref (21 + 8 * k_a2)), some (.ref (21 + 8 * k_a0)), some (.ref (21 + 8 * k_a1)), none] [.ref (21 + 8 * k_a1), .ref (21 + 8 * k_a0)] 2 (fun f => rfl) ?_
            refine zW_cv rfl rfl rfl (by have := (show k_a0 < 6 from Nat.lt_trans h_k_a0 (by decide)); omega) (zh_T0 (show k_a0 < 6 from Nat.lt_trans h_k_a0 (by decide))) rfl rfl rfl rfl ((s35 (show k_a0 < 6 from Nat.lt_trans h_k_a0 (by decide)) (show k_a1 < 6 from Nat.lt_trans h_k_a1 (by decide))) ?_)
            change zW zm_121 44 [some (.ref 0), some (.int (Int32.ofNat k_a0)), some (.int (Int32.ofNat k_a1)), some (.int (Int32.ofNat k_a2)), some (.ref (21 + 8 * k_a2)), some (.ref (21 + 8 * k_a0)), some (.ref (21 + 8 * k_a1)), none] [.int (zbi (decide (zrno (T k_a0).1 = zrno (T k_a1).1)))] p _ Q
            refine zW_bh (zcmp .eq (zbi (decide (zrno (T k_a0).1 = zrno (T k_a1).1))) (0 : Int32)) 51 47 [some (.ref 0), some (.int (Int32.ofNat k_a0)), some (.int (Int32.ofNat k_a1)), some (.int (Int32.ofNat k_a2)), some (.ref (21 + 8 * k_a2)), some (.ref (21 + 8 * k_a0)), some (.ref (21 + 8 * k_a1)), none] [] 1 (fun f => rfl) (fun c => ?_) (fun c => ?_)
            · have c9 : (decide (zrno (T k_a0).1 = zrno (T k_a1).1)) = false := ((Bool.not_eq_true' _).mp ((zcB_eq _).symm.trans c))
              replace H := H.1 c9
              refine zW_gh 52 [some (.ref 0), some (.int (Int32.ofNat k_a0)), some (.int (Int32.ofNat k_a1)), some (.int (Int32.ofNat k_a2)), some (.ref (21 + 8 * k_a2)), some (.ref (21 + 8 * k_a0)), some (.ref (21 + 8 * k_a1)), none] [.int (0 : Int32)] 1 (fun f => rfl) ?_
              exact zW_cl rfl rfl rfl rfl rfl (s100f H)
            · have c9 : (decide (zrno (T k_a0).1 = zrno (T k_a1).1)) = true := ((Bool.not_eq_false' _).mp ((zcB_eq _).symm.trans c))
              replace H := H.2 c9
              refine zW_gh 52 [some (.ref 0), some (.int (Int32.ofNat k_a0)), some (.int (Int32.ofNat k_a1)), some (.int (Int32.ofNat k_a2)), some (.ref (21 + 8 * k_a2)), some (.ref (21 + 8 * k_a0)), some (.ref (21 + 8 * k_a1)), none] [.int (1 : Int32)] 2 (fun f => rfl) ?_
              refine zW_cl rfl rfl rfl rfl rfl (s100t ?_)
              change zW zm_121 55 [some (.ref 0), some (.int (Int32.ofNat k_a0)), some (.int (Int32.ofNat k_a1)), some (.int (Int32.ofNat k_a2)), some (.ref (21 + 8 * k_a2)), some (.ref (21 + 8 * k_a0)), some (.ref (21 + 8 * k_a1)), none] [] p _ Q
              refine zW_gh 57 [some (.ref 0), some (.int (Int32.ofNat k_a0)), some (.int (Int32.ofNat k_a1)), some (.int (Int32.ofNat k_a2)), some (.ref (21 + 8 * k_a2)), some (.ref (21 + 8 * k_a0)), some (.ref (21 + 8 * k_a1)), none] [.ref (21 + 8 * k_a1)] 1 (fun f => rfl) ?_
              refine zW_gf rfl (by have := (show k_a1 < 6 from Nat.lt_trans h_k_a1 (by decide)); omega) (zh_T0 (show k_a1 < 6 from Nat.lt_trans h_k_a1 (by decide))) rfl (v := .int (Int32.ofNat ((T k_a1).2.2.1))) rfl ?_
              obtain ⟨h3, H⟩ := H
              refine zW_bh (zcmp .ne (Int32.ofNat ((T k_a1).2.2.1)) (1 : Int32)) 81 64 [some (.ref 0), some (.int (Int32.ofNat k_a0)), some (.int (Int32.ofNat k_a1)), some (.int (Int32.ofNat k_a2)), some (.ref (21 + 8 * k_a2)), some (.ref (21 + 8 * k_a0)), some (.ref (21 + 8 * k_a1)), none] [] 2 (fun f => rfl) (fun c => ?_) (fun c => ?_)
              · have c9 : ¬ (T k_a1).2.2.1 = 1 := (by have c := (zcN_ne (a := (T k_a1).2.2.1) (b := 1) rfl rfl h3 (by decide)).symm.trans c; simpa using c)
                replace H := H.1 c9
                refine zW_gh 82 [some (.ref 0), some (.int (Int32.ofNat k_a0)), some (.int (Int32.ofNat k_a1)), some (.int (Int32.ofNat k_a2)), some (.ref (21 + 8 * k_a2)), some (.ref (21 + 8 * k_a0)), some (.ref (21 + 8 * k_a1)), none] [.int (0 : Int32)] 1 (fun f => rfl) ?_
                exact zW_cl rfl rfl rfl rfl rfl (s100f H)
              · have c9 : (T k_a1).2.2.1 = 1 := (by have c := (zcN_ne (a := (T k_a1).2.2.1) (b := 1) rfl rfl h3 (by decide)).symm.trans c; simpa using c)
                replace H := H.2 c9
                refine zW_gh 66 [some (.ref 0), some (.int (Int32.ofNat k_a0)), some (.int (Int32.ofNat k_a1)), some (.int (Int32.ofNat k_a2)), some (.ref (21 + 8 * k_a2)), some (.ref (21 + 8 * k_a0)), some (.ref (21 + 8 * k_a1)), none] [.ref (21 + 8 * k_a1)] 1 (fun f => rfl) ?_
                refine zW_gf rfl (by have := (show k_a1 < 6 from Nat.lt_trans h_k_a1 (by decide)); omega) (zh_T0 (show k_a1 < 6 from Nat.lt_trans h_k_a1 (by decide))) rfl (v := .int (Int32.ofNat ((T k_a1).2.1))) rfl ?_
                refine zW_gh 71 [some (.ref 0), some (.int (Int32.ofNat k_a0)), some (.int (Int32.ofNat k_a1)), some (.int (Int32.ofNat k_a2)), some (.ref (21 + 8 * k_a2)), some (.ref (21 + 8 * k_a0)), some (.ref (21 + 8 * k_a1)), none] [.ref (21 + 8 * k_a0), .int (Int32.ofNat ((T k_a1).2.1))] 1 (fun f => rfl) ?_
                refine zW_gf rfl (by have := (show k_a0 < 6 from Nat.lt_trans h_k_a0 (by decide)); omega) (zh_T0 (show k_a0 < 6 from Nat.lt_trans h_k_a0 (by decide))) rfl (v := .int (Int32.ofNat ((T k_a0).2.1))) rfl ?_
                obtain ⟨h4, H⟩ := H
                obtain ⟨h5, H⟩ := H
                refine zW_bh (zcmp .ne (Int32.ofNat ((T k_a1).2.1)) (Int32.ofNat ((T k_a0).2.1))) 81 77 [some (.ref 0), some (.int (Int32.ofNat k_a0)), some (.int (Int32.ofNat k_a1)), some (.int (Int32.ofNat k_a2)), some (.ref (21 + 8 * k_a2)), some (.ref (21 + 8 * k_a0)), some (.ref (21 + 8 * k_a1)), none] [] 1 (fun f => rfl) (fun c => ?_) (fun c => ?_)
                · have c9 : ¬ (T k_a1).2.1 = (T k_a0).2.1 := (by have c := (zcN_ne (a := (T k_a1).2.1) (b := (T k_a0).2.1) rfl rfl h4 h5).symm.trans c; simpa using c)
                  replace H := H.1 c9
                  refine zW_gh 82 [some (.ref 0), some (.int (Int32.ofNat k_a0)), some (.int (Int32.ofNat k_a1)), some (.int (Int32.ofNat k_a2)), some (.ref (21 + 8 * k_a2)), some (.ref (21 + 8 * k_a0)), some (.ref (21 + 8 * k_a1)), none] [.int (0 : Int32)] 1 (fun f => rfl) ?_
                  exact zW_cl rfl rfl rfl rfl rfl (s100f H)
                · have c9 : (T k_a1).2.1 = (T k_a0).2.1 := (by have c := (zcN_ne (a := (T k_a1).2.1) (b := (T k_a0).2.1) rfl rfl h4 h5).symm.trans c; simpa using c)
                  replace H := H.2 c9
                  refine zW_gh 82 [some (.ref 0), some (.int (Int32.ofNat k_a0)), some (.int (Int32.ofNat k_a1)), some (.int (Int32.ofNat k_a2)), some (.ref (21 + 8 * k_a2)), some (.ref (21 + 8 * k_a0)), some (.ref (21 + 8 * k_a1)), none] [.int (1 : Int32)] 2 (fun f => rfl) ?_
                  refine zW_cl rfl rfl rfl rfl rfl (s100t ?_)
                  change zW zm_121 85 [some (.ref 0), some (.int (Int32.ofNat k_a0)), some (.int (Int32.ofNat k_a1)), some (.int (Int32.ofNat k_a2)), some (.ref (21 + 8 * k_a2)), some (.ref (21 + 8 * k_a0)), some (.ref (21 + 8 * k_a1)), none] [] p _ Q
                  refine zW_gh 91 [some (.ref 0), some (.int (Int32.ofNat k_a0)), some (.int (Int32.ofNat k_a1)), some (.int (Int32.ofNat k_a2)), some (.ref (21 + 8 * k_a2)), some (.ref (21 + 8 * k_a0)), some (.ref (21 + 8 * k_a1)), none] [.ref (21 + 8 * k_a0), .ref (21 + 8 * 3)] 3 (fun f => rfl) ?_
                  refine zW_fg (L' := [some (.ref 0), none, none, none, some (.ref (21 + 8 * k_a2)), none, some (.ref (21 + 8 * k_a1)), none]) (zle_s _ (zle_n _ (zle_n _ (zle_n _ (zle_s _ (zle_n _ (zle_s _ (zle_s _ zle_nil)))))))) ?_
                  exact zW_cv rfl rfl rfl (by decide) (zh_T0 (by decide : 3 < 6)) rfl rfl rfl rfl H
      · exact H.2 c9
    · exact H.2 c9
  · exact H.2 c9
set_option maxRecDepth 20000 in
theorem b121_94 {P : zPt} {T : Nat → zX} {Y : zYt} {I : zIt} {A : zAt} {w : Nat → Int64} {p : Nat × Nat} {Q : zR → zH → Prop} {k_a2 k_a1 : Nat} (H : zT zm_82 [.ref (21 + 8 * 3)] p (zh (P, T, Y) I A w) (zK zm_121 101 [some (.ref 0), none, none, none, some (.ref (21 + 8 * k_a2)), none, some (.ref (21 + 8 * k_a1)), none] [] p Q)) : zW zm_121 94 [some (.ref 0), none, none, none, some (.ref (21 + 8 * k_a2)), none, some (.ref (21 + 8 * k_a1)), none] [] p (zh (P, T, Y) I A w) Q := by
  refine zW_gh 98 [some (.ref 0), none, none, none, some (.ref (21 + 8 * k_a2)), none, some (.ref (21 + 8 * k_a1)), none] [.ref (21 + 8 * 3)] 2 (fun f => rfl) ?_
  exact zW_cl rfl rfl rfl rfl rfl H
set_option maxRecDepth 20000 in
theorem b121_101 {P : zPt} {T : Nat → zX} {Y : zYt} {I : zIt} {A : zAt} {w : Nat → Int64} {p : Nat × Nat} {Q : zR → zH → Prop} {k_a2 k_a1 : Nat} {rv : Int32} (H : zT zm_36 [.ref (21 + 8 * 4), .ref (21 + 8 * k_a1)] p (zh (P, T, Y) I A w) (zK zm_121 112 [some (.ref 0), none, none, none, some (.ref (21 + 8 * k_a2)), none, none, some (.int rv)] [] p Q)) : zW zm_121 101 [some (.ref 0), none, none, none, some (.ref (21 + 8 * k_a2)), none, some (.ref (21 + 8 * k_a1)), none] [.int rv] p (zh (P, T, Y) I A w) Q := by
  refine zW_gh 109 [some (.ref 0), none, none, none, some (.ref (21 + 8 * k_a2)), none, some (.ref (21 + 8 * k_a1)), some (.int rv)] [.ref (21 + 8 * k_a1), .ref (21 + 8 * 4)] 4 (fun f => rfl) ?_
  refine zW_fg (L' := [some (.ref 0), none, none, none, some (.ref (21 + 8 * k_a2)), none, none, some (.int rv)]) (zle_s _ (zle_s _ (zle_s _ (zle_s _ (zle_s _ (zle_s _ (zle_n _ (zle_s _ zle_nil)))))))) ?_
  exact zW_cv rfl rfl rfl (by decide) (zh_T0 (by decide : 4 < 6)) rfl rfl rfl rfl H
set_option maxRecDepth 20000 in
theorem b121_112 {P : zPt} {T : Nat → zX} {Y : zYt} {I : zIt} {A : zAt} {w : Nat → Int64} {p : Nat × Nat} {Q : zR → zH → Prop} {k_a2 : Nat} {x7 : Int32} (H : zT zm_44 [.ref (21 + 8 * 4), .ref (21 + 8 * 3), .int (zbi false)] p (zh (P, T, Y) I A w) (zK zm_121 124 [some (.ref 0), none, none, none, some (.ref (21 + 8 * k_a2)), none, none, some (.int x7)] [] p Q)) : zW zm_121 112 [some (.ref 0), none, none, none, some (.ref (21 + 8 * k_a2)), none, none, some (.int x7)] [] p (zh (P, T, Y) I A w) Q := by
  refine zW_gh 121 [some (.ref 0), none, none, none, some (.ref (21 + 8 * k_a2)), none, none, some (.int x7)] [.int (0 : Int32), .ref (21 + 8 * 3), .ref (21 + 8 * 4)] 5 (fun f => rfl) ?_
  exact zW_cv rfl rfl rfl (by decide) (zh_T0 (by decide : 4 < 6)) rfl rfl rfl rfl H
set_option maxRecDepth 20000 in
theorem b121_124 {P : zPt} {T : Nat → zX} {Y : zYt} {I : zIt} {A : zAt} {w : Nat → Int64} {p : Nat × Nat} {Q : zR → zH → Prop} {k_a2 : Nat} {x7 rv : Int32} (H : zT zm_122 [.ref 0, .int x7] p (zh (P, T, Y) I A w) (zK zm_121 131 [some (.ref 0), none, none, none, some (.ref (21 + 8 * k_a2)), none, none, none] [] p Q)) : zW zm_121 124 [some (.ref 0), none, none, none, some (.ref (21 + 8 * k_a2)), none, none, some (.int x7)] [.int rv] p (zh (P, T, Y) I A w) Q := by
  refine zW_gh 128 [some (.ref 0), none, none, none, some (.ref (21 + 8 * k_a2)), none, none, some (.int x7)] [.int x7, .ref 0] 3 (fun f => rfl) ?_
  refine zW_fg (L' := [some (.ref 0), none, none, none, some (.ref (21 + 8 * k_a2)), none, none, none]) (zle_s _ (zle_s _ (zle_s _ (zle_s _ (zle_s _ (zle_s _ (zle_s _ (zle_n _ zle_nil)))))))) ?_
  exact zW_cl rfl rfl rfl rfl rfl H
set_option maxRecDepth 20000 in
theorem b121_131 {P : zPt} {T : Nat → zX} {Y : zYt} {I : zIt} {A : zAt} {w : Nat → Int64} {p : Nat × Nat} {Q : zR → zH → Prop} {k_a2 : Nat} {rv : Bool} (H : ((rv = true → zT zm_46 [.ref (21 + 8 * 5), .ref (21 + 8 * 3)] p (zh (P, T, Y) I A w) (zK zm_121 147 [some (.ref 0), none, none, none, some (.ref (21 + 8 * k_a2)), none, none, none] [] p Q)) ∧ (rv = false → Q (.inl (some (.int (0 : Int32)))) (zh (P, T, Y) I A w)))) : zW zm_121 131 [some (.ref 0), none, none, none, some (.ref (21 + 8 * k_a2)), none, none, none] [.int (zbi rv)] p (zh (P, T, Y) I A w) Q := by
  refine zW_bh (zcmp .ne (zbi rv) (0 : Int32)) 136 134 [some (.ref 0), none, none, none, some (.ref (21 + 8 * k_a2)), none, none, none] [] 1 (fun f => rfl) (fun c => ?_) (fun c => ?_)
  · have c9 : rv = true := ((zcB_ne _).symm.trans c)
    replace H := H.1 c9
    refine zW_gh 144 [some (.ref 0), none, none, none, some (.ref (21 + 8 * k_a2)), none, none, none] [.ref (21 + 8 * 3), .ref (21 + 8 * 5)] 4 (fun f => rfl) ?_
    exact zW_cv rfl rfl rfl (by decide) (zh_T0 (by decide : 5 < 6)) rfl rfl rfl rfl H
  · have c9 : rv = false := ((zcB_ne _).symm.trans c)
    replace H := H.2 c9
    refine zW_gh 135 [some (.ref 0), none, none, none, some (.ref (21 + 8 * k_a2)), none, none, none] [.int (0 : Int32)] 1 (fun f => rfl) ?_
    exact zW_rh (some (.int (0 : Int32))) 1 (fun f => rfl) H
set_option maxRecDepth 20000 in
theorem b121_147 {P : zPt} {T : Nat → zX} {Y : zYt} {I : zIt} {A : zAt} {w : Nat → Int64} {p : Nat × Nat} {Q : zR → zH → Prop} {k_a2 : Nat} (hi_k_a2 : k_a2 < 6) (H : zT zm_36 [.ref (21 + 8 * k_a2), .ref (21 + 8 * 5)] p (zh (P, T, Y) I A w) (zK zm_121 156 [none, none, none, none, none, none, none, none] [] p Q)) : zW zm_121 147 [some (.ref 0), none, none, none, some (.ref (21 + 8 * k_a2)), none, none, none] [] p (zh (P, T, Y) I A w) Q := by
  refine zW_gh 153 [some (.ref 0), none, none, none, some (.ref (21 + 8 * k_a2)), none, none, none] [.ref (21 + 8 * 5), .ref (21 + 8 * k_a2)] 3 (fun f => rfl) ?_
  refine zW_fg (L' := [none, none, none, none, none, none, none, none]) (zle_n _ (zle_s _ (zle_s _ (zle_s _ (zle_n _ (zle_s _ (zle_s _ (zle_s _ zle_nil)))))))) ?_
  exact zW_cv rfl rfl rfl (by have := hi_k_a2; omega) (zh_T0 hi_k_a2) rfl rfl rfl rfl H
set_option maxRecDepth 20000 in
theorem b121_156 {P : zPt} {T : Nat → zX} {Y : zYt} {I : zIt} {A : zAt} {w : Nat → Int64} {p : Nat × Nat} {Q : zR → zH → Prop} (H : Q (.inl (some (.int (1 : Int32)))) (zh (P, T, Y) I A w)) : zW zm_121 156 [none, none, none, none, none, none, none, none] [] p (zh (P, T, Y) I A w) Q := by
  refine zW_gh 157 [none, none, none, none, none, none, none, none] [.int (1 : Int32)] 1 (fun f => rfl) ?_
  exact zW_rh (some (.int (1 : Int32))) 1 (fun f => rfl) H
theorem b123 {P : zPt} {T : Nat → zX} {Y : zYt} {I : zIt} {A : zAt} {w : Nat → Int64} {p : Nat × Nat} {Q : zR → zH → Prop} {a0 a1 : Int32} (H : ((zslot a1 = true → ∀ k_a1, k_a1 < 3 → a1 = Int32.ofNat k_a1 → (zTb T ∧ ((zslot a0 = true ∧ zfil T a0 → ∀ k_a0, k_a0 < 3 → a0 = Int32.ofNat k_a0 → zT zm_36 [.ref (21 + 8 * 3), .ref (21 + 8 * k_a0)] p (zh (P, T, Y) I A w) (zK zm_123 22 [some (.ref 0), none, none, some (.ref (21 + 8 * k_a1)), none, none, none, none] [] p Q)) ∧ ((zslot a0 = false → Q (.inr 0) (zh (P, T, Y) I A w)) ∧ (zslot a0 = true ∧ ¬ zfil T a0 → Q (.inr 1) (zh (P, T, Y) I A w)))))) ∧ (zslot a1 = false → Q (.inr 0) (zh (P, T, Y) I A w)))) : zT zm_123 [.ref 0, .int a0, .int a1] p (zh (P, T, Y) I A w) Q := by
  change zW zm_123 0 [some (.ref 0), some (.int a0), some (.int a1), none, none, none, none, none] [] p _ Q
  refine zW_gh 2 [some (.ref 0), some (.int a0), some (.int a1), none, none, none, none, none] [.int a1, .ref 0] 2 (fun f => rfl) ?_
  refine zW_cl rfl rfl rfl rfl rfl (s95 ⟨fun c9 k_a1 h_k_a1 e_k_a1 => ?_, fun c9 => ?_⟩)
  · replace H := H.1 c9 k_a1 h_k_a1 e_k_a1
    subst e_k_a1
    change zW zm_123 5 [some (.ref 0), some (.int a0), some (.int (Int32.ofNat k_a1)), none, none, none, none, none] [.ref (21 + 8 * k_a1)] p _ Q
    refine zW_gh 8 [some (.ref 0), some (.int a0), some (.int (Int32.ofNat k_a1)), some (.ref (21 + 8 * k_a1)), none, none, none, none] [.int a0, .ref 0] 3 (fun f => rfl) ?_
    obtain ⟨h1, H⟩ := H
    refine zW_cl rfl rfl rfl rfl rfl (s99 h1 ⟨fun c9 k_a0 h_k_a0 e_k_a0 => ?_, fun c9 => ?_, fun c9 => ?_⟩)
    · replace H := H.1 c9 k_a0 h_k_a0 e_k_a0
      subst e_k_a0
      change zW zm_123 11 [some (.ref 0), some (.int (Int32.ofNat k_a0)), some (.int (Int32.ofNat k_a1)), some (.ref (21 + 8 * k_a1)), none, none, none, none] [.ref (21 + 8 * k_a0)] p _ Q
      refine zW_gh 19 [some (.ref 0), some (.int (Int32.ofNat k_a0)), some (.int (Int32.ofNat k_a1)), some (.ref (21 + 8 * k_a1)), some (.ref (21 + 8 * k_a0)), none, none, none] [.ref (21 + 8 * k_a0), .ref (21 + 8 * 3)] 4 (fun f => rfl) ?_
      refine zW_fg (L' := [some (.ref 0), none, none, some (.ref (21 + 8 * k_a1)), none, none, none, none]) (zle_s _ (zle_n _ (zle_n _ (zle_s _ (zle_n _ (zle_s _ (zle_s _ (zle_s _ zle_nil)))))))) ?_
      exact zW_cv rfl rfl rfl (by decide) (zh_T0 (by decide : 3 < 6)) rfl rfl rfl rfl H
    · exact H.2.1 c9
    · exact H.2.2 c9
  · exact H.2 c9
theorem b123_22 {P : zPt} {T : Nat → zX} {Y : zYt} {I : zIt} {A : zAt} {w : Nat → Int64} {p : Nat × Nat} {Q : zR → zH → Prop} {k_a1 : Nat} (H : zT zm_82 [.ref (21 + 8 * 3)] p (zh (P, T, Y) I A w) (zK zm_123 29 [some (.ref 0), none, none, some (.ref (21 + 8 * k_a1)), none, none, none, none] [] p Q)) : zW zm_123 22 [some (.ref 0), none, none, some (.ref (21 + 8 * k_a1)), none, none, none, none] [] p (zh (P, T, Y) I A w) Q := by
  refine zW_gh 26 [some (.ref 0), none, none, some (.ref (21 + 8 * k_a1)), none, none, none, none] [.ref (21 + 8 * 3)] 2 (fun f => rfl) ?_
  exact zW_cl rfl rfl rfl rfl rfl H
theorem b123_29 {P : zPt} {T : Nat → zX} {Y : zYt} {I : zIt} {A : zAt} {w : Nat → Int64} {p : Nat × Nat} {Q : zR → zH → Prop} {k_a1 : Nat} {rv : Int32} (H : (((0 : Int32) < ((Int32.ofNat ((T 3).2.2.1)) - rv) → zT zm_28 [.ref (21 + 8 * 5), .ref (zra ((T 3).1)), .int (Int32.ofNat ((T 3).2.2.1)), .int ((Int32.ofNat ((T 3).2.2.1)) - rv)] p (zh (P, T, Y) I A w) (zK zm_123 73 [some (.ref 0), none, none, some (.ref (21 + 8 * k_a1)), none, some (.int rv), some (.int ((Int32.ofNat ((T 3).2.2.1)) - rv)), none] [] p Q)) ∧ (¬ (0 : Int32) < ((Int32.ofNat ((T 3).2.2.1)) - rv) → Q (.inl (some (.int (0 : Int32)))) (zh (P, T, Y) I A w)))) : zW zm_123 29 [some (.ref 0), none, none, some (.ref (21 + 8 * k_a1)), none, none, none, none] [.int rv] p (zh (P, T, Y) I A w) Q := by
  refine zW_gh 35 [some (.ref 0), none, none, some (.ref (21 + 8 * k_a1)), none, some (.int rv), none, none] [.ref (21 + 8 * 3)] 3 (fun f => rfl) ?_
  refine zW_gf rfl (by decide) (zh_T0 (by decide : 3 < 6)) rfl (v := .int (Int32.ofNat ((T 3).2.2.1))) rfl ?_
  refine zW_bh (zcmp .gt ((Int32.ofNat ((T 3).2.2.1)) - rv) (0 : Int32)) 50 48 [some (.ref 0), none, none, some (.ref (21 + 8 * k_a1)), none, some (.int rv), some (.int ((Int32.ofNat ((T 3).2.2.1)) - rv)), none] [] 5 (fun f => rfl) (fun c => ?_) (fun c => ?_)
  · have c9 : (0 : Int32) < ((Int32.ofNat ((T 3).2.2.1)) - rv) := (of_decide_eq_true c)
    replace H := H.1 c9
    refine zW_gh 58 [some (.ref 0), none, none, some (.ref (21 + 8 * k_a1)), none, some (.int rv), some (.int ((Int32.ofNat ((T 3).2.2.1)) - rv)), none] [.ref (21 + 8 * 3), .ref (21 + 8 * 5)] 4 (fun f => rfl) ?_
    refine zW_gf rfl (by decide) (zh_T0 (by decide : 3 < 6)) rfl (v := .ref (zra ((T 3).1))) rfl ?_
    refine zW_gh 65 [some (.ref 0), none, none, some (.ref (21 + 8 * k_a1)), none, some (.int rv), some (.int ((Int32.ofNat ((T 3).2.2.1)) - rv)), none] [.ref (21 + 8 * 3), .ref (zra ((T 3).1)), .ref (21 + 8 * 5)] 2 (fun f => rfl) ?_
    refine zW_gf rfl (by decide) (zh_T0 (by decide : 3 < 6)) rfl (v := .int (Int32.ofNat ((T 3).2.2.1))) rfl ?_
    refine zW_gh 70 [some (.ref 0), none, none, some (.ref (21 + 8 * k_a1)), none, some (.int rv), some (.int ((Int32.ofNat ((T 3).2.2.1)) - rv)), none] [.int ((Int32.ofNat ((T 3).2.2.1)) - rv), .int (Int32.ofNat ((T 3).2.2.1)), .ref (zra ((T 3).1)), .ref (21 + 8 * 5)] 1 (fun f => rfl) ?_
    exact zW_cv rfl rfl rfl (by decide) (zh_T0 (by decide : 5 < 6)) rfl rfl rfl rfl H
  · have c9 : ¬ (0 : Int32) < ((Int32.ofNat ((T 3).2.2.1)) - rv) := (of_decide_eq_false c)
    replace H := H.2 c9
    refine zW_gh 49 [some (.ref 0), none, none, some (.ref (21 + 8 * k_a1)), none, some (.int rv), some (.int ((Int32.ofNat ((T 3).2.2.1)) - rv)), none] [.int (0 : Int32)] 1 (fun f => rfl) ?_
    exact zW_rh (some (.int (0 : Int32))) 1 (fun f => rfl) H
theorem b123_73 {P : zPt} {T : Nat → zX} {Y : zYt} {I : zIt} {A : zAt} {w : Nat → Int64} {p : Nat × Nat} {Q : zR → zH → Prop} {k_a1 : Nat} {x5 x6 : Int32} (H : zW zm_123 76 [some (.ref 0), none, none, some (.ref (21 + 8 * k_a1)), none, some (.int x5), some (.int x6), some (.int (Int32.ofNat 0))] [] p (zh (P, T, Y) I A w) Q) : zW zm_123 73 [some (.ref 0), none, none, some (.ref (21 + 8 * k_a1)), none, some (.int x5), some (.int x6), none] [] p (zh (P, T, Y) I A w) Q := by
  refine zW_gh 76 [some (.ref 0), none, none, some (.ref (21 + 8 * k_a1)), none, some (.int x5), some (.int x6), some (.int (0 : Int32))] [] 2 (fun f => rfl) ?_
  exact H
theorem b123_76 {P : zPt} {T : Nat → zX} {Y : zYt} {I : zIt} {A : zAt} {w : Nat → Int64} {p : Nat × Nat} {Q : zR → zH → Prop} {x7 k_a1 : Nat} {x5 x6 : Int32} (H : ((x6 ≤ (Int32.ofNat x7) → zT zm_46 [.ref (21 + 8 * 5), .ref (21 + 8 * 3)] p (zh (P, T, Y) I A w) (zK zm_123 117 [some (.ref 0), none, none, some (.ref (21 + 8 * k_a1)), none, none, some (.int x6), none] [] p Q)) ∧ (¬ x6 ≤ (Int32.ofNat x7) → zT zm_32 [.ref (21 + 8 * 5), .int (x5 + (Int32.ofNat x7)), .int (Int32.ofNat x7), .long (4294967296 : Int64)] p (zh (P, T, Y) I A w) (zK zm_123 100 [some (.ref 0), none, none, some (.ref (21 + 8 * k_a1)), none, some (.int x5), some (.int x6), some (.int (Int32.ofNat x7))] [] p Q)))) : zW zm_123 76 [some (.ref 0), none, none, some (.ref (21 + 8 * k_a1)), none, some (.int x5), some (.int x6), some (.int (Int32.ofNat x7))] [] p (zh (P, T, Y) I A w) Q := by
  refine zW_bh (zcmp .ge (Int32.ofNat x7) x6) 106 83 [some (.ref 0), none, none, some (.ref (21 + 8 * k_a1)), none, some (.int x5), some (.int x6), some (.int (Int32.ofNat x7))] [] 3 (fun f => rfl) (fun c => ?_) (fun c => ?_)
  · have c9 : x6 ≤ (Int32.ofNat x7) := (of_decide_eq_true c)
    replace H := H.1 c9
    refine zW_gh 114 [some (.ref 0), none, none, some (.ref (21 + 8 * k_a1)), none, some (.int x5), some (.int x6), some (.int (Int32.ofNat x7))] [.ref (21 + 8 * 3), .ref (21 + 8 * 5)] 4 (fun f => rfl) ?_
    refine zW_fg (L' := [some (.ref 0), none, none, some (.ref (21 + 8 * k_a1)), none, none, some (.int x6), none]) (zle_s _ (zle_s _ (zle_s _ (zle_s _ (zle_s _ (zle_n _ (zle_s _ (zle_n _ zle_nil)))))))) ?_
    exact zW_cv rfl rfl rfl (by decide) (zh_T0 (by decide : 5 < 6)) rfl rfl rfl rfl H
  · have c9 : ¬ x6 ≤ (Int32.ofNat x7) := (of_decide_eq_false c)
    replace H := H.2 c9
    refine zW_gh 97 [some (.ref 0), none, none, some (.ref (21 + 8 * k_a1)), none, some (.int x5), some (.int x6), some (.int (Int32.ofNat x7))] [.long (4294967296 : Int64), .int (Int32.ofNat x7), .int (x5 + (Int32.ofNat x7)), .ref (21 + 8 * 5)] 7 (fun f => rfl) ?_
    exact zW_cv rfl rfl rfl (by decide) (zh_T0 (by decide : 5 < 6)) rfl rfl rfl rfl H
theorem b123_117 {P : zPt} {T : Nat → zX} {Y : zYt} {I : zIt} {A : zAt} {w : Nat → Int64} {p : Nat × Nat} {Q : zR → zH → Prop} {k_a1 : Nat} {x6 : Int32} (hi_k_a1 : k_a1 < 6) (H : zT zm_36 [.ref (21 + 8 * k_a1), .ref (21 + 8 * 5)] p (zh (P, T, Y) I A w) (zK zm_123 125 [none, none, none, none, none, none, some (.int x6), none] [] p Q)) : zW zm_123 117 [some (.ref 0), none, none, some (.ref (21 + 8 * k_a1)), none, none, some (.int x6), none] [] p (zh (P, T, Y) I A w) Q := by
  refine zW_gh 122 [some (.ref 0), none, none, some (.ref (21 + 8 * k_a1)), none, none, some (.int x6), none] [.ref (21 + 8 * 5), .ref (21 + 8 * k_a1)] 3 (fun f => rfl) ?_
  refine zW_fg (L' := [none, none, none, none, none, none, some (.int x6), none]) (zle_n _ (zle_s _ (zle_s _ (zle_n _ (zle_s _ (zle_s _ (zle_s _ (zle_s _ zle_nil)))))))) ?_
  exact zW_cv rfl rfl rfl (by have := hi_k_a1; omega) (zh_T0 hi_k_a1) rfl rfl rfl rfl H
theorem b123_100 {P : zPt} {T : Nat → zX} {Y : zYt} {I : zIt} {A : zAt} {w : Nat → Int64} {p : Nat × Nat} {Q : zR → zH → Prop} {x7 k_a1 : Nat} {x5 x6 : Int32} (H : zW zm_123 76 [some (.ref 0), none, none, some (.ref (21 + 8 * k_a1)), none, some (.int x5), some (.int x6), some (.int (Int32.ofNat (x7 + 1)))] [] p (zh (P, T, Y) I A w) Q) : zW zm_123 100 [some (.ref 0), none, none, some (.ref (21 + 8 * k_a1)), none, some (.int x5), some (.int x6), some (.int (Int32.ofNat x7))] [] p (zh (P, T, Y) I A w) Q := by
  refine zW_inc [some (.ref 0), none, none, some (.ref (21 + 8 * k_a1)), none, some (.int x5), some (.int x6), some (.int ((Int32.ofNat x7) + (1 : Int32)))] rfl rfl rfl ?_
  rw [show ((Int32.ofNat x7) + (1 : Int32)) = Int32.ofNat (x7 + 1) from (zN_a rfl rfl)]
  refine zW_gh 76 [some (.ref 0), none, none, some (.ref (21 + 8 * k_a1)), none, some (.int x5), some (.int x6), some (.int (Int32.ofNat (x7 + 1)))] [] 1 (fun f => rfl) ?_
  exact H
theorem b123_125 {P : zPt} {T : Nat → zX} {Y : zYt} {I : zIt} {A : zAt} {w : Nat → Int64} {p : Nat × Nat} {Q : zR → zH → Prop} {x6 : Int32} (H : Q (.inl (some (.int x6))) (zh (P, T, Y) I A w)) : zW zm_123 125 [none, none, none, none, none, none, some (.int x6), none] [] p (zh (P, T, Y) I A w) Q := by
  refine zW_gh 127 [none, none, none, none, none, none, some (.int x6), none] [.int x6] 1 (fun f => rfl) ?_
  exact zW_rh (some (.int x6)) 1 (fun f => rfl) H
theorem b124 {P : zPt} {T : Nat → zX} {Y : zYt} {I : zIt} {A : zAt} {w : Nat → Int64} {p : Nat × Nat} {Q : zR → zH → Prop} {a0 a1 a2 : Int32} (H : (zTb T ∧ ((zslot a0 = true ∧ zfil T a0 → ∀ k_a0, k_a0 < 3 → a0 = Int32.ofNat k_a0 → (((zcell (T k_a0) a1 a1) = false → Q (.inr 2) (zh (P, T, Y) I A w)) ∧ ((zcell (T k_a0) a1 a1) = true → ∀ k_a1, k_a1 < 2147483648 → a1 = Int32.ofNat k_a1 → (((zprt a2) = false → Q (.inr 2) (zh (P, T, Y) I A w)) ∧ ((zprt a2) = true → zT zm_36 [.ref (21 + 8 * 3), .ref (21 + 8 * k_a0)] p (zh (P, T, Y) I A w) (zK zm_124 41 [some (.ref 0), none, some (.int (Int32.ofNat k_a1)), some (.int a2), none] [] p Q)))))) ∧ ((zslot a0 = false → Q (.inr 0) (zh (P, T, Y) I A w)) ∧ (zslot a0 = true ∧ ¬ zfil T a0 → Q (.inr 1) (zh (P, T, Y) I A w)))))) : zT zm_124 [.ref 0, .int a0, .int a1, .int a2] p (zh (P, T, Y) I A w) Q := by
  change zW zm_124 0 [some (.ref 0), some (.int a0), some (.int a1), some (.int a2), none] [] p _ Q
  refine zW_gh 2 [some (.ref 0), some (.int a0), some (.int a1), some (.int a2), none] [.int a0, .ref 0] 2 (fun f => rfl) ?_
  obtain ⟨h1, H⟩ := H
  refine zW_cl rfl rfl rfl rfl rfl (s99 h1 ⟨fun c9 k_a0 h_k_a0 e_k_a0 => ?_, fun c9 => ?_, fun c9 => ?_⟩)
  · replace H := H.1 c9 k_a0 h_k_a0 e_k_a0
    subst e_k_a0
    change zW zm_124 5 [some (.ref 0), some (.int (Int32.ofNat k_a0)), some (.int a1), some (.int a2), none] [.ref (21 + 8 * k_a0)] p _ Q
    refine zW_gh 11 [some (.ref 0), some (.int (Int32.ofNat k_a0)), some (.int a1), some (.int a2), some (.ref (21 + 8 * k_a0))] [.int a1, .int a1, .ref (21 + 8 * k_a0)] 4 (fun f => rfl) ?_
    refine zW_cv rfl rfl rfl (by have := (show k_a0 < 6 from Nat.lt_trans h_k_a0 (by decide)); omega) (zh_T0 (show k_a0 < 6 from Nat.lt_trans h_k_a0 (by decide))) rfl rfl rfl rfl ((s30 (show k_a0 < 6 from Nat.lt_trans h_k_a0 (by decide))) ?_)
    change zW zm_124 14 [some (.ref 0), some (.int (Int32.ofNat k_a0)), some (.int a1), some (.int a2), some (.ref (21 + 8 * k_a0))] [.int (zbi (zcell (T k_a0) a1 a1))] p _ Q
    refine zW_bh (zcmp .eq (zbi (zcell (T k_a0) a1 a1)) (0 : Int32)) 28 17 [some (.ref 0), some (.int (Int32.ofNat k_a0)), some (.int a1), some (.int a2), some (.ref (21 + 8 * k_a0))] [] 1 (fun f => rfl) (fun c => ?_) (fun c => ?_)
    · have c9 : (zcell (T k_a0) a1 a1) = false := ((Bool.not_eq_true' _).mp ((zcB_eq _).symm.trans c))
      replace H := H.1 c9
      refine zW_gh 29 [some (.ref 0), some (.int (Int32.ofNat k_a0)), some (.int a1), some (.int a2), some (.ref (21 + 8 * k_a0))] [.int (0 : Int32)] 1 (fun f => rfl) ?_
      exact zW_cl rfl rfl rfl rfl rfl (s97f H)
    · have c9 : (zcell (T k_a0) a1 a1) = true := ((Bool.not_eq_false' _).mp ((zcB_eq _).symm.trans c))
      replace H := H.2 c9
      obtain ⟨k_a1, h_k_a1, e_k_a1⟩ := zcell_r c9
      replace H := H k_a1 h_k_a1 e_k_a1
      subst e_k_a1
      refine zW_gh 18 [some (.ref 0), some (.int (Int32.ofNat k_a0)), some (.int (Int32.ofNat k_a1)), some (.int a2), some (.ref (21 + 8 * k_a0))] [.int a2] 1 (fun f => rfl) ?_
      refine zW_cl rfl rfl rfl rfl rfl (s108 ?_)
      change zW zm_124 21 [some (.ref 0), some (.int (Int32.ofNat k_a0)), some (.int (Int32.ofNat k_a1)), some (.int a2), some (.ref (21 + 8 * k_a0))] [.int (zbi (zprt a2))] p _ Q
      refine zW_bh (zcmp .eq (zbi (zprt a2)) (0 : Int32)) 28 24 [some (.ref 0), some (.int (Int32.ofNat k_a0)), some (.int (Int32.ofNat k_a1)), some (.int a2), some (.ref (21 + 8 * k_a0))] [] 1 (fun f => rfl) (fun c => ?_) (fun c => ?_)
      · have c9 : (zprt a2) = false := ((Bool.not_eq_true' _).mp ((zcB_eq _).symm.trans c))
        replace H := H.1 c9
        refine zW_gh 29 [some (.ref 0), some (.int (Int32.ofNat k_a0)), some (.int (Int32.ofNat k_a1)), some (.int a2), some (.ref (21 + 8 * k_a0))] [.int (0 : Int32)] 1 (fun f => rfl) ?_
        exact zW_cl rfl rfl rfl rfl rfl (s97f H)
      · have c9 : (zprt a2) = true := ((Bool.not_eq_false' _).mp ((zcB_eq _).symm.trans c))
        replace H := H.2 c9
        refine zW_gh 29 [some (.ref 0), some (.int (Int32.ofNat k_a0)), some (.int (Int32.ofNat k_a1)), some (.int a2), some (.ref (21 + 8 * k_a0))] [.int (1 : Int32)] 2 (fun f => rfl) ?_
        refine zW_cl rfl rfl rfl rfl rfl (s97t ?_)
        change zW zm_124 32 [some (.ref 0), some (.int (Int32.ofNat k_a0)), some (.int (Int32.ofNat k_a1)), some (.int a2), some (.ref (21 + 8 * k_a0))] [] p _ Q
        refine zW_gh 38 [some (.ref 0), some (.int (Int32.ofNat k_a0)), some (.int (Int32.ofNat k_a1)), some (.int a2), some (.ref (21 + 8 * k_a0))] [.ref (21 + 8 * k_a0), .ref (21 + 8 * 3)] 3 (fun f => rfl) ?_
        refine zW_fg (L' := [some (.ref 0), none, some (.int (Int32.ofNat k_a1)), some (.int a2), none]) (zle_s _ (zle_n _ (zle_s _ (zle_s _ (zle_n _ zle_nil))))) ?_
        exact zW_cv rfl rfl rfl (by decide) (zh_T0 (by decide : 3 < 6)) rfl rfl rfl rfl H
  · exact H.2.1 c9
  · exact H.2.2 c9
theorem b124_41 {P : zPt} {T : Nat → zX} {Y : zYt} {I : zIt} {A : zAt} {w : Nat → Int64} {p : Nat × Nat} {Q : zR → zH → Prop} {x2 : Nat} {x3 : Int32} (H : zT zm_82 [.ref (21 + 8 * 3)] p (zh (P, T, Y) I A w) (zK zm_124 48 [some (.ref 0), none, some (.int (Int32.ofNat x2)), some (.int x3), none] [] p Q)) : zW zm_124 41 [some (.ref 0), none, some (.int (Int32.ofNat x2)), some (.int x3), none] [] p (zh (P, T, Y) I A w) Q := by
  refine zW_gh 45 [some (.ref 0), none, some (.int (Int32.ofNat x2)), some (.int x3), none] [.ref (21 + 8 * 3)] 2 (fun f => rfl) ?_
  exact zW_cl rfl rfl rfl rfl rfl H
theorem b124_48 {P : zPt} {T : Nat → zX} {Y : zYt} {I : zIt} {A : zAt} {w : Nat → Int64} {p : Nat × Nat} {Q : zR → zH → Prop} {x2 : Nat} {x3 rv : Int32} (H : (zXb (T 3) ∧ Q (.inl (some (.int (zpo (zxat (T 3) (Int32.ofNat x2) (Int32.ofNat x2)) x3)))) (zh (P, T, Y) I A w))) : zW zm_124 48 [some (.ref 0), none, some (.int (Int32.ofNat x2)), some (.int x3), none] [.int rv] p (zh (P, T, Y) I A w) Q := by
  refine zW_gh 55 [some (.ref 0), none, some (.int (Int32.ofNat x2)), some (.int x3), none] [.int (Int32.ofNat x2), .int (Int32.ofNat x2), .ref (21 + 8 * 3)] 5 (fun f => rfl) ?_
  obtain ⟨h1, H⟩ := H
  refine zW_cv rfl rfl rfl (by decide) (zh_T0 (by decide : 3 < 6)) rfl rfl rfl rfl ((s31 (by decide : 3 < 6)) h1 ?_)
  change zW zm_124 58 [some (.ref 0), none, some (.int (Int32.ofNat x2)), some (.int x3), none] [.long (zxat (T 3) (Int32.ofNat x2) (Int32.ofNat x2))] p _ Q
  generalize (zxat (T 3) (Int32.ofNat x2) (Int32.ofNat x2)) = g2 at H ⊢
  refine zW_gh 59 [some (.ref 0), none, some (.int (Int32.ofNat x2)), some (.int x3), none] [.int x3, .long g2] 1 (fun f => rfl) ?_
  refine zW_cl rfl rfl rfl rfl rfl (s109 ?_)
  change zW zm_124 62 [some (.ref 0), none, some (.int (Int32.ofNat x2)), some (.int x3), none] [.int (zpo g2 x3)] p _ Q
  generalize (zpo g2 x3) = g3 at H ⊢
  exact zW_rh (some (.int g3)) 1 (fun f => rfl) H
theorem b125 {P : zPt} {T : Nat → zX} {Y : zYt} {I : zIt} {A : zAt} {w : Nat → Int64} {p : Nat × Nat} {Q : zR → zH → Prop} {a0 : Int32} (H : (zTb T ∧ ((zslot a0 = true ∧ zfil T a0 → ∀ k_a0, k_a0 < 3 → a0 = Int32.ofNat k_a0 → zT zm_36 [.ref (21 + 8 * 3), .ref (21 + 8 * k_a0)] p (zh (P, T, Y) I A w) (zK zm_125 14 [some (.ref 0), none, none, none, none, none, none, none] [] p Q)) ∧ ((zslot a0 = false → Q (.inr 0) (zh (P, T, Y) I A w)) ∧ (zslot a0 = true ∧ ¬ zfil T a0 → Q (.inr 1) (zh (P, T, Y) I A w)))))) : zT zm_125 [.ref 0, .int a0] p (zh (P, T, Y) I A w) Q := by
  change zW zm_125 0 [some (.ref 0), some (.int a0), none, none, none, none, none, none] [] p _ Q
  refine zW_gh 2 [some (.ref 0), some (.int a0), none, none, none, none, none, none] [.int a0, .ref 0] 2 (fun f => rfl) ?_
  obtain ⟨h1, H⟩ := H
  refine zW_cl rfl rfl rfl rfl rfl (s99 h1 ⟨fun c9 k_a0 h_k_a0 e_k_a0 => ?_, fun c9 => ?_, fun c9 => ?_⟩)
  · replace H := H.1 c9 k_a0 h_k_a0 e_k_a0
    subst e_k_a0
    change zW zm_125 5 [some (.ref 0), some (.int (Int32.ofNat k_a0)), none, none, none, none, none, none] [.ref (21 + 8 * k_a0)] p _ Q
    refine zW_gh 11 [some (.ref 0), some (.int (Int32.ofNat k_a0)), some (.ref (21 + 8 * k_a0)), none, none, none, none, none] [.ref (21 + 8 * k_a0), .ref (21 + 8 * 3)] 4 (fun f => rfl) ?_
    refine zW_fg (L' := [some (.ref 0), none, none, none, none, none, none, none]) (zle_s _ (zle_n _ (zle_n _ (zle_s _ (zle_s _ (zle_s _ (zle_s _ (zle_s _ zle_nil)))))))) ?_
    exact zW_cv rfl rfl rfl (by decide) (zh_T0 (by decide : 3 < 6)) rfl rfl rfl rfl H
  · exact H.2.1 c9
  · exact H.2.2 c9
theorem b125_14 {P : zPt} {T : Nat → zX} {Y : zYt} {I : zIt} {A : zAt} {w : Nat → Int64} {p : Nat × Nat} {Q : zR → zH → Prop} (H : zT zm_82 [.ref (21 + 8 * 3)] p (zh (P, T, Y) I A w) (zK zm_125 21 [some (.ref 0), none, none, none, none, none, none, none] [] p Q)) : zW zm_125 14 [some (.ref 0), none, none, none, none, none, none, none] [] p (zh (P, T, Y) I A w) Q := by
  refine zW_gh 18 [some (.ref 0), none, none, none, none, none, none, none] [.ref (21 + 8 * 3)] 2 (fun f => rfl) ?_
  exact zW_cl rfl rfl rfl rfl rfl H
theorem b125_21 {P : zPt} {T : Nat → zX} {Y : zYt} {I : zIt} {A : zAt} {w : Nat → Int64} {p : Nat × Nat} {Q : zR → zH → Prop} {rv : Int32} (H : (((Int32.ofNat ((T 3).2.1)) ≤ rv → zW zm_125 38 [some (.ref 0), none, none, some (.long (1 : Int64)), none, some (.int (Int32.ofNat 0)), none, none] [] p (zh (P, T, Y) I A w) Q) ∧ (¬ (Int32.ofNat ((T 3).2.1)) ≤ rv → Q (.inl (some (.long (0 : Int64)))) (zh (P, T, Y) I A w)))) : zW zm_125 21 [some (.ref 0), none, none, none, none, none, none, none] [.int rv] p (zh (P, T, Y) I A w) Q := by
  refine zW_gh 25 [some (.ref 0), none, none, none, none, none, none, none] [.ref (21 + 8 * 3), .int rv] 2 (fun f => rfl) ?_
  refine zW_gf rfl (by decide) (zh_T0 (by decide : 3 < 6)) rfl (v := .int (Int32.ofNat ((T 3).2.1))) rfl ?_
  refine zW_bh (zcmp .ge rv (Int32.ofNat ((T 3).2.1))) 33 31 [some (.ref 0), none, none, none, none, none, none, none] [] 1 (fun f => rfl) (fun c => ?_) (fun c => ?_)
  · have c9 : (Int32.ofNat ((T 3).2.1)) ≤ rv := (of_decide_eq_true c)
    replace H := H.1 c9
    refine zW_gh 38 [some (.ref 0), none, none, some (.long (1 : Int64)), none, some (.int (0 : Int32)), none, none] [] 4 (fun f => rfl) ?_
    exact H
  · have c9 : ¬ (Int32.ofNat ((T 3).2.1)) ≤ rv := (of_decide_eq_false c)
    replace H := H.2 c9
    refine zW_gh 32 [some (.ref 0), none, none, none, none, none, none, none] [.long (0 : Int64)] 1 (fun f => rfl) ?_
    exact zW_rh (some (.long (0 : Int64))) 1 (fun f => rfl) H
theorem b125_38 {P : zPt} {T : Nat → zX} {Y : zYt} {I : zIt} {A : zAt} {w : Nat → Int64} {p : Nat × Nat} {Q : zR → zH → Prop} {x5 : Nat} {x3 : Int64} (H : (x5 < 2147483648 ∧ ((T 3).2.1 < 2147483648 ∧ (((T 3).2.1 ≤ x5 → Q (.inl (some (.long x3))) (zh (P, T, Y) I A w)) ∧ (x5 < (T 3).2.1 → (zXb (T 3) ∧ zT (zrm ((T 3).1) zm_23 zm_8 zm_69) [.ref (zra ((T 3).1)), .long (zxat (T 3) (Int32.ofNat x5) (Int32.ofNat x5))] p (zh (P, T, Y) I A w) (zK zm_125 71 [some (.ref 0), none, none, some (.long x3), none, some (.int (Int32.ofNat x5)), none, none] [] p Q))))))) : zW zm_125 38 [some (.ref 0), none, none, some (.long x3), none, some (.int (Int32.ofNat x5)), none, none] [] p (zh (P, T, Y) I A w) Q := by
  refine zW_gh 44 [some (.ref 0), none, none, some (.long x3), none, some (.int (Int32.ofNat x5)), none, none] [.ref (21 + 8 * 3), .int (Int32.ofNat x5)] 3 (fun f => rfl) ?_
  refine zW_gf rfl (by decide) (zh_T0 (by decide : 3 < 6)) rfl (v := .int (Int32.ofNat ((T 3).2.1))) rfl ?_
  obtain ⟨h1, H⟩ := H
  obtain ⟨h2, H⟩ := H
  refine zW_bh (zcmp .ge (Int32.ofNat x5) (Int32.ofNat ((T 3).2.1))) 112 50 [some (.ref 0), none, none, some (.long x3), none, some (.int (Int32.ofNat x5)), none, none] [] 1 (fun f => rfl) (fun c => ?_) (fun c => ?_)
  · have c9 : (T 3).2.1 ≤ x5 := (of_decide_eq_true ((zcN_ge (a := x5) (b := (T 3).2.1) rfl rfl h1 h2).symm.trans c))
    replace H := H.1 c9
    refine zW_gh 113 [some (.ref 0), none, none, some (.long x3), none, some (.int (Int32.ofNat x5)), none, none] [.long x3] 1 (fun f => rfl) ?_
    exact zW_rh (some (.long x3)) 1 (fun f => rfl) H
  · have c9 : x5 < (T 3).2.1 := (Nat.lt_of_not_le (of_decide_eq_false ((zcN_ge (a := x5) (b := (T 3).2.1) rfl rfl h1 h2).symm.trans c)))
    replace H := H.2 c9
    refine zW_gh 54 [some (.ref 0), none, none, some (.long x3), none, some (.int (Int32.ofNat x5)), none, none] [.ref (21 + 8 * 3)] 2 (fun f => rfl) ?_
    refine zW_gf rfl (by decide) (zh_T0 (by decide : 3 < 6)) rfl (v := .ref (zra ((T 3).1))) rfl ?_
    refine zW_gh 65 [some (.ref 0), none, none, some (.long x3), none, some (.int (Int32.ofNat x5)), none, none] [.int (Int32.ofNat x5), .int (Int32.ofNat x5), .ref (21 + 8 * 3), .ref (zra ((T 3).1))] 4 (fun f => rfl) ?_
    obtain ⟨h3, H⟩ := H
    refine zW_cv rfl rfl rfl (by decide) (zh_T0 (by decide : 3 < 6)) rfl rfl rfl rfl ((s31 (by decide : 3 < 6)) h3 ?_)
    change zW zm_125 68 [some (.ref 0), none, none, some (.long x3), none, some (.int (Int32.ofNat x5)), none, none] [.long (zxat (T 3) (Int32.ofNat x5) (Int32.ofNat x5)), .ref (zra ((T 3).1))] p _ Q
    generalize (zxat (T 3) (Int32.ofNat x5) (Int32.ofNat x5)) = g4 at H ⊢
    exact zW_cr rfl rfl rfl rfl rfl rfl rfl rfl rfl rfl rfl rfl rfl H
theorem b125_71 {P : zPt} {T : Nat → zX} {Y : zYt} {I : zIt} {A : zAt} {w : Nat → Int64} {p : Nat × Nat} {Q : zR → zH → Prop} {x5 : Nat} {x3 rv : Int64} (H : ((rv < (1 : Int64) → Q (.inr 3) (zh (P, T, Y) I A w)) ∧ (¬ rv < (1 : Int64) → (rv ≠ 0 ∧ ((x3 ≤ ((1000000000000000000 : Int64) / rv) → zW zm_125 38 [some (.ref 0), none, none, some (.long (x3 * rv)), none, some (.int (Int32.ofNat (x5 + 1))), none, none] [] p (zh (P, T, Y) I A w) Q) ∧ (¬ x3 ≤ ((1000000000000000000 : Int64) / rv) → Q (.inr 3) (zh (P, T, Y) I A w))))))) : zW zm_125 71 [some (.ref 0), none, none, some (.long x3), none, some (.int (Int32.ofNat x5)), none, none] [.long rv] p (zh (P, T, Y) I A w) Q := by
  refine zW_bh (zcmp .lt (lg_cmp rv (1 : Int64)) (0 : Int32)) 91 80 [some (.ref 0), none, none, some (.long x3), none, some (.int (Int32.ofNat x5)), some (.long rv), none] [] 5 (fun f => rfl) (fun c => ?_) (fun c => ?_)
  · have c9 : rv < (1 : Int64) := (of_decide_eq_true ((zcL_lt _ _).symm.trans c))
    replace H := H.1 c9
    exact zW_th 3 1 (fun f => rfl) H
  · have c9 : ¬ rv < (1 : Int64) := (of_decide_eq_false ((zcL_lt _ _).symm.trans c))
    replace H := H.2 c9
    refine zW_gh 86 [some (.ref 0), none, none, some (.long x3), none, some (.int (Int32.ofNat x5)), some (.long rv), none] [.long rv, .long (1000000000000000000 : Int64), .long x3] 3 (fun f => rfl) ?_
    obtain ⟨h1, H⟩ := H
    refine zW_ldiv rfl h1 ?_
    refine zW_bh (zcmp .le (lg_cmp x3 ((1000000000000000000 : Int64) / rv)) (0 : Int32)) 101 91 [some (.ref 0), none, none, some (.long x3), none, some (.int (Int32.ofNat x5)), some (.long rv), none] [] 2 (fun f => rfl) (fun c => ?_) (fun c => ?_)
    · have c9 : x3 ≤ ((1000000000000000000 : Int64) / rv) := (of_decide_eq_true ((zcL_le _ _).symm.trans c))
      replace H := H.1 c9
      refine zW_gh 106 [some (.ref 0), none, none, some (.long (x3 * rv)), none, some (.int (Int32.ofNat x5)), some (.long rv), none] [] 4 (fun f => rfl) ?_
      refine zW_inc [some (.ref 0), none, none, some (.long (x3 * rv)), none, some (.int ((Int32.ofNat x5) + (1 : Int32))), some (.long rv), none] rfl rfl rfl ?_
      rw [show ((Int32.ofNat x5) + (1 : Int32)) = Int32.ofNat (x5 + 1) from (zN_a rfl rfl)]
      refine zW_gh 38 [some (.ref 0), none, none, some (.long (x3 * rv)), none, some (.int (Int32.ofNat (x5 + 1))), some (.long rv), none] [] 1 (fun f => rfl) ?_
      refine zW_fg (L' := [some (.ref 0), none, none, some (.long (x3 * rv)), none, some (.int (Int32.ofNat (x5 + 1))), none, none]) (zle_s _ (zle_s _ (zle_s _ (zle_s _ (zle_s _ (zle_s _ (zle_n _ (zle_s _ zle_nil)))))))) ?_
      exact H
    · have c9 : ¬ x3 ≤ ((1000000000000000000 : Int64) / rv) := (of_decide_eq_false ((zcL_le _ _).symm.trans c))
      replace H := H.2 c9
      exact zW_th 3 1 (fun f => rfl) H
theorem b127 {P : zPt} {T : Nat → zX} {Y : zYt} {I : zIt} {A : zAt} {w : Nat → Int64} {p : Nat × Nat} {Q : zR → zH → Prop} (H : zW zm_127 15 [some (.ref 0), some (.ref (zra ((T 3).1))), some (.long (4294967296 : Int64)), none, some (.int (Int32.ofNat 0))] [] p (zh (P, T, Y) I A w) Q) : zT zm_127 [.ref 0] p (zh (P, T, Y) I A w) Q := by
  change zW zm_127 0 [some (.ref 0), none, none, none, none] [] p _ Q
  refine zW_gh 4 [some (.ref 0), none, none, none, none] [.ref (21 + 8 * 3)] 2 (fun f => rfl) ?_
  refine zW_gf rfl (by decide) (zh_T0 (by decide : 3 < 6)) rfl (v := .ref (zra ((T 3).1))) rfl ?_
  refine zW_gh 15 [some (.ref 0), some (.ref (zra ((T 3).1))), some (.long (4294967296 : Int64)), none, some (.int (0 : Int32))] [] 5 (fun f => rfl) ?_
  exact H
theorem b127_15 {P : zPt} {T : Nat → zX} {Y : zYt} {I : zIt} {A : zAt} {w : Nat → Int64} {p : Nat × Nat} {Q : zR → zH → Prop} {x4 x1 : Nat} {x2 : Int64} (H : (x4 < 2147483648 ∧ ((T 3).2.1 < 2147483648 ∧ (((T 3).2.1 ≤ x4 → zW zm_127 53 [some (.ref 0), some (.ref (zra x1)), some (.long x2), none, some (.int (Int32.ofNat 0))] [] p (zh (P, T, Y) I A w) Q) ∧ (x4 < (T 3).2.1 → (zXb (T 3) ∧ zT zm_77 [.ref (zra x1), .long x2, .long (zxat (T 3) (Int32.ofNat x4) (Int32.ofNat x4))] p (zh (P, T, Y) I A w) (zK zm_127 43 [some (.ref 0), some (.ref (zra x1)), none, none, some (.int (Int32.ofNat x4))] [] p Q))))))) : zW zm_127 15 [some (.ref 0), some (.ref (zra x1)), some (.long x2), none, some (.int (Int32.ofNat x4))] [] p (zh (P, T, Y) I A w) Q := by
  refine zW_gh 21 [some (.ref 0), some (.ref (zra x1)), some (.long x2), none, some (.int (Int32.ofNat x4))] [.ref (21 + 8 * 3), .int (Int32.ofNat x4)] 3 (fun f => rfl) ?_
  refine zW_gf rfl (by decide) (zh_T0 (by decide : 3 < 6)) rfl (v := .int (Int32.ofNat ((T 3).2.1))) rfl ?_
  obtain ⟨h1, H⟩ := H
  obtain ⟨h2, H⟩ := H
  refine zW_bh (zcmp .ge (Int32.ofNat x4) (Int32.ofNat ((T 3).2.1))) 50 27 [some (.ref 0), some (.ref (zra x1)), some (.long x2), none, some (.int (Int32.ofNat x4))] [] 1 (fun f => rfl) (fun c => ?_) (fun c => ?_)
  · have c9 : (T 3).2.1 ≤ x4 := (of_decide_eq_true ((zcN_ge (a := x4) (b := (T 3).2.1) rfl rfl h1 h2).symm.trans c))
    replace H := H.1 c9
    refine zW_gh 53 [some (.ref 0), some (.ref (zra x1)), some (.long x2), none, some (.int (0 : Int32))] [] 2 (fun f => rfl) ?_
    exact H
  · have c9 : x4 < (T 3).2.1 := (Nat.lt_of_not_le (of_decide_eq_false ((zcN_ge (a := x4) (b := (T 3).2.1) rfl rfl h1 h2).symm.trans c)))
    replace H := H.2 c9
    refine zW_gh 37 [some (.ref 0), some (.ref (zra x1)), some (.long x2), none, some (.int (Int32.ofNat x4))] [.int (Int32.ofNat x4), .int (Int32.ofNat x4), .ref (21 + 8 * 3), .long x2, .ref (zra x1)] 6 (fun f => rfl) ?_
    obtain ⟨h3, H⟩ := H
    refine zW_cv rfl rfl rfl (by decide) (zh_T0 (by decide : 3 < 6)) rfl rfl rfl rfl ((s31 (by decide : 3 < 6)) h3 ?_)
    change zW zm_127 40 [some (.ref 0), some (.ref (zra x1)), some (.long x2), none, some (.int (Int32.ofNat x4))] [.long (zxat (T 3) (Int32.ofNat x4) (Int32.ofNat x4)), .long x2, .ref (zra x1)] p _ Q
    generalize (zxat (T 3) (Int32.ofNat x4) (Int32.ofNat x4)) = g4 at H ⊢
    refine zW_fg (L' := [some (.ref 0), some (.ref (zra x1)), none, none, some (.int (Int32.ofNat x4))]) (zle_s _ (zle_s _ (zle_n _ (zle_s _ (zle_s _ zle_nil))))) ?_
    exact zW_cr1 rfl rfl rfl rfl rfl rfl rfl rfl rfl H
theorem b127_53 {P : zPt} {T : Nat → zX} {Y : zYt} {I : zIt} {A : zAt} {w : Nat → Int64} {p : Nat × Nat} {Q : zR → zH → Prop} {x4 x1 : Nat} {x2 : Int64} (H : (x4 < 2147483648 ∧ ((T 3).2.2.2.1 < 2147483648 ∧ (((T 3).2.2.2.1 ≤ x4 → Q (.inl (some (.long x2))) (zh (P, T, Y) I A w)) ∧ (x4 < (T 3).2.2.2.1 → (x4 < 200 ∧ ((¬ ((T 3).2.2.2.2.2.2.2.1 x4) = (0 : Int32) → ((¬ ((T 3).2.2.2.2.2.2.2.1 x4) = (2 : Int32) → zW zm_127 53 [some (.ref 0), some (.ref (zra x1)), some (.long x2), none, some (.int (Int32.ofNat (x4 + 1)))] [] p (zh (P, T, Y) I A w) Q) ∧ (((T 3).2.2.2.2.2.2.2.1 x4) = (2 : Int32) → zT (zrm x1 zm_20 zm_5 zm_65) [.ref (zra x1), .long ((T 3).2.2.2.2.2.2.2.2.2.2 x4)] p (zh (P, T, Y) I A w) (zK zm_127 117 [some (.ref 0), some (.ref (zra x1)), none, none, some (.int (Int32.ofNat x4))] [.long x2, .ref (zra x1)] p Q)))) ∧ (((T 3).2.2.2.2.2.2.2.1 x4) = (0 : Int32) → zT (zrm x1 zm_19 zm_4 zm_64) [.ref (zra x1), .long x2] p (zh (P, T, Y) I A w) (zK zm_127 83 [some (.ref 0), some (.ref (zra x1)), none, none, some (.int (Int32.ofNat x4))] [] p Q))))))))) : zW zm_127 53 [some (.ref 0), some (.ref (zra x1)), some (.long x2), none, some (.int (Int32.ofNat x4))] [] p (zh (P, T, Y) I A w) Q := by
  refine zW_gh 59 [some (.ref 0), some (.ref (zra x1)), some (.long x2), none, some (.int (Int32.ofNat x4))] [.ref (21 + 8 * 3), .int (Int32.ofNat x4)] 3 (fun f => rfl) ?_
  refine zW_gf rfl (by decide) (zh_T0 (by decide : 3 < 6)) rfl (v := .int (Int32.ofNat ((T 3).2.2.2.1))) rfl ?_
  obtain ⟨h1, H⟩ := H
  obtain ⟨h2, H⟩ := H
  refine zW_bh (zcmp .ge (Int32.ofNat x4) (Int32.ofNat ((T 3).2.2.2.1))) 127 65 [some (.ref 0), some (.ref (zra x1)), some (.long x2), none, some (.int (Int32.ofNat x4))] [] 1 (fun f => rfl) (fun c => ?_) (fun c => ?_)
  · have c9 : (T 3).2.2.2.1 ≤ x4 := (of_decide_eq_true ((zcN_ge (a := x4) (b := (T 3).2.2.2.1) rfl rfl h1 h2).symm.trans c))
    replace H := H.1 c9
    refine zW_gh 128 [some (.ref 0), some (.ref (zra x1)), some (.long x2), none, some (.int (Int32.ofNat x4))] [.long x2] 1 (fun f => rfl) ?_
    exact zW_rh (some (.long x2)) 1 (fun f => rfl) H
  · have c9 : x4 < (T 3).2.2.2.1 := (Nat.lt_of_not_le (of_decide_eq_false ((zcN_ge (a := x4) (b := (T 3).2.2.2.1) rfl rfl h1 h2).symm.trans c)))
    replace H := H.2 c9
    refine zW_gh 69 [some (.ref 0), some (.ref (zra x1)), some (.long x2), none, some (.int (Int32.ofNat x4))] [.ref (21 + 8 * 3)] 2 (fun f => rfl) ?_
    refine zW_gf rfl (by decide) (zh_T0 (by decide : 3 < 6)) rfl (v := .ref (21 + 8 * 3 + 4)) rfl ?_
    refine zW_gh 74 [some (.ref 0), some (.ref (zra x1)), some (.long x2), none, some (.int (Int32.ofNat x4))] [.int (Int32.ofNat x4), .ref (21 + 8 * 3 + 4)] 1 (fun f => rfl) ?_
    obtain ⟨h3, H⟩ := H
    refine zW_iald rfl (by decide) (zh_T (c := 4) (by decide : 3 < 6) (by decide)) (by decide) rfl h3 ?_
    refine zW_bh (zcmp .ne ((T 3).2.2.2.2.2.2.2.1 x4) (0 : Int32)) 87 78 [some (.ref 0), some (.ref (zra x1)), some (.long x2), none, some (.int (Int32.ofNat x4))] [] 1 (fun f => rfl) (fun c => ?_) (fun c => ?_)
    · have c9 : ¬ ((T 3).2.2.2.2.2.2.2.1 x4) = (0 : Int32) := (by simpa [zcmp] using c)
      replace H := H.1 c9
      refine zW_gh 91 [some (.ref 0), some (.ref (zra x1)), some (.long x2), none, some (.int (Int32.ofNat x4))] [.ref (21 + 8 * 3)] 2 (fun f => rfl) ?_
      refine zW_gf rfl (by decide) (zh_T0 (by decide : 3 < 6)) rfl (v := .ref (21 + 8 * 3 + 4)) rfl ?_
      refine zW_gh 96 [some (.ref 0), some (.ref (zra x1)), some (.long x2), none, some (.int (Int32.ofNat x4))] [.int (Int32.ofNat x4), .ref (21 + 8 * 3 + 4)] 1 (fun f => rfl) ?_
      refine zW_iald rfl (by decide) (zh_T (c := 4) (by decide : 3 < 6) (by decide)) (by decide) rfl h3 ?_
      refine zW_bh (zcmp .ne ((T 3).2.2.2.2.2.2.2.1 x4) (2 : Int32)) 121 101 [some (.ref 0), some (.ref (zra x1)), some (.long x2), none, some (.int (Int32.ofNat x4))] [] 2 (fun f => rfl) (fun c => ?_) (fun c => ?_)
      · have c9 : ¬ ((T 3).2.2.2.2.2.2.2.1 x4) = (2 : Int32) := (by simpa [zcmp] using c)
        replace H := H.1 c9
        refine zW_inc [some (.ref 0), some (.ref (zra x1)), some (.long x2), none, some (.int ((Int32.ofNat x4) + (1 : Int32)))] rfl rfl rfl ?_
        rw [show ((Int32.ofNat x4) + (1 : Int32)) = Int32.ofNat (x4 + 1) from (zN_a rfl rfl)]
        refine zW_gh 53 [some (.ref 0), some (.ref (zra x1)), some (.long x2), none, some (.int (Int32.ofNat (x4 + 1)))] [] 1 (fun f => rfl) ?_
        exact H
      · have c9 : ((T 3).2.2.2.2.2.2.2.1 x4) = (2 : Int32) := (by simpa [zcmp] using c)
        replace H := H.2 c9
        refine zW_gh 108 [some (.ref 0), some (.ref (zra x1)), some (.long x2), none, some (.int (Int32.ofNat x4))] [.ref (21 + 8 * 3), .ref (zra x1), .long x2, .ref (zra x1)] 5 (fun f => rfl) ?_
        refine zW_gf rfl (by decide) (zh_T0 (by decide : 3 < 6)) rfl (v := .ref (21 + 8 * 3 + 7)) rfl ?_
        refine zW_gh 113 [some (.ref 0), some (.ref (zra x1)), some (.long x2), none, some (.int (Int32.ofNat x4))] [.int (Int32.ofNat x4), .ref (21 + 8 * 3 + 7), .ref (zra x1), .long x2, .ref (zra x1)] 1 (fun f => rfl) ?_
        refine zW_lald rfl (by decide) (zh_T (c := 7) (by decide : 3 < 6) (by decide)) (by decide) rfl h3 ?_
        refine zW_fg (L' := [some (.ref 0), some (.ref (zra x1)), none, none, some (.int (Int32.ofNat x4))]) (zle_s _ (zle_s _ (zle_n _ (zle_s _ (zle_s _ zle_nil))))) ?_
        exact zW_cr rfl rfl rfl rfl rfl rfl rfl rfl rfl rfl rfl rfl rfl H
    · have c9 : ((T 3).2.2.2.2.2.2.2.1 x4) = (0 : Int32) := (by simpa [zcmp] using c)
      replace H := H.2 c9
      refine zW_gh 80 [some (.ref 0), some (.ref (zra x1)), some (.long x2), none, some (.int (Int32.ofNat x4))] [.long x2, .ref (zra x1)] 2 (fun f => rfl) ?_
      refine zW_fg (L' := [some (.ref 0), some (.ref (zra x1)), none, none, some (.int (Int32.ofNat x4))]) (zle_s _ (zle_s _ (zle_n _ (zle_s _ (zle_s _ zle_nil))))) ?_
      exact zW_cr rfl rfl rfl rfl rfl rfl rfl rfl rfl rfl rfl rfl rfl H
theorem b127_43 {P : zPt} {T : Nat → zX} {Y : zYt} {I : zIt} {A : zAt} {w : Nat → Int64} {p : Nat × Nat} {Q : zR → zH → Prop} {x4 x1 : Nat} {rv : Int64} (H : zW zm_127 15 [some (.ref 0), some (.ref (zra x1)), some (.long rv), none, some (.int (Int32.ofNat (x4 + 1)))] [] p (zh (P, T, Y) I A w) Q) : zW zm_127 43 [some (.ref 0), some (.ref (zra x1)), none, none, some (.int (Int32.ofNat x4))] [.long rv] p (zh (P, T, Y) I A w) Q := by
  refine zW_gh 44 [some (.ref 0), some (.ref (zra x1)), some (.long rv), none, some (.int (Int32.ofNat x4))] [] 1 (fun f => rfl) ?_
  refine zW_inc [some (.ref 0), some (.ref (zra x1)), some (.long rv), none, some (.int ((Int32.ofNat x4) + (1 : Int32)))] rfl rfl rfl ?_
  rw [show ((Int32.ofNat x4) + (1 : Int32)) = Int32.ofNat (x4 + 1) from (zN_a rfl rfl)]
  refine zW_gh 15 [some (.ref 0), some (.ref (zra x1)), some (.long rv), none, some (.int (Int32.ofNat (x4 + 1)))] [] 1 (fun f => rfl) ?_
  exact H
theorem b127_117 {P : zPt} {T : Nat → zX} {Y : zYt} {I : zIt} {A : zAt} {w : Nat → Int64} {p : Nat × Nat} {Q : zR → zH → Prop} {x4 x1 : Nat} {rv s0 : Int64} (H : zT zm_77 [.ref (zra x1), .long s0, .long rv] p (zh (P, T, Y) I A w) (zK zm_127 120 [some (.ref 0), some (.ref (zra x1)), none, none, some (.int (Int32.ofNat x4))] [] p Q)) : zW zm_127 117 [some (.ref 0), some (.ref (zra x1)), none, none, some (.int (Int32.ofNat x4))] [.long rv, .long s0, .ref (zra x1)] p (zh (P, T, Y) I A w) Q := by
  exact zW_cr1 rfl rfl rfl rfl rfl rfl rfl rfl rfl H
theorem b127_83 {P : zPt} {T : Nat → zX} {Y : zYt} {I : zIt} {A : zAt} {w : Nat → Int64} {p : Nat × Nat} {Q : zR → zH → Prop} {x4 x1 : Nat} {rv : Int64} (H : zW zm_127 53 [some (.ref 0), some (.ref (zra x1)), some (.long rv), none, some (.int (Int32.ofNat (x4 + 1)))] [] p (zh (P, T, Y) I A w) Q) : zW zm_127 83 [some (.ref 0), some (.ref (zra x1)), none, none, some (.int (Int32.ofNat x4))] [.long rv] p (zh (P, T, Y) I A w) Q := by
  refine zW_gh 121 [some (.ref 0), some (.ref (zra x1)), some (.long rv), none, some (.int (Int32.ofNat x4))] [] 2 (fun f => rfl) ?_
  refine zW_inc [some (.ref 0), some (.ref (zra x1)), some (.long rv), none, some (.int ((Int32.ofNat x4) + (1 : Int32)))] rfl rfl rfl ?_
  rw [show ((Int32.ofNat x4) + (1 : Int32)) = Int32.ofNat (x4 + 1) from (zN_a rfl rfl)]
  refine zW_gh 53 [some (.ref 0), some (.ref (zra x1)), some (.long rv), none, some (.int (Int32.ofNat (x4 + 1)))] [] 1 (fun f => rfl) ?_
  exact H
theorem b127_120 {P : zPt} {T : Nat → zX} {Y : zYt} {I : zIt} {A : zAt} {w : Nat → Int64} {p : Nat × Nat} {Q : zR → zH → Prop} {x4 x1 : Nat} {rv : Int64} (H : zW zm_127 53 [some (.ref 0), some (.ref (zra x1)), some (.long rv), none, some (.int (Int32.ofNat (x4 + 1)))] [] p (zh (P, T, Y) I A w) Q) : zW zm_127 120 [some (.ref 0), some (.ref (zra x1)), none, none, some (.int (Int32.ofNat x4))] [.long rv] p (zh (P, T, Y) I A w) Q := by
  refine zW_gh 121 [some (.ref 0), some (.ref (zra x1)), some (.long rv), none, some (.int (Int32.ofNat x4))] [] 1 (fun f => rfl) ?_
  refine zW_inc [some (.ref 0), some (.ref (zra x1)), some (.long rv), none, some (.int ((Int32.ofNat x4) + (1 : Int32)))] rfl rfl rfl ?_
  rw [show ((Int32.ofNat x4) + (1 : Int32)) = Int32.ofNat (x4 + 1) from (zN_a rfl rfl)]
  refine zW_gh 53 [some (.ref 0), some (.ref (zra x1)), some (.long rv), none, some (.int (Int32.ofNat (x4 + 1)))] [] 1 (fun f => rfl) ?_
  exact H
theorem b126 {P : zPt} {T : Nat → zX} {Y : zYt} {I : zIt} {A : zAt} {w : Nat → Int64} {p : Nat × Nat} {Q : zR → zH → Prop} {a0 a1 : Int32} (H : (zTb T ∧ ((zslot a0 = true ∧ zfil T a0 → ∀ k_a0, k_a0 < 3 → a0 = Int32.ofNat k_a0 → ((T k_a0).2.1 < 2147483648 ∧ ((T k_a0).2.2.1 < 2147483648 ∧ ((¬ (T k_a0).2.1 = (T k_a0).2.2.1 → Q (.inr 1) (zh (P, T, Y) I A w)) ∧ ((T k_a0).2.1 = (T k_a0).2.2.1 → (((zprt a1) = true → zT zm_36 [.ref (21 + 8 * 3), .ref (21 + 8 * k_a0)] p (zh (P, T, Y) I A w) (zK zm_126 40 [some (.ref 0), none, some (.int a1), none] [] p Q)) ∧ ((zprt a1) = false → Q (.inr 2) (zh (P, T, Y) I A w)))))))) ∧ ((zslot a0 = false → Q (.inr 0) (zh (P, T, Y) I A w)) ∧ (zslot a0 = true ∧ ¬ zfil T a0 → Q (.inr 1) (zh (P, T, Y) I A w)))))) : zT zm_126 [.ref 0, .int a0, .int a1] p (zh (P, T, Y) I A w) Q := by
  change zW zm_126 0 [some (.ref 0), some (.int a0), some (.int a1), none] [] p _ Q
  refine zW_gh 2 [some (.ref 0), some (.int a0), some (.int a1), none] [.int a0, .ref 0] 2 (fun f => rfl) ?_
  obtain ⟨h1, H⟩ := H
  refine zW_cl rfl rfl rfl rfl rfl (s99 h1 ⟨fun c9 k_a0 h_k_a0 e_k_a0 => ?_, fun c9 => ?_, fun c9 => ?_⟩)
  · replace H := H.1 c9 k_a0 h_k_a0 e_k_a0
    subst e_k_a0
    change zW zm_126 5 [some (.ref 0), some (.int (Int32.ofNat k_a0)), some (.int a1), none] [.ref (21 + 8 * k_a0)] p _ Q
    refine zW_gh 7 [some (.ref 0), some (.int (Int32.ofNat k_a0)), some (.int a1), some (.ref (21 + 8 * k_a0))] [.ref (21 + 8 * k_a0)] 2 (fun f => rfl) ?_
    refine zW_gf rfl (by have := (show k_a0 < 6 from Nat.lt_trans h_k_a0 (by decide)); omega) (zh_T0 (show k_a0 < 6 from Nat.lt_trans h_k_a0 (by decide))) rfl (v := .int (Int32.ofNat ((T k_a0).2.1))) rfl ?_
    refine zW_gh 11 [some (.ref 0), some (.int (Int32.ofNat k_a0)), some (.int a1), some (.ref (21 + 8 * k_a0))] [.ref (21 + 8 * k_a0), .int (Int32.ofNat ((T k_a0).2.1))] 1 (fun f => rfl) ?_
    refine zW_gf rfl (by have := (show k_a0 < 6 from Nat.lt_trans h_k_a0 (by decide)); omega) (zh_T0 (show k_a0 < 6 from Nat.lt_trans h_k_a0 (by decide))) rfl (v := .int (Int32.ofNat ((T k_a0).2.2.1))) rfl ?_
    obtain ⟨h2, H⟩ := H
    obtain ⟨h3, H⟩ := H
    refine zW_bh (zcmp .ne (Int32.ofNat ((T k_a0).2.1)) (Int32.ofNat ((T k_a0).2.2.1))) 21 17 [some (.ref 0), some (.int (Int32.ofNat k_a0)), some (.int a1), some (.ref (21 + 8 * k_a0))] [] 1 (fun f => rfl) (fun c => ?_) (fun c => ?_)
    · have c9 : ¬ (T k_a0).2.1 = (T k_a0).2.2.1 := (by have c := (zcN_ne (a := (T k_a0).2.1) (b := (T k_a0).2.2.1) rfl rfl h2 h3).symm.trans c; simpa using c)
      replace H := H.1 c9
      refine zW_gh 22 [some (.ref 0), some (.int (Int32.ofNat k_a0)), some (.int a1), some (.ref (21 + 8 * k_a0))] [.int (0 : Int32)] 1 (fun f => rfl) ?_
      exact zW_cl rfl rfl rfl rfl rfl (s100f H)
    · have c9 : (T k_a0).2.1 = (T k_a0).2.2.1 := (by have c := (zcN_ne (a := (T k_a0).2.1) (b := (T k_a0).2.2.1) rfl rfl h2 h3).symm.trans c; simpa using c)
      replace H := H.2 c9
      refine zW_gh 22 [some (.ref 0), some (.int (Int32.ofNat k_a0)), some (.int a1), some (.ref (21 + 8 * k_a0))] [.int (1 : Int32)] 2 (fun f => rfl) ?_
      refine zW_cl rfl rfl rfl rfl rfl (s100t ?_)
      change zW zm_126 25 [some (.ref 0), some (.int (Int32.ofNat k_a0)), some (.int a1), some (.ref (21 + 8 * k_a0))] [] p _ Q
      refine zW_gh 26 [some (.ref 0), some (.int (Int32.ofNat k_a0)), some (.int a1), some (.ref (21 + 8 * k_a0))] [.int a1] 1 (fun f => rfl) ?_
      refine zW_cl rfl rfl rfl rfl rfl (s108 ?_)
      change zW zm_126 29 [some (.ref 0), some (.int (Int32.ofNat k_a0)), some (.int a1), some (.ref (21 + 8 * k_a0))] [.int (zbi (zprt a1))] p _ Q
      refine zW_cl rfl rfl rfl rfl rfl (s97 ⟨fun c9 => ?_, fun c9 => ?_⟩)
      · replace H := H.1 c9
        change zW zm_126 32 [some (.ref 0), some (.int (Int32.ofNat k_a0)), some (.int a1), some (.ref (21 + 8 * k_a0))] [] p _ Q
        refine zW_gh 37 [some (.ref 0), some (.int (Int32.ofNat k_a0)), some (.int a1), some (.ref (21 + 8 * k_a0))] [.ref (21 + 8 * k_a0), .ref (21 + 8 * 3)] 3 (fun f => rfl) ?_
        refine zW_fg (L' := [some (.ref 0), none, some (.int a1), none]) (zle_s _ (zle_n _ (zle_s _ (zle_n _ zle_nil)))) ?_
        exact zW_cv rfl rfl rfl (by decide) (zh_T0 (by decide : 3 < 6)) rfl rfl rfl rfl H
      · exact H.2 c9
  · exact H.2.1 c9
  · exact H.2.2 c9
theorem b126_40 {P : zPt} {T : Nat → zX} {Y : zYt} {I : zIt} {A : zAt} {w : Nat → Int64} {p : Nat × Nat} {Q : zR → zH → Prop} {x2 : Int32} (H : zT zm_11 [.ref (21 + 8 * 3)] p (zh (P, T, Y) I A w) (zK zm_126 47 [some (.ref 0), none, some (.int x2), none] [] p Q)) : zW zm_126 40 [some (.ref 0), none, some (.int x2), none] [] p (zh (P, T, Y) I A w) Q := by
  refine zW_gh 44 [some (.ref 0), none, some (.int x2), none] [.ref (21 + 8 * 3)] 2 (fun f => rfl) ?_
  exact zW_cl rfl rfl rfl rfl rfl H
theorem b126_47 {P : zPt} {T : Nat → zX} {Y : zYt} {I : zIt} {A : zAt} {w : Nat → Int64} {p : Nat × Nat} {Q : zR → zH → Prop} {x2 rv : Int32} (H : (((Int32.ofNat ((T 3).2.1)) ≤ rv → zT zm_127 [.ref 0] p (zh (P, T, Y) I A w) (zK zm_126 63 [none, none, some (.int x2), none] [] p Q)) ∧ (¬ (Int32.ofNat ((T 3).2.1)) ≤ rv → Q (.inl (some (.int (0 : Int32)))) (zh (P, T, Y) I A w)))) : zW zm_126 47 [some (.ref 0), none, some (.int x2), none] [.int rv] p (zh (P, T, Y) I A w) Q := by
  refine zW_gh 51 [some (.ref 0), none, some (.int x2), none] [.ref (21 + 8 * 3), .int rv] 2 (fun f => rfl) ?_
  refine zW_gf rfl (by decide) (zh_T0 (by decide : 3 < 6)) rfl (v := .int (Int32.ofNat ((T 3).2.1))) rfl ?_
  refine zW_bh (zcmp .ge rv (Int32.ofNat ((T 3).2.1))) 59 57 [some (.ref 0), none, some (.int x2), none] [] 1 (fun f => rfl) (fun c => ?_) (fun c => ?_)
  · have c9 : (Int32.ofNat ((T 3).2.1)) ≤ rv := (of_decide_eq_true c)
    replace H := H.1 c9
    refine zW_gh 60 [some (.ref 0), none, some (.int x2), none] [.ref 0] 1 (fun f => rfl) ?_
    refine zW_fg (L' := [none, none, some (.int x2), none]) (zle_n _ (zle_s _ (zle_s _ (zle_s _ zle_nil)))) ?_
    exact zW_cl rfl rfl rfl rfl rfl H
  · have c9 : ¬ (Int32.ofNat ((T 3).2.1)) ≤ rv := (of_decide_eq_false c)
    replace H := H.2 c9
    refine zW_gh 58 [some (.ref 0), none, some (.int x2), none] [.int (0 : Int32)] 1 (fun f => rfl) ?_
    exact zW_rh (some (.int (0 : Int32))) 1 (fun f => rfl) H
theorem b126_63 {P : zPt} {T : Nat → zX} {Y : zYt} {I : zIt} {A : zAt} {w : Nat → Int64} {p : Nat × Nat} {Q : zR → zH → Prop} {x2 : Int32} {rv : Int64} (H : Q (.inl (some (.int (zpo rv x2)))) (zh (P, T, Y) I A w)) : zW zm_126 63 [none, none, some (.int x2), none] [.long rv] p (zh (P, T, Y) I A w) Q := by
  refine zW_gh 64 [none, none, some (.int x2), none] [.int x2, .long rv] 1 (fun f => rfl) ?_
  refine zW_cl rfl rfl rfl rfl rfl (s109 ?_)
  change zW zm_126 67 [none, none, some (.int x2), none] [.int (zpo rv x2)] p _ Q
  generalize (zpo rv x2) = g1 at H ⊢
  exact zW_rh (some (.int g1)) 1 (fun f => rfl) H
theorem b128 {P : zPt} {T : Nat → zX} {Y : zYt} {I : zIt} {A : zAt} {w : Nat → Int64} {p : Nat × Nat} {Q : zR → zH → Prop} {a0 a1 : Int32} (H : ((zslot a0 = true → ∀ k_a0, k_a0 < 3 → a0 = Int32.ofNat k_a0 → ((zslot a1 = true → ∀ k_a1, k_a1 < 3 → a1 = Int32.ofNat k_a1 → ((T k_a0).2.1 < 2147483648 ∧ (((decide ((T k_a0).2.1 = 0)) = true → Q (.inr 1) (zh (P, T, Y) I A w)) ∧ ((decide ((T k_a0).2.1 = 0)) = false → ((T k_a1).2.1 < 2147483648 ∧ (((decide ((T k_a1).2.1 = 0)) = true → Q (.inr 1) (zh (P, T, Y) I A w)) ∧ ((decide ((T k_a1).2.1 = 0)) = false → (((decide (zrno (T k_a0).1 = zrno (T k_a1).1)) = false → Q (.inl (some (.int (0 : Int32)))) (zh (P, T, Y) I A w)) ∧ ((decide (zrno (T k_a0).1 = zrno (T k_a1).1)) = true → ((T k_a0).2.2.1 < 2147483648 ∧ ((T k_a1).2.2.1 < 2147483648 ∧ (((T k_a0).2.2.1 = (T k_a1).2.2.1 → zT zm_36 [.ref (21 + 8 * 3), .ref (21 + 8 * k_a0)] p (zh (P, T, Y) I A w) (zK zm_128 67 [some (.ref 0), none, none, none, some (.ref (21 + 8 * k_a1)), none, none] [] p Q)) ∧ (¬ (T k_a0).2.2.1 = (T k_a1).2.2.1 → Q (.inl (some (.int (0 : Int32)))) (zh (P, T, Y) I A w)))))))))))))) ∧ (zslot a1 = false → Q (.inr 0) (zh (P, T, Y) I A w)))) ∧ (zslot a0 = false → Q (.inr 0) (zh (P, T, Y) I A w)))) : zT zm_128 [.ref 0, .int a0, .int a1] p (zh (P, T, Y) I A w) Q := by
  change zW zm_128 0 [some (.ref 0), some (.int a0), some (.int a1), none, none, none, none] [] p _ Q
  refine zW_gh 2 [some (.ref 0), some (.int a0), some (.int a1), none, none, none, none] [.int a0, .ref 0] 2 (fun f => rfl) ?_
  refine zW_cl rfl rfl rfl rfl rfl (s95 ⟨fun c9 k_a0 h_k_a0 e_k_a0 => ?_, fun c9 => ?_⟩)
  · replace H := H.1 c9 k_a0 h_k_a0 e_k_a0
    subst e_k_a0
    change zW zm_128 5 [some (.ref 0), some (.int (Int32.ofNat k_a0)), some (.int a1), none, none, none, none] [.ref (21 + 8 * k_a0)] p _ Q
    refine zW_gh 8 [some (.ref 0), some (.int (Int32.ofNat k_a0)), some (.int a1), some (.ref (21 + 8 * k_a0)), none, none, none] [.int a1, .ref 0] 3 (fun f => rfl) ?_
    refine zW_cl rfl rfl rfl rfl rfl (s95 ⟨fun c9 k_a1 h_k_a1 e_k_a1 => ?_, fun c9 => ?_⟩)
    · replace H := H.1 c9 k_a1 h_k_a1 e_k_a1
      subst e_k_a1
      change zW zm_128 11 [some (.ref 0), some (.int (Int32.ofNat k_a0)), some (.int (Int32.ofNat k_a1)), some (.ref (21 + 8 * k_a0)), none, none, none] [.ref (21 + 8 * k_a1)] p _ Q
      refine zW_gh 14 [some (.ref 0), some (.int (Int32.ofNat k_a0)), some (.int (Int32.ofNat k_a1)), some (.ref (21 + 8 * k_a0)), some (.ref (21 + 8 * k_a1)), none, none] [.ref (21 + 8 * k_a0)] 2 (fun f => rfl) ?_
      obtain ⟨h1, H⟩ := H
      refine zW_cv rfl rfl rfl (by have := (show k_a0 < 6 from Nat.lt_trans h_k_a0 (by decide)); omega) (zh_T0 (show k_a0 < 6 from Nat.lt_trans h_k_a0 (by decide))) rfl rfl rfl rfl ((s27 (show k_a0 < 6 from Nat.lt_trans h_k_a0 (by decide))) h1 ?_)
      change zW zm_128 17 [some (.ref 0), some (.int (Int32.ofNat k_a0)), some (.int (Int32.ofNat k_a1)), some (.ref (21 + 8 * k_a0)), some (.ref (21 + 8 * k_a1)), none, none] [.int (zbi (decide ((T k_a0).2.1 = 0)))] p _ Q
      refine zW_bh (zcmp .ne (zbi (decide ((T k_a0).2.1 = 0))) (0 : Int32)) 32 20 [some (.ref 0), some (.int (Int32.ofNat k_a0)), some (.int (Int32.ofNat k_a1)), some (.ref (21 + 8 * k_a0)), some (.ref (21 + 8 * k_a1)), none, none] [] 1 (fun f => rfl) (fun c => ?_) (fun c => ?_)
      · have c9 : (decide ((T k_a0).2.1 = 0)) = true := ((zcB_ne _).symm.trans c)
        replace H := H.1 c9
        refine zW_gh 33 [some (.ref 0), some (.int (Int32.ofNat k_a0)), some (.int (Int32.ofNat k_a1)), some (.ref (21 + 8 * k_a0)), some (.ref (21 + 8 * k_a1)), none, none] [.int (0 : Int32)] 1 (fun f => rfl) ?_
        exact zW_cl rfl rfl rfl rfl rfl (s100f H)
      · have c9 : (decide ((T k_a0).2.1 = 0)) = false := ((zcB_ne _).symm.trans c)
        replace H := H.2 c9
        refine zW_gh 22 [some (.ref 0), some (.int (Int32.ofNat k_a0)), some (.int (Int32.ofNat k_a1)), some (.ref (21 + 8 * k_a0)), some (.ref (21 + 8 * k_a1)), none, none] [.ref (21 + 8 * k_a1)] 1 (fun f => rfl) ?_
        obtain ⟨h2, H⟩ := H
        refine zW_cv rfl rfl rfl (by have := (show k_a1 < 6 from Nat.lt_trans h_k_a1 (by decide)); omega) (zh_T0 (show k_a1 < 6 from Nat.lt_trans h_k_a1 (by decide))) rfl rfl rfl rfl ((s27 (show k_a1 < 6 from Nat.lt_trans h_k_a1 (by decide))) h2 ?_)
        change zW zm_128 25 [some (.ref 0), some (.int (Int32.ofNat k_a0)), some (.int (Int32.ofNat k_a1)), some (.ref (21 + 8 * k_a0)), some (.ref (21 + 8 * k_a1)), none, none] [.int (zbi (decide ((T k_a1).2.1 = 0)))] p _ Q
        refine zW_bh (zcmp .ne (zbi (decide ((T k_a1).2.1 = 0))) (0 : Int32)) 32 28 [some (.ref 0), some (.int (Int32.ofNat k_a0)), some (.int (Int32.ofNat k_a1)), some (.ref (21 + 8 * k_a0)), some (.ref (21 + 8 * k_a1)), none, none] [] 1 (fun f => rfl) (fun c => ?_) (fun c => ?_)
        · have c9 : (decide ((T k_a1).2.1 = 0)) = true := ((zcB_ne _).symm.trans c)
          replace H := H.1 c9
          refine zW_gh 33 [some (.ref 0), some (.int (Int32.ofNat k_a0)), some (.int (Int32.ofNat k_a1)), some (.ref (21 + 8 * k_a0)), some (.ref (21 + 8 * k_a1)), none, none] [.int (0 : Int32)] 1 (fun f => rfl) ?_
          exact zW_cl rfl rfl rfl rfl rfl (s100f H)
        · have c9 : (decide ((T k_a1).2.1 = 0)) = false := ((zcB_ne _).symm.trans c)
          replace H := H.2 c9
          refine zW_gh 33 [some (.ref 0), some (.int (Int32.ofNat k_a0)), some (.int (Int32.ofNat k_a1)), some (.ref (21 + 8 * k_a0)), some (.ref (21 + 8 * k_a1)), none, none] [.int (1 : Int32)] 2 (fun f => rfl) ?_
          refine zW_cl rfl rfl rfl rfl rfl (s100t ?_)
          change zW zm_128 36 [some (.ref 0), some (.int (Int32.ofNat k_a0)), some (.int (Int32.ofNat k_a1)), some (.ref (21 + 8 * k_a0)), some (.ref (21 + 8 * k_a1)), none, none] [] p _ Q
          refine zW_gh 39 [some (.ref 0), some (.int (Int32.ofNat k_a0)), some (.int (Int32.ofNat k_a1)), some (.ref (21 + 8 * k_a0)), some (.ref (21 + 8 * k_a1)), none, none] [.ref (21 + 8 * k_a1), .ref (21 + 8 * k_a0)] 2 (fun f => rfl) ?_
          refine zW_cv rfl rfl rfl (by have := (show k_a0 < 6 from Nat.lt_trans h_k_a0 (by decide)); omega) (zh_T0 (show k_a0 < 6 from Nat.lt_trans h_k_a0 (by decide))) rfl rfl rfl rfl ((s35 (show k_a0 < 6 from Nat.lt_trans h_k_a0 (by decide)) (show k_a1 < 6 from Nat.lt_trans h_k_a1 (by decide))) ?_)
          change zW zm_128 42 [some (.ref 0), some (.int (Int32.ofNat k_a0)), some (.int (Int32.ofNat k_a1)), some (.ref (21 + 8 * k_a0)), some (.ref (21 + 8 * k_a1)), none, none] [.int (zbi (decide (zrno (T k_a0).1 = zrno (T k_a1).1)))] p _ Q
          refine zW_bh (zcmp .eq (zbi (decide (zrno (T k_a0).1 = zrno (T k_a1).1))) (0 : Int32)) 57 45 [some (.ref 0), some (.int (Int32.ofNat k_a0)), some (.int (Int32.ofNat k_a1)), some (.ref (21 + 8 * k_a0)), some (.ref (21 + 8 * k_a1)), none, none] [] 1 (fun f => rfl) (fun c => ?_) (fun c => ?_)
          · have c9 : (decide (zrno (T k_a0).1 = zrno (T k_a1).1)) = false := ((Bool.not_eq_true' _).mp ((zcB_eq _).symm.trans c))
            replace H := H.1 c9
            refine zW_gh 58 [some (.ref 0), some (.int (Int32.ofNat k_a0)), some (.int (Int32.ofNat k_a1)), some (.ref (21 + 8 * k_a0)), some (.ref (21 + 8 * k_a1)), none, none] [.int (0 : Int32)] 1 (fun f => rfl) ?_
            exact zW_rh (some (.int (0 : Int32))) 1 (fun f => rfl) H
          · have c9 : (decide (zrno (T k_a0).1 = zrno (T k_a1).1)) = true := ((Bool.not_eq_false' _).mp ((zcB_eq _).symm.trans c))
            replace H := H.2 c9
            refine zW_gh 46 [some (.ref 0), some (.int (Int32.ofNat k_a0)), some (.int (Int32.ofNat k_a1)), some (.ref (21 + 8 * k_a0)), some (.ref (21 + 8 * k_a1)), none, none] [.ref (21 + 8 * k_a0)] 1 (fun f => rfl) ?_
            refine zW_gf rfl (by have := (show k_a0 < 6 from Nat.lt_trans h_k_a0 (by decide)); omega) (zh_T0 (show k_a0 < 6 from Nat.lt_trans h_k_a0 (by decide))) rfl (v := .int (Int32.ofNat ((T k_a0).2.2.1))) rfl ?_
            refine zW_gh 51 [some (.ref 0), some (.int (Int32.ofNat k_a0)), some (.int (Int32.ofNat k_a1)), some (.ref (21 + 8 * k_a0)), some (.ref (21 + 8 * k_a1)), none, none] [.ref (21 + 8 * k_a1), .int (Int32.ofNat ((T k_a0).2.2.1))] 1 (fun f => rfl) ?_
            refine zW_gf rfl (by have := (show k_a1 < 6 from Nat.lt_trans h_k_a1 (by decide)); omega) (zh_T0 (show k_a1 < 6 from Nat.lt_trans h_k_a1 (by decide))) rfl (v := .int (Int32.ofNat ((T k_a1).2.2.1))) rfl ?_
            obtain ⟨h3, H⟩ := H
            obtain ⟨h4, H⟩ := H
            refine zW_bh (zcmp .eq (Int32.ofNat ((T k_a0).2.2.1)) (Int32.ofNat ((T k_a1).2.2.1))) 59 57 [some (.ref 0), some (.int (Int32.ofNat k_a0)), some (.int (Int32.ofNat k_a1)), some (.ref (21 + 8 * k_a0)), some (.ref (21 + 8 * k_a1)), none, none] [] 1 (fun f => rfl) (fun c => ?_) (fun c => ?_)
            · have c9 : (T k_a0).2.2.1 = (T k_a1).2.2.1 := (of_decide_eq_true ((zcN_eq (a := (T k_a0).2.2.1) (b := (T k_a1).2.2.1) rfl rfl h3 h4).symm.trans c))
              replace H := H.1 c9
              refine zW_gh 64 [some (.ref 0), some (.int (Int32.ofNat k_a0)), some (.int (Int32.ofNat k_a1)), some (.ref (21 + 8 * k_a0)), some (.ref (21 + 8 * k_a1)), none, none] [.ref (21 + 8 * k_a0), .ref (21 + 8 * 3)] 3 (fun f => rfl) ?_
              refine zW_fg (L' := [some (.ref 0), none, none, none, some (.ref (21 + 8 * k_a1)), none, none]) (zle_s _ (zle_n _ (zle_n _ (zle_n _ (zle_s _ (zle_s _ (zle_s _ zle_nil))))))) ?_
              exact zW_cv rfl rfl rfl (by decide) (zh_T0 (by decide : 3 < 6)) rfl rfl rfl rfl H
            · have c9 : ¬ (T k_a0).2.2.1 = (T k_a1).2.2.1 := (of_decide_eq_false ((zcN_eq (a := (T k_a0).2.2.1) (b := (T k_a1).2.2.1) rfl rfl h3 h4).symm.trans c))
              replace H := H.2 c9
              refine zW_gh 58 [some (.ref 0), some (.int (Int32.ofNat k_a0)), some (.int (Int32.ofNat k_a1)), some (.ref (21 + 8 * k_a0)), some (.ref (21 + 8 * k_a1)), none, none] [.int (0 : Int32)] 1 (fun f => rfl) ?_
              exact zW_rh (some (.int (0 : Int32))) 1 (fun f => rfl) H
    · exact H.2 c9
  · exact H.2 c9
theorem b128_67 {P : zPt} {T : Nat → zX} {Y : zYt} {I : zIt} {A : zAt} {w : Nat → Int64} {p : Nat × Nat} {Q : zR → zH → Prop} {k_a1 : Nat} (H : zT zm_36 [.ref (21 + 8 * 4), .ref (21 + 8 * k_a1)] p (zh (P, T, Y) I A w) (zK zm_128 76 [some (.ref 0), none, none, none, none, none, none] [] p Q)) : zW zm_128 67 [some (.ref 0), none, none, none, some (.ref (21 + 8 * k_a1)), none, none] [] p (zh (P, T, Y) I A w) Q := by
  refine zW_gh 73 [some (.ref 0), none, none, none, some (.ref (21 + 8 * k_a1)), none, none] [.ref (21 + 8 * k_a1), .ref (21 + 8 * 4)] 3 (fun f => rfl) ?_
  refine zW_fg (L' := [some (.ref 0), none, none, none, none, none, none]) (zle_s _ (zle_s _ (zle_s _ (zle_s _ (zle_n _ (zle_s _ (zle_s _ zle_nil))))))) ?_
  exact zW_cv rfl rfl rfl (by decide) (zh_T0 (by decide : 4 < 6)) rfl rfl rfl rfl H
theorem b128_76 {P : zPt} {T : Nat → zX} {Y : zYt} {I : zIt} {A : zAt} {w : Nat → Int64} {p : Nat × Nat} {Q : zR → zH → Prop} (H : zT zm_11 [.ref (21 + 8 * 3)] p (zh (P, T, Y) I A w) (zK zm_128 83 [some (.ref 0), none, none, none, none, none, none] [] p Q)) : zW zm_128 76 [some (.ref 0), none, none, none, none, none, none] [] p (zh (P, T, Y) I A w) Q := by
  refine zW_gh 80 [some (.ref 0), none, none, none, none, none, none] [.ref (21 + 8 * 3)] 2 (fun f => rfl) ?_
  exact zW_cl rfl rfl rfl rfl rfl H
theorem b128_83 {P : zPt} {T : Nat → zX} {Y : zYt} {I : zIt} {A : zAt} {w : Nat → Int64} {p : Nat × Nat} {Q : zR → zH → Prop} {rv : Int32} (H : zT zm_11 [.ref (21 + 8 * 4)] p (zh (P, T, Y) I A w) (zK zm_128 92 [some (.ref 0), none, none, none, none, some (.int rv), none] [] p Q)) : zW zm_128 83 [some (.ref 0), none, none, none, none, none, none] [.int rv] p (zh (P, T, Y) I A w) Q := by
  refine zW_gh 89 [some (.ref 0), none, none, none, none, some (.int rv), none] [.ref (21 + 8 * 4)] 3 (fun f => rfl) ?_
  exact zW_cl rfl rfl rfl rfl rfl H
theorem b128_92 {P : zPt} {T : Nat → zX} {Y : zYt} {I : zIt} {A : zAt} {w : Nat → Int64} {p : Nat × Nat} {Q : zR → zH → Prop} {x5 rv : Int32} (H : ((¬ x5 = rv → Q (.inl (some (.int (0 : Int32)))) (zh (P, T, Y) I A w)) ∧ (x5 = rv → zT zm_47 [.ref (21 + 8 * 3), .ref (21 + 8 * 4), .int x5] p (zh (P, T, Y) I A w) (zK zm_128 114 [none, none, none, none, none, none, none] [] p Q)))) : zW zm_128 92 [some (.ref 0), none, none, none, none, some (.int x5), none] [.int rv] p (zh (P, T, Y) I A w) Q := by
  refine zW_bh (zcmp .ne x5 rv) 121 101 [some (.ref 0), none, none, none, none, some (.int x5), some (.int rv)] [] 4 (fun f => rfl) (fun c => ?_) (fun c => ?_)
  · have c9 : ¬ x5 = rv := (by simpa [zcmp] using c)
    replace H := H.1 c9
    refine zW_gh 122 [some (.ref 0), none, none, none, none, some (.int x5), some (.int rv)] [.int (0 : Int32)] 1 (fun f => rfl) ?_
    exact zW_rh (some (.int (0 : Int32))) 1 (fun f => rfl) H
  · have c9 : x5 = rv := (by simpa [zcmp] using c)
    replace H := H.2 c9
    refine zW_gh 111 [some (.ref 0), none, none, none, none, some (.int x5), some (.int rv)] [.int x5, .ref (21 + 8 * 4), .ref (21 + 8 * 3)] 5 (fun f => rfl) ?_
    refine zW_fg (L' := [none, none, none, none, none, none, none]) (zle_n _ (zle_s _ (zle_s _ (zle_s _ (zle_s _ (zle_n _ (zle_n _ zle_nil))))))) ?_
    exact zW_cv rfl rfl rfl (by decide) (zh_T0 (by decide : 3 < 6)) rfl rfl rfl rfl H
theorem b128_114 {P : zPt} {T : Nat → zX} {Y : zYt} {I : zIt} {A : zAt} {w : Nat → Int64} {p : Nat × Nat} {Q : zR → zH → Prop} {rv : Bool} (H : ((rv = false → Q (.inl (some (.int (0 : Int32)))) (zh (P, T, Y) I A w)) ∧ (rv = true → Q (.inl (some (.int (1 : Int32)))) (zh (P, T, Y) I A w)))) : zW zm_128 114 [none, none, none, none, none, none, none] [.int (zbi rv)] p (zh (P, T, Y) I A w) Q := by
  refine zW_bh (zcmp .eq (zbi rv) (0 : Int32)) 121 117 [none, none, none, none, none, none, none] [] 1 (fun f => rfl) (fun c => ?_) (fun c => ?_)
  · have c9 : rv = false := ((Bool.not_eq_true' _).mp ((zcB_eq _).symm.trans c))
    replace H := H.1 c9
    refine zW_gh 122 [none, none, none, none, none, none, none] [.int (0 : Int32)] 1 (fun f => rfl) ?_
    exact zW_rh (some (.int (0 : Int32))) 1 (fun f => rfl) H
  · have c9 : rv = true := ((Bool.not_eq_false' _).mp ((zcB_eq _).symm.trans c))
    replace H := H.2 c9
    refine zW_gh 122 [none, none, none, none, none, none, none] [.int (1 : Int32)] 2 (fun f => rfl) ?_
    exact zW_rh (some (.int (1 : Int32))) 1 (fun f => rfl) H
theorem b129 {P : zPt} {T : Nat → zX} {Y : zYt} {I : zIt} {A : zAt} {w : Nat → Int64} {p : Nat × Nat} {Q : zR → zH → Prop} {a0 a1 : Int32} (H : ((zslot a0 = true → ∀ k_a0, k_a0 < 3 → a0 = Int32.ofNat k_a0 → ((zslot a1 = true → ∀ k_a1, k_a1 < 3 → a1 = Int32.ofNat k_a1 → ((T k_a0).2.1 < 2147483648 ∧ (((decide ((T k_a0).2.1 = 0)) = true → Q (.inr 1) (zh (P, T, Y) I A w)) ∧ ((decide ((T k_a0).2.1 = 0)) = false → ((T k_a1).2.1 < 2147483648 ∧ (((decide ((T k_a1).2.1 = 0)) = true → Q (.inr 1) (zh (P, T, Y) I A w)) ∧ ((decide ((T k_a1).2.1 = 0)) = false → (((decide (zrno (T k_a0).1 = zrno (T k_a1).1)) = false → Q (.inl (some (.int (0 : Int32)))) (zh (P, T, Y) I A w)) ∧ ((decide (zrno (T k_a0).1 = zrno (T k_a1).1)) = true → ((T k_a0).2.1 < 2147483648 ∧ ((T k_a1).2.1 < 2147483648 ∧ ((¬ (T k_a0).2.1 = (T k_a1).2.1 → Q (.inl (some (.int (0 : Int32)))) (zh (P, T, Y) I A w)) ∧ ((T k_a0).2.1 = (T k_a1).2.1 → ((T k_a0).2.2.1 < 2147483648 ∧ ((T k_a1).2.2.1 < 2147483648 ∧ (((T k_a0).2.2.1 = (T k_a1).2.2.1 → zT zm_36 [.ref (21 + 8 * 3), .ref (21 + 8 * k_a0)] p (zh (P, T, Y) I A w) (zK zm_129 79 [some (.ref 0), none, none, none, some (.ref (21 + 8 * k_a1))] [] p Q)) ∧ (¬ (T k_a0).2.2.1 = (T k_a1).2.2.1 → Q (.inl (some (.int (0 : Int32)))) (zh (P, T, Y) I A w)))))))))))))))))) ∧ (zslot a1 = false → Q (.inr 0) (zh (P, T, Y) I A w)))) ∧ (zslot a0 = false → Q (.inr 0) (zh (P, T, Y) I A w)))) : zT zm_129 [.ref 0, .int a0, .int a1] p (zh (P, T, Y) I A w) Q := by
  change zW zm_129 0 [some (.ref 0), some (.int a0), some (.int a1), none, none] [] p _ Q
  refine zW_gh 2 [some (.ref 0), some (.int a0), some (.int a1), none, none] [.int a0, .ref 0] 2 (fun f => rfl) ?_
  refine zW_cl rfl rfl rfl rfl rfl (s95 ⟨fun c9 k_a0 h_k_a0 e_k_a0 => ?_, fun c9 => ?_⟩)
  · replace H := H.1 c9 k_a0 h_k_a0 e_k_a0
    subst e_k_a0
    change zW zm_129 5 [some (.ref 0), some (.int (Int32.ofNat k_a0)), some (.int a1), none, none] [.ref (21 + 8 * k_a0)] p _ Q
    refine zW_gh 8 [some (.ref 0), some (.int (Int32.ofNat k_a0)), some (.int a1), some (.ref (21 + 8 * k_a0)), none] [.int a1, .ref 0] 3 (fun f => rfl) ?_
    refine zW_cl rfl rfl rfl rfl rfl (s95 ⟨fun c9 k_a1 h_k_a1 e_k_a1 => ?_, fun c9 => ?_⟩)
    · replace H := H.1 c9 k_a1 h_k_a1 e_k_a1
      subst e_k_a1
      change zW zm_129 11 [some (.ref 0), some (.int (Int32.ofNat k_a0)), some (.int (Int32.ofNat k_a1)), some (.ref (21 + 8 * k_a0)), none] [.ref (21 + 8 * k_a1)] p _ Q
      refine zW_gh 14 [some (.ref 0), some (.int (Int32.ofNat k_a0)), some (.int (Int32.ofNat k_a1)), some (.ref (21 + 8 * k_a0)), some (.ref (21 + 8 * k_a1))] [.ref (21 + 8 * k_a0)] 2 (fun f => rfl) ?_
      obtain ⟨h1, H⟩ := H
      refine zW_cv rfl rfl rfl (by have := (show k_a0 < 6 from Nat.lt_trans h_k_a0 (by decide)); omega) (zh_T0 (show k_a0 < 6 from Nat.lt_trans h_k_a0 (by decide))) rfl rfl rfl rfl ((s27 (show k_a0 < 6 from Nat.lt_trans h_k_a0 (by decide))) h1 ?_)
      change zW zm_129 17 [some (.ref 0), some (.int (Int32.ofNat k_a0)), some (.int (Int32.ofNat k_a1)), some (.ref (21 + 8 * k_a0)), some (.ref (21 + 8 * k_a1))] [.int (zbi (decide ((T k_a0).2.1 = 0)))] p _ Q
      refine zW_bh (zcmp .ne (zbi (decide ((T k_a0).2.1 = 0))) (0 : Int32)) 32 20 [some (.ref 0), some (.int (Int32.ofNat k_a0)), some (.int (Int32.ofNat k_a1)), some (.ref (21 + 8 * k_a0)), some (.ref (21 + 8 * k_a1))] [] 1 (fun f => rfl) (fun c => ?_) (fun c => ?_)
      · have c9 : (decide ((T k_a0).2.1 = 0)) = true := ((zcB_ne _).symm.trans c)
        replace H := H.1 c9
        refine zW_gh 33 [some (.ref 0), some (.int (Int32.ofNat k_a0)), some (.int (Int32.ofNat k_a1)), some (.ref (21 + 8 * k_a0)), some (.ref (21 + 8 * k_a1))] [.int (0 : Int32)] 1 (fun f => rfl) ?_
        exact zW_cl rfl rfl rfl rfl rfl (s100f H)
      · have c9 : (decide ((T k_a0).2.1 = 0)) = false := ((zcB_ne _).symm.trans c)
        replace H := H.2 c9
        refine zW_gh 22 [some (.ref 0), some (.int (Int32.ofNat k_a0)), some (.int (Int32.ofNat k_a1)), some (.ref (21 + 8 * k_a0)), some (.ref (21 + 8 * k_a1))] [.ref (21 + 8 * k_a1)] 1 (fun f => rfl) ?_
        obtain ⟨h2, H⟩ := H
        refine zW_cv rfl rfl rfl (by have := (show k_a1 < 6 from Nat.lt_trans h_k_a1 (by decide)); omega) (zh_T0 (show k_a1 < 6 from Nat.lt_trans h_k_a1 (by decide))) rfl rfl rfl rfl ((s27 (show k_a1 < 6 from Nat.lt_trans h_k_a1 (by decide))) h2 ?_)
        change zW zm_129 25 [some (.ref 0), some (.int (Int32.ofNat k_a0)), some (.int (Int32.ofNat k_a1)), some (.ref (21 + 8 * k_a0)), some (.ref (21 + 8 * k_a1))] [.int (zbi (decide ((T k_a1).2.1 = 0)))] p _ Q
        refine zW_bh (zcmp .ne (zbi (decide ((T k_a1).2.1 = 0))) (0 : Int32)) 32 28 [some (.ref 0), some (.int (Int32.ofNat k_a0)), some (.int (Int32.ofNat k_a1)), some (.ref (21 + 8 * k_a0)), some (.ref (21 + 8 * k_a1))] [] 1 (fun f => rfl) (fun c => ?_) (fun c => ?_)
        · have c9 : (decide ((T k_a1).2.1 = 0)) = true := ((zcB_ne _).symm.trans c)
          replace H := H.1 c9
          refine zW_gh 33 [some (.ref 0), some (.int (Int32.ofNat k_a0)), some (.int (Int32.ofNat k_a1)), some (.ref (21 + 8 * k_a0)), some (.ref (21 + 8 * k_a1))] [.int (0 : Int32)] 1 (fun f => rfl) ?_
          exact zW_cl rfl rfl rfl rfl rfl (s100f H)
        · have c9 : (decide ((T k_a1).2.1 = 0)) = false := ((zcB_ne _).symm.trans c)
          replace H := H.2 c9
          refine zW_gh 33 [some (.ref 0), some (.int (Int32.ofNat k_a0)), some (.int (Int32.ofNat k_a1)), some (.ref (21 + 8 * k_a0)), some (.ref (21 + 8 * k_a1))] [.int (1 : Int32)] 2 (fun f => rfl) ?_
          refine zW_cl rfl rfl rfl rfl rfl (s100t ?_)
          change zW zm_129 36 [some (.ref 0), some (.int (Int32.ofNat k_a0)), some (.int (Int32.ofNat k_a1)), some (.ref (21 + 8 * k_a0)), some (.ref (21 + 8 * k_a1))] [] p _ Q
          refine zW_gh 39 [some (.ref 0), some (.int (Int32.ofNat k_a0)), some (.int (Int32.ofNat k_a1)), some (.ref (21 + 8 * k_a0)), some (.ref (21 + 8 * k_a1))] [.ref (21 + 8 * k_a1), .ref (21 + 8 * k_a0)] 2 (fun f => rfl) ?_
          refine zW_cv rfl rfl rfl (by have := (show k_a0 < 6 from Nat.lt_trans h_k_a0 (by decide)); omega) (zh_T0 (show k_a0 < 6 from Nat.lt_trans h_k_a0 (by decide))) rfl rfl rfl rfl ((s35 (show k_a0 < 6 from Nat.lt_trans h_k_a0 (by decide)) (show k_a1 < 6 from Nat.lt_trans h_k_a1 (by decide))) ?_)
          change zW zm_129 42 [some (.ref 0), some (.int (Int32.ofNat k_a0)), some (.int (Int32.ofNat k_a1)), some (.ref (21 + 8 * k_a0)), some (.ref (21 + 8 * k_a1))] [.int (zbi (decide (zrno (T k_a0).1 = zrno (T k_a1).1)))] p _ Q
          refine zW_bh (zcmp .eq (zbi (decide (zrno (T k_a0).1 = zrno (T k_a1).1))) (0 : Int32)) 69 45 [some (.ref 0), some (.int (Int32.ofNat k_a0)), some (.int (Int32.ofNat k_a1)), some (.ref (21 + 8 * k_a0)), some (.ref (21 + 8 * k_a1))] [] 1 (fun f => rfl) (fun c => ?_) (fun c => ?_)
          · have c9 : (decide (zrno (T k_a0).1 = zrno (T k_a1).1)) = false := ((Bool.not_eq_true' _).mp ((zcB_eq _).symm.trans c))
            replace H := H.1 c9
            refine zW_gh 70 [some (.ref 0), some (.int (Int32.ofNat k_a0)), some (.int (Int32.ofNat k_a1)), some (.ref (21 + 8 * k_a0)), some (.ref (21 + 8 * k_a1))] [.int (0 : Int32)] 1 (fun f => rfl) ?_
            exact zW_rh (some (.int (0 : Int32))) 1 (fun f => rfl) H
          · have c9 : (decide (zrno (T k_a0).1 = zrno (T k_a1).1)) = true := ((Bool.not_eq_false' _).mp ((zcB_eq _).symm.trans c))
            replace H := H.2 c9
            refine zW_gh 46 [some (.ref 0), some (.int (Int32.ofNat k_a0)), some (.int (Int32.ofNat k_a1)), some (.ref (21 + 8 * k_a0)), some (.ref (21 + 8 * k_a1))] [.ref (21 + 8 * k_a0)] 1 (fun f => rfl) ?_
            refine zW_gf rfl (by have := (show k_a0 < 6 from Nat.lt_trans h_k_a0 (by decide)); omega) (zh_T0 (show k_a0 < 6 from Nat.lt_trans h_k_a0 (by decide))) rfl (v := .int (Int32.ofNat ((T k_a0).2.1))) rfl ?_
            refine zW_gh 51 [some (.ref 0), some (.int (Int32.ofNat k_a0)), some (.int (Int32.ofNat k_a1)), some (.ref (21 + 8 * k_a0)), some (.ref (21 + 8 * k_a1))] [.ref (21 + 8 * k_a1), .int (Int32.ofNat ((T k_a0).2.1))] 1 (fun f => rfl) ?_
            refine zW_gf rfl (by have := (show k_a1 < 6 from Nat.lt_trans h_k_a1 (by decide)); omega) (zh_T0 (show k_a1 < 6 from Nat.lt_trans h_k_a1 (by decide))) rfl (v := .int (Int32.ofNat ((T k_a1).2.1))) rfl ?_
            obtain ⟨h3, H⟩ := H
            obtain ⟨h4, H⟩ := H
            refine zW_bh (zcmp .ne (Int32.ofNat ((T k_a0).2.1)) (Int32.ofNat ((T k_a1).2.1))) 69 57 [some (.ref 0), some (.int (Int32.ofNat k_a0)), some (.int (Int32.ofNat k_a1)), some (.ref (21 + 8 * k_a0)), some (.ref (21 + 8 * k_a1))] [] 1 (fun f => rfl) (fun c => ?_) (fun c => ?_)
            · have c9 : ¬ (T k_a0).2.1 = (T k_a1).2.1 := (by have c := (zcN_ne (a := (T k_a0).2.1) (b := (T k_a1).2.1) rfl rfl h3 h4).symm.trans c; simpa using c)
              replace H := H.1 c9
              refine zW_gh 70 [some (.ref 0), some (.int (Int32.ofNat k_a0)), some (.int (Int32.ofNat k_a1)), some (.ref (21 + 8 * k_a0)), some (.ref (21 + 8 * k_a1))] [.int (0 : Int32)] 1 (fun f => rfl) ?_
              exact zW_rh (some (.int (0 : Int32))) 1 (fun f => rfl) H
            · have c9 : (T k_a0).2.1 = (T k_a1).2.1 := (by have c := (zcN_ne (a := (T k_a0).2.1) (b := (T k_a1).2.1) rfl rfl h3 h4).symm.trans c; simpa using c)
              replace H := H.2 c9
              refine zW_gh 58 [some (.ref 0), some (.int (Int32.ofNat k_a0)), some (.int (Int32.ofNat k_a1)), some (.ref (21 + 8 * k_a0)), some (.ref (21 + 8 * k_a1))] [.ref (21 + 8 * k_a0)] 1 (fun f => rfl) ?_
              refine zW_gf rfl (by have := (show k_a0 < 6 from Nat.lt_trans h_k_a0 (by decide)); omega) (zh_T0 (show k_a0 < 6 from Nat.lt_trans h_k_a0 (by decide))) rfl (v := .int (Int32.ofNat ((T k_a0).2.2.1))) rfl ?_
              refine zW_gh 63 [some (.ref 0), some (.int (Int32.ofNat k_a0)), some (.int (Int32.ofNat k_a1)), some (.ref (21 + 8 * k_a0)), some (.ref (21 + 8 * k_a1))] [.ref (21 + 8 * k_a1), .int (Int32.ofNat ((T k_a0).2.2.1))] 1 (fun f => rfl) ?_
              refine zW_gf rfl (by have := (show k_a1 < 6 from Nat.lt_trans h_k_a1 (by decide)); omega) (zh_T0 (show k_a1 < 6 from Nat.lt_trans h_k_a1 (by decide))) rfl (v := .int (Int32.ofNat ((T k_a1).2.2.1))) rfl ?_
              obtain ⟨h5, H⟩ := H
              obtain ⟨h6, H⟩ := H
              refine zW_bh (zcmp .eq (Int32.ofNat ((T k_a0).2.2.1)) (Int32.ofNat ((T k_a1).2.2.1))) 71 69 [some (.ref 0), some (.int (Int32.ofNat k_a0)), some (.int (Int32.ofNat k_a1)), some (.ref (21 + 8 * k_a0)), some (.ref (21 + 8 * k_a1))] [] 1 (fun f => rfl) (fun c => ?_) (fun c => ?_)
              · have c9 : (T k_a0).2.2.1 = (T k_a1).2.2.1 := (of_decide_eq_true ((zcN_eq (a := (T k_a0).2.2.1) (b := (T k_a1).2.2.1) rfl rfl h5 h6).symm.trans c))
                replace H := H.1 c9
                refine zW_gh 76 [some (.ref 0), some (.int (Int32.ofNat k_a0)), some (.int (Int32.ofNat k_a1)), some (.ref (21 + 8 * k_a0)), some (.ref (21 + 8 * k_a1))] [.ref (21 + 8 * k_a0), .ref (21 + 8 * 3)] 3 (fun f => rfl) ?_
                refine zW_fg (L' := [some (.ref 0), none, none, none, some (.ref (21 + 8 * k_a1))]) (zle_s _ (zle_n _ (zle_n _ (zle_n _ (zle_s _ zle_nil))))) ?_
                exact zW_cv rfl rfl rfl (by decide) (zh_T0 (by decide : 3 < 6)) rfl rfl rfl rfl H
              · have c9 : ¬ (T k_a0).2.2.1 = (T k_a1).2.2.1 := (of_decide_eq_false ((zcN_eq (a := (T k_a0).2.2.1) (b := (T k_a1).2.2.1) rfl rfl h5 h6).symm.trans c))
                replace H := H.2 c9
                refine zW_gh 70 [some (.ref 0), some (.int (Int32.ofNat k_a0)), some (.int (Int32.ofNat k_a1)), some (.ref (21 + 8 * k_a0)), some (.ref (21 + 8 * k_a1))] [.int (0 : Int32)] 1 (fun f => rfl) ?_
                exact zW_rh (some (.int (0 : Int32))) 1 (fun f => rfl) H
    · exact H.2 c9
  · exact H.2 c9
theorem b129_79 {P : zPt} {T : Nat → zX} {Y : zYt} {I : zIt} {A : zAt} {w : Nat → Int64} {p : Nat × Nat} {Q : zR → zH → Prop} {k_a1 : Nat} (H : zT zm_36 [.ref (21 + 8 * 4), .ref (21 + 8 * k_a1)] p (zh (P, T, Y) I A w) (zK zm_129 88 [some (.ref 0), none, none, none, none] [] p Q)) : zW zm_129 79 [some (.ref 0), none, none, none, some (.ref (21 + 8 * k_a1))] [] p (zh (P, T, Y) I A w) Q := by
  refine zW_gh 85 [some (.ref 0), none, none, none, some (.ref (21 + 8 * k_a1))] [.ref (21 + 8 * k_a1), .ref (21 + 8 * 4)] 3 (fun f => rfl) ?_
  refine zW_fg (L' := [some (.ref 0), none, none, none, none]) (zle_s _ (zle_s _ (zle_s _ (zle_s _ (zle_n _ zle_nil))))) ?_
  exact zW_cv rfl rfl rfl (by decide) (zh_T0 (by decide : 4 < 6)) rfl rfl rfl rfl H
theorem b129_88 {P : zPt} {T : Nat → zX} {Y : zYt} {I : zIt} {A : zAt} {w : Nat → Int64} {p : Nat × Nat} {Q : zR → zH → Prop} (H : zT zm_82 [.ref (21 + 8 * 3)] p (zh (P, T, Y) I A w) (zK zm_129 95 [some (.ref 0), none, none, none, none] [] p Q)) : zW zm_129 88 [some (.ref 0), none, none, none, none] [] p (zh (P, T, Y) I A w) Q := by
  refine zW_gh 92 [some (.ref 0), none, none, none, none] [.ref (21 + 8 * 3)] 2 (fun f => rfl) ?_
  exact zW_cl rfl rfl rfl rfl rfl H
theorem b129_95 {P : zPt} {T : Nat → zX} {Y : zYt} {I : zIt} {A : zAt} {w : Nat → Int64} {p : Nat × Nat} {Q : zR → zH → Prop} {rv : Int32} (H : zT zm_82 [.ref (21 + 8 * 4)] p (zh (P, T, Y) I A w) (zK zm_129 103 [some (.ref 0), none, none, none, none] [] p Q)) : zW zm_129 95 [some (.ref 0), none, none, none, none] [.int rv] p (zh (P, T, Y) I A w) Q := by
  refine zW_gh 100 [some (.ref 0), none, none, none, none] [.ref (21 + 8 * 4)] 3 (fun f => rfl) ?_
  exact zW_cl rfl rfl rfl rfl rfl H
theorem b129_103 {P : zPt} {T : Nat → zX} {Y : zYt} {I : zIt} {A : zAt} {w : Nat → Int64} {p : Nat × Nat} {Q : zR → zH → Prop} {rv : Int32} (H : zT zm_47 [.ref (21 + 8 * 3), .ref (21 + 8 * 4), .int (Int32.ofNat ((T 3).2.1))] p (zh (P, T, Y) I A w) (zK zm_129 122 [none, none, none, none, none] [] p Q)) : zW zm_129 103 [some (.ref 0), none, none, none, none] [.int rv] p (zh (P, T, Y) I A w) Q := by
  refine zW_gh 116 [some (.ref 0), none, none, none, none] [.ref (21 + 8 * 3), .ref (21 + 8 * 4), .ref (21 + 8 * 3)] 7 (fun f => rfl) ?_
  refine zW_gf rfl (by decide) (zh_T0 (by decide : 3 < 6)) rfl (v := .int (Int32.ofNat ((T 3).2.1))) rfl ?_
  refine zW_fg (L' := [none, none, none, none, none]) (zle_n _ (zle_s _ (zle_s _ (zle_s _ (zle_s _ zle_nil))))) ?_
  exact zW_cv rfl rfl rfl (by decide) (zh_T0 (by decide : 3 < 6)) rfl rfl rfl rfl H
theorem b129_122 {P : zPt} {T : Nat → zX} {Y : zYt} {I : zIt} {A : zAt} {w : Nat → Int64} {p : Nat × Nat} {Q : zR → zH → Prop} {rv : Bool} (H : Q (.inl (some (.int (zbi rv)))) (zh (P, T, Y) I A w)) : zW zm_129 122 [none, none, none, none, none] [.int (zbi rv)] p (zh (P, T, Y) I A w) Q := by
  exact zW_rh (some (.int (zbi rv))) 1 (fun f => by generalize rv = bb; cases bb <;> rfl) H
theorem b130 {P : zPt} {T : Nat → zX} {Y : zYt} {I : zIt} {A : zAt} {w : Nat → Int64} {p : Nat × Nat} {Q : zR → zH → Prop} {a0 a1 a2 a3 : Int32} (H : ((zisr a0 = true → ∀ k_a0, zrg k_a0 → a0 = Int32.ofNat k_a0 → zT (zrm k_a0 zm_16 zm_1 zm_59) [.ref (zra k_a0), .long ((a1).toInt64), .long (0 : Int64)] p (zh (P, T, Y) I A w) (zK zm_130 15 [none, none, some (.int a1), some (.int a2), some (.int a3), some (.ref (zra k_a0))] [] p Q)) ∧ (zisr a0 = false → Q (.inr 2) (zh (P, T, Y) I A w)))) : zT zm_130 [.ref 0, .int a0, .int a1, .int a2, .int a3] p (zh (P, T, Y) I A w) Q := by
  change zW zm_130 0 [some (.ref 0), some (.int a0), some (.int a1), some (.int a2), some (.int a3), none] [] p _ Q
  refine zW_gh 2 [some (.ref 0), some (.int a0), some (.int a1), some (.int a2), some (.int a3), none] [.int a0, .ref 0] 2 (fun f => rfl) ?_
  refine zW_cl rfl rfl rfl rfl rfl (s96 ⟨fun c9 k_a0 h_k_a0 e_k_a0 => ?_, fun c9 => ?_⟩)
  · replace H := H.1 c9 k_a0 h_k_a0 e_k_a0
    subst e_k_a0
    change zW zm_130 5 [some (.ref 0), some (.int (Int32.ofNat k_a0)), some (.int a1), some (.int a2), some (.int a3), none] [.ref (zra k_a0)] p _ Q
    refine zW_gh 12 [some (.ref 0), some (.int (Int32.ofNat k_a0)), some (.int a1), some (.int a2), some (.int a3), some (.ref (zra k_a0))] [.long (0 : Int64), .long ((a1).toInt64), .ref (zra k_a0)] 5 (fun f => rfl) ?_
    refine zW_fg (L' := [none, none, some (.int a1), some (.int a2), some (.int a3), some (.ref (zra k_a0))]) (zle_n _ (zle_n _ (zle_s _ (zle_s _ (zle_s _ (zle_s _ zle_nil)))))) ?_
    exact zW_cr rfl rfl rfl rfl rfl rfl rfl rfl rfl rfl rfl rfl rfl H
  · exact H.2 c9
theorem b130_15 {P : zPt} {T : Nat → zX} {Y : zYt} {I : zIt} {A : zAt} {w : Nat → Int64} {p : Nat × Nat} {Q : zR → zH → Prop} {k_a0 : Nat} {x2 x3 x4 : Int32} {rv : Bool} (H : ((rv = false → Q (.inr 2) (zh (P, T, Y) I A w)) ∧ (rv = true → zT (zrm k_a0 zm_16 zm_1 zm_59) [.ref (zra k_a0), .long ((x3).toInt64), .long (0 : Int64)] p (zh (P, T, Y) I A w) (zK zm_130 26 [none, none, some (.int x2), some (.int x3), some (.int x4), some (.ref (zra k_a0))] [] p Q)))) : zW zm_130 15 [none, none, some (.int x2), some (.int x3), some (.int x4), some (.ref (zra k_a0))] [.int (zbi rv)] p (zh (P, T, Y) I A w) Q := by
  refine zW_bh (zcmp .eq (zbi rv) (0 : Int32)) 41 18 [none, none, some (.int x2), some (.int x3), some (.int x4), some (.ref (zra k_a0))] [] 1 (fun f => rfl) (fun c => ?_) (fun c => ?_)
  · have c9 : rv = false := ((Bool.not_eq_true' _).mp ((zcB_eq _).symm.trans c))
    replace H := H.1 c9
    refine zW_gh 42 [none, none, some (.int x2), some (.int x3), some (.int x4), some (.ref (zra k_a0))] [.int (0 : Int32)] 1 (fun f => rfl) ?_
    exact zW_cl rfl rfl rfl rfl rfl (s97f H)
  · have c9 : rv = true := ((Bool.not_eq_false' _).mp ((zcB_eq _).symm.trans c))
    replace H := H.2 c9
    refine zW_gh 23 [none, none, some (.int x2), some (.int x3), some (.int x4), some (.ref (zra k_a0))] [.long (0 : Int64), .long ((x3).toInt64), .ref (zra k_a0)] 4 (fun f => rfl) ?_
    exact zW_cr rfl rfl rfl rfl rfl rfl rfl rfl rfl rfl rfl rfl rfl H
theorem b130_26 {P : zPt} {T : Nat → zX} {Y : zYt} {I : zIt} {A : zAt} {w : Nat → Int64} {p : Nat × Nat} {Q : zR → zH → Prop} {k_a0 : Nat} {x2 x3 x4 : Int32} {rv : Bool} (H : ((rv = false → Q (.inr 2) (zh (P, T, Y) I A w)) ∧ (rv = true → (((zprt x4) = false → Q (.inr 2) (zh (P, T, Y) I A w)) ∧ ((zprt x4) = true → ((¬ x3 = (0 : Int32) → zT (zrm k_a0 zm_21 zm_6 zm_67) [.ref (zra k_a0), .long (ze64 ((x2).toInt64) (0 : Int64)), .long (ze64 ((x3).toInt64) (0 : Int64))] p (zh (P, T, Y) I A w) (zK zm_130 76 [none, none, none, none, some (.int x4), none] [] p Q)) ∧ (x3 = (0 : Int32) → Q (.inr 3) (zh (P, T, Y) I A w)))))))) : zW zm_130 26 [none, none, some (.int x2), some (.int x3), some (.int x4), some (.ref (zra k_a0))] [.int (zbi rv)] p (zh (P, T, Y) I A w) Q := by
  refine zW_bh (zcmp .eq (zbi rv) (0 : Int32)) 41 29 [none, none, some (.int x2), some (.int x3), some (.int x4), some (.ref (zra k_a0))] [] 1 (fun f => rfl) (fun c => ?_) (fun c => ?_)
  · have c9 : rv = false := ((Bool.not_eq_true' _).mp ((zcB_eq _).symm.trans c))
    replace H := H.1 c9
    refine zW_gh 42 [none, none, some (.int x2), some (.int x3), some (.int x4), some (.ref (zra k_a0))] [.int (0 : Int32)] 1 (fun f => rfl) ?_
    exact zW_cl rfl rfl rfl rfl rfl (s97f H)
  · have c9 : rv = true := ((Bool.not_eq_false' _).mp ((zcB_eq _).symm.trans c))
    replace H := H.2 c9
    refine zW_gh 31 [none, none, some (.int x2), some (.int x3), some (.int x4), some (.ref (zra k_a0))] [.int x4] 1 (fun f => rfl) ?_
    refine zW_cl rfl rfl rfl rfl rfl (s108 ?_)
    change zW zm_130 34 [none, none, some (.int x2), some (.int x3), some (.int x4), some (.ref (zra k_a0))] [.int (zbi (zprt x4))] p _ Q
    refine zW_bh (zcmp .eq (zbi (zprt x4)) (0 : Int32)) 41 37 [none, none, some (.int x2), some (.int x3), some (.int x4), some (.ref (zra k_a0))] [] 1 (fun f => rfl) (fun c => ?_) (fun c => ?_)
    · have c9 : (zprt x4) = false := ((Bool.not_eq_true' _).mp ((zcB_eq _).symm.trans c))
      replace H := H.1 c9
      refine zW_gh 42 [none, none, some (.int x2), some (.int x3), some (.int x4), some (.ref (zra k_a0))] [.int (0 : Int32)] 1 (fun f => rfl) ?_
      exact zW_cl rfl rfl rfl rfl rfl (s97f H)
    · have c9 : (zprt x4) = true := ((Bool.not_eq_false' _).mp ((zcB_eq _).symm.trans c))
      replace H := H.2 c9
      refine zW_gh 42 [none, none, some (.int x2), some (.int x3), some (.int x4), some (.ref (zra k_a0))] [.int (1 : Int32)] 2 (fun f => rfl) ?_
      refine zW_cl rfl rfl rfl rfl rfl (s97t ?_)
      change zW zm_130 45 [none, none, some (.int x2), some (.int x3), some (.int x4), some (.ref (zra k_a0))] [] p _ Q
      refine zW_bh (zcmp .ne x3 (0 : Int32)) 59 49 [none, none, some (.int x2), some (.int x3), some (.int x4), some (.ref (zra k_a0))] [] 2 (fun f => rfl) (fun c => ?_) (fun c => ?_)
      · have c9 : ¬ x3 = (0 : Int32) := (by simpa [zcmp] using c)
        replace H := H.1 c9
        refine zW_gh 64 [none, none, some (.int x2), some (.int x3), some (.int x4), some (.ref (zra k_a0))] [.long (0 : Int64), .long ((x2).toInt64), .ref (zra k_a0)] 4 (fun f => rfl) ?_
        refine zW_cl rfl rfl rfl rfl rfl (s76 ?_)
        change zW zm_130 67 [none, none, some (.int x2), some (.int x3), some (.int x4), some (.ref (zra k_a0))] [.long (ze64 ((x2).toInt64) (0 : Int64)), .ref (zra k_a0)] p _ Q
        generalize (ze64 ((x2).toInt64) (0 : Int64)) = g1 at H ⊢
        refine zW_gh 70 [none, none, some (.int x2), some (.int x3), some (.int x4), some (.ref (zra k_a0))] [.long (0 : Int64), .long ((x3).toInt64), .long g1, .ref (zra k_a0)] 3 (fun f => rfl) ?_
        refine zW_cl rfl rfl rfl rfl rfl (s76 ?_)
        change zW zm_130 73 [none, none, some (.int x2), some (.int x3), some (.int x4), some (.ref (zra k_a0))] [.long (ze64 ((x3).toInt64) (0 : Int64)), .long g1, .ref (zra k_a0)] p _ Q
        generalize (ze64 ((x3).toInt64) (0 : Int64)) = g2 at H ⊢
        refine zW_fg (L' := [none, none, none, none, some (.int x4), none]) (zle_s _ (zle_s _ (zle_n _ (zle_n _ (zle_s _ (zle_n _ zle_nil)))))) ?_
        exact zW_cr rfl rfl rfl rfl rfl rfl rfl rfl rfl rfl rfl rfl rfl H
      · have c9 : x3 = (0 : Int32) := (by simpa [zcmp] using c)
        replace H := H.2 c9
        exact zW_th 3 1 (fun f => rfl) H
theorem b130_76 {P : zPt} {T : Nat → zX} {Y : zYt} {I : zIt} {A : zAt} {w : Nat → Int64} {p : Nat × Nat} {Q : zR → zH → Prop} {x4 : Int32} {rv : Int64} (H : Q (.inl (some (.int (zpo rv x4)))) (zh (P, T, Y) I A w)) : zW zm_130 76 [none, none, none, none, some (.int x4), none] [.long rv] p (zh (P, T, Y) I A w) Q := by
  refine zW_gh 78 [none, none, none, none, some (.int x4), none] [.int x4, .long rv] 1 (fun f => rfl) ?_
  refine zW_cl rfl rfl rfl rfl rfl (s109 ?_)
  change zW zm_130 81 [none, none, none, none, some (.int x4), none] [.int (zpo rv x4)] p _ Q
  generalize (zpo rv x4) = g1 at H ⊢
  exact zW_rh (some (.int g1)) 1 (fun f => rfl) H
theorem b131 {P : zPt} {T : Nat → zX} {Y : zYt} {I : zIt} {A : zAt} {w : Nat → Int64} {p : Nat × Nat} {Q : zR → zH → Prop} {a0 a1 a2 a3 a4 a5 : Int32} (H : ((zisr a0 = true → ∀ k_a0, zrg k_a0 → a0 = Int32.ofNat k_a0 → zT (zrm k_a0 zm_16 zm_1 zm_59) [.ref (zra k_a0), .long ((a1).toInt64), .long ((a2).toInt64)] p (zh (P, T, Y) I A w) (zK zm_131 16 [none, none, some (.int a1), some (.int a2), some (.int a3), some (.int a4), some (.int a5), some (.ref (zra k_a0)), none, none, none, none, none, none, none] [] p Q)) ∧ (zisr a0 = false → Q (.inr 2) (zh (P, T, Y) I A w)))) : zT zm_131 [.ref 0, .int a0, .int a1, .int a2, .int a3, .int a4, .int a5] p (zh (P, T, Y) I A w) Q := by
  change zW zm_131 0 [some (.ref 0), some (.int a0), some (.int a1), some (.int a2), some (.int a3), some (.int a4), some (.int a5), none, none, none, none, none, none, none, none] [] p _ Q
  refine zW_gh 2 [some (.ref 0), some (.int a0), some (.int a1), some (.int a2), some (.int a3), some (.int a4), some (.int a5), none, none, none, none, none, none, none, none] [.int a0, .ref 0] 2 (fun f => rfl) ?_
  refine zW_cl rfl rfl rfl rfl rfl (s96 ⟨fun c9 k_a0 h_k_a0 e_k_a0 => ?_, fun c9 => ?_⟩)
  · replace H := H.1 c9 k_a0 h_k_a0 e_k_a0
    subst e_k_a0
    change zW zm_131 5 [some (.ref 0), some (.int (Int32.ofNat k_a0)), some (.int a1), some (.int a2), some (.int a3), some (.int a4), some (.int a5), none, none, none, none, none, none, none, none] [.ref (zra k_a0)] p _ Q
    refine zW_gh 13 [some (.ref 0), some (.int (Int32.ofNat k_a0)), some (.int a1), some (.int a2), some (.int a3), some (.int a4), some (.int a5), some (.ref (zra k_a0)), none, none, none, none, none, none, none] [.long ((a2).toInt64), .long ((a1).toInt64), .ref (zra k_a0)] 6 (fun f => rfl) ?_
    refine zW_fg (L' := [none, none, some (.int a1), some (.int a2), some (.int a3), some (.int a4), some (.int a5), some (.ref (zra k_a0)), none, none, none, none, none, none, none]) (zle_n _ (zle_n _ (zle_s _ (zle_s _ (zle_s _ (zle_s _ (zle_s _ (zle_s _ (zle_s _ (zle_s _ (zle_s _ (zle_s _ (zle_s _ (zle_s _ (zle_s _ zle_nil))))))))))))))) ?_
    exact zW_cr rfl rfl rfl rfl rfl rfl rfl rfl rfl rfl rfl rfl rfl H
  · exact H.2 c9
theorem b131_16 {P : zPt} {T : Nat → zX} {Y : zYt} {I : zIt} {A : zAt} {w : Nat → Int64} {p : Nat × Nat} {Q : zR → zH → Prop} {k_a0 : Nat} {x2 x3 x4 x5 x6 : Int32} {rv : Bool} (H : ((rv = false → Q (.inr 2) (zh (P, T, Y) I A w)) ∧ (rv = true → zT (zrm k_a0 zm_16 zm_1 zm_59) [.ref (zra k_a0), .long ((x4).toInt64), .long ((x5).toInt64)] p (zh (P, T, Y) I A w) (zK zm_131 30 [none, none, some (.int x2), some (.int x3), some (.int x4), some (.int x5), some (.int x6), some (.ref (zra k_a0)), none, none, none, none, none, none, none] [] p Q)))) : zW zm_131 16 [none, none, some (.int x2), some (.int x3), some (.int x4), some (.int x5), some (.int x6), some (.ref (zra k_a0)), none, none, none, none, none, none, none] [.int (zbi rv)] p (zh (P, T, Y) I A w) Q := by
  refine zW_bh (zcmp .eq (zbi rv) (0 : Int32)) 45 19 [none, none, some (.int x2), some (.int x3), some (.int x4), some (.int x5), some (.int x6), some (.ref (zra k_a0)), none, none, none, none, none, none, none] [] 1 (fun f => rfl) (fun c => ?_) (fun c => ?_)
  · have c9 : rv = false := ((Bool.not_eq_true' _).mp ((zcB_eq _).symm.trans c))
    replace H := H.1 c9
    refine zW_gh 46 [none, none, some (.int x2), some (.int x3), some (.int x4), some (.int x5), some (.int x6), some (.ref (zra k_a0)), none, none, none, none, none, none, none] [.int (0 : Int32)] 1 (fun f => rfl) ?_
    exact zW_cl rfl rfl rfl rfl rfl (s97f H)
  · have c9 : rv = true := ((Bool.not_eq_false' _).mp ((zcB_eq _).symm.trans c))
    replace H := H.2 c9
    refine zW_gh 27 [none, none, some (.int x2), some (.int x3), some (.int x4), some (.int x5), some (.int x6), some (.ref (zra k_a0)), none, none, none, none, none, none, none] [.long ((x5).toInt64), .long ((x4).toInt64), .ref (zra k_a0)] 5 (fun f => rfl) ?_
    exact zW_cr rfl rfl rfl rfl rfl rfl rfl rfl rfl rfl rfl rfl rfl H
theorem b131_30 {P : zPt} {T : Nat → zX} {Y : zYt} {I : zIt} {A : zAt} {w : Nat → Int64} {p : Nat × Nat} {Q : zR → zH → Prop} {k_a0 : Nat} {x2 x3 x4 x5 x6 : Int32} {rv : Bool} (H : ((rv = false → Q (.inr 2) (zh (P, T, Y) I A w)) ∧ (rv = true → (((zprt x6) = false → Q (.inr 2) (zh (P, T, Y) I A w)) ∧ ((zprt x6) = true → zW zm_131 72 [none, none, none, none, none, none, some (.int x6), some (.ref (zra k_a0)), some (.long (ze64 ((x2).toInt64) ((x3).toInt64))), none, some (.long (ze64 ((x4).toInt64) ((x5).toInt64))), none, some (.int (Int32.ofNat 0)), none, none] [] p (zh (P, T, Y) I A w) Q))))) : zW zm_131 30 [none, none, some (.int x2), some (.int x3), some (.int x4), some (.int x5), some (.int x6), some (.ref (zra k_a0)), none, none, none, none, none, none, none] [.int (zbi rv)] p (zh (P, T, Y) I A w) Q := by
  refine zW_bh (zcmp .eq (zbi rv) (0 : Int32)) 45 33 [none, none, some (.int x2), some (.int x3), some (.int x4), some (.int x5), some (.int x6), some (.ref (zra k_a0)), none, none, none, none, none, none, none] [] 1 (fun f => rfl) (fun c => ?_) (fun c => ?_)
  · have c9 : rv = false := ((Bool.not_eq_true' _).mp ((zcB_eq _).symm.trans c))
    replace H := H.1 c9
    refine zW_gh 46 [none, none, some (.int x2), some (.int x3), some (.int x4), some (.int x5), some (.int x6), some (.ref (zra k_a0)), none, none, none, none, none, none, none] [.int (0 : Int32)] 1 (fun f => rfl) ?_
    exact zW_cl rfl rfl rfl rfl rfl (s97f H)
  · have c9 : rv = true := ((Bool.not_eq_false' _).mp ((zcB_eq _).symm.trans c))
    replace H := H.2 c9
    refine zW_gh 35 [none, none, some (.int x2), some (.int x3), some (.int x4), some (.int x5), some (.int x6), some (.ref (zra k_a0)), none, none, none, none, none, none, none] [.int x6] 1 (fun f => rfl) ?_
    refine zW_cl rfl rfl rfl rfl rfl (s108 ?_)
    change zW zm_131 38 [none, none, some (.int x2), some (.int x3), some (.int x4), some (.int x5), some (.int x6), some (.ref (zra k_a0)), none, none, none, none, none, none, none] [.int (zbi (zprt x6))] p _ Q
    refine zW_bh (zcmp .eq (zbi (zprt x6)) (0 : Int32)) 45 41 [none, none, some (.int x2), some (.int x3), some (.int x4), some (.int x5), some (.int x6), some (.ref (zra k_a0)), none, none, none, none, none, none, none] [] 1 (fun f => rfl) (fun c => ?_) (fun c => ?_)
    · have c9 : (zprt x6) = false := ((Bool.not_eq_true' _).mp ((zcB_eq _).symm.trans c))
      replace H := H.1 c9
      refine zW_gh 46 [none, none, some (.int x2), some (.int x3), some (.int x4), some (.int x5), some (.int x6), some (.ref (zra k_a0)), none, none, none, none, none, none, none] [.int (0 : Int32)] 1 (fun f => rfl) ?_
      exact zW_cl rfl rfl rfl rfl rfl (s97f H)
    · have c9 : (zprt x6) = true := ((Bool.not_eq_false' _).mp ((zcB_eq _).symm.trans c))
      replace H := H.2 c9
      refine zW_gh 46 [none, none, some (.int x2), some (.int x3), some (.int x4), some (.int x5), some (.int x6), some (.ref (zra k_a0)), none, none, none, none, none, none, none] [.int (1 : Int32)] 2 (fun f => rfl) ?_
      refine zW_cl rfl rfl rfl rfl rfl (s97t ?_)
      change zW zm_131 49 [none, none, some (.int x2), some (.int x3), some (.int x4), some (.int x5), some (.int x6), some (.ref (zra k_a0)), none, none, none, none, none, none, none] [] p _ Q
      refine zW_gh 53 [none, none, some (.int x2), some (.int x3), some (.int x4), some (.int x5), some (.int x6), some (.ref (zra k_a0)), none, none, none, none, none, none, none] [.long ((x3).toInt64), .long ((x2).toInt64)] 4 (fun f => rfl) ?_
      refine zW_cl rfl rfl rfl rfl rfl (s76 ?_)
      change zW zm_131 56 [none, none, some (.int x2), some (.int x3), some (.int x4), some (.int x5), some (.int x6), some (.ref (zra k_a0)), none, none, none, none, none, none, none] [.long (ze64 ((x2).toInt64) ((x3).toInt64))] p _ Q
      generalize (ze64 ((x2).toInt64) ((x3).toInt64)) = g1 at H ⊢
      refine zW_gh 64 [none, none, some (.int x2), some (.int x3), some (.int x4), some (.int x5), some (.int x6), some (.ref (zra k_a0)), some (.long g1), none, none, none, none, none, none] [.long ((x5).toInt64), .long ((x4).toInt64)] 5 (fun f => rfl) ?_
      refine zW_cl rfl rfl rfl rfl rfl (s76 ?_)
      change zW zm_131 67 [none, none, some (.int x2), some (.int x3), some (.int x4), some (.int x5), some (.int x6), some (.ref (zra k_a0)), some (.long g1), none, none, none, none, none, none] [.long (ze64 ((x4).toInt64) ((x5).toInt64))] p _ Q
      generalize (ze64 ((x4).toInt64) ((x5).toInt64)) = g2 at H ⊢
      refine zW_gh 72 [none, none, some (.int x2), some (.int x3), some (.int x4), some (.int x5), some (.int x6), some (.ref (zra k_a0)), some (.long g1), none, some (.long g2), none, some (.int (0 : Int32)), none, none] [] 3 (fun f => rfl) ?_
      refine zW_fg (L' := [none, none, none, none, none, none, some (.int x6), some (.ref (zra k_a0)), some (.long g1), none, some (.long g2), none, some (.int (0 : Int32)), none, none]) (zle_s _ (zle_s _ (zle_n _ (zle_n _ (zle_n _ (zle_n _ (zle_s _ (zle_s _ (zle_s _ (zle_s _ (zle_s _ (zle_s _ (zle_s _ (zle_s _ (zle_s _ zle_nil))))))))))))))) ?_
      exact H
theorem b131_72 {P : zPt} {T : Nat → zX} {Y : zYt} {I : zIt} {A : zAt} {w : Nat → Int64} {p : Nat × Nat} {Q : zR → zH → Prop} {x12 k_a0 : Nat} {x6 : Int32} {x8 x10 : Int64} (H : (x12 < 2147483648 ∧ ((1000 ≤ x12 → zT (zrm k_a0 zm_22 zm_7 zm_68) [.ref (zra k_a0), .long x8] p (zh (P, T, Y) I A w) (zK zm_131 123 [none, none, none, none, none, none, some (.int x6), none, none, none, none, none, none, none, none] [.long x8, .ref (zra k_a0)] p Q)) ∧ (x12 < 1000 → ((x10 = (0 : Int64) → zT (zrm k_a0 zm_22 zm_7 zm_68) [.ref (zra k_a0), .long x8] p (zh (P, T, Y) I A w) (zK zm_131 123 [none, none, none, none, none, none, some (.int x6), none, none, none, none, none, none, none, none] [.long x8, .ref (zra k_a0)] p Q)) ∧ (¬ x10 = (0 : Int64) → zT zm_81 [.ref (zra k_a0), .long x8, .long x10] p (zh (P, T, Y) I A w) (zK zm_131 96 [none, none, none, none, none, none, some (.int x6), some (.ref (zra k_a0)), none, none, some (.long x10), none, some (.int (Int32.ofNat x12)), none, none] [] p Q))))))) : zW zm_131 72 [none, none, none, none, none, none, some (.int x6), some (.ref (zra k_a0)), some (.long x8), none, some (.long x10), none, some (.int (Int32.ofNat x12)), none, none] [] p (zh (P, T, Y) I A w) Q := by
  obtain ⟨h1, H⟩ := H
  refine zW_bh (zcmp .ge (Int32.ofNat x12) (1000 : Int32)) 112 80 [none, none, none, none, none, none, some (.int x6), some (.ref (zra k_a0)), some (.long x8), none, some (.long x10), none, some (.int (Int32.ofNat x12)), none, none] [] 3 (fun f => rfl) (fun c => ?_) (fun c => ?_)
  · have c9 : 1000 ≤ x12 := (of_decide_eq_true ((zcN_ge (a := x12) (b := 1000) rfl rfl h1 (by decide)).symm.trans c))
    replace H := H.1 c9
    refine zW_gh 120 [none, none, none, none, none, none, some (.int x6), some (.ref (zra k_a0)), some (.long x8), none, some (.long x10), none, some (.int (Int32.ofNat x12)), none, none] [.long x8, .ref (zra k_a0), .long x8, .ref (zra k_a0)] 4 (fun f => rfl) ?_
    refine zW_fg (L' := [none, none, none, none, none, none, some (.int x6), none, none, none, none, none, none, none, none]) (zle_s _ (zle_s _ (zle_s _ (zle_s _ (zle_s _ (zle_s _ (zle_s _ (zle_n _ (zle_n _ (zle_s _ (zle_n _ (zle_s _ (zle_n _ (zle_s _ (zle_s _ zle_nil))))))))))))))) ?_
    exact zW_cr rfl rfl rfl rfl rfl rfl rfl rfl rfl rfl rfl rfl rfl H
  · have c9 : x12 < 1000 := (Nat.lt_of_not_le (of_decide_eq_false ((zcN_ge (a := x12) (b := 1000) rfl rfl h1 (by decide)).symm.trans c)))
    replace H := H.2 c9
    refine zW_bh (zcmp .eq (lg_cmp x10 (0 : Int64)) (0 : Int32)) 112 87 [none, none, none, none, none, none, some (.int x6), some (.ref (zra k_a0)), some (.long x8), none, some (.long x10), none, some (.int (Int32.ofNat x12)), none, none] [] 4 (fun f => rfl) (fun c => ?_) (fun c => ?_)
    · have c9 : x10 = (0 : Int64) := (of_decide_eq_true ((zcL_eq _ _).symm.trans c))
      replace H := H.1 c9
      refine zW_gh 120 [none, none, none, none, none, none, some (.int x6), some (.ref (zra k_a0)), some (.long x8), none, some (.long x10), none, some (.int (Int32.ofNat x12)), none, none] [.long x8, .ref (zra k_a0), .long x8, .ref (zra k_a0)] 4 (fun f => rfl) ?_
      refine zW_fg (L' := [none, none, none, none, none, none, some (.int x6), none, none, none, none, none, none, none, none]) (zle_s _ (zle_s _ (zle_s _ (zle_s _ (zle_s _ (zle_s _ (zle_s _ (zle_n _ (zle_n _ (zle_s _ (zle_n _ (zle_s _ (zle_n _ (zle_s _ (zle_s _ zle_nil))))))))))))))) ?_
      exact zW_cr rfl rfl rfl rfl rfl rfl rfl rfl rfl rfl rfl rfl rfl H
    · have c9 : ¬ x10 = (0 : Int64) := (of_decide_eq_false ((zcL_eq _ _).symm.trans c))
      replace H := H.2 c9
      refine zW_gh 93 [none, none, none, none, none, none, some (.int x6), some (.ref (zra k_a0)), some (.long x8), none, some (.long x10), none, some (.int (Int32.ofNat x12)), none, none] [.long x10, .long x8, .ref (zra k_a0)] 3 (fun f => rfl) ?_
      refine zW_fg (L' := [none, none, none, none, none, none, some (.int x6), some (.ref (zra k_a0)), none, none, some (.long x10), none, some (.int (Int32.ofNat x12)), none, none]) (zle_s _ (zle_s _ (zle_s _ (zle_s _ (zle_s _ (zle_s _ (zle_s _ (zle_s _ (zle_n _ (zle_s _ (zle_s _ (zle_s _ (zle_s _ (zle_s _ (zle_s _ zle_nil))))))))))))))) ?_
      exact zW_cr1 rfl rfl rfl rfl rfl rfl rfl rfl rfl H
theorem b131_123 {P : zPt} {T : Nat → zX} {Y : zYt} {I : zIt} {A : zAt} {w : Nat → Int64} {p : Nat × Nat} {Q : zR → zH → Prop} {k_a0 : Nat} {x6 : Int32} {rv s0 : Int64} (H : zT zm_77 [.ref (zra k_a0), .long s0, .long rv] p (zh (P, T, Y) I A w) (zK zm_131 126 [none, none, none, none, none, none, some (.int x6), none, none, none, none, none, none, none, none] [] p Q)) : zW zm_131 123 [none, none, none, none, none, none, some (.int x6), none, none, none, none, none, none, none, none] [.long rv, .long s0, .ref (zra k_a0)] p (zh (P, T, Y) I A w) Q := by
  exact zW_cr1 rfl rfl rfl rfl rfl rfl rfl rfl rfl H
theorem b131_96 {P : zPt} {T : Nat → zX} {Y : zYt} {I : zIt} {A : zAt} {w : Nat → Int64} {p : Nat × Nat} {Q : zR → zH → Prop} {x12 k_a0 : Nat} {x6 : Int32} {x10 rv : Int64} (H : zW zm_131 72 [none, none, none, none, none, none, some (.int x6), some (.ref (zra k_a0)), some (.long x10), none, some (.long rv), none, some (.int (Int32.ofNat (x12 + 1))), none, none] [] p (zh (P, T, Y) I A w) Q) : zW zm_131 96 [none, none, none, none, none, none, some (.int x6), some (.ref (zra k_a0)), none, none, some (.long x10), none, some (.int (Int32.ofNat x12)), none, none] [.long rv] p (zh (P, T, Y) I A w) Q := by
  refine zW_gh 106 [none, none, none, none, none, none, some (.int x6), some (.ref (zra k_a0)), some (.long x10), none, some (.long rv), none, some (.int (Int32.ofNat x12)), some (.long rv), none] [] 5 (fun f => rfl) ?_
  refine zW_inc [none, none, none, none, none, none, some (.int x6), some (.ref (zra k_a0)), some (.long x10), none, some (.long rv), none, some (.int ((Int32.ofNat x12) + (1 : Int32))), some (.long rv), none] rfl rfl rfl ?_
  rw [show ((Int32.ofNat x12) + (1 : Int32)) = Int32.ofNat (x12 + 1) from (zN_a rfl rfl)]
  refine zW_gh 72 [none, none, none, none, none, none, some (.int x6), some (.ref (zra k_a0)), some (.long x10), none, some (.long rv), none, some (.int (Int32.ofNat (x12 + 1))), some (.long rv), none] [] 1 (fun f => rfl) ?_
  refine zW_fg (L' := [none, none, none, none, none, none, some (.int x6), some (.ref (zra k_a0)), some (.long x10), none, some (.long rv), none, some (.int (Int32.ofNat (x12 + 1))), none, none]) (zle_s _ (zle_s _ (zle_s _ (zle_s _ (zle_s _ (zle_s _ (zle_s _ (zle_s _ (zle_s _ (zle_s _ (zle_s _ (zle_s _ (zle_s _ (zle_n _ (zle_s _ zle_nil))))))))))))))) ?_
  exact H
theorem b131_126 {P : zPt} {T : Nat → zX} {Y : zYt} {I : zIt} {A : zAt} {w : Nat → Int64} {p : Nat × Nat} {Q : zR → zH → Prop} {x6 : Int32} {rv : Int64} (H : Q (.inl (some (.int (zpo rv x6)))) (zh (P, T, Y) I A w)) : zW zm_131 126 [none, none, none, none, none, none, some (.int x6), none, none, none, none, none, none, none, none] [.long rv] p (zh (P, T, Y) I A w) Q := by
  refine zW_gh 128 [none, none, none, none, none, none, some (.int x6), none, none, none, none, none, none, none, none] [.int x6, .long rv] 1 (fun f => rfl) ?_
  refine zW_cl rfl rfl rfl rfl rfl (s109 ?_)
  change zW zm_131 131 [none, none, none, none, none, none, some (.int x6), none, none, none, none, none, none, none, none] [.int (zpo rv x6)] p _ Q
  generalize (zpo rv x6) = g1 at H ⊢
  exact zW_rh (some (.int g1)) 1 (fun f => rfl) H
