theorem b29 {P : zPt} {T : Nat → zX} {Y : zYt} {I : zIt} {A : zAt} {w : Nat → Int64} {p : Nat × Nat} {Q : zR → zH → Prop} {i : Nat} (hi_i : i < 6) (H : Q (.inl none) (zh (P, (va_up T i ((T i).1, (T i).2.1, (T i).2.2.1, 0, (T i).2.2.2.2.1, (va_cpy (T i).2.2.2.2.1 (T i).2.2.2.2.2.1 0 0 16), (T i).2.2.2.2.2.2.1, (T i).2.2.2.2.2.2.2.1, (T i).2.2.2.2.2.2.2.2.1, (T i).2.2.2.2.2.2.2.2.2.1, (T i).2.2.2.2.2.2.2.2.2.2)), Y) I A w)) : zT zm_29 [.ref (21 + 8 * i)] p (zh (P, T, Y) I A w) Q := by
  change zW zm_29 0 [some (.ref (21 + 8 * i))] [] p _ Q
  refine zW_gh 1 [some (.ref (21 + 8 * i))] [.ref (21 + 8 * i)] 1 (fun f => rfl) ?_
  refine zW_gf rfl (by have := hi_i; omega) (zh_T0 hi_i) rfl (v := .ref (21 + 8 * i + 1)) rfl ?_
  refine zW_gh 6 [some (.ref (21 + 8 * i))] [.ref (21 + 8 * i), .int (0 : Int32), .ref (21 + 8 * i + 1)] 2 (fun f => rfl) ?_
  refine zW_gf rfl (by have := hi_i; omega) (zh_T0 hi_i) rfl (v := .ref (21 + 8 * i + 2)) rfl ?_
  refine zW_gh 12 [some (.ref (21 + 8 * i))] [.int (16 : Int32), .int (0 : Int32), .ref (21 + 8 * i + 2), .int (0 : Int32), .ref (21 + 8 * i + 1)] 2 (fun f => rfl) ?_
  refine zW_acL (n := 16) (sp := 0) (dp := 0) rfl rfl (by have := hi_i; omega) (by have := hi_i; omega) (zh_T (c := 1) hi_i (by decide)) (zh_T (c := 2) hi_i (by decide)) (by decide) (by decide) (by decide) (by decide) rfl (zuF_M2 hi_i) ?_
  refine zW_gh 17 [some (.ref (21 + 8 * i))] [.int (0 : Int32), .ref (21 + 8 * i)] 2 (fun f => rfl) ?_
  refine zW_pf rfl (by have := hi_i; omega) (zh_TU0 hi_i) rfl rfl (zu_M0 (ct1 := 0) hi_i) ?_
  exact zW_rh none 1 (fun f => rfl) H
theorem b28 {P : zPt} {T : Nat → zX} {Y : zYt} {I : zIt} {A : zAt} {w : Nat → Int64} {p : Nat × Nat} {Q : zR → zH → Prop} {a1 a2 i a0 : Nat} (hi_i : i < 6) (H : zT zm_283 [.ref (21 + 8 * i + 1), .long (0 : Int64)] p (zh (P, (va_up T i (a0, a1, a2, (T i).2.2.2.1, (T i).2.2.2.2.1, (T i).2.2.2.2.2.1, (T i).2.2.2.2.2.2.1, (T i).2.2.2.2.2.2.2.1, (T i).2.2.2.2.2.2.2.2.1, (T i).2.2.2.2.2.2.2.2.2.1, (T i).2.2.2.2.2.2.2.2.2.2)), Y) I A w) (zK zm_28 23 [some (.ref (21 + 8 * i)), none, none, none] [] p Q)) : zT zm_28 [.ref (21 + 8 * i), .ref (zra a0), .int (Int32.ofNat a1), .int (Int32.ofNat a2)] p (zh (P, T, Y) I A w) Q := by
  change zW zm_28 0 [some (.ref (21 + 8 * i)), some (.ref (zra a0)), some (.int (Int32.ofNat a1)), some (.int (Int32.ofNat a2))] [] p _ Q
  refine zW_gh 2 [some (.ref (21 + 8 * i)), some (.ref (zra a0)), some (.int (Int32.ofNat a1)), some (.int (Int32.ofNat a2))] [.ref (zra a0), .ref (21 + 8 * i)] 2 (fun f => rfl) ?_
  refine zW_pf rfl (by have := hi_i; omega) (zh_T0 hi_i) rfl rfl (zuF_M0 (r1 := a0) hi_i) ?_
  refine zW_gh 7 [some (.ref (21 + 8 * i)), some (.ref (zra a0)), some (.int (Int32.ofNat a1)), some (.int (Int32.ofNat a2))] [.int (Int32.ofNat a1), .ref (21 + 8 * i)] 2 (fun f => rfl) ?_
  refine zW_pf rfl (by have := hi_i; omega) (zh_TU0 hi_i) rfl rfl (zu_M0 (hg1 := a1) hi_i) ?_
  refine zW_gh 12 [some (.ref (21 + 8 * i)), some (.ref (zra a0)), some (.int (Int32.ofNat a1)), some (.int (Int32.ofNat a2))] [.int (Int32.ofNat a2), .ref (21 + 8 * i)] 2 (fun f => rfl) ?_
  refine zW_pf rfl (by have := hi_i; omega) (zh_TU0 hi_i) rfl rfl (zu_M0 (wd1 := a2) hi_i) ?_
  refine zW_gh 16 [some (.ref (21 + 8 * i)), some (.ref (zra a0)), some (.int (Int32.ofNat a1)), some (.int (Int32.ofNat a2))] [.ref (21 + 8 * i)] 1 (fun f => rfl) ?_
  refine zW_gf rfl (by have := hi_i; omega) (zh_TU0 hi_i) rfl (v := .ref (21 + 8 * i + 1)) rfl ?_
  refine zW_gh 20 [some (.ref (21 + 8 * i)), some (.ref (zra a0)), some (.int (Int32.ofNat a1)), some (.int (Int32.ofNat a2))] [.long (0 : Int64), .ref (21 + 8 * i + 1)] 1 (fun f => rfl) ?_
  refine zW_fg (L' := [some (.ref (21 + 8 * i)), none, none, none]) (zle_s _ (zle_n _ (zle_n _ (zle_n _ zle_nil)))) ?_
  exact zW_cl rfl rfl rfl rfl rfl H
theorem b28_23 {P : zPt} {T : Nat → zX} {Y : zYt} {I : zIt} {A : zAt} {w : Nat → Int64} {p : Nat × Nat} {Q : zR → zH → Prop} {i : Nat} (hi_i : i < 6) (H : zT zm_29 [.ref (21 + 8 * i)] p (zh (P, T, Y) I A w) (zK zm_28 27 [none, none, none, none] [] p Q)) : zW zm_28 23 [some (.ref (21 + 8 * i)), none, none, none] [] p (zh (P, T, Y) I A w) Q := by
  refine zW_gh 24 [some (.ref (21 + 8 * i)), none, none, none] [.ref (21 + 8 * i)] 1 (fun f => rfl) ?_
  refine zW_fg (L' := [none, none, none, none]) (zle_n _ (zle_s _ (zle_s _ (zle_s _ zle_nil)))) ?_
  exact zW_cv rfl rfl rfl (by have := hi_i; omega) (zh_T0 hi_i) rfl rfl rfl rfl H
theorem b28_27 {P : zPt} {T : Nat → zX} {Y : zYt} {I : zIt} {A : zAt} {w : Nat → Int64} {p : Nat × Nat} {Q : zR → zH → Prop} (H : Q (.inl none) (zh (P, T, Y) I A w)) : zW zm_28 27 [none, none, none, none] [] p (zh (P, T, Y) I A w) Q := by
  exact zW_rh none 1 (fun f => rfl) H
theorem b32 {P : zPt} {T : Nat → zX} {Y : zYt} {I : zIt} {A : zAt} {w : Nat → Int64} {p : Nat × Nat} {Q : zR → zH → Prop} {i : Nat} {a0 a1 : Int32} {a2 : Int64} (hi_i : i < 6) (H : (((zcell (T i) a0 a1) = false → Q (.inl none) (zh (P, T, Y) I A w)) ∧ ((zcell (T i) a0 a1) = true → ∀ k_a0, k_a0 < 2147483648 → a0 = Int32.ofNat k_a0 → ∀ k_a1, k_a1 < 2147483648 → a1 = Int32.ofNat k_a1 → (((k_a0 * 4) + k_a1) < 16 ∧ Q (.inl none) (zh (P, (va_up T i ((T i).1, (T i).2.1, (T i).2.2.1, (T i).2.2.2.1, (va_up (T i).2.2.2.2.1 ((k_a0 * 4) + k_a1) a2), (T i).2.2.2.2.2.1, (T i).2.2.2.2.2.2.1, (T i).2.2.2.2.2.2.2.1, (T i).2.2.2.2.2.2.2.2.1, (T i).2.2.2.2.2.2.2.2.2.1, (T i).2.2.2.2.2.2.2.2.2.2)), Y) I A w))))) : zT zm_32 [.ref (21 + 8 * i), .int a0, .int a1, .long a2] p (zh (P, T, Y) I A w) Q := by
  change zW zm_32 0 [some (.ref (21 + 8 * i)), some (.int a0), some (.int a1), some (.long a2), none] [] p _ Q
  refine zW_gh 3 [some (.ref (21 + 8 * i)), some (.int a0), some (.int a1), some (.long a2), none] [.int a1, .int a0, .ref (21 + 8 * i)] 3 (fun f => rfl) ?_
  refine zW_cv rfl rfl rfl (by have := hi_i; omega) (zh_T0 hi_i) rfl rfl rfl rfl ((s30 hi_i) ?_)
  change zW zm_32 6 [some (.ref (21 + 8 * i)), some (.int a0), some (.int a1), some (.long a2), none] [.int (zbi (zcell (T i) a0 a1))] p _ Q
  refine zW_bh (zcmp .eq (zbi (zcell (T i) a0 a1)) (0 : Int32)) 20 9 [some (.ref (21 + 8 * i)), some (.int a0), some (.int a1), some (.long a2), none] [] 1 (fun f => rfl) (fun c => ?_) (fun c => ?_)
  · have c9 : (zcell (T i) a0 a1) = false := ((Bool.not_eq_true' _).mp ((zcB_eq _).symm.trans c))
    replace H := H.1 c9
    exact zW_rh none 1 (fun f => rfl) H
  · have c9 : (zcell (T i) a0 a1) = true := ((Bool.not_eq_false' _).mp ((zcB_eq _).symm.trans c))
    replace H := H.2 c9
    obtain ⟨k_a0, h_k_a0, e_k_a0⟩ := zcell_r c9
    replace H := H k_a0 h_k_a0 e_k_a0
    subst e_k_a0
    obtain ⟨k_a1, h_k_a1, e_k_a1⟩ := zcell_c c9
    replace H := H k_a1 h_k_a1 e_k_a1
    subst e_k_a1
    refine zW_gh 10 [some (.ref (21 + 8 * i)), some (.int (Int32.ofNat k_a0)), some (.int (Int32.ofNat k_a1)), some (.long a2), none] [.ref (21 + 8 * i)] 1 (fun f => rfl) ?_
    refine zW_gf rfl (by have := hi_i; omega) (zh_T0 hi_i) rfl (v := .ref (21 + 8 * i + 1)) rfl ?_
    refine zW_gh 19 [some (.ref (21 + 8 * i)), some (.int (Int32.ofNat k_a0)), some (.int (Int32.ofNat k_a1)), some (.long a2), none] [.long a2, .int (((Int32.ofNat k_a0) * (4 : Int32)) + (Int32.ofNat k_a1)), .ref (21 + 8 * i + 1)] 6 (fun f => rfl) ?_
    obtain ⟨h1, H⟩ := H
    refine zW_last rfl (by have := hi_i; omega) (zh_T (c := 1) hi_i (by decide)) (by decide) (zuF_M1 hi_i) (zN_a (zN_m rfl rfl) rfl) h1 ?_
    exact zW_rh none 1 (fun f => rfl) H
theorem b42 {P : zPt} {T : Nat → zX} {Y : zYt} {I : zIt} {A : zAt} {w : Nat → Int64} {p : Nat × Nat} {Q : zR → zH → Prop} {i : Nat} {a1 a2 : Int32} {a0 : Bool} {a3 : Int64} (hi_i : i < 6) (H : ((a0 = false → zT zm_32 [.ref (21 + 8 * i), .int a1, .int a2, .long a3] p (zh (P, T, Y) I A w) (zK zm_42 23 [none, none, none, none, none, none] [] p Q)) ∧ (a0 = true → zT zm_32 [.ref (21 + 8 * i), .int a2, .int a1, .long a3] p (zh (P, T, Y) I A w) (zK zm_42 12 [none, none, none, none, none, none] [] p Q)))) : zT zm_42 [.ref (21 + 8 * i), .int (zbi a0), .int a1, .int a2, .long a3] p (zh (P, T, Y) I A w) Q := by
  change zW zm_42 0 [some (.ref (21 + 8 * i)), some (.int (zbi a0)), some (.int a1), some (.int a2), some (.long a3), none] [] p _ Q
  refine zW_bh (zcmp .eq (zbi a0) (0 : Int32)) 15 4 [some (.ref (21 + 8 * i)), some (.int (zbi a0)), some (.int a1), some (.int a2), some (.long a3), none] [] 2 (fun f => rfl) (fun c => ?_) (fun c => ?_)
  · have c9 : a0 = false := ((Bool.not_eq_true' _).mp ((zcB_eq _).symm.trans c))
    replace H := H.1 c9
    refine zW_gh 20 [some (.ref (21 + 8 * i)), some (.int (zbi a0)), some (.int a1), some (.int a2), some (.long a3), none] [.long a3, .int a2, .int a1, .ref (21 + 8 * i)] 4 (fun f => rfl) ?_
    refine zW_fg (L' := [none, none, none, none, none, none]) (zle_n _ (zle_n _ (zle_n _ (zle_n _ (zle_n _ (zle_s _ zle_nil)))))) ?_
    exact zW_cv rfl rfl rfl (by have := hi_i; omega) (zh_T0 hi_i) rfl rfl rfl rfl H
  · have c9 : a0 = true := ((Bool.not_eq_false' _).mp ((zcB_eq _).symm.trans c))
    replace H := H.2 c9
    refine zW_gh 9 [some (.ref (21 + 8 * i)), some (.int (zbi a0)), some (.int a1), some (.int a2), some (.long a3), none] [.long a3, .int a1, .int a2, .ref (21 + 8 * i)] 4 (fun f => rfl) ?_
    refine zW_fg (L' := [none, none, none, none, none, none]) (zle_n _ (zle_n _ (zle_n _ (zle_n _ (zle_n _ (zle_s _ zle_nil)))))) ?_
    exact zW_cv rfl rfl rfl (by have := hi_i; omega) (zh_T0 hi_i) rfl rfl rfl rfl H
theorem b42_23 {P : zPt} {T : Nat → zX} {Y : zYt} {I : zIt} {A : zAt} {w : Nat → Int64} {p : Nat × Nat} {Q : zR → zH → Prop} (H : Q (.inl none) (zh (P, T, Y) I A w)) : zW zm_42 23 [none, none, none, none, none, none] [] p (zh (P, T, Y) I A w) Q := by
  exact zW_rh none 1 (fun f => rfl) H
theorem b42_12 {P : zPt} {T : Nat → zX} {Y : zYt} {I : zIt} {A : zAt} {w : Nat → Int64} {p : Nat × Nat} {Q : zR → zH → Prop} (H : Q (.inl none) (zh (P, T, Y) I A w)) : zW zm_42 12 [none, none, none, none, none, none] [] p (zh (P, T, Y) I A w) Q := by
  refine zW_gh 23 [none, none, none, none, none, none] [] 1 (fun f => rfl) ?_
  exact zW_rh none 1 (fun f => rfl) H
theorem b34 {P : zPt} {T : Nat → zX} {Y : zYt} {I : zIt} {A : zAt} {w : Nat → Int64} {p : Nat × Nat} {Q : zR → zH → Prop} {i j : Nat} (hi_j : j < 6) (hi_i : i < 6) (H : Q (.inl none) (zh (P, (va_up T i ((T j).1, ((va_up T i ((T j).1, (T i).2.1, (T i).2.2.1, (T i).2.2.2.1, (T i).2.2.2.2.1, (T i).2.2.2.2.2.1, (T i).2.2.2.2.2.2.1, (T i).2.2.2.2.2.2.2.1, (T i).2.2.2.2.2.2.2.2.1, (T i).2.2.2.2.2.2.2.2.2.1, (T i).2.2.2.2.2.2.2.2.2.2)) j).2.1, ((va_up T i ((T j).1, ((va_up T i ((T j).1, (T i).2.1, (T i).2.2.1, (T i).2.2.2.1, (T i).2.2.2.2.1, (T i).2.2.2.2.2.1, (T i).2.2.2.2.2.2.1, (T i).2.2.2.2.2.2.2.1, (T i).2.2.2.2.2.2.2.2.1, (T i).2.2.2.2.2.2.2.2.2.1, (T i).2.2.2.2.2.2.2.2.2.2)) j).2.1, (T i).2.2.1, (T i).2.2.2.1, (T i).2.2.2.2.1, (T i).2.2.2.2.2.1, (T i).2.2.2.2.2.2.1, (T i).2.2.2.2.2.2.2.1, (T i).2.2.2.2.2.2.2.2.1, (T i).2.2.2.2.2.2.2.2.2.1, (T i).2.2.2.2.2.2.2.2.2.2)) j).2.2.1, (T i).2.2.2.1, (T i).2.2.2.2.1, (T i).2.2.2.2.2.1, (T i).2.2.2.2.2.2.1, (T i).2.2.2.2.2.2.2.1, (T i).2.2.2.2.2.2.2.2.1, (T i).2.2.2.2.2.2.2.2.2.1, (T i).2.2.2.2.2.2.2.2.2.2)), Y) I A w)) : zT zm_34 [.ref (21 + 8 * i), .ref (21 + 8 * j)] p (zh (P, T, Y) I A w) Q := by
  change zW zm_34 0 [some (.ref (21 + 8 * i)), some (.ref (21 + 8 * j))] [] p _ Q
  refine zW_gh 2 [some (.ref (21 + 8 * i)), some (.ref (21 + 8 * j))] [.ref (21 + 8 * j), .ref (21 + 8 * i)] 2 (fun f => rfl) ?_
  refine zW_gf rfl (by have := hi_j; omega) (zh_T0 hi_j) rfl (v := .ref (zra ((T j).1))) rfl ?_
  refine zW_pf rfl (by have := hi_i; omega) (zh_T0 hi_i) rfl rfl (zuF_M0 (r1 := (T j).1) hi_i) ?_
  refine zW_gh 10 [some (.ref (21 + 8 * i)), some (.ref (21 + 8 * j))] [.ref (21 + 8 * j), .ref (21 + 8 * i)] 2 (fun f => rfl) ?_
  refine zW_gf rfl (by have := hi_j; omega) (zh_T0 hi_j) rfl (v := .int (Int32.ofNat (((va_up T i ((T j).1, (T i).2.1, (T i).2.2.1, (T i).2.2.2.1, (T i).2.2.2.2.1, (T i).2.2.2.2.2.1, (T i).2.2.2.2.2.2.1, (T i).2.2.2.2.2.2.2.1, (T i).2.2.2.2.2.2.2.2.1, (T i).2.2.2.2.2.2.2.2.2.1, (T i).2.2.2.2.2.2.2.2.2.2)) j).2.1))) rfl ?_
  refine zW_pf rfl (by have := hi_i; omega) (zh_TU0 hi_i) rfl rfl (zu_M0 (hg1 := ((va_up T i ((T j).1, (T i).2.1, (T i).2.2.1, (T i).2.2.2.1, (T i).2.2.2.2.1, (T i).2.2.2.2.2.1, (T i).2.2.2.2.2.2.1, (T i).2.2.2.2.2.2.2.1, (T i).2.2.2.2.2.2.2.2.1, (T i).2.2.2.2.2.2.2.2.2.1, (T i).2.2.2.2.2.2.2.2.2.2)) j).2.1) hi_i) ?_
  refine zW_gh 18 [some (.ref (21 + 8 * i)), some (.ref (21 + 8 * j))] [.ref (21 + 8 * j), .ref (21 + 8 * i)] 2 (fun f => rfl) ?_
  refine zW_gf rfl (by have := hi_j; omega) (zh_T0 hi_j) rfl (v := .int (Int32.ofNat (((va_up T i ((T j).1, ((va_up T i ((T j).1, (T i).2.1, (T i).2.2.1, (T i).2.2.2.1, (T i).2.2.2.2.1, (T i).2.2.2.2.2.1, (T i).2.2.2.2.2.2.1, (T i).2.2.2.2.2.2.2.1, (T i).2.2.2.2.2.2.2.2.1, (T i).2.2.2.2.2.2.2.2.2.1, (T i).2.2.2.2.2.2.2.2.2.2)) j).2.1, (T i).2.2.1, (T i).2.2.2.1, (T i).2.2.2.2.1, (T i).2.2.2.2.2.1, (T i).2.2.2.2.2.2.1, (T i).2.2.2.2.2.2.2.1, (T i).2.2.2.2.2.2.2.2.1, (T i).2.2.2.2.2.2.2.2.2.1, (T i).2.2.2.2.2.2.2.2.2.2)) j).2.2.1))) rfl ?_
  refine zW_pf rfl (by have := hi_i; omega) (zh_TU0 hi_i) rfl rfl (zu_M0 (wd1 := ((va_up T i ((T j).1, ((va_up T i ((T j).1, (T i).2.1, (T i).2.2.1, (T i).2.2.2.1, (T i).2.2.2.2.1, (T i).2.2.2.2.2.1, (T i).2.2.2.2.2.2.1, (T i).2.2.2.2.2.2.2.1, (T i).2.2.2.2.2.2.2.2.1, (T i).2.2.2.2.2.2.2.2.2.1, (T i).2.2.2.2.2.2.2.2.2.2)) j).2.1, (T i).2.2.1, (T i).2.2.2.1, (T i).2.2.2.2.1, (T i).2.2.2.2.2.1, (T i).2.2.2.2.2.2.1, (T i).2.2.2.2.2.2.2.1, (T i).2.2.2.2.2.2.2.2.1, (T i).2.2.2.2.2.2.2.2.2.1, (T i).2.2.2.2.2.2.2.2.2.2)) j).2.2.1) hi_i) ?_
  exact zW_rh none 1 (fun f => rfl) H
theorem b33 {P : zPt} {T : Nat → zX} {Y : zYt} {I : zIt} {A : zAt} {w : Nat → Int64} {p : Nat × Nat} {Q : zR → zH → Prop} {i j : Nat} (hi_i : i < 6) (H : zT zm_34 [.ref (21 + 8 * i), .ref (21 + 8 * j)] p (zh (P, T, Y) I A w) (zK zm_33 5 [some (.ref (21 + 8 * i)), some (.ref (21 + 8 * j))] [] p Q)) : zT zm_33 [.ref (21 + 8 * i), .ref (21 + 8 * j)] p (zh (P, T, Y) I A w) Q := by
  change zW zm_33 0 [some (.ref (21 + 8 * i)), some (.ref (21 + 8 * j))] [] p _ Q
  refine zW_gh 2 [some (.ref (21 + 8 * i)), some (.ref (21 + 8 * j))] [.ref (21 + 8 * j), .ref (21 + 8 * i)] 2 (fun f => rfl) ?_
  exact zW_cv rfl rfl rfl (by have := hi_i; omega) (zh_T0 hi_i) rfl rfl rfl rfl H
theorem b33_5 {P : zPt} {T : Nat → zX} {Y : zYt} {I : zIt} {A : zAt} {w : Nat → Int64} {p : Nat × Nat} {Q : zR → zH → Prop} {i j : Nat} (hi_j : j < 6) (hi_i : i < 6) (H : Q (.inl none) (zh (P, (va_up T i ((T i).1, (T i).2.1, (T i).2.2.1, ((va_up T i ((T i).1, (T i).2.1, (T i).2.2.1, (T i).2.2.2.1, (va_cpy (T j).2.2.2.2.1 (T i).2.2.2.2.1 0 0 16), (va_cpy ((va_up T i ((T i).1, (T i).2.1, (T i).2.2.1, (T i).2.2.2.1, (va_cpy (T j).2.2.2.2.1 (T i).2.2.2.2.1 0 0 16), (T i).2.2.2.2.2.1, (T i).2.2.2.2.2.2.1, (T i).2.2.2.2.2.2.2.1, (T i).2.2.2.2.2.2.2.2.1, (T i).2.2.2.2.2.2.2.2.2.1, (T i).2.2.2.2.2.2.2.2.2.2)) j).2.2.2.2.2.1 (T i).2.2.2.2.2.1 0 0 16), (T i).2.2.2.2.2.2.1, (T i).2.2.2.2.2.2.2.1, (T i).2.2.2.2.2.2.2.2.1, (T i).2.2.2.2.2.2.2.2.2.1, (T i).2.2.2.2.2.2.2.2.2.2)) j).2.2.2.1, (va_cpy (T j).2.2.2.2.1 (T i).2.2.2.2.1 0 0 16), (va_cpy ((va_up T i ((T i).1, (T i).2.1, (T i).2.2.1, (T i).2.2.2.1, (va_cpy (T j).2.2.2.2.1 (T i).2.2.2.2.1 0 0 16), (T i).2.2.2.2.2.1, (T i).2.2.2.2.2.2.1, (T i).2.2.2.2.2.2.2.1, (T i).2.2.2.2.2.2.2.2.1, (T i).2.2.2.2.2.2.2.2.2.1, (T i).2.2.2.2.2.2.2.2.2.2)) j).2.2.2.2.2.1 (T i).2.2.2.2.2.1 0 0 16), (T i).2.2.2.2.2.2.1, (va_cpy ((va_up T i ((T i).1, (T i).2.1, (T i).2.2.1, ((va_up T i ((T i).1, (T i).2.1, (T i).2.2.1, (T i).2.2.2.1, (va_cpy (T j).2.2.2.2.1 (T i).2.2.2.2.1 0 0 16), (va_cpy ((va_up T i ((T i).1, (T i).2.1, (T i).2.2.1, (T i).2.2.2.1, (va_cpy (T j).2.2.2.2.1 (T i).2.2.2.2.1 0 0 16), (T i).2.2.2.2.2.1, (T i).2.2.2.2.2.2.1, (T i).2.2.2.2.2.2.2.1, (T i).2.2.2.2.2.2.2.2.1, (T i).2.2.2.2.2.2.2.2.2.1, (T i).2.2.2.2.2.2.2.2.2.2)) j).2.2.2.2.2.1 (T i).2.2.2.2.2.1 0 0 16), (T i).2.2.2.2.2.2.1, (T i).2.2.2.2.2.2.2.1, (T i).2.2.2.2.2.2.2.2.1, (T i).2.2.2.2.2.2.2.2.2.1, (T i).2.2.2.2.2.2.2.2.2.2)) j).2.2.2.1, (va_cpy (T j).2.2.2.2.1 (T i).2.2.2.2.1 0 0 16), (va_cpy ((va_up T i ((T i).1, (T i).2.1, (T i).2.2.1, (T i).2.2.2.1, (va_cpy (T j).2.2.2.2.1 (T i).2.2.2.2.1 0 0 16), (T i).2.2.2.2.2.1, (T i).2.2.2.2.2.2.1, (T i).2.2.2.2.2.2.2.1, (T i).2.2.2.2.2.2.2.2.1, (T i).2.2.2.2.2.2.2.2.2.1, (T i).2.2.2.2.2.2.2.2.2.2)) j).2.2.2.2.2.1 (T i).2.2.2.2.2.1 0 0 16), (T i).2.2.2.2.2.2.1, (T i).2.2.2.2.2.2.2.1, (T i).2.2.2.2.2.2.2.2.1, (T i).2.2.2.2.2.2.2.2.2.1, (T i).2.2.2.2.2.2.2.2.2.2)) j).2.2.2.2.2.2.2.1 (T i).2.2.2.2.2.2.2.1 0 0 200), (va_cpy ((va_up T i ((T i).1, (T i).2.1, (T i).2.2.1, ((va_up T i ((T i).1, (T i).2.1, (T i).2.2.1, (T i).2.2.2.1, (va_cpy (T j).2.2.2.2.1 (T i).2.2.2.2.1 0 0 16), (va_cpy ((va_up T i ((T i).1, (T i).2.1, (T i).2.2.1, (T i).2.2.2.1, (va_cpy (T j).2.2.2.2.1 (T i).2.2.2.2.1 0 0 16), (T i).2.2.2.2.2.1, (T i).2.2.2.2.2.2.1, (T i).2.2.2.2.2.2.2.1, (T i).2.2.2.2.2.2.2.2.1, (T i).2.2.2.2.2.2.2.2.2.1, (T i).2.2.2.2.2.2.2.2.2.2)) j).2.2.2.2.2.1 (T i).2.2.2.2.2.1 0 0 16), (T i).2.2.2.2.2.2.1, (T i).2.2.2.2.2.2.2.1, (T i).2.2.2.2.2.2.2.2.1, (T i).2.2.2.2.2.2.2.2.2.1, (T i).2.2.2.2.2.2.2.2.2.2)) j).2.2.2.1, (va_cpy (T j).2.2.2.2.1 (T i).2.2.2.2.1 0 0 16), (va_cpy ((va_up T i ((T i).1, (T i).2.1, (T i).2.2.1, (T i).2.2.2.1, (va_cpy (T j).2.2.2.2.1 (T i).2.2.2.2.1 0 0 16), (T i).2.2.2.2.2.1, (T i).2.2.2.2.2.2.1, (T i).2.2.2.2.2.2.2.1, (T i).2.2.2.2.2.2.2.2.1, (T i).2.2.2.2.2.2.2.2.2.1, (T i).2.2.2.2.2.2.2.2.2.2)) j).2.2.2.2.2.1 (T i).2.2.2.2.2.1 0 0 16), (T i).2.2.2.2.2.2.1, (va_cpy ((va_up T i ((T i).1, (T i).2.1, (T i).2.2.1, ((va_up T i ((T i).1, (T i).2.1, (T i).2.2.1, (T i).2.2.2.1, (va_cpy (T j).2.2.2.2.1 (T i).2.2.2.2.1 0 0 16), (va_cpy ((va_up T i ((T i).1, (T i).2.1, (T i).2.2.1, (T i).2.2.2.1, (va_cpy (T j).2.2.2.2.1 (T i).2.2.2.2.1 0 0 16), (T i).2.2.2.2.2.1, (T i).2.2.2.2.2.2.1, (T i).2.2.2.2.2.2.2.1, (T i).2.2.2.2.2.2.2.2.1, (T i).2.2.2.2.2.2.2.2.2.1, (T i).2.2.2.2.2.2.2.2.2.2)) j).2.2.2.2.2.1 (T i).2.2.2.2.2.1 0 0 16), (T i).2.2.2.2.2.2.1, (T i).2.2.2.2.2.2.2.1, (T i).2.2.2.2.2.2.2.2.1, (T i).2.2.2.2.2.2.2.2.2.1, (T i).2.2.2.2.2.2.2.2.2.2)) j).2.2.2.1, (va_cpy (T j).2.2.2.2.1 (T i).2.2.2.2.1 0 0 16), (va_cpy ((va_up T i ((T i).1, (T i).2.1, (T i).2.2.1, (T i).2.2.2.1, (va_cpy (T j).2.2.2.2.1 (T i).2.2.2.2.1 0 0 16), (T i).2.2.2.2.2.1, (T i).2.2.2.2.2.2.1, (T i).2.2.2.2.2.2.2.1, (T i).2.2.2.2.2.2.2.2.1, (T i).2.2.2.2.2.2.2.2.2.1, (T i).2.2.2.2.2.2.2.2.2.2)) j).2.2.2.2.2.1 (T i).2.2.2.2.2.1 0 0 16), (T i).2.2.2.2.2.2.1, (T i).2.2.2.2.2.2.2.1, (T i).2.2.2.2.2.2.2.2.1, (T i).2.2.2.2.2.2.2.2.2.1, (T i).2.2.2.2.2.2.2.2.2.2)) j).2.2.2.2.2.2.2.1 (T i).2.2.2.2.2.2.2.1 0 0 200), (T i).2.2.2.2.2.2.2.2.1, (T i).2.2.2.2.2.2.2.2.2.1, (T i).2.2.2.2.2.2.2.2.2.2)) j).2.2.2.2.2.2.2.2.1 (T i).2.2.2.2.2.2.2.2.1 0 0 200), (va_cpy ((va_up T i ((T i).1, (T i).2.1, (T i).2.2.1, ((va_up T i ((T i).1, (T i).2.1, (T i).2.2.1, (T i).2.2.2.1, (va_cpy (T j).2.2.2.2.1 (T i).2.2.2.2.1 0 0 16), (va_cpy ((va_up T i ((T i).1, (T i).2.1, (T i).2.2.1, (T i).2.2.2.1, (va_cpy (T j).2.2.2.2.1 (T i).2.2.2.2.1 0 0 16), (T i).2.2.2.2.2.1, (T i).2.2.2.2.2.2.1, (T i).2.2.2.2.2.2.2.1, (T i).2.2.2.2.2.2.2.2.1, (T i).2.2.2.2.2.2.2.2.2.1, (T i).2.2.2.2.2.2.2.2.2.2)) j).2.2.2.2.2.1 (T i).2.2.2.2.2.1 0 0 16), (T i).2.2.2.2.2.2.1, (T i).2.2.2.2.2.2.2.1, (T i).2.2.2.2.2.2.2.2.1, (T i).2.2.2.2.2.2.2.2.2.1, (T i).2.2.2.2.2.2.2.2.2.2)) j).2.2.2.1, (va_cpy (T j).2.2.2.2.1 (T i).2.2.2.2.1 0 0 16), (va_cpy ((va_up T i ((T i).1, (T i).2.1, (T i).2.2.1, (T i).2.2.2.1, (va_cpy (T j).2.2.2.2.1 (T i).2.2.2.2.1 0 0 16), (T i).2.2.2.2.2.1, (T i).2.2.2.2.2.2.1, (T i).2.2.2.2.2.2.2.1, (T i).2.2.2.2.2.2.2.2.1, (T i).2.2.2.2.2.2.2.2.2.1, (T i).2.2.2.2.2.2.2.2.2.2)) j).2.2.2.2.2.1 (T i).2.2.2.2.2.1 0 0 16), (T i).2.2.2.2.2.2.1, (va_cpy ((va_up T i ((T i).1, (T i).2.1, (T i).2.2.1, ((va_up T i ((T i).1, (T i).2.1, (T i).2.2.1, (T i).2.2.2.1, (va_cpy (T j).2.2.2.2.1 (T i).2.2.2.2.1 0 0 16), (va_cpy ((va_up T i ((T i).1, (T i).2.1, (T i).2.2.1, (T i).2.2.2.1, (va_cpy (T j).2.2.2.2.1 (T i).2.2.2.2.1 0 0 16), (T i).2.2.2.2.2.1, (T i).2.2.2.2.2.2.1, (T i).2.2.2.2.2.2.2.1, (T i).2.2.2.2.2.2.2.2.1, (T i).2.2.2.2.2.2.2.2.2.1, (T i).2.2.2.2.2.2.2.2.2.2)) j).2.2.2.2.2.1 (T i).2.2.2.2.2.1 0 0 16), (T i).2.2.2.2.2.2.1, (T i).2.2.2.2.2.2.2.1, (T i).2.2.2.2.2.2.2.2.1, (T i).2.2.2.2.2.2.2.2.2.1, (T i).2.2.2.2.2.2.2.2.2.2)) j).2.2.2.1, (va_cpy (T j).2.2.2.2.1 (T i).2.2.2.2.1 0 0 16), (va_cpy ((va_up T i ((T i).1, (T i).2.1, (T i).2.2.1, (T i).2.2.2.1, (va_cpy (T j).2.2.2.2.1 (T i).2.2.2.2.1 0 0 16), (T i).2.2.2.2.2.1, (T i).2.2.2.2.2.2.1, (T i).2.2.2.2.2.2.2.1, (T i).2.2.2.2.2.2.2.2.1, (T i).2.2.2.2.2.2.2.2.2.1, (T i).2.2.2.2.2.2.2.2.2.2)) j).2.2.2.2.2.1 (T i).2.2.2.2.2.1 0 0 16), (T i).2.2.2.2.2.2.1, (T i).2.2.2.2.2.2.2.1, (T i).2.2.2.2.2.2.2.2.1, (T i).2.2.2.2.2.2.2.2.2.1, (T i).2.2.2.2.2.2.2.2.2.2)) j).2.2.2.2.2.2.2.1 (T i).2.2.2.2.2.2.2.1 0 0 200), (va_cpy ((va_up T i ((T i).1, (T i).2.1, (T i).2.2.1, ((va_up T i ((T i).1, (T i).2.1, (T i).2.2.1, (T i).2.2.2.1, (va_cpy (T j).2.2.2.2.1 (T i).2.2.2.2.1 0 0 16), (va_cpy ((va_up T i ((T i).1, (T i).2.1, (T i).2.2.1, (T i).2.2.2.1, (va_cpy (T j).2.2.2.2.1 (T i).2.2.2.2.1 0 0 16), (T i).2.2.2.2.2.1, (T i).2.2.2.2.2.2.1, (T i).2.2.2.2.2.2.2.1, (T i).2.2.2.2.2.2.2.2.1, (T i).2.2.2.2.2.2.2.2.2.1, (T i).2.2.2.2.2.2.2.2.2.2)) j).2.2.2.2.2.1 (T i).2.2.2.2.2.1 0 0 16), (T i).2.2.2.2.2.2.1, (T i).2.2.2.2.2.2.2.1, (T i).2.2.2.2.2.2.2.2.1, (T i).2.2.2.2.2.2.2.2.2.1, (T i).2.2.2.2.2.2.2.2.2.2)) j).2.2.2.1, (va_cpy (T j).2.2.2.2.1 (T i).2.2.2.2.1 0 0 16), (va_cpy ((va_up T i ((T i).1, (T i).2.1, (T i).2.2.1, (T i).2.2.2.1, (va_cpy (T j).2.2.2.2.1 (T i).2.2.2.2.1 0 0 16), (T i).2.2.2.2.2.1, (T i).2.2.2.2.2.2.1, (T i).2.2.2.2.2.2.2.1, (T i).2.2.2.2.2.2.2.2.1, (T i).2.2.2.2.2.2.2.2.2.1, (T i).2.2.2.2.2.2.2.2.2.2)) j).2.2.2.2.2.1 (T i).2.2.2.2.2.1 0 0 16), (T i).2.2.2.2.2.2.1, (va_cpy ((va_up T i ((T i).1, (T i).2.1, (T i).2.2.1, ((va_up T i ((T i).1, (T i).2.1, (T i).2.2.1, (T i).2.2.2.1, (va_cpy (T j).2.2.2.2.1 (T i).2.2.2.2.1 0 0 16), (va_cpy ((va_up T i ((T i).1, (T i).2.1, (T i).2.2.1, (T i).2.2.2.1, (va_cpy (T j).2.2.2.2.1 (T i).2.2.2.2.1 0 0 16), (T i).2.2.2.2.2.1, (T i).2.2.2.2.2.2.1, (T i).2.2.2.2.2.2.2.1, (T i).2.2.2.2.2.2.2.2.1, (T i).2.2.2.2.2.2.2.2.2.1, (T i).2.2.2.2.2.2.2.2.2.2)) j).2.2.2.2.2.1 (T i).2.2.2.2.2.1 0 0 16), (T i).2.2.2.2.2.2.1, (T i).2.2.2.2.2.2.2.1, (T i).2.2.2.2.2.2.2.2.1, (T i).2.2.2.2.2.2.2.2.2.1, (T i).2.2.2.2.2.2.2.2.2.2)) j).2.2.2.1, (va_cpy (T j).2.2.2.2.1 (T i).2.2.2.2.1 0 0 16), (va_cpy ((va_up T i ((T i).1, (T i).2.1, (T i).2.2.1, (T i).2.2.2.1, (va_cpy (T j).2.2.2.2.1 (T i).2.2.2.2.1 0 0 16), (T i).2.2.2.2.2.1, (T i).2.2.2.2.2.2.1, (T i).2.2.2.2.2.2.2.1, (T i).2.2.2.2.2.2.2.2.1, (T i).2.2.2.2.2.2.2.2.2.1, (T i).2.2.2.2.2.2.2.2.2.2)) j).2.2.2.2.2.1 (T i).2.2.2.2.2.1 0 0 16), (T i).2.2.2.2.2.2.1, (T i).2.2.2.2.2.2.2.1, (T i).2.2.2.2.2.2.2.2.1, (T i).2.2.2.2.2.2.2.2.2.1, (T i).2.2.2.2.2.2.2.2.2.2)) j).2.2.2.2.2.2.2.1 (T i).2.2.2.2.2.2.2.1 0 0 200), (T i).2.2.2.2.2.2.2.2.1, (T i).2.2.2.2.2.2.2.2.2.1, (T i).2.2.2.2.2.2.2.2.2.2)) j).2.2.2.2.2.2.2.2.1 (T i).2.2.2.2.2.2.2.2.1 0 0 200), (T i).2.2.2.2.2.2.2.2.2.1, (T i).2.2.2.2.2.2.2.2.2.2)) j).2.2.2.2.2.2.2.2.2.1 (T i).2.2.2.2.2.2.2.2.2.1 0 0 200), (va_cpy ((va_up T i ((T i).1, (T i).2.1, (T i).2.2.1, ((va_up T i ((T i).1, (T i).2.1, (T i).2.2.1, (T i).2.2.2.1, (va_cpy (T j).2.2.2.2.1 (T i).2.2.2.2.1 0 0 16), (va_cpy ((va_up T i ((T i).1, (T i).2.1, (T i).2.2.1, (T i).2.2.2.1, (va_cpy (T j).2.2.2.2.1 (T i).2.2.2.2.1 0 0 16), (T i).2.2.2.2.2.1, (T i).2.2.2.2.2.2.1, (T i).2.2.2.2.2.2.2.1, (T i).2.2.2.2.2.2.2.2.1, (T i).2.2.2.2.2.2.2.2.2.1, (T i).2.2.2.2.2.2.2.2.2.2)) j).2.2.2.2.2.1 (T i).2.2.2.2.2.1 0 0 16), (T i).2.2.2.2.2.2.1, (T i).2.2.2.2.2.2.2.1, (T i).2.2.2.2.2.2.2.2.1, (T i).2.2.2.2.2.2.2.2.2.1, (T i).2.2.2.2.2.2.2.2.2.2)) j).2.2.2.1, (va_cpy (T j).2.2.2.2.1 (T i).2.2.2.2.1 0 0 16), (va_cpy ((va_up T i ((T i).1, (T i).2.1, (T i).2.2.1, (T i).2.2.2.1, (va_cpy (T j).2.2.2.2.1 (T i).2.2.2.2.1 0 0 16), (T i).2.2.2.2.2.1, (T i).2.2.2.2.2.2.1, (T i).2.2.2.2.2.2.2.1, (T i).2.2.2.2.2.2.2.2.1, (T i).2.2.2.2.2.2.2.2.2.1, (T i).2.2.2.2.2.2.2.2.2.2)) j).2.2.2.2.2.1 (T i).2.2.2.2.2.1 0 0 16), (T i).2.2.2.2.2.2.1, (va_cpy ((va_up T i ((T i).1, (T i).2.1, (T i).2.2.1, ((va_up T i ((T i).1, (T i).2.1, (T i).2.2.1, (T i).2.2.2.1, (va_cpy (T j).2.2.2.2.1 (T i).2.2.2.2.1 0 0 16), (va_cpy ((va_up T i ((T i).1, (T i).2.1, (T i).2.2.1, (T i).2.2.2.1, (va_cpy (T j).2.2.2.2.1 (T i).2.2.2.2.1 0 0 16), (T i).2.2.2.2.2.1, (T i).2.2.2.2.2.2.1, (T i).2.2.2.2.2.2.2.1, (T i).2.2.2.2.2.2.2.2.1, (T i).2.2.2.2.2.2.2.2.2.1, (T i).2.2.2.2.2.2.2.2.2.2)) j).2.2.2.2.2.1 (T i).2.2.2.2.2.1 0 0 16), (T i).2.2.2.2.2.2.1, (T i).2.2.2.2.2.2.2.1, (T i).2.2.2.2.2.2.2.2.1, (T i).2.2.2.2.2.2.2.2.2.1, (T i).2.2.2.2.2.2.2.2.2.2)) j).2.2.2.1, (va_cpy (T j).2.2.2.2.1 (T i).2.2.2.2.1 0 0 16), (va_cpy ((va_up T i ((T i).1, (T i).2.1, (T i).2.2.1, (T i).2.2.2.1, (va_cpy (T j).2.2.2.2.1 (T i).2.2.2.2.1 0 0 16), (T i).2.2.2.2.2.1, (T i).2.2.2.2.2.2.1, (T i).2.2.2.2.2.2.2.1, (T i).2.2.2.2.2.2.2.2.1, (T i).2.2.2.2.2.2.2.2.2.1, (T i).2.2.2.2.2.2.2.2.2.2)) j).2.2.2.2.2.1 (T i).2.2.2.2.2.1 0 0 16), (T i).2.2.2.2.2.2.1, (T i).2.2.2.2.2.2.2.1, (T i).2.2.2.2.2.2.2.2.1, (T i).2.2.2.2.2.2.2.2.2.1, (T i).2.2.2.2.2.2.2.2.2.2)) j).2.2.2.2.2.2.2.1 (T i).2.2.2.2.2.2.2.1 0 0 200), (va_cpy ((va_up T i ((T i).1, (T i).2.1, (T i).2.2.1, ((va_up T i ((T i).1, (T i).2.1, (T i).2.2.1, (T i).2.2.2.1, (va_cpy (T j).2.2.2.2.1 (T i).2.2.2.2.1 0 0 16), (va_cpy ((va_up T i ((T i).1, (T i).2.1, (T i).2.2.1, (T i).2.2.2.1, (va_cpy (T j).2.2.2.2.1 (T i).2.2.2.2.1 0 0 16), (T i).2.2.2.2.2.1, (T i).2.2.2.2.2.2.1, (T i).2.2.2.2.2.2.2.1, (T i).2.2.2.2.2.2.2.2.1, (T i).2.2.2.2.2.2.2.2.2.1, (T i).2.2.2.2.2.2.2.2.2.2)) j).2.2.2.2.2.1 (T i).2.2.2.2.2.1 0 0 16), (T i).2.2.2.2.2.2.1, (T i).2.2.2.2.2.2.2.1, (T i).2.2.2.2.2.2.2.2.1, (T i).2.2.2.2.2.2.2.2.2.1, (T i).2.2.2.2.2.2.2.2.2.2)) j).2.2.2.1, (va_cpy (T j).2.2.2.2.1 (T i).2.2.2.2.1 0 0 16), (va_cpy ((va_up T i ((T i).1, (T i).2.1, (T i).2.2.1, (T i).2.2.2.1, (va_cpy (T j).2.2.2.2.1 (T i).2.2.2.2.1 0 0 16), (T i).2.2.2.2.2.1, (T i).2.2.2.2.2.2.1, (T i).2.2.2.2.2.2.2.1, (T i).2.2.2.2.2.2.2.2.1, (T i).2.2.2.2.2.2.2.2.2.1, (T i).2.2.2.2.2.2.2.2.2.2)) j).2.2.2.2.2.1 (T i).2.2.2.2.2.1 0 0 16), (T i).2.2.2.2.2.2.1, (va_cpy ((va_up T i ((T i).1, (T i).2.1, (T i).2.2.1, ((va_up T i ((T i).1, (T i).2.1, (T i).2.2.1, (T i).2.2.2.1, (va_cpy (T j).2.2.2.2.1 (T i).2.2.2.2.1 0 0 16), (va_cpy ((va_up T i ((T i).1, (T i).2.1, (T i).2.2.1, (T i).2.2.2.1, (va_cpy (T j).2.2.2.2.1 (T i).2.2.2.2.1 0 0 16), (T i).2.2.2.2.2.1, (T i).2.2.2.2.2.2.1, (T i).2.2.2.2.2.2.2.1, (T i).2.2.2.2.2.2.2.2.1, (T i).2.2.2.2.2.2.2.2.2.1, (T i).2.2.2.2.2.2.2.2.2.2)) j).2.2.2.2.2.1 (T i).2.2.2.2.2.1 0 0 16), (T i).2.2.2.2.2.2.1, (T i).2.2.2.2.2.2.2.1, (T i).2.2.2.2.2.2.2.2.1, (T i).2.2.2.2.2.2.2.2.2.1, (T i).2.2.2.2.2.2.2.2.2.2)) j).2.2.2.1, (va_cpy (T j).2.2.2.2.1 (T i).2.2.2.2.1 0 0 16), (va_cpy ((va_up T i ((T i).1, (T i).2.1, (T i).2.2.1, (T i).2.2.2.1, (va_cpy (T j).2.2.2.2.1 (T i).2.2.2.2.1 0 0 16), (T i).2.2.2.2.2.1, (T i).2.2.2.2.2.2.1, (T i).2.2.2.2.2.2.2.1, (T i).2.2.2.2.2.2.2.2.1, (T i).2.2.2.2.2.2.2.2.2.1, (T i).2.2.2.2.2.2.2.2.2.2)) j).2.2.2.2.2.1 (T i).2.2.2.2.2.1 0 0 16), (T i).2.2.2.2.2.2.1, (T i).2.2.2.2.2.2.2.1, (T i).2.2.2.2.2.2.2.2.1, (T i).2.2.2.2.2.2.2.2.2.1, (T i).2.2.2.2.2.2.2.2.2.2)) j).2.2.2.2.2.2.2.1 (T i).2.2.2.2.2.2.2.1 0 0 200), (T i).2.2.2.2.2.2.2.2.1, (T i).2.2.2.2.2.2.2.2.2.1, (T i).2.2.2.2.2.2.2.2.2.2)) j).2.2.2.2.2.2.2.2.1 (T i).2.2.2.2.2.2.2.2.1 0 0 200), (va_cpy ((va_up T i ((T i).1, (T i).2.1, (T i).2.2.1, ((va_up T i ((T i).1, (T i).2.1, (T i).2.2.1, (T i).2.2.2.1, (va_cpy (T j).2.2.2.2.1 (T i).2.2.2.2.1 0 0 16), (va_cpy ((va_up T i ((T i).1, (T i).2.1, (T i).2.2.1, (T i).2.2.2.1, (va_cpy (T j).2.2.2.2.1 (T i).2.2.2.2.1 0 0 16), (T i).2.2.2.2.2.1, (T i).2.2.2.2.2.2.1, (T i).2.2.2.2.2.2.2.1, (T i).2.2.2.2.2.2.2.2.1, (T i).2.2.2.2.2.2.2.2.2.1, (T i).2.2.2.2.2.2.2.2.2.2)) j).2.2.2.2.2.1 (T i).2.2.2.2.2.1 0 0 16), (T i).2.2.2.2.2.2.1, (T i).2.2.2.2.2.2.2.1, (T i).2.2.2.2.2.2.2.2.1, (T i).2.2.2.2.2.2.2.2.2.1, (T i).2.2.2.2.2.2.2.2.2.2)) j).2.2.2.1, (va_cpy (T j).2.2.2.2.1 (T i).2.2.2.2.1 0 0 16), (va_cpy ((va_up T i ((T i).1, (T i).2.1, (T i).2.2.1, (T i).2.2.2.1, (va_cpy (T j).2.2.2.2.1 (T i).2.2.2.2.1 0 0 16), (T i).2.2.2.2.2.1, (T i).2.2.2.2.2.2.1, (T i).2.2.2.2.2.2.2.1, (T i).2.2.2.2.2.2.2.2.1, (T i).2.2.2.2.2.2.2.2.2.1, (T i).2.2.2.2.2.2.2.2.2.2)) j).2.2.2.2.2.1 (T i).2.2.2.2.2.1 0 0 16), (T i).2.2.2.2.2.2.1, (va_cpy ((va_up T i ((T i).1, (T i).2.1, (T i).2.2.1, ((va_up T i ((T i).1, (T i).2.1, (T i).2.2.1, (T i).2.2.2.1, (va_cpy (T j).2.2.2.2.1 (T i).2.2.2.2.1 0 0 16), (va_cpy ((va_up T i ((T i).1, (T i).2.1, (T i).2.2.1, (T i).2.2.2.1, (va_cpy (T j).2.2.2.2.1 (T i).2.2.2.2.1 0 0 16), (T i).2.2.2.2.2.1, (T i).2.2.2.2.2.2.1, (T i).2.2.2.2.2.2.2.1, (T i).2.2.2.2.2.2.2.2.1, (T i).2.2.2.2.2.2.2.2.2.1, (T i).2.2.2.2.2.2.2.2.2.2)) j).2.2.2.2.2.1 (T i).2.2.2.2.2.1 0 0 16), (T i).2.2.2.2.2.2.1, (T i).2.2.2.2.2.2.2.1, (T i).2.2.2.2.2.2.2.2.1, (T i).2.2.2.2.2.2.2.2.2.1, (T i).2.2.2.2.2.2.2.2.2.2)) j).2.2.2.1, (va_cpy (T j).2.2.2.2.1 (T i).2.2.2.2.1 0 0 16), (va_cpy ((va_up T i ((T i).1, (T i).2.1, (T i).2.2.1, (T i).2.2.2.1, (va_cpy (T j).2.2.2.2.1 (T i).2.2.2.2.1 0 0 16), (T i).2.2.2.2.2.1, (T i).2.2.2.2.2.2.1, (T i).2.2.2.2.2.2.2.1, (T i).2.2.2.2.2.2.2.2.1, (T i).2.2.2.2.2.2.2.2.2.1, (T i).2.2.2.2.2.2.2.2.2.2)) j).2.2.2.2.2.1 (T i).2.2.2.2.2.1 0 0 16), (T i).2.2.2.2.2.2.1, (T i).2.2.2.2.2.2.2.1, (T i).2.2.2.2.2.2.2.2.1, (T i).2.2.2.2.2.2.2.2.2.1, (T i).2.2.2.2.2.2.2.2.2.2)) j).2.2.2.2.2.2.2.1 (T i).2.2.2.2.2.2.2.1 0 0 200), (va_cpy ((va_up T i ((T i).1, (T i).2.1, (T i).2.2.1, ((va_up T i ((T i).1, (T i).2.1, (T i).2.2.1, (T i).2.2.2.1, (va_cpy (T j).2.2.2.2.1 (T i).2.2.2.2.1 0 0 16), (va_cpy ((va_up T i ((T i).1, (T i).2.1, (T i).2.2.1, (T i).2.2.2.1, (va_cpy (T j).2.2.2.2.1 (T i).2.2.2.2.1 0 0 16), (T i).2.2.2.2.2.1, (T i).2.2.2.2.2.2.1, (T i).2.2.2.2.2.2.2.1, (T i).2.2.2.2.2.2.2.2.1, (T i).2.2.2.2.2.2.2.2.2.1, (T i).2.2.2.2.2.2.2.2.2.2)) j).2.2.2.2.2.1 (T i).2.2.2.2.2.1 0 0 16), (T i).2.2.2.2.2.2.1, (T i).2.2.2.2.2.2.2.1, (T i).2.2.2.2.2.2.2.2.1, (T i).2.2.2.2.2.2.2.2.2.1, (T i).2.2.2.2.2.2.2.2.2.2)) j).2.2.2.1, (va_cpy (T j).2.2.2.2.1 (T i).2.2.2.2.1 0 0 16), (va_cpy ((va_up T i ((T i).1, (T i).2.1, (T i).2.2.1, (T i).2.2.2.1, (va_cpy (T j).2.2.2.2.1 (T i).2.2.2.2.1 0 0 16), (T i).2.2.2.2.2.1, (T i).2.2.2.2.2.2.1, (T i).2.2.2.2.2.2.2.1, (T i).2.2.2.2.2.2.2.2.1, (T i).2.2.2.2.2.2.2.2.2.1, (T i).2.2.2.2.2.2.2.2.2.2)) j).2.2.2.2.2.1 (T i).2.2.2.2.2.1 0 0 16), (T i).2.2.2.2.2.2.1, (va_cpy ((va_up T i ((T i).1, (T i).2.1, (T i).2.2.1, ((va_up T i ((T i).1, (T i).2.1, (T i).2.2.1, (T i).2.2.2.1, (va_cpy (T j).2.2.2.2.1 (T i).2.2.2.2.1 0 0 16), (va_cpy ((va_up T i ((T i).1, (T i).2.1, (T i).2.2.1, (T i).2.2.2.1, (va_cpy (T j).2.2.2.2.1 (T i).2.2.2.2.1 0 0 16), (T i).2.2.2.2.2.1, (T i).2.2.2.2.2.2.1, (T i).2.2.2.2.2.2.2.1, (T i).2.2.2.2.2.2.2.2.1, (T i).2.2.2.2.2.2.2.2.2.1, (T i).2.2.2.2.2.2.2.2.2.2)) j).2.2.2.2.2.1 (T i).2.2.2.2.2.1 0 0 16), (T i).2.2.2.2.2.2.1, (T i).2.2.2.2.2.2.2.1, (T i).2.2.2.2.2.2.2.2.1, (T i).2.2.2.2.2.2.2.2.2.1, (T i).2.2.2.2.2.2.2.2.2.2)) j).2.2.2.1, (va_cpy (T j).2.2.2.2.1 (T i).2.2.2.2.1 0 0 16), (va_cpy ((va_up T i ((T i).1, (T i).2.1, (T i).2.2.1, (T i).2.2.2.1, (va_cpy (T j).2.2.2.2.1 (T i).2.2.2.2.1 0 0 16), (T i).2.2.2.2.2.1, (T i).2.2.2.2.2.2.1, (T i).2.2.2.2.2.2.2.1, (T i).2.2.2.2.2.2.2.2.1, (T i).2.2.2.2.2.2.2.2.2.1, (T i).2.2.2.2.2.2.2.2.2.2)) j).2.2.2.2.2.1 (T i).2.2.2.2.2.1 0 0 16), (T i).2.2.2.2.2.2.1, (T i).2.2.2.2.2.2.2.1, (T i).2.2.2.2.2.2.2.2.1, (T i).2.2.2.2.2.2.2.2.2.1, (T i).2.2.2.2.2.2.2.2.2.2)) j).2.2.2.2.2.2.2.1 (T i).2.2.2.2.2.2.2.1 0 0 200), (T i).2.2.2.2.2.2.2.2.1, (T i).2.2.2.2.2.2.2.2.2.1, (T i).2.2.2.2.2.2.2.2.2.2)) j).2.2.2.2.2.2.2.2.1 (T i).2.2.2.2.2.2.2.2.1 0 0 200), (T i).2.2.2.2.2.2.2.2.2.1, (T i).2.2.2.2.2.2.2.2.2.2)) j).2.2.2.2.2.2.2.2.2.1 (T i).2.2.2.2.2.2.2.2.2.1 0 0 200), (T i).2.2.2.2.2.2.2.2.2.2)) j).2.2.2.2.2.2.2.2.2.2 (T i).2.2.2.2.2.2.2.2.2.2 0 0 200))), Y) I A w)) : zW zm_33 5 [some (.ref (21 + 8 * i)), some (.ref (21 + 8 * j))] [] p (zh (P, T, Y) I A w) Q := by
  refine zW_gh 6 [some (.ref (21 + 8 * i)), some (.ref (21 + 8 * j))] [.ref (21 + 8 * j)] 1 (fun f => rfl) ?_
  refine zW_gf rfl (by have := hi_j; omega) (zh_T0 hi_j) rfl (v := .ref (21 + 8 * j + 1)) rfl ?_
  refine zW_gh 11 [some (.ref (21 + 8 * i)), some (.ref (21 + 8 * j))] [.ref (21 + 8 * i), .int (0 : Int32), .ref (21 + 8 * j + 1)] 2 (fun f => rfl) ?_
  refine zW_gf rfl (by have := hi_i; omega) (zh_T0 hi_i) rfl (v := .ref (21 + 8 * i + 1)) rfl ?_
  refine zW_gh 17 [some (.ref (21 + 8 * i)), some (.ref (21 + 8 * j))] [.int (16 : Int32), .int (0 : Int32), .ref (21 + 8 * i + 1), .int (0 : Int32), .ref (21 + 8 * j + 1)] 2 (fun f => rfl) ?_
  refine zW_acL (n := 16) (sp := 0) (dp := 0) rfl rfl (by have := hi_i; omega) (by have := hi_j; omega) (zh_T (c := 1) hi_j (by decide)) (zh_T (c := 1) hi_i (by decide)) (by decide) (by decide) (by decide) (by decide) rfl (zuF_M1 hi_i) ?_
  refine zW_gh 21 [some (.ref (21 + 8 * i)), some (.ref (21 + 8 * j))] [.ref (21 + 8 * j)] 1 (fun f => rfl) ?_
  refine zW_gf rfl (by have := hi_j; omega) (zh_T0 hi_j) rfl (v := .ref (21 + 8 * j + 2)) rfl ?_
  refine zW_gh 26 [some (.ref (21 + 8 * i)), some (.ref (21 + 8 * j))] [.ref (21 + 8 * i), .int (0 : Int32), .ref (21 + 8 * j + 2)] 2 (fun f => rfl) ?_
  refine zW_gf rfl (by have := hi_i; omega) (zh_TU0 hi_i) rfl (v := .ref (21 + 8 * i + 2)) rfl ?_
  refine zW_gh 32 [some (.ref (21 + 8 * i)), some (.ref (21 + 8 * j))] [.int (16 : Int32), .int (0 : Int32), .ref (21 + 8 * i + 2), .int (0 : Int32), .ref (21 + 8 * j + 2)] 2 (fun f => rfl) ?_
  refine zW_acL (n := 16) (sp := 0) (dp := 0) rfl rfl (by have := hi_i; omega) (by have := hi_j; omega) (zh_T (c := 2) hi_j (by decide)) (zh_TU (c := 2) hi_i (by decide)) (by decide) (by decide) (by decide) (by decide) rfl (zu_M2 hi_i) ?_
  refine zW_gh 37 [some (.ref (21 + 8 * i)), some (.ref (21 + 8 * j))] [.ref (21 + 8 * j), .ref (21 + 8 * i)] 2 (fun f => rfl) ?_
  refine zW_gf rfl (by have := hi_j; omega) (zh_T0 hi_j) rfl (v := .int (Int32.ofNat (((va_up T i ((T i).1, (T i).2.1, (T i).2.2.1, (T i).2.2.2.1, (va_cpy (T j).2.2.2.2.1 (T i).2.2.2.2.1 0 0 16), (va_cpy ((va_up T i ((T i).1, (T i).2.1, (T i).2.2.1, (T i).2.2.2.1, (va_cpy (T j).2.2.2.2.1 (T i).2.2.2.2.1 0 0 16), (T i).2.2.2.2.2.1, (T i).2.2.2.2.2.2.1, (T i).2.2.2.2.2.2.2.1, (T i).2.2.2.2.2.2.2.2.1, (T i).2.2.2.2.2.2.2.2.2.1, (T i).2.2.2.2.2.2.2.2.2.2)) j).2.2.2.2.2.1 (T i).2.2.2.2.2.1 0 0 16), (T i).2.2.2.2.2.2.1, (T i).2.2.2.2.2.2.2.1, (T i).2.2.2.2.2.2.2.2.1, (T i).2.2.2.2.2.2.2.2.2.1, (T i).2.2.2.2.2.2.2.2.2.2)) j).2.2.2.1))) rfl ?_
  refine zW_pf rfl (by have := hi_i; omega) (zh_TU0 hi_i) rfl rfl (zu_M0 (ct1 := ((va_up T i ((T i).1, (T i).2.1, (T i).2.2.1, (T i).2.2.2.1, (va_cpy (T j).2.2.2.2.1 (T i).2.2.2.2.1 0 0 16), (va_cpy ((va_up T i ((T i).1, (T i).2.1, (T i).2.2.1, (T i).2.2.2.1, (va_cpy (T j).2.2.2.2.1 (T i).2.2.2.2.1 0 0 16), (T i).2.2.2.2.2.1, (T i).2.2.2.2.2.2.1, (T i).2.2.2.2.2.2.2.1, (T i).2.2.2.2.2.2.2.2.1, (T i).2.2.2.2.2.2.2.2.2.1, (T i).2.2.2.2.2.2.2.2.2.2)) j).2.2.2.2.2.1 (T i).2.2.2.2.2.1 0 0 16), (T i).2.2.2.2.2.2.1, (T i).2.2.2.2.2.2.2.1, (T i).2.2.2.2.2.2.2.2.1, (T i).2.2.2.2.2.2.2.2.2.1, (T i).2.2.2.2.2.2.2.2.2.2)) j).2.2.2.1) hi_i) ?_
  refine zW_gh 44 [some (.ref (21 + 8 * i)), some (.ref (21 + 8 * j))] [.ref (21 + 8 * j)] 1 (fun f => rfl) ?_
  refine zW_gf rfl (by have := hi_j; omega) (zh_T0 hi_j) rfl (v := .ref (21 + 8 * j + 4)) rfl ?_
  refine zW_gh 49 [some (.ref (21 + 8 * i)), some (.ref (21 + 8 * j))] [.ref (21 + 8 * i), .int (0 : Int32), .ref (21 + 8 * j + 4)] 2 (fun f => rfl) ?_
  refine zW_gf rfl (by have := hi_i; omega) (zh_TU0 hi_i) rfl (v := .ref (21 + 8 * i + 4)) rfl ?_
  refine zW_gh 56 [some (.ref (21 + 8 * i)), some (.ref (21 + 8 * j))] [.int (200 : Int32), .int (0 : Int32), .ref (21 + 8 * i + 4), .int (0 : Int32), .ref (21 + 8 * j + 4)] 2 (fun f => rfl) ?_
  refine zW_acI (n := 200) (sp := 0) (dp := 0) rfl rfl (by have := hi_i; omega) (by have := hi_j; omega) (zh_T (c := 4) hi_j (by decide)) (zh_TU (c := 4) hi_i (by decide)) (by decide) (by decide) (by decide) (by decide) rfl (zu_M4 hi_i) ?_
  refine zW_gh 60 [some (.ref (21 + 8 * i)), some (.ref (21 + 8 * j))] [.ref (21 + 8 * j)] 1 (fun f => rfl) ?_
  refine zW_gf rfl (by have := hi_j; omega) (zh_T0 hi_j) rfl (v := .ref (21 + 8 * j + 5)) rfl ?_
  refine zW_gh 65 [some (.ref (21 + 8 * i)), some (.ref (21 + 8 * j))] [.ref (21 + 8 * i), .int (0 : Int32), .ref (21 + 8 * j + 5)] 2 (fun f => rfl) ?_
  refine zW_gf rfl (by have := hi_i; omega) (zh_TU0 hi_i) rfl (v := .ref (21 + 8 * i + 5)) rfl ?_
  refine zW_gh 72 [some (.ref (21 + 8 * i)), some (.ref (21 + 8 * j))] [.int (200 : Int32), .int (0 : Int32), .ref (21 + 8 * i + 5), .int (0 : Int32), .ref (21 + 8 * j + 5)] 2 (fun f => rfl) ?_
  refine zW_acI (n := 200) (sp := 0) (dp := 0) rfl rfl (by have := hi_i; omega) (by have := hi_j; omega) (zh_T (c := 5) hi_j (by decide)) (zh_TU (c := 5) hi_i (by decide)) (by decide) (by decide) (by decide) (by decide) rfl (zu_M5 hi_i) ?_
  refine zW_gh 76 [some (.ref (21 + 8 * i)), some (.ref (21 + 8 * j))] [.ref (21 + 8 * j)] 1 (fun f => rfl) ?_
  refine zW_gf rfl (by have := hi_j; omega) (zh_T0 hi_j) rfl (v := .ref (21 + 8 * j + 6)) rfl ?_
  refine zW_gh 81 [some (.ref (21 + 8 * i)), some (.ref (21 + 8 * j))] [.ref (21 + 8 * i), .int (0 : Int32), .ref (21 + 8 * j + 6)] 2 (fun f => rfl) ?_
  refine zW_gf rfl (by have := hi_i; omega) (zh_TU0 hi_i) rfl (v := .ref (21 + 8 * i + 6)) rfl ?_
  refine zW_gh 88 [some (.ref (21 + 8 * i)), some (.ref (21 + 8 * j))] [.int (200 : Int32), .int (0 : Int32), .ref (21 + 8 * i + 6), .int (0 : Int32), .ref (21 + 8 * j + 6)] 2 (fun f => rfl) ?_
  refine zW_acI (n := 200) (sp := 0) (dp := 0) rfl rfl (by have := hi_i; omega) (by have := hi_j; omega) (zh_T (c := 6) hi_j (by decide)) (zh_TU (c := 6) hi_i (by decide)) (by decide) (by decide) (by decide) (by decide) rfl (zu_M6 hi_i) ?_
  refine zW_gh 92 [some (.ref (21 + 8 * i)), some (.ref (21 + 8 * j))] [.ref (21 + 8 * j)] 1 (fun f => rfl) ?_
  refine zW_gf rfl (by have := hi_j; omega) (zh_T0 hi_j) rfl (v := .ref (21 + 8 * j + 7)) rfl ?_
  refine zW_gh 97 [some (.ref (21 + 8 * i)), some (.ref (21 + 8 * j))] [.ref (21 + 8 * i), .int (0 : Int32), .ref (21 + 8 * j + 7)] 2 (fun f => rfl) ?_
  refine zW_gf rfl (by have := hi_i; omega) (zh_TU0 hi_i) rfl (v := .ref (21 + 8 * i + 7)) rfl ?_
  refine zW_gh 104 [some (.ref (21 + 8 * i)), some (.ref (21 + 8 * j))] [.int (200 : Int32), .int (0 : Int32), .ref (21 + 8 * i + 7), .int (0 : Int32), .ref (21 + 8 * j + 7)] 2 (fun f => rfl) ?_
  refine zW_acL (n := 200) (sp := 0) (dp := 0) rfl rfl (by have := hi_i; omega) (by have := hi_j; omega) (zh_T (c := 7) hi_j (by decide)) (zh_TU (c := 7) hi_i (by decide)) (by decide) (by decide) (by decide) (by decide) rfl (zu_M7 hi_i) ?_
  exact zW_rh none 1 (fun f => rfl) H
theorem b36 {P : zPt} {T : Nat → zX} {Y : zYt} {I : zIt} {A : zAt} {w : Nat → Int64} {p : Nat × Nat} {Q : zR → zH → Prop} {i j : Nat} (hi_i : i < 6) (H : zT zm_34 [.ref (21 + 8 * i), .ref (21 + 8 * j)] p (zh (P, T, Y) I A w) (zK zm_36 5 [some (.ref (21 + 8 * i)), some (.ref (21 + 8 * j))] [] p Q)) : zT zm_36 [.ref (21 + 8 * i), .ref (21 + 8 * j)] p (zh (P, T, Y) I A w) Q := by
  change zW zm_36 0 [some (.ref (21 + 8 * i)), some (.ref (21 + 8 * j))] [] p _ Q
  refine zW_gh 2 [some (.ref (21 + 8 * i)), some (.ref (21 + 8 * j))] [.ref (21 + 8 * j), .ref (21 + 8 * i)] 2 (fun f => rfl) ?_
  exact zW_cv rfl rfl rfl (by have := hi_i; omega) (zh_T0 hi_i) rfl rfl rfl rfl H
theorem b36_5 {P : zPt} {T : Nat → zX} {Y : zYt} {I : zIt} {A : zAt} {w : Nat → Int64} {p : Nat × Nat} {Q : zR → zH → Prop} {i j : Nat} (hi_j : j < 6) (hi_i : i < 6) (H : zT zm_29 [.ref (21 + 8 * i)] p (zh (P, (va_up T i ((T i).1, (T i).2.1, (T i).2.2.1, (T i).2.2.2.1, (va_cpy (T j).2.2.2.2.1 (T i).2.2.2.2.1 0 0 16), (T i).2.2.2.2.2.1, (T i).2.2.2.2.2.2.1, (T i).2.2.2.2.2.2.2.1, (T i).2.2.2.2.2.2.2.2.1, (T i).2.2.2.2.2.2.2.2.2.1, (T i).2.2.2.2.2.2.2.2.2.2)), Y) I A w) (zK zm_36 24 [none, none] [] p Q)) : zW zm_36 5 [some (.ref (21 + 8 * i)), some (.ref (21 + 8 * j))] [] p (zh (P, T, Y) I A w) Q := by
  refine zW_gh 6 [some (.ref (21 + 8 * i)), some (.ref (21 + 8 * j))] [.ref (21 + 8 * j)] 1 (fun f => rfl) ?_
  refine zW_gf rfl (by have := hi_j; omega) (zh_T0 hi_j) rfl (v := .ref (21 + 8 * j + 1)) rfl ?_
  refine zW_gh 11 [some (.ref (21 + 8 * i)), some (.ref (21 + 8 * j))] [.ref (21 + 8 * i), .int (0 : Int32), .ref (21 + 8 * j + 1)] 2 (fun f => rfl) ?_
  refine zW_gf rfl (by have := hi_i; omega) (zh_T0 hi_i) rfl (v := .ref (21 + 8 * i + 1)) rfl ?_
  refine zW_gh 17 [some (.ref (21 + 8 * i)), some (.ref (21 + 8 * j))] [.int (16 : Int32), .int (0 : Int32), .ref (21 + 8 * i + 1), .int (0 : Int32), .ref (21 + 8 * j + 1)] 2 (fun f => rfl) ?_
  refine zW_acL (n := 16) (sp := 0) (dp := 0) rfl rfl (by have := hi_i; omega) (by have := hi_j; omega) (zh_T (c := 1) hi_j (by decide)) (zh_T (c := 1) hi_i (by decide)) (by decide) (by decide) (by decide) (by decide) rfl (zuF_M1 hi_i) ?_
  refine zW_gh 21 [some (.ref (21 + 8 * i)), some (.ref (21 + 8 * j))] [.ref (21 + 8 * i)] 1 (fun f => rfl) ?_
  refine zW_fg (L' := [none, none]) (zle_n _ (zle_n _ zle_nil)) ?_
  exact zW_cv rfl rfl rfl (by have := hi_i; omega) (zh_TU0 hi_i) rfl rfl rfl rfl H
theorem b36_24 {P : zPt} {T : Nat → zX} {Y : zYt} {I : zIt} {A : zAt} {w : Nat → Int64} {p : Nat × Nat} {Q : zR → zH → Prop} (H : Q (.inl none) (zh (P, T, Y) I A w)) : zW zm_36 24 [none, none] [] p (zh (P, T, Y) I A w) Q := by
  exact zW_rh none 1 (fun f => rfl) H
set_option maxRecDepth 20000 in
theorem b40 {P : zPt} {T : Nat → zX} {Y : zYt} {I : zIt} {A : zAt} {w : Nat → Int64} {p : Nat × Nat} {Q : zR → zH → Prop} {a0 i : Nat} {a1 a2 : Int32} {a3 : Int64} (hi_i : i < 6) (H : (a0 < 2147483648 ∧ ((a0 < 3 → ((zlns (T i) true) < 2147483648 ∧ (4 < 2147483648 ∧ zW zm_40 49 [some (.ref (21 + 8 * i)), none, some (.int a1), some (.int a2), some (.long a3), none, some (.int (0 : Int32)), some (.int (Int32.ofNat a0)), some (.int (Int32.ofNat (Nat.min (zlns (T i) true) 4))), some (.int (Int32.ofNat 0)), none, none, none, none] [] p (zh (P, T, Y) I A w) Q))) ∧ (3 ≤ a0 → (3 ≤ a0 ∧ ((zlns (T i) false) < 2147483648 ∧ (4 < 2147483648 ∧ zW zm_40 49 [some (.ref (21 + 8 * i)), none, some (.int a1), some (.int a2), some (.long a3), none, some (.int (1 : Int32)), some (.int (Int32.ofNat (a0 - 3))), some (.int (Int32.ofNat (Nat.min (zlns (T i) false) 4))), some (.int (Int32.ofNat 0)), none, none, none, none] [] p (zh (P, T, Y) I A w) Q))))))) : zT zm_40 [.ref (21 + 8 * i), .int (Int32.ofNat a0), .int a1, .int a2, .long a3] p (zh (P, T, Y) I A w) Q := by
  change zW zm_40 0 [some (.ref (21 + 8 * i)), some (.int (Int32.ofNat a0)), some (.int a1), some (.int a2), some (.long a3), none, none, none, none, none, none, none, none, none] [] p _ Q
  obtain ⟨h1, H⟩ := H
  refine zW_bh (zcmp .lt (Int32.ofNat a0) (3 : Int32)) 9 5 [some (.ref (21 + 8 * i)), some (.int (Int32.ofNat a0)), some (.int a1), some (.int a2), some (.long a3), none, none, none, none, none, none, none, none, none] [] 3 (fun f => rfl) (fun c => ?_) (fun c => ?_)
  · have c9 : a0 < 3 := (of_decide_eq_true ((zcN_lt (a := a0) (b := 3) rfl rfl h1 (by decide)).symm.trans c))
    replace H := H.1 c9
    refine zW_gh 32 [some (.ref (21 + 8 * i)), some (.int (Int32.ofNat a0)), some (.int a1), some (.int a2), some (.long a3), none, some (.int (0 : Int32)), some (.int (Int32.ofNat a0)), none, none, none, none, none, none] [.ref (21 + 8 * i)] 9 (fun f => rfl) ?_
    refine zW_gh 37 [some (.ref (21 + 8 * i)), some (.int (Int32.ofNat a0)), some (.int a1), some (.int a2), some (.long a3), none, some (.int (0 : Int32)), some (.int (Int32.ofNat a0)), none, none, none, none, none, none] [.int (1 : Int32), .ref (21 + 8 * i)] 2 (fun f => rfl) ?_
    refine zW_cv rfl rfl rfl (by have := hi_i; omega) (zh_T0 hi_i) rfl rfl rfl rfl ((s38 (c := true) hi_i) ?_)
    change zW zm_40 40 [some (.ref (21 + 8 * i)), some (.int (Int32.ofNat a0)), some (.int a1), some (.int a2), some (.long a3), none, some (.int (0 : Int32)), some (.int (Int32.ofNat a0)), none, none, none, none, none, none] [.int (Int32.ofNat (zlns (T i) true))] p _ Q
    refine zW_gh 41 [some (.ref (21 + 8 * i)), some (.int (Int32.ofNat a0)), some (.int a1), some (.int a2), some (.long a3), none, some (.int (0 : Int32)), some (.int (Int32.ofNat a0)), none, none, none, none, none, none] [.int (4 : Int32), .int (Int32.ofNat (zlns (T i) true))] 1 (fun f => rfl) ?_
    obtain ⟨h2, H⟩ := H
    obtain ⟨h3, H⟩ := H
    refine zW_cl rfl rfl rfl rfl rfl ((s279 rfl rfl) h2 h3 ?_)
    change zW zm_40 44 [some (.ref (21 + 8 * i)), some (.int (Int32.ofNat a0)), some (.int a1), some (.int a2), some (.long a3), none, some (.int (0 : Int32)), some (.int (Int32.ofNat a0)), none, none, none, none, none, none] [.int (Int32.ofNat (Nat.min (zlns (T i) true) 4))] p _ Q
    refine zW_gh 49 [some (.ref (21 + 8 * i)), some (.int (Int32.ofNat a0)), some (.int a1), some (.int a2), some (.long a3), none, some (.int (0 : Int32)), some (.int (Int32.ofNat a0)), some (.int (Int32.ofNat (Nat.min (zlns (T i) true) 4))), some (.int (0 : Int32)), none, none, none, none] [] 3 (fun f => rfl) ?_
    refine zW_fg (L' := [some (.ref (21 + 8 * i)), none, some (.int a1), some (.int a2), some (.long a3), none, some (.int (0 : Int32)), some (.int (Int32.ofNat a0)), some (.int (Int32.ofNat (Nat.min (zlns (T i) true) 4))), some (.int (0 : Int32)), none, none, none, none]) (zle_s _ (zle_n _ (zle_s _ (zle_s _ (zle_s _ (zle_s _ (zle_s _ (zle_s _ (zle_s _ (zle_s _ (zle_s _ (zle_s _ (zle_s _ (zle_s _ zle_nil)))))))))))))) ?_
    exact H
  · have c9 : 3 ≤ a0 := (Nat.le_of_not_lt (of_decide_eq_false ((zcN_lt (a := a0) (b := 3) rfl rfl h1 (by decide)).symm.trans c)))
    replace H := H.2 c9
    refine zW_gh 19 [some (.ref (21 + 8 * i)), some (.int (Int32.ofNat a0)), some (.int a1), some (.int a2), some (.long a3), none, some (.int (1 : Int32)), none, none, none, none, none, none, none] [.int (3 : Int32), .int (Int32.ofNat a0)] 7 (fun f => rfl) ?_
    obtain ⟨h4, H⟩ := H
    refine zW_gh 26 [some (.ref (21 + 8 * i)), some (.int (Int32.ofNat a0)), some (.int a1), some (.int a2), some (.long a3), none, some (.int (1 : Int32)), some (.int ((Int32.ofNat a0) - (3 : Int32))), none, none, none, none, none, none] [] 3 (fun f => rfl) ?_
    rw [show ((Int32.ofNat a0) - (3 : Int32)) = Int32.ofNat (a0 - 3) from (zN_sb rfl rfl h4)]
    refine zW_gh 37 [some (.ref (21 + 8 * i)), some (.int (Int32.ofNat a0)), some (.int a1), some (.int a2), some (.long a3), none, some (.int (1 : Int32)), some (.int (Int32.ofNat (a0 - 3))), none, none, none, none, none, none] [.int (0 : Int32), .ref (21 + 8 * i)] 4 (fun f => rfl) ?_
    refine zW_cv rfl rfl rfl (by have := hi_i; omega) (zh_T0 hi_i) rfl rfl rfl rfl ((s38 (c := false) hi_i) ?_)
    change zW zm_40 40 [some (.ref (21 + 8 * i)), some (.int (Int32.ofNat a0)), some (.int a1), some (.int a2), some (.long a3), none, some (.int (1 : Int32)), some (.int (Int32.ofNat (a0 - 3))), none, none, none, none, none, none] [.int (Int32.ofNat (zlns (T i) false))] p _ Q
    refine zW_gh 41 [some (.ref (21 + 8 * i)), some (.int (Int32.ofNat a0)), some (.int a1), some (.int a2), some (.long a3), none, some (.int (1 : Int32)), some (.int (Int32.ofNat (a0 - 3))), none, none, none, none, none, none] [.int (4 : Int32), .int (Int32.ofNat (zlns (T i) false))] 1 (fun f => rfl) ?_
    obtain ⟨h5, H⟩ := H
    obtain ⟨h6, H⟩ := H
    refine zW_cl rfl rfl rfl rfl rfl ((s279 rfl rfl) h5 h6 ?_)
    change zW zm_40 44 [some (.ref (21 + 8 * i)), some (.int (Int32.ofNat a0)), some (.int a1), some (.int a2), some (.long a3), none, some (.int (1 : Int32)), some (.int (Int32.ofNat (a0 - 3))), none, none, none, none, none, none] [.int (Int32.ofNat (Nat.min (zlns (T i) false) 4))] p _ Q
    refine zW_gh 49 [some (.ref (21 + 8 * i)), some (.int (Int32.ofNat a0)), some (.int a1), some (.int a2), some (.long a3), none, some (.int (1 : Int32)), some (.int (Int32.ofNat (a0 - 3))), some (.int (Int32.ofNat (Nat.min (zlns (T i) false) 4))), some (.int (0 : Int32)), none, none, none, none] [] 3 (fun f => rfl) ?_
    refine zW_fg (L' := [some (.ref (21 + 8 * i)), none, some (.int a1), some (.int a2), some (.long a3), none, some (.int (1 : Int32)), some (.int (Int32.ofNat (a0 - 3))), some (.int (Int32.ofNat (Nat.min (zlns (T i) false) 4))), some (.int (0 : Int32)), none, none, none, none]) (zle_s _ (zle_n _ (zle_s _ (zle_s _ (zle_s _ (zle_s _ (zle_s _ (zle_s _ (zle_s _ (zle_s _ (zle_s _ (zle_s _ (zle_s _ (zle_s _ zle_nil)))))))))))))) ?_
    exact H
set_option maxRecDepth 20000 in
theorem b40_49 {P : zPt} {T : Nat → zX} {Y : zYt} {I : zIt} {A : zAt} {w : Nat → Int64} {p : Nat × Nat} {Q : zR → zH → Prop} {x7 x8 x9 i : Nat} {x2 x3 : Int32} {x6 : Bool} {x4 : Int64} (hi_i : i < 6) (H : (x9 < 2147483648 ∧ (x8 < 2147483648 ∧ ((x8 ≤ x9 → zW zm_40 153 [some (.ref (21 + 8 * i)), none, some (.int x2), some (.int x3), none, none, some (.int (zbi x6)), some (.int (Int32.ofNat x7)), some (.int (Int32.ofNat x8)), some (.int (Int32.ofNat 0)), none, none, none, none] [] p (zh (P, T, Y) I A w) Q) ∧ (x9 < x8 → (zXb (T i) ∧ (zXb (T i) ∧ (x7 < 2147483648 ∧ ((¬ x7 = 1 → ((¬ x7 = 2 → (x9 < 4 ∧ zW zm_40 49 [some (.ref (21 + 8 * i)), none, some (.int x2), some (.int x3), some (.long x4), none, some (.int (zbi x6)), some (.int (Int32.ofNat x7)), some (.int (Int32.ofNat x8)), some (.int (Int32.ofNat (x9 + 1))), none, none, none, none] [] p (zh (P, (va_up T i ((T i).1, (T i).2.1, (T i).2.2.1, (T i).2.2.2.1, (T i).2.2.2.2.1, (T i).2.2.2.2.2.1, (va_up (T i).2.2.2.2.2.2.1 x9 (zxal (T i) x6 x3 (Int32.ofNat x9))), (T i).2.2.2.2.2.2.2.1, (T i).2.2.2.2.2.2.2.2.1, (T i).2.2.2.2.2.2.2.2.2.1, (T i).2.2.2.2.2.2.2.2.2.2)), Y) I A w) Q)) ∧ (x7 = 2 → zT (zrm ((T i).1) zm_17 zm_2 zm_60) [.ref (zra ((T i).1)), .long (0 : Int64), .long x4, .long (zxal (T i) x6 x2 (Int32.ofNat x9))] p (zh (P, T, Y) I A w) (zK zm_40 131 [some (.ref (21 + 8 * i)), none, some (.int x2), some (.int x3), some (.long x4), none, some (.int (zbi x6)), some (.int (Int32.ofNat x7)), some (.int (Int32.ofNat x8)), some (.int (Int32.ofNat x9)), none, none, none, none] [.int (Int32.ofNat x9), .ref (21 + 8 * i + 3)] p Q)))) ∧ (x7 = 1 → zT (zrm ((T i).1) zm_17 zm_2 zm_60) [.ref (zra ((T i).1)), .long (zxal (T i) x6 x2 (Int32.ofNat x9)), .long x4, .long (zxal (T i) x6 x3 (Int32.ofNat x9))] p (zh (P, T, Y) I A w) (zK zm_40 103 [some (.ref (21 + 8 * i)), none, some (.int x2), some (.int x3), some (.long x4), none, some (.int (zbi x6)), some (.int (Int32.ofNat x7)), some (.int (Int32.ofNat x8)), some (.int (Int32.ofNat x9)), none, none, none, none] [.int (Int32.ofNat x9), .ref (21 + 8 * i + 3)] p Q))))))))))) : zW zm_40 49 [some (.ref (21 + 8 * i)), none, some (.int x2), some (.int x3), some (.long x4), none, some (.int (zbi x6)), some (.int (Int32.ofNat x7)), some (.int (Int32.ofNat x8)), some (.int (Int32.ofNat x9)), none, none, none, none] [] p (zh (P, T, Y) I A w) Q := by
  obtain ⟨h1, H⟩ := H
  obtain ⟨h2, H⟩ := H
  refine zW_bh (zcmp .ge (Int32.ofNat x9) (Int32.ofNat x8)) 150 56 [some (.ref (21 + 8 * i)), none, some (.int x2), some (.int x3), some (.long x4), none, some (.int (zbi x6)), some (.int (Int32.ofNat x7)), some (.int (Int32.ofNat x8)), some (.int (Int32.ofNat x9)), none, none, none, none] [] 3 (fun f => rfl) (fun c => ?_) (fun c => ?_)
  · have c9 : x8 ≤ x9 := (of_decide_eq_true ((zcN_ge (a := x9) (b := x8) rfl rfl h1 h2).symm.trans c))
    replace H := H.1 c9
    refine zW_gh 153 [some (.ref (21 + 8 * i)), none, some (.int x2), some (.int x3), some (.long x4), none, some (.int (zbi x6)), some (.int (Int32.ofNat x7)), some (.int (Int32.ofNat x8)), some (.int (0 : Int32)), none, none, none, none] [] 2 (fun f => rfl) ?_
    refine zW_fg (L' := [some (.ref (21 + 8 * i)), none, some (.int x2), some (.int x3), none, none, some (.int (zbi x6)), some (.int (Int32.ofNat x7)), some (.int (Int32.ofNat x8)), some (.int (0 : Int32)), none, none, none, none]) (zle_s _ (zle_s _ (zle_s _ (zle_s _ (zle_n _ (zle_s _ (zle_s _ (zle_s _ (zle_s _ (zle_s _ (zle_s _ (zle_s _ (zle_s _ (zle_s _ zle_nil)))))))))))))) ?_
    exact H
  · have c9 : x9 < x8 := (Nat.lt_of_not_le (of_decide_eq_false ((zcN_ge (a := x9) (b := x8) rfl rfl h1 h2).symm.trans c)))
    replace H := H.2 c9
    refine zW_gh 62 [some (.ref (21 + 8 * i)), none, some (.int x2), some (.int x3), some (.long x4), none, some (.int (zbi x6)), some (.int (Int32.ofNat x7)), some (.int (Int32.ofNat x8)), some (.int (Int32.ofNat x9)), none, none, none, none] [.int (Int32.ofNat x9), .int x2, .int (zbi x6), .ref (21 + 8 * i)] 4 (fun f => rfl) ?_
    obtain ⟨h3, H⟩ := H
    refine zW_cv rfl rfl rfl (by have := hi_i; omega) (zh_T0 hi_i) rfl rfl rfl rfl ((s41 (c := x6) hi_i) h3 ?_)
    change zW zm_40 65 [some (.ref (21 + 8 * i)), none, some (.int x2), some (.int x3), some (.long x4), none, some (.int (zbi x6)), some (.int (Int32.ofNat x7)), some (.int (Int32.ofNat x8)), some (.int (Int32.ofNat x9)), none, none, none, none] [.long (zxal (T i) x6 x2 (Int32.ofNat x9))] p _ Q
    generalize (zxal (T i) x6 x2 (Int32.ofNat x9)) = g4 at H ⊢
    refine zW_gh 73 [some (.ref (21 + 8 * i)), none, some (.int x2), some (.int x3), some (.long x4), none, some (.int (zbi x6)), some (.int (Int32.ofNat x7)), some (.int (Int32.ofNat x8)), some (.int (Int32.ofNat x9)), some (.long g4), none, none, none] [.int (Int32.ofNat x9), .int x3, .int (zbi x6), .ref (21 + 8 * i)] 5 (fun f => rfl) ?_
    obtain ⟨h5, H⟩ := H
    refine zW_cv rfl rfl rfl (by have := hi_i; omega) (zh_T0 hi_i) rfl rfl rfl rfl ((s41 (c := x6) hi_i) h5 ?_)
    change zW zm_40 76 [some (.ref (21 + 8 * i)), none, some (.int x2), some (.int x3), some (.long x4), none, some (.int (zbi x6)), some (.int (Int32.ofNat x7)), some (.int (Int32.ofNat x8)), some (.int (Int32.ofNat x9)), some (.long g4), none, none, none] [.long (zxal (T i) x6 x3 (Int32.ofNat x9))] p _ Q
    generalize (zxal (T i) x6 x3 (Int32.ofNat x9)) = g6 at H ⊢
    obtain ⟨h7, H⟩ := H
    refine zW_bh (zcmp .ne (Int32.ofNat x7) (1 : Int32)) 107 84 [some (.ref (21 + 8 * i)), none, some (.int x2), some (.int x3), some (.long x4), none, some (.int (zbi x6)), some (.int (Int32.ofNat x7)), some (.int (Int32.ofNat x8)), some (.int (Int32.ofNat x9)), some (.long g4), none, some (.long g6), none] [] 4 (fun f => rfl) (fun c => ?_) (fun c => ?_)
    · have c9 : ¬ x7 = 1 := (by have c := (zcN_ne (a := x7) (b := 1) rfl rfl h7 (by decide)).symm.trans c; simpa using c)
      replace H := H.1 c9
      refine zW_bh (zcmp .ne (Int32.ofNat x7) (2 : Int32)) 135 113 [some (.ref (21 + 8 * i)), none, some (.int x2), some (.int x3), some (.long x4), none, some (.int (zbi x6)), some (.int (Int32.ofNat x7)), some (.int (Int32.ofNat x8)), some (.int (Int32.ofNat x9)), some (.long g4), none, some (.long g6), none] [] 3 (fun f => rfl) (fun c => ?_) (fun c => ?_)
      · have c9 : ¬ x7 = 2 := (by have c := (zcN_ne (a := x7) (b := 2) rfl rfl h7 (by decide)).symm.trans c; simpa using c)
        replace H := H.1 c9
        refine zW_gh 136 [some (.ref (21 + 8 * i)), none, some (.int x2), some (.int x3), some (.long x4), none, some (.int (zbi x6)), some (.int (Int32.ofNat x7)), some (.int (Int32.ofNat x8)), some (.int (Int32.ofNat x9)), some (.long g4), none, some (.long g6), none] [.ref (21 + 8 * i)] 1 (fun f => rfl) ?_
        refine zW_gf rfl (by have := hi_i; omega) (zh_T0 hi_i) rfl (v := .ref (21 + 8 * i + 3)) rfl ?_
        refine zW_gh 143 [some (.ref (21 + 8 * i)), none, some (.int x2), some (.int x3), some (.long x4), none, some (.int (zbi x6)), some (.int (Int32.ofNat x7)), some (.int (Int32.ofNat x8)), some (.int (Int32.ofNat x9)), some (.long g4), none, some (.long g6), none] [.long g6, .int (Int32.ofNat x9), .ref (21 + 8 * i + 3)] 2 (fun f => rfl) ?_
        obtain ⟨h8, H⟩ := H
        refine zW_last rfl (by have := hi_i; omega) (zh_T (c := 3) hi_i (by decide)) (by decide) (zuF_M3 hi_i) rfl h8 ?_
        refine zW_inc [some (.ref (21 + 8 * i)), none, some (.int x2), some (.int x3), some (.long x4), none, some (.int (zbi x6)), some (.int (Int32.ofNat x7)), some (.int (Int32.ofNat x8)), some (.int ((Int32.ofNat x9) + (1 : Int32))), some (.long g4), none, some (.long g6), none] rfl rfl rfl ?_
        rw [show ((Int32.ofNat x9) + (1 : Int32)) = Int32.ofNat (x9 + 1) from (zN_a rfl rfl)]
        refine zW_gh 49 [some (.ref (21 + 8 * i)), none, some (.int x2), some (.int x3), some (.long x4), none, some (.int (zbi x6)), some (.int (Int32.ofNat x7)), some (.int (Int32.ofNat x8)), some (.int (Int32.ofNat (x9 + 1))), some (.long g4), none, some (.long g6), none] [] 1 (fun f => rfl) ?_
        refine zW_fg (L' := [some (.ref (21 + 8 * i)), none, some (.int x2), some (.int x3), some (.long x4), none, some (.int (zbi x6)), some (.int (Int32.ofNat x7)), some (.int (Int32.ofNat x8)), some (.int (Int32.ofNat (x9 + 1))), none, none, none, none]) (zle_s _ (zle_s _ (zle_s _ (zle_s _ (zle_s _ (zle_s _ (zle_s _ (zle_s _ (zle_s _ (zle_s _ (zle_n _ (zle_s _ (zle_n _ (zle_s _ zle_nil)))))))))))))) ?_
        exact H
      · have c9 : x7 = 2 := (by have c := (zcN_ne (a := x7) (b := 2) rfl rfl h7 (by decide)).symm.trans c; simpa using c)
        replace H := H.2 c9
        refine zW_gh 114 [some (.ref (21 + 8 * i)), none, some (.int x2), some (.int x3), some (.long x4), none, some (.int (zbi x6)), some (.int (Int32.ofNat x7)), some (.int (Int32.ofNat x8)), some (.int (Int32.ofNat x9)), some (.long g4), none, some (.long g6), none] [.ref (21 + 8 * i)] 1 (fun f => rfl) ?_
        refine zW_gf rfl (by have := hi_i; omega) (zh_T0 hi_i) rfl (v := .ref (21 + 8 * i + 3)) rfl ?_
        refine zW_gh 120 [some (.ref (21 + 8 * i)), none, some (.int x2), some (.int x3), some (.long x4), none, some (.int (zbi x6)), some (.int (Int32.ofNat x7)), some (.int (Int32.ofNat x8)), some (.int (Int32.ofNat x9)), some (.long g4), none, some (.long g6), none] [.ref (21 + 8 * i), .int (Int32.ofNat x9), .ref (21 + 8 * i + 3)] 2 (fun f => rfl) ?_
        refine zW_gf rfl (by have := hi_i; omega) (zh_T0 hi_i) rfl (v := .ref (zra ((T i).1))) rfl ?_
        refine zW_gh 128 [some (.ref (21 + 8 * i)), none, some (.int x2), some (.int x3), some (.long x4), none, some (.int (zbi x6)), some (.int (Int32.ofNat x7)), some (.int (Int32.ofNat x8)), some (.int (Int32.ofNat x9)), some (.long g4), none, some (.long g6), none] [.long g4, .long x4, .long (0 : Int64), .ref (zra ((T i).1)), .int (Int32.ofNat x9), .ref (21 + 8 * i + 3)] 3 (fun f => rfl) ?_
        refine zW_fg (L' := [some (.ref (21 + 8 * i)), none, some (.int x2), some (.int x3), some (.long x4), none, some (.int (zbi x6)), some (.int (Int32.ofNat x7)), some (.int (Int32.ofNat x8)), some (.int (Int32.ofNat x9)), none, none, none, none]) (zle_s _ (zle_s _ (zle_s _ (zle_s _ (zle_s _ (zle_s _ (zle_s _ (zle_s _ (zle_s _ (zle_s _ (zle_n _ (zle_s _ (zle_n _ (zle_s _ zle_nil)))))))))))))) ?_
        exact zW_cr rfl rfl rfl rfl rfl rfl rfl rfl rfl rfl rfl rfl rfl H
    · have c9 : x7 = 1 := (by have c := (zcN_ne (a := x7) (b := 1) rfl rfl h7 (by decide)).symm.trans c; simpa using c)
      replace H := H.2 c9
      refine zW_gh 85 [some (.ref (21 + 8 * i)), none, some (.int x2), some (.int x3), some (.long x4), none, some (.int (zbi x6)), some (.int (Int32.ofNat x7)), some (.int (Int32.ofNat x8)), some (.int (Int32.ofNat x9)), some (.long g4), none, some (.long g6), none] [.ref (21 + 8 * i)] 1 (fun f => rfl) ?_
      refine zW_gf rfl (by have := hi_i; omega) (zh_T0 hi_i) rfl (v := .ref (21 + 8 * i + 3)) rfl ?_
      refine zW_gh 91 [some (.ref (21 + 8 * i)), none, some (.int x2), some (.int x3), some (.long x4), none, some (.int (zbi x6)), some (.int (Int32.ofNat x7)), some (.int (Int32.ofNat x8)), some (.int (Int32.ofNat x9)), some (.long g4), none, some (.long g6), none] [.ref (21 + 8 * i), .int (Int32.ofNat x9), .ref (21 + 8 * i + 3)] 2 (fun f => rfl) ?_
      refine zW_gf rfl (by have := hi_i; omega) (zh_T0 hi_i) rfl (v := .ref (zra ((T i).1))) rfl ?_
      refine zW_gh 100 [some (.ref (21 + 8 * i)), none, some (.int x2), some (.int x3), some (.long x4), none, some (.int (zbi x6)), some (.int (Int32.ofNat x7)), some (.int (Int32.ofNat x8)), some (.int (Int32.ofNat x9)), some (.long g4), none, some (.long g6), none] [.long g6, .long x4, .long g4, .ref (zra ((T i).1)), .int (Int32.ofNat x9), .ref (21 + 8 * i + 3)] 3 (fun f => rfl) ?_
      refine zW_fg (L' := [some (.ref (21 + 8 * i)), none, some (.int x2), some (.int x3), some (.long x4), none, some (.int (zbi x6)), some (.int (Int32.ofNat x7)), some (.int (Int32.ofNat x8)), some (.int (Int32.ofNat x9)), none, none, none, none]) (zle_s _ (zle_s _ (zle_s _ (zle_s _ (zle_s _ (zle_s _ (zle_s _ (zle_s _ (zle_s _ (zle_s _ (zle_n _ (zle_s _ (zle_n _ (zle_s _ zle_nil)))))))))))))) ?_
      exact zW_cr rfl rfl rfl rfl rfl rfl rfl rfl rfl rfl rfl rfl rfl H
set_option maxRecDepth 20000 in
theorem b40_153 {P : zPt} {T : Nat → zX} {Y : zYt} {I : zIt} {A : zAt} {w : Nat → Int64} {p : Nat × Nat} {Q : zR → zH → Prop} {x7 x8 x9 i : Nat} {x2 x3 : Int32} {x6 : Bool} (hi_i : i < 6) (H : (x9 < 2147483648 ∧ (x8 < 2147483648 ∧ ((x8 ≤ x9 → Q (.inl none) (zh (P, T, Y) I A w)) ∧ (x9 < x8 → (x7 < 2147483648 ∧ ((¬ x7 = 0 → (x9 < 4 ∧ zT zm_42 [.ref (21 + 8 * i), .int (zbi x6), .int x2, .int (Int32.ofNat x9), .long ((T i).2.2.2.2.2.2.1 x9)] p (zh (P, T, Y) I A w) (zK zm_40 199 [some (.ref (21 + 8 * i)), none, some (.int x2), some (.int x3), none, none, some (.int (zbi x6)), some (.int (Int32.ofNat x7)), some (.int (Int32.ofNat x8)), some (.int (Int32.ofNat x9)), none, none, none, none] [] p Q))) ∧ (x7 = 0 → (zXb (T i) ∧ zT zm_42 [.ref (21 + 8 * i), .int (zbi x6), .int x3, .int (Int32.ofNat x9), .long (zxal (T i) x6 x2 (Int32.ofNat x9))] p (zh (P, T, Y) I A w) (zK zm_40 183 [some (.ref (21 + 8 * i)), none, some (.int x2), some (.int x3), none, none, some (.int (zbi x6)), some (.int (Int32.ofNat x7)), some (.int (Int32.ofNat x8)), some (.int (Int32.ofNat x9)), none, none, none, none] [] p Q)))))))))) : zW zm_40 153 [some (.ref (21 + 8 * i)), none, some (.int x2), some (.int x3), none, none, some (.int (zbi x6)), some (.int (Int32.ofNat x7)), some (.int (Int32.ofNat x8)), some (.int (Int32.ofNat x9)), none, none, none, none] [] p (zh (P, T, Y) I A w) Q := by
  obtain ⟨h1, H⟩ := H
  obtain ⟨h2, H⟩ := H
  refine zW_bh (zcmp .ge (Int32.ofNat x9) (Int32.ofNat x8)) 205 160 [some (.ref (21 + 8 * i)), none, some (.int x2), some (.int x3), none, none, some (.int (zbi x6)), some (.int (Int32.ofNat x7)), some (.int (Int32.ofNat x8)), some (.int (Int32.ofNat x9)), none, none, none, none] [] 3 (fun f => rfl) (fun c => ?_) (fun c => ?_)
  · have c9 : x8 ≤ x9 := (of_decide_eq_true ((zcN_ge (a := x9) (b := x8) rfl rfl h1 h2).symm.trans c))
    replace H := H.1 c9
    exact zW_rh none 1 (fun f => rfl) H
  · have c9 : x9 < x8 := (Nat.lt_of_not_le (of_decide_eq_false ((zcN_ge (a := x9) (b := x8) rfl rfl h1 h2).symm.trans c)))
    replace H := H.2 c9
    obtain ⟨h3, H⟩ := H
    refine zW_bh (zcmp .ne (Int32.ofNat x7) (0 : Int32)) 183 165 [some (.ref (21 + 8 * i)), none, some (.int x2), some (.int x3), none, none, some (.int (zbi x6)), some (.int (Int32.ofNat x7)), some (.int (Int32.ofNat x8)), some (.int (Int32.ofNat x9)), none, none, none, none] [] 2 (fun f => rfl) (fun c => ?_) (fun c => ?_)
    · have c9 : ¬ x7 = 0 := (by have c := (zcN_ne (a := x7) (b := 0) rfl rfl h3 (by decide)).symm.trans c; simpa using c)
      replace H := H.1 c9
      refine zW_gh 190 [some (.ref (21 + 8 * i)), none, some (.int x2), some (.int x3), none, none, some (.int (zbi x6)), some (.int (Int32.ofNat x7)), some (.int (Int32.ofNat x8)), some (.int (Int32.ofNat x9)), none, none, none, none] [.ref (21 + 8 * i), .int (Int32.ofNat x9), .int x2, .int (zbi x6), .ref (21 + 8 * i)] 5 (fun f => rfl) ?_
      refine zW_gf rfl (by have := hi_i; omega) (zh_T0 hi_i) rfl (v := .ref (21 + 8 * i + 3)) rfl ?_
      refine zW_gh 195 [some (.ref (21 + 8 * i)), none, some (.int x2), some (.int x3), none, none, some (.int (zbi x6)), some (.int (Int32.ofNat x7)), some (.int (Int32.ofNat x8)), some (.int (Int32.ofNat x9)), none, none, none, none] [.int (Int32.ofNat x9), .ref (21 + 8 * i + 3), .int (Int32.ofNat x9), .int x2, .int (zbi x6), .ref (21 + 8 * i)] 1 (fun f => rfl) ?_
      obtain ⟨h4, H⟩ := H
      refine zW_lald rfl (by have := hi_i; omega) (zh_T (c := 3) hi_i (by decide)) (by decide) rfl h4 ?_
      exact zW_cv rfl rfl rfl (by have := hi_i; omega) (zh_T0 hi_i) rfl rfl rfl rfl H
    · have c9 : x7 = 0 := (by have c := (zcN_ne (a := x7) (b := 0) rfl rfl h3 (by decide)).symm.trans c; simpa using c)
      replace H := H.2 c9
      refine zW_gh 177 [some (.ref (21 + 8 * i)), none, some (.int x2), some (.int x3), none, none, some (.int (zbi x6)), some (.int (Int32.ofNat x7)), some (.int (Int32.ofNat x8)), some (.int (Int32.ofNat x9)), none, none, none, none] [.int (Int32.ofNat x9), .int x2, .int (zbi x6), .ref (21 + 8 * i), .int (Int32.ofNat x9), .int x3, .int (zbi x6), .ref (21 + 8 * i)] 8 (fun f => rfl) ?_
      obtain ⟨h5, H⟩ := H
      refine zW_cv rfl rfl rfl (by have := hi_i; omega) (zh_T0 hi_i) rfl rfl rfl rfl ((s41 (c := x6) hi_i) h5 ?_)
      change zW zm_40 180 [some (.ref (21 + 8 * i)), none, some (.int x2), some (.int x3), none, none, some (.int (zbi x6)), some (.int (Int32.ofNat x7)), some (.int (Int32.ofNat x8)), some (.int (Int32.ofNat x9)), none, none, none, none] [.long (zxal (T i) x6 x2 (Int32.ofNat x9)), .int (Int32.ofNat x9), .int x3, .int (zbi x6), .ref (21 + 8 * i)] p _ Q
      generalize (zxal (T i) x6 x2 (Int32.ofNat x9)) = g6 at H ⊢
      exact zW_cv rfl rfl rfl (by have := hi_i; omega) (zh_T0 hi_i) rfl rfl rfl rfl H
set_option maxRecDepth 20000 in
theorem b40_131 {P : zPt} {T : Nat → zX} {Y : zYt} {I : zIt} {A : zAt} {w : Nat → Int64} {p : Nat × Nat} {Q : zR → zH → Prop} {x7 x8 x9 s0 i : Nat} {x2 x3 : Int32} {x6 : Bool} {x4 rv : Int64} (hi_i : i < 6) (H : (s0 < 4 ∧ zW zm_40 49 [some (.ref (21 + 8 * i)), none, some (.int x2), some (.int x3), some (.long x4), none, some (.int (zbi x6)), some (.int (Int32.ofNat x7)), some (.int (Int32.ofNat x8)), some (.int (Int32.ofNat (x9 + 1))), none, none, none, none] [] p (zh (P, (va_up T i ((T i).1, (T i).2.1, (T i).2.2.1, (T i).2.2.2.1, (T i).2.2.2.2.1, (T i).2.2.2.2.2.1, (va_up (T i).2.2.2.2.2.2.1 s0 rv), (T i).2.2.2.2.2.2.2.1, (T i).2.2.2.2.2.2.2.2.1, (T i).2.2.2.2.2.2.2.2.2.1, (T i).2.2.2.2.2.2.2.2.2.2)), Y) I A w) Q)) : zW zm_40 131 [some (.ref (21 + 8 * i)), none, some (.int x2), some (.int x3), some (.long x4), none, some (.int (zbi x6)), some (.int (Int32.ofNat x7)), some (.int (Int32.ofNat x8)), some (.int (Int32.ofNat x9)), none, none, none, none] [.long rv, .int (Int32.ofNat s0), .ref (21 + 8 * i + 3)] p (zh (P, T, Y) I A w) Q := by
  obtain ⟨h1, H⟩ := H
  refine zW_last rfl (by have := hi_i; omega) (zh_T (c := 3) hi_i (by decide)) (by decide) (zuF_M3 hi_i) rfl h1 ?_
  refine zW_gh 144 [some (.ref (21 + 8 * i)), none, some (.int x2), some (.int x3), some (.long x4), none, some (.int (zbi x6)), some (.int (Int32.ofNat x7)), some (.int (Int32.ofNat x8)), some (.int (Int32.ofNat x9)), none, none, none, none] [] 1 (fun f => rfl) ?_
  refine zW_inc [some (.ref (21 + 8 * i)), none, some (.int x2), some (.int x3), some (.long x4), none, some (.int (zbi x6)), some (.int (Int32.ofNat x7)), some (.int (Int32.ofNat x8)), some (.int ((Int32.ofNat x9) + (1 : Int32))), none, none, none, none] rfl rfl rfl ?_
  rw [show ((Int32.ofNat x9) + (1 : Int32)) = Int32.ofNat (x9 + 1) from (zN_a rfl rfl)]
  refine zW_gh 49 [some (.ref (21 + 8 * i)), none, some (.int x2), some (.int x3), some (.long x4), none, some (.int (zbi x6)), some (.int (Int32.ofNat x7)), some (.int (Int32.ofNat x8)), some (.int (Int32.ofNat (x9 + 1))), none, none, none, none] [] 1 (fun f => rfl) ?_
  exact H
set_option maxRecDepth 20000 in
theorem b40_103 {P : zPt} {T : Nat → zX} {Y : zYt} {I : zIt} {A : zAt} {w : Nat → Int64} {p : Nat × Nat} {Q : zR → zH → Prop} {x7 x8 x9 s0 i : Nat} {x2 x3 : Int32} {x6 : Bool} {x4 rv : Int64} (hi_i : i < 6) (H : (s0 < 4 ∧ zW zm_40 49 [some (.ref (21 + 8 * i)), none, some (.int x2), some (.int x3), some (.long x4), none, some (.int (zbi x6)), some (.int (Int32.ofNat x7)), some (.int (Int32.ofNat x8)), some (.int (Int32.ofNat (x9 + 1))), none, none, none, none] [] p (zh (P, (va_up T i ((T i).1, (T i).2.1, (T i).2.2.1, (T i).2.2.2.1, (T i).2.2.2.2.1, (T i).2.2.2.2.2.1, (va_up (T i).2.2.2.2.2.2.1 s0 rv), (T i).2.2.2.2.2.2.2.1, (T i).2.2.2.2.2.2.2.2.1, (T i).2.2.2.2.2.2.2.2.2.1, (T i).2.2.2.2.2.2.2.2.2.2)), Y) I A w) Q)) : zW zm_40 103 [some (.ref (21 + 8 * i)), none, some (.int x2), some (.int x3), some (.long x4), none, some (.int (zbi x6)), some (.int (Int32.ofNat x7)), some (.int (Int32.ofNat x8)), some (.int (Int32.ofNat x9)), none, none, none, none] [.long rv, .int (Int32.ofNat s0), .ref (21 + 8 * i + 3)] p (zh (P, T, Y) I A w) Q := by
  obtain ⟨h1, H⟩ := H
  refine zW_last rfl (by have := hi_i; omega) (zh_T (c := 3) hi_i (by decide)) (by decide) (zuF_M3 hi_i) rfl h1 ?_
  refine zW_gh 144 [some (.ref (21 + 8 * i)), none, some (.int x2), some (.int x3), some (.long x4), none, some (.int (zbi x6)), some (.int (Int32.ofNat x7)), some (.int (Int32.ofNat x8)), some (.int (Int32.ofNat x9)), none, none, none, none] [] 1 (fun f => rfl) ?_
  refine zW_inc [some (.ref (21 + 8 * i)), none, some (.int x2), some (.int x3), some (.long x4), none, some (.int (zbi x6)), some (.int (Int32.ofNat x7)), some (.int (Int32.ofNat x8)), some (.int ((Int32.ofNat x9) + (1 : Int32))), none, none, none, none] rfl rfl rfl ?_
  rw [show ((Int32.ofNat x9) + (1 : Int32)) = Int32.ofNat (x9 + 1) from (zN_a rfl rfl)]
  refine zW_gh 49 [some (.ref (21 + 8 * i)), none, some (.int x2), some (.int x3), some (.long x4), none, some (.int (zbi x6)), some (.int (Int32.ofNat x7)), some (.int (Int32.ofNat x8)), some (.int (Int32.ofNat (x9 + 1))), none, none, none, none] [] 1 (fun f => rfl) ?_
  exact H
set_option maxRecDepth 20000 in
theorem b40_199 {P : zPt} {T : Nat → zX} {Y : zYt} {I : zIt} {A : zAt} {w : Nat → Int64} {p : Nat × Nat} {Q : zR → zH → Prop} {x7 x8 x9 i : Nat} {x2 x3 : Int32} {x6 : Bool} (H : zW zm_40 153 [some (.ref (21 + 8 * i)), none, some (.int x2), some (.int x3), none, none, some (.int (zbi x6)), some (.int (Int32.ofNat x7)), some (.int (Int32.ofNat x8)), some (.int (Int32.ofNat (x9 + 1))), none, none, none, none] [] p (zh (P, T, Y) I A w) Q) : zW zm_40 199 [some (.ref (21 + 8 * i)), none, some (.int x2), some (.int x3), none, none, some (.int (zbi x6)), some (.int (Int32.ofNat x7)), some (.int (Int32.ofNat x8)), some (.int (Int32.ofNat x9)), none, none, none, none] [] p (zh (P, T, Y) I A w) Q := by
  refine zW_inc [some (.ref (21 + 8 * i)), none, some (.int x2), some (.int x3), none, none, some (.int (zbi x6)), some (.int (Int32.ofNat x7)), some (.int (Int32.ofNat x8)), some (.int ((Int32.ofNat x9) + (1 : Int32))), none, none, none, none] rfl rfl rfl ?_
  rw [show ((Int32.ofNat x9) + (1 : Int32)) = Int32.ofNat (x9 + 1) from (zN_a rfl rfl)]
  refine zW_gh 153 [some (.ref (21 + 8 * i)), none, some (.int x2), some (.int x3), none, none, some (.int (zbi x6)), some (.int (Int32.ofNat x7)), some (.int (Int32.ofNat x8)), some (.int (Int32.ofNat (x9 + 1))), none, none, none, none] [] 1 (fun f => rfl) ?_
  exact H
set_option maxRecDepth 20000 in
theorem b40_183 {P : zPt} {T : Nat → zX} {Y : zYt} {I : zIt} {A : zAt} {w : Nat → Int64} {p : Nat × Nat} {Q : zR → zH → Prop} {x7 x8 x9 i : Nat} {x2 x3 : Int32} {x6 : Bool} (hi_i : i < 6) (H : (x9 < 4 ∧ zT zm_42 [.ref (21 + 8 * i), .int (zbi x6), .int x2, .int (Int32.ofNat x9), .long ((T i).2.2.2.2.2.2.1 x9)] p (zh (P, T, Y) I A w) (zK zm_40 199 [some (.ref (21 + 8 * i)), none, some (.int x2), some (.int x3), none, none, some (.int (zbi x6)), some (.int (Int32.ofNat x7)), some (.int (Int32.ofNat x8)), some (.int (Int32.ofNat x9)), none, none, none, none] [] p Q))) : zW zm_40 183 [some (.ref (21 + 8 * i)), none, some (.int x2), some (.int x3), none, none, some (.int (zbi x6)), some (.int (Int32.ofNat x7)), some (.int (Int32.ofNat x8)), some (.int (Int32.ofNat x9)), none, none, none, none] [] p (zh (P, T, Y) I A w) Q := by
  refine zW_gh 190 [some (.ref (21 + 8 * i)), none, some (.int x2), some (.int x3), none, none, some (.int (zbi x6)), some (.int (Int32.ofNat x7)), some (.int (Int32.ofNat x8)), some (.int (Int32.ofNat x9)), none, none, none, none] [.ref (21 + 8 * i), .int (Int32.ofNat x9), .int x2, .int (zbi x6), .ref (21 + 8 * i)] 5 (fun f => rfl) ?_
  refine zW_gf rfl (by have := hi_i; omega) (zh_T0 hi_i) rfl (v := .ref (21 + 8 * i + 3)) rfl ?_
  refine zW_gh 195 [some (.ref (21 + 8 * i)), none, some (.int x2), some (.int x3), none, none, some (.int (zbi x6)), some (.int (Int32.ofNat x7)), some (.int (Int32.ofNat x8)), some (.int (Int32.ofNat x9)), none, none, none, none] [.int (Int32.ofNat x9), .ref (21 + 8 * i + 3), .int (Int32.ofNat x9), .int x2, .int (zbi x6), .ref (21 + 8 * i)] 1 (fun f => rfl) ?_
  obtain ⟨h1, H⟩ := H
  refine zW_lald rfl (by have := hi_i; omega) (zh_T (c := 3) hi_i (by decide)) (by decide) rfl h1 ?_
  exact zW_cv rfl rfl rfl (by have := hi_i; omega) (zh_T0 hi_i) rfl rfl rfl rfl H
theorem b39 {P : zPt} {T : Nat → zX} {Y : zYt} {I : zIt} {A : zAt} {w : Nat → Int64} {p : Nat × Nat} {Q : zR → zH → Prop} {i : Nat} {a0 a1 a2 : Int32} {a3 : Int64} (hi_i : i < 6) (H : ((T i).2.2.2.1 < 2147483648 ∧ (((T i).2.2.2.1 < 200 → zT zm_40 [.ref (21 + 8 * i), .int a0, .int a1, .int a2, .long a3] p (zh (P, T, Y) I A w) (zK zm_39 29 [some (.ref (21 + 8 * i)), some (.int a0), some (.int a1), some (.int a2), some (.long a3), none] [] p Q)) ∧ (200 ≤ (T i).2.2.2.1 → Q (.inr 3) (zh (P, T, Y) I A w))))) : zT zm_39 [.ref (21 + 8 * i), .int a0, .int a1, .int a2, .long a3] p (zh (P, T, Y) I A w) Q := by
  change zW zm_39 0 [some (.ref (21 + 8 * i)), some (.int a0), some (.int a1), some (.int a2), some (.long a3), none] [] p _ Q
  refine zW_gh 1 [some (.ref (21 + 8 * i)), some (.int a0), some (.int a1), some (.int a2), some (.long a3), none] [.ref (21 + 8 * i)] 1 (fun f => rfl) ?_
  refine zW_gf rfl (by have := hi_i; omega) (zh_T0 hi_i) rfl (v := .int (Int32.ofNat ((T i).2.2.2.1))) rfl ?_
  obtain ⟨h1, H⟩ := H
  refine zW_bh (zcmp .lt (Int32.ofNat ((T i).2.2.2.1)) (200 : Int32)) 20 10 [some (.ref (21 + 8 * i)), some (.int a0), some (.int a1), some (.int a2), some (.long a3), none] [] 2 (fun f => rfl) (fun c => ?_) (fun c => ?_)
  · have c9 : (T i).2.2.2.1 < 200 := (of_decide_eq_true ((zcN_lt (a := (T i).2.2.2.1) (b := 200) rfl rfl h1 (by decide)).symm.trans c))
    replace H := H.1 c9
    refine zW_gh 26 [some (.ref (21 + 8 * i)), some (.int a0), some (.int a1), some (.int a2), some (.long a3), none] [.long a3, .int a2, .int a1, .int a0, .ref (21 + 8 * i)] 5 (fun f => rfl) ?_
    exact zW_cv rfl rfl rfl (by have := hi_i; omega) (zh_T0 hi_i) rfl rfl rfl rfl H
  · have c9 : 200 ≤ (T i).2.2.2.1 := (Nat.le_of_not_lt (of_decide_eq_false ((zcN_lt (a := (T i).2.2.2.1) (b := 200) rfl rfl h1 (by decide)).symm.trans c)))
    replace H := H.2 c9
    exact zW_th 3 1 (fun f => rfl) H
theorem b39_29 {P : zPt} {T : Nat → zX} {Y : zYt} {I : zIt} {A : zAt} {w : Nat → Int64} {p : Nat × Nat} {Q : zR → zH → Prop} {i : Nat} {x1 x2 x3 : Int32} {x4 : Int64} (hi_i : i < 6) (H : ((T i).2.2.2.1 < 200 ∧ Q (.inl none) (zh (P, (va_up T i ((T i).1, (T i).2.1, (T i).2.2.1, ((T i).2.2.2.1 + 1), (T i).2.2.2.2.1, (T i).2.2.2.2.2.1, (T i).2.2.2.2.2.2.1, (va_up (T i).2.2.2.2.2.2.2.1 ((T i).2.2.2.1) x1), (va_up (T i).2.2.2.2.2.2.2.2.1 ((T i).2.2.2.1) x2), (va_up (T i).2.2.2.2.2.2.2.2.2.1 ((T i).2.2.2.1) x3), (va_up (T i).2.2.2.2.2.2.2.2.2.2 ((T i).2.2.2.1) x4))), Y) I A w))) : zW zm_39 29 [some (.ref (21 + 8 * i)), some (.int x1), some (.int x2), some (.int x3), some (.long x4), none] [] p (zh (P, T, Y) I A w) Q := by
  refine zW_gh 30 [some (.ref (21 + 8 * i)), some (.int x1), some (.int x2), some (.int x3), some (.long x4), none] [.ref (21 + 8 * i)] 1 (fun f => rfl) ?_
  refine zW_gf rfl (by have := hi_i; omega) (zh_T0 hi_i) rfl (v := .ref (21 + 8 * i + 4)) rfl ?_
  refine zW_gh 34 [some (.ref (21 + 8 * i)), some (.int x1), some (.int x2), some (.int x3), some (.long x4), none] [.ref (21 + 8 * i), .ref (21 + 8 * i + 4)] 1 (fun f => rfl) ?_
  refine zW_gf rfl (by have := hi_i; omega) (zh_T0 hi_i) rfl (v := .int (Int32.ofNat ((T i).2.2.2.1))) rfl ?_
  refine zW_gh 38 [some (.ref (21 + 8 * i)), some (.int x1), some (.int x2), some (.int x3), some (.long x4), none] [.int x1, .int (Int32.ofNat ((T i).2.2.2.1)), .ref (21 + 8 * i + 4)] 1 (fun f => rfl) ?_
  obtain ⟨h1, H⟩ := H
  refine zW_iast rfl (by have := hi_i; omega) (zh_T (c := 4) hi_i (by decide)) (by decide) (zuF_M4 hi_i) rfl h1 ?_
  refine zW_gh 40 [some (.ref (21 + 8 * i)), some (.int x1), some (.int x2), some (.int x3), some (.long x4), none] [.ref (21 + 8 * i)] 1 (fun f => rfl) ?_
  refine zW_gf rfl (by have := hi_i; omega) (zh_TU0 hi_i) rfl (v := .ref (21 + 8 * i + 5)) rfl ?_
  refine zW_gh 44 [some (.ref (21 + 8 * i)), some (.int x1), some (.int x2), some (.int x3), some (.long x4), none] [.ref (21 + 8 * i), .ref (21 + 8 * i + 5)] 1 (fun f => rfl) ?_
  refine zW_gf rfl (by have := hi_i; omega) (zh_TU0 hi_i) rfl (v := .int (Int32.ofNat ((T i).2.2.2.1))) rfl ?_
  refine zW_gh 48 [some (.ref (21 + 8 * i)), some (.int x1), some (.int x2), some (.int x3), some (.long x4), none] [.int x2, .int (Int32.ofNat ((T i).2.2.2.1)), .ref (21 + 8 * i + 5)] 1 (fun f => rfl) ?_
  refine zW_iast rfl (by have := hi_i; omega) (zh_TU (c := 5) hi_i (by decide)) (by decide) (zu_M5 hi_i) rfl h1 ?_
  refine zW_gh 50 [some (.ref (21 + 8 * i)), some (.int x1), some (.int x2), some (.int x3), some (.long x4), none] [.ref (21 + 8 * i)] 1 (fun f => rfl) ?_
  refine zW_gf rfl (by have := hi_i; omega) (zh_TU0 hi_i) rfl (v := .ref (21 + 8 * i + 6)) rfl ?_
  refine zW_gh 54 [some (.ref (21 + 8 * i)), some (.int x1), some (.int x2), some (.int x3), some (.long x4), none] [.ref (21 + 8 * i), .ref (21 + 8 * i + 6)] 1 (fun f => rfl) ?_
  refine zW_gf rfl (by have := hi_i; omega) (zh_TU0 hi_i) rfl (v := .int (Int32.ofNat ((T i).2.2.2.1))) rfl ?_
  refine zW_gh 58 [some (.ref (21 + 8 * i)), some (.int x1), some (.int x2), some (.int x3), some (.long x4), none] [.int x3, .int (Int32.ofNat ((T i).2.2.2.1)), .ref (21 + 8 * i + 6)] 1 (fun f => rfl) ?_
  refine zW_iast rfl (by have := hi_i; omega) (zh_TU (c := 6) hi_i (by decide)) (by decide) (zu_M6 hi_i) rfl h1 ?_
  refine zW_gh 60 [some (.ref (21 + 8 * i)), some (.int x1), some (.int x2), some (.int x3), some (.long x4), none] [.ref (21 + 8 * i)] 1 (fun f => rfl) ?_
  refine zW_gf rfl (by have := hi_i; omega) (zh_TU0 hi_i) rfl (v := .ref (21 + 8 * i + 7)) rfl ?_
  refine zW_gh 64 [some (.ref (21 + 8 * i)), some (.int x1), some (.int x2), some (.int x3), some (.long x4), none] [.ref (21 + 8 * i), .ref (21 + 8 * i + 7)] 1 (fun f => rfl) ?_
  refine zW_gf rfl (by have := hi_i; omega) (zh_TU0 hi_i) rfl (v := .int (Int32.ofNat ((T i).2.2.2.1))) rfl ?_
  refine zW_gh 69 [some (.ref (21 + 8 * i)), some (.int x1), some (.int x2), some (.int x3), some (.long x4), none] [.long x4, .int (Int32.ofNat ((T i).2.2.2.1)), .ref (21 + 8 * i + 7)] 1 (fun f => rfl) ?_
  refine zW_last rfl (by have := hi_i; omega) (zh_TU (c := 7) hi_i (by decide)) (by decide) (zu_M7 hi_i) rfl h1 ?_
  refine zW_gh 72 [some (.ref (21 + 8 * i)), some (.int x1), some (.int x2), some (.int x3), some (.long x4), none] [.ref (21 + 8 * i), .ref (21 + 8 * i)] 2 (fun f => rfl) ?_
  refine zW_gf rfl (by have := hi_i; omega) (zh_TU0 hi_i) rfl (v := .int (Int32.ofNat ((T i).2.2.2.1))) rfl ?_
  refine zW_gh 77 [some (.ref (21 + 8 * i)), some (.int x1), some (.int x2), some (.int x3), some (.long x4), none] [.int ((Int32.ofNat ((T i).2.2.2.1)) + (1 : Int32)), .ref (21 + 8 * i)] 2 (fun f => rfl) ?_
  rw [show ((Int32.ofNat ((T i).2.2.2.1)) + (1 : Int32)) = Int32.ofNat ((T i).2.2.2.1 + 1) from (zN_a rfl rfl)]
  refine zW_pf rfl (by have := hi_i; omega) (zh_TU0 hi_i) rfl rfl (zu_M0 (ct1 := ((T i).2.2.2.1 + 1)) hi_i) ?_
  exact zW_rh none 1 (fun f => rfl) H
theorem b43 {P : zPt} {T : Nat → zX} {Y : zYt} {I : zIt} {A : zAt} {w : Nat → Int64} {p : Nat × Nat} {Q : zR → zH → Prop} {i : Nat} (hi_i : i < 6) (H : ((T i).2.2.2.1 < 2147483648 ∧ ((0 < (T i).2.2.2.1 → (1 ≤ (T i).2.2.2.1 ∧ (((T i).2.2.2.1 - 1) < 200 ∧ ((¬ (((T i).2.2.2.2.2.2.2.1 ((T i).2.2.2.1 - 1)) - ((T i).2.2.2.2.2.2.2.1 ((T i).2.2.2.1 - 1)) / (3 : Int32) * (3 : Int32)) = (1 : Int32) → ((¬ (((T i).2.2.2.2.2.2.2.1 ((T i).2.2.2.1 - 1)) - ((T i).2.2.2.2.2.2.2.1 ((T i).2.2.2.1 - 1)) / (3 : Int32) * (3 : Int32)) = (2 : Int32) → zT zm_40 [.ref (21 + 8 * i), .int ((T i).2.2.2.2.2.2.2.1 ((T i).2.2.2.1 - 1)), .int ((T i).2.2.2.2.2.2.2.2.1 ((T i).2.2.2.1 - 1)), .int ((T i).2.2.2.2.2.2.2.2.2.1 ((T i).2.2.2.1 - 1)), .long ((T i).2.2.2.2.2.2.2.2.2.2 ((T i).2.2.2.1 - 1))] p (zh (P, (va_up T i ((T i).1, (T i).2.1, (T i).2.2.1, ((T i).2.2.2.1 - 1), (T i).2.2.2.2.1, (T i).2.2.2.2.2.1, (T i).2.2.2.2.2.2.1, (T i).2.2.2.2.2.2.2.1, (T i).2.2.2.2.2.2.2.2.1, (T i).2.2.2.2.2.2.2.2.2.1, (T i).2.2.2.2.2.2.2.2.2.2)), Y) I A w) (zK zm_43 103 [none, none, none, none] [] p Q)) ∧ ((((T i).2.2.2.2.2.2.2.1 ((T i).2.2.2.1 - 1)) - ((T i).2.2.2.2.2.2.2.1 ((T i).2.2.2.1 - 1)) / (3 : Int32) * (3 : Int32)) = (2 : Int32) → zT (zrm ((T i).1) zm_20 zm_5 zm_65) [.ref (zra ((T i).1)), .long ((T i).2.2.2.2.2.2.2.2.2.2 ((T i).2.2.2.1 - 1))] p (zh (P, (va_up T i ((T i).1, (T i).2.1, (T i).2.2.1, ((T i).2.2.2.1 - 1), (T i).2.2.2.2.1, (T i).2.2.2.2.2.1, (T i).2.2.2.2.2.2.1, (T i).2.2.2.2.2.2.2.1, (T i).2.2.2.2.2.2.2.2.1, (T i).2.2.2.2.2.2.2.2.2.1, (T i).2.2.2.2.2.2.2.2.2.2)), Y) I A w) (zK zm_43 70 [some (.ref (21 + 8 * i)), none, none, none] [] p Q)))) ∧ ((((T i).2.2.2.2.2.2.2.1 ((T i).2.2.2.1 - 1)) - ((T i).2.2.2.2.2.2.2.1 ((T i).2.2.2.1 - 1)) / (3 : Int32) * (3 : Int32)) = (1 : Int32) → zT (zrm ((T i).1) zm_19 zm_4 zm_64) [.ref (zra ((T i).1)), .long ((T i).2.2.2.2.2.2.2.2.2.2 ((T i).2.2.2.1 - 1))] p (zh (P, (va_up T i ((T i).1, (T i).2.1, (T i).2.2.1, ((T i).2.2.2.1 - 1), (T i).2.2.2.2.1, (T i).2.2.2.2.2.1, (T i).2.2.2.2.2.2.1, (T i).2.2.2.2.2.2.2.1, (T i).2.2.2.2.2.2.2.2.1, (T i).2.2.2.2.2.2.2.2.2.1, (T i).2.2.2.2.2.2.2.2.2.2)), Y) I A w) (zK zm_43 53 [some (.ref (21 + 8 * i)), none, none, none] [] p Q)))))) ∧ ((T i).2.2.2.1 ≤ 0 → Q (.inl none) (zh (P, T, Y) I A w))))) : zT zm_43 [.ref (21 + 8 * i)] p (zh (P, T, Y) I A w) Q := by
  change zW zm_43 0 [some (.ref (21 + 8 * i)), none, none, none] [] p _ Q
  refine zW_gh 1 [some (.ref (21 + 8 * i)), none, none, none] [.ref (21 + 8 * i)] 1 (fun f => rfl) ?_
  refine zW_gf rfl (by have := hi_i; omega) (zh_T0 hi_i) rfl (v := .int (Int32.ofNat ((T i).2.2.2.1))) rfl ?_
  obtain ⟨h1, H⟩ := H
  refine zW_bh (zcmp .gt (Int32.ofNat ((T i).2.2.2.1)) (0 : Int32)) 8 7 [some (.ref (21 + 8 * i)), none, none, none] [] 1 (fun f => rfl) (fun c => ?_) (fun c => ?_)
  · have c9 : 0 < (T i).2.2.2.1 := (of_decide_eq_true ((zcN_gt (a := (T i).2.2.2.1) (b := 0) rfl rfl h1 (by decide)).symm.trans c))
    replace H := H.1 c9
    refine zW_gh 10 [some (.ref (21 + 8 * i)), none, none, none] [.ref (21 + 8 * i), .ref (21 + 8 * i)] 2 (fun f => rfl) ?_
    refine zW_gf rfl (by have := hi_i; omega) (zh_T0 hi_i) rfl (v := .int (Int32.ofNat ((T i).2.2.2.1))) rfl ?_
    refine zW_gh 14 [some (.ref (21 + 8 * i)), none, none, none] [.int (1 : Int32), .int (Int32.ofNat ((T i).2.2.2.1)), .ref (21 + 8 * i)] 1 (fun f => rfl) ?_
    obtain ⟨h2, H⟩ := H
    refine zW_gh 15 [some (.ref (21 + 8 * i)), none, none, none] [.int ((Int32.ofNat ((T i).2.2.2.1)) - (1 : Int32)), .ref (21 + 8 * i)] 1 (fun f => rfl) ?_
    rw [show ((Int32.ofNat ((T i).2.2.2.1)) - (1 : Int32)) = Int32.ofNat ((T i).2.2.2.1 - 1) from (zN_sb rfl rfl h2)]
    refine zW_pf rfl (by have := hi_i; omega) (zh_T0 hi_i) rfl rfl (zuF_M0 (ct1 := ((T i).2.2.2.1 - 1)) hi_i) ?_
    refine zW_gh 19 [some (.ref (21 + 8 * i)), none, none, none] [.ref (21 + 8 * i)] 1 (fun f => rfl) ?_
    refine zW_gf rfl (by have := hi_i; omega) (zh_TU0 hi_i) rfl (v := .ref (21 + 8 * i + 4)) rfl ?_
    refine zW_gh 23 [some (.ref (21 + 8 * i)), none, none, none] [.ref (21 + 8 * i), .ref (21 + 8 * i + 4)] 1 (fun f => rfl) ?_
    refine zW_gf rfl (by have := hi_i; omega) (zh_TU0 hi_i) rfl (v := .int (Int32.ofNat ((T i).2.2.2.1 - 1))) rfl ?_
    obtain ⟨h3, H⟩ := H
    refine zW_iald rfl (by have := hi_i; omega) (zh_TU (c := 4) hi_i (by decide)) (by decide) rfl h3 ?_
    refine zW_gh 28 [some (.ref (21 + 8 * i)), none, none, none] [.int (3 : Int32), .int ((T i).2.2.2.2.2.2.2.1 ((T i).2.2.2.1 - 1))] 1 (fun f => rfl) ?_
    refine zW_irem rfl (by decide) ?_
    refine zW_gh 31 [some (.ref (21 + 8 * i)), some (.int (((T i).2.2.2.2.2.2.2.1 ((T i).2.2.2.1 - 1)) - ((T i).2.2.2.2.2.2.2.1 ((T i).2.2.2.1 - 1)) / (3 : Int32) * (3 : Int32))), none, none] [.ref (21 + 8 * i)] 2 (fun f => rfl) ?_
    refine zW_gf rfl (by have := hi_i; omega) (zh_TU0 hi_i) rfl (v := .ref (21 + 8 * i + 7)) rfl ?_
    refine zW_gh 35 [some (.ref (21 + 8 * i)), some (.int (((T i).2.2.2.2.2.2.2.1 ((T i).2.2.2.1 - 1)) - ((T i).2.2.2.2.2.2.2.1 ((T i).2.2.2.1 - 1)) / (3 : Int32) * (3 : Int32))), none, none] [.ref (21 + 8 * i), .ref (21 + 8 * i + 7)] 1 (fun f => rfl) ?_
    refine zW_gf rfl (by have := hi_i; omega) (zh_TU0 hi_i) rfl (v := .int (Int32.ofNat ((T i).2.2.2.1 - 1))) rfl ?_
    refine zW_lald rfl (by have := hi_i; omega) (zh_TU (c := 7) hi_i (by decide)) (by decide) rfl h3 ?_
    refine zW_bh (zcmp .ne (((T i).2.2.2.2.2.2.2.1 ((T i).2.2.2.1 - 1)) - ((T i).2.2.2.2.2.2.2.1 ((T i).2.2.2.1 - 1)) / (3 : Int32) * (3 : Int32)) (1 : Int32)) 57 45 [some (.ref (21 + 8 * i)), some (.int (((T i).2.2.2.2.2.2.2.1 ((T i).2.2.2.1 - 1)) - ((T i).2.2.2.2.2.2.2.1 ((T i).2.2.2.1 - 1)) / (3 : Int32) * (3 : Int32))), some (.long ((T i).2.2.2.2.2.2.2.2.2.2 ((T i).2.2.2.1 - 1))), none] [] 4 (fun f => rfl) (fun c => ?_) (fun c => ?_)
    · have c9 : ¬ (((T i).2.2.2.2.2.2.2.1 ((T i).2.2.2.1 - 1)) - ((T i).2.2.2.2.2.2.2.1 ((T i).2.2.2.1 - 1)) / (3 : Int32) * (3 : Int32)) = (1 : Int32) := (by simpa [zcmp] using c)
      replace H := H.1 c9
      refine zW_bh (zcmp .ne (((T i).2.2.2.2.2.2.2.1 ((T i).2.2.2.1 - 1)) - ((T i).2.2.2.2.2.2.2.1 ((T i).2.2.2.1 - 1)) / (3 : Int32) * (3 : Int32)) (2 : Int32)) 71 62 [some (.ref (21 + 8 * i)), some (.int (((T i).2.2.2.2.2.2.2.1 ((T i).2.2.2.1 - 1)) - ((T i).2.2.2.2.2.2.2.1 ((T i).2.2.2.1 - 1)) / (3 : Int32) * (3 : Int32))), some (.long ((T i).2.2.2.2.2.2.2.2.2.2 ((T i).2.2.2.1 - 1))), none] [] 3 (fun f => rfl) (fun c => ?_) (fun c => ?_)
      · have c9 : ¬ (((T i).2.2.2.2.2.2.2.1 ((T i).2.2.2.1 - 1)) - ((T i).2.2.2.2.2.2.2.1 ((T i).2.2.2.1 - 1)) / (3 : Int32) * (3 : Int32)) = (2 : Int32) := (by simpa [zcmp] using c)
        replace H := H.1 c9
        refine zW_gh 73 [some (.ref (21 + 8 * i)), some (.int (((T i).2.2.2.2.2.2.2.1 ((T i).2.2.2.1 - 1)) - ((T i).2.2.2.2.2.2.2.1 ((T i).2.2.2.1 - 1)) / (3 : Int32) * (3 : Int32))), some (.long ((T i).2.2.2.2.2.2.2.2.2.2 ((T i).2.2.2.1 - 1))), none] [.ref (21 + 8 * i), .ref (21 + 8 * i)] 2 (fun f => rfl) ?_
        refine zW_gf rfl (by have := hi_i; omega) (zh_TU0 hi_i) rfl (v := .ref (21 + 8 * i + 4)) rfl ?_
        refine zW_gh 77 [some (.ref (21 + 8 * i)), some (.int (((T i).2.2.2.2.2.2.2.1 ((T i).2.2.2.1 - 1)) - ((T i).2.2.2.2.2.2.2.1 ((T i).2.2.2.1 - 1)) / (3 : Int32) * (3 : Int32))), some (.long ((T i).2.2.2.2.2.2.2.2.2.2 ((T i).2.2.2.1 - 1))), none] [.ref (21 + 8 * i), .ref (21 + 8 * i + 4), .ref (21 + 8 * i)] 1 (fun f => rfl) ?_
        refine zW_gf rfl (by have := hi_i; omega) (zh_TU0 hi_i) rfl (v := .int (Int32.ofNat ((T i).2.2.2.1 - 1))) rfl ?_
        refine zW_iald rfl (by have := hi_i; omega) (zh_TU (c := 4) hi_i (by decide)) (by decide) rfl h3 ?_
        refine zW_gh 82 [some (.ref (21 + 8 * i)), some (.int (((T i).2.2.2.2.2.2.2.1 ((T i).2.2.2.1 - 1)) - ((T i).2.2.2.2.2.2.2.1 ((T i).2.2.2.1 - 1)) / (3 : Int32) * (3 : Int32))), some (.long ((T i).2.2.2.2.2.2.2.2.2.2 ((T i).2.2.2.1 - 1))), none] [.ref (21 + 8 * i), .int ((T i).2.2.2.2.2.2.2.1 ((T i).2.2.2.1 - 1)), .ref (21 + 8 * i)] 1 (fun f => rfl) ?_
        refine zW_gf rfl (by have := hi_i; omega) (zh_TU0 hi_i) rfl (v := .ref (21 + 8 * i + 5)) rfl ?_
        refine zW_gh 86 [some (.ref (21 + 8 * i)), some (.int (((T i).2.2.2.2.2.2.2.1 ((T i).2.2.2.1 - 1)) - ((T i).2.2.2.2.2.2.2.1 ((T i).2.2.2.1 - 1)) / (3 : Int32) * (3 : Int32))), some (.long ((T i).2.2.2.2.2.2.2.2.2.2 ((T i).2.2.2.1 - 1))), none] [.ref (21 + 8 * i), .ref (21 + 8 * i + 5), .int ((T i).2.2.2.2.2.2.2.1 ((T i).2.2.2.1 - 1)), .ref (21 + 8 * i)] 1 (fun f => rfl) ?_
        refine zW_gf rfl (by have := hi_i; omega) (zh_TU0 hi_i) rfl (v := .int (Int32.ofNat ((T i).2.2.2.1 - 1))) rfl ?_
        refine zW_iald rfl (by have := hi_i; omega) (zh_TU (c := 5) hi_i (by decide)) (by decide) rfl h3 ?_
        refine zW_gh 91 [some (.ref (21 + 8 * i)), some (.int (((T i).2.2.2.2.2.2.2.1 ((T i).2.2.2.1 - 1)) - ((T i).2.2.2.2.2.2.2.1 ((T i).2.2.2.1 - 1)) / (3 : Int32) * (3 : Int32))), some (.long ((T i).2.2.2.2.2.2.2.2.2.2 ((T i).2.2.2.1 - 1))), none] [.ref (21 + 8 * i), .int ((T i).2.2.2.2.2.2.2.2.1 ((T i).2.2.2.1 - 1)), .int ((T i).2.2.2.2.2.2.2.1 ((T i).2.2.2.1 - 1)), .ref (21 + 8 * i)] 1 (fun f => rfl) ?_
        refine zW_gf rfl (by have := hi_i; omega) (zh_TU0 hi_i) rfl (v := .ref (21 + 8 * i + 6)) rfl ?_
        refine zW_gh 95 [some (.ref (21 + 8 * i)), some (.int (((T i).2.2.2.2.2.2.2.1 ((T i).2.2.2.1 - 1)) - ((T i).2.2.2.2.2.2.2.1 ((T i).2.2.2.1 - 1)) / (3 : Int32) * (3 : Int32))), some (.long ((T i).2.2.2.2.2.2.2.2.2.2 ((T i).2.2.2.1 - 1))), none] [.ref (21 + 8 * i), .ref (21 + 8 * i + 6), .int ((T i).2.2.2.2.2.2.2.2.1 ((T i).2.2.2.1 - 1)), .int ((T i).2.2.2.2.2.2.2.1 ((T i).2.2.2.1 - 1)), .ref (21 + 8 * i)] 1 (fun f => rfl) ?_
        refine zW_gf rfl (by have := hi_i; omega) (zh_TU0 hi_i) rfl (v := .int (Int32.ofNat ((T i).2.2.2.1 - 1))) rfl ?_
        refine zW_iald rfl (by have := hi_i; omega) (zh_TU (c := 6) hi_i (by decide)) (by decide) rfl h3 ?_
        refine zW_gh 100 [some (.ref (21 + 8 * i)), some (.int (((T i).2.2.2.2.2.2.2.1 ((T i).2.2.2.1 - 1)) - ((T i).2.2.2.2.2.2.2.1 ((T i).2.2.2.1 - 1)) / (3 : Int32) * (3 : Int32))), some (.long ((T i).2.2.2.2.2.2.2.2.2.2 ((T i).2.2.2.1 - 1))), none] [.long ((T i).2.2.2.2.2.2.2.2.2.2 ((T i).2.2.2.1 - 1)), .int ((T i).2.2.2.2.2.2.2.2.2.1 ((T i).2.2.2.1 - 1)), .int ((T i).2.2.2.2.2.2.2.2.1 ((T i).2.2.2.1 - 1)), .int ((T i).2.2.2.2.2.2.2.1 ((T i).2.2.2.1 - 1)), .ref (21 + 8 * i)] 1 (fun f => rfl) ?_
        refine zW_fg (L' := [none, none, none, none]) (zle_n _ (zle_n _ (zle_n _ (zle_s _ zle_nil)))) ?_
        exact zW_cv rfl rfl rfl (by have := hi_i; omega) (zh_TU0 hi_i) rfl rfl rfl rfl H
      · have c9 : (((T i).2.2.2.2.2.2.2.1 ((T i).2.2.2.1 - 1)) - ((T i).2.2.2.2.2.2.2.1 ((T i).2.2.2.1 - 1)) / (3 : Int32) * (3 : Int32)) = (2 : Int32) := (by simpa [zcmp] using c)
        replace H := H.2 c9
        refine zW_gh 63 [some (.ref (21 + 8 * i)), some (.int (((T i).2.2.2.2.2.2.2.1 ((T i).2.2.2.1 - 1)) - ((T i).2.2.2.2.2.2.2.1 ((T i).2.2.2.1 - 1)) / (3 : Int32) * (3 : Int32))), some (.long ((T i).2.2.2.2.2.2.2.2.2.2 ((T i).2.2.2.1 - 1))), none] [.ref (21 + 8 * i)] 1 (fun f => rfl) ?_
        refine zW_gf rfl (by have := hi_i; omega) (zh_TU0 hi_i) rfl (v := .ref (zra ((T i).1))) rfl ?_
        refine zW_gh 67 [some (.ref (21 + 8 * i)), some (.int (((T i).2.2.2.2.2.2.2.1 ((T i).2.2.2.1 - 1)) - ((T i).2.2.2.2.2.2.2.1 ((T i).2.2.2.1 - 1)) / (3 : Int32) * (3 : Int32))), some (.long ((T i).2.2.2.2.2.2.2.2.2.2 ((T i).2.2.2.1 - 1))), none] [.long ((T i).2.2.2.2.2.2.2.2.2.2 ((T i).2.2.2.1 - 1)), .ref (zra ((T i).1))] 1 (fun f => rfl) ?_
        refine zW_fg (L' := [some (.ref (21 + 8 * i)), none, none, none]) (zle_s _ (zle_n _ (zle_n _ (zle_s _ zle_nil)))) ?_
        exact zW_cr rfl rfl rfl rfl rfl rfl rfl rfl rfl rfl rfl rfl rfl H
    · have c9 : (((T i).2.2.2.2.2.2.2.1 ((T i).2.2.2.1 - 1)) - ((T i).2.2.2.2.2.2.2.1 ((T i).2.2.2.1 - 1)) / (3 : Int32) * (3 : Int32)) = (1 : Int32) := (by simpa [zcmp] using c)
      replace H := H.2 c9
      refine zW_gh 46 [some (.ref (21 + 8 * i)), some (.int (((T i).2.2.2.2.2.2.2.1 ((T i).2.2.2.1 - 1)) - ((T i).2.2.2.2.2.2.2.1 ((T i).2.2.2.1 - 1)) / (3 : Int32) * (3 : Int32))), some (.long ((T i).2.2.2.2.2.2.2.2.2.2 ((T i).2.2.2.1 - 1))), none] [.ref (21 + 8 * i)] 1 (fun f => rfl) ?_
      refine zW_gf rfl (by have := hi_i; omega) (zh_TU0 hi_i) rfl (v := .ref (zra ((T i).1))) rfl ?_
      refine zW_gh 50 [some (.ref (21 + 8 * i)), some (.int (((T i).2.2.2.2.2.2.2.1 ((T i).2.2.2.1 - 1)) - ((T i).2.2.2.2.2.2.2.1 ((T i).2.2.2.1 - 1)) / (3 : Int32) * (3 : Int32))), some (.long ((T i).2.2.2.2.2.2.2.2.2.2 ((T i).2.2.2.1 - 1))), none] [.long ((T i).2.2.2.2.2.2.2.2.2.2 ((T i).2.2.2.1 - 1)), .ref (zra ((T i).1))] 1 (fun f => rfl) ?_
      refine zW_fg (L' := [some (.ref (21 + 8 * i)), none, none, none]) (zle_s _ (zle_n _ (zle_n _ (zle_s _ zle_nil)))) ?_
      exact zW_cr rfl rfl rfl rfl rfl rfl rfl rfl rfl rfl rfl rfl rfl H
  · have c9 : (T i).2.2.2.1 ≤ 0 := (Nat.le_of_not_lt (of_decide_eq_false ((zcN_gt (a := (T i).2.2.2.1) (b := 0) rfl rfl h1 (by decide)).symm.trans c)))
    replace H := H.2 c9
    exact zW_rh none 1 (fun f => rfl) H
theorem b43_103 {P : zPt} {T : Nat → zX} {Y : zYt} {I : zIt} {A : zAt} {w : Nat → Int64} {p : Nat × Nat} {Q : zR → zH → Prop} (H : Q (.inl none) (zh (P, T, Y) I A w)) : zW zm_43 103 [none, none, none, none] [] p (zh (P, T, Y) I A w) Q := by
  exact zW_rh none 1 (fun f => rfl) H
theorem b43_70 {P : zPt} {T : Nat → zX} {Y : zYt} {I : zIt} {A : zAt} {w : Nat → Int64} {p : Nat × Nat} {Q : zR → zH → Prop} {i : Nat} {rv : Int64} (hi_i : i < 6) (H : ((T i).2.2.2.1 < 200 ∧ zT zm_40 [.ref (21 + 8 * i), .int ((T i).2.2.2.2.2.2.2.1 ((T i).2.2.2.1)), .int ((T i).2.2.2.2.2.2.2.2.1 ((T i).2.2.2.1)), .int ((T i).2.2.2.2.2.2.2.2.2.1 ((T i).2.2.2.1)), .long rv] p (zh (P, T, Y) I A w) (zK zm_43 103 [none, none, none, none] [] p Q))) : zW zm_43 70 [some (.ref (21 + 8 * i)), none, none, none] [.long rv] p (zh (P, T, Y) I A w) Q := by
  refine zW_gh 73 [some (.ref (21 + 8 * i)), none, some (.long rv), none] [.ref (21 + 8 * i), .ref (21 + 8 * i)] 3 (fun f => rfl) ?_
  refine zW_gf rfl (by have := hi_i; omega) (zh_T0 hi_i) rfl (v := .ref (21 + 8 * i + 4)) rfl ?_
  refine zW_gh 77 [some (.ref (21 + 8 * i)), none, some (.long rv), none] [.ref (21 + 8 * i), .ref (21 + 8 * i + 4), .ref (21 + 8 * i)] 1 (fun f => rfl) ?_
  refine zW_gf rfl (by have := hi_i; omega) (zh_T0 hi_i) rfl (v := .int (Int32.ofNat ((T i).2.2.2.1))) rfl ?_
  obtain ⟨h1, H⟩ := H
  refine zW_iald rfl (by have := hi_i; omega) (zh_T (c := 4) hi_i (by decide)) (by decide) rfl h1 ?_
  refine zW_gh 82 [some (.ref (21 + 8 * i)), none, some (.long rv), none] [.ref (21 + 8 * i), .int ((T i).2.2.2.2.2.2.2.1 ((T i).2.2.2.1)), .ref (21 + 8 * i)] 1 (fun f => rfl) ?_
  refine zW_gf rfl (by have := hi_i; omega) (zh_T0 hi_i) rfl (v := .ref (21 + 8 * i + 5)) rfl ?_
  refine zW_gh 86 [some (.ref (21 + 8 * i)), none, some (.long rv), none] [.ref (21 + 8 * i), .ref (21 + 8 * i + 5), .int ((T i).2.2.2.2.2.2.2.1 ((T i).2.2.2.1)), .ref (21 + 8 * i)] 1 (fun f => rfl) ?_
  refine zW_gf rfl (by have := hi_i; omega) (zh_T0 hi_i) rfl (v := .int (Int32.ofNat ((T i).2.2.2.1))) rfl ?_
  refine zW_iald rfl (by have := hi_i; omega) (zh_T (c := 5) hi_i (by decide)) (by decide) rfl h1 ?_
  refine zW_gh 91 [some (.ref (21 + 8 * i)), none, some (.long rv), none] [.ref (21 + 8 * i), .int ((T i).2.2.2.2.2.2.2.2.1 ((T i).2.2.2.1)), .int ((T i).2.2.2.2.2.2.2.1 ((T i).2.2.2.1)), .ref (21 + 8 * i)] 1 (fun f => rfl) ?_
  refine zW_gf rfl (by have := hi_i; omega) (zh_T0 hi_i) rfl (v := .ref (21 + 8 * i + 6)) rfl ?_
  refine zW_gh 95 [some (.ref (21 + 8 * i)), none, some (.long rv), none] [.ref (21 + 8 * i), .ref (21 + 8 * i + 6), .int ((T i).2.2.2.2.2.2.2.2.1 ((T i).2.2.2.1)), .int ((T i).2.2.2.2.2.2.2.1 ((T i).2.2.2.1)), .ref (21 + 8 * i)] 1 (fun f => rfl) ?_
  refine zW_gf rfl (by have := hi_i; omega) (zh_T0 hi_i) rfl (v := .int (Int32.ofNat ((T i).2.2.2.1))) rfl ?_
  refine zW_iald rfl (by have := hi_i; omega) (zh_T (c := 6) hi_i (by decide)) (by decide) rfl h1 ?_
  refine zW_gh 100 [some (.ref (21 + 8 * i)), none, some (.long rv), none] [.long rv, .int ((T i).2.2.2.2.2.2.2.2.2.1 ((T i).2.2.2.1)), .int ((T i).2.2.2.2.2.2.2.2.1 ((T i).2.2.2.1)), .int ((T i).2.2.2.2.2.2.2.1 ((T i).2.2.2.1)), .ref (21 + 8 * i)] 1 (fun f => rfl) ?_
  refine zW_fg (L' := [none, none, none, none]) (zle_n _ (zle_s _ (zle_n _ (zle_s _ zle_nil)))) ?_
  exact zW_cv rfl rfl rfl (by have := hi_i; omega) (zh_T0 hi_i) rfl rfl rfl rfl H
theorem b43_53 {P : zPt} {T : Nat → zX} {Y : zYt} {I : zIt} {A : zAt} {w : Nat → Int64} {p : Nat × Nat} {Q : zR → zH → Prop} {i : Nat} {rv : Int64} (hi_i : i < 6) (H : ((T i).2.2.2.1 < 200 ∧ zT zm_40 [.ref (21 + 8 * i), .int ((T i).2.2.2.2.2.2.2.1 ((T i).2.2.2.1)), .int ((T i).2.2.2.2.2.2.2.2.1 ((T i).2.2.2.1)), .int ((T i).2.2.2.2.2.2.2.2.2.1 ((T i).2.2.2.1)), .long rv] p (zh (P, T, Y) I A w) (zK zm_43 103 [none, none, none, none] [] p Q))) : zW zm_43 53 [some (.ref (21 + 8 * i)), none, none, none] [.long rv] p (zh (P, T, Y) I A w) Q := by
  refine zW_gh 73 [some (.ref (21 + 8 * i)), none, some (.long rv), none] [.ref (21 + 8 * i), .ref (21 + 8 * i)] 4 (fun f => rfl) ?_
  refine zW_gf rfl (by have := hi_i; omega) (zh_T0 hi_i) rfl (v := .ref (21 + 8 * i + 4)) rfl ?_
  refine zW_gh 77 [some (.ref (21 + 8 * i)), none, some (.long rv), none] [.ref (21 + 8 * i), .ref (21 + 8 * i + 4), .ref (21 + 8 * i)] 1 (fun f => rfl) ?_
  refine zW_gf rfl (by have := hi_i; omega) (zh_T0 hi_i) rfl (v := .int (Int32.ofNat ((T i).2.2.2.1))) rfl ?_
  obtain ⟨h1, H⟩ := H
  refine zW_iald rfl (by have := hi_i; omega) (zh_T (c := 4) hi_i (by decide)) (by decide) rfl h1 ?_
  refine zW_gh 82 [some (.ref (21 + 8 * i)), none, some (.long rv), none] [.ref (21 + 8 * i), .int ((T i).2.2.2.2.2.2.2.1 ((T i).2.2.2.1)), .ref (21 + 8 * i)] 1 (fun f => rfl) ?_
  refine zW_gf rfl (by have := hi_i; omega) (zh_T0 hi_i) rfl (v := .ref (21 + 8 * i + 5)) rfl ?_
  refine zW_gh 86 [some (.ref (21 + 8 * i)), none, some (.long rv), none] [.ref (21 + 8 * i), .ref (21 + 8 * i + 5), .int ((T i).2.2.2.2.2.2.2.1 ((T i).2.2.2.1)), .ref (21 + 8 * i)] 1 (fun f => rfl) ?_
  refine zW_gf rfl (by have := hi_i; omega) (zh_T0 hi_i) rfl (v := .int (Int32.ofNat ((T i).2.2.2.1))) rfl ?_
  refine zW_iald rfl (by have := hi_i; omega) (zh_T (c := 5) hi_i (by decide)) (by decide) rfl h1 ?_
  refine zW_gh 91 [some (.ref (21 + 8 * i)), none, some (.long rv), none] [.ref (21 + 8 * i), .int ((T i).2.2.2.2.2.2.2.2.1 ((T i).2.2.2.1)), .int ((T i).2.2.2.2.2.2.2.1 ((T i).2.2.2.1)), .ref (21 + 8 * i)] 1 (fun f => rfl) ?_
  refine zW_gf rfl (by have := hi_i; omega) (zh_T0 hi_i) rfl (v := .ref (21 + 8 * i + 6)) rfl ?_
  refine zW_gh 95 [some (.ref (21 + 8 * i)), none, some (.long rv), none] [.ref (21 + 8 * i), .ref (21 + 8 * i + 6), .int ((T i).2.2.2.2.2.2.2.2.1 ((T i).2.2.2.1)), .int ((T i).2.2.2.2.2.2.2.1 ((T i).2.2.2.1)), .ref (21 + 8 * i)] 1 (fun f => rfl) ?_
  refine zW_gf rfl (by have := hi_i; omega) (zh_T0 hi_i) rfl (v := .int (Int32.ofNat ((T i).2.2.2.1))) rfl ?_
  refine zW_iald rfl (by have := hi_i; omega) (zh_T (c := 6) hi_i (by decide)) (by decide) rfl h1 ?_
  refine zW_gh 100 [some (.ref (21 + 8 * i)), none, some (.long rv), none] [.long rv, .int ((T i).2.2.2.2.2.2.2.2.2.1 ((T i).2.2.2.1)), .int ((T i).2.2.2.2.2.2.2.2.1 ((T i).2.2.2.1)), .int ((T i).2.2.2.2.2.2.2.1 ((T i).2.2.2.1)), .ref (21 + 8 * i)] 1 (fun f => rfl) ?_
  refine zW_fg (L' := [none, none, none, none]) (zle_n _ (zle_s _ (zle_n _ (zle_s _ zle_nil)))) ?_
  exact zW_cv rfl rfl rfl (by have := hi_i; omega) (zh_T0 hi_i) rfl rfl rfl rfl H
theorem b44 {P : zPt} {T : Nat → zX} {Y : zYt} {I : zIt} {A : zAt} {w : Nat → Int64} {p : Nat × Nat} {Q : zR → zH → Prop} {i j : Nat} {a1 : Bool} (H : zW zm_44 5 [some (.ref (21 + 8 * i)), some (.ref (21 + 8 * j)), some (.int (zbi a1)), some (.int (Int32.ofNat 0)), some (.int (Int32.ofNat 0))] [] p (zh (P, T, Y) I A w) Q) : zT zm_44 [.ref (21 + 8 * i), .ref (21 + 8 * j), .int (zbi a1)] p (zh (P, T, Y) I A w) Q := by
  change zW zm_44 0 [some (.ref (21 + 8 * i)), some (.ref (21 + 8 * j)), some (.int (zbi a1)), none, none] [] p _ Q
  refine zW_gh 5 [some (.ref (21 + 8 * i)), some (.ref (21 + 8 * j)), some (.int (zbi a1)), some (.int (0 : Int32)), some (.int (0 : Int32))] [] 4 (fun f => rfl) ?_
  exact H
theorem b44_5 {P : zPt} {T : Nat → zX} {Y : zYt} {I : zIt} {A : zAt} {w : Nat → Int64} {p : Nat × Nat} {Q : zR → zH → Prop} {x3 x4 i j : Nat} {x2 : Bool} (hi_j : j < 6) (hi_i : i < 6) (H : (x4 < 2147483648 ∧ ((T j).2.2.2.1 < 2147483648 ∧ (((T j).2.2.2.1 ≤ x4 → Q (.inl (some (.int (Int32.ofNat x3)))) (zh (P, T, Y) I A w)) ∧ (x4 < (T j).2.2.2.1 → (x4 < 200 ∧ ((((T j).2.2.2.2.2.2.2.1 x4) < (3 : Int32) → ((¬ (0 : Int32) = (zbi x2) → zW zm_44 5 [some (.ref (21 + 8 * i)), some (.ref (21 + 8 * j)), some (.int (zbi x2)), some (.int (Int32.ofNat x3)), some (.int (Int32.ofNat (x4 + 1)))] [] p (zh (P, T, Y) I A w) Q) ∧ ((0 : Int32) = (zbi x2) → zT zm_39 [.ref (21 + 8 * i), .int ((T j).2.2.2.2.2.2.2.1 x4), .int ((T j).2.2.2.2.2.2.2.2.1 x4), .int ((T j).2.2.2.2.2.2.2.2.2.1 x4), .long ((T j).2.2.2.2.2.2.2.2.2.2 x4)] p (zh (P, T, Y) I A w) (zK zm_44 66 [some (.ref (21 + 8 * i)), some (.ref (21 + 8 * j)), some (.int (zbi x2)), some (.int (Int32.ofNat x3)), some (.int (Int32.ofNat x4))] [] p Q)))) ∧ (¬ ((T j).2.2.2.2.2.2.2.1 x4) < (3 : Int32) → ((¬ (1 : Int32) = (zbi x2) → zW zm_44 5 [some (.ref (21 + 8 * i)), some (.ref (21 + 8 * j)), some (.int (zbi x2)), some (.int (Int32.ofNat x3)), some (.int (Int32.ofNat (x4 + 1)))] [] p (zh (P, T, Y) I A w) Q) ∧ ((1 : Int32) = (zbi x2) → zT zm_39 [.ref (21 + 8 * i), .int ((T j).2.2.2.2.2.2.2.1 x4), .int ((T j).2.2.2.2.2.2.2.2.1 x4), .int ((T j).2.2.2.2.2.2.2.2.2.1 x4), .long ((T j).2.2.2.2.2.2.2.2.2.2 x4)] p (zh (P, T, Y) I A w) (zK zm_44 66 [some (.ref (21 + 8 * i)), some (.ref (21 + 8 * j)), some (.int (zbi x2)), some (.int (Int32.ofNat x3)), some (.int (Int32.ofNat x4))] [] p Q))))))))))) : zW zm_44 5 [some (.ref (21 + 8 * i)), some (.ref (21 + 8 * j)), some (.int (zbi x2)), some (.int (Int32.ofNat x3)), some (.int (Int32.ofNat x4))] [] p (zh (P, T, Y) I A w) Q := by
  refine zW_gh 8 [some (.ref (21 + 8 * i)), some (.ref (21 + 8 * j)), some (.int (zbi x2)), some (.int (Int32.ofNat x3)), some (.int (Int32.ofNat x4))] [.ref (21 + 8 * j), .int (Int32.ofNat x4)] 2 (fun f => rfl) ?_
  refine zW_gf rfl (by have := hi_j; omega) (zh_T0 hi_j) rfl (v := .int (Int32.ofNat ((T j).2.2.2.1))) rfl ?_
  obtain ⟨h1, H⟩ := H
  obtain ⟨h2, H⟩ := H
  refine zW_bh (zcmp .ge (Int32.ofNat x4) (Int32.ofNat ((T j).2.2.2.1))) 75 14 [some (.ref (21 + 8 * i)), some (.ref (21 + 8 * j)), some (.int (zbi x2)), some (.int (Int32.ofNat x3)), some (.int (Int32.ofNat x4))] [] 1 (fun f => rfl) (fun c => ?_) (fun c => ?_)
  · have c9 : (T j).2.2.2.1 ≤ x4 := (of_decide_eq_true ((zcN_ge (a := x4) (b := (T j).2.2.2.1) rfl rfl h1 h2).symm.trans c))
    replace H := H.1 c9
    refine zW_gh 76 [some (.ref (21 + 8 * i)), some (.ref (21 + 8 * j)), some (.int (zbi x2)), some (.int (Int32.ofNat x3)), some (.int (Int32.ofNat x4))] [.int (Int32.ofNat x3)] 1 (fun f => rfl) ?_
    exact zW_rh (some (.int (Int32.ofNat x3))) 1 (fun f => rfl) H
  · have c9 : x4 < (T j).2.2.2.1 := (Nat.lt_of_not_le (of_decide_eq_false ((zcN_ge (a := x4) (b := (T j).2.2.2.1) rfl rfl h1 h2).symm.trans c)))
    replace H := H.2 c9
    refine zW_gh 15 [some (.ref (21 + 8 * i)), some (.ref (21 + 8 * j)), some (.int (zbi x2)), some (.int (Int32.ofNat x3)), some (.int (Int32.ofNat x4))] [.ref (21 + 8 * j)] 1 (fun f => rfl) ?_
    refine zW_gf rfl (by have := hi_j; omega) (zh_T0 hi_j) rfl (v := .ref (21 + 8 * j + 4)) rfl ?_
    refine zW_gh 20 [some (.ref (21 + 8 * i)), some (.ref (21 + 8 * j)), some (.int (zbi x2)), some (.int (Int32.ofNat x3)), some (.int (Int32.ofNat x4))] [.int (Int32.ofNat x4), .ref (21 + 8 * j + 4)] 1 (fun f => rfl) ?_
    obtain ⟨h3, H⟩ := H
    refine zW_iald rfl (by have := hi_j; omega) (zh_T (c := 4) hi_j (by decide)) (by decide) rfl h3 ?_
    refine zW_bh (zcmp .lt ((T j).2.2.2.2.2.2.2.1 x4) (3 : Int32)) 29 25 [some (.ref (21 + 8 * i)), some (.ref (21 + 8 * j)), some (.int (zbi x2)), some (.int (Int32.ofNat x3)), some (.int (Int32.ofNat x4))] [] 2 (fun f => rfl) (fun c => ?_) (fun c => ?_)
    · have c9 : ((T j).2.2.2.2.2.2.2.1 x4) < (3 : Int32) := (of_decide_eq_true c)
      replace H := H.1 c9
      refine zW_bh (zcmp .ne (0 : Int32) (zbi x2)) 69 34 [some (.ref (21 + 8 * i)), some (.ref (21 + 8 * j)), some (.int (zbi x2)), some (.int (Int32.ofNat x3)), some (.int (Int32.ofNat x4))] [] 3 (fun f => rfl) (fun c => ?_) (fun c => ?_)
      · have c9 : ¬ (0 : Int32) = (zbi x2) := (by simpa [zcmp] using c)
        replace H := H.1 c9
        refine zW_inc [some (.ref (21 + 8 * i)), some (.ref (21 + 8 * j)), some (.int (zbi x2)), some (.int (Int32.ofNat x3)), some (.int ((Int32.ofNat x4) + (1 : Int32)))] rfl rfl rfl ?_
        rw [show ((Int32.ofNat x4) + (1 : Int32)) = Int32.ofNat (x4 + 1) from (zN_a rfl rfl)]
        refine zW_gh 5 [some (.ref (21 + 8 * i)), some (.ref (21 + 8 * j)), some (.int (zbi x2)), some (.int (Int32.ofNat x3)), some (.int (Int32.ofNat (x4 + 1)))] [] 1 (fun f => rfl) ?_
        exact H
      · have c9 : (0 : Int32) = (zbi x2) := (by simpa [zcmp] using c)
        replace H := H.2 c9
        refine zW_gh 36 [some (.ref (21 + 8 * i)), some (.ref (21 + 8 * j)), some (.int (zbi x2)), some (.int (Int32.ofNat x3)), some (.int (Int32.ofNat x4))] [.ref (21 + 8 * j), .ref (21 + 8 * i)] 2 (fun f => rfl) ?_
        refine zW_gf rfl (by have := hi_j; omega) (zh_T0 hi_j) rfl (v := .ref (21 + 8 * j + 4)) rfl ?_
        refine zW_gh 41 [some (.ref (21 + 8 * i)), some (.ref (21 + 8 * j)), some (.int (zbi x2)), some (.int (Int32.ofNat x3)), some (.int (Int32.ofNat x4))] [.int (Int32.ofNat x4), .ref (21 + 8 * j + 4), .ref (21 + 8 * i)] 1 (fun f => rfl) ?_
        refine zW_iald rfl (by have := hi_j; omega) (zh_T (c := 4) hi_j (by decide)) (by decide) rfl h3 ?_
        refine zW_gh 43 [some (.ref (21 + 8 * i)), some (.ref (21 + 8 * j)), some (.int (zbi x2)), some (.int (Int32.ofNat x3)), some (.int (Int32.ofNat x4))] [.ref (21 + 8 * j), .int ((T j).2.2.2.2.2.2.2.1 x4), .ref (21 + 8 * i)] 1 (fun f => rfl) ?_
        refine zW_gf rfl (by have := hi_j; omega) (zh_T0 hi_j) rfl (v := .ref (21 + 8 * j + 5)) rfl ?_
        refine zW_gh 48 [some (.ref (21 + 8 * i)), some (.ref (21 + 8 * j)), some (.int (zbi x2)), some (.int (Int32.ofNat x3)), some (.int (Int32.ofNat x4))] [.int (Int32.ofNat x4), .ref (21 + 8 * j + 5), .int ((T j).2.2.2.2.2.2.2.1 x4), .ref (21 + 8 * i)] 1 (fun f => rfl) ?_
        refine zW_iald rfl (by have := hi_j; omega) (zh_T (c := 5) hi_j (by decide)) (by decide) rfl h3 ?_
        refine zW_gh 50 [some (.ref (21 + 8 * i)), some (.ref (21 + 8 * j)), some (.int (zbi x2)), some (.int (Int32.ofNat x3)), some (.int (Int32.ofNat x4))] [.ref (21 + 8 * j), .int ((T j).2.2.2.2.2.2.2.2.1 x4), .int ((T j).2.2.2.2.2.2.2.1 x4), .ref (21 + 8 * i)] 1 (fun f => rfl) ?_
        refine zW_gf rfl (by have := hi_j; omega) (zh_T0 hi_j) rfl (v := .ref (21 + 8 * j + 6)) rfl ?_
        refine zW_gh 55 [some (.ref (21 + 8 * i)), some (.ref (21 + 8 * j)), some (.int (zbi x2)), some (.int (Int32.ofNat x3)), some (.int (Int32.ofNat x4))] [.int (Int32.ofNat x4), .ref (21 + 8 * j + 6), .int ((T j).2.2.2.2.2.2.2.2.1 x4), .int ((T j).2.2.2.2.2.2.2.1 x4), .ref (21 + 8 * i)] 1 (fun f => rfl) ?_
        refine zW_iald rfl (by have := hi_j; omega) (zh_T (c := 6) hi_j (by decide)) (by decide) rfl h3 ?_
        refine zW_gh 57 [some (.ref (21 + 8 * i)), some (.ref (21 + 8 * j)), some (.int (zbi x2)), some (.int (Int32.ofNat x3)), some (.int (Int32.ofNat x4))] [.ref (21 + 8 * j), .int ((T j).2.2.2.2.2.2.2.2.2.1 x4), .int ((T j).2.2.2.2.2.2.2.2.1 x4), .int ((T j).2.2.2.2.2.2.2.1 x4), .ref (21 + 8 * i)] 1 (fun f => rfl) ?_
        refine zW_gf rfl (by have := hi_j; omega) (zh_T0 hi_j) rfl (v := .ref (21 + 8 * j + 7)) rfl ?_
        refine zW_gh 62 [some (.ref (21 + 8 * i)), some (.ref (21 + 8 * j)), some (.int (zbi x2)), some (.int (Int32.ofNat x3)), some (.int (Int32.ofNat x4))] [.int (Int32.ofNat x4), .ref (21 + 8 * j + 7), .int ((T j).2.2.2.2.2.2.2.2.2.1 x4), .int ((T j).2.2.2.2.2.2.2.2.1 x4), .int ((T j).2.2.2.2.2.2.2.1 x4), .ref (21 + 8 * i)] 1 (fun f => rfl) ?_
        refine zW_lald rfl (by have := hi_j; omega) (zh_T (c := 7) hi_j (by decide)) (by decide) rfl h3 ?_
        exact zW_cv rfl rfl rfl (by have := hi_i; omega) (zh_T0 hi_i) rfl rfl rfl rfl H
    · have c9 : ¬ ((T j).2.2.2.2.2.2.2.1 x4) < (3 : Int32) := (of_decide_eq_false c)
      replace H := H.2 c9
      refine zW_bh (zcmp .ne (1 : Int32) (zbi x2)) 69 34 [some (.ref (21 + 8 * i)), some (.ref (21 + 8 * j)), some (.int (zbi x2)), some (.int (Int32.ofNat x3)), some (.int (Int32.ofNat x4))] [] 4 (fun f => rfl) (fun c => ?_) (fun c => ?_)
      · have c9 : ¬ (1 : Int32) = (zbi x2) := (by simpa [zcmp] using c)
        replace H := H.1 c9
        refine zW_inc [some (.ref (21 + 8 * i)), some (.ref (21 + 8 * j)), some (.int (zbi x2)), some (.int (Int32.ofNat x3)), some (.int ((Int32.ofNat x4) + (1 : Int32)))] rfl rfl rfl ?_
        rw [show ((Int32.ofNat x4) + (1 : Int32)) = Int32.ofNat (x4 + 1) from (zN_a rfl rfl)]
        refine zW_gh 5 [some (.ref (21 + 8 * i)), some (.ref (21 + 8 * j)), some (.int (zbi x2)), some (.int (Int32.ofNat x3)), some (.int (Int32.ofNat (x4 + 1)))] [] 1 (fun f => rfl) ?_
        exact H
      · have c9 : (1 : Int32) = (zbi x2) := (by simpa [zcmp] using c)
        replace H := H.2 c9
        refine zW_gh 36 [some (.ref (21 + 8 * i)), some (.ref (21 + 8 * j)), some (.int (zbi x2)), some (.int (Int32.ofNat x3)), some (.int (Int32.ofNat x4))] [.ref (21 + 8 * j), .ref (21 + 8 * i)] 2 (fun f => rfl) ?_
        refine zW_gf rfl (by have := hi_j; omega) (zh_T0 hi_j) rfl (v := .ref (21 + 8 * j + 4)) rfl ?_
        refine zW_gh 41 [some (.ref (21 + 8 * i)), some (.ref (21 + 8 * j)), some (.int (zbi x2)), some (.int (Int32.ofNat x3)), some (.int (Int32.ofNat x4))] [.int (Int32.ofNat x4), .ref (21 + 8 * j + 4), .ref (21 + 8 * i)] 1 (fun f => rfl) ?_
        refine zW_iald rfl (by have := hi_j; omega) (zh_T (c := 4) hi_j (by decide)) (by decide) rfl h3 ?_
        refine zW_gh 43 [some (.ref (21 + 8 * i)), some (.ref (21 + 8 * j)), some (.int (zbi x2)), some (.int (Int32.ofNat x3)), some (.int (Int32.ofNat x4))] [.ref (21 + 8 * j), .int ((T j).2.2.2.2.2.2.2.1 x4), .ref (21 + 8 * i)] 1 (fun f => rfl) ?_
        refine zW_gf rfl (by have := hi_j; omega) (zh_T0 hi_j) rfl (v := .ref (21 + 8 * j + 5)) rfl ?_
        refine zW_gh 48 [some (.ref (21 + 8 * i)), some (.ref (21 + 8 * j)), some (.int (zbi x2)), some (.int (Int32.ofNat x3)), some (.int (Int32.ofNat x4))] [.int (Int32.ofNat x4), .ref (21 + 8 * j + 5), .int ((T j).2.2.2.2.2.2.2.1 x4), .ref (21 + 8 * i)] 1 (fun f => rfl) ?_
        refine zW_iald rfl (by have := hi_j; omega) (zh_T (c := 5) hi_j (by decide)) (by decide) rfl h3 ?_
        refine zW_gh 50 [some (.ref (21 + 8 * i)), some (.ref (21 + 8 * j)), some (.int (zbi x2)), some (.int (Int32.ofNat x3)), some (.int (Int32.ofNat x4))] [.ref (21 + 8 * j), .int ((T j).2.2.2.2.2.2.2.2.1 x4), .int ((T j).2.2.2.2.2.2.2.1 x4), .ref (21 + 8 * i)] 1 (fun f => rfl) ?_
        refine zW_gf rfl (by have := hi_j; omega) (zh_T0 hi_j) rfl (v := .ref (21 + 8 * j + 6)) rfl ?_
        refine zW_gh 55 [some (.ref (21 + 8 * i)), some (.ref (21 + 8 * j)), some (.int (zbi x2)), some (.int (Int32.ofNat x3)), some (.int (Int32.ofNat x4))] [.int (Int32.ofNat x4), .ref (21 + 8 * j + 6), .int ((T j).2.2.2.2.2.2.2.2.1 x4), .int ((T j).2.2.2.2.2.2.2.1 x4), .ref (21 + 8 * i)] 1 (fun f => rfl) ?_
        refine zW_iald rfl (by have := hi_j; omega) (zh_T (c := 6) hi_j (by decide)) (by decide) rfl h3 ?_
        refine zW_gh 57 [some (.ref (21 + 8 * i)), some (.ref (21 + 8 * j)), some (.int (zbi x2)), some (.int (Int32.ofNat x3)), some (.int (Int32.ofNat x4))] [.ref (21 + 8 * j), .int ((T j).2.2.2.2.2.2.2.2.2.1 x4), .int ((T j).2.2.2.2.2.2.2.2.1 x4), .int ((T j).2.2.2.2.2.2.2.1 x4), .ref (21 + 8 * i)] 1 (fun f => rfl) ?_
        refine zW_gf rfl (by have := hi_j; omega) (zh_T0 hi_j) rfl (v := .ref (21 + 8 * j + 7)) rfl ?_
        refine zW_gh 62 [some (.ref (21 + 8 * i)), some (.ref (21 + 8 * j)), some (.int (zbi x2)), some (.int (Int32.ofNat x3)), some (.int (Int32.ofNat x4))] [.int (Int32.ofNat x4), .ref (21 + 8 * j + 7), .int ((T j).2.2.2.2.2.2.2.2.2.1 x4), .int ((T j).2.2.2.2.2.2.2.2.1 x4), .int ((T j).2.2.2.2.2.2.2.1 x4), .ref (21 + 8 * i)] 1 (fun f => rfl) ?_
        refine zW_lald rfl (by have := hi_j; omega) (zh_T (c := 7) hi_j (by decide)) (by decide) rfl h3 ?_
        exact zW_cv rfl rfl rfl (by have := hi_i; omega) (zh_T0 hi_i) rfl rfl rfl rfl H
theorem b44_66 {P : zPt} {T : Nat → zX} {Y : zYt} {I : zIt} {A : zAt} {w : Nat → Int64} {p : Nat × Nat} {Q : zR → zH → Prop} {x3 x4 i j : Nat} {x2 : Bool} (H : zW zm_44 5 [some (.ref (21 + 8 * i)), some (.ref (21 + 8 * j)), some (.int (zbi x2)), some (.int (Int32.ofNat (x3 + 1))), some (.int (Int32.ofNat (x4 + 1)))] [] p (zh (P, T, Y) I A w) Q) : zW zm_44 66 [some (.ref (21 + 8 * i)), some (.ref (21 + 8 * j)), some (.int (zbi x2)), some (.int (Int32.ofNat x3)), some (.int (Int32.ofNat x4))] [] p (zh (P, T, Y) I A w) Q := by
  refine zW_inc [some (.ref (21 + 8 * i)), some (.ref (21 + 8 * j)), some (.int (zbi x2)), some (.int ((Int32.ofNat x3) + (1 : Int32))), some (.int (Int32.ofNat x4))] rfl rfl rfl ?_
  rw [show ((Int32.ofNat x3) + (1 : Int32)) = Int32.ofNat (x3 + 1) from (zN_a rfl rfl)]
  refine zW_inc [some (.ref (21 + 8 * i)), some (.ref (21 + 8 * j)), some (.int (zbi x2)), some (.int (Int32.ofNat (x3 + 1))), some (.int ((Int32.ofNat x4) + (1 : Int32)))] rfl rfl rfl ?_
  rw [show ((Int32.ofNat x4) + (1 : Int32)) = Int32.ofNat (x4 + 1) from (zN_a rfl rfl)]
  refine zW_gh 5 [some (.ref (21 + 8 * i)), some (.ref (21 + 8 * j)), some (.int (zbi x2)), some (.int (Int32.ofNat (x3 + 1))), some (.int (Int32.ofNat (x4 + 1)))] [] 1 (fun f => rfl) ?_
  exact H
theorem b45 {P : zPt} {T : Nat → zX} {Y : zYt} {I : zIt} {A : zAt} {w : Nat → Int64} {p : Nat × Nat} {Q : zR → zH → Prop} {a1 i j : Nat} (hi_i : i < 6) (H : zT zm_34 [.ref (21 + 8 * i), .ref (21 + 8 * j)] p (zh (P, T, Y) I A w) (zK zm_45 5 [some (.ref (21 + 8 * i)), some (.ref (21 + 8 * j)), some (.int (Int32.ofNat a1)), none] [] p Q)) : zT zm_45 [.ref (21 + 8 * i), .ref (21 + 8 * j), .int (Int32.ofNat a1)] p (zh (P, T, Y) I A w) Q := by
  change zW zm_45 0 [some (.ref (21 + 8 * i)), some (.ref (21 + 8 * j)), some (.int (Int32.ofNat a1)), none] [] p _ Q
  refine zW_gh 2 [some (.ref (21 + 8 * i)), some (.ref (21 + 8 * j)), some (.int (Int32.ofNat a1)), none] [.ref (21 + 8 * j), .ref (21 + 8 * i)] 2 (fun f => rfl) ?_
  exact zW_cv rfl rfl rfl (by have := hi_i; omega) (zh_T0 hi_i) rfl rfl rfl rfl H
theorem b45_5 {P : zPt} {T : Nat → zX} {Y : zYt} {I : zIt} {A : zAt} {w : Nat → Int64} {p : Nat × Nat} {Q : zR → zH → Prop} {x2 i j : Nat} (hi_j : j < 6) (hi_i : i < 6) (H : zW zm_45 22 [some (.ref (21 + 8 * i)), some (.ref (21 + 8 * j)), some (.int (Int32.ofNat x2)), some (.int (Int32.ofNat 0))] [] p (zh (P, (va_up T i ((T i).1, (T i).2.1, (T i).2.2.1, (T i).2.2.2.1, (va_cpy (T j).2.2.2.2.2.1 (T i).2.2.2.2.1 0 0 16), (T i).2.2.2.2.2.1, (T i).2.2.2.2.2.2.1, (T i).2.2.2.2.2.2.2.1, (T i).2.2.2.2.2.2.2.2.1, (T i).2.2.2.2.2.2.2.2.2.1, (T i).2.2.2.2.2.2.2.2.2.2)), Y) I A w) Q) : zW zm_45 5 [some (.ref (21 + 8 * i)), some (.ref (21 + 8 * j)), some (.int (Int32.ofNat x2)), none] [] p (zh (P, T, Y) I A w) Q := by
  refine zW_gh 6 [some (.ref (21 + 8 * i)), some (.ref (21 + 8 * j)), some (.int (Int32.ofNat x2)), none] [.ref (21 + 8 * j)] 1 (fun f => rfl) ?_
  refine zW_gf rfl (by have := hi_j; omega) (zh_T0 hi_j) rfl (v := .ref (21 + 8 * j + 2)) rfl ?_
  refine zW_gh 11 [some (.ref (21 + 8 * i)), some (.ref (21 + 8 * j)), some (.int (Int32.ofNat x2)), none] [.ref (21 + 8 * i), .int (0 : Int32), .ref (21 + 8 * j + 2)] 2 (fun f => rfl) ?_
  refine zW_gf rfl (by have := hi_i; omega) (zh_T0 hi_i) rfl (v := .ref (21 + 8 * i + 1)) rfl ?_
  refine zW_gh 17 [some (.ref (21 + 8 * i)), some (.ref (21 + 8 * j)), some (.int (Int32.ofNat x2)), none] [.int (16 : Int32), .int (0 : Int32), .ref (21 + 8 * i + 1), .int (0 : Int32), .ref (21 + 8 * j + 2)] 2 (fun f => rfl) ?_
  refine zW_acL (n := 16) (sp := 0) (dp := 0) rfl rfl (by have := hi_i; omega) (by have := hi_j; omega) (zh_T (c := 2) hi_j (by decide)) (zh_T (c := 1) hi_i (by decide)) (by decide) (by decide) (by decide) (by decide) rfl (zuF_M1 hi_i) ?_
  refine zW_gh 22 [some (.ref (21 + 8 * i)), some (.ref (21 + 8 * j)), some (.int (Int32.ofNat x2)), some (.int (0 : Int32))] [] 2 (fun f => rfl) ?_
  exact H
theorem b45_22 {P : zPt} {T : Nat → zX} {Y : zYt} {I : zIt} {A : zAt} {w : Nat → Int64} {p : Nat × Nat} {Q : zR → zH → Prop} {x2 x3 i j : Nat} (hi_i : i < 6) (hi_j : j < 6) (H : (x3 < 2147483648 ∧ (x2 < 2147483648 ∧ ((x2 ≤ x3 → zT zm_29 [.ref (21 + 8 * i)] p (zh (P, T, Y) I A w) (zK zm_45 73 [none, none, none, none] [] p Q)) ∧ (x3 < x2 → ((T j).2.2.2.1 < 2147483648 ∧ (((T j).2.2.2.1 ≤ x3 → zT zm_29 [.ref (21 + 8 * i)] p (zh (P, T, Y) I A w) (zK zm_45 73 [none, none, none, none] [] p Q)) ∧ (x3 < (T j).2.2.2.1 → (x3 < 200 ∧ zT zm_40 [.ref (21 + 8 * i), .int ((T j).2.2.2.2.2.2.2.1 x3), .int ((T j).2.2.2.2.2.2.2.2.1 x3), .int ((T j).2.2.2.2.2.2.2.2.2.1 x3), .long ((T j).2.2.2.2.2.2.2.2.2.2 x3)] p (zh (P, T, Y) I A w) (zK zm_45 63 [some (.ref (21 + 8 * i)), some (.ref (21 + 8 * j)), some (.int (Int32.ofNat x2)), some (.int (Int32.ofNat x3))] [] p Q)))))))))) : zW zm_45 22 [some (.ref (21 + 8 * i)), some (.ref (21 + 8 * j)), some (.int (Int32.ofNat x2)), some (.int (Int32.ofNat x3))] [] p (zh (P, T, Y) I A w) Q := by
  obtain ⟨h1, H⟩ := H
  obtain ⟨h2, H⟩ := H
  refine zW_bh (zcmp .ge (Int32.ofNat x3) (Int32.ofNat x2)) 69 27 [some (.ref (21 + 8 * i)), some (.ref (21 + 8 * j)), some (.int (Int32.ofNat x2)), some (.int (Int32.ofNat x3))] [] 3 (fun f => rfl) (fun c => ?_) (fun c => ?_)
  · have c9 : x2 ≤ x3 := (of_decide_eq_true ((zcN_ge (a := x3) (b := x2) rfl rfl h1 h2).symm.trans c))
    replace H := H.1 c9
    refine zW_gh 70 [some (.ref (21 + 8 * i)), some (.ref (21 + 8 * j)), some (.int (Int32.ofNat x2)), some (.int (Int32.ofNat x3))] [.ref (21 + 8 * i)] 1 (fun f => rfl) ?_
    refine zW_fg (L' := [none, none, none, none]) (zle_n _ (zle_n _ (zle_n _ (zle_n _ zle_nil)))) ?_
    exact zW_cv rfl rfl rfl (by have := hi_i; omega) (zh_T0 hi_i) rfl rfl rfl rfl H
  · have c9 : x3 < x2 := (Nat.lt_of_not_le (of_decide_eq_false ((zcN_ge (a := x3) (b := x2) rfl rfl h1 h2).symm.trans c)))
    replace H := H.2 c9
    refine zW_gh 29 [some (.ref (21 + 8 * i)), some (.ref (21 + 8 * j)), some (.int (Int32.ofNat x2)), some (.int (Int32.ofNat x3))] [.ref (21 + 8 * j), .int (Int32.ofNat x3)] 2 (fun f => rfl) ?_
    refine zW_gf rfl (by have := hi_j; omega) (zh_T0 hi_j) rfl (v := .int (Int32.ofNat ((T j).2.2.2.1))) rfl ?_
    obtain ⟨h3, H⟩ := H
    refine zW_bh (zcmp .ge (Int32.ofNat x3) (Int32.ofNat ((T j).2.2.2.1))) 69 35 [some (.ref (21 + 8 * i)), some (.ref (21 + 8 * j)), some (.int (Int32.ofNat x2)), some (.int (Int32.ofNat x3))] [] 1 (fun f => rfl) (fun c => ?_) (fun c => ?_)
    · have c9 : (T j).2.2.2.1 ≤ x3 := (of_decide_eq_true ((zcN_ge (a := x3) (b := (T j).2.2.2.1) rfl rfl h1 h3).symm.trans c))
      replace H := H.1 c9
      refine zW_gh 70 [some (.ref (21 + 8 * i)), some (.ref (21 + 8 * j)), some (.int (Int32.ofNat x2)), some (.int (Int32.ofNat x3))] [.ref (21 + 8 * i)] 1 (fun f => rfl) ?_
      refine zW_fg (L' := [none, none, none, none]) (zle_n _ (zle_n _ (zle_n _ (zle_n _ zle_nil)))) ?_
      exact zW_cv rfl rfl rfl (by have := hi_i; omega) (zh_T0 hi_i) rfl rfl rfl rfl H
    · have c9 : x3 < (T j).2.2.2.1 := (Nat.lt_of_not_le (of_decide_eq_false ((zcN_ge (a := x3) (b := (T j).2.2.2.1) rfl rfl h1 h3).symm.trans c)))
      replace H := H.2 c9
      refine zW_gh 37 [some (.ref (21 + 8 * i)), some (.ref (21 + 8 * j)), some (.int (Int32.ofNat x2)), some (.int (Int32.ofNat x3))] [.ref (21 + 8 * j), .ref (21 + 8 * i)] 2 (fun f => rfl) ?_
      refine zW_gf rfl (by have := hi_j; omega) (zh_T0 hi_j) rfl (v := .ref (21 + 8 * j + 4)) rfl ?_
      refine zW_gh 41 [some (.ref (21 + 8 * i)), some (.ref (21 + 8 * j)), some (.int (Int32.ofNat x2)), some (.int (Int32.ofNat x3))] [.int (Int32.ofNat x3), .ref (21 + 8 * j + 4), .ref (21 + 8 * i)] 1 (fun f => rfl) ?_
      obtain ⟨h4, H⟩ := H
      refine zW_iald rfl (by have := hi_j; omega) (zh_T (c := 4) hi_j (by decide)) (by decide) rfl h4 ?_
      refine zW_gh 43 [some (.ref (21 + 8 * i)), some (.ref (21 + 8 * j)), some (.int (Int32.ofNat x2)), some (.int (Int32.ofNat x3))] [.ref (21 + 8 * j), .int ((T j).2.2.2.2.2.2.2.1 x3), .ref (21 + 8 * i)] 1 (fun f => rfl) ?_
      refine zW_gf rfl (by have := hi_j; omega) (zh_T0 hi_j) rfl (v := .ref (21 + 8 * j + 5)) rfl ?_
      refine zW_gh 47 [some (.ref (21 + 8 * i)), some (.ref (21 + 8 * j)), some (.int (Int32.ofNat x2)), some (.int (Int32.ofNat x3))] [.int (Int32.ofNat x3), .ref (21 + 8 * j + 5), .int ((T j).2.2.2.2.2.2.2.1 x3), .ref (21 + 8 * i)] 1 (fun f => rfl) ?_
      refine zW_iald rfl (by have := hi_j; omega) (zh_T (c := 5) hi_j (by decide)) (by decide) rfl h4 ?_
      refine zW_gh 49 [some (.ref (21 + 8 * i)), some (.ref (21 + 8 * j)), some (.int (Int32.ofNat x2)), some (.int (Int32.ofNat x3))] [.ref (21 + 8 * j), .int ((T j).2.2.2.2.2.2.2.2.1 x3), .int ((T j).2.2.2.2.2.2.2.1 x3), .ref (21 + 8 * i)] 1 (fun f => rfl) ?_
      refine zW_gf rfl (by have := hi_j; omega) (zh_T0 hi_j) rfl (v := .ref (21 + 8 * j + 6)) rfl ?_
      refine zW_gh 53 [some (.ref (21 + 8 * i)), some (.ref (21 + 8 * j)), some (.int (Int32.ofNat x2)), some (.int (Int32.ofNat x3))] [.int (Int32.ofNat x3), .ref (21 + 8 * j + 6), .int ((T j).2.2.2.2.2.2.2.2.1 x3), .int ((T j).2.2.2.2.2.2.2.1 x3), .ref (21 + 8 * i)] 1 (fun f => rfl) ?_
      refine zW_iald rfl (by have := hi_j; omega) (zh_T (c := 6) hi_j (by decide)) (by decide) rfl h4 ?_
      refine zW_gh 55 [some (.ref (21 + 8 * i)), some (.ref (21 + 8 * j)), some (.int (Int32.ofNat x2)), some (.int (Int32.ofNat x3))] [.ref (21 + 8 * j), .int ((T j).2.2.2.2.2.2.2.2.2.1 x3), .int ((T j).2.2.2.2.2.2.2.2.1 x3), .int ((T j).2.2.2.2.2.2.2.1 x3), .ref (21 + 8 * i)] 1 (fun f => rfl) ?_
      refine zW_gf rfl (by have := hi_j; omega) (zh_T0 hi_j) rfl (v := .ref (21 + 8 * j + 7)) rfl ?_
      refine zW_gh 59 [some (.ref (21 + 8 * i)), some (.ref (21 + 8 * j)), some (.int (Int32.ofNat x2)), some (.int (Int32.ofNat x3))] [.int (Int32.ofNat x3), .ref (21 + 8 * j + 7), .int ((T j).2.2.2.2.2.2.2.2.2.1 x3), .int ((T j).2.2.2.2.2.2.2.2.1 x3), .int ((T j).2.2.2.2.2.2.2.1 x3), .ref (21 + 8 * i)] 1 (fun f => rfl) ?_
      refine zW_lald rfl (by have := hi_j; omega) (zh_T (c := 7) hi_j (by decide)) (by decide) rfl h4 ?_
      exact zW_cv rfl rfl rfl (by have := hi_i; omega) (zh_T0 hi_i) rfl rfl rfl rfl H
theorem b45_73 {P : zPt} {T : Nat → zX} {Y : zYt} {I : zIt} {A : zAt} {w : Nat → Int64} {p : Nat × Nat} {Q : zR → zH → Prop} (H : Q (.inl none) (zh (P, T, Y) I A w)) : zW zm_45 73 [none, none, none, none] [] p (zh (P, T, Y) I A w) Q := by
  exact zW_rh none 1 (fun f => rfl) H
theorem b45_63 {P : zPt} {T : Nat → zX} {Y : zYt} {I : zIt} {A : zAt} {w : Nat → Int64} {p : Nat × Nat} {Q : zR → zH → Prop} {x2 x3 i j : Nat} (H : zW zm_45 22 [some (.ref (21 + 8 * i)), some (.ref (21 + 8 * j)), some (.int (Int32.ofNat x2)), some (.int (Int32.ofNat (x3 + 1)))] [] p (zh (P, T, Y) I A w) Q) : zW zm_45 63 [some (.ref (21 + 8 * i)), some (.ref (21 + 8 * j)), some (.int (Int32.ofNat x2)), some (.int (Int32.ofNat x3))] [] p (zh (P, T, Y) I A w) Q := by
  refine zW_inc [some (.ref (21 + 8 * i)), some (.ref (21 + 8 * j)), some (.int (Int32.ofNat x2)), some (.int ((Int32.ofNat x3) + (1 : Int32)))] rfl rfl rfl ?_
  rw [show ((Int32.ofNat x3) + (1 : Int32)) = Int32.ofNat (x3 + 1) from (zN_a rfl rfl)]
  refine zW_gh 22 [some (.ref (21 + 8 * i)), some (.ref (21 + 8 * j)), some (.int (Int32.ofNat x2)), some (.int (Int32.ofNat (x3 + 1)))] [] 1 (fun f => rfl) ?_
  exact H
theorem b46 {P : zPt} {T : Nat → zX} {Y : zYt} {I : zIt} {A : zAt} {w : Nat → Int64} {p : Nat × Nat} {Q : zR → zH → Prop} {i j : Nat} (hi_j : j < 6) (H : zW zm_46 7 [some (.ref (21 + 8 * i)), some (.ref (21 + 8 * j)), some (.int ((Int32.ofNat ((T j).2.2.2.1)) - (1 : Int32))), none] [] p (zh (P, T, Y) I A w) Q) : zT zm_46 [.ref (21 + 8 * i), .ref (21 + 8 * j)] p (zh (P, T, Y) I A w) Q := by
  change zW zm_46 0 [some (.ref (21 + 8 * i)), some (.ref (21 + 8 * j)), none, none] [] p _ Q
  refine zW_gh 1 [some (.ref (21 + 8 * i)), some (.ref (21 + 8 * j)), none, none] [.ref (21 + 8 * j)] 1 (fun f => rfl) ?_
  refine zW_gf rfl (by have := hi_j; omega) (zh_T0 hi_j) rfl (v := .int (Int32.ofNat ((T j).2.2.2.1))) rfl ?_
  refine zW_gh 7 [some (.ref (21 + 8 * i)), some (.ref (21 + 8 * j)), some (.int ((Int32.ofNat ((T j).2.2.2.1)) - (1 : Int32))), none] [] 3 (fun f => rfl) ?_
  exact H
theorem b46_7 {P : zPt} {T : Nat → zX} {Y : zYt} {I : zIt} {A : zAt} {w : Nat → Int64} {p : Nat × Nat} {Q : zR → zH → Prop} {i j : Nat} {x2 : Int32} (hi_j : j < 6) (hi_i : i < 6) (H : ((x2 < (0 : Int32) → Q (.inl none) (zh (P, T, Y) I A w)) ∧ (¬ x2 < (0 : Int32) → ∀ k_x2, k_x2 < 2147483648 → x2 = Int32.ofNat k_x2 → (k_x2 < 200 ∧ ((¬ (((T j).2.2.2.2.2.2.2.1 k_x2) - (3 : Int32)) = (1 : Int32) → (((((T j).2.2.2.2.2.2.2.1 k_x2) - (3 : Int32)) < (0 : Int32) → zW zm_46 7 [some (.ref (21 + 8 * i)), some (.ref (21 + 8 * j)), some (.int ((Int32.ofNat k_x2) + Int32.ofInt (-1))), none] [] p (zh (P, T, Y) I A w) Q) ∧ (¬ (((T j).2.2.2.2.2.2.2.1 k_x2) - (3 : Int32)) < (0 : Int32) → zT zm_40 [.ref (21 + 8 * i), .int (((T j).2.2.2.2.2.2.2.1 k_x2) - (3 : Int32)), .int ((T j).2.2.2.2.2.2.2.2.1 k_x2), .int ((T j).2.2.2.2.2.2.2.2.2.1 k_x2), .long ((T j).2.2.2.2.2.2.2.2.2.2 k_x2)] p (zh (P, T, Y) I A w) (zK zm_46 78 [some (.ref (21 + 8 * i)), some (.ref (21 + 8 * j)), some (.int (Int32.ofNat k_x2)), none] [] p Q)))) ∧ ((((T j).2.2.2.2.2.2.2.1 k_x2) - (3 : Int32)) = (1 : Int32) → zT zm_40 [.ref (21 + 8 * i), .int (1 : Int32), .int ((T j).2.2.2.2.2.2.2.2.2.1 k_x2), .int ((T j).2.2.2.2.2.2.2.2.1 k_x2), .long ((T j).2.2.2.2.2.2.2.2.2.2 k_x2)] p (zh (P, T, Y) I A w) (zK zm_46 48 [some (.ref (21 + 8 * i)), some (.ref (21 + 8 * j)), some (.int (Int32.ofNat k_x2)), none] [] p Q))))))) : zW zm_46 7 [some (.ref (21 + 8 * i)), some (.ref (21 + 8 * j)), some (.int x2), none] [] p (zh (P, T, Y) I A w) Q := by
  refine zW_bh (zcmp .lt x2 (0 : Int32)) 84 11 [some (.ref (21 + 8 * i)), some (.ref (21 + 8 * j)), some (.int x2), none] [] 2 (fun f => rfl) (fun c => ?_) (fun c => ?_)
  · have c9 : x2 < (0 : Int32) := (of_decide_eq_true c)
    replace H := H.1 c9
    exact zW_rh none 1 (fun f => rfl) H
  · have c9 : ¬ x2 < (0 : Int32) := (of_decide_eq_false c)
    replace H := H.2 c9
    obtain ⟨k_x2, h_k_x2, e_k_x2⟩ := zNn c9
    replace H := H k_x2 h_k_x2 e_k_x2
    subst e_k_x2
    refine zW_gh 12 [some (.ref (21 + 8 * i)), some (.ref (21 + 8 * j)), some (.int (Int32.ofNat k_x2)), none] [.ref (21 + 8 * j)] 1 (fun f => rfl) ?_
    refine zW_gf rfl (by have := hi_j; omega) (zh_T0 hi_j) rfl (v := .ref (21 + 8 * j + 4)) rfl ?_
    refine zW_gh 16 [some (.ref (21 + 8 * i)), some (.ref (21 + 8 * j)), some (.int (Int32.ofNat k_x2)), none] [.int (Int32.ofNat k_x2), .ref (21 + 8 * j + 4)] 1 (fun f => rfl) ?_
    obtain ⟨h1, H⟩ := H
    refine zW_iald rfl (by have := hi_j; omega) (zh_T (c := 4) hi_j (by decide)) (by decide) rfl h1 ?_
    refine zW_bh (zcmp .ne (((T j).2.2.2.2.2.2.2.1 k_x2) - (3 : Int32)) (1 : Int32)) 51 25 [some (.ref (21 + 8 * i)), some (.ref (21 + 8 * j)), some (.int (Int32.ofNat k_x2)), some (.int (((T j).2.2.2.2.2.2.2.1 k_x2) - (3 : Int32)))] [] 6 (fun f => rfl) (fun c => ?_) (fun c => ?_)
    · have c9 : ¬ (((T j).2.2.2.2.2.2.2.1 k_x2) - (3 : Int32)) = (1 : Int32) := (by simpa [zcmp] using c)
      replace H := H.1 c9
      refine zW_bh (zcmp .lt (((T j).2.2.2.2.2.2.2.1 k_x2) - (3 : Int32)) (0 : Int32)) 78 55 [some (.ref (21 + 8 * i)), some (.ref (21 + 8 * j)), some (.int (Int32.ofNat k_x2)), some (.int (((T j).2.2.2.2.2.2.2.1 k_x2) - (3 : Int32)))] [] 2 (fun f => rfl) (fun c => ?_) (fun c => ?_)
      · have c9 : (((T j).2.2.2.2.2.2.2.1 k_x2) - (3 : Int32)) < (0 : Int32) := (of_decide_eq_true c)
        replace H := H.1 c9
        refine zW_inc [some (.ref (21 + 8 * i)), some (.ref (21 + 8 * j)), some (.int ((Int32.ofNat k_x2) + Int32.ofInt (-1))), some (.int (((T j).2.2.2.2.2.2.2.1 k_x2) - (3 : Int32)))] rfl rfl rfl ?_
        refine zW_gh 7 [some (.ref (21 + 8 * i)), some (.ref (21 + 8 * j)), some (.int ((Int32.ofNat k_x2) + Int32.ofInt (-1))), some (.int (((T j).2.2.2.2.2.2.2.1 k_x2) - (3 : Int32)))] [] 1 (fun f => rfl) ?_
        refine zW_fg (L' := [some (.ref (21 + 8 * i)), some (.ref (21 + 8 * j)), some (.int ((Int32.ofNat k_x2) + Int32.ofInt (-1))), none]) (zle_s _ (zle_s _ (zle_s _ (zle_n _ zle_nil)))) ?_
        exact H
      · have c9 : ¬ (((T j).2.2.2.2.2.2.2.1 k_x2) - (3 : Int32)) < (0 : Int32) := (of_decide_eq_false c)
        replace H := H.2 c9
        refine zW_gh 58 [some (.ref (21 + 8 * i)), some (.ref (21 + 8 * j)), some (.int (Int32.ofNat k_x2)), some (.int (((T j).2.2.2.2.2.2.2.1 k_x2) - (3 : Int32)))] [.ref (21 + 8 * j), .int (((T j).2.2.2.2.2.2.2.1 k_x2) - (3 : Int32)), .ref (21 + 8 * i)] 3 (fun f => rfl) ?_
        refine zW_gf rfl (by have := hi_j; omega) (zh_T0 hi_j) rfl (v := .ref (21 + 8 * j + 5)) rfl ?_
        refine zW_gh 62 [some (.ref (21 + 8 * i)), some (.ref (21 + 8 * j)), some (.int (Int32.ofNat k_x2)), some (.int (((T j).2.2.2.2.2.2.2.1 k_x2) - (3 : Int32)))] [.int (Int32.ofNat k_x2), .ref (21 + 8 * j + 5), .int (((T j).2.2.2.2.2.2.2.1 k_x2) - (3 : Int32)), .ref (21 + 8 * i)] 1 (fun f => rfl) ?_
        refine zW_iald rfl (by have := hi_j; omega) (zh_T (c := 5) hi_j (by decide)) (by decide) rfl h1 ?_
        refine zW_gh 64 [some (.ref (21 + 8 * i)), some (.ref (21 + 8 * j)), some (.int (Int32.ofNat k_x2)), some (.int (((T j).2.2.2.2.2.2.2.1 k_x2) - (3 : Int32)))] [.ref (21 + 8 * j), .int ((T j).2.2.2.2.2.2.2.2.1 k_x2), .int (((T j).2.2.2.2.2.2.2.1 k_x2) - (3 : Int32)), .ref (21 + 8 * i)] 1 (fun f => rfl) ?_
        refine zW_gf rfl (by have := hi_j; omega) (zh_T0 hi_j) rfl (v := .ref (21 + 8 * j + 6)) rfl ?_
        refine zW_gh 68 [some (.ref (21 + 8 * i)), some (.ref (21 + 8 * j)), some (.int (Int32.ofNat k_x2)), some (.int (((T j).2.2.2.2.2.2.2.1 k_x2) - (3 : Int32)))] [.int (Int32.ofNat k_x2), .ref (21 + 8 * j + 6), .int ((T j).2.2.2.2.2.2.2.2.1 k_x2), .int (((T j).2.2.2.2.2.2.2.1 k_x2) - (3 : Int32)), .ref (21 + 8 * i)] 1 (fun f => rfl) ?_
        refine zW_iald rfl (by have := hi_j; omega) (zh_T (c := 6) hi_j (by decide)) (by decide) rfl h1 ?_
        refine zW_gh 70 [some (.ref (21 + 8 * i)), some (.ref (21 + 8 * j)), some (.int (Int32.ofNat k_x2)), some (.int (((T j).2.2.2.2.2.2.2.1 k_x2) - (3 : Int32)))] [.ref (21 + 8 * j), .int ((T j).2.2.2.2.2.2.2.2.2.1 k_x2), .int ((T j).2.2.2.2.2.2.2.2.1 k_x2), .int (((T j).2.2.2.2.2.2.2.1 k_x2) - (3 : Int32)), .ref (21 + 8 * i)] 1 (fun f => rfl) ?_
        refine zW_gf rfl (by have := hi_j; omega) (zh_T0 hi_j) rfl (v := .ref (21 + 8 * j + 7)) rfl ?_
        refine zW_gh 74 [some (.ref (21 + 8 * i)), some (.ref (21 + 8 * j)), some (.int (Int32.ofNat k_x2)), some (.int (((T j).2.2.2.2.2.2.2.1 k_x2) - (3 : Int32)))] [.int (Int32.ofNat k_x2), .ref (21 + 8 * j + 7), .int ((T j).2.2.2.2.2.2.2.2.2.1 k_x2), .int ((T j).2.2.2.2.2.2.2.2.1 k_x2), .int (((T j).2.2.2.2.2.2.2.1 k_x2) - (3 : Int32)), .ref (21 + 8 * i)] 1 (fun f => rfl) ?_
        refine zW_lald rfl (by have := hi_j; omega) (zh_T (c := 7) hi_j (by decide)) (by decide) rfl h1 ?_
        refine zW_fg (L' := [some (.ref (21 + 8 * i)), some (.ref (21 + 8 * j)), some (.int (Int32.ofNat k_x2)), none]) (zle_s _ (zle_s _ (zle_s _ (zle_n _ zle_nil)))) ?_
        exact zW_cv rfl rfl rfl (by have := hi_i; omega) (zh_T0 hi_i) rfl rfl rfl rfl H
    · have c9 : (((T j).2.2.2.2.2.2.2.1 k_x2) - (3 : Int32)) = (1 : Int32) := (by simpa [zcmp] using c)
      replace H := H.2 c9
      refine zW_gh 28 [some (.ref (21 + 8 * i)), some (.ref (21 + 8 * j)), some (.int (Int32.ofNat k_x2)), some (.int (((T j).2.2.2.2.2.2.2.1 k_x2) - (3 : Int32)))] [.ref (21 + 8 * j), .int (1 : Int32), .ref (21 + 8 * i)] 3 (fun f => rfl) ?_
      refine zW_gf rfl (by have := hi_j; omega) (zh_T0 hi_j) rfl (v := .ref (21 + 8 * j + 6)) rfl ?_
      refine zW_gh 32 [some (.ref (21 + 8 * i)), some (.ref (21 + 8 * j)), some (.int (Int32.ofNat k_x2)), some (.int (((T j).2.2.2.2.2.2.2.1 k_x2) - (3 : Int32)))] [.int (Int32.ofNat k_x2), .ref (21 + 8 * j + 6), .int (1 : Int32), .ref (21 + 8 * i)] 1 (fun f => rfl) ?_
      refine zW_iald rfl (by have := hi_j; omega) (zh_T (c := 6) hi_j (by decide)) (by decide) rfl h1 ?_
      refine zW_gh 34 [some (.ref (21 + 8 * i)), some (.ref (21 + 8 * j)), some (.int (Int32.ofNat k_x2)), some (.int (((T j).2.2.2.2.2.2.2.1 k_x2) - (3 : Int32)))] [.ref (21 + 8 * j), .int ((T j).2.2.2.2.2.2.2.2.2.1 k_x2), .int (1 : Int32), .ref (21 + 8 * i)] 1 (fun f => rfl) ?_
      refine zW_gf rfl (by have := hi_j; omega) (zh_T0 hi_j) rfl (v := .ref (21 + 8 * j + 5)) rfl ?_
      refine zW_gh 38 [some (.ref (21 + 8 * i)), some (.ref (21 + 8 * j)), some (.int (Int32.ofNat k_x2)), some (.int (((T j).2.2.2.2.2.2.2.1 k_x2) - (3 : Int32)))] [.int (Int32.ofNat k_x2), .ref (21 + 8 * j + 5), .int ((T j).2.2.2.2.2.2.2.2.2.1 k_x2), .int (1 : Int32), .ref (21 + 8 * i)] 1 (fun f => rfl) ?_
      refine zW_iald rfl (by have := hi_j; omega) (zh_T (c := 5) hi_j (by decide)) (by decide) rfl h1 ?_
      refine zW_gh 40 [some (.ref (21 + 8 * i)), some (.ref (21 + 8 * j)), some (.int (Int32.ofNat k_x2)), some (.int (((T j).2.2.2.2.2.2.2.1 k_x2) - (3 : Int32)))] [.ref (21 + 8 * j), .int ((T j).2.2.2.2.2.2.2.2.1 k_x2), .int ((T j).2.2.2.2.2.2.2.2.2.1 k_x2), .int (1 : Int32), .ref (21 + 8 * i)] 1 (fun f => rfl) ?_
      refine zW_gf rfl (by have := hi_j; omega) (zh_T0 hi_j) rfl (v := .ref (21 + 8 * j + 7)) rfl ?_
      refine zW_gh 44 [some (.ref (21 + 8 * i)), some (.ref (21 + 8 * j)), some (.int (Int32.ofNat k_x2)), some (.int (((T j).2.2.2.2.2.2.2.1 k_x2) - (3 : Int32)))] [.int (Int32.ofNat k_x2), .ref (21 + 8 * j + 7), .int ((T j).2.2.2.2.2.2.2.2.1 k_x2), .int ((T j).2.2.2.2.2.2.2.2.2.1 k_x2), .int (1 : Int32), .ref (21 + 8 * i)] 1 (fun f => rfl) ?_
      refine zW_lald rfl (by have := hi_j; omega) (zh_T (c := 7) hi_j (by decide)) (by decide) rfl h1 ?_
      refine zW_fg (L' := [some (.ref (21 + 8 * i)), some (.ref (21 + 8 * j)), some (.int (Int32.ofNat k_x2)), none]) (zle_s _ (zle_s _ (zle_s _ (zle_n _ zle_nil)))) ?_
      exact zW_cv rfl rfl rfl (by have := hi_i; omega) (zh_T0 hi_i) rfl rfl rfl rfl H
theorem b46_78 {P : zPt} {T : Nat → zX} {Y : zYt} {I : zIt} {A : zAt} {w : Nat → Int64} {p : Nat × Nat} {Q : zR → zH → Prop} {x2 i j : Nat} (H : zW zm_46 7 [some (.ref (21 + 8 * i)), some (.ref (21 + 8 * j)), some (.int ((Int32.ofNat x2) + Int32.ofInt (-1))), none] [] p (zh (P, T, Y) I A w) Q) : zW zm_46 78 [some (.ref (21 + 8 * i)), some (.ref (21 + 8 * j)), some (.int (Int32.ofNat x2)), none] [] p (zh (P, T, Y) I A w) Q := by
  refine zW_inc [some (.ref (21 + 8 * i)), some (.ref (21 + 8 * j)), some (.int ((Int32.ofNat x2) + Int32.ofInt (-1))), none] rfl rfl rfl ?_
  refine zW_gh 7 [some (.ref (21 + 8 * i)), some (.ref (21 + 8 * j)), some (.int ((Int32.ofNat x2) + Int32.ofInt (-1))), none] [] 1 (fun f => rfl) ?_
  exact H
theorem b46_48 {P : zPt} {T : Nat → zX} {Y : zYt} {I : zIt} {A : zAt} {w : Nat → Int64} {p : Nat × Nat} {Q : zR → zH → Prop} {x2 i j : Nat} (H : zW zm_46 7 [some (.ref (21 + 8 * i)), some (.ref (21 + 8 * j)), some (.int ((Int32.ofNat x2) + Int32.ofInt (-1))), none] [] p (zh (P, T, Y) I A w) Q) : zW zm_46 48 [some (.ref (21 + 8 * i)), some (.ref (21 + 8 * j)), some (.int (Int32.ofNat x2)), none] [] p (zh (P, T, Y) I A w) Q := by
  refine zW_gh 78 [some (.ref (21 + 8 * i)), some (.ref (21 + 8 * j)), some (.int (Int32.ofNat x2)), none] [] 1 (fun f => rfl) ?_
  refine zW_inc [some (.ref (21 + 8 * i)), some (.ref (21 + 8 * j)), some (.int ((Int32.ofNat x2) + Int32.ofInt (-1))), none] rfl rfl rfl ?_
  refine zW_gh 7 [some (.ref (21 + 8 * i)), some (.ref (21 + 8 * j)), some (.int ((Int32.ofNat x2) + Int32.ofInt (-1))), none] [] 1 (fun f => rfl) ?_
  exact H
theorem b47 {P : zPt} {T : Nat → zX} {Y : zYt} {I : zIt} {A : zAt} {w : Nat → Int64} {p : Nat × Nat} {Q : zR → zH → Prop} {a1 i j : Nat} (H : zW zm_47 2 [some (.ref (21 + 8 * i)), some (.ref (21 + 8 * j)), some (.int (Int32.ofNat a1)), some (.int (Int32.ofNat 0)), none] [] p (zh (P, T, Y) I A w) Q) : zT zm_47 [.ref (21 + 8 * i), .ref (21 + 8 * j), .int (Int32.ofNat a1)] p (zh (P, T, Y) I A w) Q := by
  change zW zm_47 0 [some (.ref (21 + 8 * i)), some (.ref (21 + 8 * j)), some (.int (Int32.ofNat a1)), none, none] [] p _ Q
  refine zW_gh 2 [some (.ref (21 + 8 * i)), some (.ref (21 + 8 * j)), some (.int (Int32.ofNat a1)), some (.int (0 : Int32)), none] [] 2 (fun f => rfl) ?_
  exact H
theorem b47_2 {P : zPt} {T : Nat → zX} {Y : zYt} {I : zIt} {A : zAt} {w : Nat → Int64} {p : Nat × Nat} {Q : zR → zH → Prop} {x2 x3 i j : Nat} (H : (x3 < 2147483648 ∧ (x2 < 2147483648 ∧ ((x2 ≤ x3 → Q (.inl (some (.int (1 : Int32)))) (zh (P, T, Y) I A w)) ∧ (x3 < x2 → zW zm_47 10 [some (.ref (21 + 8 * i)), some (.ref (21 + 8 * j)), some (.int (Int32.ofNat x2)), some (.int (Int32.ofNat x3)), some (.int (Int32.ofNat 0))] [] p (zh (P, T, Y) I A w) Q))))) : zW zm_47 2 [some (.ref (21 + 8 * i)), some (.ref (21 + 8 * j)), some (.int (Int32.ofNat x2)), some (.int (Int32.ofNat x3)), none] [] p (zh (P, T, Y) I A w) Q := by
  obtain ⟨h1, H⟩ := H
  obtain ⟨h2, H⟩ := H
  refine zW_bh (zcmp .ge (Int32.ofNat x3) (Int32.ofNat x2)) 51 7 [some (.ref (21 + 8 * i)), some (.ref (21 + 8 * j)), some (.int (Int32.ofNat x2)), some (.int (Int32.ofNat x3)), none] [] 3 (fun f => rfl) (fun c => ?_) (fun c => ?_)
  · have c9 : x2 ≤ x3 := (of_decide_eq_true ((zcN_ge (a := x3) (b := x2) rfl rfl h1 h2).symm.trans c))
    replace H := H.1 c9
    refine zW_gh 52 [some (.ref (21 + 8 * i)), some (.ref (21 + 8 * j)), some (.int (Int32.ofNat x2)), some (.int (Int32.ofNat x3)), none] [.int (1 : Int32)] 1 (fun f => rfl) ?_
    exact zW_rh (some (.int (1 : Int32))) 1 (fun f => rfl) H
  · have c9 : x3 < x2 := (Nat.lt_of_not_le (of_decide_eq_false ((zcN_ge (a := x3) (b := x2) rfl rfl h1 h2).symm.trans c)))
    replace H := H.2 c9
    refine zW_gh 10 [some (.ref (21 + 8 * i)), some (.ref (21 + 8 * j)), some (.int (Int32.ofNat x2)), some (.int (Int32.ofNat x3)), some (.int (0 : Int32))] [] 2 (fun f => rfl) ?_
    exact H
theorem b47_10 {P : zPt} {T : Nat → zX} {Y : zYt} {I : zIt} {A : zAt} {w : Nat → Int64} {p : Nat × Nat} {Q : zR → zH → Prop} {x2 x3 x4 i j : Nat} (hi_i : i < 6) (hi_j : j < 6) (H : (x4 < 2147483648 ∧ ((T i).2.2.1 < 2147483648 ∧ (((T i).2.2.1 ≤ x4 → zW zm_47 2 [some (.ref (21 + 8 * i)), some (.ref (21 + 8 * j)), some (.int (Int32.ofNat x2)), some (.int (Int32.ofNat (x3 + 1))), none] [] p (zh (P, T, Y) I A w) Q) ∧ (x4 < (T i).2.2.1 → (zXb (T i) ∧ (zXb (T j) ∧ (((zxat (T i) (Int32.ofNat x3) (Int32.ofNat x4)) = (zxat (T j) (Int32.ofNat x3) (Int32.ofNat x4)) → zW zm_47 10 [some (.ref (21 + 8 * i)), some (.ref (21 + 8 * j)), some (.int (Int32.ofNat x2)), some (.int (Int32.ofNat x3)), some (.int (Int32.ofNat (x4 + 1)))] [] p (zh (P, T, Y) I A w) Q) ∧ (¬ (zxat (T i) (Int32.ofNat x3) (Int32.ofNat x4)) = (zxat (T j) (Int32.ofNat x3) (Int32.ofNat x4)) → Q (.inl (some (.int (0 : Int32)))) (zh (P, T, Y) I A w)))))))))) : zW zm_47 10 [some (.ref (21 + 8 * i)), some (.ref (21 + 8 * j)), some (.int (Int32.ofNat x2)), some (.int (Int32.ofNat x3)), some (.int (Int32.ofNat x4))] [] p (zh (P, T, Y) I A w) Q := by
  refine zW_gh 13 [some (.ref (21 + 8 * i)), some (.ref (21 + 8 * j)), some (.int (Int32.ofNat x2)), some (.int (Int32.ofNat x3)), some (.int (Int32.ofNat x4))] [.ref (21 + 8 * i), .int (Int32.ofNat x4)] 2 (fun f => rfl) ?_
  refine zW_gf rfl (by have := hi_i; omega) (zh_T0 hi_i) rfl (v := .int (Int32.ofNat ((T i).2.2.1))) rfl ?_
  obtain ⟨h1, H⟩ := H
  obtain ⟨h2, H⟩ := H
  refine zW_bh (zcmp .ge (Int32.ofNat x4) (Int32.ofNat ((T i).2.2.1))) 45 19 [some (.ref (21 + 8 * i)), some (.ref (21 + 8 * j)), some (.int (Int32.ofNat x2)), some (.int (Int32.ofNat x3)), some (.int (Int32.ofNat x4))] [] 1 (fun f => rfl) (fun c => ?_) (fun c => ?_)
  · have c9 : (T i).2.2.1 ≤ x4 := (of_decide_eq_true ((zcN_ge (a := x4) (b := (T i).2.2.1) rfl rfl h1 h2).symm.trans c))
    replace H := H.1 c9
    refine zW_inc [some (.ref (21 + 8 * i)), some (.ref (21 + 8 * j)), some (.int (Int32.ofNat x2)), some (.int ((Int32.ofNat x3) + (1 : Int32))), some (.int (Int32.ofNat x4))] rfl rfl rfl ?_
    rw [show ((Int32.ofNat x3) + (1 : Int32)) = Int32.ofNat (x3 + 1) from (zN_a rfl rfl)]
    refine zW_gh 2 [some (.ref (21 + 8 * i)), some (.ref (21 + 8 * j)), some (.int (Int32.ofNat x2)), some (.int (Int32.ofNat (x3 + 1))), some (.int (Int32.ofNat x4))] [] 1 (fun f => rfl) ?_
    refine zW_fg (L' := [some (.ref (21 + 8 * i)), some (.ref (21 + 8 * j)), some (.int (Int32.ofNat x2)), some (.int (Int32.ofNat (x3 + 1))), none]) (zle_s _ (zle_s _ (zle_s _ (zle_s _ (zle_n _ zle_nil))))) ?_
    exact H
  · have c9 : x4 < (T i).2.2.1 := (Nat.lt_of_not_le (of_decide_eq_false ((zcN_ge (a := x4) (b := (T i).2.2.1) rfl rfl h1 h2).symm.trans c)))
    replace H := H.2 c9
    refine zW_gh 23 [some (.ref (21 + 8 * i)), some (.ref (21 + 8 * j)), some (.int (Int32.ofNat x2)), some (.int (Int32.ofNat x3)), some (.int (Int32.ofNat x4))] [.int (Int32.ofNat x4), .int (Int32.ofNat x3), .ref (21 + 8 * i)] 3 (fun f => rfl) ?_
    obtain ⟨h3, H⟩ := H
    refine zW_cv rfl rfl rfl (by have := hi_i; omega) (zh_T0 hi_i) rfl rfl rfl rfl ((s31 hi_i) h3 ?_)
    change zW zm_47 26 [some (.ref (21 + 8 * i)), some (.ref (21 + 8 * j)), some (.int (Int32.ofNat x2)), some (.int (Int32.ofNat x3)), some (.int (Int32.ofNat x4))] [.long (zxat (T i) (Int32.ofNat x3) (Int32.ofNat x4))] p _ Q
    generalize (zxat (T i) (Int32.ofNat x3) (Int32.ofNat x4)) = g4 at H ⊢
    refine zW_gh 30 [some (.ref (21 + 8 * i)), some (.ref (21 + 8 * j)), some (.int (Int32.ofNat x2)), some (.int (Int32.ofNat x3)), some (.int (Int32.ofNat x4))] [.int (Int32.ofNat x4), .int (Int32.ofNat x3), .ref (21 + 8 * j), .long g4] 3 (fun f => rfl) ?_
    obtain ⟨h5, H⟩ := H
    refine zW_cv rfl rfl rfl (by have := hi_j; omega) (zh_T0 hi_j) rfl rfl rfl rfl ((s31 hi_j) h5 ?_)
    change zW zm_47 33 [some (.ref (21 + 8 * i)), some (.ref (21 + 8 * j)), some (.int (Int32.ofNat x2)), some (.int (Int32.ofNat x3)), some (.int (Int32.ofNat x4))] [.long (zxat (T j) (Int32.ofNat x3) (Int32.ofNat x4)), .long g4] p _ Q
    generalize (zxat (T j) (Int32.ofNat x3) (Int32.ofNat x4)) = g6 at H ⊢
    refine zW_bh (zcmp .eq (lg_cmp g4 g6) (0 : Int32)) 39 37 [some (.ref (21 + 8 * i)), some (.ref (21 + 8 * j)), some (.int (Int32.ofNat x2)), some (.int (Int32.ofNat x3)), some (.int (Int32.ofNat x4))] [] 2 (fun f => rfl) (fun c => ?_) (fun c => ?_)
    · have c9 : g4 = g6 := (of_decide_eq_true ((zcL_eq _ _).symm.trans c))
      replace H := H.1 c9
      refine zW_inc [some (.ref (21 + 8 * i)), some (.ref (21 + 8 * j)), some (.int (Int32.ofNat x2)), some (.int (Int32.ofNat x3)), some (.int ((Int32.ofNat x4) + (1 : Int32)))] rfl rfl rfl ?_
      rw [show ((Int32.ofNat x4) + (1 : Int32)) = Int32.ofNat (x4 + 1) from (zN_a rfl rfl)]
      refine zW_gh 10 [some (.ref (21 + 8 * i)), some (.ref (21 + 8 * j)), some (.int (Int32.ofNat x2)), some (.int (Int32.ofNat x3)), some (.int (Int32.ofNat (x4 + 1)))] [] 1 (fun f => rfl) ?_
      exact H
    · have c9 : ¬ g4 = g6 := (of_decide_eq_false ((zcL_eq _ _).symm.trans c))
      replace H := H.2 c9
      refine zW_gh 38 [some (.ref (21 + 8 * i)), some (.ref (21 + 8 * j)), some (.int (Int32.ofNat x2)), some (.int (Int32.ofNat x3)), some (.int (Int32.ofNat x4))] [.int (0 : Int32)] 1 (fun f => rfl) ?_
      exact zW_rh (some (.int (0 : Int32))) 1 (fun f => rfl) H
theorem b12 {P : zPt} {T : Nat → zX} {Y : zYt} {I : zIt} {A : zAt} {w : Nat → Int64} {p : Nat × Nat} {Q : zR → zH → Prop} {a1 a2 i : Nat} (H : zW zm_12 8 [some (.ref (21 + 8 * i)), none, some (.int (Int32.ofNat a2)), some (.int (-1 : Int32)), some (.long (0 : Int64)), none, some (.int (Int32.ofNat a1)), none, none] [] p (zh (P, T, Y) I A w) Q) : zT zm_12 [.ref (21 + 8 * i), .int (Int32.ofNat a1), .int (Int32.ofNat a2)] p (zh (P, T, Y) I A w) Q := by
  change zW zm_12 0 [some (.ref (21 + 8 * i)), some (.int (Int32.ofNat a1)), some (.int (Int32.ofNat a2)), none, none, none, none, none, none] [] p _ Q
  refine zW_gh 8 [some (.ref (21 + 8 * i)), some (.int (Int32.ofNat a1)), some (.int (Int32.ofNat a2)), some (.int (-1 : Int32)), some (.long (0 : Int64)), none, some (.int (Int32.ofNat a1)), none, none] [] 6 (fun f => rfl) ?_
  refine zW_fg (L' := [some (.ref (21 + 8 * i)), none, some (.int (Int32.ofNat a2)), some (.int (-1 : Int32)), some (.long (0 : Int64)), none, some (.int (Int32.ofNat a1)), none, none]) (zle_s _ (zle_n _ (zle_s _ (zle_s _ (zle_s _ (zle_s _ (zle_s _ (zle_s _ (zle_s _ zle_nil))))))))) ?_
  exact H
theorem b12_8 {P : zPt} {T : Nat → zX} {Y : zYt} {I : zIt} {A : zAt} {w : Nat → Int64} {p : Nat × Nat} {Q : zR → zH → Prop} {x2 x6 i : Nat} {x3 : Int32} {x4 : Int64} (hi_i : i < 6) (H : (x6 < 2147483648 ∧ ((T i).2.1 < 2147483648 ∧ (((T i).2.1 ≤ x6 → Q (.inl (some (.int x3))) (zh (P, T, Y) I A w)) ∧ (x6 < (T i).2.1 → (zXb (T i) ∧ zT (zrm ((T i).1) zm_18 zm_3 zm_63) [.ref (zra ((T i).1)), .long (zxat (T i) (Int32.ofNat x6) (Int32.ofNat x2))] p (zh (P, T, Y) I A w) (zK zm_12 31 [some (.ref (21 + 8 * i)), none, some (.int (Int32.ofNat x2)), some (.int x3), some (.long x4), none, some (.int (Int32.ofNat x6)), none, none] [] p Q))))))) : zW zm_12 8 [some (.ref (21 + 8 * i)), none, some (.int (Int32.ofNat x2)), some (.int x3), some (.long x4), none, some (.int (Int32.ofNat x6)), none, none] [] p (zh (P, T, Y) I A w) Q := by
  refine zW_gh 11 [some (.ref (21 + 8 * i)), none, some (.int (Int32.ofNat x2)), some (.int x3), some (.long x4), none, some (.int (Int32.ofNat x6)), none, none] [.ref (21 + 8 * i), .int (Int32.ofNat x6)] 2 (fun f => rfl) ?_
  refine zW_gf rfl (by have := hi_i; omega) (zh_T0 hi_i) rfl (v := .int (Int32.ofNat ((T i).2.1))) rfl ?_
  obtain ⟨h1, H⟩ := H
  obtain ⟨h2, H⟩ := H
  refine zW_bh (zcmp .ge (Int32.ofNat x6) (Int32.ofNat ((T i).2.1))) 66 17 [some (.ref (21 + 8 * i)), none, some (.int (Int32.ofNat x2)), some (.int x3), some (.long x4), none, some (.int (Int32.ofNat x6)), none, none] [] 1 (fun f => rfl) (fun c => ?_) (fun c => ?_)
  · have c9 : (T i).2.1 ≤ x6 := (of_decide_eq_true ((zcN_ge (a := x6) (b := (T i).2.1) rfl rfl h1 h2).symm.trans c))
    replace H := H.1 c9
    refine zW_gh 67 [some (.ref (21 + 8 * i)), none, some (.int (Int32.ofNat x2)), some (.int x3), some (.long x4), none, some (.int (Int32.ofNat x6)), none, none] [.int x3] 1 (fun f => rfl) ?_
    exact zW_rh (some (.int x3)) 1 (fun f => rfl) H
  · have c9 : x6 < (T i).2.1 := (Nat.lt_of_not_le (of_decide_eq_false ((zcN_ge (a := x6) (b := (T i).2.1) rfl rfl h1 h2).symm.trans c)))
    replace H := H.2 c9
    refine zW_gh 18 [some (.ref (21 + 8 * i)), none, some (.int (Int32.ofNat x2)), some (.int x3), some (.long x4), none, some (.int (Int32.ofNat x6)), none, none] [.ref (21 + 8 * i)] 1 (fun f => rfl) ?_
    refine zW_gf rfl (by have := hi_i; omega) (zh_T0 hi_i) rfl (v := .ref (zra ((T i).1))) rfl ?_
    refine zW_gh 25 [some (.ref (21 + 8 * i)), none, some (.int (Int32.ofNat x2)), some (.int x3), some (.long x4), none, some (.int (Int32.ofNat x6)), none, none] [.int (Int32.ofNat x2), .int (Int32.ofNat x6), .ref (21 + 8 * i), .ref (zra ((T i).1))] 3 (fun f => rfl) ?_
    obtain ⟨h3, H⟩ := H
    refine zW_cv rfl rfl rfl (by have := hi_i; omega) (zh_T0 hi_i) rfl rfl rfl rfl ((s31 hi_i) h3 ?_)
    change zW zm_12 28 [some (.ref (21 + 8 * i)), none, some (.int (Int32.ofNat x2)), some (.int x3), some (.long x4), none, some (.int (Int32.ofNat x6)), none, none] [.long (zxat (T i) (Int32.ofNat x6) (Int32.ofNat x2)), .ref (zra ((T i).1))] p _ Q
    generalize (zxat (T i) (Int32.ofNat x6) (Int32.ofNat x2)) = g4 at H ⊢
    exact zW_cr rfl rfl rfl rfl rfl rfl rfl rfl rfl rfl rfl rfl rfl H
theorem b12_31 {P : zPt} {T : Nat → zX} {Y : zYt} {I : zIt} {A : zAt} {w : Nat → Int64} {p : Nat × Nat} {Q : zR → zH → Prop} {x2 x6 i : Nat} {x3 : Int32} {x4 rv : Int64} (H : ((rv = (0 : Int64) → zW zm_12 8 [some (.ref (21 + 8 * i)), none, some (.int (Int32.ofNat x2)), some (.int x3), some (.long x4), none, some (.int (Int32.ofNat (x6 + 1))), none, none] [] p (zh (P, T, Y) I A w) Q) ∧ (¬ rv = (0 : Int64) → ((x3 = (-1 : Int32) → zW zm_12 8 [some (.ref (21 + 8 * i)), none, some (.int (Int32.ofNat x2)), some (.int (Int32.ofNat x6)), some (.long rv), none, some (.int (Int32.ofNat (x6 + 1))), none, none] [] p (zh (P, T, Y) I A w) Q) ∧ (¬ x3 = (-1 : Int32) → ((x4 ≤ rv → zW zm_12 8 [some (.ref (21 + 8 * i)), none, some (.int (Int32.ofNat x2)), some (.int x3), some (.long x4), none, some (.int (Int32.ofNat (x6 + 1))), none, none] [] p (zh (P, T, Y) I A w) Q) ∧ (¬ x4 ≤ rv → zW zm_12 8 [some (.ref (21 + 8 * i)), none, some (.int (Int32.ofNat x2)), some (.int (Int32.ofNat x6)), some (.long rv), none, some (.int (Int32.ofNat (x6 + 1))), none, none] [] p (zh (P, T, Y) I A w) Q))))))) : zW zm_12 31 [some (.ref (21 + 8 * i)), none, some (.int (Int32.ofNat x2)), some (.int x3), some (.long x4), none, some (.int (Int32.ofNat x6)), none, none] [.long rv] p (zh (P, T, Y) I A w) Q := by
  refine zW_bh (zcmp .eq (lg_cmp rv (0 : Int64)) (0 : Int32)) 60 40 [some (.ref (21 + 8 * i)), none, some (.int (Int32.ofNat x2)), some (.int x3), some (.long x4), none, some (.int (Int32.ofNat x6)), some (.long rv), none] [] 5 (fun f => rfl) (fun c => ?_) (fun c => ?_)
  · have c9 : rv = (0 : Int64) := (of_decide_eq_true ((zcL_eq _ _).symm.trans c))
    replace H := H.1 c9
    refine zW_inc [some (.ref (21 + 8 * i)), none, some (.int (Int32.ofNat x2)), some (.int x3), some (.long x4), none, some (.int ((Int32.ofNat x6) + (1 : Int32))), some (.long rv), none] rfl rfl rfl ?_
    rw [show ((Int32.ofNat x6) + (1 : Int32)) = Int32.ofNat (x6 + 1) from (zN_a rfl rfl)]
    refine zW_gh 8 [some (.ref (21 + 8 * i)), none, some (.int (Int32.ofNat x2)), some (.int x3), some (.long x4), none, some (.int (Int32.ofNat (x6 + 1))), some (.long rv), none] [] 1 (fun f => rfl) ?_
    refine zW_fg (L' := [some (.ref (21 + 8 * i)), none, some (.int (Int32.ofNat x2)), some (.int x3), some (.long x4), none, some (.int (Int32.ofNat (x6 + 1))), none, none]) (zle_s _ (zle_s _ (zle_s _ (zle_s _ (zle_s _ (zle_s _ (zle_s _ (zle_n _ (zle_s _ zle_nil))))))))) ?_
    exact H
  · have c9 : ¬ rv = (0 : Int64) := (of_decide_eq_false ((zcL_eq _ _).symm.trans c))
    replace H := H.2 c9
    refine zW_bh (zcmp .eq x3 (-1 : Int32)) 53 45 [some (.ref (21 + 8 * i)), none, some (.int (Int32.ofNat x2)), some (.int x3), some (.long x4), none, some (.int (Int32.ofNat x6)), some (.long rv), none] [] 3 (fun f => rfl) (fun c => ?_) (fun c => ?_)
    · have c9 : x3 = (-1 : Int32) := (of_decide_eq_true c)
      replace H := H.1 c9
      refine zW_gh 60 [some (.ref (21 + 8 * i)), none, some (.int (Int32.ofNat x2)), some (.int (Int32.ofNat x6)), some (.long rv), none, some (.int (Int32.ofNat x6)), some (.long rv), none] [] 4 (fun f => rfl) ?_
      refine zW_inc [some (.ref (21 + 8 * i)), none, some (.int (Int32.ofNat x2)), some (.int (Int32.ofNat x6)), some (.long rv), none, some (.int ((Int32.ofNat x6) + (1 : Int32))), some (.long rv), none] rfl rfl rfl ?_
      rw [show ((Int32.ofNat x6) + (1 : Int32)) = Int32.ofNat (x6 + 1) from (zN_a rfl rfl)]
      refine zW_gh 8 [some (.ref (21 + 8 * i)), none, some (.int (Int32.ofNat x2)), some (.int (Int32.ofNat x6)), some (.long rv), none, some (.int (Int32.ofNat (x6 + 1))), some (.long rv), none] [] 1 (fun f => rfl) ?_
      refine zW_fg (L' := [some (.ref (21 + 8 * i)), none, some (.int (Int32.ofNat x2)), some (.int (Int32.ofNat x6)), some (.long rv), none, some (.int (Int32.ofNat (x6 + 1))), none, none]) (zle_s _ (zle_s _ (zle_s _ (zle_s _ (zle_s _ (zle_s _ (zle_s _ (zle_n _ (zle_s _ zle_nil))))))))) ?_
      exact H
    · have c9 : ¬ x3 = (-1 : Int32) := (of_decide_eq_false c)
      replace H := H.2 c9
      refine zW_bh (zcmp .ge (lg_cmp rv x4) (0 : Int32)) 60 53 [some (.ref (21 + 8 * i)), none, some (.int (Int32.ofNat x2)), some (.int x3), some (.long x4), none, some (.int (Int32.ofNat x6)), some (.long rv), none] [] 4 (fun f => rfl) (fun c => ?_) (fun c => ?_)
      · have c9 : x4 ≤ rv := (of_decide_eq_true ((zcL_ge _ _).symm.trans c))
        replace H := H.1 c9
        refine zW_inc [some (.ref (21 + 8 * i)), none, some (.int (Int32.ofNat x2)), some (.int x3), some (.long x4), none, some (.int ((Int32.ofNat x6) + (1 : Int32))), some (.long rv), none] rfl rfl rfl ?_
        rw [show ((Int32.ofNat x6) + (1 : Int32)) = Int32.ofNat (x6 + 1) from (zN_a rfl rfl)]
        refine zW_gh 8 [some (.ref (21 + 8 * i)), none, some (.int (Int32.ofNat x2)), some (.int x3), some (.long x4), none, some (.int (Int32.ofNat (x6 + 1))), some (.long rv), none] [] 1 (fun f => rfl) ?_
        refine zW_fg (L' := [some (.ref (21 + 8 * i)), none, some (.int (Int32.ofNat x2)), some (.int x3), some (.long x4), none, some (.int (Int32.ofNat (x6 + 1))), none, none]) (zle_s _ (zle_s _ (zle_s _ (zle_s _ (zle_s _ (zle_s _ (zle_s _ (zle_n _ (zle_s _ zle_nil))))))))) ?_
        exact H
      · have c9 : ¬ x4 ≤ rv := (of_decide_eq_false ((zcL_ge _ _).symm.trans c))
        replace H := H.2 c9
        refine zW_gh 60 [some (.ref (21 + 8 * i)), none, some (.int (Int32.ofNat x2)), some (.int (Int32.ofNat x6)), some (.long rv), none, some (.int (Int32.ofNat x6)), some (.long rv), none] [] 4 (fun f => rfl) ?_
        refine zW_inc [some (.ref (21 + 8 * i)), none, some (.int (Int32.ofNat x2)), some (.int (Int32.ofNat x6)), some (.long rv), none, some (.int ((Int32.ofNat x6) + (1 : Int32))), some (.long rv), none] rfl rfl rfl ?_
        rw [show ((Int32.ofNat x6) + (1 : Int32)) = Int32.ofNat (x6 + 1) from (zN_a rfl rfl)]
        refine zW_gh 8 [some (.ref (21 + 8 * i)), none, some (.int (Int32.ofNat x2)), some (.int (Int32.ofNat x6)), some (.long rv), none, some (.int (Int32.ofNat (x6 + 1))), some (.long rv), none] [] 1 (fun f => rfl) ?_
        refine zW_fg (L' := [some (.ref (21 + 8 * i)), none, some (.int (Int32.ofNat x2)), some (.int (Int32.ofNat x6)), some (.long rv), none, some (.int (Int32.ofNat (x6 + 1))), none, none]) (zle_s _ (zle_s _ (zle_s _ (zle_s _ (zle_s _ (zle_s _ (zle_s _ (zle_n _ (zle_s _ zle_nil))))))))) ?_
        exact H
theorem b13 {P : zPt} {T : Nat → zX} {Y : zYt} {I : zIt} {A : zAt} {w : Nat → Int64} {p : Nat × Nat} {Q : zR → zH → Prop} {a1 a2 i : Nat} (H : zW zm_13 5 [some (.ref (21 + 8 * i)), some (.int (Int32.ofNat a1)), some (.int (Int32.ofNat a2)), some (.int (Int32.ofNat 0)), some (.int (Int32.ofNat 0)), none, none, none, none, none, none] [] p (zh (P, T, Y) I A w) Q) : zT zm_13 [.ref (21 + 8 * i), .int (Int32.ofNat a1), .int (Int32.ofNat a2)] p (zh (P, T, Y) I A w) Q := by
  change zW zm_13 0 [some (.ref (21 + 8 * i)), some (.int (Int32.ofNat a1)), some (.int (Int32.ofNat a2)), none, none, none, none, none, none, none, none] [] p _ Q
  refine zW_gh 5 [some (.ref (21 + 8 * i)), some (.int (Int32.ofNat a1)), some (.int (Int32.ofNat a2)), some (.int (0 : Int32)), some (.int (0 : Int32)), none, none, none, none, none, none] [] 4 (fun f => rfl) ?_
  exact H
theorem b13_5 {P : zPt} {T : Nat → zX} {Y : zYt} {I : zIt} {A : zAt} {w : Nat → Int64} {p : Nat × Nat} {Q : zR → zH → Prop} {x1 x2 x3 x4 i : Nat} (H : (x4 < 2147483648 ∧ ((200 < x4 → Q (.inl none) (zh (P, T, Y) I A w)) ∧ (x4 ≤ 200 → (x3 < 2147483648 ∧ ((¬ x3 = 0 → Q (.inl none) (zh (P, T, Y) I A w)) ∧ (x3 = 0 → zT zm_12 [.ref (21 + 8 * i), .int (Int32.ofNat x1), .int (Int32.ofNat x2)] p (zh (P, T, Y) I A w) (zK zm_13 23 [some (.ref (21 + 8 * i)), some (.int (Int32.ofNat x1)), some (.int (Int32.ofNat x2)), none, some (.int (Int32.ofNat x4)), none, none, none, none, none, none] [] p Q)))))))) : zW zm_13 5 [some (.ref (21 + 8 * i)), some (.int (Int32.ofNat x1)), some (.int (Int32.ofNat x2)), some (.int (Int32.ofNat x3)), some (.int (Int32.ofNat x4)), none, none, none, none, none, none] [] p (zh (P, T, Y) I A w) Q := by
  obtain ⟨h1, H⟩ := H
  refine zW_bh (zcmp .gt (Int32.ofNat x4) (200 : Int32)) 127 13 [some (.ref (21 + 8 * i)), some (.int (Int32.ofNat x1)), some (.int (Int32.ofNat x2)), some (.int (Int32.ofNat x3)), some (.int (Int32.ofNat x4)), none, none, none, none, none, none] [] 3 (fun f => rfl) (fun c => ?_) (fun c => ?_)
  · have c9 : 200 < x4 := (of_decide_eq_true ((zcN_gt (a := x4) (b := 200) rfl rfl h1 (by decide)).symm.trans c))
    replace H := H.1 c9
    exact zW_rh none 1 (fun f => rfl) H
  · have c9 : x4 ≤ 200 := (Nat.le_of_not_lt (of_decide_eq_false ((zcN_gt (a := x4) (b := 200) rfl rfl h1 (by decide)).symm.trans c)))
    replace H := H.2 c9
    obtain ⟨h2, H⟩ := H
    refine zW_bh (zcmp .ne (Int32.ofNat x3) (0 : Int32)) 127 17 [some (.ref (21 + 8 * i)), some (.int (Int32.ofNat x1)), some (.int (Int32.ofNat x2)), some (.int (Int32.ofNat x3)), some (.int (Int32.ofNat x4)), none, none, none, none, none, none] [] 2 (fun f => rfl) (fun c => ?_) (fun c => ?_)
    · have c9 : ¬ x3 = 0 := (by have c := (zcN_ne (a := x3) (b := 0) rfl rfl h2 (by decide)).symm.trans c; simpa using c)
      replace H := H.1 c9
      exact zW_rh none 1 (fun f => rfl) H
    · have c9 : x3 = 0 := (by have c := (zcN_ne (a := x3) (b := 0) rfl rfl h2 (by decide)).symm.trans c; simpa using c)
      replace H := H.2 c9
      refine zW_gh 20 [some (.ref (21 + 8 * i)), some (.int (Int32.ofNat x1)), some (.int (Int32.ofNat x2)), some (.int (Int32.ofNat x3)), some (.int (Int32.ofNat x4)), none, none, none, none, none, none] [.int (Int32.ofNat x2), .int (Int32.ofNat x1), .ref (21 + 8 * i)] 3 (fun f => rfl) ?_
      refine zW_fg (L' := [some (.ref (21 + 8 * i)), some (.int (Int32.ofNat x1)), some (.int (Int32.ofNat x2)), none, some (.int (Int32.ofNat x4)), none, none, none, none, none, none]) (zle_s _ (zle_s _ (zle_s _ (zle_n _ (zle_s _ (zle_s _ (zle_s _ (zle_s _ (zle_s _ (zle_s _ (zle_s _ zle_nil))))))))))) ?_
      exact zW_cl rfl rfl rfl rfl rfl H
theorem b13_23 {P : zPt} {T : Nat → zX} {Y : zYt} {I : zIt} {A : zAt} {w : Nat → Int64} {p : Nat × Nat} {Q : zR → zH → Prop} {x1 x2 x4 i : Nat} {rv : Int32} (hi_i : i < 6) (H : ((rv = (Int32.ofNat x1) → (zXb (T i) ∧ zW zm_13 53 [some (.ref (21 + 8 * i)), some (.int (Int32.ofNat x1)), some (.int (Int32.ofNat x2)), none, some (.int (Int32.ofNat x4)), none, some (.long (zxat (T i) (Int32.ofNat x1) (Int32.ofNat x2))), none, some (.int (Int32.ofNat (x1 + 1))), none, none] [] p (zh (P, T, Y) I A w) Q)) ∧ (¬ rv = (Int32.ofNat x1) → zT zm_39 [.ref (21 + 8 * i), .int (0 : Int32), .int (Int32.ofNat x1), .int rv, .long (0 : Int64)] p (zh (P, T, Y) I A w) (zK zm_13 40 [some (.ref (21 + 8 * i)), some (.int (Int32.ofNat x1)), some (.int (Int32.ofNat x2)), none, some (.int (Int32.ofNat x4)), none, none, none, none, none, none] [] p Q)))) : zW zm_13 23 [some (.ref (21 + 8 * i)), some (.int (Int32.ofNat x1)), some (.int (Int32.ofNat x2)), none, some (.int (Int32.ofNat x4)), none, none, none, none, none, none] [.int rv] p (zh (P, T, Y) I A w) Q := by
  refine zW_bh (zcmp .eq rv (Int32.ofNat x1)) 40 31 [some (.ref (21 + 8 * i)), some (.int (Int32.ofNat x1)), some (.int (Int32.ofNat x2)), none, some (.int (Int32.ofNat x4)), some (.int rv), none, none, none, none, none] [] 4 (fun f => rfl) (fun c => ?_) (fun c => ?_)
  · have c9 : rv = (Int32.ofNat x1) := (of_decide_eq_true c)
    replace H := H.1 c9
    refine zW_gh 43 [some (.ref (21 + 8 * i)), some (.int (Int32.ofNat x1)), some (.int (Int32.ofNat x2)), none, some (.int (Int32.ofNat x4)), some (.int rv), none, none, none, none, none] [.int (Int32.ofNat x2), .int (Int32.ofNat x1), .ref (21 + 8 * i)] 3 (fun f => rfl) ?_
    obtain ⟨h1, H⟩ := H
    refine zW_cv rfl rfl rfl (by have := hi_i; omega) (zh_T0 hi_i) rfl rfl rfl rfl ((s31 hi_i) h1 ?_)
    change zW zm_13 46 [some (.ref (21 + 8 * i)), some (.int (Int32.ofNat x1)), some (.int (Int32.ofNat x2)), none, some (.int (Int32.ofNat x4)), some (.int rv), none, none, none, none, none] [.long (zxat (T i) (Int32.ofNat x1) (Int32.ofNat x2))] p _ Q
    generalize (zxat (T i) (Int32.ofNat x1) (Int32.ofNat x2)) = g2 at H ⊢
    refine zW_gh 53 [some (.ref (21 + 8 * i)), some (.int (Int32.ofNat x1)), some (.int (Int32.ofNat x2)), none, some (.int (Int32.ofNat x4)), some (.int rv), some (.long g2), none, some (.int ((Int32.ofNat x1) + (1 : Int32))), none, none] [] 5 (fun f => rfl) ?_
    rw [show ((Int32.ofNat x1) + (1 : Int32)) = Int32.ofNat (x1 + 1) from (zN_a rfl rfl)]
    refine zW_fg (L' := [some (.ref (21 + 8 * i)), some (.int (Int32.ofNat x1)), some (.int (Int32.ofNat x2)), none, some (.int (Int32.ofNat x4)), none, some (.long g2), none, some (.int (Int32.ofNat (x1 + 1))), none, none]) (zle_s _ (zle_s _ (zle_s _ (zle_s _ (zle_s _ (zle_n _ (zle_s _ (zle_s _ (zle_s _ (zle_s _ (zle_s _ zle_nil))))))))))) ?_
    exact H
  · have c9 : ¬ rv = (Int32.ofNat x1) := (of_decide_eq_false c)
    replace H := H.2 c9
    refine zW_gh 37 [some (.ref (21 + 8 * i)), some (.int (Int32.ofNat x1)), some (.int (Int32.ofNat x2)), none, some (.int (Int32.ofNat x4)), some (.int rv), none, none, none, none, none] [.long (0 : Int64), .int rv, .int (Int32.ofNat x1), .int (0 : Int32), .ref (21 + 8 * i)] 5 (fun f => rfl) ?_
    refine zW_fg (L' := [some (.ref (21 + 8 * i)), some (.int (Int32.ofNat x1)), some (.int (Int32.ofNat x2)), none, some (.int (Int32.ofNat x4)), none, none, none, none, none, none]) (zle_s _ (zle_s _ (zle_s _ (zle_s _ (zle_s _ (zle_n _ (zle_s _ (zle_s _ (zle_s _ (zle_s _ (zle_s _ zle_nil))))))))))) ?_
    exact zW_cv rfl rfl rfl (by have := hi_i; omega) (zh_T0 hi_i) rfl rfl rfl rfl H
theorem b13_53 {P : zPt} {T : Nat → zX} {Y : zYt} {I : zIt} {A : zAt} {w : Nat → Int64} {p : Nat × Nat} {Q : zR → zH → Prop} {x1 x2 x4 x8 i : Nat} {x6 : Int64} (hi_i : i < 6) (H : (x8 < 2147483648 ∧ ((T i).2.1 < 2147483648 ∧ (((T i).2.1 ≤ x8 → zT zm_12 [.ref (21 + 8 * i), .int ((Int32.ofNat x1) + (1 : Int32)), .int (Int32.ofNat x2)] p (zh (P, T, Y) I A w) (zK zm_13 111 [some (.ref (21 + 8 * i)), some (.int (Int32.ofNat x1)), some (.int (Int32.ofNat x2)), none, some (.int (Int32.ofNat x4)), none, none, none, none, none, none] [] p Q)) ∧ (x8 < (T i).2.1 → (zXb (T i) ∧ (((zxat (T i) (Int32.ofNat x8) (Int32.ofNat x2)) = (0 : Int64) → zW zm_13 53 [some (.ref (21 + 8 * i)), some (.int (Int32.ofNat x1)), some (.int (Int32.ofNat x2)), none, some (.int (Int32.ofNat x4)), none, some (.long x6), none, some (.int (Int32.ofNat (x8 + 1))), none, none] [] p (zh (P, T, Y) I A w) Q) ∧ (¬ (zxat (T i) (Int32.ofNat x8) (Int32.ofNat x2)) = (0 : Int64) → zT zm_80 [.ref (zra ((T i).1)), .long (zxat (T i) (Int32.ofNat x8) (Int32.ofNat x2)), .long x6] p (zh (P, T, Y) I A w) (zK zm_13 94 [some (.ref (21 + 8 * i)), some (.int (Int32.ofNat x1)), some (.int (Int32.ofNat x2)), none, some (.int (Int32.ofNat x4)), none, some (.long x6), none, some (.int (Int32.ofNat x8)), none, none] [.int (Int32.ofNat x1), .int (Int32.ofNat x8), .int (Int32.ofNat 1), .ref (21 + 8 * i)] p Q))))))))) : zW zm_13 53 [some (.ref (21 + 8 * i)), some (.int (Int32.ofNat x1)), some (.int (Int32.ofNat x2)), none, some (.int (Int32.ofNat x4)), none, some (.long x6), none, some (.int (Int32.ofNat x8)), none, none] [] p (zh (P, T, Y) I A w) Q := by
  refine zW_gh 56 [some (.ref (21 + 8 * i)), some (.int (Int32.ofNat x1)), some (.int (Int32.ofNat x2)), none, some (.int (Int32.ofNat x4)), none, some (.long x6), none, some (.int (Int32.ofNat x8)), none, none] [.ref (21 + 8 * i), .int (Int32.ofNat x8)] 2 (fun f => rfl) ?_
  refine zW_gf rfl (by have := hi_i; omega) (zh_T0 hi_i) rfl (v := .int (Int32.ofNat ((T i).2.1))) rfl ?_
  obtain ⟨h1, H⟩ := H
  obtain ⟨h2, H⟩ := H
  refine zW_bh (zcmp .ge (Int32.ofNat x8) (Int32.ofNat ((T i).2.1))) 103 62 [some (.ref (21 + 8 * i)), some (.int (Int32.ofNat x1)), some (.int (Int32.ofNat x2)), none, some (.int (Int32.ofNat x4)), none, some (.long x6), none, some (.int (Int32.ofNat x8)), none, none] [] 1 (fun f => rfl) (fun c => ?_) (fun c => ?_)
  · have c9 : (T i).2.1 ≤ x8 := (of_decide_eq_true ((zcN_ge (a := x8) (b := (T i).2.1) rfl rfl h1 h2).symm.trans c))
    replace H := H.1 c9
    refine zW_gh 108 [some (.ref (21 + 8 * i)), some (.int (Int32.ofNat x1)), some (.int (Int32.ofNat x2)), none, some (.int (Int32.ofNat x4)), none, some (.long x6), none, some (.int (Int32.ofNat x8)), none, none] [.int (Int32.ofNat x2), .int ((Int32.ofNat x1) + (1 : Int32)), .ref (21 + 8 * i)] 5 (fun f => rfl) ?_
    refine zW_fg (L' := [some (.ref (21 + 8 * i)), some (.int (Int32.ofNat x1)), some (.int (Int32.ofNat x2)), none, some (.int (Int32.ofNat x4)), none, none, none, none, none, none]) (zle_s _ (zle_s _ (zle_s _ (zle_s _ (zle_s _ (zle_s _ (zle_n _ (zle_s _ (zle_n _ (zle_s _ (zle_s _ zle_nil))))))))))) ?_
    exact zW_cl rfl rfl rfl rfl rfl H
  · have c9 : x8 < (T i).2.1 := (Nat.lt_of_not_le (of_decide_eq_false ((zcN_ge (a := x8) (b := (T i).2.1) rfl rfl h1 h2).symm.trans c)))
    replace H := H.2 c9
    refine zW_gh 66 [some (.ref (21 + 8 * i)), some (.int (Int32.ofNat x1)), some (.int (Int32.ofNat x2)), none, some (.int (Int32.ofNat x4)), none, some (.long x6), none, some (.int (Int32.ofNat x8)), none, none] [.int (Int32.ofNat x2), .int (Int32.ofNat x8), .ref (21 + 8 * i)] 3 (fun f => rfl) ?_
    obtain ⟨h3, H⟩ := H
    refine zW_cv rfl rfl rfl (by have := hi_i; omega) (zh_T0 hi_i) rfl rfl rfl rfl ((s31 hi_i) h3 ?_)
    change zW zm_13 69 [some (.ref (21 + 8 * i)), some (.int (Int32.ofNat x1)), some (.int (Int32.ofNat x2)), none, some (.int (Int32.ofNat x4)), none, some (.long x6), none, some (.int (Int32.ofNat x8)), none, none] [.long (zxat (T i) (Int32.ofNat x8) (Int32.ofNat x2))] p _ Q
    generalize (zxat (T i) (Int32.ofNat x8) (Int32.ofNat x2)) = g4 at H ⊢
    refine zW_bh (zcmp .eq (lg_cmp g4 (0 : Int64)) (0 : Int32)) 97 78 [some (.ref (21 + 8 * i)), some (.int (Int32.ofNat x1)), some (.int (Int32.ofNat x2)), none, some (.int (Int32.ofNat x4)), none, some (.long x6), none, some (.int (Int32.ofNat x8)), some (.long g4), none] [] 5 (fun f => rfl) (fun c => ?_) (fun c => ?_)
    · have c9 : g4 = (0 : Int64) := (of_decide_eq_true ((zcL_eq _ _).symm.trans c))
      replace H := H.1 c9
      refine zW_inc [some (.ref (21 + 8 * i)), some (.int (Int32.ofNat x1)), some (.int (Int32.ofNat x2)), none, some (.int (Int32.ofNat x4)), none, some (.long x6), none, some (.int ((Int32.ofNat x8) + (1 : Int32))), some (.long g4), none] rfl rfl rfl ?_
      rw [show ((Int32.ofNat x8) + (1 : Int32)) = Int32.ofNat (x8 + 1) from (zN_a rfl rfl)]
      refine zW_gh 53 [some (.ref (21 + 8 * i)), some (.int (Int32.ofNat x1)), some (.int (Int32.ofNat x2)), none, some (.int (Int32.ofNat x4)), none, some (.long x6), none, some (.int (Int32.ofNat (x8 + 1))), some (.long g4), none] [] 1 (fun f => rfl) ?_
      refine zW_fg (L' := [some (.ref (21 + 8 * i)), some (.int (Int32.ofNat x1)), some (.int (Int32.ofNat x2)), none, some (.int (Int32.ofNat x4)), none, some (.long x6), none, some (.int (Int32.ofNat (x8 + 1))), none, none]) (zle_s _ (zle_s _ (zle_s _ (zle_s _ (zle_s _ (zle_s _ (zle_s _ (zle_s _ (zle_s _ (zle_n _ (zle_s _ zle_nil))))))))))) ?_
      exact H
    · have c9 : ¬ g4 = (0 : Int64) := (of_decide_eq_false ((zcL_eq _ _).symm.trans c))
      replace H := H.2 c9
      refine zW_gh 84 [some (.ref (21 + 8 * i)), some (.int (Int32.ofNat x1)), some (.int (Int32.ofNat x2)), none, some (.int (Int32.ofNat x4)), none, some (.long x6), none, some (.int (Int32.ofNat x8)), some (.long g4), none] [.ref (21 + 8 * i), .int (Int32.ofNat x1), .int (Int32.ofNat x8), .int (1 : Int32), .ref (21 + 8 * i)] 5 (fun f => rfl) ?_
      refine zW_gf rfl (by have := hi_i; omega) (zh_T0 hi_i) rfl (v := .ref (zra ((T i).1))) rfl ?_
      refine zW_gh 91 [some (.ref (21 + 8 * i)), some (.int (Int32.ofNat x1)), some (.int (Int32.ofNat x2)), none, some (.int (Int32.ofNat x4)), none, some (.long x6), none, some (.int (Int32.ofNat x8)), some (.long g4), none] [.long x6, .long g4, .ref (zra ((T i).1)), .int (Int32.ofNat x1), .int (Int32.ofNat x8), .int (1 : Int32), .ref (21 + 8 * i)] 2 (fun f => rfl) ?_
      refine zW_fg (L' := [some (.ref (21 + 8 * i)), some (.int (Int32.ofNat x1)), some (.int (Int32.ofNat x2)), none, some (.int (Int32.ofNat x4)), none, some (.long x6), none, some (.int (Int32.ofNat x8)), none, none]) (zle_s _ (zle_s _ (zle_s _ (zle_s _ (zle_s _ (zle_s _ (zle_s _ (zle_s _ (zle_s _ (zle_n _ (zle_s _ zle_nil))))))))))) ?_
      exact zW_cr1 rfl rfl rfl rfl rfl rfl rfl rfl rfl H
theorem b13_40 {P : zPt} {T : Nat → zX} {Y : zYt} {I : zIt} {A : zAt} {w : Nat → Int64} {p : Nat × Nat} {Q : zR → zH → Prop} {x1 x2 x4 i : Nat} (hi_i : i < 6) (H : (zXb (T i) ∧ zW zm_13 53 [some (.ref (21 + 8 * i)), some (.int (Int32.ofNat x1)), some (.int (Int32.ofNat x2)), none, some (.int (Int32.ofNat x4)), none, some (.long (zxat (T i) (Int32.ofNat x1) (Int32.ofNat x2))), none, some (.int (Int32.ofNat (x1 + 1))), none, none] [] p (zh (P, T, Y) I A w) Q)) : zW zm_13 40 [some (.ref (21 + 8 * i)), some (.int (Int32.ofNat x1)), some (.int (Int32.ofNat x2)), none, some (.int (Int32.ofNat x4)), none, none, none, none, none, none] [] p (zh (P, T, Y) I A w) Q := by
  refine zW_gh 43 [some (.ref (21 + 8 * i)), some (.int (Int32.ofNat x1)), some (.int (Int32.ofNat x2)), none, some (.int (Int32.ofNat x4)), none, none, none, none, none, none] [.int (Int32.ofNat x2), .int (Int32.ofNat x1), .ref (21 + 8 * i)] 3 (fun f => rfl) ?_
  obtain ⟨h1, H⟩ := H
  refine zW_cv rfl rfl rfl (by have := hi_i; omega) (zh_T0 hi_i) rfl rfl rfl rfl ((s31 hi_i) h1 ?_)
  change zW zm_13 46 [some (.ref (21 + 8 * i)), some (.int (Int32.ofNat x1)), some (.int (Int32.ofNat x2)), none, some (.int (Int32.ofNat x4)), none, none, none, none, none, none] [.long (zxat (T i) (Int32.ofNat x1) (Int32.ofNat x2))] p _ Q
  generalize (zxat (T i) (Int32.ofNat x1) (Int32.ofNat x2)) = g2 at H ⊢
  refine zW_gh 53 [some (.ref (21 + 8 * i)), some (.int (Int32.ofNat x1)), some (.int (Int32.ofNat x2)), none, some (.int (Int32.ofNat x4)), none, some (.long g2), none, some (.int ((Int32.ofNat x1) + (1 : Int32))), none, none] [] 5 (fun f => rfl) ?_
  rw [show ((Int32.ofNat x1) + (1 : Int32)) = Int32.ofNat (x1 + 1) from (zN_a rfl rfl)]
  exact H
theorem b13_111 {P : zPt} {T : Nat → zX} {Y : zYt} {I : zIt} {A : zAt} {w : Nat → Int64} {p : Nat × Nat} {Q : zR → zH → Prop} {x1 x2 x4 i : Nat} {rv : Int32} (H : ((¬ rv = (-1 : Int32) → zW zm_13 5 [some (.ref (21 + 8 * i)), some (.int (Int32.ofNat x1)), some (.int (Int32.ofNat x2)), some (.int (Int32.ofNat 0)), some (.int (Int32.ofNat (x4 + 1))), none, none, none, none, none, none] [] p (zh (P, T, Y) I A w) Q) ∧ (rv = (-1 : Int32) → zW zm_13 5 [some (.ref (21 + 8 * i)), some (.int (Int32.ofNat x1)), some (.int (Int32.ofNat x2)), some (.int (Int32.ofNat 1)), some (.int (Int32.ofNat (x4 + 1))), none, none, none, none, none, none] [] p (zh (P, T, Y) I A w) Q))) : zW zm_13 111 [some (.ref (21 + 8 * i)), some (.int (Int32.ofNat x1)), some (.int (Int32.ofNat x2)), none, some (.int (Int32.ofNat x4)), none, none, none, none, none, none] [.int rv] p (zh (P, T, Y) I A w) Q := by
  refine zW_bh (zcmp .ne rv (-1 : Int32)) 119 115 [some (.ref (21 + 8 * i)), some (.int (Int32.ofNat x1)), some (.int (Int32.ofNat x2)), none, some (.int (Int32.ofNat x4)), none, none, none, none, none, none] [] 2 (fun f => rfl) (fun c => ?_) (fun c => ?_)
  · have c9 : ¬ rv = (-1 : Int32) := (by simpa [zcmp] using c)
    replace H := H.1 c9
    refine zW_gh 121 [some (.ref (21 + 8 * i)), some (.int (Int32.ofNat x1)), some (.int (Int32.ofNat x2)), some (.int (0 : Int32)), some (.int (Int32.ofNat x4)), none, none, none, none, none, none] [] 2 (fun f => rfl) ?_
    refine zW_inc [some (.ref (21 + 8 * i)), some (.int (Int32.ofNat x1)), some (.int (Int32.ofNat x2)), some (.int (0 : Int32)), some (.int ((Int32.ofNat x4) + (1 : Int32))), none, none, none, none, none, none] rfl rfl rfl ?_
    rw [show ((Int32.ofNat x4) + (1 : Int32)) = Int32.ofNat (x4 + 1) from (zN_a rfl rfl)]
    refine zW_gh 5 [some (.ref (21 + 8 * i)), some (.int (Int32.ofNat x1)), some (.int (Int32.ofNat x2)), some (.int (0 : Int32)), some (.int (Int32.ofNat (x4 + 1))), none, none, none, none, none, none] [] 1 (fun f => rfl) ?_
    exact H
  · have c9 : rv = (-1 : Int32) := (by simpa [zcmp] using c)
    replace H := H.2 c9
    refine zW_gh 121 [some (.ref (21 + 8 * i)), some (.int (Int32.ofNat x1)), some (.int (Int32.ofNat x2)), some (.int (1 : Int32)), some (.int (Int32.ofNat x4)), none, none, none, none, none, none] [] 3 (fun f => rfl) ?_
    refine zW_inc [some (.ref (21 + 8 * i)), some (.int (Int32.ofNat x1)), some (.int (Int32.ofNat x2)), some (.int (1 : Int32)), some (.int ((Int32.ofNat x4) + (1 : Int32))), none, none, none, none, none, none] rfl rfl rfl ?_
    rw [show ((Int32.ofNat x4) + (1 : Int32)) = Int32.ofNat (x4 + 1) from (zN_a rfl rfl)]
    refine zW_gh 5 [some (.ref (21 + 8 * i)), some (.int (Int32.ofNat x1)), some (.int (Int32.ofNat x2)), some (.int (1 : Int32)), some (.int (Int32.ofNat (x4 + 1))), none, none, none, none, none, none] [] 1 (fun f => rfl) ?_
    exact H
theorem b13_94 {P : zPt} {T : Nat → zX} {Y : zYt} {I : zIt} {A : zAt} {w : Nat → Int64} {p : Nat × Nat} {Q : zR → zH → Prop} {x1 x2 x4 x8 s0 s1 s2 i : Nat} {x6 rv : Int64} (hi_i : i < 6) (H : zT zm_39 [.ref (21 + 8 * i), .int (Int32.ofNat s2), .int (Int32.ofNat s1), .int (Int32.ofNat s0), .long rv] p (zh (P, T, Y) I A w) (zK zm_13 97 [some (.ref (21 + 8 * i)), some (.int (Int32.ofNat x1)), some (.int (Int32.ofNat x2)), none, some (.int (Int32.ofNat x4)), none, some (.long x6), none, some (.int (Int32.ofNat x8)), none, none] [] p Q)) : zW zm_13 94 [some (.ref (21 + 8 * i)), some (.int (Int32.ofNat x1)), some (.int (Int32.ofNat x2)), none, some (.int (Int32.ofNat x4)), none, some (.long x6), none, some (.int (Int32.ofNat x8)), none, none] [.long rv, .int (Int32.ofNat s0), .int (Int32.ofNat s1), .int (Int32.ofNat s2), .ref (21 + 8 * i)] p (zh (P, T, Y) I A w) Q := by
  exact zW_cv rfl rfl rfl (by have := hi_i; omega) (zh_T0 hi_i) rfl rfl rfl rfl H
theorem b13_97 {P : zPt} {T : Nat → zX} {Y : zYt} {I : zIt} {A : zAt} {w : Nat → Int64} {p : Nat × Nat} {Q : zR → zH → Prop} {x1 x2 x4 x8 i : Nat} {x6 : Int64} (H : zW zm_13 53 [some (.ref (21 + 8 * i)), some (.int (Int32.ofNat x1)), some (.int (Int32.ofNat x2)), none, some (.int (Int32.ofNat x4)), none, some (.long x6), none, some (.int (Int32.ofNat (x8 + 1))), none, none] [] p (zh (P, T, Y) I A w) Q) : zW zm_13 97 [some (.ref (21 + 8 * i)), some (.int (Int32.ofNat x1)), some (.int (Int32.ofNat x2)), none, some (.int (Int32.ofNat x4)), none, some (.long x6), none, some (.int (Int32.ofNat x8)), none, none] [] p (zh (P, T, Y) I A w) Q := by
  refine zW_inc [some (.ref (21 + 8 * i)), some (.int (Int32.ofNat x1)), some (.int (Int32.ofNat x2)), none, some (.int (Int32.ofNat x4)), none, some (.long x6), none, some (.int ((Int32.ofNat x8) + (1 : Int32))), none, none] rfl rfl rfl ?_
  rw [show ((Int32.ofNat x8) + (1 : Int32)) = Int32.ofNat (x8 + 1) from (zN_a rfl rfl)]
  refine zW_gh 53 [some (.ref (21 + 8 * i)), some (.int (Int32.ofNat x1)), some (.int (Int32.ofNat x2)), none, some (.int (Int32.ofNat x4)), none, some (.long x6), none, some (.int (Int32.ofNat (x8 + 1))), none, none] [] 1 (fun f => rfl) ?_
  exact H
theorem b14 {P : zPt} {T : Nat → zX} {Y : zYt} {I : zIt} {A : zAt} {w : Nat → Int64} {p : Nat × Nat} {Q : zR → zH → Prop} {a1 a2 i : Nat} (hi_i : i < 6) (H : (zXb (T i) ∧ zW zm_14 10 [some (.ref (21 + 8 * i)), some (.int (Int32.ofNat a1)), some (.int (Int32.ofNat a2)), some (.long (zxat (T i) (Int32.ofNat a1) (Int32.ofNat a2))), none, some (.int (Int32.ofNat 0)), none, none] [] p (zh (P, T, Y) I A w) Q)) : zT zm_14 [.ref (21 + 8 * i), .int (Int32.ofNat a1), .int (Int32.ofNat a2)] p (zh (P, T, Y) I A w) Q := by
  change zW zm_14 0 [some (.ref (21 + 8 * i)), some (.int (Int32.ofNat a1)), some (.int (Int32.ofNat a2)), none, none, none, none, none] [] p _ Q
  refine zW_gh 3 [some (.ref (21 + 8 * i)), some (.int (Int32.ofNat a1)), some (.int (Int32.ofNat a2)), none, none, none, none, none] [.int (Int32.ofNat a2), .int (Int32.ofNat a1), .ref (21 + 8 * i)] 3 (fun f => rfl) ?_
  obtain ⟨h1, H⟩ := H
  refine zW_cv rfl rfl rfl (by have := hi_i; omega) (zh_T0 hi_i) rfl rfl rfl rfl ((s31 hi_i) h1 ?_)
  change zW zm_14 6 [some (.ref (21 + 8 * i)), some (.int (Int32.ofNat a1)), some (.int (Int32.ofNat a2)), none, none, none, none, none] [.long (zxat (T i) (Int32.ofNat a1) (Int32.ofNat a2))] p _ Q
  generalize (zxat (T i) (Int32.ofNat a1) (Int32.ofNat a2)) = g2 at H ⊢
  refine zW_gh 10 [some (.ref (21 + 8 * i)), some (.int (Int32.ofNat a1)), some (.int (Int32.ofNat a2)), some (.long g2), none, some (.int (0 : Int32)), none, none] [] 3 (fun f => rfl) ?_
  exact H
theorem b14_10 {P : zPt} {T : Nat → zX} {Y : zYt} {I : zIt} {A : zAt} {w : Nat → Int64} {p : Nat × Nat} {Q : zR → zH → Prop} {x1 x2 x5 i : Nat} {x3 : Int64} (hi_i : i < 6) (H : (x5 < 2147483648 ∧ (x1 < 2147483648 ∧ ((x1 ≤ x5 → Q (.inl none) (zh (P, T, Y) I A w)) ∧ (x5 < x1 → (zXb (T i) ∧ zT zm_80 [.ref (zra ((T i).1)), .long (zxat (T i) (Int32.ofNat x5) (Int32.ofNat x2)), .long x3] p (zh (P, T, Y) I A w) (zK zm_14 31 [some (.ref (21 + 8 * i)), some (.int (Int32.ofNat x1)), some (.int (Int32.ofNat x2)), some (.long x3), none, some (.int (Int32.ofNat x5)), none, none] [] p Q))))))) : zW zm_14 10 [some (.ref (21 + 8 * i)), some (.int (Int32.ofNat x1)), some (.int (Int32.ofNat x2)), some (.long x3), none, some (.int (Int32.ofNat x5)), none, none] [] p (zh (P, T, Y) I A w) Q := by
  obtain ⟨h1, H⟩ := H
  obtain ⟨h2, H⟩ := H
  refine zW_bh (zcmp .ge (Int32.ofNat x5) (Int32.ofNat x1)) 56 16 [some (.ref (21 + 8 * i)), some (.int (Int32.ofNat x1)), some (.int (Int32.ofNat x2)), some (.long x3), none, some (.int (Int32.ofNat x5)), none, none] [] 3 (fun f => rfl) (fun c => ?_) (fun c => ?_)
  · have c9 : x1 ≤ x5 := (of_decide_eq_true ((zcN_ge (a := x5) (b := x1) rfl rfl h1 h2).symm.trans c))
    replace H := H.1 c9
    exact zW_rh none 1 (fun f => rfl) H
  · have c9 : x5 < x1 := (Nat.lt_of_not_le (of_decide_eq_false ((zcN_ge (a := x5) (b := x1) rfl rfl h1 h2).symm.trans c)))
    replace H := H.2 c9
    refine zW_gh 17 [some (.ref (21 + 8 * i)), some (.int (Int32.ofNat x1)), some (.int (Int32.ofNat x2)), some (.long x3), none, some (.int (Int32.ofNat x5)), none, none] [.ref (21 + 8 * i)] 1 (fun f => rfl) ?_
    refine zW_gf rfl (by have := hi_i; omega) (zh_T0 hi_i) rfl (v := .ref (zra ((T i).1))) rfl ?_
    refine zW_gh 24 [some (.ref (21 + 8 * i)), some (.int (Int32.ofNat x1)), some (.int (Int32.ofNat x2)), some (.long x3), none, some (.int (Int32.ofNat x5)), none, none] [.int (Int32.ofNat x2), .int (Int32.ofNat x5), .ref (21 + 8 * i), .ref (zra ((T i).1))] 3 (fun f => rfl) ?_
    obtain ⟨h3, H⟩ := H
    refine zW_cv rfl rfl rfl (by have := hi_i; omega) (zh_T0 hi_i) rfl rfl rfl rfl ((s31 hi_i) h3 ?_)
    change zW zm_14 27 [some (.ref (21 + 8 * i)), some (.int (Int32.ofNat x1)), some (.int (Int32.ofNat x2)), some (.long x3), none, some (.int (Int32.ofNat x5)), none, none] [.long (zxat (T i) (Int32.ofNat x5) (Int32.ofNat x2)), .ref (zra ((T i).1))] p _ Q
    generalize (zxat (T i) (Int32.ofNat x5) (Int32.ofNat x2)) = g4 at H ⊢
    refine zW_gh 28 [some (.ref (21 + 8 * i)), some (.int (Int32.ofNat x1)), some (.int (Int32.ofNat x2)), some (.long x3), none, some (.int (Int32.ofNat x5)), none, none] [.long x3, .long g4, .ref (zra ((T i).1))] 1 (fun f => rfl) ?_
    exact zW_cr1 rfl rfl rfl rfl rfl rfl rfl rfl rfl H
theorem b14_31 {P : zPt} {T : Nat → zX} {Y : zYt} {I : zIt} {A : zAt} {w : Nat → Int64} {p : Nat × Nat} {Q : zR → zH → Prop} {x1 x2 x5 i : Nat} {x3 rv : Int64} (hi_i : i < 6) (H : ((rv = (0 : Int64) → zW zm_14 10 [some (.ref (21 + 8 * i)), some (.int (Int32.ofNat x1)), some (.int (Int32.ofNat x2)), some (.long x3), none, some (.int (Int32.ofNat (x5 + 1))), none, none] [] p (zh (P, T, Y) I A w) Q) ∧ (¬ rv = (0 : Int64) → zT zm_39 [.ref (21 + 8 * i), .int (1 : Int32), .int (Int32.ofNat x5), .int (Int32.ofNat x1), .long rv] p (zh (P, T, Y) I A w) (zK zm_14 50 [some (.ref (21 + 8 * i)), some (.int (Int32.ofNat x1)), some (.int (Int32.ofNat x2)), some (.long x3), none, some (.int (Int32.ofNat x5)), none, none] [] p Q)))) : zW zm_14 31 [some (.ref (21 + 8 * i)), some (.int (Int32.ofNat x1)), some (.int (Int32.ofNat x2)), some (.long x3), none, some (.int (Int32.ofNat x5)), none, none] [.long rv] p (zh (P, T, Y) I A w) Q := by
  refine zW_bh (zcmp .eq (lg_cmp rv (0 : Int64)) (0 : Int32)) 50 40 [some (.ref (21 + 8 * i)), some (.int (Int32.ofNat x1)), some (.int (Int32.ofNat x2)), some (.long x3), none, some (.int (Int32.ofNat x5)), some (.long rv), none] [] 5 (fun f => rfl) (fun c => ?_) (fun c => ?_)
  · have c9 : rv = (0 : Int64) := (of_decide_eq_true ((zcL_eq _ _).symm.trans c))
    replace H := H.1 c9
    refine zW_inc [some (.ref (21 + 8 * i)), some (.int (Int32.ofNat x1)), some (.int (Int32.ofNat x2)), some (.long x3), none, some (.int ((Int32.ofNat x5) + (1 : Int32))), some (.long rv), none] rfl rfl rfl ?_
    rw [show ((Int32.ofNat x5) + (1 : Int32)) = Int32.ofNat (x5 + 1) from (zN_a rfl rfl)]
    refine zW_gh 10 [some (.ref (21 + 8 * i)), some (.int (Int32.ofNat x1)), some (.int (Int32.ofNat x2)), some (.long x3), none, some (.int (Int32.ofNat (x5 + 1))), some (.long rv), none] [] 1 (fun f => rfl) ?_
    refine zW_fg (L' := [some (.ref (21 + 8 * i)), some (.int (Int32.ofNat x1)), some (.int (Int32.ofNat x2)), some (.long x3), none, some (.int (Int32.ofNat (x5 + 1))), none, none]) (zle_s _ (zle_s _ (zle_s _ (zle_s _ (zle_s _ (zle_s _ (zle_n _ (zle_s _ zle_nil)))))))) ?_
    exact H
  · have c9 : ¬ rv = (0 : Int64) := (of_decide_eq_false ((zcL_eq _ _).symm.trans c))
    replace H := H.2 c9
    refine zW_gh 47 [some (.ref (21 + 8 * i)), some (.int (Int32.ofNat x1)), some (.int (Int32.ofNat x2)), some (.long x3), none, some (.int (Int32.ofNat x5)), some (.long rv), none] [.long rv, .int (Int32.ofNat x1), .int (Int32.ofNat x5), .int (1 : Int32), .ref (21 + 8 * i)] 5 (fun f => rfl) ?_
    refine zW_fg (L' := [some (.ref (21 + 8 * i)), some (.int (Int32.ofNat x1)), some (.int (Int32.ofNat x2)), some (.long x3), none, some (.int (Int32.ofNat x5)), none, none]) (zle_s _ (zle_s _ (zle_s _ (zle_s _ (zle_s _ (zle_s _ (zle_n _ (zle_s _ zle_nil)))))))) ?_
    exact zW_cv rfl rfl rfl (by have := hi_i; omega) (zh_T0 hi_i) rfl rfl rfl rfl H
theorem b14_50 {P : zPt} {T : Nat → zX} {Y : zYt} {I : zIt} {A : zAt} {w : Nat → Int64} {p : Nat × Nat} {Q : zR → zH → Prop} {x1 x2 x5 i : Nat} {x3 : Int64} (H : zW zm_14 10 [some (.ref (21 + 8 * i)), some (.int (Int32.ofNat x1)), some (.int (Int32.ofNat x2)), some (.long x3), none, some (.int (Int32.ofNat (x5 + 1))), none, none] [] p (zh (P, T, Y) I A w) Q) : zW zm_14 50 [some (.ref (21 + 8 * i)), some (.int (Int32.ofNat x1)), some (.int (Int32.ofNat x2)), some (.long x3), none, some (.int (Int32.ofNat x5)), none, none] [] p (zh (P, T, Y) I A w) Q := by
  refine zW_inc [some (.ref (21 + 8 * i)), some (.int (Int32.ofNat x1)), some (.int (Int32.ofNat x2)), some (.long x3), none, some (.int ((Int32.ofNat x5) + (1 : Int32))), none, none] rfl rfl rfl ?_
  rw [show ((Int32.ofNat x5) + (1 : Int32)) = Int32.ofNat (x5 + 1) from (zN_a rfl rfl)]
  refine zW_gh 10 [some (.ref (21 + 8 * i)), some (.int (Int32.ofNat x1)), some (.int (Int32.ofNat x2)), some (.long x3), none, some (.int (Int32.ofNat (x5 + 1))), none, none] [] 1 (fun f => rfl) ?_
  exact H
theorem b11 {P : zPt} {T : Nat → zX} {Y : zYt} {I : zIt} {A : zAt} {w : Nat → Int64} {p : Nat × Nat} {Q : zR → zH → Prop} {i : Nat} (H : zW zm_11 4 [some (.ref (21 + 8 * i)), some (.int (Int32.ofNat 0)), some (.int (Int32.ofNat 0)), none, none] [] p (zh (P, T, Y) I A w) Q) : zT zm_11 [.ref (21 + 8 * i)] p (zh (P, T, Y) I A w) Q := by
  change zW zm_11 0 [some (.ref (21 + 8 * i)), none, none, none, none] [] p _ Q
  refine zW_gh 4 [some (.ref (21 + 8 * i)), some (.int (0 : Int32)), some (.int (0 : Int32)), none, none] [] 4 (fun f => rfl) ?_
  exact H
theorem b11_4 {P : zPt} {T : Nat → zX} {Y : zYt} {I : zIt} {A : zAt} {w : Nat → Int64} {p : Nat × Nat} {Q : zR → zH → Prop} {x1 x2 i : Nat} (hi_i : i < 6) (H : (x2 < 2147483648 ∧ ((T i).2.2.1 < 2147483648 ∧ (((T i).2.2.1 ≤ x2 → Q (.inl (some (.int (Int32.ofNat x1)))) (zh (P, T, Y) I A w)) ∧ (x2 < (T i).2.2.1 → (x1 < 2147483648 ∧ ((T i).2.1 < 2147483648 ∧ (((T i).2.1 ≤ x1 → Q (.inl (some (.int (Int32.ofNat x1)))) (zh (P, T, Y) I A w)) ∧ (x1 < (T i).2.1 → zT zm_12 [.ref (21 + 8 * i), .int (Int32.ofNat x1), .int (Int32.ofNat x2)] p (zh (P, T, Y) I A w) (zK zm_11 26 [some (.ref (21 + 8 * i)), some (.int (Int32.ofNat x1)), some (.int (Int32.ofNat x2)), none, none] [] p Q)))))))))) : zW zm_11 4 [some (.ref (21 + 8 * i)), some (.int (Int32.ofNat x1)), some (.int (Int32.ofNat x2)), none, none] [] p (zh (P, T, Y) I A w) Q := by
  refine zW_gh 6 [some (.ref (21 + 8 * i)), some (.int (Int32.ofNat x1)), some (.int (Int32.ofNat x2)), none, none] [.ref (21 + 8 * i), .int (Int32.ofNat x2)] 2 (fun f => rfl) ?_
  refine zW_gf rfl (by have := hi_i; omega) (zh_T0 hi_i) rfl (v := .int (Int32.ofNat ((T i).2.2.1))) rfl ?_
  obtain ⟨h1, H⟩ := H
  obtain ⟨h2, H⟩ := H
  refine zW_bh (zcmp .ge (Int32.ofNat x2) (Int32.ofNat ((T i).2.2.1))) 84 12 [some (.ref (21 + 8 * i)), some (.int (Int32.ofNat x1)), some (.int (Int32.ofNat x2)), none, none] [] 1 (fun f => rfl) (fun c => ?_) (fun c => ?_)
  · have c9 : (T i).2.2.1 ≤ x2 := (of_decide_eq_true ((zcN_ge (a := x2) (b := (T i).2.2.1) rfl rfl h1 h2).symm.trans c))
    replace H := H.1 c9
    refine zW_gh 85 [some (.ref (21 + 8 * i)), some (.int (Int32.ofNat x1)), some (.int (Int32.ofNat x2)), none, none] [.int (Int32.ofNat x1)] 1 (fun f => rfl) ?_
    exact zW_rh (some (.int (Int32.ofNat x1))) 1 (fun f => rfl) H
  · have c9 : x2 < (T i).2.2.1 := (Nat.lt_of_not_le (of_decide_eq_false ((zcN_ge (a := x2) (b := (T i).2.2.1) rfl rfl h1 h2).symm.trans c)))
    replace H := H.2 c9
    refine zW_gh 14 [some (.ref (21 + 8 * i)), some (.int (Int32.ofNat x1)), some (.int (Int32.ofNat x2)), none, none] [.ref (21 + 8 * i), .int (Int32.ofNat x1)] 2 (fun f => rfl) ?_
    refine zW_gf rfl (by have := hi_i; omega) (zh_T0 hi_i) rfl (v := .int (Int32.ofNat ((T i).2.1))) rfl ?_
    obtain ⟨h3, H⟩ := H
    obtain ⟨h4, H⟩ := H
    refine zW_bh (zcmp .ge (Int32.ofNat x1) (Int32.ofNat ((T i).2.1))) 84 20 [some (.ref (21 + 8 * i)), some (.int (Int32.ofNat x1)), some (.int (Int32.ofNat x2)), none, none] [] 1 (fun f => rfl) (fun c => ?_) (fun c => ?_)
    · have c9 : (T i).2.1 ≤ x1 := (of_decide_eq_true ((zcN_ge (a := x1) (b := (T i).2.1) rfl rfl h3 h4).symm.trans c))
      replace H := H.1 c9
      refine zW_gh 85 [some (.ref (21 + 8 * i)), some (.int (Int32.ofNat x1)), some (.int (Int32.ofNat x2)), none, none] [.int (Int32.ofNat x1)] 1 (fun f => rfl) ?_
      exact zW_rh (some (.int (Int32.ofNat x1))) 1 (fun f => rfl) H
    · have c9 : x1 < (T i).2.1 := (Nat.lt_of_not_le (of_decide_eq_false ((zcN_ge (a := x1) (b := (T i).2.1) rfl rfl h3 h4).symm.trans c)))
      replace H := H.2 c9
      refine zW_gh 23 [some (.ref (21 + 8 * i)), some (.int (Int32.ofNat x1)), some (.int (Int32.ofNat x2)), none, none] [.int (Int32.ofNat x2), .int (Int32.ofNat x1), .ref (21 + 8 * i)] 3 (fun f => rfl) ?_
      exact zW_cl rfl rfl rfl rfl rfl H
theorem b11_26 {P : zPt} {T : Nat → zX} {Y : zYt} {I : zIt} {A : zAt} {w : Nat → Int64} {p : Nat × Nat} {Q : zR → zH → Prop} {x1 x2 i : Nat} {rv : Int32} (H : ((¬ rv = (-1 : Int32) → zT zm_13 [.ref (21 + 8 * i), .int (Int32.ofNat x1), .int (Int32.ofNat x2)] p (zh (P, T, Y) I A w) (zK zm_11 39 [some (.ref (21 + 8 * i)), some (.int (Int32.ofNat x1)), some (.int (Int32.ofNat x2)), none, none] [] p Q)) ∧ (rv = (-1 : Int32) → zW zm_11 4 [some (.ref (21 + 8 * i)), some (.int (Int32.ofNat x1)), some (.int (Int32.ofNat (x2 + 1))), none, none] [] p (zh (P, T, Y) I A w) Q))) : zW zm_11 26 [some (.ref (21 + 8 * i)), some (.int (Int32.ofNat x1)), some (.int (Int32.ofNat x2)), none, none] [.int rv] p (zh (P, T, Y) I A w) Q := by
  refine zW_bh (zcmp .ne rv (-1 : Int32)) 33 30 [some (.ref (21 + 8 * i)), some (.int (Int32.ofNat x1)), some (.int (Int32.ofNat x2)), none, none] [] 2 (fun f => rfl) (fun c => ?_) (fun c => ?_)
  · have c9 : ¬ rv = (-1 : Int32) := (by simpa [zcmp] using c)
    replace H := H.1 c9
    refine zW_gh 36 [some (.ref (21 + 8 * i)), some (.int (Int32.ofNat x1)), some (.int (Int32.ofNat x2)), none, none] [.int (Int32.ofNat x2), .int (Int32.ofNat x1), .ref (21 + 8 * i)] 3 (fun f => rfl) ?_
    exact zW_cl rfl rfl rfl rfl rfl H
  · have c9 : rv = (-1 : Int32) := (by simpa [zcmp] using c)
    replace H := H.2 c9
    refine zW_gh 78 [some (.ref (21 + 8 * i)), some (.int (Int32.ofNat x1)), some (.int (Int32.ofNat x2)), none, none] [] 1 (fun f => rfl) ?_
    refine zW_inc [some (.ref (21 + 8 * i)), some (.int (Int32.ofNat x1)), some (.int ((Int32.ofNat x2) + (1 : Int32))), none, none] rfl rfl rfl ?_
    rw [show ((Int32.ofNat x2) + (1 : Int32)) = Int32.ofNat (x2 + 1) from (zN_a rfl rfl)]
    refine zW_gh 4 [some (.ref (21 + 8 * i)), some (.int (Int32.ofNat x1)), some (.int (Int32.ofNat (x2 + 1))), none, none] [] 1 (fun f => rfl) ?_
    exact H
theorem b11_39 {P : zPt} {T : Nat → zX} {Y : zYt} {I : zIt} {A : zAt} {w : Nat → Int64} {p : Nat × Nat} {Q : zR → zH → Prop} {x1 x2 i : Nat} (hi_i : i < 6) (H : (zXb (T i) ∧ zT (zrm ((T i).1) zm_22 zm_7 zm_68) [.ref (zra ((T i).1)), .long (zxat (T i) (Int32.ofNat x1) (Int32.ofNat x2))] p (zh (P, T, Y) I A w) (zK zm_11 52 [some (.ref (21 + 8 * i)), some (.int (Int32.ofNat x1)), some (.int (Int32.ofNat x2)), none, none] [] p Q))) : zW zm_11 39 [some (.ref (21 + 8 * i)), some (.int (Int32.ofNat x1)), some (.int (Int32.ofNat x2)), none, none] [] p (zh (P, T, Y) I A w) Q := by
  refine zW_gh 40 [some (.ref (21 + 8 * i)), some (.int (Int32.ofNat x1)), some (.int (Int32.ofNat x2)), none, none] [.ref (21 + 8 * i)] 1 (fun f => rfl) ?_
  refine zW_gf rfl (by have := hi_i; omega) (zh_T0 hi_i) rfl (v := .ref (zra ((T i).1))) rfl ?_
  refine zW_gh 46 [some (.ref (21 + 8 * i)), some (.int (Int32.ofNat x1)), some (.int (Int32.ofNat x2)), none, none] [.int (Int32.ofNat x2), .int (Int32.ofNat x1), .ref (21 + 8 * i), .ref (zra ((T i).1))] 3 (fun f => rfl) ?_
  obtain ⟨h1, H⟩ := H
  refine zW_cv rfl rfl rfl (by have := hi_i; omega) (zh_T0 hi_i) rfl rfl rfl rfl ((s31 hi_i) h1 ?_)
  change zW zm_11 49 [some (.ref (21 + 8 * i)), some (.int (Int32.ofNat x1)), some (.int (Int32.ofNat x2)), none, none] [.long (zxat (T i) (Int32.ofNat x1) (Int32.ofNat x2)), .ref (zra ((T i).1))] p _ Q
  generalize (zxat (T i) (Int32.ofNat x1) (Int32.ofNat x2)) = g2 at H ⊢
  exact zW_cr rfl rfl rfl rfl rfl rfl rfl rfl rfl rfl rfl rfl rfl H
theorem b11_52 {P : zPt} {T : Nat → zX} {Y : zYt} {I : zIt} {A : zAt} {w : Nat → Int64} {p : Nat × Nat} {Q : zR → zH → Prop} {x1 x2 i : Nat} {rv : Int64} (hi_i : i < 6) (H : ((rv = (4294967296 : Int64) → zT zm_14 [.ref (21 + 8 * i), .int (Int32.ofNat x1), .int (Int32.ofNat x2)] p (zh (P, T, Y) I A w) (zK zm_11 75 [some (.ref (21 + 8 * i)), some (.int (Int32.ofNat x1)), some (.int (Int32.ofNat x2)), none, none] [] p Q)) ∧ (¬ rv = (4294967296 : Int64) → zT zm_39 [.ref (21 + 8 * i), .int (2 : Int32), .int (Int32.ofNat x1), .int (-1 : Int32), .long rv] p (zh (P, T, Y) I A w) (zK zm_11 69 [some (.ref (21 + 8 * i)), some (.int (Int32.ofNat x1)), some (.int (Int32.ofNat x2)), none, none] [] p Q)))) : zW zm_11 52 [some (.ref (21 + 8 * i)), some (.int (Int32.ofNat x1)), some (.int (Int32.ofNat x2)), none, none] [.long rv] p (zh (P, T, Y) I A w) Q := by
  refine zW_bh (zcmp .eq (lg_cmp rv (4294967296 : Int64)) (0 : Int32)) 69 61 [some (.ref (21 + 8 * i)), some (.int (Int32.ofNat x1)), some (.int (Int32.ofNat x2)), some (.long rv), none] [] 5 (fun f => rfl) (fun c => ?_) (fun c => ?_)
  · have c9 : rv = (4294967296 : Int64) := (of_decide_eq_true ((zcL_eq _ _).symm.trans c))
    replace H := H.1 c9
    refine zW_gh 72 [some (.ref (21 + 8 * i)), some (.int (Int32.ofNat x1)), some (.int (Int32.ofNat x2)), some (.long rv), none] [.int (Int32.ofNat x2), .int (Int32.ofNat x1), .ref (21 + 8 * i)] 3 (fun f => rfl) ?_
    refine zW_fg (L' := [some (.ref (21 + 8 * i)), some (.int (Int32.ofNat x1)), some (.int (Int32.ofNat x2)), none, none]) (zle_s _ (zle_s _ (zle_s _ (zle_n _ (zle_s _ zle_nil))))) ?_
    exact zW_cl rfl rfl rfl rfl rfl H
  · have c9 : ¬ rv = (4294967296 : Int64) := (of_decide_eq_false ((zcL_eq _ _).symm.trans c))
    replace H := H.2 c9
    refine zW_gh 66 [some (.ref (21 + 8 * i)), some (.int (Int32.ofNat x1)), some (.int (Int32.ofNat x2)), some (.long rv), none] [.long rv, .int (-1 : Int32), .int (Int32.ofNat x1), .int (2 : Int32), .ref (21 + 8 * i)] 5 (fun f => rfl) ?_
    refine zW_fg (L' := [some (.ref (21 + 8 * i)), some (.int (Int32.ofNat x1)), some (.int (Int32.ofNat x2)), none, none]) (zle_s _ (zle_s _ (zle_s _ (zle_n _ (zle_s _ zle_nil))))) ?_
    exact zW_cv rfl rfl rfl (by have := hi_i; omega) (zh_T0 hi_i) rfl rfl rfl rfl H
theorem b11_75 {P : zPt} {T : Nat → zX} {Y : zYt} {I : zIt} {A : zAt} {w : Nat → Int64} {p : Nat × Nat} {Q : zR → zH → Prop} {x1 x2 i : Nat} (H : zW zm_11 4 [some (.ref (21 + 8 * i)), some (.int (Int32.ofNat (x1 + 1))), some (.int (Int32.ofNat (x2 + 1))), none, none] [] p (zh (P, T, Y) I A w) Q) : zW zm_11 75 [some (.ref (21 + 8 * i)), some (.int (Int32.ofNat x1)), some (.int (Int32.ofNat x2)), none, none] [] p (zh (P, T, Y) I A w) Q := by
  refine zW_inc [some (.ref (21 + 8 * i)), some (.int ((Int32.ofNat x1) + (1 : Int32))), some (.int (Int32.ofNat x2)), none, none] rfl rfl rfl ?_
  rw [show ((Int32.ofNat x1) + (1 : Int32)) = Int32.ofNat (x1 + 1) from (zN_a rfl rfl)]
  refine zW_inc [some (.ref (21 + 8 * i)), some (.int (Int32.ofNat (x1 + 1))), some (.int ((Int32.ofNat x2) + (1 : Int32))), none, none] rfl rfl rfl ?_
  rw [show ((Int32.ofNat x2) + (1 : Int32)) = Int32.ofNat (x2 + 1) from (zN_a rfl rfl)]
  refine zW_gh 4 [some (.ref (21 + 8 * i)), some (.int (Int32.ofNat (x1 + 1))), some (.int (Int32.ofNat (x2 + 1))), none, none] [] 1 (fun f => rfl) ?_
  exact H
theorem b11_69 {P : zPt} {T : Nat → zX} {Y : zYt} {I : zIt} {A : zAt} {w : Nat → Int64} {p : Nat × Nat} {Q : zR → zH → Prop} {x1 x2 i : Nat} (H : zT zm_14 [.ref (21 + 8 * i), .int (Int32.ofNat x1), .int (Int32.ofNat x2)] p (zh (P, T, Y) I A w) (zK zm_11 75 [some (.ref (21 + 8 * i)), some (.int (Int32.ofNat x1)), some (.int (Int32.ofNat x2)), none, none] [] p Q)) : zW zm_11 69 [some (.ref (21 + 8 * i)), some (.int (Int32.ofNat x1)), some (.int (Int32.ofNat x2)), none, none] [] p (zh (P, T, Y) I A w) Q := by
  refine zW_gh 72 [some (.ref (21 + 8 * i)), some (.int (Int32.ofNat x1)), some (.int (Int32.ofNat x2)), none, none] [.int (Int32.ofNat x2), .int (Int32.ofNat x1), .ref (21 + 8 * i)] 3 (fun f => rfl) ?_
  exact zW_cl rfl rfl rfl rfl rfl H
theorem b83 {P : zPt} {T : Nat → zX} {Y : zYt} {I : zIt} {A : zAt} {w : Nat → Int64} {p : Nat × Nat} {Q : zR → zH → Prop} {a1 i : Nat} (H : zW zm_83 10 [some (.ref (21 + 8 * i)), some (.int (Int32.ofNat a1)), some (.int (-1 : Int32)), some (.int (-1 : Int32)), some (.long (0 : Int64)), none, some (.int (Int32.ofNat a1)), none, none, none] [] p (zh (P, T, Y) I A w) Q) : zT zm_83 [.ref (21 + 8 * i), .int (Int32.ofNat a1)] p (zh (P, T, Y) I A w) Q := by
  change zW zm_83 0 [some (.ref (21 + 8 * i)), some (.int (Int32.ofNat a1)), none, none, none, none, none, none, none, none] [] p _ Q
  refine zW_gh 10 [some (.ref (21 + 8 * i)), some (.int (Int32.ofNat a1)), some (.int (-1 : Int32)), some (.int (-1 : Int32)), some (.long (0 : Int64)), none, some (.int (Int32.ofNat a1)), none, none, none] [] 8 (fun f => rfl) ?_
  exact H
theorem b83_10 {P : zPt} {T : Nat → zX} {Y : zYt} {I : zIt} {A : zAt} {w : Nat → Int64} {p : Nat × Nat} {Q : zR → zH → Prop} {x1 x6 i : Nat} {x2 x3 : Int32} {x4 : Int64} (hi_i : i < 6) (H : (x6 < 2147483648 ∧ ((T i).2.1 < 2147483648 ∧ (((T i).2.1 ≤ x6 → ((¬ x2 = (-1 : Int32) → ((x2 = (Int32.ofNat x1) → ((x3 = (Int32.ofNat x1) → Q (.inl (some (.int (1 : Int32)))) (zh (P, T, Y) I A w)) ∧ (¬ x3 = (Int32.ofNat x1) → zT zm_39 [.ref (21 + 8 * i), .int (3 : Int32), .int (Int32.ofNat x1), .int x3, .long (0 : Int64)] p (zh (P, T, Y) I A w) (zK zm_83 123 [none, none, none, none, none, none, none, none, none, none] [] p Q)))) ∧ (¬ x2 = (Int32.ofNat x1) → zT zm_39 [.ref (21 + 8 * i), .int (0 : Int32), .int (Int32.ofNat x1), .int x2, .long (0 : Int64)] p (zh (P, T, Y) I A w) (zK zm_83 110 [some (.ref (21 + 8 * i)), some (.int (Int32.ofNat x1)), none, some (.int x3), none, none, none, none, none, none] [] p Q)))) ∧ (x2 = (-1 : Int32) → Q (.inl (some (.int (0 : Int32)))) (zh (P, T, Y) I A w)))) ∧ (x6 < (T i).2.1 → zW zm_83 22 [some (.ref (21 + 8 * i)), some (.int (Int32.ofNat x1)), some (.int x2), some (.int x3), some (.long x4), none, some (.int (Int32.ofNat x6)), some (.int (Int32.ofNat x1)), none, none] [] p (zh (P, T, Y) I A w) Q))))) : zW zm_83 10 [some (.ref (21 + 8 * i)), some (.int (Int32.ofNat x1)), some (.int x2), some (.int x3), some (.long x4), none, some (.int (Int32.ofNat x6)), none, none, none] [] p (zh (P, T, Y) I A w) Q := by
  refine zW_gh 13 [some (.ref (21 + 8 * i)), some (.int (Int32.ofNat x1)), some (.int x2), some (.int x3), some (.long x4), none, some (.int (Int32.ofNat x6)), none, none, none] [.ref (21 + 8 * i), .int (Int32.ofNat x6)] 2 (fun f => rfl) ?_
  refine zW_gf rfl (by have := hi_i; omega) (zh_T0 hi_i) rfl (v := .int (Int32.ofNat ((T i).2.1))) rfl ?_
  obtain ⟨h1, H⟩ := H
  obtain ⟨h2, H⟩ := H
  refine zW_bh (zcmp .ge (Int32.ofNat x6) (Int32.ofNat ((T i).2.1))) 90 19 [some (.ref (21 + 8 * i)), some (.int (Int32.ofNat x1)), some (.int x2), some (.int x3), some (.long x4), none, some (.int (Int32.ofNat x6)), none, none, none] [] 1 (fun f => rfl) (fun c => ?_) (fun c => ?_)
  · have c9 : (T i).2.1 ≤ x6 := (of_decide_eq_true ((zcN_ge (a := x6) (b := (T i).2.1) rfl rfl h1 h2).symm.trans c))
    replace H := H.1 c9
    refine zW_bh (zcmp .ne x2 (-1 : Int32)) 97 95 [some (.ref (21 + 8 * i)), some (.int (Int32.ofNat x1)), some (.int x2), some (.int x3), some (.long x4), none, some (.int (Int32.ofNat x6)), none, none, none] [] 3 (fun f => rfl) (fun c => ?_) (fun c => ?_)
    · have c9 : ¬ x2 = (-1 : Int32) := (by simpa [zcmp] using c)
      replace H := H.1 c9
      refine zW_bh (zcmp .eq x2 (Int32.ofNat x1)) 110 102 [some (.ref (21 + 8 * i)), some (.int (Int32.ofNat x1)), some (.int x2), some (.int x3), some (.long x4), none, some (.int (Int32.ofNat x6)), none, none, none] [] 3 (fun f => rfl) (fun c => ?_) (fun c => ?_)
      · have c9 : x2 = (Int32.ofNat x1) := (of_decide_eq_true c)
        replace H := H.1 c9
        refine zW_bh (zcmp .eq x3 (Int32.ofNat x1)) 123 115 [some (.ref (21 + 8 * i)), some (.int (Int32.ofNat x1)), some (.int x2), some (.int x3), some (.long x4), none, some (.int (Int32.ofNat x6)), none, none, none] [] 3 (fun f => rfl) (fun c => ?_) (fun c => ?_)
        · have c9 : x3 = (Int32.ofNat x1) := (of_decide_eq_true c)
          replace H := H.1 c9
          refine zW_gh 124 [some (.ref (21 + 8 * i)), some (.int (Int32.ofNat x1)), some (.int x2), some (.int x3), some (.long x4), none, some (.int (Int32.ofNat x6)), none, none, none] [.int (1 : Int32)] 1 (fun f => rfl) ?_
          exact zW_rh (some (.int (1 : Int32))) 1 (fun f => rfl) H
        · have c9 : ¬ x3 = (Int32.ofNat x1) := (of_decide_eq_false c)
          replace H := H.2 c9
          refine zW_gh 120 [some (.ref (21 + 8 * i)), some (.int (Int32.ofNat x1)), some (.int x2), some (.int x3), some (.long x4), none, some (.int (Int32.ofNat x6)), none, none, none] [.long (0 : Int64), .int x3, .int (Int32.ofNat x1), .int (3 : Int32), .ref (21 + 8 * i)] 5 (fun f => rfl) ?_
          refine zW_fg (L' := [none, none, none, none, none, none, none, none, none, none]) (zle_n _ (zle_n _ (zle_n _ (zle_n _ (zle_n _ (zle_s _ (zle_n _ (zle_s _ (zle_s _ (zle_s _ zle_nil)))))))))) ?_
          exact zW_cv rfl rfl rfl (by have := hi_i; omega) (zh_T0 hi_i) rfl rfl rfl rfl H
      · have c9 : ¬ x2 = (Int32.ofNat x1) := (of_decide_eq_false c)
        replace H := H.2 c9
        refine zW_gh 107 [some (.ref (21 + 8 * i)), some (.int (Int32.ofNat x1)), some (.int x2), some (.int x3), some (.long x4), none, some (.int (Int32.ofNat x6)), none, none, none] [.long (0 : Int64), .int x2, .int (Int32.ofNat x1), .int (0 : Int32), .ref (21 + 8 * i)] 5 (fun f => rfl) ?_
        refine zW_fg (L' := [some (.ref (21 + 8 * i)), some (.int (Int32.ofNat x1)), none, some (.int x3), none, none, none, none, none, none]) (zle_s _ (zle_s _ (zle_n _ (zle_s _ (zle_n _ (zle_s _ (zle_n _ (zle_s _ (zle_s _ (zle_s _ zle_nil)))))))))) ?_
        exact zW_cv rfl rfl rfl (by have := hi_i; omega) (zh_T0 hi_i) rfl rfl rfl rfl H
    · have c9 : x2 = (-1 : Int32) := (by simpa [zcmp] using c)
      replace H := H.2 c9
      refine zW_gh 96 [some (.ref (21 + 8 * i)), some (.int (Int32.ofNat x1)), some (.int x2), some (.int x3), some (.long x4), none, some (.int (Int32.ofNat x6)), none, none, none] [.int (0 : Int32)] 1 (fun f => rfl) ?_
      exact zW_rh (some (.int (0 : Int32))) 1 (fun f => rfl) H
  · have c9 : x6 < (T i).2.1 := (Nat.lt_of_not_le (of_decide_eq_false ((zcN_ge (a := x6) (b := (T i).2.1) rfl rfl h1 h2).symm.trans c)))
    replace H := H.2 c9
    refine zW_gh 22 [some (.ref (21 + 8 * i)), some (.int (Int32.ofNat x1)), some (.int x2), some (.int x3), some (.long x4), none, some (.int (Int32.ofNat x6)), some (.int (Int32.ofNat x1)), none, none] [] 2 (fun f => rfl) ?_
    exact H
theorem b83_123 {P : zPt} {T : Nat → zX} {Y : zYt} {I : zIt} {A : zAt} {w : Nat → Int64} {p : Nat × Nat} {Q : zR → zH → Prop} (H : Q (.inl (some (.int (1 : Int32)))) (zh (P, T, Y) I A w)) : zW zm_83 123 [none, none, none, none, none, none, none, none, none, none] [] p (zh (P, T, Y) I A w) Q := by
  refine zW_gh 124 [none, none, none, none, none, none, none, none, none, none] [.int (1 : Int32)] 1 (fun f => rfl) ?_
  exact zW_rh (some (.int (1 : Int32))) 1 (fun f => rfl) H
theorem b83_110 {P : zPt} {T : Nat → zX} {Y : zYt} {I : zIt} {A : zAt} {w : Nat → Int64} {p : Nat × Nat} {Q : zR → zH → Prop} {x1 i : Nat} {x3 : Int32} (hi_i : i < 6) (H : ((x3 = (Int32.ofNat x1) → Q (.inl (some (.int (1 : Int32)))) (zh (P, T, Y) I A w)) ∧ (¬ x3 = (Int32.ofNat x1) → zT zm_39 [.ref (21 + 8 * i), .int (3 : Int32), .int (Int32.ofNat x1), .int x3, .long (0 : Int64)] p (zh (P, T, Y) I A w) (zK zm_83 123 [none, none, none, none, none, none, none, none, none, none] [] p Q)))) : zW zm_83 110 [some (.ref (21 + 8 * i)), some (.int (Int32.ofNat x1)), none, some (.int x3), none, none, none, none, none, none] [] p (zh (P, T, Y) I A w) Q := by
  refine zW_bh (zcmp .eq x3 (Int32.ofNat x1)) 123 115 [some (.ref (21 + 8 * i)), some (.int (Int32.ofNat x1)), none, some (.int x3), none, none, none, none, none, none] [] 3 (fun f => rfl) (fun c => ?_) (fun c => ?_)
  · have c9 : x3 = (Int32.ofNat x1) := (of_decide_eq_true c)
    replace H := H.1 c9
    refine zW_gh 124 [some (.ref (21 + 8 * i)), some (.int (Int32.ofNat x1)), none, some (.int x3), none, none, none, none, none, none] [.int (1 : Int32)] 1 (fun f => rfl) ?_
    exact zW_rh (some (.int (1 : Int32))) 1 (fun f => rfl) H
  · have c9 : ¬ x3 = (Int32.ofNat x1) := (of_decide_eq_false c)
    replace H := H.2 c9
    refine zW_gh 120 [some (.ref (21 + 8 * i)), some (.int (Int32.ofNat x1)), none, some (.int x3), none, none, none, none, none, none] [.long (0 : Int64), .int x3, .int (Int32.ofNat x1), .int (3 : Int32), .ref (21 + 8 * i)] 5 (fun f => rfl) ?_
    refine zW_fg (L' := [none, none, none, none, none, none, none, none, none, none]) (zle_n _ (zle_n _ (zle_s _ (zle_n _ (zle_s _ (zle_s _ (zle_s _ (zle_s _ (zle_s _ (zle_s _ zle_nil)))))))))) ?_
    exact zW_cv rfl rfl rfl (by have := hi_i; omega) (zh_T0 hi_i) rfl rfl rfl rfl H
theorem b83_22 {P : zPt} {T : Nat → zX} {Y : zYt} {I : zIt} {A : zAt} {w : Nat → Int64} {p : Nat × Nat} {Q : zR → zH → Prop} {x1 x6 x7 i : Nat} {x2 x3 : Int32} {x4 : Int64} (hi_i : i < 6) (H : (x7 < 2147483648 ∧ ((T i).2.2.1 < 2147483648 ∧ (((T i).2.2.1 ≤ x7 → zW zm_83 10 [some (.ref (21 + 8 * i)), some (.int (Int32.ofNat x1)), some (.int x2), some (.int x3), some (.long x4), none, some (.int (Int32.ofNat (x6 + 1))), none, none, none] [] p (zh (P, T, Y) I A w) Q) ∧ (x7 < (T i).2.2.1 → (zXb (T i) ∧ zT (zrm ((T i).1) zm_18 zm_3 zm_63) [.ref (zra ((T i).1)), .long (zxat (T i) (Int32.ofNat x6) (Int32.ofNat x7))] p (zh (P, T, Y) I A w) (zK zm_83 46 [some (.ref (21 + 8 * i)), some (.int (Int32.ofNat x1)), some (.int x2), some (.int x3), some (.long x4), none, some (.int (Int32.ofNat x6)), some (.int (Int32.ofNat x7)), none, none] [] p Q))))))) : zW zm_83 22 [some (.ref (21 + 8 * i)), some (.int (Int32.ofNat x1)), some (.int x2), some (.int x3), some (.long x4), none, some (.int (Int32.ofNat x6)), some (.int (Int32.ofNat x7)), none, none] [] p (zh (P, T, Y) I A w) Q := by
  refine zW_gh 25 [some (.ref (21 + 8 * i)), some (.int (Int32.ofNat x1)), some (.int x2), some (.int x3), some (.long x4), none, some (.int (Int32.ofNat x6)), some (.int (Int32.ofNat x7)), none, none] [.ref (21 + 8 * i), .int (Int32.ofNat x7)] 2 (fun f => rfl) ?_
  refine zW_gf rfl (by have := hi_i; omega) (zh_T0 hi_i) rfl (v := .int (Int32.ofNat ((T i).2.2.1))) rfl ?_
  obtain ⟨h1, H⟩ := H
  obtain ⟨h2, H⟩ := H
  refine zW_bh (zcmp .ge (Int32.ofNat x7) (Int32.ofNat ((T i).2.2.1))) 84 31 [some (.ref (21 + 8 * i)), some (.int (Int32.ofNat x1)), some (.int x2), some (.int x3), some (.long x4), none, some (.int (Int32.ofNat x6)), some (.int (Int32.ofNat x7)), none, none] [] 1 (fun f => rfl) (fun c => ?_) (fun c => ?_)
  · have c9 : (T i).2.2.1 ≤ x7 := (of_decide_eq_true ((zcN_ge (a := x7) (b := (T i).2.2.1) rfl rfl h1 h2).symm.trans c))
    replace H := H.1 c9
    refine zW_inc [some (.ref (21 + 8 * i)), some (.int (Int32.ofNat x1)), some (.int x2), some (.int x3), some (.long x4), none, some (.int ((Int32.ofNat x6) + (1 : Int32))), some (.int (Int32.ofNat x7)), none, none] rfl rfl rfl ?_
    rw [show ((Int32.ofNat x6) + (1 : Int32)) = Int32.ofNat (x6 + 1) from (zN_a rfl rfl)]
    refine zW_gh 10 [some (.ref (21 + 8 * i)), some (.int (Int32.ofNat x1)), some (.int x2), some (.int x3), some (.long x4), none, some (.int (Int32.ofNat (x6 + 1))), some (.int (Int32.ofNat x7)), none, none] [] 1 (fun f => rfl) ?_
    refine zW_fg (L' := [some (.ref (21 + 8 * i)), some (.int (Int32.ofNat x1)), some (.int x2), some (.int x3), some (.long x4), none, some (.int (Int32.ofNat (x6 + 1))), none, none, none]) (zle_s _ (zle_s _ (zle_s _ (zle_s _ (zle_s _ (zle_s _ (zle_s _ (zle_n _ (zle_s _ (zle_s _ zle_nil)))))))))) ?_
    exact H
  · have c9 : x7 < (T i).2.2.1 := (Nat.lt_of_not_le (of_decide_eq_false ((zcN_ge (a := x7) (b := (T i).2.2.1) rfl rfl h1 h2).symm.trans c)))
    replace H := H.2 c9
    refine zW_gh 32 [some (.ref (21 + 8 * i)), some (.int (Int32.ofNat x1)), some (.int x2), some (.int x3), some (.long x4), none, some (.int (Int32.ofNat x6)), some (.int (Int32.ofNat x7)), none, none] [.ref (21 + 8 * i)] 1 (fun f => rfl) ?_
    refine zW_gf rfl (by have := hi_i; omega) (zh_T0 hi_i) rfl (v := .ref (zra ((T i).1))) rfl ?_
    refine zW_gh 40 [some (.ref (21 + 8 * i)), some (.int (Int32.ofNat x1)), some (.int x2), some (.int x3), some (.long x4), none, some (.int (Int32.ofNat x6)), some (.int (Int32.ofNat x7)), none, none] [.int (Int32.ofNat x7), .int (Int32.ofNat x6), .ref (21 + 8 * i), .ref (zra ((T i).1))] 3 (fun f => rfl) ?_
    obtain ⟨h3, H⟩ := H
    refine zW_cv rfl rfl rfl (by have := hi_i; omega) (zh_T0 hi_i) rfl rfl rfl rfl ((s31 hi_i) h3 ?_)
    change zW zm_83 43 [some (.ref (21 + 8 * i)), some (.int (Int32.ofNat x1)), some (.int x2), some (.int x3), some (.long x4), none, some (.int (Int32.ofNat x6)), some (.int (Int32.ofNat x7)), none, none] [.long (zxat (T i) (Int32.ofNat x6) (Int32.ofNat x7)), .ref (zra ((T i).1))] p _ Q
    generalize (zxat (T i) (Int32.ofNat x6) (Int32.ofNat x7)) = g4 at H ⊢
    exact zW_cr rfl rfl rfl rfl rfl rfl rfl rfl rfl rfl rfl rfl rfl H
theorem b83_46 {P : zPt} {T : Nat → zX} {Y : zYt} {I : zIt} {A : zAt} {w : Nat → Int64} {p : Nat × Nat} {Q : zR → zH → Prop} {x1 x6 x7 i : Nat} {x2 x3 : Int32} {x4 rv : Int64} (H : ((rv = (0 : Int64) → zW zm_83 22 [some (.ref (21 + 8 * i)), some (.int (Int32.ofNat x1)), some (.int x2), some (.int x3), some (.long x4), none, some (.int (Int32.ofNat x6)), some (.int (Int32.ofNat (x7 + 1))), none, none] [] p (zh (P, T, Y) I A w) Q) ∧ (¬ rv = (0 : Int64) → ((x2 = (-1 : Int32) → zW zm_83 22 [some (.ref (21 + 8 * i)), some (.int (Int32.ofNat x1)), some (.int (Int32.ofNat x6)), some (.int (Int32.ofNat x7)), some (.long rv), none, some (.int (Int32.ofNat x6)), some (.int (Int32.ofNat (x7 + 1))), none, none] [] p (zh (P, T, Y) I A w) Q) ∧ (¬ x2 = (-1 : Int32) → ((x4 ≤ rv → zW zm_83 22 [some (.ref (21 + 8 * i)), some (.int (Int32.ofNat x1)), some (.int x2), some (.int x3), some (.long x4), none, some (.int (Int32.ofNat x6)), some (.int (Int32.ofNat (x7 + 1))), none, none] [] p (zh (P, T, Y) I A w) Q) ∧ (¬ x4 ≤ rv → zW zm_83 22 [some (.ref (21 + 8 * i)), some (.int (Int32.ofNat x1)), some (.int (Int32.ofNat x6)), some (.int (Int32.ofNat x7)), some (.long rv), none, some (.int (Int32.ofNat x6)), some (.int (Int32.ofNat (x7 + 1))), none, none] [] p (zh (P, T, Y) I A w) Q))))))) : zW zm_83 46 [some (.ref (21 + 8 * i)), some (.int (Int32.ofNat x1)), some (.int x2), some (.int x3), some (.long x4), none, some (.int (Int32.ofNat x6)), some (.int (Int32.ofNat x7)), none, none] [.long rv] p (zh (P, T, Y) I A w) Q := by
  refine zW_bh (zcmp .eq (lg_cmp rv (0 : Int64)) (0 : Int32)) 78 55 [some (.ref (21 + 8 * i)), some (.int (Int32.ofNat x1)), some (.int x2), some (.int x3), some (.long x4), none, some (.int (Int32.ofNat x6)), some (.int (Int32.ofNat x7)), some (.long rv), none] [] 5 (fun f => rfl) (fun c => ?_) (fun c => ?_)
  · have c9 : rv = (0 : Int64) := (of_decide_eq_true ((zcL_eq _ _).symm.trans c))
    replace H := H.1 c9
    refine zW_inc [some (.ref (21 + 8 * i)), some (.int (Int32.ofNat x1)), some (.int x2), some (.int x3), some (.long x4), none, some (.int (Int32.ofNat x6)), some (.int ((Int32.ofNat x7) + (1 : Int32))), some (.long rv), none] rfl rfl rfl ?_
    rw [show ((Int32.ofNat x7) + (1 : Int32)) = Int32.ofNat (x7 + 1) from (zN_a rfl rfl)]
    refine zW_gh 22 [some (.ref (21 + 8 * i)), some (.int (Int32.ofNat x1)), some (.int x2), some (.int x3), some (.long x4), none, some (.int (Int32.ofNat x6)), some (.int (Int32.ofNat (x7 + 1))), some (.long rv), none] [] 1 (fun f => rfl) ?_
    refine zW_fg (L' := [some (.ref (21 + 8 * i)), some (.int (Int32.ofNat x1)), some (.int x2), some (.int x3), some (.long x4), none, some (.int (Int32.ofNat x6)), some (.int (Int32.ofNat (x7 + 1))), none, none]) (zle_s _ (zle_s _ (zle_s _ (zle_s _ (zle_s _ (zle_s _ (zle_s _ (zle_s _ (zle_n _ (zle_s _ zle_nil)))))))))) ?_
    exact H
  · have c9 : ¬ rv = (0 : Int64) := (of_decide_eq_false ((zcL_eq _ _).symm.trans c))
    replace H := H.2 c9
    refine zW_bh (zcmp .eq x2 (-1 : Int32)) 68 60 [some (.ref (21 + 8 * i)), some (.int (Int32.ofNat x1)), some (.int x2), some (.int x3), some (.long x4), none, some (.int (Int32.ofNat x6)), some (.int (Int32.ofNat x7)), some (.long rv), none] [] 3 (fun f => rfl) (fun c => ?_) (fun c => ?_)
    · have c9 : x2 = (-1 : Int32) := (of_decide_eq_true c)
      replace H := H.1 c9
      refine zW_gh 78 [some (.ref (21 + 8 * i)), some (.int (Int32.ofNat x1)), some (.int (Int32.ofNat x6)), some (.int (Int32.ofNat x7)), some (.long rv), none, some (.int (Int32.ofNat x6)), some (.int (Int32.ofNat x7)), some (.long rv), none] [] 6 (fun f => rfl) ?_
      refine zW_inc [some (.ref (21 + 8 * i)), some (.int (Int32.ofNat x1)), some (.int (Int32.ofNat x6)), some (.int (Int32.ofNat x7)), some (.long rv), none, some (.int (Int32.ofNat x6)), some (.int ((Int32.ofNat x7) + (1 : Int32))), some (.long rv), none] rfl rfl rfl ?_
      rw [show ((Int32.ofNat x7) + (1 : Int32)) = Int32.ofNat (x7 + 1) from (zN_a rfl rfl)]
      refine zW_gh 22 [some (.ref (21 + 8 * i)), some (.int (Int32.ofNat x1)), some (.int (Int32.ofNat x6)), some (.int (Int32.ofNat x7)), some (.long rv), none, some (.int (Int32.ofNat x6)), some (.int (Int32.ofNat (x7 + 1))), some (.long rv), none] [] 1 (fun f => rfl) ?_
      refine zW_fg (L' := [some (.ref (21 + 8 * i)), some (.int (Int32.ofNat x1)), some (.int (Int32.ofNat x6)), some (.int (Int32.ofNat x7)), some (.long rv), none, some (.int (Int32.ofNat x6)), some (.int (Int32.ofNat (x7 + 1))), none, none]) (zle_s _ (zle_s _ (zle_s _ (zle_s _ (zle_s _ (zle_s _ (zle_s _ (zle_s _ (zle_n _ (zle_s _ zle_nil)))))))))) ?_
      exact H
    · have c9 : ¬ x2 = (-1 : Int32) := (of_decide_eq_false c)
      replace H := H.2 c9
      refine zW_bh (zcmp .ge (lg_cmp rv x4) (0 : Int32)) 78 68 [some (.ref (21 + 8 * i)), some (.int (Int32.ofNat x1)), some (.int x2), some (.int x3), some (.long x4), none, some (.int (Int32.ofNat x6)), some (.int (Int32.ofNat x7)), some (.long rv), none] [] 4 (fun f => rfl) (fun c => ?_) (fun c => ?_)
      · have c9 : x4 ≤ rv := (of_decide_eq_true ((zcL_ge _ _).symm.trans c))
        replace H := H.1 c9
        refine zW_inc [some (.ref (21 + 8 * i)), some (.int (Int32.ofNat x1)), some (.int x2), some (.int x3), some (.long x4), none, some (.int (Int32.ofNat x6)), some (.int ((Int32.ofNat x7) + (1 : Int32))), some (.long rv), none] rfl rfl rfl ?_
        rw [show ((Int32.ofNat x7) + (1 : Int32)) = Int32.ofNat (x7 + 1) from (zN_a rfl rfl)]
        refine zW_gh 22 [some (.ref (21 + 8 * i)), some (.int (Int32.ofNat x1)), some (.int x2), some (.int x3), some (.long x4), none, some (.int (Int32.ofNat x6)), some (.int (Int32.ofNat (x7 + 1))), some (.long rv), none] [] 1 (fun f => rfl) ?_
        refine zW_fg (L' := [some (.ref (21 + 8 * i)), some (.int (Int32.ofNat x1)), some (.int x2), some (.int x3), some (.long x4), none, some (.int (Int32.ofNat x6)), some (.int (Int32.ofNat (x7 + 1))), none, none]) (zle_s _ (zle_s _ (zle_s _ (zle_s _ (zle_s _ (zle_s _ (zle_s _ (zle_s _ (zle_n _ (zle_s _ zle_nil)))))))))) ?_
        exact H
      · have c9 : ¬ x4 ≤ rv := (of_decide_eq_false ((zcL_ge _ _).symm.trans c))
        replace H := H.2 c9
        refine zW_gh 78 [some (.ref (21 + 8 * i)), some (.int (Int32.ofNat x1)), some (.int (Int32.ofNat x6)), some (.int (Int32.ofNat x7)), some (.long rv), none, some (.int (Int32.ofNat x6)), some (.int (Int32.ofNat x7)), some (.long rv), none] [] 6 (fun f => rfl) ?_
        refine zW_inc [some (.ref (21 + 8 * i)), some (.int (Int32.ofNat x1)), some (.int (Int32.ofNat x6)), some (.int (Int32.ofNat x7)), some (.long rv), none, some (.int (Int32.ofNat x6)), some (.int ((Int32.ofNat x7) + (1 : Int32))), some (.long rv), none] rfl rfl rfl ?_
        rw [show ((Int32.ofNat x7) + (1 : Int32)) = Int32.ofNat (x7 + 1) from (zN_a rfl rfl)]
        refine zW_gh 22 [some (.ref (21 + 8 * i)), some (.int (Int32.ofNat x1)), some (.int (Int32.ofNat x6)), some (.int (Int32.ofNat x7)), some (.long rv), none, some (.int (Int32.ofNat x6)), some (.int (Int32.ofNat (x7 + 1))), some (.long rv), none] [] 1 (fun f => rfl) ?_
        refine zW_fg (L' := [some (.ref (21 + 8 * i)), some (.int (Int32.ofNat x1)), some (.int (Int32.ofNat x6)), some (.int (Int32.ofNat x7)), some (.long rv), none, some (.int (Int32.ofNat x6)), some (.int (Int32.ofNat (x7 + 1))), none, none]) (zle_s _ (zle_s _ (zle_s _ (zle_s _ (zle_s _ (zle_s _ (zle_s _ (zle_s _ (zle_n _ (zle_s _ zle_nil)))))))))) ?_
        exact H
theorem b84 {P : zPt} {T : Nat → zX} {Y : zYt} {I : zIt} {A : zAt} {w : Nat → Int64} {p : Nat × Nat} {Q : zR → zH → Prop} {a1 i : Nat} (hi_i : i < 6) (H : (zXb (T i) ∧ zW zm_84 12 [some (.ref (21 + 8 * i)), some (.int (Int32.ofNat a1)), some (.long (zxat (T i) (Int32.ofNat a1) (Int32.ofNat a1))), none, some (.int (Int32.ofNat (a1 + 1))), none, none] [] p (zh (P, T, Y) I A w) Q)) : zT zm_84 [.ref (21 + 8 * i), .int (Int32.ofNat a1)] p (zh (P, T, Y) I A w) Q := by
  change zW zm_84 0 [some (.ref (21 + 8 * i)), some (.int (Int32.ofNat a1)), none, none, none, none, none] [] p _ Q
  refine zW_gh 3 [some (.ref (21 + 8 * i)), some (.int (Int32.ofNat a1)), none, none, none, none, none] [.int (Int32.ofNat a1), .int (Int32.ofNat a1), .ref (21 + 8 * i)] 3 (fun f => rfl) ?_
  obtain ⟨h1, H⟩ := H
  refine zW_cv rfl rfl rfl (by have := hi_i; omega) (zh_T0 hi_i) rfl rfl rfl rfl ((s31 hi_i) h1 ?_)
  change zW zm_84 6 [some (.ref (21 + 8 * i)), some (.int (Int32.ofNat a1)), none, none, none, none, none] [.long (zxat (T i) (Int32.ofNat a1) (Int32.ofNat a1))] p _ Q
  generalize (zxat (T i) (Int32.ofNat a1) (Int32.ofNat a1)) = g2 at H ⊢
  refine zW_gh 12 [some (.ref (21 + 8 * i)), some (.int (Int32.ofNat a1)), some (.long g2), none, some (.int ((Int32.ofNat a1) + (1 : Int32))), none, none] [] 5 (fun f => rfl) ?_
  rw [show ((Int32.ofNat a1) + (1 : Int32)) = Int32.ofNat (a1 + 1) from (zN_a rfl rfl)]
  exact H
theorem b84_12 {P : zPt} {T : Nat → zX} {Y : zYt} {I : zIt} {A : zAt} {w : Nat → Int64} {p : Nat × Nat} {Q : zR → zH → Prop} {x1 x4 i : Nat} {x2 : Int64} (hi_i : i < 6) (H : (x4 < 2147483648 ∧ ((T i).2.1 < 2147483648 ∧ (((T i).2.1 ≤ x4 → Q (.inl none) (zh (P, T, Y) I A w)) ∧ (x4 < (T i).2.1 → (zXb (T i) ∧ (((zxat (T i) (Int32.ofNat x4) (Int32.ofNat x1)) = (0 : Int64) → zW zm_84 12 [some (.ref (21 + 8 * i)), some (.int (Int32.ofNat x1)), some (.long x2), none, some (.int (Int32.ofNat (x4 + 1))), none, none] [] p (zh (P, T, Y) I A w) Q) ∧ (¬ (zxat (T i) (Int32.ofNat x4) (Int32.ofNat x1)) = (0 : Int64) → zT zm_80 [.ref (zra ((T i).1)), .long (zxat (T i) (Int32.ofNat x4) (Int32.ofNat x1)), .long x2] p (zh (P, T, Y) I A w) (zK zm_84 52 [some (.ref (21 + 8 * i)), some (.int (Int32.ofNat x1)), some (.long x2), none, some (.int (Int32.ofNat x4)), none, none] [.int (Int32.ofNat x1), .int (Int32.ofNat x4), .int (Int32.ofNat 1), .ref (21 + 8 * i)] p Q))))))))) : zW zm_84 12 [some (.ref (21 + 8 * i)), some (.int (Int32.ofNat x1)), some (.long x2), none, some (.int (Int32.ofNat x4)), none, none] [] p (zh (P, T, Y) I A w) Q := by
  refine zW_gh 15 [some (.ref (21 + 8 * i)), some (.int (Int32.ofNat x1)), some (.long x2), none, some (.int (Int32.ofNat x4)), none, none] [.ref (21 + 8 * i), .int (Int32.ofNat x4)] 2 (fun f => rfl) ?_
  refine zW_gf rfl (by have := hi_i; omega) (zh_T0 hi_i) rfl (v := .int (Int32.ofNat ((T i).2.1))) rfl ?_
  obtain ⟨h1, H⟩ := H
  obtain ⟨h2, H⟩ := H
  refine zW_bh (zcmp .ge (Int32.ofNat x4) (Int32.ofNat ((T i).2.1))) 61 21 [some (.ref (21 + 8 * i)), some (.int (Int32.ofNat x1)), some (.long x2), none, some (.int (Int32.ofNat x4)), none, none] [] 1 (fun f => rfl) (fun c => ?_) (fun c => ?_)
  · have c9 : (T i).2.1 ≤ x4 := (of_decide_eq_true ((zcN_ge (a := x4) (b := (T i).2.1) rfl rfl h1 h2).symm.trans c))
    replace H := H.1 c9
    exact zW_rh none 1 (fun f => rfl) H
  · have c9 : x4 < (T i).2.1 := (Nat.lt_of_not_le (of_decide_eq_false ((zcN_ge (a := x4) (b := (T i).2.1) rfl rfl h1 h2).symm.trans c)))
    replace H := H.2 c9
    refine zW_gh 25 [some (.ref (21 + 8 * i)), some (.int (Int32.ofNat x1)), some (.long x2), none, some (.int (Int32.ofNat x4)), none, none] [.int (Int32.ofNat x1), .int (Int32.ofNat x4), .ref (21 + 8 * i)] 3 (fun f => rfl) ?_
    obtain ⟨h3, H⟩ := H
    refine zW_cv rfl rfl rfl (by have := hi_i; omega) (zh_T0 hi_i) rfl rfl rfl rfl ((s31 hi_i) h3 ?_)
    change zW zm_84 28 [some (.ref (21 + 8 * i)), some (.int (Int32.ofNat x1)), some (.long x2), none, some (.int (Int32.ofNat x4)), none, none] [.long (zxat (T i) (Int32.ofNat x4) (Int32.ofNat x1))] p _ Q
    generalize (zxat (T i) (Int32.ofNat x4) (Int32.ofNat x1)) = g4 at H ⊢
    refine zW_bh (zcmp .eq (lg_cmp g4 (0 : Int64)) (0 : Int32)) 55 37 [some (.ref (21 + 8 * i)), some (.int (Int32.ofNat x1)), some (.long x2), none, some (.int (Int32.ofNat x4)), some (.long g4), none] [] 5 (fun f => rfl) (fun c => ?_) (fun c => ?_)
    · have c9 : g4 = (0 : Int64) := (of_decide_eq_true ((zcL_eq _ _).symm.trans c))
      replace H := H.1 c9
      refine zW_inc [some (.ref (21 + 8 * i)), some (.int (Int32.ofNat x1)), some (.long x2), none, some (.int ((Int32.ofNat x4) + (1 : Int32))), some (.long g4), none] rfl rfl rfl ?_
      rw [show ((Int32.ofNat x4) + (1 : Int32)) = Int32.ofNat (x4 + 1) from (zN_a rfl rfl)]
      refine zW_gh 12 [some (.ref (21 + 8 * i)), some (.int (Int32.ofNat x1)), some (.long x2), none, some (.int (Int32.ofNat (x4 + 1))), some (.long g4), none] [] 1 (fun f => rfl) ?_
      refine zW_fg (L' := [some (.ref (21 + 8 * i)), some (.int (Int32.ofNat x1)), some (.long x2), none, some (.int (Int32.ofNat (x4 + 1))), none, none]) (zle_s _ (zle_s _ (zle_s _ (zle_s _ (zle_s _ (zle_n _ (zle_s _ zle_nil))))))) ?_
      exact H
    · have c9 : ¬ g4 = (0 : Int64) := (of_decide_eq_false ((zcL_eq _ _).symm.trans c))
      replace H := H.2 c9
      refine zW_gh 43 [some (.ref (21 + 8 * i)), some (.int (Int32.ofNat x1)), some (.long x2), none, some (.int (Int32.ofNat x4)), some (.long g4), none] [.ref (21 + 8 * i), .int (Int32.ofNat x1), .int (Int32.ofNat x4), .int (1 : Int32), .ref (21 + 8 * i)] 5 (fun f => rfl) ?_
      refine zW_gf rfl (by have := hi_i; omega) (zh_T0 hi_i) rfl (v := .ref (zra ((T i).1))) rfl ?_
      refine zW_gh 49 [some (.ref (21 + 8 * i)), some (.int (Int32.ofNat x1)), some (.long x2), none, some (.int (Int32.ofNat x4)), some (.long g4), none] [.long x2, .long g4, .ref (zra ((T i).1)), .int (Int32.ofNat x1), .int (Int32.ofNat x4), .int (1 : Int32), .ref (21 + 8 * i)] 2 (fun f => rfl) ?_
      refine zW_fg (L' := [some (.ref (21 + 8 * i)), some (.int (Int32.ofNat x1)), some (.long x2), none, some (.int (Int32.ofNat x4)), none, none]) (zle_s _ (zle_s _ (zle_s _ (zle_s _ (zle_s _ (zle_n _ (zle_s _ zle_nil))))))) ?_
      exact zW_cr1 rfl rfl rfl rfl rfl rfl rfl rfl rfl H
theorem b84_52 {P : zPt} {T : Nat → zX} {Y : zYt} {I : zIt} {A : zAt} {w : Nat → Int64} {p : Nat × Nat} {Q : zR → zH → Prop} {x1 x4 s0 s1 s2 i : Nat} {x2 rv : Int64} (hi_i : i < 6) (H : zT zm_39 [.ref (21 + 8 * i), .int (Int32.ofNat s2), .int (Int32.ofNat s1), .int (Int32.ofNat s0), .long rv] p (zh (P, T, Y) I A w) (zK zm_84 55 [some (.ref (21 + 8 * i)), some (.int (Int32.ofNat x1)), some (.long x2), none, some (.int (Int32.ofNat x4)), none, none] [] p Q)) : zW zm_84 52 [some (.ref (21 + 8 * i)), some (.int (Int32.ofNat x1)), some (.long x2), none, some (.int (Int32.ofNat x4)), none, none] [.long rv, .int (Int32.ofNat s0), .int (Int32.ofNat s1), .int (Int32.ofNat s2), .ref (21 + 8 * i)] p (zh (P, T, Y) I A w) Q := by
  exact zW_cv rfl rfl rfl (by have := hi_i; omega) (zh_T0 hi_i) rfl rfl rfl rfl H
theorem b84_55 {P : zPt} {T : Nat → zX} {Y : zYt} {I : zIt} {A : zAt} {w : Nat → Int64} {p : Nat × Nat} {Q : zR → zH → Prop} {x1 x4 i : Nat} {x2 : Int64} (H : zW zm_84 12 [some (.ref (21 + 8 * i)), some (.int (Int32.ofNat x1)), some (.long x2), none, some (.int (Int32.ofNat (x4 + 1))), none, none] [] p (zh (P, T, Y) I A w) Q) : zW zm_84 55 [some (.ref (21 + 8 * i)), some (.int (Int32.ofNat x1)), some (.long x2), none, some (.int (Int32.ofNat x4)), none, none] [] p (zh (P, T, Y) I A w) Q := by
  refine zW_inc [some (.ref (21 + 8 * i)), some (.int (Int32.ofNat x1)), some (.long x2), none, some (.int ((Int32.ofNat x4) + (1 : Int32))), none, none] rfl rfl rfl ?_
  rw [show ((Int32.ofNat x4) + (1 : Int32)) = Int32.ofNat (x4 + 1) from (zN_a rfl rfl)]
  refine zW_gh 12 [some (.ref (21 + 8 * i)), some (.int (Int32.ofNat x1)), some (.long x2), none, some (.int (Int32.ofNat (x4 + 1))), none, none] [] 1 (fun f => rfl) ?_
  exact H
theorem b85 {P : zPt} {T : Nat → zX} {Y : zYt} {I : zIt} {A : zAt} {w : Nat → Int64} {p : Nat × Nat} {Q : zR → zH → Prop} {a1 i : Nat} (hi_i : i < 6) (H : (zXb (T i) ∧ zW zm_85 12 [some (.ref (21 + 8 * i)), some (.int (Int32.ofNat a1)), some (.long (zxat (T i) (Int32.ofNat a1) (Int32.ofNat a1))), none, some (.int (Int32.ofNat (a1 + 1))), none, none] [] p (zh (P, T, Y) I A w) Q)) : zT zm_85 [.ref (21 + 8 * i), .int (Int32.ofNat a1)] p (zh (P, T, Y) I A w) Q := by
  change zW zm_85 0 [some (.ref (21 + 8 * i)), some (.int (Int32.ofNat a1)), none, none, none, none, none] [] p _ Q
  refine zW_gh 3 [some (.ref (21 + 8 * i)), some (.int (Int32.ofNat a1)), none, none, none, none, none] [.int (Int32.ofNat a1), .int (Int32.ofNat a1), .ref (21 + 8 * i)] 3 (fun f => rfl) ?_
  obtain ⟨h1, H⟩ := H
  refine zW_cv rfl rfl rfl (by have := hi_i; omega) (zh_T0 hi_i) rfl rfl rfl rfl ((s31 hi_i) h1 ?_)
  change zW zm_85 6 [some (.ref (21 + 8 * i)), some (.int (Int32.ofNat a1)), none, none, none, none, none] [.long (zxat (T i) (Int32.ofNat a1) (Int32.ofNat a1))] p _ Q
  generalize (zxat (T i) (Int32.ofNat a1) (Int32.ofNat a1)) = g2 at H ⊢
  refine zW_gh 12 [some (.ref (21 + 8 * i)), some (.int (Int32.ofNat a1)), some (.long g2), none, some (.int ((Int32.ofNat a1) + (1 : Int32))), none, none] [] 5 (fun f => rfl) ?_
  rw [show ((Int32.ofNat a1) + (1 : Int32)) = Int32.ofNat (a1 + 1) from (zN_a rfl rfl)]
  exact H
theorem b85_12 {P : zPt} {T : Nat → zX} {Y : zYt} {I : zIt} {A : zAt} {w : Nat → Int64} {p : Nat × Nat} {Q : zR → zH → Prop} {x1 x4 i : Nat} {x2 : Int64} (hi_i : i < 6) (H : (x4 < 2147483648 ∧ ((T i).2.2.1 < 2147483648 ∧ (((T i).2.2.1 ≤ x4 → Q (.inl none) (zh (P, T, Y) I A w)) ∧ (x4 < (T i).2.2.1 → (zXb (T i) ∧ (((zxat (T i) (Int32.ofNat x1) (Int32.ofNat x4)) = (0 : Int64) → zW zm_85 12 [some (.ref (21 + 8 * i)), some (.int (Int32.ofNat x1)), some (.long x2), none, some (.int (Int32.ofNat (x4 + 1))), none, none] [] p (zh (P, T, Y) I A w) Q) ∧ (¬ (zxat (T i) (Int32.ofNat x1) (Int32.ofNat x4)) = (0 : Int64) → zT zm_80 [.ref (zra ((T i).1)), .long (zxat (T i) (Int32.ofNat x1) (Int32.ofNat x4)), .long x2] p (zh (P, T, Y) I A w) (zK zm_85 52 [some (.ref (21 + 8 * i)), some (.int (Int32.ofNat x1)), some (.long x2), none, some (.int (Int32.ofNat x4)), none, none] [.int (Int32.ofNat x1), .int (Int32.ofNat x4), .int (Int32.ofNat 4), .ref (21 + 8 * i)] p Q))))))))) : zW zm_85 12 [some (.ref (21 + 8 * i)), some (.int (Int32.ofNat x1)), some (.long x2), none, some (.int (Int32.ofNat x4)), none, none] [] p (zh (P, T, Y) I A w) Q := by
  refine zW_gh 15 [some (.ref (21 + 8 * i)), some (.int (Int32.ofNat x1)), some (.long x2), none, some (.int (Int32.ofNat x4)), none, none] [.ref (21 + 8 * i), .int (Int32.ofNat x4)] 2 (fun f => rfl) ?_
  refine zW_gf rfl (by have := hi_i; omega) (zh_T0 hi_i) rfl (v := .int (Int32.ofNat ((T i).2.2.1))) rfl ?_
  obtain ⟨h1, H⟩ := H
  obtain ⟨h2, H⟩ := H
  refine zW_bh (zcmp .ge (Int32.ofNat x4) (Int32.ofNat ((T i).2.2.1))) 61 21 [some (.ref (21 + 8 * i)), some (.int (Int32.ofNat x1)), some (.long x2), none, some (.int (Int32.ofNat x4)), none, none] [] 1 (fun f => rfl) (fun c => ?_) (fun c => ?_)
  · have c9 : (T i).2.2.1 ≤ x4 := (of_decide_eq_true ((zcN_ge (a := x4) (b := (T i).2.2.1) rfl rfl h1 h2).symm.trans c))
    replace H := H.1 c9
    exact zW_rh none 1 (fun f => rfl) H
  · have c9 : x4 < (T i).2.2.1 := (Nat.lt_of_not_le (of_decide_eq_false ((zcN_ge (a := x4) (b := (T i).2.2.1) rfl rfl h1 h2).symm.trans c)))
    replace H := H.2 c9
    refine zW_gh 25 [some (.ref (21 + 8 * i)), some (.int (Int32.ofNat x1)), some (.long x2), none, some (.int (Int32.ofNat x4)), none, none] [.int (Int32.ofNat x4), .int (Int32.ofNat x1), .ref (21 + 8 * i)] 3 (fun f => rfl) ?_
    obtain ⟨h3, H⟩ := H
    refine zW_cv rfl rfl rfl (by have := hi_i; omega) (zh_T0 hi_i) rfl rfl rfl rfl ((s31 hi_i) h3 ?_)
    change zW zm_85 28 [some (.ref (21 + 8 * i)), some (.int (Int32.ofNat x1)), some (.long x2), none, some (.int (Int32.ofNat x4)), none, none] [.long (zxat (T i) (Int32.ofNat x1) (Int32.ofNat x4))] p _ Q
    generalize (zxat (T i) (Int32.ofNat x1) (Int32.ofNat x4)) = g4 at H ⊢
    refine zW_bh (zcmp .eq (lg_cmp g4 (0 : Int64)) (0 : Int32)) 55 37 [some (.ref (21 + 8 * i)), some (.int (Int32.ofNat x1)), some (.long x2), none, some (.int (Int32.ofNat x4)), some (.long g4), none] [] 5 (fun f => rfl) (fun c => ?_) (fun c => ?_)
    · have c9 : g4 = (0 : Int64) := (of_decide_eq_true ((zcL_eq _ _).symm.trans c))
      replace H := H.1 c9
      refine zW_inc [some (.ref (21 + 8 * i)), some (.int (Int32.ofNat x1)), some (.long x2), none, some (.int ((Int32.ofNat x4) + (1 : Int32))), some (.long g4), none] rfl rfl rfl ?_
      rw [show ((Int32.ofNat x4) + (1 : Int32)) = Int32.ofNat (x4 + 1) from (zN_a rfl rfl)]
      refine zW_gh 12 [some (.ref (21 + 8 * i)), some (.int (Int32.ofNat x1)), some (.long x2), none, some (.int (Int32.ofNat (x4 + 1))), some (.long g4), none] [] 1 (fun f => rfl) ?_
      refine zW_fg (L' := [some (.ref (21 + 8 * i)), some (.int (Int32.ofNat x1)), some (.long x2), none, some (.int (Int32.ofNat (x4 + 1))), none, none]) (zle_s _ (zle_s _ (zle_s _ (zle_s _ (zle_s _ (zle_n _ (zle_s _ zle_nil))))))) ?_
      exact H
    · have c9 : ¬ g4 = (0 : Int64) := (of_decide_eq_false ((zcL_eq _ _).symm.trans c))
      replace H := H.2 c9
      refine zW_gh 43 [some (.ref (21 + 8 * i)), some (.int (Int32.ofNat x1)), some (.long x2), none, some (.int (Int32.ofNat x4)), some (.long g4), none] [.ref (21 + 8 * i), .int (Int32.ofNat x1), .int (Int32.ofNat x4), .int (4 : Int32), .ref (21 + 8 * i)] 5 (fun f => rfl) ?_
      refine zW_gf rfl (by have := hi_i; omega) (zh_T0 hi_i) rfl (v := .ref (zra ((T i).1))) rfl ?_
      refine zW_gh 49 [some (.ref (21 + 8 * i)), some (.int (Int32.ofNat x1)), some (.long x2), none, some (.int (Int32.ofNat x4)), some (.long g4), none] [.long x2, .long g4, .ref (zra ((T i).1)), .int (Int32.ofNat x1), .int (Int32.ofNat x4), .int (4 : Int32), .ref (21 + 8 * i)] 2 (fun f => rfl) ?_
      refine zW_fg (L' := [some (.ref (21 + 8 * i)), some (.int (Int32.ofNat x1)), some (.long x2), none, some (.int (Int32.ofNat x4)), none, none]) (zle_s _ (zle_s _ (zle_s _ (zle_s _ (zle_s _ (zle_n _ (zle_s _ zle_nil))))))) ?_
      exact zW_cr1 rfl rfl rfl rfl rfl rfl rfl rfl rfl H
theorem b85_52 {P : zPt} {T : Nat → zX} {Y : zYt} {I : zIt} {A : zAt} {w : Nat → Int64} {p : Nat × Nat} {Q : zR → zH → Prop} {x1 x4 s0 s1 s2 i : Nat} {x2 rv : Int64} (hi_i : i < 6) (H : zT zm_39 [.ref (21 + 8 * i), .int (Int32.ofNat s2), .int (Int32.ofNat s1), .int (Int32.ofNat s0), .long rv] p (zh (P, T, Y) I A w) (zK zm_85 55 [some (.ref (21 + 8 * i)), some (.int (Int32.ofNat x1)), some (.long x2), none, some (.int (Int32.ofNat x4)), none, none] [] p Q)) : zW zm_85 52 [some (.ref (21 + 8 * i)), some (.int (Int32.ofNat x1)), some (.long x2), none, some (.int (Int32.ofNat x4)), none, none] [.long rv, .int (Int32.ofNat s0), .int (Int32.ofNat s1), .int (Int32.ofNat s2), .ref (21 + 8 * i)] p (zh (P, T, Y) I A w) Q := by
  exact zW_cv rfl rfl rfl (by have := hi_i; omega) (zh_T0 hi_i) rfl rfl rfl rfl H
theorem b85_55 {P : zPt} {T : Nat → zX} {Y : zYt} {I : zIt} {A : zAt} {w : Nat → Int64} {p : Nat × Nat} {Q : zR → zH → Prop} {x1 x4 i : Nat} {x2 : Int64} (H : zW zm_85 12 [some (.ref (21 + 8 * i)), some (.int (Int32.ofNat x1)), some (.long x2), none, some (.int (Int32.ofNat (x4 + 1))), none, none] [] p (zh (P, T, Y) I A w) Q) : zW zm_85 55 [some (.ref (21 + 8 * i)), some (.int (Int32.ofNat x1)), some (.long x2), none, some (.int (Int32.ofNat x4)), none, none] [] p (zh (P, T, Y) I A w) Q := by
  refine zW_inc [some (.ref (21 + 8 * i)), some (.int (Int32.ofNat x1)), some (.long x2), none, some (.int ((Int32.ofNat x4) + (1 : Int32))), none, none] rfl rfl rfl ?_
  rw [show ((Int32.ofNat x4) + (1 : Int32)) = Int32.ofNat (x4 + 1) from (zN_a rfl rfl)]
  refine zW_gh 12 [some (.ref (21 + 8 * i)), some (.int (Int32.ofNat x1)), some (.long x2), none, some (.int (Int32.ofNat (x4 + 1))), none, none] [] 1 (fun f => rfl) ?_
  exact H
theorem b86 {P : zPt} {T : Nat → zX} {Y : zYt} {I : zIt} {A : zAt} {w : Nat → Int64} {p : Nat × Nat} {Q : zR → zH → Prop} {a1 i : Nat} (H : zW zm_86 4 [some (.ref (21 + 8 * i)), some (.int (Int32.ofNat a1)), some (.int (Int32.ofNat (a1 + 1)))] [] p (zh (P, T, Y) I A w) Q) : zT zm_86 [.ref (21 + 8 * i), .int (Int32.ofNat a1)] p (zh (P, T, Y) I A w) Q := by
  change zW zm_86 0 [some (.ref (21 + 8 * i)), some (.int (Int32.ofNat a1)), none] [] p _ Q
  refine zW_gh 4 [some (.ref (21 + 8 * i)), some (.int (Int32.ofNat a1)), some (.int ((Int32.ofNat a1) + (1 : Int32)))] [] 4 (fun f => rfl) ?_
  rw [show ((Int32.ofNat a1) + (1 : Int32)) = Int32.ofNat (a1 + 1) from (zN_a rfl rfl)]
  exact H
theorem b86_4 {P : zPt} {T : Nat → zX} {Y : zYt} {I : zIt} {A : zAt} {w : Nat → Int64} {p : Nat × Nat} {Q : zR → zH → Prop} {x1 x2 i : Nat} (hi_i : i < 6) (H : (x2 < 2147483648 ∧ ((4 ≤ x2 → Q (.inl (some (.int (1 : Int32)))) (zh (P, T, Y) I A w)) ∧ (x2 < 4 → (zXb (T i) ∧ ((¬ (zxat (T i) (Int32.ofNat x2) (Int32.ofNat x1)) = (0 : Int64) → Q (.inl (some (.int (0 : Int32)))) (zh (P, T, Y) I A w)) ∧ ((zxat (T i) (Int32.ofNat x2) (Int32.ofNat x1)) = (0 : Int64) → (zXb (T i) ∧ (((zxat (T i) (Int32.ofNat x1) (Int32.ofNat x2)) = (0 : Int64) → zW zm_86 4 [some (.ref (21 + 8 * i)), some (.int (Int32.ofNat x1)), some (.int (Int32.ofNat (x2 + 1)))] [] p (zh (P, T, Y) I A w) Q) ∧ (¬ (zxat (T i) (Int32.ofNat x1) (Int32.ofNat x2)) = (0 : Int64) → Q (.inl (some (.int (0 : Int32)))) (zh (P, T, Y) I A w))))))))))) : zW zm_86 4 [some (.ref (21 + 8 * i)), some (.int (Int32.ofNat x1)), some (.int (Int32.ofNat x2))] [] p (zh (P, T, Y) I A w) Q := by
  obtain ⟨h1, H⟩ := H
  refine zW_bh (zcmp .ge (Int32.ofNat x2) (4 : Int32)) 39 9 [some (.ref (21 + 8 * i)), some (.int (Int32.ofNat x1)), some (.int (Int32.ofNat x2))] [] 3 (fun f => rfl) (fun c => ?_) (fun c => ?_)
  · have c9 : 4 ≤ x2 := (of_decide_eq_true ((zcN_ge (a := x2) (b := 4) rfl rfl h1 (by decide)).symm.trans c))
    replace H := H.1 c9
    refine zW_gh 40 [some (.ref (21 + 8 * i)), some (.int (Int32.ofNat x1)), some (.int (Int32.ofNat x2))] [.int (1 : Int32)] 1 (fun f => rfl) ?_
    exact zW_rh (some (.int (1 : Int32))) 1 (fun f => rfl) H
  · have c9 : x2 < 4 := (Nat.lt_of_not_le (of_decide_eq_false ((zcN_ge (a := x2) (b := 4) rfl rfl h1 (by decide)).symm.trans c)))
    replace H := H.2 c9
    refine zW_gh 12 [some (.ref (21 + 8 * i)), some (.int (Int32.ofNat x1)), some (.int (Int32.ofNat x2))] [.int (Int32.ofNat x1), .int (Int32.ofNat x2), .ref (21 + 8 * i)] 3 (fun f => rfl) ?_
    obtain ⟨h2, H⟩ := H
    refine zW_cv rfl rfl rfl (by have := hi_i; omega) (zh_T0 hi_i) rfl rfl rfl rfl ((s31 hi_i) h2 ?_)
    change zW zm_86 15 [some (.ref (21 + 8 * i)), some (.int (Int32.ofNat x1)), some (.int (Int32.ofNat x2))] [.long (zxat (T i) (Int32.ofNat x2) (Int32.ofNat x1))] p _ Q
    generalize (zxat (T i) (Int32.ofNat x2) (Int32.ofNat x1)) = g3 at H ⊢
    refine zW_bh (zcmp .ne (lg_cmp g3 (0 : Int64)) (0 : Int32)) 31 20 [some (.ref (21 + 8 * i)), some (.int (Int32.ofNat x1)), some (.int (Int32.ofNat x2))] [] 3 (fun f => rfl) (fun c => ?_) (fun c => ?_)
    · have c9 : ¬ g3 = (0 : Int64) := (by rw [zcL_ne] at c; simpa using c)
      replace H := H.1 c9
      refine zW_gh 32 [some (.ref (21 + 8 * i)), some (.int (Int32.ofNat x1)), some (.int (Int32.ofNat x2))] [.int (0 : Int32)] 1 (fun f => rfl) ?_
      exact zW_rh (some (.int (0 : Int32))) 1 (fun f => rfl) H
    · have c9 : g3 = (0 : Int64) := (by rw [zcL_ne] at c; simpa using c)
      replace H := H.2 c9
      refine zW_gh 23 [some (.ref (21 + 8 * i)), some (.int (Int32.ofNat x1)), some (.int (Int32.ofNat x2))] [.int (Int32.ofNat x2), .int (Int32.ofNat x1), .ref (21 + 8 * i)] 3 (fun f => rfl) ?_
      obtain ⟨h4, H⟩ := H
      refine zW_cv rfl rfl rfl (by have := hi_i; omega) (zh_T0 hi_i) rfl rfl rfl rfl ((s31 hi_i) h4 ?_)
      change zW zm_86 26 [some (.ref (21 + 8 * i)), some (.int (Int32.ofNat x1)), some (.int (Int32.ofNat x2))] [.long (zxat (T i) (Int32.ofNat x1) (Int32.ofNat x2))] p _ Q
      generalize (zxat (T i) (Int32.ofNat x1) (Int32.ofNat x2)) = g5 at H ⊢
      refine zW_bh (zcmp .eq (lg_cmp g5 (0 : Int64)) (0 : Int32)) 33 31 [some (.ref (21 + 8 * i)), some (.int (Int32.ofNat x1)), some (.int (Int32.ofNat x2))] [] 3 (fun f => rfl) (fun c => ?_) (fun c => ?_)
      · have c9 : g5 = (0 : Int64) := (of_decide_eq_true ((zcL_eq _ _).symm.trans c))
        replace H := H.1 c9
        refine zW_inc [some (.ref (21 + 8 * i)), some (.int (Int32.ofNat x1)), some (.int ((Int32.ofNat x2) + (1 : Int32)))] rfl rfl rfl ?_
        rw [show ((Int32.ofNat x2) + (1 : Int32)) = Int32.ofNat (x2 + 1) from (zN_a rfl rfl)]
        refine zW_gh 4 [some (.ref (21 + 8 * i)), some (.int (Int32.ofNat x1)), some (.int (Int32.ofNat (x2 + 1)))] [] 1 (fun f => rfl) ?_
        exact H
      · have c9 : ¬ g5 = (0 : Int64) := (of_decide_eq_false ((zcL_eq _ _).symm.trans c))
        replace H := H.2 c9
        refine zW_gh 32 [some (.ref (21 + 8 * i)), some (.int (Int32.ofNat x1)), some (.int (Int32.ofNat x2))] [.int (0 : Int32)] 1 (fun f => rfl) ?_
        exact zW_rh (some (.int (0 : Int32))) 1 (fun f => rfl) H
theorem b87 {P : zPt} {T : Nat → zX} {Y : zYt} {I : zIt} {A : zAt} {w : Nat → Int64} {p : Nat × Nat} {Q : zR → zH → Prop} {a1 i : Nat} (hi_i : i < 6) (H : (zXb (T i) ∧ zW zm_87 12 [some (.ref (21 + 8 * i)), some (.int (Int32.ofNat a1)), some (.long (zxat (T i) (Int32.ofNat a1) (Int32.ofNat a1))), none, some (.int (Int32.ofNat (a1 + 1))), none] [] p (zh (P, T, Y) I A w) Q)) : zT zm_87 [.ref (21 + 8 * i), .int (Int32.ofNat a1)] p (zh (P, T, Y) I A w) Q := by
  change zW zm_87 0 [some (.ref (21 + 8 * i)), some (.int (Int32.ofNat a1)), none, none, none, none] [] p _ Q
  refine zW_gh 3 [some (.ref (21 + 8 * i)), some (.int (Int32.ofNat a1)), none, none, none, none] [.int (Int32.ofNat a1), .int (Int32.ofNat a1), .ref (21 + 8 * i)] 3 (fun f => rfl) ?_
  obtain ⟨h1, H⟩ := H
  refine zW_cv rfl rfl rfl (by have := hi_i; omega) (zh_T0 hi_i) rfl rfl rfl rfl ((s31 hi_i) h1 ?_)
  change zW zm_87 6 [some (.ref (21 + 8 * i)), some (.int (Int32.ofNat a1)), none, none, none, none] [.long (zxat (T i) (Int32.ofNat a1) (Int32.ofNat a1))] p _ Q
  generalize (zxat (T i) (Int32.ofNat a1) (Int32.ofNat a1)) = g2 at H ⊢
  refine zW_gh 12 [some (.ref (21 + 8 * i)), some (.int (Int32.ofNat a1)), some (.long g2), none, some (.int ((Int32.ofNat a1) + (1 : Int32))), none] [] 5 (fun f => rfl) ?_
  rw [show ((Int32.ofNat a1) + (1 : Int32)) = Int32.ofNat (a1 + 1) from (zN_a rfl rfl)]
  exact H
theorem b87_12 {P : zPt} {T : Nat → zX} {Y : zYt} {I : zIt} {A : zAt} {w : Nat → Int64} {p : Nat × Nat} {Q : zR → zH → Prop} {x1 x4 i : Nat} {x2 : Int64} (hi_i : i < 6) (H : (x4 < 2147483648 ∧ ((T i).2.1 < 2147483648 ∧ (((T i).2.1 ≤ x4 → Q (.inl (some (.int (-1 : Int32)))) (zh (P, T, Y) I A w)) ∧ (x4 < (T i).2.1 → zW zm_87 26 [some (.ref (21 + 8 * i)), some (.int (Int32.ofNat x1)), some (.long x2), none, some (.int (Int32.ofNat x4)), some (.int (Int32.ofNat (x1 + 1)))] [] p (zh (P, T, Y) I A w) Q))))) : zW zm_87 12 [some (.ref (21 + 8 * i)), some (.int (Int32.ofNat x1)), some (.long x2), none, some (.int (Int32.ofNat x4)), none] [] p (zh (P, T, Y) I A w) Q := by
  refine zW_gh 15 [some (.ref (21 + 8 * i)), some (.int (Int32.ofNat x1)), some (.long x2), none, some (.int (Int32.ofNat x4)), none] [.ref (21 + 8 * i), .int (Int32.ofNat x4)] 2 (fun f => rfl) ?_
  refine zW_gf rfl (by have := hi_i; omega) (zh_T0 hi_i) rfl (v := .int (Int32.ofNat ((T i).2.1))) rfl ?_
  obtain ⟨h1, H⟩ := H
  obtain ⟨h2, H⟩ := H
  refine zW_bh (zcmp .ge (Int32.ofNat x4) (Int32.ofNat ((T i).2.1))) 71 21 [some (.ref (21 + 8 * i)), some (.int (Int32.ofNat x1)), some (.long x2), none, some (.int (Int32.ofNat x4)), none] [] 1 (fun f => rfl) (fun c => ?_) (fun c => ?_)
  · have c9 : (T i).2.1 ≤ x4 := (of_decide_eq_true ((zcN_ge (a := x4) (b := (T i).2.1) rfl rfl h1 h2).symm.trans c))
    replace H := H.1 c9
    refine zW_gh 72 [some (.ref (21 + 8 * i)), some (.int (Int32.ofNat x1)), some (.long x2), none, some (.int (Int32.ofNat x4)), none] [.int (-1 : Int32)] 1 (fun f => rfl) ?_
    exact zW_rh (some (.int (-1 : Int32))) 1 (fun f => rfl) H
  · have c9 : x4 < (T i).2.1 := (Nat.lt_of_not_le (of_decide_eq_false ((zcN_ge (a := x4) (b := (T i).2.1) rfl rfl h1 h2).symm.trans c)))
    replace H := H.2 c9
    refine zW_gh 26 [some (.ref (21 + 8 * i)), some (.int (Int32.ofNat x1)), some (.long x2), none, some (.int (Int32.ofNat x4)), some (.int ((Int32.ofNat x1) + (1 : Int32)))] [] 4 (fun f => rfl) ?_
    rw [show ((Int32.ofNat x1) + (1 : Int32)) = Int32.ofNat (x1 + 1) from (zN_a rfl rfl)]
    exact H
theorem b87_26 {P : zPt} {T : Nat → zX} {Y : zYt} {I : zIt} {A : zAt} {w : Nat → Int64} {p : Nat × Nat} {Q : zR → zH → Prop} {x1 x4 x5 i : Nat} {x2 : Int64} (hi_i : i < 6) (H : (x5 < 2147483648 ∧ ((T i).2.2.1 < 2147483648 ∧ (((T i).2.2.1 ≤ x5 → zW zm_87 12 [some (.ref (21 + 8 * i)), some (.int (Int32.ofNat x1)), some (.long x2), none, some (.int (Int32.ofNat (x4 + 1))), none] [] p (zh (P, T, Y) I A w) Q) ∧ (x5 < (T i).2.2.1 → (zXb (T i) ∧ zT zm_81 [.ref (zra ((T i).1)), .long (zxat (T i) (Int32.ofNat x4) (Int32.ofNat x5)), .long x2] p (zh (P, T, Y) I A w) (zK zm_87 51 [some (.ref (21 + 8 * i)), some (.int (Int32.ofNat x1)), some (.long x2), none, some (.int (Int32.ofNat x4)), some (.int (Int32.ofNat x5))] [] p Q))))))) : zW zm_87 26 [some (.ref (21 + 8 * i)), some (.int (Int32.ofNat x1)), some (.long x2), none, some (.int (Int32.ofNat x4)), some (.int (Int32.ofNat x5))] [] p (zh (P, T, Y) I A w) Q := by
  refine zW_gh 29 [some (.ref (21 + 8 * i)), some (.int (Int32.ofNat x1)), some (.long x2), none, some (.int (Int32.ofNat x4)), some (.int (Int32.ofNat x5))] [.ref (21 + 8 * i), .int (Int32.ofNat x5)] 2 (fun f => rfl) ?_
  refine zW_gf rfl (by have := hi_i; omega) (zh_T0 hi_i) rfl (v := .int (Int32.ofNat ((T i).2.2.1))) rfl ?_
  obtain ⟨h1, H⟩ := H
  obtain ⟨h2, H⟩ := H
  refine zW_bh (zcmp .ge (Int32.ofNat x5) (Int32.ofNat ((T i).2.2.1))) 65 35 [some (.ref (21 + 8 * i)), some (.int (Int32.ofNat x1)), some (.long x2), none, some (.int (Int32.ofNat x4)), some (.int (Int32.ofNat x5))] [] 1 (fun f => rfl) (fun c => ?_) (fun c => ?_)
  · have c9 : (T i).2.2.1 ≤ x5 := (of_decide_eq_true ((zcN_ge (a := x5) (b := (T i).2.2.1) rfl rfl h1 h2).symm.trans c))
    replace H := H.1 c9
    refine zW_inc [some (.ref (21 + 8 * i)), some (.int (Int32.ofNat x1)), some (.long x2), none, some (.int ((Int32.ofNat x4) + (1 : Int32))), some (.int (Int32.ofNat x5))] rfl rfl rfl ?_
    rw [show ((Int32.ofNat x4) + (1 : Int32)) = Int32.ofNat (x4 + 1) from (zN_a rfl rfl)]
    refine zW_gh 12 [some (.ref (21 + 8 * i)), some (.int (Int32.ofNat x1)), some (.long x2), none, some (.int (Int32.ofNat (x4 + 1))), some (.int (Int32.ofNat x5))] [] 1 (fun f => rfl) ?_
    refine zW_fg (L' := [some (.ref (21 + 8 * i)), some (.int (Int32.ofNat x1)), some (.long x2), none, some (.int (Int32.ofNat (x4 + 1))), none]) (zle_s _ (zle_s _ (zle_s _ (zle_s _ (zle_s _ (zle_n _ zle_nil)))))) ?_
    exact H
  · have c9 : x5 < (T i).2.2.1 := (Nat.lt_of_not_le (of_decide_eq_false ((zcN_ge (a := x5) (b := (T i).2.2.1) rfl rfl h1 h2).symm.trans c)))
    replace H := H.2 c9
    refine zW_gh 36 [some (.ref (21 + 8 * i)), some (.int (Int32.ofNat x1)), some (.long x2), none, some (.int (Int32.ofNat x4)), some (.int (Int32.ofNat x5))] [.ref (21 + 8 * i)] 1 (fun f => rfl) ?_
    refine zW_gf rfl (by have := hi_i; omega) (zh_T0 hi_i) rfl (v := .ref (zra ((T i).1))) rfl ?_
    refine zW_gh 44 [some (.ref (21 + 8 * i)), some (.int (Int32.ofNat x1)), some (.long x2), none, some (.int (Int32.ofNat x4)), some (.int (Int32.ofNat x5))] [.int (Int32.ofNat x5), .int (Int32.ofNat x4), .ref (21 + 8 * i), .ref (zra ((T i).1))] 3 (fun f => rfl) ?_
    obtain ⟨h3, H⟩ := H
    refine zW_cv rfl rfl rfl (by have := hi_i; omega) (zh_T0 hi_i) rfl rfl rfl rfl ((s31 hi_i) h3 ?_)
    change zW zm_87 47 [some (.ref (21 + 8 * i)), some (.int (Int32.ofNat x1)), some (.long x2), none, some (.int (Int32.ofNat x4)), some (.int (Int32.ofNat x5))] [.long (zxat (T i) (Int32.ofNat x4) (Int32.ofNat x5)), .ref (zra ((T i).1))] p _ Q
    generalize (zxat (T i) (Int32.ofNat x4) (Int32.ofNat x5)) = g4 at H ⊢
    refine zW_gh 48 [some (.ref (21 + 8 * i)), some (.int (Int32.ofNat x1)), some (.long x2), none, some (.int (Int32.ofNat x4)), some (.int (Int32.ofNat x5))] [.long x2, .long g4, .ref (zra ((T i).1))] 1 (fun f => rfl) ?_
    exact zW_cr1 rfl rfl rfl rfl rfl rfl rfl rfl rfl H
theorem b87_51 {P : zPt} {T : Nat → zX} {Y : zYt} {I : zIt} {A : zAt} {w : Nat → Int64} {p : Nat × Nat} {Q : zR → zH → Prop} {x1 x4 x5 i : Nat} {x2 rv : Int64} (H : ((rv = (0 : Int64) → zW zm_87 26 [some (.ref (21 + 8 * i)), some (.int (Int32.ofNat x1)), some (.long x2), none, some (.int (Int32.ofNat x4)), some (.int (Int32.ofNat (x5 + 1)))] [] p (zh (P, T, Y) I A w) Q) ∧ (¬ rv = (0 : Int64) → Q (.inl (some (.int (Int32.ofNat x4)))) (zh (P, T, Y) I A w)))) : zW zm_87 51 [some (.ref (21 + 8 * i)), some (.int (Int32.ofNat x1)), some (.long x2), none, some (.int (Int32.ofNat x4)), some (.int (Int32.ofNat x5))] [.long rv] p (zh (P, T, Y) I A w) Q := by
  refine zW_bh (zcmp .eq (lg_cmp rv (0 : Int64)) (0 : Int32)) 59 56 [some (.ref (21 + 8 * i)), some (.int (Int32.ofNat x1)), some (.long x2), none, some (.int (Int32.ofNat x4)), some (.int (Int32.ofNat x5))] [] 3 (fun f => rfl) (fun c => ?_) (fun c => ?_)
  · have c9 : rv = (0 : Int64) := (of_decide_eq_true ((zcL_eq _ _).symm.trans c))
    replace H := H.1 c9
    refine zW_inc [some (.ref (21 + 8 * i)), some (.int (Int32.ofNat x1)), some (.long x2), none, some (.int (Int32.ofNat x4)), some (.int ((Int32.ofNat x5) + (1 : Int32)))] rfl rfl rfl ?_
    rw [show ((Int32.ofNat x5) + (1 : Int32)) = Int32.ofNat (x5 + 1) from (zN_a rfl rfl)]
    refine zW_gh 26 [some (.ref (21 + 8 * i)), some (.int (Int32.ofNat x1)), some (.long x2), none, some (.int (Int32.ofNat x4)), some (.int (Int32.ofNat (x5 + 1)))] [] 1 (fun f => rfl) ?_
    exact H
  · have c9 : ¬ rv = (0 : Int64) := (of_decide_eq_false ((zcL_eq _ _).symm.trans c))
    replace H := H.2 c9
    refine zW_gh 58 [some (.ref (21 + 8 * i)), some (.int (Int32.ofNat x1)), some (.long x2), none, some (.int (Int32.ofNat x4)), some (.int (Int32.ofNat x5))] [.int (Int32.ofNat x4)] 1 (fun f => rfl) ?_
    exact zW_rh (some (.int (Int32.ofNat x4))) 1 (fun f => rfl) H
theorem b82 {P : zPt} {T : Nat → zX} {Y : zYt} {I : zIt} {A : zAt} {w : Nat → Int64} {p : Nat × Nat} {Q : zR → zH → Prop} {i : Nat} (H : zW zm_82 6 [some (.ref (21 + 8 * i)), some (.int (Int32.ofNat 0)), some (.int (Int32.ofNat 1)), some (.int (Int32.ofNat 0)), none, none, none] [] p (zh (P, T, Y) I A w) Q) : zT zm_82 [.ref (21 + 8 * i)] p (zh (P, T, Y) I A w) Q := by
  change zW zm_82 0 [some (.ref (21 + 8 * i)), none, none, none, none, none, none] [] p _ Q
  refine zW_gh 6 [some (.ref (21 + 8 * i)), some (.int (0 : Int32)), some (.int (1 : Int32)), some (.int (0 : Int32)), none, none, none] [] 6 (fun f => rfl) ?_
  exact H
theorem b82_6 {P : zPt} {T : Nat → zX} {Y : zYt} {I : zIt} {A : zAt} {w : Nat → Int64} {p : Nat × Nat} {Q : zR → zH → Prop} {x1 x2 x3 i : Nat} (H : (x3 < 2147483648 ∧ ((204 < x3 → Q (.inl (some (.int (Int32.ofNat x1)))) (zh (P, T, Y) I A w)) ∧ (x3 ≤ 204 → (x2 < 2147483648 ∧ ((x2 = 0 → zT zm_85 [.ref (21 + 8 * i), .int (Int32.ofNat x1)] p (zh (P, T, Y) I A w) (zK zm_82 37 [some (.ref (21 + 8 * i)), some (.int (Int32.ofNat x1)), none, some (.int (Int32.ofNat x3)), none, none, none] [] p Q)) ∧ (¬ x2 = 0 → zT zm_83 [.ref (21 + 8 * i), .int (Int32.ofNat x1)] p (zh (P, T, Y) I A w) (zK zm_82 22 [some (.ref (21 + 8 * i)), some (.int (Int32.ofNat x1)), none, some (.int (Int32.ofNat x3)), none, none, none] [] p Q)))))))) : zW zm_82 6 [some (.ref (21 + 8 * i)), some (.int (Int32.ofNat x1)), some (.int (Int32.ofNat x2)), some (.int (Int32.ofNat x3)), none, none, none] [] p (zh (P, T, Y) I A w) Q := by
  obtain ⟨h1, H⟩ := H
  refine zW_bh (zcmp .gt (Int32.ofNat x3) (204 : Int32)) 121 13 [some (.ref (21 + 8 * i)), some (.int (Int32.ofNat x1)), some (.int (Int32.ofNat x2)), some (.int (Int32.ofNat x3)), none, none, none] [] 3 (fun f => rfl) (fun c => ?_) (fun c => ?_)
  · have c9 : 204 < x3 := (of_decide_eq_true ((zcN_gt (a := x3) (b := 204) rfl rfl h1 (by decide)).symm.trans c))
    replace H := H.1 c9
    refine zW_gh 122 [some (.ref (21 + 8 * i)), some (.int (Int32.ofNat x1)), some (.int (Int32.ofNat x2)), some (.int (Int32.ofNat x3)), none, none, none] [.int (Int32.ofNat x1)] 1 (fun f => rfl) ?_
    exact zW_rh (some (.int (Int32.ofNat x1))) 1 (fun f => rfl) H
  · have c9 : x3 ≤ 204 := (Nat.le_of_not_lt (of_decide_eq_false ((zcN_gt (a := x3) (b := 204) rfl rfl h1 (by decide)).symm.trans c)))
    replace H := H.2 c9
    obtain ⟨h2, H⟩ := H
    refine zW_bh (zcmp .eq (Int32.ofNat x2) (0 : Int32)) 32 17 [some (.ref (21 + 8 * i)), some (.int (Int32.ofNat x1)), some (.int (Int32.ofNat x2)), some (.int (Int32.ofNat x3)), none, none, none] [] 2 (fun f => rfl) (fun c => ?_) (fun c => ?_)
    · have c9 : x2 = 0 := (of_decide_eq_true ((zcN_eq (a := x2) (b := 0) rfl rfl h2 (by decide)).symm.trans c))
      replace H := H.1 c9
      refine zW_gh 34 [some (.ref (21 + 8 * i)), some (.int (Int32.ofNat x1)), some (.int (Int32.ofNat x2)), some (.int (Int32.ofNat x3)), none, none, none] [.int (Int32.ofNat x1), .ref (21 + 8 * i)] 2 (fun f => rfl) ?_
      refine zW_fg (L' := [some (.ref (21 + 8 * i)), some (.int (Int32.ofNat x1)), none, some (.int (Int32.ofNat x3)), none, none, none]) (zle_s _ (zle_s _ (zle_n _ (zle_s _ (zle_s _ (zle_s _ (zle_s _ zle_nil))))))) ?_
      exact zW_cl rfl rfl rfl rfl rfl H
    · have c9 : ¬ x2 = 0 := (of_decide_eq_false ((zcN_eq (a := x2) (b := 0) rfl rfl h2 (by decide)).symm.trans c))
      replace H := H.2 c9
      refine zW_gh 19 [some (.ref (21 + 8 * i)), some (.int (Int32.ofNat x1)), some (.int (Int32.ofNat x2)), some (.int (Int32.ofNat x3)), none, none, none] [.int (Int32.ofNat x1), .ref (21 + 8 * i)] 2 (fun f => rfl) ?_
      refine zW_fg (L' := [some (.ref (21 + 8 * i)), some (.int (Int32.ofNat x1)), none, some (.int (Int32.ofNat x3)), none, none, none]) (zle_s _ (zle_s _ (zle_n _ (zle_s _ (zle_s _ (zle_s _ (zle_s _ zle_nil))))))) ?_
      exact zW_cl rfl rfl rfl rfl rfl H
theorem b82_37 {P : zPt} {T : Nat → zX} {Y : zYt} {I : zIt} {A : zAt} {w : Nat → Int64} {p : Nat × Nat} {Q : zR → zH → Prop} {x1 x3 i : Nat} (H : zT zm_86 [.ref (21 + 8 * i), .int (Int32.ofNat x1)] p (zh (P, T, Y) I A w) (zK zm_82 44 [some (.ref (21 + 8 * i)), some (.int (Int32.ofNat x1)), some (.int (Int32.ofNat 1)), some (.int (Int32.ofNat x3)), none, none, none] [] p Q)) : zW zm_82 37 [some (.ref (21 + 8 * i)), some (.int (Int32.ofNat x1)), none, some (.int (Int32.ofNat x3)), none, none, none] [] p (zh (P, T, Y) I A w) Q := by
  refine zW_gh 41 [some (.ref (21 + 8 * i)), some (.int (Int32.ofNat x1)), some (.int (1 : Int32)), some (.int (Int32.ofNat x3)), none, none, none] [.int (Int32.ofNat x1), .ref (21 + 8 * i)] 4 (fun f => rfl) ?_
  exact zW_cl rfl rfl rfl rfl rfl H
theorem b82_22 {P : zPt} {T : Nat → zX} {Y : zYt} {I : zIt} {A : zAt} {w : Nat → Int64} {p : Nat × Nat} {Q : zR → zH → Prop} {x1 x3 i : Nat} {rv : Bool} (H : ((rv = true → zT zm_84 [.ref (21 + 8 * i), .int (Int32.ofNat x1)] p (zh (P, T, Y) I A w) (zK zm_82 32 [some (.ref (21 + 8 * i)), some (.int (Int32.ofNat x1)), none, some (.int (Int32.ofNat x3)), none, none, none] [] p Q)) ∧ (rv = false → Q (.inl (some (.int (Int32.ofNat x1)))) (zh (P, T, Y) I A w)))) : zW zm_82 22 [some (.ref (21 + 8 * i)), some (.int (Int32.ofNat x1)), none, some (.int (Int32.ofNat x3)), none, none, none] [.int (zbi rv)] p (zh (P, T, Y) I A w) Q := by
  refine zW_bh (zcmp .ne (zbi rv) (0 : Int32)) 27 25 [some (.ref (21 + 8 * i)), some (.int (Int32.ofNat x1)), none, some (.int (Int32.ofNat x3)), none, none, none] [] 1 (fun f => rfl) (fun c => ?_) (fun c => ?_)
  · have c9 : rv = true := ((zcB_ne _).symm.trans c)
    replace H := H.1 c9
    refine zW_gh 29 [some (.ref (21 + 8 * i)), some (.int (Int32.ofNat x1)), none, some (.int (Int32.ofNat x3)), none, none, none] [.int (Int32.ofNat x1), .ref (21 + 8 * i)] 2 (fun f => rfl) ?_
    exact zW_cl rfl rfl rfl rfl rfl H
  · have c9 : rv = false := ((zcB_ne _).symm.trans c)
    replace H := H.2 c9
    refine zW_gh 26 [some (.ref (21 + 8 * i)), some (.int (Int32.ofNat x1)), none, some (.int (Int32.ofNat x3)), none, none, none] [.int (Int32.ofNat x1)] 1 (fun f => rfl) ?_
    exact zW_rh (some (.int (Int32.ofNat x1))) 1 (fun f => rfl) H
theorem b82_44 {P : zPt} {T : Nat → zX} {Y : zYt} {I : zIt} {A : zAt} {w : Nat → Int64} {p : Nat × Nat} {Q : zR → zH → Prop} {x1 x2 x3 i : Nat} {rv : Bool} (H : ((rv = true → zT zm_87 [.ref (21 + 8 * i), .int (Int32.ofNat x1)] p (zh (P, T, Y) I A w) (zK zm_82 55 [some (.ref (21 + 8 * i)), some (.int (Int32.ofNat x1)), some (.int (Int32.ofNat x2)), some (.int (Int32.ofNat x3)), none, none, none] [] p Q)) ∧ (rv = false → zW zm_82 6 [some (.ref (21 + 8 * i)), some (.int (Int32.ofNat x1)), some (.int (Int32.ofNat x2)), some (.int (Int32.ofNat (x3 + 1))), none, none, none] [] p (zh (P, T, Y) I A w) Q))) : zW zm_82 44 [some (.ref (21 + 8 * i)), some (.int (Int32.ofNat x1)), some (.int (Int32.ofNat x2)), some (.int (Int32.ofNat x3)), none, none, none] [.int (zbi rv)] p (zh (P, T, Y) I A w) Q := by
  refine zW_bh (zcmp .ne (zbi rv) (0 : Int32)) 50 47 [some (.ref (21 + 8 * i)), some (.int (Int32.ofNat x1)), some (.int (Int32.ofNat x2)), some (.int (Int32.ofNat x3)), none, none, none] [] 1 (fun f => rfl) (fun c => ?_) (fun c => ?_)
  · have c9 : rv = true := ((zcB_ne _).symm.trans c)
    replace H := H.1 c9
    refine zW_gh 52 [some (.ref (21 + 8 * i)), some (.int (Int32.ofNat x1)), some (.int (Int32.ofNat x2)), some (.int (Int32.ofNat x3)), none, none, none] [.int (Int32.ofNat x1), .ref (21 + 8 * i)] 2 (fun f => rfl) ?_
    exact zW_cl rfl rfl rfl rfl rfl H
  · have c9 : rv = false := ((zcB_ne _).symm.trans c)
    replace H := H.2 c9
    refine zW_gh 115 [some (.ref (21 + 8 * i)), some (.int (Int32.ofNat x1)), some (.int (Int32.ofNat x2)), some (.int (Int32.ofNat x3)), none, none, none] [] 1 (fun f => rfl) ?_
    refine zW_inc [some (.ref (21 + 8 * i)), some (.int (Int32.ofNat x1)), some (.int (Int32.ofNat x2)), some (.int ((Int32.ofNat x3) + (1 : Int32))), none, none, none] rfl rfl rfl ?_
    rw [show ((Int32.ofNat x3) + (1 : Int32)) = Int32.ofNat (x3 + 1) from (zN_a rfl rfl)]
    refine zW_gh 6 [some (.ref (21 + 8 * i)), some (.int (Int32.ofNat x1)), some (.int (Int32.ofNat x2)), some (.int (Int32.ofNat (x3 + 1))), none, none, none] [] 1 (fun f => rfl) ?_
    exact H
theorem b82_32 {P : zPt} {T : Nat → zX} {Y : zYt} {I : zIt} {A : zAt} {w : Nat → Int64} {p : Nat × Nat} {Q : zR → zH → Prop} {x1 x3 i : Nat} (H : zT zm_85 [.ref (21 + 8 * i), .int (Int32.ofNat x1)] p (zh (P, T, Y) I A w) (zK zm_82 37 [some (.ref (21 + 8 * i)), some (.int (Int32.ofNat x1)), none, some (.int (Int32.ofNat x3)), none, none, none] [] p Q)) : zW zm_82 32 [some (.ref (21 + 8 * i)), some (.int (Int32.ofNat x1)), none, some (.int (Int32.ofNat x3)), none, none, none] [] p (zh (P, T, Y) I A w) Q := by
  refine zW_gh 34 [some (.ref (21 + 8 * i)), some (.int (Int32.ofNat x1)), none, some (.int (Int32.ofNat x3)), none, none, none] [.int (Int32.ofNat x1), .ref (21 + 8 * i)] 2 (fun f => rfl) ?_
  exact zW_cl rfl rfl rfl rfl rfl H
theorem b82_55 {P : zPt} {T : Nat → zX} {Y : zYt} {I : zIt} {A : zAt} {w : Nat → Int64} {p : Nat × Nat} {Q : zR → zH → Prop} {x1 x2 x3 i : Nat} {rv : Int32} (hi_i : i < 6) (H : ((rv = (-1 : Int32) → (zXb (T i) ∧ zT (zrm ((T i).1) zm_22 zm_7 zm_68) [.ref (zra ((T i).1)), .long (zxat (T i) (Int32.ofNat x1) (Int32.ofNat x1))] p (zh (P, T, Y) I A w) (zK zm_82 92 [some (.ref (21 + 8 * i)), some (.int (Int32.ofNat x1)), some (.int (Int32.ofNat x2)), some (.int (Int32.ofNat x3)), none, none, none] [] p Q))) ∧ (¬ rv = (-1 : Int32) → zT zm_39 [.ref (21 + 8 * i), .int (1 : Int32), .int (Int32.ofNat x1), .int rv, .long (4294967296 : Int64)] p (zh (P, T, Y) I A w) (zK zm_82 74 [some (.ref (21 + 8 * i)), some (.int (Int32.ofNat x1)), none, some (.int (Int32.ofNat x3)), none, none, none] [] p Q)))) : zW zm_82 55 [some (.ref (21 + 8 * i)), some (.int (Int32.ofNat x1)), some (.int (Int32.ofNat x2)), some (.int (Int32.ofNat x3)), none, none, none] [.int rv] p (zh (P, T, Y) I A w) Q := by
  refine zW_bh (zcmp .eq rv (-1 : Int32)) 79 63 [some (.ref (21 + 8 * i)), some (.int (Int32.ofNat x1)), some (.int (Int32.ofNat x2)), some (.int (Int32.ofNat x3)), some (.int rv), none, none] [] 4 (fun f => rfl) (fun c => ?_) (fun c => ?_)
  · have c9 : rv = (-1 : Int32) := (of_decide_eq_true c)
    replace H := H.1 c9
    refine zW_gh 80 [some (.ref (21 + 8 * i)), some (.int (Int32.ofNat x1)), some (.int (Int32.ofNat x2)), some (.int (Int32.ofNat x3)), some (.int rv), none, none] [.ref (21 + 8 * i)] 1 (fun f => rfl) ?_
    refine zW_gf rfl (by have := hi_i; omega) (zh_T0 hi_i) rfl (v := .ref (zra ((T i).1))) rfl ?_
    refine zW_gh 86 [some (.ref (21 + 8 * i)), some (.int (Int32.ofNat x1)), some (.int (Int32.ofNat x2)), some (.int (Int32.ofNat x3)), some (.int rv), none, none] [.int (Int32.ofNat x1), .int (Int32.ofNat x1), .ref (21 + 8 * i), .ref (zra ((T i).1))] 3 (fun f => rfl) ?_
    obtain ⟨h1, H⟩ := H
    refine zW_cv rfl rfl rfl (by have := hi_i; omega) (zh_T0 hi_i) rfl rfl rfl rfl ((s31 hi_i) h1 ?_)
    change zW zm_82 89 [some (.ref (21 + 8 * i)), some (.int (Int32.ofNat x1)), some (.int (Int32.ofNat x2)), some (.int (Int32.ofNat x3)), some (.int rv), none, none] [.long (zxat (T i) (Int32.ofNat x1) (Int32.ofNat x1)), .ref (zra ((T i).1))] p _ Q
    generalize (zxat (T i) (Int32.ofNat x1) (Int32.ofNat x1)) = g2 at H ⊢
    refine zW_fg (L' := [some (.ref (21 + 8 * i)), some (.int (Int32.ofNat x1)), some (.int (Int32.ofNat x2)), some (.int (Int32.ofNat x3)), none, none, none]) (zle_s _ (zle_s _ (zle_s _ (zle_s _ (zle_n _ (zle_s _ (zle_s _ zle_nil))))))) ?_
    exact zW_cr rfl rfl rfl rfl rfl rfl rfl rfl rfl rfl rfl rfl rfl H
  · have c9 : ¬ rv = (-1 : Int32) := (of_decide_eq_false c)
    replace H := H.2 c9
    refine zW_gh 71 [some (.ref (21 + 8 * i)), some (.int (Int32.ofNat x1)), some (.int (Int32.ofNat x2)), some (.int (Int32.ofNat x3)), some (.int rv), none, none] [.long (4294967296 : Int64), .int rv, .int (Int32.ofNat x1), .int (1 : Int32), .ref (21 + 8 * i)] 5 (fun f => rfl) ?_
    refine zW_fg (L' := [some (.ref (21 + 8 * i)), some (.int (Int32.ofNat x1)), none, some (.int (Int32.ofNat x3)), none, none, none]) (zle_s _ (zle_s _ (zle_n _ (zle_s _ (zle_n _ (zle_s _ (zle_s _ zle_nil))))))) ?_
    exact zW_cv rfl rfl rfl (by have := hi_i; omega) (zh_T0 hi_i) rfl rfl rfl rfl H
theorem b82_92 {P : zPt} {T : Nat → zX} {Y : zYt} {I : zIt} {A : zAt} {w : Nat → Int64} {p : Nat × Nat} {Q : zR → zH → Prop} {x1 x2 x3 i : Nat} {rv : Int64} (hi_i : i < 6) (H : ((rv = (4294967296 : Int64) → zW zm_82 6 [some (.ref (21 + 8 * i)), some (.int (Int32.ofNat (x1 + 1))), some (.int (Int32.ofNat x2)), some (.int (Int32.ofNat (x3 + 1))), none, none, none] [] p (zh (P, T, Y) I A w) Q) ∧ (¬ rv = (4294967296 : Int64) → zT zm_39 [.ref (21 + 8 * i), .int (2 : Int32), .int (Int32.ofNat x1), .int (-1 : Int32), .long rv] p (zh (P, T, Y) I A w) (zK zm_82 112 [some (.ref (21 + 8 * i)), some (.int (Int32.ofNat x1)), some (.int (Int32.ofNat x2)), some (.int (Int32.ofNat x3)), none, none, none] [] p Q)))) : zW zm_82 92 [some (.ref (21 + 8 * i)), some (.int (Int32.ofNat x1)), some (.int (Int32.ofNat x2)), some (.int (Int32.ofNat x3)), none, none, none] [.long rv] p (zh (P, T, Y) I A w) Q := by
  refine zW_bh (zcmp .eq (lg_cmp rv (4294967296 : Int64)) (0 : Int32)) 112 103 [some (.ref (21 + 8 * i)), some (.int (Int32.ofNat x1)), some (.int (Int32.ofNat x2)), some (.int (Int32.ofNat x3)), none, some (.long rv), none] [] 5 (fun f => rfl) (fun c => ?_) (fun c => ?_)
  · have c9 : rv = (4294967296 : Int64) := (of_decide_eq_true ((zcL_eq _ _).symm.trans c))
    replace H := H.1 c9
    refine zW_inc [some (.ref (21 + 8 * i)), some (.int ((Int32.ofNat x1) + (1 : Int32))), some (.int (Int32.ofNat x2)), some (.int (Int32.ofNat x3)), none, some (.long rv), none] rfl rfl rfl ?_
    rw [show ((Int32.ofNat x1) + (1 : Int32)) = Int32.ofNat (x1 + 1) from (zN_a rfl rfl)]
    refine zW_inc [some (.ref (21 + 8 * i)), some (.int (Int32.ofNat (x1 + 1))), some (.int (Int32.ofNat x2)), some (.int ((Int32.ofNat x3) + (1 : Int32))), none, some (.long rv), none] rfl rfl rfl ?_
    rw [show ((Int32.ofNat x3) + (1 : Int32)) = Int32.ofNat (x3 + 1) from (zN_a rfl rfl)]
    refine zW_gh 6 [some (.ref (21 + 8 * i)), some (.int (Int32.ofNat (x1 + 1))), some (.int (Int32.ofNat x2)), some (.int (Int32.ofNat (x3 + 1))), none, some (.long rv), none] [] 1 (fun f => rfl) ?_
    refine zW_fg (L' := [some (.ref (21 + 8 * i)), some (.int (Int32.ofNat (x1 + 1))), some (.int (Int32.ofNat x2)), some (.int (Int32.ofNat (x3 + 1))), none, none, none]) (zle_s _ (zle_s _ (zle_s _ (zle_s _ (zle_s _ (zle_n _ (zle_s _ zle_nil))))))) ?_
    exact H
  · have c9 : ¬ rv = (4294967296 : Int64) := (of_decide_eq_false ((zcL_eq _ _).symm.trans c))
    replace H := H.2 c9
    refine zW_gh 109 [some (.ref (21 + 8 * i)), some (.int (Int32.ofNat x1)), some (.int (Int32.ofNat x2)), some (.int (Int32.ofNat x3)), none, some (.long rv), none] [.long rv, .int (-1 : Int32), .int (Int32.ofNat x1), .int (2 : Int32), .ref (21 + 8 * i)] 5 (fun f => rfl) ?_
    refine zW_fg (L' := [some (.ref (21 + 8 * i)), some (.int (Int32.ofNat x1)), some (.int (Int32.ofNat x2)), some (.int (Int32.ofNat x3)), none, none, none]) (zle_s _ (zle_s _ (zle_s _ (zle_s _ (zle_s _ (zle_n _ (zle_s _ zle_nil))))))) ?_
    exact zW_cv rfl rfl rfl (by have := hi_i; omega) (zh_T0 hi_i) rfl rfl rfl rfl H
theorem b82_74 {P : zPt} {T : Nat → zX} {Y : zYt} {I : zIt} {A : zAt} {w : Nat → Int64} {p : Nat × Nat} {Q : zR → zH → Prop} {x1 x3 i : Nat} (H : zW zm_82 6 [some (.ref (21 + 8 * i)), some (.int (Int32.ofNat x1)), some (.int (Int32.ofNat 0)), some (.int (Int32.ofNat (x3 + 1))), none, none, none] [] p (zh (P, T, Y) I A w) Q) : zW zm_82 74 [some (.ref (21 + 8 * i)), some (.int (Int32.ofNat x1)), none, some (.int (Int32.ofNat x3)), none, none, none] [] p (zh (P, T, Y) I A w) Q := by
  refine zW_gh 115 [some (.ref (21 + 8 * i)), some (.int (Int32.ofNat x1)), some (.int (0 : Int32)), some (.int (Int32.ofNat x3)), none, none, none] [] 3 (fun f => rfl) ?_
  refine zW_inc [some (.ref (21 + 8 * i)), some (.int (Int32.ofNat x1)), some (.int (0 : Int32)), some (.int ((Int32.ofNat x3) + (1 : Int32))), none, none, none] rfl rfl rfl ?_
  rw [show ((Int32.ofNat x3) + (1 : Int32)) = Int32.ofNat (x3 + 1) from (zN_a rfl rfl)]
  refine zW_gh 6 [some (.ref (21 + 8 * i)), some (.int (Int32.ofNat x1)), some (.int (0 : Int32)), some (.int (Int32.ofNat (x3 + 1))), none, none, none] [] 1 (fun f => rfl) ?_
  exact H
theorem b82_112 {P : zPt} {T : Nat → zX} {Y : zYt} {I : zIt} {A : zAt} {w : Nat → Int64} {p : Nat × Nat} {Q : zR → zH → Prop} {x1 x2 x3 i : Nat} (H : zW zm_82 6 [some (.ref (21 + 8 * i)), some (.int (Int32.ofNat (x1 + 1))), some (.int (Int32.ofNat x2)), some (.int (Int32.ofNat (x3 + 1))), none, none, none] [] p (zh (P, T, Y) I A w) Q) : zW zm_82 112 [some (.ref (21 + 8 * i)), some (.int (Int32.ofNat x1)), some (.int (Int32.ofNat x2)), some (.int (Int32.ofNat x3)), none, none, none] [] p (zh (P, T, Y) I A w) Q := by
  refine zW_inc [some (.ref (21 + 8 * i)), some (.int ((Int32.ofNat x1) + (1 : Int32))), some (.int (Int32.ofNat x2)), some (.int (Int32.ofNat x3)), none, none, none] rfl rfl rfl ?_
  rw [show ((Int32.ofNat x1) + (1 : Int32)) = Int32.ofNat (x1 + 1) from (zN_a rfl rfl)]
  refine zW_inc [some (.ref (21 + 8 * i)), some (.int (Int32.ofNat (x1 + 1))), some (.int (Int32.ofNat x2)), some (.int ((Int32.ofNat x3) + (1 : Int32))), none, none, none] rfl rfl rfl ?_
  rw [show ((Int32.ofNat x3) + (1 : Int32)) = Int32.ofNat (x3 + 1) from (zN_a rfl rfl)]
  refine zW_gh 6 [some (.ref (21 + 8 * i)), some (.int (Int32.ofNat (x1 + 1))), some (.int (Int32.ofNat x2)), some (.int (Int32.ofNat (x3 + 1))), none, none, none] [] 1 (fun f => rfl) ?_
  exact H
