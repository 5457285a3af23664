theorem b145 {K : zKt} {code rf rs pr pn : Int32} {bad : Bool} {J : zJt} {m pa pb pc vf vs : Nat → Int32} {B : zBt} {w : Nat → Int64} {p : Nat × Nat} {Q : zR → zH → Prop} {a0 : Nat} {a1 a2 a3 : Int32} (H : ((a0 + 0) < 5340 ∧ ((a0 + 1) < 5340 ∧ ((a0 + 2) < 5340 ∧ zW zm_145 31 [some (.ref 75), some (.int (Int32.ofNat a0)), none, none, none, some (.int (Int32.ofNat 0))] [] p (zh K (code, rf, rs, bad, pr, pn, J) ((va_up (va_up (va_up m (a0 + 0) a1) (a0 + 1) a2) (a0 + 2) a3), pa, pb, pc, vf, vs, B) w) Q)))) : zT zm_145 [.ref 75, .int (Int32.ofNat a0), .int a1, .int a2, .int a3] p (zh K (code, rf, rs, bad, pr, pn, J) (m, pa, pb, pc, vf, vs, B) w) Q := by
  change zW zm_145 0 [some (.ref 75), some (.int (Int32.ofNat a0)), some (.int a1), some (.int a2), some (.int a3), none] [] p _ Q
  refine zW_gh 8 [some (.ref 75), some (.int (Int32.ofNat a0)), some (.int a1), some (.int a2), some (.int a3), none] [.int a1, .int ((Int32.ofNat a0) + (0 : Int32)), .ref 76] 6 (fun f => rfl) ?_
  obtain ⟨h1, H⟩ := H
  refine zW_iast rfl (by decide) rfl (by decide) zu_76 (zN_a rfl rfl) h1 ?_
  refine zW_gh 17 [some (.ref 75), some (.int (Int32.ofNat a0)), some (.int a1), some (.int a2), some (.int a3), none] [.int a2, .int ((Int32.ofNat a0) + (1 : Int32)), .ref 76] 6 (fun f => rfl) ?_
  obtain ⟨h2, H⟩ := H
  refine zW_iast rfl (by decide) rfl (by decide) zu_76 (zN_a rfl rfl) h2 ?_
  refine zW_gh 27 [some (.ref 75), some (.int (Int32.ofNat a0)), some (.int a1), some (.int a2), some (.int a3), none] [.int a3, .int ((Int32.ofNat a0) + (2 : Int32)), .ref 76] 6 (fun f => rfl) ?_
  obtain ⟨h3, H⟩ := H
  refine zW_iast rfl (by decide) rfl (by decide) zu_76 (zN_a rfl rfl) h3 ?_
  refine zW_gh 31 [some (.ref 75), some (.int (Int32.ofNat a0)), some (.int a1), some (.int a2), some (.int a3), some (.int (0 : Int32))] [] 2 (fun f => rfl) ?_
  refine zW_fg (L' := [some (.ref 75), some (.int (Int32.ofNat a0)), none, none, none, some (.int (0 : Int32))]) (zle_s _ (zle_s _ (zle_n _ (zle_n _ (zle_n _ (zle_s _ zle_nil)))))) ?_
  exact H
theorem b145_31 {K : zKt} {code rf rs pr pn : Int32} {bad : Bool} {J : zJt} {m pa pb pc vf vs : Nat → Int32} {B : zBt} {w : Nat → Int64} {p : Nat × Nat} {Q : zR → zH → Prop} {x1 x5 : Nat} (H : (x5 < 2147483648 ∧ ((32 ≤ x5 → zT zm_146 [.ref 75, .int (Int32.ofNat x1)] p (zh K (code, rf, rs, bad, pr, pn, J) (m, pa, pb, pc, vf, vs, B) w) (zK zm_145 61 [none, none, none, none, none, none] [] p Q)) ∧ (x5 < 32 → (((x1 + 4) + x5) < 5340 ∧ zW zm_145 31 [some (.ref 75), some (.int (Int32.ofNat x1)), none, none, none, some (.int (Int32.ofNat (x5 + 1)))] [] p (zh K (code, rf, rs, bad, pr, pn, J) ((va_up m ((x1 + 4) + x5) (0 : Int32)), pa, pb, pc, vf, vs, B) w) Q))))) : zW zm_145 31 [some (.ref 75), some (.int (Int32.ofNat x1)), none, none, none, some (.int (Int32.ofNat x5))] [] p (zh K (code, rf, rs, bad, pr, pn, J) (m, pa, pb, pc, vf, vs, B) w) Q := by
  obtain ⟨h1, H⟩ := H
  refine zW_bh (zcmp .ge (Int32.ofNat x5) (32 : Int32)) 56 38 [some (.ref 75), some (.int (Int32.ofNat x1)), none, none, none, some (.int (Int32.ofNat x5))] [] 3 (fun f => rfl) (fun c => ?_) (fun c => ?_)
  · have c9 : 32 ≤ x5 := (of_decide_eq_true ((zcN_ge (a := x5) (b := 32) rfl rfl h1 (by decide)).symm.trans c))
    replace H := H.1 c9
    refine zW_gh 58 [some (.ref 75), some (.int (Int32.ofNat x1)), none, none, none, some (.int (Int32.ofNat x5))] [.int (Int32.ofNat x1), .ref 75] 2 (fun f => rfl) ?_
    refine zW_fg (L' := [none, none, none, none, none, none]) (zle_n _ (zle_n _ (zle_s _ (zle_s _ (zle_s _ (zle_n _ zle_nil)))))) ?_
    exact zW_cl rfl rfl rfl rfl rfl H
  · have c9 : x5 < 32 := (Nat.lt_of_not_le (of_decide_eq_false ((zcN_ge (a := x5) (b := 32) rfl rfl h1 (by decide)).symm.trans c)))
    replace H := H.2 c9
    refine zW_gh 49 [some (.ref 75), some (.int (Int32.ofNat x1)), none, none, none, some (.int (Int32.ofNat x5))] [.int (0 : Int32), .int (((Int32.ofNat x1) + (4 : Int32)) + (Int32.ofNat x5)), .ref 76] 8 (fun f => rfl) ?_
    obtain ⟨h2, H⟩ := H
    refine zW_iast rfl (by decide) rfl (by decide) zu_76 (zN_a (zN_a rfl rfl) rfl) h2 ?_
    refine zW_inc [some (.ref 75), some (.int (Int32.ofNat x1)), none, none, none, some (.int ((Int32.ofNat x5) + (1 : Int32)))] rfl rfl rfl ?_
    rw [show ((Int32.ofNat x5) + (1 : Int32)) = Int32.ofNat (x5 + 1) from (zN_a rfl rfl)]
    refine zW_gh 31 [some (.ref 75), some (.int (Int32.ofNat x1)), none, none, none, some (.int (Int32.ofNat (x5 + 1)))] [] 1 (fun f => rfl) ?_
    exact H
theorem b145_61 {K : zKt} {code rf rs pr pn : Int32} {bad : Bool} {J : zJt} {m pa pb pc vf vs : Nat → Int32} {B : zBt} {w : Nat → Int64} {p : Nat × Nat} {Q : zR → zH → Prop} (H : Q (.inl none) (zh K (code, rf, rs, bad, pr, pn, J) (m, pa, pb, pc, vf, vs, B) w)) : zW zm_145 61 [none, none, none, none, none, none] [] p (zh K (code, rf, rs, bad, pr, pn, J) (m, pa, pb, pc, vf, vs, B) w) Q := by
  exact zW_rh none 1 (fun f => rfl) H
theorem b146 {K : zKt} {code rf rs pr pn : Int32} {bad : Bool} {J : zJt} {m pa pb pc vf vs : Nat → Int32} {B : zBt} {w : Nat → Int64} {p : Nat × Nat} {Q : zR → zH → Prop} {a0 : Nat} (H : ((a0 + 3) < 5340 ∧ zW zm_146 11 [some (.ref 75), some (.int (Int32.ofNat a0)), some (.int (Int32.ofNat 0))] [] p (zh K (code, rf, rs, bad, pr, pn, J) ((va_up m (a0 + 3) (0 : Int32)), pa, pb, pc, vf, vs, B) w) Q)) : zT zm_146 [.ref 75, .int (Int32.ofNat a0)] p (zh K (code, rf, rs, bad, pr, pn, J) (m, pa, pb, pc, vf, vs, B) w) Q := by
  change zW zm_146 0 [some (.ref 75), some (.int (Int32.ofNat a0)), none] [] p _ Q
  refine zW_gh 8 [some (.ref 75), some (.int (Int32.ofNat a0)), none] [.int (0 : Int32), .int ((Int32.ofNat a0) + (3 : Int32)), .ref 76] 6 (fun f => rfl) ?_
  obtain ⟨h1, H⟩ := H
  refine zW_iast rfl (by decide) rfl (by decide) zu_76 (zN_a rfl rfl) h1 ?_
  refine zW_gh 11 [some (.ref 75), some (.int (Int32.ofNat a0)), some (.int (0 : Int32))] [] 2 (fun f => rfl) ?_
  exact H
theorem b146_11 {K : zKt} {code rf rs pr pn : Int32} {bad : Bool} {J : zJt} {m pa pb pc vf vs : Nat → Int32} {B : zBt} {w : Nat → Int64} {p : Nat × Nat} {Q : zR → zH → Prop} {x1 x2 : Nat} (H : (x2 < 2147483648 ∧ ((32 ≤ x2 → Q (.inl none) (zh K (code, rf, rs, bad, pr, pn, J) (m, pa, pb, pc, vf, vs, B) w)) ∧ (x2 < 32 → (((x1 + 4) + x2) < 5340 ∧ (((x1 + 36) + x2) < 5340 ∧ zW zm_146 11 [some (.ref 75), some (.int (Int32.ofNat x1)), some (.int (Int32.ofNat (x2 + 1)))] [] p (zh K (code, rf, rs, bad, pr, pn, J) ((va_up m ((x1 + 36) + x2) (m ((x1 + 4) + x2))), pa, pb, pc, vf, vs, B) w) Q)))))) : zW zm_146 11 [some (.ref 75), some (.int (Int32.ofNat x1)), some (.int (Int32.ofNat x2))] [] p (zh K (code, rf, rs, bad, pr, pn, J) (m, pa, pb, pc, vf, vs, B) w) Q := by
  obtain ⟨h1, H⟩ := H
  refine zW_bh (zcmp .ge (Int32.ofNat x2) (32 : Int32)) 44 17 [some (.ref 75), some (.int (Int32.ofNat x1)), some (.int (Int32.ofNat x2))] [] 3 (fun f => rfl) (fun c => ?_) (fun c => ?_)
  · have c9 : 32 ≤ x2 := (of_decide_eq_true ((zcN_ge (a := x2) (b := 32) rfl rfl h1 (by decide)).symm.trans c))
    replace H := H.1 c9
    exact zW_rh none 1 (fun f => rfl) H
  · have c9 : x2 < 32 := (Nat.lt_of_not_le (of_decide_eq_false ((zcN_ge (a := x2) (b := 32) rfl rfl h1 (by decide)).symm.trans c)))
    replace H := H.2 c9
    refine zW_gh 31 [some (.ref 75), some (.int (Int32.ofNat x1)), some (.int (Int32.ofNat x2))] [.ref 76, .int (((Int32.ofNat x1) + (36 : Int32)) + (Int32.ofNat x2)), .ref 76] 9 (fun f => rfl) ?_
    refine zW_gh 36 [some (.ref 75), some (.int (Int32.ofNat x1)), some (.int (Int32.ofNat x2))] [.int (((Int32.ofNat x1) + (4 : Int32)) + (Int32.ofNat x2)), .ref 76, .int (((Int32.ofNat x1) + (36 : Int32)) + (Int32.ofNat x2)), .ref 76] 5 (fun f => rfl) ?_
    obtain ⟨h2, H⟩ := H
    refine zW_iald rfl (by decide) rfl (by decide) (zN_a (zN_a rfl rfl) rfl) h2 ?_
    obtain ⟨h3, H⟩ := H
    refine zW_iast rfl (by decide) rfl (by decide) zu_76 (zN_a (zN_a rfl rfl) rfl) h3 ?_
    refine zW_inc [some (.ref 75), some (.int (Int32.ofNat x1)), some (.int ((Int32.ofNat x2) + (1 : Int32)))] rfl rfl rfl ?_
    rw [show ((Int32.ofNat x2) + (1 : Int32)) = Int32.ofNat (x2 + 1) from (zN_a rfl rfl)]
    refine zW_gh 11 [some (.ref 75), some (.int (Int32.ofNat x1)), some (.int (Int32.ofNat (x2 + 1)))] [] 1 (fun f => rfl) ?_
    exact H
theorem b154 {K : zKt} {code rf rs pr pn : Int32} {bad : Bool} {J : zJt} {m pa pb pc vf vs : Nat → Int32} {B : zBt} {w : Nat → Int64} {p : Nat × Nat} {Q : zR → zH → Prop} {a0 a1 : Nat} (H : zW zm_154 2 [some (.ref 75), some (.int (Int32.ofNat a0)), some (.int (Int32.ofNat a1)), some (.int (Int32.ofNat 0))] [] p (zh K (code, rf, rs, bad, pr, pn, J) (m, pa, pb, pc, vf, vs, B) w) Q) : zT zm_154 [.ref 75, .int (Int32.ofNat a0), .int (Int32.ofNat a1)] p (zh K (code, rf, rs, bad, pr, pn, J) (m, pa, pb, pc, vf, vs, B) w) Q := by
  change zW zm_154 0 [some (.ref 75), some (.int (Int32.ofNat a0)), some (.int (Int32.ofNat a1)), none] [] p _ Q
  refine zW_gh 2 [some (.ref 75), some (.int (Int32.ofNat a0)), some (.int (Int32.ofNat a1)), some (.int (0 : Int32))] [] 2 (fun f => rfl) ?_
  exact H
theorem b154_2 {K : zKt} {code rf rs pr pn : Int32} {bad : Bool} {J : zJt} {m pa pb pc vf vs : Nat → Int32} {B : zBt} {w : Nat → Int64} {p : Nat × Nat} {Q : zR → zH → Prop} {x1 x2 x3 : Nat} (H : (x3 < 2147483648 ∧ ((1068 ≤ x3 → Q (.inl none) (zh K (code, rf, rs, bad, pr, pn, J) (m, pa, pb, pc, vf, vs, B) w)) ∧ (x3 < 1068 → ((x1 + x3) < 5340 ∧ ((x2 + x3) < 5340 ∧ zW zm_154 2 [some (.ref 75), some (.int (Int32.ofNat x1)), some (.int (Int32.ofNat x2)), some (.int (Int32.ofNat (x3 + 1)))] [] p (zh K (code, rf, rs, bad, pr, pn, J) ((va_up m (x2 + x3) (m (x1 + x3))), pa, pb, pc, vf, vs, B) w) Q)))))) : zW zm_154 2 [some (.ref 75), some (.int (Int32.ofNat x1)), some (.int (Int32.ofNat x2)), some (.int (Int32.ofNat x3))] [] p (zh K (code, rf, rs, bad, pr, pn, J) (m, pa, pb, pc, vf, vs, B) w) Q := by
  obtain ⟨h1, H⟩ := H
  refine zW_bh (zcmp .ge (Int32.ofNat x3) (1068 : Int32)) 31 9 [some (.ref 75), some (.int (Int32.ofNat x1)), some (.int (Int32.ofNat x2)), some (.int (Int32.ofNat x3))] [] 3 (fun f => rfl) (fun c => ?_) (fun c => ?_)
  · have c9 : 1068 ≤ x3 := (of_decide_eq_true ((zcN_ge (a := x3) (b := 1068) rfl rfl h1 (by decide)).symm.trans c))
    replace H := H.1 c9
    exact zW_rh none 1 (fun f => rfl) H
  · have c9 : x3 < 1068 := (Nat.lt_of_not_le (of_decide_eq_false ((zcN_ge (a := x3) (b := 1068) rfl rfl h1 (by decide)).symm.trans c)))
    replace H := H.2 c9
    refine zW_gh 22 [some (.ref 75), some (.int (Int32.ofNat x1)), some (.int (Int32.ofNat x2)), some (.int (Int32.ofNat x3))] [.int (Int32.ofNat x3), .int (Int32.ofNat x1), .ref 76, .int ((Int32.ofNat x2) + (Int32.ofNat x3)), .ref 76] 9 (fun f => rfl) ?_
    refine zW_gh 23 [some (.ref 75), some (.int (Int32.ofNat x1)), some (.int (Int32.ofNat x2)), some (.int (Int32.ofNat x3))] [.int ((Int32.ofNat x1) + (Int32.ofNat x3)), .ref 76, .int ((Int32.ofNat x2) + (Int32.ofNat x3)), .ref 76] 1 (fun f => rfl) ?_
    obtain ⟨h2, H⟩ := H
    refine zW_iald rfl (by decide) rfl (by decide) (zN_a rfl rfl) h2 ?_
    obtain ⟨h3, H⟩ := H
    refine zW_iast rfl (by decide) rfl (by decide) zu_76 (zN_a rfl rfl) h3 ?_
    refine zW_inc [some (.ref 75), some (.int (Int32.ofNat x1)), some (.int (Int32.ofNat x2)), some (.int ((Int32.ofNat x3) + (1 : Int32)))] rfl rfl rfl ?_
    rw [show ((Int32.ofNat x3) + (1 : Int32)) = Int32.ofNat (x3 + 1) from (zN_a rfl rfl)]
    refine zW_gh 2 [some (.ref 75), some (.int (Int32.ofNat x1)), some (.int (Int32.ofNat x2)), some (.int (Int32.ofNat (x3 + 1)))] [] 1 (fun f => rfl) ?_
    exact H
set_option maxRecDepth 20000 in
theorem b175 {K : zKt} {code rf rs pr pn : Int32} {bad : Bool} {J : zJt} {m pa pb pc vf vs : Nat → Int32} {B : zBt} {w : Nat → Int64} {p : Nat × Nat} {Q : zR → zH → Prop} {a0 a1 a2 : Nat} {a3 a4 a5 : Int32} (H : (a1 < 2147483648 ∧ ((a1 ≤ 2 → ((a0 + 0) < 5340 ∧ ((a0 + 2) < 5340 ∧ zW zm_175 56 [some (.ref 75), some (.int (Int32.ofNat a0)), none, some (.int (Int32.ofNat a2)), some (.int a3), some (.int a4), some (.int a5), some (.int (0 : Int32)), some (.int (m (a0 + 0))), some (.int (m (a0 + 2))), some (.int (Int32.ofNat (a1 % 3))), some (.int (Int32.ofNat 0)), none, none, none, none] [] p (zh K (code, rf, rs, bad, pr, pn, J) (m, pa, pb, pc, vf, vs, B) w) Q))) ∧ (2 < a1 → ((a0 + 0) < 5340 ∧ ((a0 + 1) < 5340 ∧ zW zm_175 56 [some (.ref 75), some (.int (Int32.ofNat a0)), none, some (.int (Int32.ofNat a2)), some (.int a3), some (.int a4), some (.int a5), some (.int (1 : Int32)), some (.int (m (a0 + 0))), some (.int (m (a0 + 1))), some (.int (Int32.ofNat (a1 % 3))), some (.int (Int32.ofNat 0)), none, none, none, none] [] p (zh K (code, rf, rs, bad, pr, pn, J) (m, pa, pb, pc, vf, vs, B) w) Q)))))) : zT zm_175 [.ref 75, .int (Int32.ofNat a0), .int (Int32.ofNat a1), .int (Int32.ofNat a2), .int a3, .int a4, .int a5] p (zh K (code, rf, rs, bad, pr, pn, J) (m, pa, pb, pc, vf, vs, B) w) Q := by
  change zW zm_175 0 [some (.ref 75), some (.int (Int32.ofNat a0)), some (.int (Int32.ofNat a1)), some (.int (Int32.ofNat a2)), some (.int a3), some (.int a4), some (.int a5), none, none, none, none, none, none, none, none, none] [] p _ Q
  obtain ⟨h1, H⟩ := H
  refine zW_bh (zcmp .le (Int32.ofNat a1) (2 : Int32)) 9 5 [some (.ref 75), some (.int (Int32.ofNat a0)), some (.int (Int32.ofNat a1)), some (.int (Int32.ofNat a2)), some (.int a3), some (.int a4), some (.int a5), none, none, none, none, none, none, none, none, none] [] 3 (fun f => rfl) (fun c => ?_) (fun c => ?_)
  · have c9 : a1 ≤ 2 := (of_decide_eq_true ((zcN_le (a := a1) (b := 2) rfl rfl h1 (by decide)).symm.trans c))
    replace H := H.1 c9
    refine zW_gh 19 [some (.ref 75), some (.int (Int32.ofNat a0)), some (.int (Int32.ofNat a1)), some (.int (Int32.ofNat a2)), some (.int a3), some (.int a4), some (.int a5), some (.int (0 : Int32)), none, none, none, none, none, none, none, none] [.int ((Int32.ofNat a0) + (0 : Int32)), .ref 76] 7 (fun f => rfl) ?_
    obtain ⟨h2, H⟩ := H
    refine zW_iald rfl (by decide) rfl (by decide) (zN_a rfl rfl) h2 ?_
    refine zW_gh 45 [some (.ref 75), some (.int (Int32.ofNat a0)), some (.int (Int32.ofNat a1)), some (.int (Int32.ofNat a2)), some (.int a3), some (.int a4), some (.int a5), some (.int (0 : Int32)), some (.int (m (a0 + 0))), none, none, none, none, none, none, none] [.int ((Int32.ofNat a0) + (2 : Int32)), .ref 76] 8 (fun f => rfl) ?_
    obtain ⟨h3, H⟩ := H
    refine zW_iald rfl (by decide) rfl (by decide) (zN_a rfl rfl) h3 ?_
    refine zW_gh 50 [some (.ref 75), some (.int (Int32.ofNat a0)), some (.int (Int32.ofNat a1)), some (.int (Int32.ofNat a2)), some (.int a3), some (.int a4), some (.int a5), some (.int (0 : Int32)), some (.int (m (a0 + 0))), some (.int (m (a0 + 2))), none, none, none, none, none, none] [.int (3 : Int32), .int (Int32.ofNat a1)] 3 (fun f => rfl) ?_
    refine zW_irem rfl (by decide) ?_
    rw [show ((Int32.ofNat a1) - (Int32.ofNat a1) / (3 : Int32) * (3 : Int32)) = Int32.ofNat (a1 % 3) from (zN_r rfl rfl h1 (by decide))]
    refine zW_gh 56 [some (.ref 75), some (.int (Int32.ofNat a0)), some (.int (Int32.ofNat a1)), some (.int (Int32.ofNat a2)), some (.int a3), some (.int a4), some (.int a5), some (.int (0 : Int32)), some (.int (m (a0 + 0))), some (.int (m (a0 + 2))), some (.int (Int32.ofNat (a1 % 3))), some (.int (0 : Int32)), none, none, none, none] [] 3 (fun f => rfl) ?_
    refine zW_fg (L' := [some (.ref 75), some (.int (Int32.ofNat a0)), none, some (.int (Int32.ofNat a2)), some (.int a3), some (.int a4), some (.int a5), some (.int (0 : Int32)), some (.int (m (a0 + 0))), some (.int (m (a0 + 2))), some (.int (Int32.ofNat (a1 % 3))), some (.int (0 : Int32)), none, none, none, none]) (zle_s _ (zle_s _ (zle_n _ (zle_s _ (zle_s _ (zle_s _ (zle_s _ (zle_s _ (zle_s _ (zle_s _ (zle_s _ (zle_s _ (zle_s _ (zle_s _ (zle_s _ (zle_s _ zle_nil)))))))))))))))) ?_
    exact H
  · have c9 : 2 < a1 := (Nat.lt_of_not_le (of_decide_eq_false ((zcN_le (a := a1) (b := 2) rfl rfl h1 (by decide)).symm.trans c)))
    replace H := H.2 c9
    refine zW_gh 19 [some (.ref 75), some (.int (Int32.ofNat a0)), some (.int (Int32.ofNat a1)), some (.int (Int32.ofNat a2)), some (.int a3), some (.int a4), some (.int a5), some (.int (1 : Int32)), none, none, none, none, none, none, none, none] [.int ((Int32.ofNat a0) + (0 : Int32)), .ref 76] 8 (fun f => rfl) ?_
    obtain ⟨h4, H⟩ := H
    refine zW_iald rfl (by decide) rfl (by decide) (zN_a rfl rfl) h4 ?_
    refine zW_gh 34 [some (.ref 75), some (.int (Int32.ofNat a0)), some (.int (Int32.ofNat a1)), some (.int (Int32.ofNat a2)), some (.int a3), some (.int a4), some (.int a5), some (.int (1 : Int32)), some (.int (m (a0 + 0))), none, none, none, none, none, none, none] [.int ((Int32.ofNat a0) + (1 : Int32)), .ref 76] 8 (fun f => rfl) ?_
    obtain ⟨h5, H⟩ := H
    refine zW_iald rfl (by decide) rfl (by decide) (zN_a rfl rfl) h5 ?_
    refine zW_gh 50 [some (.ref 75), some (.int (Int32.ofNat a0)), some (.int (Int32.ofNat a1)), some (.int (Int32.ofNat a2)), some (.int a3), some (.int a4), some (.int a5), some (.int (1 : Int32)), some (.int (m (a0 + 0))), some (.int (m (a0 + 1))), none, none, none, none, none, none] [.int (3 : Int32), .int (Int32.ofNat a1)] 4 (fun f => rfl) ?_
    refine zW_irem rfl (by decide) ?_
    rw [show ((Int32.ofNat a1) - (Int32.ofNat a1) / (3 : Int32) * (3 : Int32)) = Int32.ofNat (a1 % 3) from (zN_r rfl rfl h1 (by decide))]
    refine zW_gh 56 [some (.ref 75), some (.int (Int32.ofNat a0)), some (.int (Int32.ofNat a1)), some (.int (Int32.ofNat a2)), some (.int a3), some (.int a4), some (.int a5), some (.int (1 : Int32)), some (.int (m (a0 + 0))), some (.int (m (a0 + 1))), some (.int (Int32.ofNat (a1 % 3))), some (.int (0 : Int32)), none, none, none, none] [] 3 (fun f => rfl) ?_
    refine zW_fg (L' := [some (.ref 75), some (.int (Int32.ofNat a0)), none, some (.int (Int32.ofNat a2)), some (.int a3), some (.int a4), some (.int a5), some (.int (1 : Int32)), some (.int (m (a0 + 0))), some (.int (m (a0 + 1))), some (.int (Int32.ofNat (a1 % 3))), some (.int (0 : Int32)), none, none, none, none]) (zle_s _ (zle_s _ (zle_n _ (zle_s _ (zle_s _ (zle_s _ (zle_s _ (zle_s _ (zle_s _ (zle_s _ (zle_s _ (zle_s _ (zle_s _ (zle_s _ (zle_s _ (zle_s _ zle_nil)))))))))))))))) ?_
    exact H
set_option maxRecDepth 20000 in
theorem b175_56 {K : zKt} {code rf rs pr pn : Int32} {bad : Bool} {J : zJt} {m pa pb pc vf vs : Nat → Int32} {B : zBt} {w : Nat → Int64} {p : Nat × Nat} {Q : zR → zH → Prop} {x1 x3 x10 x11 : Nat} {x4 x5 x6 x8 x9 : Int32} {x7 : Bool} (H : ((x9 ≤ (Int32.ofNat x11) → Q (.inl none) (zh K (code, rf, rs, bad, pr, pn, J) (m, pa, pb, pc, vf, vs, B) w)) ∧ (¬ x9 ≤ (Int32.ofNat x11) → (x10 < 2147483648 ∧ ((¬ x10 = 2 → (∃ j2, x4 = Int32.ofNat j2 ∧ ((¬ x10 = 0 → ((¬ x10 = 1 → ((¬ x10 = 1 → ((zln x1 x7 j2 x11) < 5340 ∧ (((zln x1 x7 j2 x11) + 1) < 5340 ∧ zT zm_157 [.ref 75, .int x8, .int (0 : Int32), .int (0 : Int32), .int x5, .int x6, .int (m (zln x1 x7 j2 x11)), .int (m ((zln x1 x7 j2 x11) + 1))] p (zh K (code, rf, rs, bad, pr, pn, J) (m, pa, pb, pc, vf, vs, B) w) (zK zm_175 218 [some (.ref 75), some (.int (Int32.ofNat x1)), none, some (.int (Int32.ofNat x3)), some (.int x4), some (.int x5), some (.int x6), some (.int (zbi x7)), some (.int x8), some (.int x9), some (.int (Int32.ofNat x10)), some (.int (Int32.ofNat x11)), some (.int (Int32.ofNat (zln x1 x7 x3 x11))), none, none, none] [] p Q)))) ∧ (x10 = 1 → (((zln x1 x7 x3 x11) + 1) < 5340 ∧ ((zln x1 x7 j2 x11) < 5340 ∧ (((zln x1 x7 j2 x11) + 1) < 5340 ∧ zT zm_157 [.ref 75, .int x8, .int (0 : Int32), .int (m ((zln x1 x7 x3 x11) + 1)), .int x5, .int x6, .int (m (zln x1 x7 j2 x11)), .int (m ((zln x1 x7 j2 x11) + 1))] p (zh K (code, rf, rs, bad, pr, pn, J) (m, pa, pb, pc, vf, vs, B) w) (zK zm_175 218 [some (.ref 75), some (.int (Int32.ofNat x1)), none, some (.int (Int32.ofNat x3)), some (.int x4), some (.int x5), some (.int x6), some (.int (zbi x7)), some (.int x8), some (.int x9), some (.int (Int32.ofNat x10)), some (.int (Int32.ofNat x11)), some (.int (Int32.ofNat (zln x1 x7 x3 x11))), none, none, none] [] p Q))))))) ∧ (x10 = 1 → ((zln x1 x7 x3 x11) < 5340 ∧ ((¬ x10 = 1 → ((zln x1 x7 j2 x11) < 5340 ∧ (((zln x1 x7 j2 x11) + 1) < 5340 ∧ zT zm_157 [.ref 75, .int x8, .int (m (zln x1 x7 x3 x11)), .int (0 : Int32), .int x5, .int x6, .int (m (zln x1 x7 j2 x11)), .int (m ((zln x1 x7 j2 x11) + 1))] p (zh K (code, rf, rs, bad, pr, pn, J) (m, pa, pb, pc, vf, vs, B) w) (zK zm_175 218 [some (.ref 75), some (.int (Int32.ofNat x1)), none, some (.int (Int32.ofNat x3)), some (.int x4), some (.int x5), some (.int x6), some (.int (zbi x7)), some (.int x8), some (.int x9), some (.int (Int32.ofNat x10)), some (.int (Int32.ofNat x11)), some (.int (Int32.ofNat (zln x1 x7 x3 x11))), none, none, none] [] p Q)))) ∧ (x10 = 1 → (((zln x1 x7 x3 x11) + 1) < 5340 ∧ ((zln x1 x7 j2 x11) < 5340 ∧ (((zln x1 x7 j2 x11) + 1) < 5340 ∧ zT zm_157 [.ref 75, .int x8, .int (m (zln x1 x7 x3 x11)), .int (m ((zln x1 x7 x3 x11) + 1)), .int x5, .int x6, .int (m (zln x1 x7 j2 x11)), .int (m ((zln x1 x7 j2 x11) + 1))] p (zh K (code, rf, rs, bad, pr, pn, J) (m, pa, pb, pc, vf, vs, B) w) (zK zm_175 218 [some (.ref 75), some (.int (Int32.ofNat x1)), none, some (.int (Int32.ofNat x3)), some (.int x4), some (.int x5), some (.int x6), some (.int (zbi x7)), some (.int x8), some (.int x9), some (.int (Int32.ofNat x10)), some (.int (Int32.ofNat x11)), some (.int (Int32.ofNat (zln x1 x7 x3 x11))), none, none, none] [] p Q)))))))))) ∧ (x10 = 0 → ((zln x1 x7 x3 x11) < 5340 ∧ (((zln x1 x7 x3 x11) + 1) < 5340 ∧ ((zln x1 x7 j2 x11) < 5340 ∧ (((zln x1 x7 j2 x11) + 1) < 5340 ∧ ((zln x1 x7 x3 x11) + 1 < 5340 ∧ ((zln x1 x7 j2 x11) + 1 < 5340 ∧ zW zm_175 56 [some (.ref 75), some (.int (Int32.ofNat x1)), none, some (.int (Int32.ofNat x3)), some (.int x4), some (.int x5), some (.int x6), some (.int (zbi x7)), some (.int x8), some (.int x9), some (.int (Int32.ofNat x10)), some (.int (Int32.ofNat (x11 + 1))), none, none, none, none] [] p (zh K (code, rf, rs, bad, pr, pn, J) ((va_up (va_up (va_up (va_up m (zln x1 x7 x3 x11) (m (zln x1 x7 j2 x11))) ((zln x1 x7 x3 x11) + 1) (m ((zln x1 x7 j2 x11) + 1))) (zln x1 x7 j2 x11) (m (zln x1 x7 x3 x11))) ((zln x1 x7 j2 x11) + 1) (m ((zln x1 x7 x3 x11) + 1))), pa, pb, pc, vf, vs, B) w) Q)))))))))) ∧ (x10 = 2 → ((¬ x10 = 0 → ((¬ x10 = 1 → ((¬ x10 = 1 → ((zln x1 x7 x3 x11) < 5340 ∧ (((zln x1 x7 x3 x11) + 1) < 5340 ∧ zT zm_157 [.ref 75, .int x8, .int (0 : Int32), .int (0 : Int32), .int x5, .int x6, .int (m (zln x1 x7 x3 x11)), .int (m ((zln x1 x7 x3 x11) + 1))] p (zh K (code, rf, rs, bad, pr, pn, J) (m, pa, pb, pc, vf, vs, B) w) (zK zm_175 218 [some (.ref 75), some (.int (Int32.ofNat x1)), none, some (.int (Int32.ofNat x3)), some (.int x4), some (.int x5), some (.int x6), some (.int (zbi x7)), some (.int x8), some (.int x9), some (.int (Int32.ofNat x10)), some (.int (Int32.ofNat x11)), some (.int (Int32.ofNat (zln x1 x7 x3 x11))), none, none, none] [] p Q)))) ∧ (x10 = 1 → (((zln x1 x7 x3 x11) + 1) < 5340 ∧ ((zln x1 x7 x3 x11) < 5340 ∧ zT zm_157 [.ref 75, .int x8, .int (0 : Int32), .int (m ((zln x1 x7 x3 x11) + 1)), .int x5, .int x6, .int (m (zln x1 x7 x3 x11)), .int (m ((zln x1 x7 x3 x11) + 1))] p (zh K (code, rf, rs, bad, pr, pn, J) (m, pa, pb, pc, vf, vs, B) w) (zK zm_175 218 [some (.ref 75), some (.int (Int32.ofNat x1)), none, some (.int (Int32.ofNat x3)), some (.int x4), some (.int x5), some (.int x6), some (.int (zbi x7)), some (.int x8), some (.int x9), some (.int (Int32.ofNat x10)), some (.int (Int32.ofNat x11)), some (.int (Int32.ofNat (zln x1 x7 x3 x11))), none, none, none] [] p Q)))))) ∧ (x10 = 1 → ((zln x1 x7 x3 x11) < 5340 ∧ ((¬ x10 = 1 → (((zln x1 x7 x3 x11) + 1) < 5340 ∧ zT zm_157 [.ref 75, .int x8, .int (m (zln x1 x7 x3 x11)), .int (0 : Int32), .int x5, .int x6, .int (m (zln x1 x7 x3 x11)), .int (m ((zln x1 x7 x3 x11) + 1))] p (zh K (code, rf, rs, bad, pr, pn, J) (m, pa, pb, pc, vf, vs, B) w) (zK zm_175 218 [some (.ref 75), some (.int (Int32.ofNat x1)), none, some (.int (Int32.ofNat x3)), some (.int x4), some (.int x5), some (.int x6), some (.int (zbi x7)), some (.int x8), some (.int x9), some (.int (Int32.ofNat x10)), some (.int (Int32.ofNat x11)), some (.int (Int32.ofNat (zln x1 x7 x3 x11))), none, none, none] [] p Q))) ∧ (x10 = 1 → (((zln x1 x7 x3 x11) + 1) < 5340 ∧ zT zm_157 [.ref 75, .int x8, .int (m (zln x1 x7 x3 x11)), .int (m ((zln x1 x7 x3 x11) + 1)), .int x5, .int x6, .int (m (zln x1 x7 x3 x11)), .int (m ((zln x1 x7 x3 x11) + 1))] p (zh K (code, rf, rs, bad, pr, pn, J) (m, pa, pb, pc, vf, vs, B) w) (zK zm_175 218 [some (.ref 75), some (.int (Int32.ofNat x1)), none, some (.int (Int32.ofNat x3)), some (.int x4), some (.int x5), some (.int x6), some (.int (zbi x7)), some (.int x8), some (.int x9), some (.int (Int32.ofNat x10)), some (.int (Int32.ofNat x11)), some (.int (Int32.ofNat (zln x1 x7 x3 x11))), none, none, none] [] p Q)))))))) ∧ (x10 = 0 → ((zln x1 x7 x3 x11) < 5340 ∧ (((zln x1 x7 x3 x11) + 1) < 5340 ∧ ((zln x1 x7 x3 x11) + 1 < 5340 ∧ ((zln x1 x7 x3 x11) + 1 < 5340 ∧ zW zm_175 56 [some (.ref 75), some (.int (Int32.ofNat x1)), none, some (.int (Int32.ofNat x3)), some (.int x4), some (.int x5), some (.int x6), some (.int (zbi x7)), some (.int x8), some (.int x9), some (.int (Int32.ofNat x10)), some (.int (Int32.ofNat (x11 + 1))), none, none, none, none] [] p (zh K (code, rf, rs, bad, pr, pn, J) ((va_up (va_up (va_up (va_up m (zln x1 x7 x3 x11) (m (zln x1 x7 x3 x11))) ((zln x1 x7 x3 x11) + 1) (m ((zln x1 x7 x3 x11) + 1))) (zln x1 x7 x3 x11) (m (zln x1 x7 x3 x11))) ((zln x1 x7 x3 x11) + 1) (m ((zln x1 x7 x3 x11) + 1))), pa, pb, pc, vf, vs, B) w) Q)))))))))))) : zW zm_175 56 [some (.ref 75), some (.int (Int32.ofNat x1)), none, some (.int (Int32.ofNat x3)), some (.int x4), some (.int x5), some (.int x6), some (.int (zbi x7)), some (.int x8), some (.int x9), some (.int (Int32.ofNat x10)), some (.int (Int32.ofNat x11)), none, none, none, none] [] p (zh K (code, rf, rs, bad, pr, pn, J) (m, pa, pb, pc, vf, vs, B) w) Q := by
  refine zW_bh (zcmp .ge (Int32.ofNat x11) x9) 238 63 [some (.ref 75), some (.int (Int32.ofNat x1)), none, some (.int (Int32.ofNat x3)), some (.int x4), some (.int x5), some (.int x6), some (.int (zbi x7)), some (.int x8), some (.int x9), some (.int (Int32.ofNat x10)), some (.int (Int32.ofNat x11)), none, none, none, none] [] 3 (fun f => rfl) (fun c => ?_) (fun c => ?_)
  · have c9 : x9 ≤ (Int32.ofNat x11) := (of_decide_eq_true c)
    replace H := H.1 c9
    exact zW_rh none 1 (fun f => rfl) H
  · have c9 : ¬ x9 ≤ (Int32.ofNat x11) := (of_decide_eq_false c)
    replace H := H.2 c9
    refine zW_gh 69 [some (.ref 75), some (.int (Int32.ofNat x1)), none, some (.int (Int32.ofNat x3)), some (.int x4), some (.int x5), some (.int x6), some (.int (zbi x7)), some (.int x8), some (.int x9), some (.int (Int32.ofNat x10)), some (.int (Int32.ofNat x11)), none, none, none, none] [.int (Int32.ofNat x11), .int (Int32.ofNat x3), .int (zbi x7), .int (Int32.ofNat x1)] 4 (fun f => rfl) ?_
    refine zW_cl rfl rfl rfl rfl rfl ((s176 (d := x7) rfl rfl rfl) ?_)
    change zW zm_175 72 [some (.ref 75), some (.int (Int32.ofNat x1)), none, some (.int (Int32.ofNat x3)), some (.int x4), some (.int x5), some (.int x6), some (.int (zbi x7)), some (.int x8), some (.int x9), some (.int (Int32.ofNat x10)), some (.int (Int32.ofNat x11)), none, none, none, none] [.int (Int32.ofNat (zln x1 x7 x3 x11))] p _ Q
    obtain ⟨h1, H⟩ := H
    refine zW_bh (zcmp .ne (Int32.ofNat x10) (2 : Int32)) 87 83 [some (.ref 75), some (.int (Int32.ofNat x1)), none, some (.int (Int32.ofNat x3)), some (.int x4), some (.int x5), some (.int x6), some (.int (zbi x7)), some (.int x8), some (.int x9), some (.int (Int32.ofNat x10)), some (.int (Int32.ofNat x11)), some (.int (Int32.ofNat (zln x1 x7 x3 x11))), none, none, none] [.int (zbi x7), .int (Int32.ofNat x1)] 6 (fun f => rfl) (fun c => ?_) (fun c => ?_)
    · have c9 : ¬ x10 = 2 := (by have c := (zcN_ne (a := x10) (b := 2) rfl rfl h1 (by decide)).symm.trans c; simpa using c)
      replace H := H.1 c9
      obtain ⟨j2, e_j2, H⟩ := H
      refine zW_gh 91 [some (.ref 75), some (.int (Int32.ofNat x1)), none, some (.int (Int32.ofNat x3)), some (.int x4), some (.int x5), some (.int x6), some (.int (zbi x7)), some (.int x8), some (.int x9), some (.int (Int32.ofNat x10)), some (.int (Int32.ofNat x11)), some (.int (Int32.ofNat (zln x1 x7 x3 x11))), none, none, none] [.int (Int32.ofNat x11), .int x4, .int (zbi x7), .int (Int32.ofNat x1)] 2 (fun f => rfl) ?_
      refine zW_cl rfl rfl rfl rfl rfl ((s176 (d := x7) rfl e_j2 rfl) ?_)
      change zW zm_175 94 [some (.ref 75), some (.int (Int32.ofNat x1)), none, some (.int (Int32.ofNat x3)), some (.int x4), some (.int x5), some (.int x6), some (.int (zbi x7)), some (.int x8), some (.int x9), some (.int (Int32.ofNat x10)), some (.int (Int32.ofNat x11)), some (.int (Int32.ofNat (zln x1 x7 x3 x11))), none, none, none] [.int (Int32.ofNat (zln x1 x7 j2 x11))] p _ Q
      refine zW_bh (zcmp .ne (Int32.ofNat x10) (0 : Int32)) 156 101 [some (.ref 75), some (.int (Int32.ofNat x1)), none, some (.int (Int32.ofNat x3)), some (.int x4), some (.int x5), some (.int x6), some (.int (zbi x7)), some (.int x8), some (.int x9), some (.int (Int32.ofNat x10)), some (.int (Int32.ofNat x11)), some (.int (Int32.ofNat (zln x1 x7 x3 x11))), some (.int (Int32.ofNat (zln x1 x7 j2 x11))), none, none] [] 3 (fun f => rfl) (fun c => ?_) (fun c => ?_)
      · have c9 : ¬ x10 = 0 := (by have c := (zcN_ne (a := x10) (b := 0) rfl rfl h1 (by decide)).symm.trans c; simpa using c)
        replace H := H.1 c9
        refine zW_bh (zcmp .ne (Int32.ofNat x10) (1 : Int32)) 175 165 [some (.ref 75), some (.int (Int32.ofNat x1)), none, some (.int (Int32.ofNat x3)), some (.int x4), some (.int x5), some (.int x6), some (.int (zbi x7)), some (.int x8), some (.int x9), some (.int (Int32.ofNat x10)), some (.int (Int32.ofNat x11)), some (.int (Int32.ofNat (zln x1 x7 x3 x11))), some (.int (Int32.ofNat (zln x1 x7 j2 x11))), none, none] [.int x8, .ref 75] 5 (fun f => rfl) (fun c => ?_) (fun c => ?_)
        · have c9 : ¬ x10 = 1 := (by have c := (zcN_ne (a := x10) (b := 1) rfl rfl h1 (by decide)).symm.trans c; simpa using c)
          replace H := H.1 c9
          refine zW_bh (zcmp .ne (Int32.ofNat x10) (1 : Int32)) 194 182 [some (.ref 75), some (.int (Int32.ofNat x1)), none, some (.int (Int32.ofNat x3)), some (.int x4), some (.int x5), some (.int x6), some (.int (zbi x7)), some (.int x8), some (.int x9), some (.int (Int32.ofNat x10)), some (.int (Int32.ofNat x11)), some (.int (Int32.ofNat (zln x1 x7 x3 x11))), some (.int (Int32.ofNat (zln x1 x7 j2 x11))), none, none] [.int (0 : Int32), .int x8, .ref 75] 4 (fun f => rfl) (fun c => ?_) (fun c => ?_)
          · have c9 : ¬ x10 = 1 := (by have c := (zcN_ne (a := x10) (b := 1) rfl rfl h1 (by decide)).symm.trans c; simpa using c)
            replace H := H.1 c9
            refine zW_gh 205 [some (.ref 75), some (.int (Int32.ofNat x1)), none, some (.int (Int32.ofNat x3)), some (.int x4), some (.int x5), some (.int x6), some (.int (zbi x7)), some (.int x8), some (.int x9), some (.int (Int32.ofNat x10)), some (.int (Int32.ofNat x11)), some (.int (Int32.ofNat (zln x1 x7 x3 x11))), some (.int (Int32.ofNat (zln x1 x7 j2 x11))), none, none] [.int (Int32.ofNat (zln x1 x7 j2 x11)), .ref 76, .int x6, .int x5, .int (0 : Int32), .int (0 : Int32), .int x8, .ref 75] 6 (fun f => rfl) ?_
            obtain ⟨h3, H⟩ := H
            refine zW_iald rfl (by decide) rfl (by decide) rfl h3 ?_
            refine zW_gh 214 [some (.ref 75), some (.int (Int32.ofNat x1)), none, some (.int (Int32.ofNat x3)), some (.int x4), some (.int x5), some (.int x6), some (.int (zbi x7)), some (.int x8), some (.int x9), some (.int (Int32.ofNat x10)), some (.int (Int32.ofNat x11)), some (.int (Int32.ofNat (zln x1 x7 x3 x11))), some (.int (Int32.ofNat (zln x1 x7 j2 x11))), none, none] [.int ((Int32.ofNat (zln x1 x7 j2 x11)) + (1 : Int32)), .ref 76, .int (m (zln x1 x7 j2 x11)), .int x6, .int x5, .int (0 : Int32), .int (0 : Int32), .int x8, .ref 75] 5 (fun f => rfl) ?_
            obtain ⟨h4, H⟩ := H
            refine zW_iald rfl (by decide) rfl (by decide) (zN_a rfl rfl) h4 ?_
            refine zW_fg (L' := [some (.ref 75), some (.int (Int32.ofNat x1)), none, some (.int (Int32.ofNat x3)), some (.int x4), some (.int x5), some (.int x6), some (.int (zbi x7)), some (.int x8), some (.int x9), some (.int (Int32.ofNat x10)), some (.int (Int32.ofNat x11)), some (.int (Int32.ofNat (zln x1 x7 x3 x11))), none, none, none]) (zle_s _ (zle_s _ (zle_s _ (zle_s _ (zle_s _ (zle_s _ (zle_s _ (zle_s _ (zle_s _ (zle_s _ (zle_s _ (zle_s _ (zle_s _ (zle_n _ (zle_s _ (zle_s _ zle_nil)))))))))))))))) ?_
            exact zW_cl rfl rfl rfl rfl rfl H
          · have c9 : x10 = 1 := (by have c := (zcN_ne (a := x10) (b := 1) rfl rfl h1 (by decide)).symm.trans c; simpa using c)
            replace H := H.2 c9
            refine zW_gh 190 [some (.ref 75), some (.int (Int32.ofNat x1)), none, some (.int (Int32.ofNat x3)), some (.int x4), some (.int x5), some (.int x6), some (.int (zbi x7)), some (.int x8), some (.int x9), some (.int (Int32.ofNat x10)), some (.int (Int32.ofNat x11)), some (.int (Int32.ofNat (zln x1 x7 x3 x11))), some (.int (Int32.ofNat (zln x1 x7 j2 x11))), none, none] [.int ((Int32.ofNat (zln x1 x7 x3 x11)) + (1 : Int32)), .ref 76, .int (0 : Int32), .int x8, .ref 75] 5 (fun f => rfl) ?_
            obtain ⟨h5, H⟩ := H
            refine zW_iald rfl (by decide) rfl (by decide) (zN_a rfl rfl) h5 ?_
            refine zW_gh 205 [some (.ref 75), some (.int (Int32.ofNat x1)), none, some (.int (Int32.ofNat x3)), some (.int x4), some (.int x5), some (.int x6), some (.int (zbi x7)), some (.int x8), some (.int x9), some (.int (Int32.ofNat x10)), some (.int (Int32.ofNat x11)), some (.int (Int32.ofNat (zln x1 x7 x3 x11))), some (.int (Int32.ofNat (zln x1 x7 j2 x11))), none, none] [.int (Int32.ofNat (zln x1 x7 j2 x11)), .ref 76, .int x6, .int x5, .int (m ((zln x1 x7 x3 x11) + 1)), .int (0 : Int32), .int x8, .ref 75] 6 (fun f => rfl) ?_
            obtain ⟨h6, H⟩ := H
            refine zW_iald rfl (by decide) rfl (by decide) rfl h6 ?_
            refine zW_gh 214 [some (.ref 75), some (.int (Int32.ofNat x1)), none, some (.int (Int32.ofNat x3)), some (.int x4), some (.int x5), some (.int x6), some (.int (zbi x7)), some (.int x8), some (.int x9), some (.int (Int32.ofNat x10)), some (.int (Int32.ofNat x11)), some (.int (Int32.ofNat (zln x1 x7 x3 x11))), some (.int (Int32.ofNat (zln x1 x7 j2 x11))), none, none] [.int ((Int32.ofNat (zln x1 x7 j2 x11)) + (1 : Int32)), .ref 76, .int (m (zln x1 x7 j2 x11)), .int x6, .int x5, .int (m ((zln x1 x7 x3 x11) + 1)), .int (0 : Int32), .int x8, .ref 75] 5 (fun f => rfl) ?_
            obtain ⟨h7, H⟩ := H
            refine zW_iald rfl (by decide) rfl (by decide) (zN_a rfl rfl) h7 ?_
            refine zW_fg (L' := [some (.ref 75), some (.int (Int32.ofNat x1)), none, some (.int (Int32.ofNat x3)), some (.int x4), some (.int x5), some (.int x6), some (.int (zbi x7)), some (.int x8), some (.int x9), some (.int (Int32.ofNat x10)), some (.int (Int32.ofNat x11)), some (.int (Int32.ofNat (zln x1 x7 x3 x11))), none, none, none]) (zle_s _ (zle_s _ (zle_s _ (zle_s _ (zle_s _ (zle_s _ (zle_s _ (zle_s _ (zle_s _ (zle_s _ (zle_s _ (zle_s _ (zle_s _ (zle_n _ (zle_s _ (zle_s _ zle_nil)))))))))))))))) ?_
            exact zW_cl rfl rfl rfl rfl rfl H
        · have c9 : x10 = 1 := (by have c := (zcN_ne (a := x10) (b := 1) rfl rfl h1 (by decide)).symm.trans c; simpa using c)
          replace H := H.2 c9
          refine zW_gh 171 [some (.ref 75), some (.int (Int32.ofNat x1)), none, some (.int (Int32.ofNat x3)), some (.int x4), some (.int x5), some (.int x6), some (.int (zbi x7)), some (.int x8), some (.int x9), some (.int (Int32.ofNat x10)), some (.int (Int32.ofNat x11)), some (.int (Int32.ofNat (zln x1 x7 x3 x11))), some (.int (Int32.ofNat (zln x1 x7 j2 x11))), none, none] [.int (Int32.ofNat (zln x1 x7 x3 x11)), .ref 76, .int x8, .ref 75] 3 (fun f => rfl) ?_
          obtain ⟨h8, H⟩ := H
          refine zW_iald rfl (by decide) rfl (by decide) rfl h8 ?_
          refine zW_bh (zcmp .ne (Int32.ofNat x10) (1 : Int32)) 194 182 [some (.ref 75), some (.int (Int32.ofNat x1)), none, some (.int (Int32.ofNat x3)), some (.int x4), some (.int x5), some (.int x6), some (.int (zbi x7)), some (.int x8), some (.int x9), some (.int (Int32.ofNat x10)), some (.int (Int32.ofNat x11)), some (.int (Int32.ofNat (zln x1 x7 x3 x11))), some (.int (Int32.ofNat (zln x1 x7 j2 x11))), none, none] [.int (m (zln x1 x7 x3 x11)), .int x8, .ref 75] 4 (fun f => rfl) (fun c => ?_) (fun c => ?_)
          · have c9 : ¬ x10 = 1 := (by have c := (zcN_ne (a := x10) (b := 1) rfl rfl h1 (by decide)).symm.trans c; simpa using c)
            replace H := H.1 c9
            refine zW_gh 205 [some (.ref 75), some (.int (Int32.ofNat x1)), none, some (.int (Int32.ofNat x3)), some (.int x4), some (.int x5), some (.int x6), some (.int (zbi x7)), some (.int x8), some (.int x9), some (.int (Int32.ofNat x10)), some (.int (Int32.ofNat x11)), some (.int (Int32.ofNat (zln x1 x7 x3 x11))), some (.int (Int32.ofNat (zln x1 x7 j2 x11))), none, none] [.int (Int32.ofNat (zln x1 x7 j2 x11)), .ref 76, .int x6, .int x5, .int (0 : Int32), .int (m (zln x1 x7 x3 x11)), .int x8, .ref 75] 6 (fun f => rfl) ?_
            obtain ⟨h9, H⟩ := H
            refine zW_iald rfl (by decide) rfl (by decide) rfl h9 ?_
            refine zW_gh 214 [some (.ref 75), some (.int (Int32.ofNat x1)), none, some (.int (Int32.ofNat x3)), some (.int x4), some (.int x5), some (.int x6), some (.int (zbi x7)), some (.int x8), some (.int x9), some (.int (Int32.ofNat x10)), some (.int (Int32.ofNat x11)), some (.int (Int32.ofNat (zln x1 x7 x3 x11))), some (.int (Int32.ofNat (zln x1 x7 j2 x11))), none, none] [.int ((Int32.ofNat (zln x1 x7 j2 x11)) + (1 : Int32)), .ref 76, .int (m (zln x1 x7 j2 x11)), .int x6, .int x5, .int (0 : Int32), .int (m (zln x1 x7 x3 x11)), .int x8, .ref 75] 5 (fun f => rfl) ?_
            obtain ⟨h10, H⟩ := H
            refine zW_iald rfl (by decide) rfl (by decide) (zN_a rfl rfl) h10 ?_
            refine zW_fg (L' := [some (.ref 75), some (.int (Int32.ofNat x1)), none, some (.int (Int32.ofNat x3)), some (.int x4), some (.int x5), some (.int x6), some (.int (zbi x7)), some (.int x8), some (.int x9), some (.int (Int32.ofNat x10)), some (.int (Int32.ofNat x11)), some (.int (Int32.ofNat (zln x1 x7 x3 x11))), none, none, none]) (zle_s _ (zle_s _ (zle_s _ (zle_s _ (zle_s _ (zle_s _ (zle_s _ (zle_s _ (zle_s _ (zle_s _ (zle_s _ (zle_s _ (zle_s _ (zle_n _ (zle_s _ (zle_s _ zle_nil)))))))))))))))) ?_
            exact zW_cl rfl rfl rfl rfl rfl H
          · have c9 : x10 = 1 := (by have c := (zcN_ne (a := x10) (b := 1) rfl rfl h1 (by decide)).symm.trans c; simpa using c)
            replace H := H.2 c9
            refine zW_gh 190 [some (.ref 75), some (.int (Int32.ofNat x1)), none, some (.int (Int32.ofNat x3)), some (.int x4), some (.int x5), some (.int x6), some (.int (zbi x7)), some (.int x8), some (.int x9), some (.int (Int32.ofNat x10)), some (.int (Int32.ofNat x11)), some (.int (Int32.ofNat (zln x1 x7 x3 x11))), some (.int (Int32.ofNat (zln x1 x7 j2 x11))), none, none] [.int ((Int32.ofNat (zln x1 x7 x3 x11)) + (1 : Int32)), .ref 76, .int (m (zln x1 x7 x3 x11)), .int x8, .ref 75] 5 (fun f => rfl) ?_
            obtain ⟨h11, H⟩ := H
            refine zW_iald rfl (by decide) rfl (by decide) (zN_a rfl rfl) h11 ?_
            refine zW_gh 205 [some (.ref 75), some (.int (Int32.ofNat x1)), none, some (.int (Int32.ofNat x3)), some (.int x4), some (.int x5), some (.int x6), some (.int (zbi x7)), some (.int x8), some (.int x9), some (.int (Int32.ofNat x10)), some (.int (Int32.ofNat x11)), some (.int (Int32.ofNat (zln x1 x7 x3 x11))), some (.int (Int32.ofNat (zln x1 x7 j2 x11))), none, none] [.int (Int32.ofNat (zln x1 x7 j2 x11)), .ref 76, .int x6, .int x5, .int (m ((zln x1 x7 x3 x11) + 1)), .int (m (zln x1 x7 x3 x11)), .int x8, .ref 75] 6 (fun f => rfl) ?_
            obtain ⟨h12, H⟩ := H
            refine zW_iald rfl (by decide) rfl (by decide) rfl h12 ?_
            refine zW_gh 214 [some (.ref 75), some (.int (Int32.ofNat x1)), none, some (.int (Int32.ofNat x3)), some (.int x4), some (.int x5), some (.int x6), some (.int (zbi x7)), some (.int x8), some (.int x9), some (.int (Int32.ofNat x10)), some (.int (Int32.ofNat x11)), some (.int (Int32.ofNat (zln x1 x7 x3 x11))), some (.int (Int32.ofNat (zln x1 x7 j2 x11))), none, none] [.int ((Int32.ofNat (zln x1 x7 j2 x11)) + (1 : Int32)), .ref 76, .int (m (zln x1 x7 j2 x11)), .int x6, .int x5, .int (m ((zln x1 x7 x3 x11) + 1)), .int (m (zln x1 x7 x3 x11)), .int x8, .ref 75] 5 (fun f => rfl) ?_
            obtain ⟨h13, H⟩ := H
            refine zW_iald rfl (by decide) rfl (by decide) (zN_a rfl rfl) h13 ?_
            refine zW_fg (L' := [some (.ref 75), some (.int (Int32.ofNat x1)), none, some (.int (Int32.ofNat x3)), some (.int x4), some (.int x5), some (.int x6), some (.int (zbi x7)), some (.int x8), some (.int x9), some (.int (Int32.ofNat x10)), some (.int (Int32.ofNat x11)), some (.int (Int32.ofNat (zln x1 x7 x3 x11))), none, none, none]) (zle_s _ (zle_s _ (zle_s _ (zle_s _ (zle_s _ (zle_s _ (zle_s _ (zle_s _ (zle_s _ (zle_s _ (zle_s _ (zle_s _ (zle_s _ (zle_n _ (zle_s _ (zle_s _ zle_nil)))))))))))))))) ?_
            exact zW_cl rfl rfl rfl rfl rfl H
      · have c9 : x10 = 0 := (by have c := (zcN_ne (a := x10) (b := 0) rfl rfl h1 (by decide)).symm.trans c; simpa using c)
        replace H := H.2 c9
        refine zW_gh 107 [some (.ref 75), some (.int (Int32.ofNat x1)), none, some (.int (Int32.ofNat x3)), some (.int x4), some (.int x5), some (.int x6), some (.int (zbi x7)), some (.int x8), some (.int x9), some (.int (Int32.ofNat x10)), some (.int (Int32.ofNat x11)), some (.int (Int32.ofNat (zln x1 x7 x3 x11))), some (.int (Int32.ofNat (zln x1 x7 j2 x11))), none, none] [.int (Int32.ofNat (zln x1 x7 x3 x11)), .ref 76] 3 (fun f => rfl) ?_
        obtain ⟨h14, H⟩ := H
        refine zW_iald rfl (by decide) rfl (by decide) rfl h14 ?_
        refine zW_gh 118 [some (.ref 75), some (.int (Int32.ofNat x1)), none, some (.int (Int32.ofNat x3)), some (.int x4), some (.int x5), some (.int x6), some (.int (zbi x7)), some (.int x8), some (.int x9), some (.int (Int32.ofNat x10)), some (.int (Int32.ofNat x11)), some (.int (Int32.ofNat (zln x1 x7 x3 x11))), some (.int (Int32.ofNat (zln x1 x7 j2 x11))), some (.int (m (zln x1 x7 x3 x11))), none] [.int ((Int32.ofNat (zln x1 x7 x3 x11)) + (1 : Int32)), .ref 76] 6 (fun f => rfl) ?_
        obtain ⟨h15, H⟩ := H
        refine zW_iald rfl (by decide) rfl (by decide) (zN_a rfl rfl) h15 ?_
        refine zW_gh 130 [some (.ref 75), some (.int (Int32.ofNat x1)), none, some (.int (Int32.ofNat x3)), some (.int x4), some (.int x5), some (.int x6), some (.int (zbi x7)), some (.int x8), some (.int x9), some (.int (Int32.ofNat x10)), some (.int (Int32.ofNat x11)), some (.int (Int32.ofNat (zln x1 x7 x3 x11))), some (.int (Int32.ofNat (zln x1 x7 j2 x11))), some (.int (m (zln x1 x7 x3 x11))), some (.int (m ((zln x1 x7 x3 x11) + 1)))] [.int (Int32.ofNat (zln x1 x7 j2 x11)), .ref 76, .int (Int32.ofNat (zln x1 x7 x3 x11)), .ref 75] 6 (fun f => rfl) ?_
        obtain ⟨h16, H⟩ := H
        refine zW_iald rfl (by decide) rfl (by decide) rfl h16 ?_
        refine zW_gh 139 [some (.ref 75), some (.int (Int32.ofNat x1)), none, some (.int (Int32.ofNat x3)), some (.int x4), some (.int x5), some (.int x6), some (.int (zbi x7)), some (.int x8), some (.int x9), some (.int (Int32.ofNat x10)), some (.int (Int32.ofNat x11)), some (.int (Int32.ofNat (zln x1 x7 x3 x11))), some (.int (Int32.ofNat (zln x1 x7 j2 x11))), some (.int (m (zln x1 x7 x3 x11))), some (.int (m ((zln x1 x7 x3 x11) + 1)))] [.int ((Int32.ofNat (zln x1 x7 j2 x11)) + (1 : Int32)), .ref 76, .int (m (zln x1 x7 j2 x11)), .int (Int32.ofNat (zln x1 x7 x3 x11)), .ref 75] 5 (fun f => rfl) ?_
        obtain ⟨h17, H⟩ := H
        refine zW_iald rfl (by decide) rfl (by decide) (zN_a rfl rfl) h17 ?_
        obtain ⟨h18, H⟩ := H
        refine zW_cl rfl rfl rfl rfl rfl ((s152 rfl) h18 ?_)
        change zW zm_175 143 [some (.ref 75), some (.int (Int32.ofNat x1)), none, some (.int (Int32.ofNat x3)), some (.int x4), some (.int x5), some (.int x6), some (.int (zbi x7)), some (.int x8), some (.int x9), some (.int (Int32.ofNat x10)), some (.int (Int32.ofNat x11)), some (.int (Int32.ofNat (zln x1 x7 x3 x11))), some (.int (Int32.ofNat (zln x1 x7 j2 x11))), some (.int (m (zln x1 x7 x3 x11))), some (.int (m ((zln x1 x7 x3 x11) + 1)))] [] p _ Q
        refine zW_gh 150 [some (.ref 75), some (.int (Int32.ofNat x1)), none, some (.int (Int32.ofNat x3)), some (.int x4), some (.int x5), some (.int x6), some (.int (zbi x7)), some (.int x8), some (.int x9), some (.int (Int32.ofNat x10)), some (.int (Int32.ofNat x11)), some (.int (Int32.ofNat (zln x1 x7 x3 x11))), some (.int (Int32.ofNat (zln x1 x7 j2 x11))), some (.int (m (zln x1 x7 x3 x11))), some (.int (m ((zln x1 x7 x3 x11) + 1)))] [.int (m ((zln x1 x7 x3 x11) + 1)), .int (m (zln x1 x7 x3 x11)), .int (Int32.ofNat (zln x1 x7 j2 x11)), .ref 75] 4 (fun f => rfl) ?_
        obtain ⟨h19, H⟩ := H
        refine zW_cl rfl rfl rfl rfl rfl ((s152 rfl) h19 ?_)
        change zW zm_175 153 [some (.ref 75), some (.int (Int32.ofNat x1)), none, some (.int (Int32.ofNat x3)), some (.int x4), some (.int x5), some (.int x6), some (.int (zbi x7)), some (.int x8), some (.int x9), some (.int (Int32.ofNat x10)), some (.int (Int32.ofNat x11)), some (.int (Int32.ofNat (zln x1 x7 x3 x11))), some (.int (Int32.ofNat (zln x1 x7 j2 x11))), some (.int (m (zln x1 x7 x3 x11))), some (.int (m ((zln x1 x7 x3 x11) + 1)))] [] p _ Q
        refine zW_gh 232 [some (.ref 75), some (.int (Int32.ofNat x1)), none, some (.int (Int32.ofNat x3)), some (.int x4), some (.int x5), some (.int x6), some (.int (zbi x7)), some (.int x8), some (.int x9), some (.int (Int32.ofNat x10)), some (.int (Int32.ofNat x11)), some (.int (Int32.ofNat (zln x1 x7 x3 x11))), some (.int (Int32.ofNat (zln x1 x7 j2 x11))), some (.int (m (zln x1 x7 x3 x11))), some (.int (m ((zln x1 x7 x3 x11) + 1)))] [] 1 (fun f => rfl) ?_
        refine zW_inc [some (.ref 75), some (.int (Int32.ofNat x1)), none, some (.int (Int32.ofNat x3)), some (.int x4), some (.int x5), some (.int x6), some (.int (zbi x7)), some (.int x8), some (.int x9), some (.int (Int32.ofNat x10)), some (.int ((Int32.ofNat x11) + (1 : Int32))), some (.int (Int32.ofNat (zln x1 x7 x3 x11))), some (.int (Int32.ofNat (zln x1 x7 j2 x11))), some (.int (m (zln x1 x7 x3 x11))), some (.int (m ((zln x1 x7 x3 x11) + 1)))] rfl rfl rfl ?_
        rw [show ((Int32.ofNat x11) + (1 : Int32)) = Int32.ofNat (x11 + 1) from (zN_a rfl rfl)]
        refine zW_gh 56 [some (.ref 75), some (.int (Int32.ofNat x1)), none, some (.int (Int32.ofNat x3)), some (.int x4), some (.int x5), some (.int x6), some (.int (zbi x7)), some (.int x8), some (.int x9), some (.int (Int32.ofNat x10)), some (.int (Int32.ofNat (x11 + 1))), some (.int (Int32.ofNat (zln x1 x7 x3 x11))), some (.int (Int32.ofNat (zln x1 x7 j2 x11))), some (.int (m (zln x1 x7 x3 x11))), some (.int (m ((zln x1 x7 x3 x11) + 1)))] [] 1 (fun f => rfl) ?_
        refine zW_fg (L' := [some (.ref 75), some (.int (Int32.ofNat x1)), none, some (.int (Int32.ofNat x3)), some (.int x4), some (.int x5), some (.int x6), some (.int (zbi x7)), some (.int x8), some (.int x9), some (.int (Int32.ofNat x10)), some (.int (Int32.ofNat (x11 + 1))), none, none, none, none]) (zle_s _ (zle_s _ (zle_s _ (zle_s _ (zle_s _ (zle_s _ (zle_s _ (zle_s _ (zle_s _ (zle_s _ (zle_s _ (zle_s _ (zle_n _ (zle_n _ (zle_n _ (zle_n _ zle_nil)))))))))))))))) ?_
        exact H
    · have c9 : x10 = 2 := (by have c := (zcN_ne (a := x10) (b := 2) rfl rfl h1 (by decide)).symm.trans c; simpa using c)
      replace H := H.2 c9
      refine zW_gh 91 [some (.ref 75), some (.int (Int32.ofNat x1)), none, some (.int (Int32.ofNat x3)), some (.int x4), some (.int x5), some (.int x6), some (.int (zbi x7)), some (.int x8), some (.int x9), some (.int (Int32.ofNat x10)), some (.int (Int32.ofNat x11)), some (.int (Int32.ofNat (zln x1 x7 x3 x11))), none, none, none] [.int (Int32.ofNat x11), .int (Int32.ofNat x3), .int (zbi x7), .int (Int32.ofNat x1)] 3 (fun f => rfl) ?_
      refine zW_cl rfl rfl rfl rfl rfl ((s176 (d := x7) rfl rfl rfl) ?_)
      change zW zm_175 94 [some (.ref 75), some (.int (Int32.ofNat x1)), none, some (.int (Int32.ofNat x3)), some (.int x4), some (.int x5), some (.int x6), some (.int (zbi x7)), some (.int x8), some (.int x9), some (.int (Int32.ofNat x10)), some (.int (Int32.ofNat x11)), some (.int (Int32.ofNat (zln x1 x7 x3 x11))), none, none, none] [.int (Int32.ofNat (zln x1 x7 x3 x11))] p _ Q
      refine zW_bh (zcmp .ne (Int32.ofNat x10) (0 : Int32)) 156 101 [some (.ref 75), some (.int (Int32.ofNat x1)), none, some (.int (Int32.ofNat x3)), some (.int x4), some (.int x5), some (.int x6), some (.int (zbi x7)), some (.int x8), some (.int x9), some (.int (Int32.ofNat x10)), some (.int (Int32.ofNat x11)), some (.int (Int32.ofNat (zln x1 x7 x3 x11))), some (.int (Int32.ofNat (zln x1 x7 x3 x11))), none, none] [] 3 (fun f => rfl) (fun c => ?_) (fun c => ?_)
      · have c9 : ¬ x10 = 0 := (by have c := (zcN_ne (a := x10) (b := 0) rfl rfl h1 (by decide)).symm.trans c; simpa using c)
        replace H := H.1 c9
        refine zW_bh (zcmp .ne (Int32.ofNat x10) (1 : Int32)) 175 165 [some (.ref 75), some (.int (Int32.ofNat x1)), none, some (.int (Int32.ofNat x3)), some (.int x4), some (.int x5), some (.int x6), some (.int (zbi x7)), some (.int x8), some (.int x9), some (.int (Int32.ofNat x10)), some (.int (Int32.ofNat x11)), some (.int (Int32.ofNat (zln x1 x7 x3 x11))), some (.int (Int32.ofNat (zln x1 x7 x3 x11))), none, none] [.int x8, .ref 75] 5 (fun f => rfl) (fun c => ?_) (fun c => ?_)
        · have c9 : ¬ x10 = 1 := (by have c := (zcN_ne (a := x10) (b := 1) rfl rfl h1 (by decide)).symm.trans c; simpa using c)
          replace H := H.1 c9
          refine zW_bh (zcmp .ne (Int32.ofNat x10) (1 : Int32)) 194 182 [some (.ref 75), some (.int (Int32.ofNat x1)), none, some (.int (Int32.ofNat x3)), some (.int x4), some (.int x5), some (.int x6), some (.int (zbi x7)), some (.int x8), some (.int x9), some (.int (Int32.ofNat x10)), some (.int (Int32.ofNat x11)), some (.int (Int32.ofNat (zln x1 x7 x3 x11))), some (.int (Int32.ofNat (zln x1 x7 x3 x11))), none, none] [.int (0 : Int32), .int x8, .ref 75] 4 (fun f => rfl) (fun c => ?_) (fun c => ?_)
          · have c9 : ¬ x10 = 1 := (by have c := (zcN_ne (a := x10) (b := 1) rfl rfl h1 (by decide)).symm.trans c; simpa using c)
            replace H := H.1 c9
            refine zW_gh 205 [some (.ref 75), some (.int (Int32.ofNat x1)), none, some (.int (Int32.ofNat x3)), some (.int x4), some (.int x5), some (.int x6), some (.int (zbi x7)), some (.int x8), some (.int x9), some (.int (Int32.ofNat x10)), some (.int (Int32.ofNat x11)), some (.int (Int32.ofNat (zln x1 x7 x3 x11))), some (.int (Int32.ofNat (zln x1 x7 x3 x11))), none, none] [.int (Int32.ofNat (zln x1 x7 x3 x11)), .ref 76, .int x6, .int x5, .int (0 : Int32), .int (0 : Int32), .int x8, .ref 75] 6 (fun f => rfl) ?_
            obtain ⟨h20, H⟩ := H
            refine zW_iald rfl (by decide) rfl (by decide) rfl h20 ?_
            refine zW_gh 214 [some (.ref 75), some (.int (Int32.ofNat x1)), none, some (.int (Int32.ofNat x3)), some (.int x4), some (.int x5), some (.int x6), some (.int (zbi x7)), some (.int x8), some (.int x9), some (.int (Int32.ofNat x10)), some (.int (Int32.ofNat x11)), some (.int (Int32.ofNat (zln x1 x7 x3 x11))), some (.int (Int32.ofNat (zln x1 x7 x3 x11))), none, none] [.int ((Int32.ofNat (zln x1 x7 x3 x11)) + (1 : Int32)), .ref 76, .int (m (zln x1 x7 x3 x11)), .int x6, .int x5, .int (0 : Int32), .int (0 : Int32), .int x8, .ref 75] 5 (fun f => rfl) ?_
            obtain ⟨h21, H⟩ := H
            refine zW_iald rfl (by decide) rfl (by decide) (zN_a rfl rfl) h21 ?_
            refine zW_fg (L' := [some (.ref 75), some (.int (Int32.ofNat x1)), none, some (.int (Int32.ofNat x3)), some (.int x4), some (.int x5), some (.int x6), some (.int (zbi x7)), some (.int x8), some (.int x9), some (.int (Int32.ofNat x10)), some (.int (Int32.ofNat x11)), some (.int (Int32.ofNat (zln x1 x7 x3 x11))), none, none, none]) (zle_s _ (zle_s _ (zle_s _ (zle_s _ (zle_s _ (zle_s _ (zle_s _ (zle_s _ (zle_s _ (zle_s _ (zle_s _ (zle_s _ (zle_s _ (zle_n _ (zle_s _ (zle_s _ zle_nil)))))))))))))))) ?_
            exact zW_cl rfl rfl rfl rfl rfl H
          · have c9 : x10 = 1 := (by have c := (zcN_ne (a := x10) (b := 1) rfl rfl h1 (by decide)).symm.trans c; simpa using c)
            replace H := H.2 c9
            refine zW_gh 190 [some (.ref 75), some (.int (Int32.ofNat x1)), none, some (.int (Int32.ofNat x3)), some (.int x4), some (.int x5), some (.int x6), some (.int (zbi x7)), some (.int x8), some (.int x9), some (.int (Int32.ofNat x10)), some (.int (Int32.ofNat x11)), some (.int (Int32.ofNat (zln x1 x7 x3 x11))), some (.int (Int32.ofNat (zln x1 x7 x3 x11))), none, none] [.int ((Int32.ofNat (zln x1 x7 x3 x11)) + (1 : Int32)), .ref 76, .int (0 : Int32), .int x8, .ref 75] 5 (fun f => rfl) ?_
            obtain ⟨h22, H⟩ := H
            refine zW_iald rfl (by decide) rfl (by decide) (zN_a rfl rfl) h22 ?_
            refine zW_gh 205 [some (.ref 75), some (.int (Int32.ofNat x1)), none, some (.int (Int32.ofNat x3)), some (.int x4), some (.int x5), some (.int x6), some (.int (zbi x7)), some (.int x8), some (.int x9), some (.int (Int32.ofNat x10)), some (.int (Int32.ofNat x11)), some (.int (Int32.ofNat (zln x1 x7 x3 x11))), some (.int (Int32.ofNat (zln x1 x7 x3 x11))), none, none] [.int (Int32.ofNat (zln x1 x7 x3 x11)), .ref 76, .int x6, .int x5, .int (m ((zln x1 x7 x3 x11) + 1)), .int (0 : Int32), .int x8, .ref 75] 6 (fun f => rfl) ?_
            obtain ⟨h23, H⟩ := H
            refine zW_iald rfl (by decide) rfl (by decide) rfl h23 ?_
            refine zW_gh 214 [some (.ref 75), some (.int (Int32.ofNat x1)), none, some (.int (Int32.ofNat x3)), some (.int x4), some (.int x5), some (.int x6), some (.int (zbi x7)), some (.int x8), some (.int x9), some (.int (Int32.ofNat x10)), some (.int (Int32.ofNat x11)), some (.int (Int32.ofNat (zln x1 x7 x3 x11))), some (.int (Int32.ofNat (zln x1 x7 x3 x11))), none, none] [.int ((Int32.ofNat (zln x1 x7 x3 x11)) + (1 : Int32)), .ref 76, .int (m (zln x1 x7 x3 x11)), .int x6, .int x5, .int (m ((zln x1 x7 x3 x11) + 1)), .int (0 : Int32), .int x8, .ref 75] 5 (fun f => rfl) ?_
            refine zW_iald rfl (by decide) rfl (by decide) (zN_a rfl rfl) h22 ?_
            refine zW_fg (L' := [some (.ref 75), some (.int (Int32.ofNat x1)), none, some (.int (Int32.ofNat x3)), some (.int x4), some (.int x5), some (.int x6), some (.int (zbi x7)), some (.int x8), some (.int x9), some (.int (Int32.ofNat x10)), some (.int (Int32.ofNat x11)), some (.int (Int32.ofNat (zln x1 x7 x3 x11))), none, none, none]) (zle_s _ (zle_s _ (zle_s _ (zle_s _ (zle_s _ (zle_s _ (zle_s _ (zle_s _ (zle_s _ (zle_s _ (zle_s _ (zle_s _ (zle_s _ (zle_n _ (zle_s _ (zle_s _ zle_nil)))))))))))))))) ?_
            exact zW_cl rfl rfl rfl rfl rfl H
        · have c9 : x10 = 1 := (by have c := (zcN_ne (a := x10) (b := 1) rfl rfl h1 (by decide)).symm.trans c; simpa using c)
          replace H := H.2 c9
          refine zW_gh 171 [some (.ref 75), some (.int (Int32.ofNat x1)), none, some (.int (Int32.ofNat x3)), some (.int x4), some (.int x5), some (.int x6), some (.int (zbi x7)), some (.int x8), some (.int x9), some (.int (Int32.ofNat x10)), some (.int (Int32.ofNat x11)), some (.int (Int32.ofNat (zln x1 x7 x3 x11))), some (.int (Int32.ofNat (zln x1 x7 x3 x11))), none, none] [.int (Int32.ofNat (zln x1 x7 x3 x11)), .ref 76, .int x8, .ref 75] 3 (fun f => rfl) ?_
          obtain ⟨h25, H⟩ := H
          refine zW_iald rfl (by decide) rfl (by decide) rfl h25 ?_
          refine zW_bh (zcmp .ne (Int32.ofNat x10) (1 : Int32)) 194 182 [some (.ref 75), some (.int (Int32.ofNat x1)), none, some (.int (Int32.ofNat x3)), some (.int x4), some (.int x5), some (.int x6), some (.int (zbi x7)), some (.int x8), some (.int x9), some (.int (Int32.ofNat x10)), some (.int (Int32.ofNat x11)), some (.int (Int32.ofNat (zln x1 x7 x3 x11))), some (.int (Int32.ofNat (zln x1 x7 x3 x11))), none, none] [.int (m (zln x1 x7 x3 x11)), .int x8, .ref 75] 4 (fun f => rfl) (fun c => ?_) (fun c => ?_)
          · have c9 : ¬ x10 = 1 := (by have c := (zcN_ne (a := x10) (b := 1) rfl rfl h1 (by decide)).symm.trans c; simpa using c)
            replace H := H.1 c9
            refine zW_gh 205 [some (.ref 75), some (.int (Int32.ofNat x1)), none, some (.int (Int32.ofNat x3)), some (.int x4), some (.int x5), some (.int x6), some (.int (zbi x7)), some (.int x8), some (.int x9), some (.int (Int32.ofNat x10)), some (.int (Int32.ofNat x11)), some (.int (Int32.ofNat (zln x1 x7 x3 x11))), some (.int (Int32.ofNat (zln x1 x7 x3 x11))), none, none] [.int (Int32.ofNat (zln x1 x7 x3 x11)), .ref 76, .int x6, .int x5, .int (0 : Int32), .int (m (zln x1 x7 x3 x11)), .int x8, .ref 75] 6 (fun f => rfl) ?_
            refine zW_iald rfl (by decide) rfl (by decide) rfl h25 ?_
            refine zW_gh 214 [some (.ref 75), some (.int (Int32.ofNat x1)), none, some (.int (Int32.ofNat x3)), some (.int x4), some (.int x5), some (.int x6), some (.int (zbi x7)), some (.int x8), some (.int x9), some (.int (Int32.ofNat x10)), some (.int (Int32.ofNat x11)), some (.int (Int32.ofNat (zln x1 x7 x3 x11))), some (.int (Int32.ofNat (zln x1 x7 x3 x11))), none, none] [.int ((Int32.ofNat (zln x1 x7 x3 x11)) + (1 : Int32)), .ref 76, .int (m (zln x1 x7 x3 x11)), .int x6, .int x5, .int (0 : Int32), .int (m (zln x1 x7 x3 x11)), .int x8, .ref 75] 5 (fun f => rfl) ?_
            obtain ⟨h27, H⟩ := H
            refine zW_iald rfl (by decide) rfl (by decide) (zN_a rfl rfl) h27 ?_
            refine zW_fg (L' := [some (.ref 75), some (.int (Int32.ofNat x1)), none, some (.int (Int32.ofNat x3)), some (.int x4), some (.int x5), some (.int x6), some (.int (zbi x7)), some (.int x8), some (.int x9), some (.int (Int32.ofNat x10)), some (.int (Int32.ofNat x11)), some (.int (Int32.ofNat (zln x1 x7 x3 x11))), none, none, none]) (zle_s _ (zle_s _ (zle_s _ (zle_s _ (zle_s _ (zle_s _ (zle_s _ (zle_s _ (zle_s _ (zle_s _ (zle_s _ (zle_s _ (zle_s _ (zle_n _ (zle_s _ (zle_s _ zle_nil)))))))))))))))) ?_
            exact zW_cl rfl rfl rfl rfl rfl H
          · have c9 : x10 = 1 := (by have c := (zcN_ne (a := x10) (b := 1) rfl rfl h1 (by decide)).symm.trans c; simpa using c)
            replace H := H.2 c9
            refine zW_gh 190 [some (.ref 75), some (.int (Int32.ofNat x1)), none, some (.int (Int32.ofNat x3)), some (.int x4), some (.int x5), some (.int x6), some (.int (zbi x7)), some (.int x8), some (.int x9), some (.int (Int32.ofNat x10)), some (.int (Int32.ofNat x11)), some (.int (Int32.ofNat (zln x1 x7 x3 x11))), some (.int (Int32.ofNat (zln x1 x7 x3 x11))), none, none] [.int ((Int32.ofNat (zln x1 x7 x3 x11)) + (1 : Int32)), .ref 76, .int (m (zln x1 x7 x3 x11)), .int x8, .ref 75] 5 (fun f => rfl) ?_
            obtain ⟨h28, H⟩ := H
            refine zW_iald rfl (by decide) rfl (by decide) (zN_a rfl rfl) h28 ?_
            refine zW_gh 205 [some (.ref 75), some (.int (Int32.ofNat x1)), none, some (.int (Int32.ofNat x3)), some (.int x4), some (.int x5), some (.int x6), some (.int (zbi x7)), some (.int x8), some (.int x9), some (.int (Int32.ofNat x10)), some (.int (Int32.ofNat x11)), some (.int (Int32.ofNat (zln x1 x7 x3 x11))), some (.int (Int32.ofNat (zln x1 x7 x3 x11))), none, none] [.int (Int32.ofNat (zln x1 x7 x3 x11)), .ref 76, .int x6, .int x5, .int (m ((zln x1 x7 x3 x11) + 1)), .int (m (zln x1 x7 x3 x11)), .int x8, .ref 75] 6 (fun f => rfl) ?_
            refine zW_iald rfl (by decide) rfl (by decide) rfl h25 ?_
            refine zW_gh 214 [some (.ref 75), some (.int (Int32.ofNat x1)), none, some (.int (Int32.ofNat x3)), some (.int x4), some (.int x5), some (.int x6), some (.int (zbi x7)), some (.int x8), some (.int x9), some (.int (Int32.ofNat x10)), some (.int (Int32.ofNat x11)), some (.int (Int32.ofNat (zln x1 x7 x3 x11))), some (.int (Int32.ofNat (zln x1 x7 x3 x11))), none, none] [.int ((Int32.ofNat (zln x1 x7 x3 x11)) + (1 : Int32)), .ref 76, .int (m (zln x1 x7 x3 x11)), .int x6, .int x5, .int (m ((zln x1 x7 x3 x11) + 1)), .int (m (zln x1 x7 x3 x11)), .int x8, .ref 75] 5 (fun f => rfl) ?_
            refine zW_iald rfl (by decide) rfl (by decide) (zN_a rfl rfl) h28 ?_
            refine zW_fg (L' := [some (.ref 75), some (.int (Int32.ofNat x1)), none, some (.int (Int32.ofNat x3)), some (.int x4), some (.int x5), some (.int x6), some (.int (zbi x7)), some (.int x8), some (.int x9), some (.int (Int32.ofNat x10)), some (.int (Int32.ofNat x11)), some (.int (Int32.ofNat (zln x1 x7 x3 x11))), none, none, none]) (zle_s _ (zle_s _ (zle_s _ (zle_s _ (zle_s _ (zle_s _ (zle_s _ (zle_s _ (zle_s _ (zle_s _ (zle_s _ (zle_s _ (zle_s _ (zle_n _ (zle_s _ (zle_s _ zle_nil)))))))))))))))) ?_
            exact zW_cl rfl rfl rfl rfl rfl H
      · have c9 : x10 = 0 := (by have c := (zcN_ne (a := x10) (b := 0) rfl rfl h1 (by decide)).symm.trans c; simpa using c)
        replace H := H.2 c9
        refine zW_gh 107 [some (.ref 75), some (.int (Int32.ofNat x1)), none, some (.int (Int32.ofNat x3)), some (.int x4), some (.int x5), some (.int x6), some (.int (zbi x7)), some (.int x8), some (.int x9), some (.int (Int32.ofNat x10)), some (.int (Int32.ofNat x11)), some (.int (Int32.ofNat (zln x1 x7 x3 x11))), some (.int (Int32.ofNat (zln x1 x7 x3 x11))), none, none] [.int (Int32.ofNat (zln x1 x7 x3 x11)), .ref 76] 3 (fun f => rfl) ?_
        obtain ⟨h31, H⟩ := H
        refine zW_iald rfl (by decide) rfl (by decide) rfl h31 ?_
        refine zW_gh 118 [some (.ref 75), some (.int (Int32.ofNat x1)), none, some (.int (Int32.ofNat x3)), some (.int x4), some (.int x5), some (.int x6), some (.int (zbi x7)), some (.int x8), some (.int x9), some (.int (Int32.ofNat x10)), some (.int (Int32.ofNat x11)), some (.int (Int32.ofNat (zln x1 x7 x3 x11))), some (.int (Int32.ofNat (zln x1 x7 x3 x11))), some (.int (m (zln x1 x7 x3 x11))), none] [.int ((Int32.ofNat (zln x1 x7 x3 x11)) + (1 : Int32)), .ref 76] 6 (fun f => rfl) ?_
        obtain ⟨h32, H⟩ := H
        refine zW_iald rfl (by decide) rfl (by decide) (zN_a rfl rfl) h32 ?_
        refine zW_gh 130 [some (.ref 75), some (.int (Int32.ofNat x1)), none, some (.int (Int32.ofNat x3)), some (.int x4), some (.int x5), some (.int x6), some (.int (zbi x7)), some (.int x8), some (.int x9), some (.int (Int32.ofNat x10)), some (.int (Int32.ofNat x11)), some (.int (Int32.ofNat (zln x1 x7 x3 x11))), some (.int (Int32.ofNat (zln x1 x7 x3 x11))), some (.int (m (zln x1 x7 x3 x11))), some (.int (m ((zln x1 x7 x3 x11) + 1)))] [.int (Int32.ofNat (zln x1 x7 x3 x11)), .ref 76, .int (Int32.ofNat (zln x1 x7 x3 x11)), .ref 75] 6 (fun f => rfl) ?_
        refine zW_iald rfl (by decide) rfl (by decide) rfl h31 ?_
        refine zW_gh 139 [some (.ref 75), some (.int (Int32.ofNat x1)), none, some (.int (Int32.ofNat x3)), some (.int x4), some (.int x5), some (.int x6), some (.int (zbi x7)), some (.int x8), some (.int x9), some (.int (Int32.ofNat x10)), some (.int (Int32.ofNat x11)), some (.int (Int32.ofNat (zln x1 x7 x3 x11))), some (.int (Int32.ofNat (zln x1 x7 x3 x11))), some (.int (m (zln x1 x7 x3 x11))), some (.int (m ((zln x1 x7 x3 x11) + 1)))] [.int ((Int32.ofNat (zln x1 x7 x3 x11)) + (1 : Int32)), .ref 76, .int (m (zln x1 x7 x3 x11)), .int (Int32.ofNat (zln x1 x7 x3 x11)), .ref 75] 5 (fun f => rfl) ?_
        refine zW_iald rfl (by decide) rfl (by decide) (zN_a rfl rfl) h32 ?_
        obtain ⟨h35, H⟩ := H
        refine zW_cl rfl rfl rfl rfl rfl ((s152 rfl) h35 ?_)
        change zW zm_175 143 [some (.ref 75), some (.int (Int32.ofNat x1)), none, some (.int (Int32.ofNat x3)), some (.int x4), some (.int x5), some (.int x6), some (.int (zbi x7)), some (.int x8), some (.int x9), some (.int (Int32.ofNat x10)), some (.int (Int32.ofNat x11)), some (.int (Int32.ofNat (zln x1 x7 x3 x11))), some (.int (Int32.ofNat (zln x1 x7 x3 x11))), some (.int (m (zln x1 x7 x3 x11))), some (.int (m ((zln x1 x7 x3 x11) + 1)))] [] p _ Q
        refine zW_gh 150 [some (.ref 75), some (.int (Int32.ofNat x1)), none, some (.int (Int32.ofNat x3)), some (.int x4), some (.int x5), some (.int x6), some (.int (zbi x7)), some (.int x8), some (.int x9), some (.int (Int32.ofNat x10)), some (.int (Int32.ofNat x11)), some (.int (Int32.ofNat (zln x1 x7 x3 x11))), some (.int (Int32.ofNat (zln x1 x7 x3 x11))), some (.int (m (zln x1 x7 x3 x11))), some (.int (m ((zln x1 x7 x3 x11) + 1)))] [.int (m ((zln x1 x7 x3 x11) + 1)), .int (m (zln x1 x7 x3 x11)), .int (Int32.ofNat (zln x1 x7 x3 x11)), .ref 75] 4 (fun f => rfl) ?_
        obtain ⟨h36, H⟩ := H
        refine zW_cl rfl rfl rfl rfl rfl ((s152 rfl) h36 ?_)
        change zW zm_175 153 [some (.ref 75), some (.int (Int32.ofNat x1)), none, some (.int (Int32.ofNat x3)), some (.int x4), some (.int x5), some (.int x6), some (.int (zbi x7)), some (.int x8), some (.int x9), some (.int (Int32.ofNat x10)), some (.int (Int32.ofNat x11)), some (.int (Int32.ofNat (zln x1 x7 x3 x11))), some (.int (Int32.ofNat (zln x1 x7 x3 x11))), some (.int (m (zln x1 x7 x3 x11))), some (.int (m ((zln x1 x7 x3 x11) + 1)))] [] p _ Q
        refine zW_gh 232 [some (.ref 75), some (.int (Int32.ofNat x1)), none, some (.int (Int32.ofNat x3)), some (.int x4), some (.int x5), some (.int x6), some (.int (zbi x7)), some (.int x8), some (.int x9), some (.int (Int32.ofNat x10)), some (.int (Int32.ofNat x11)), some (.int (Int32.ofNat (zln x1 x7 x3 x11))), some (.int (Int32.ofNat (zln x1 x7 x3 x11))), some (.int (m (zln x1 x7 x3 x11))), some (.int (m ((zln x1 x7 x3 x11) + 1)))] [] 1 (fun f => rfl) ?_
        refine zW_inc [some (.ref 75), some (.int (Int32.ofNat x1)), none, some (.int (Int32.ofNat x3)), some (.int x4), some (.int x5), some (.int x6), some (.int (zbi x7)), some (.int x8), some (.int x9), some (.int (Int32.ofNat x10)), some (.int ((Int32.ofNat x11) + (1 : Int32))), some (.int (Int32.ofNat (zln x1 x7 x3 x11))), some (.int (Int32.ofNat (zln x1 x7 x3 x11))), some (.int (m (zln x1 x7 x3 x11))), some (.int (m ((zln x1 x7 x3 x11) + 1)))] rfl rfl rfl ?_
        rw [show ((Int32.ofNat x11) + (1 : Int32)) = Int32.ofNat (x11 + 1) from (zN_a rfl rfl)]
        refine zW_gh 56 [some (.ref 75), some (.int (Int32.ofNat x1)), none, some (.int (Int32.ofNat x3)), some (.int x4), some (.int x5), some (.int x6), some (.int (zbi x7)), some (.int x8), some (.int x9), some (.int (Int32.ofNat x10)), some (.int (Int32.ofNat (x11 + 1))), some (.int (Int32.ofNat (zln x1 x7 x3 x11))), some (.int (Int32.ofNat (zln x1 x7 x3 x11))), some (.int (m (zln x1 x7 x3 x11))), some (.int (m ((zln x1 x7 x3 x11) + 1)))] [] 1 (fun f => rfl) ?_
        refine zW_fg (L' := [some (.ref 75), some (.int (Int32.ofNat x1)), none, some (.int (Int32.ofNat x3)), some (.int x4), some (.int x5), some (.int x6), some (.int (zbi x7)), some (.int x8), some (.int x9), some (.int (Int32.ofNat x10)), some (.int (Int32.ofNat (x11 + 1))), none, none, none, none]) (zle_s _ (zle_s _ (zle_s _ (zle_s _ (zle_s _ (zle_s _ (zle_s _ (zle_s _ (zle_s _ (zle_s _ (zle_s _ (zle_s _ (zle_n _ (zle_n _ (zle_n _ (zle_n _ zle_nil)))))))))))))))) ?_
        exact H
set_option maxRecDepth 20000 in
theorem b175_218 {K : zKt} {code rf rs pr pn : Int32} {bad : Bool} {J : zJt} {m pa pb pc vf vs : Nat → Int32} {B : zBt} {w : Nat → Int64} {p : Nat × Nat} {Q : zR → zH → Prop} {x1 x3 x10 x11 x12 : Nat} {x4 x5 x6 x8 x9 : Int32} {x7 : Bool} (H : (x12 + 1 < 5340 ∧ zW zm_175 56 [some (.ref 75), some (.int (Int32.ofNat x1)), none, some (.int (Int32.ofNat x3)), some (.int x4), some (.int x5), some (.int x6), some (.int (zbi x7)), some (.int x8), some (.int x9), some (.int (Int32.ofNat x10)), some (.int (Int32.ofNat (x11 + 1))), none, none, none, none] [] p (zh K (code, rf, rs, bad, pr, pn, J) ((va_up (va_up m x12 rf) (x12 + 1) rs), pa, pb, pc, vf, vs, B) w) Q)) : zW zm_175 218 [some (.ref 75), some (.int (Int32.ofNat x1)), none, some (.int (Int32.ofNat x3)), some (.int x4), some (.int x5), some (.int x6), some (.int (zbi x7)), some (.int x8), some (.int x9), some (.int (Int32.ofNat x10)), some (.int (Int32.ofNat x11)), some (.int (Int32.ofNat x12)), none, none, none] [] p (zh K (code, rf, rs, bad, pr, pn, J) (m, pa, pb, pc, vf, vs, B) w) Q := by
  refine zW_gh 229 [some (.ref 75), some (.int (Int32.ofNat x1)), none, some (.int (Int32.ofNat x3)), some (.int x4), some (.int x5), some (.int x6), some (.int (zbi x7)), some (.int x8), some (.int x9), some (.int (Int32.ofNat x10)), some (.int (Int32.ofNat x11)), some (.int (Int32.ofNat x12)), none, none, none] [.int rs, .int rf, .int (Int32.ofNat x12), .ref 75] 6 (fun f => rfl) ?_
  obtain ⟨h1, H⟩ := H
  refine zW_cl rfl rfl rfl rfl rfl ((s152 rfl) h1 ?_)
  change zW zm_175 232 [some (.ref 75), some (.int (Int32.ofNat x1)), none, some (.int (Int32.ofNat x3)), some (.int x4), some (.int x5), some (.int x6), some (.int (zbi x7)), some (.int x8), some (.int x9), some (.int (Int32.ofNat x10)), some (.int (Int32.ofNat x11)), some (.int (Int32.ofNat x12)), none, none, none] [] p _ Q
  refine zW_inc [some (.ref 75), some (.int (Int32.ofNat x1)), none, some (.int (Int32.ofNat x3)), some (.int x4), some (.int x5), some (.int x6), some (.int (zbi x7)), some (.int x8), some (.int x9), some (.int (Int32.ofNat x10)), some (.int ((Int32.ofNat x11) + (1 : Int32))), some (.int (Int32.ofNat x12)), none, none, none] rfl rfl rfl ?_
  rw [show ((Int32.ofNat x11) + (1 : Int32)) = Int32.ofNat (x11 + 1) from (zN_a rfl rfl)]
  refine zW_gh 56 [some (.ref 75), some (.int (Int32.ofNat x1)), none, some (.int (Int32.ofNat x3)), some (.int x4), some (.int x5), some (.int x6), some (.int (zbi x7)), some (.int x8), some (.int x9), some (.int (Int32.ofNat x10)), some (.int (Int32.ofNat (x11 + 1))), some (.int (Int32.ofNat x12)), none, none, none] [] 1 (fun f => rfl) ?_
  refine zW_fg (L' := [some (.ref 75), some (.int (Int32.ofNat x1)), none, some (.int (Int32.ofNat x3)), some (.int x4), some (.int x5), some (.int x6), some (.int (zbi x7)), some (.int x8), some (.int x9), some (.int (Int32.ofNat x10)), some (.int (Int32.ofNat (x11 + 1))), none, none, none, none]) (zle_s _ (zle_s _ (zle_s _ (zle_s _ (zle_s _ (zle_s _ (zle_s _ (zle_s _ (zle_s _ (zle_s _ (zle_s _ (zle_s _ (zle_n _ (zle_s _ (zle_s _ (zle_s _ zle_nil)))))))))))))))) ?_
  exact H
set_option maxRecDepth 20000 in
theorem b174 {K : zKt} {code rf rs pr pn : Int32} {bad : Bool} {J : zJt} {m pa pb pc vf vs : Nat → Int32} {B : zBt} {w : Nat → Int64} {p : Nat × Nat} {Q : zR → zH → Prop} {a0 a1 a2 : Nat} {a3 a4 a5 : Int32} (H : ((bad = true → Q (.inl none) (zh K (code, rf, rs, true, pr, pn, J) (m, pa, pb, pc, vf, vs, B) w)) ∧ (bad = false → ((a0 + 3) < 5340 ∧ ((¬ (m (a0 + 3)) = (200 : Int32) → zT zm_175 [.ref 75, .int (Int32.ofNat a0), .int (Int32.ofNat a1), .int (Int32.ofNat a2), .int a3, .int a4, .int a5] p (zh K (code, rf, rs, false, pr, pn, J) (m, pa, pb, pc, vf, vs, B) w) (zK zm_174 51 [some (.ref 75), some (.int (Int32.ofNat a0)), some (.int (Int32.ofNat a1)), some (.int (Int32.ofNat a2)), some (.int a3), some (.int a4), some (.int a5), none] [] p Q)) ∧ ((m (a0 + 3)) = (200 : Int32) → Q (.inl none) (zh K (code, rf, rs, true, pr, pn, J) (m, pa, pb, pc, vf, vs, B) w))))))) : zT zm_174 [.ref 75, .int (Int32.ofNat a0), .int (Int32.ofNat a1), .int (Int32.ofNat a2), .int a3, .int a4, .int a5] p (zh K (code, rf, rs, bad, pr, pn, J) (m, pa, pb, pc, vf, vs, B) w) Q := by
  change zW zm_174 0 [some (.ref 75), some (.int (Int32.ofNat a0)), some (.int (Int32.ofNat a1)), some (.int (Int32.ofNat a2)), some (.int a3), some (.int a4), some (.int a5), none] [] p _ Q
  refine zW_bh (zcmp .ne (zbi bad) (0 : Int32)) 22 8 [some (.ref 75), some (.int (Int32.ofNat a0)), some (.int (Int32.ofNat a1)), some (.int (Int32.ofNat a2)), some (.int a3), some (.int a4), some (.int a5), none] [.ref 75] 4 (fun f => rfl) (fun c => ?_) (fun c => ?_)
  · have c9 : bad = true := ((zcB_ne _).symm.trans c)
    replace H := H.1 c9
    refine zW_gh 27 [some (.ref 75), some (.int (Int32.ofNat a0)), some (.int (Int32.ofNat a1)), some (.int (Int32.ofNat a2)), some (.int a3), some (.int a4), some (.int a5), none] [.int (1 : Int32), .ref 75] 2 (fun f => rfl) ?_
    refine zW_go (pc' := 30) (L' := [some (.ref 75), some (.int (Int32.ofNat a0)), some (.int (Int32.ofNat a1)), some (.int (Int32.ofNat a2)), some (.int a3), some (.int a4), some (.int a5), none]) (st' := []) (h' := (va_up (zh K (code, rf, rs, bad, pr, pn, J) (m, pa, pb, pc, vf, vs, B) w) 75 (.inr (7, zfl (code, rf, rs, true, pr, pn, J))))) 1 (fun f => rfl) ?_
    refine zW_eq zu_75 ?_
    refine zW_gh 37 [some (.ref 75), some (.int (Int32.ofNat a0)), some (.int (Int32.ofNat a1)), some (.int (Int32.ofNat a2)), some (.int a3), some (.int a4), some (.int a5), none] [] 3 (fun f => rfl) ?_
    exact zW_rh none 1 (fun f => rfl) H
  · have c9 : bad = false := ((zcB_ne _).symm.trans c)
    replace H := H.2 c9
    refine zW_gh 15 [some (.ref 75), some (.int (Int32.ofNat a0)), some (.int (Int32.ofNat a1)), some (.int (Int32.ofNat a2)), some (.int a3), some (.int a4), some (.int a5), none] [.int ((Int32.ofNat a0) + (3 : Int32)), .ref 76, .ref 75] 5 (fun f => rfl) ?_
    obtain ⟨h1, H⟩ := H
    refine zW_iald rfl (by decide) rfl (by decide) (zN_a rfl rfl) h1 ?_
    refine zW_bh (zcmp .ne (m (a0 + 3)) (200 : Int32)) 26 22 [some (.ref 75), some (.int (Int32.ofNat a0)), some (.int (Int32.ofNat a1)), some (.int (Int32.ofNat a2)), some (.int a3), some (.int a4), some (.int a5), none] [.ref 75] 2 (fun f => rfl) (fun c => ?_) (fun c => ?_)
    · have c9 : ¬ (m (a0 + 3)) = (200 : Int32) := (by simpa [zcmp] using c)
      replace H := H.1 c9
      refine zW_gh 27 [some (.ref 75), some (.int (Int32.ofNat a0)), some (.int (Int32.ofNat a1)), some (.int (Int32.ofNat a2)), some (.int a3), some (.int a4), some (.int a5), none] [.int (0 : Int32), .ref 75] 1 (fun f => rfl) ?_
      refine zW_go (pc' := 30) (L' := [some (.ref 75), some (.int (Int32.ofNat a0)), some (.int (Int32.ofNat a1)), some (.int (Int32.ofNat a2)), some (.int a3), some (.int a4), some (.int a5), none]) (st' := []) (h' := (va_up (zh K (code, rf, rs, bad, pr, pn, J) (m, pa, pb, pc, vf, vs, B) w) 75 (.inr (7, zfl (code, rf, rs, false, pr, pn, J))))) 1 (fun f => rfl) ?_
      refine zW_eq zu_75 ?_
      refine zW_gh 46 [some (.ref 75), some (.int (Int32.ofNat a0)), some (.int (Int32.ofNat a1)), some (.int (Int32.ofNat a2)), some (.int a3), some (.int a4), some (.int a5), none] [.int a4, .int a3, .int (Int32.ofNat a2), .int (Int32.ofNat a1), .int (Int32.ofNat a0), .ref 75] 9 (fun f => rfl) ?_
      refine zW_gh 48 [some (.ref 75), some (.int (Int32.ofNat a0)), some (.int (Int32.ofNat a1)), some (.int (Int32.ofNat a2)), some (.int a3), some (.int a4), some (.int a5), none] [.int a5, .int a4, .int a3, .int (Int32.ofNat a2), .int (Int32.ofNat a1), .int (Int32.ofNat a0), .ref 75] 1 (fun f => rfl) ?_
      exact zW_cl rfl rfl rfl rfl rfl H
    · have c9 : (m (a0 + 3)) = (200 : Int32) := (by simpa [zcmp] using c)
      replace H := H.2 c9
      refine zW_gh 27 [some (.ref 75), some (.int (Int32.ofNat a0)), some (.int (Int32.ofNat a1)), some (.int (Int32.ofNat a2)), some (.int a3), some (.int a4), some (.int a5), none] [.int (1 : Int32), .ref 75] 2 (fun f => rfl) ?_
      refine zW_go (pc' := 30) (L' := [some (.ref 75), some (.int (Int32.ofNat a0)), some (.int (Int32.ofNat a1)), some (.int (Int32.ofNat a2)), some (.int a3), some (.int a4), some (.int a5), none]) (st' := []) (h' := (va_up (zh K (code, rf, rs, bad, pr, pn, J) (m, pa, pb, pc, vf, vs, B) w) 75 (.inr (7, zfl (code, rf, rs, true, pr, pn, J))))) 1 (fun f => rfl) ?_
      refine zW_eq zu_75 ?_
      refine zW_gh 37 [some (.ref 75), some (.int (Int32.ofNat a0)), some (.int (Int32.ofNat a1)), some (.int (Int32.ofNat a2)), some (.int a3), some (.int a4), some (.int a5), none] [] 3 (fun f => rfl) ?_
      exact zW_rh none 1 (fun f => rfl) H
set_option maxRecDepth 20000 in
theorem b174_51 {K : zKt} {code rf rs pr pn : Int32} {bad : Bool} {J : zJt} {m pa pb pc vf vs : Nat → Int32} {B : zBt} {w : Nat → Int64} {p : Nat × Nat} {Q : zR → zH → Prop} {x1 x2 x3 : Nat} {x4 x5 x6 : Int32} (H : ((x1 + 3) < 5340 ∧ (∃ j2, (((Int32.ofNat x1) + (68 : Int32)) + ((5 : Int32) * (m (x1 + 3)))) = Int32.ofNat j2 ∧ (j2 < 5340 ∧ (∃ j4, ((((Int32.ofNat x1) + (68 : Int32)) + ((5 : Int32) * (m (x1 + 3)))) + (1 : Int32)) = Int32.ofNat j4 ∧ (j4 < 5340 ∧ (x2 < 2147483648 ∧ ((x2 % 3) < 2147483648 ∧ ((¬ (x2 % 3) = 2 → (∃ j8, ((((Int32.ofNat x1) + (68 : Int32)) + ((5 : Int32) * (m (x1 + 3)))) + (2 : Int32)) = Int32.ofNat j8 ∧ (j8 < 5340 ∧ ((¬ (x2 % 3) = 0 → (∃ j10, ((((Int32.ofNat x1) + (68 : Int32)) + ((5 : Int32) * (m (x1 + 3)))) + (3 : Int32)) = Int32.ofNat j10 ∧ (j10 < 5340 ∧ ((¬ (x2 % 3) = 0 → (∃ j12, ((((Int32.ofNat x1) + (68 : Int32)) + ((5 : Int32) * (m (x1 + 3)))) + (4 : Int32)) = Int32.ofNat j12 ∧ (j12 < 5340 ∧ Q (.inl none) (zh K (code, rf, rs, bad, pr, pn, J) ((va_up (va_up (va_up (va_up (va_up (va_up m j2 (Int32.ofNat x2)) j4 (Int32.ofNat x3)) j8 x4) j10 x5) j12 x6) (x1 + 3) (((va_up (va_up (va_up (va_up (va_up m j2 (Int32.ofNat x2)) j4 (Int32.ofNat x3)) j8 x4) j10 x5) j12 x6) (x1 + 3)) + (1 : Int32))), pa, pb, pc, vf, vs, B) w)))) ∧ ((x2 % 3) = 0 → (∃ j16, ((((Int32.ofNat x1) + (68 : Int32)) + ((5 : Int32) * (m (x1 + 3)))) + (4 : Int32)) = Int32.ofNat j16 ∧ (j16 < 5340 ∧ Q (.inl none) (zh K (code, rf, rs, bad, pr, pn, J) ((va_up (va_up (va_up (va_up (va_up (va_up m j2 (Int32.ofNat x2)) j4 (Int32.ofNat x3)) j8 x4) j10 x5) j16 (0 : Int32)) (x1 + 3) (((va_up (va_up (va_up (va_up (va_up m j2 (Int32.ofNat x2)) j4 (Int32.ofNat x3)) j8 x4) j10 x5) j16 (0 : Int32)) (x1 + 3)) + (1 : Int32))), pa, pb, pc, vf, vs, B) w)))))))) ∧ ((x2 % 3) = 0 → (∃ j20, ((((Int32.ofNat x1) + (68 : Int32)) + ((5 : Int32) * (m (x1 + 3)))) + (3 : Int32)) = Int32.ofNat j20 ∧ (j20 < 5340 ∧ ((¬ (x2 % 3) = 0 → (∃ j22, ((((Int32.ofNat x1) + (68 : Int32)) + ((5 : Int32) * (m (x1 + 3)))) + (4 : Int32)) = Int32.ofNat j22 ∧ (j22 < 5340 ∧ Q (.inl none) (zh K (code, rf, rs, bad, pr, pn, J) ((va_up (va_up (va_up (va_up (va_up (va_up m j2 (Int32.ofNat x2)) j4 (Int32.ofNat x3)) j8 x4) j20 (0 : Int32)) j22 x6) (x1 + 3) (((va_up (va_up (va_up (va_up (va_up m j2 (Int32.ofNat x2)) j4 (Int32.ofNat x3)) j8 x4) j20 (0 : Int32)) j22 x6) (x1 + 3)) + (1 : Int32))), pa, pb, pc, vf, vs, B) w)))) ∧ ((x2 % 3) = 0 → (∃ j26, ((((Int32.ofNat x1) + (68 : Int32)) + ((5 : Int32) * (m (x1 + 3)))) + (4 : Int32)) = Int32.ofNat j26 ∧ (j26 < 5340 ∧ Q (.inl none) (zh K (code, rf, rs, bad, pr, pn, J) ((va_up (va_up (va_up (va_up (va_up (va_up m j2 (Int32.ofNat x2)) j4 (Int32.ofNat x3)) j8 x4) j20 (0 : Int32)) j26 (0 : Int32)) (x1 + 3) (((va_up (va_up (va_up (va_up (va_up m j2 (Int32.ofNat x2)) j4 (Int32.ofNat x3)) j8 x4) j20 (0 : Int32)) j26 (0 : Int32)) (x1 + 3)) + (1 : Int32))), pa, pb, pc, vf, vs, B) w)))))))))))) ∧ ((x2 % 3) = 2 → (∃ j30, ((((Int32.ofNat x1) + (68 : Int32)) + ((5 : Int32) * (m (x1 + 3)))) + (2 : Int32)) = Int32.ofNat j30 ∧ (j30 < 5340 ∧ ((¬ (x2 % 3) = 0 → (∃ j32, ((((Int32.ofNat x1) + (68 : Int32)) + ((5 : Int32) * (m (x1 + 3)))) + (3 : Int32)) = Int32.ofNat j32 ∧ (j32 < 5340 ∧ ((¬ (x2 % 3) = 0 → (∃ j34, ((((Int32.ofNat x1) + (68 : Int32)) + ((5 : Int32) * (m (x1 + 3)))) + (4 : Int32)) = Int32.ofNat j34 ∧ (j34 < 5340 ∧ Q (.inl none) (zh K (code, rf, rs, bad, pr, pn, J) ((va_up (va_up (va_up (va_up (va_up (va_up m j2 (Int32.ofNat x2)) j4 (Int32.ofNat x3)) j30 (-1 : Int32)) j32 x5) j34 x6) (x1 + 3) (((va_up (va_up (va_up (va_up (va_up m j2 (Int32.ofNat x2)) j4 (Int32.ofNat x3)) j30 (-1 : Int32)) j32 x5) j34 x6) (x1 + 3)) + (1 : Int32))), pa, pb, pc, vf, vs, B) w)))) ∧ ((x2 % 3) = 0 → (∃ j38, ((((Int32.ofNat x1) + (68 : Int32)) + ((5 : Int32) * (m (x1 + 3)))) + (4 : Int32)) = Int32.ofNat j38 ∧ (j38 < 5340 ∧ Q (.inl none) (zh K (code, rf, rs, bad, pr, pn, J) ((va_up (va_up (va_up (va_up (va_up (va_up m j2 (Int32.ofNat x2)) j4 (Int32.ofNat x3)) j30 (-1 : Int32)) j32 x5) j38 (0 : Int32)) (x1 + 3) (((va_up (va_up (va_up (va_up (va_up m j2 (Int32.ofNat x2)) j4 (Int32.ofNat x3)) j30 (-1 : Int32)) j32 x5) j38 (0 : Int32)) (x1 + 3)) + (1 : Int32))), pa, pb, pc, vf, vs, B) w)))))))) ∧ ((x2 % 3) = 0 → (∃ j42, ((((Int32.ofNat x1) + (68 : Int32)) + ((5 : Int32) * (m (x1 + 3)))) + (3 : Int32)) = Int32.ofNat j42 ∧ (j42 < 5340 ∧ ((¬ (x2 % 3) = 0 → (∃ j44, ((((Int32.ofNat x1) + (68 : Int32)) + ((5 : Int32) * (m (x1 + 3)))) + (4 : Int32)) = Int32.ofNat j44 ∧ (j44 < 5340 ∧ Q (.inl none) (zh K (code, rf, rs, bad, pr, pn, J) ((va_up (va_up (va_up (va_up (va_up (va_up m j2 (Int32.ofNat x2)) j4 (Int32.ofNat x3)) j30 (-1 : Int32)) j42 (0 : Int32)) j44 x6) (x1 + 3) (((va_up (va_up (va_up (va_up (va_up m j2 (Int32.ofNat x2)) j4 (Int32.ofNat x3)) j30 (-1 : Int32)) j42 (0 : Int32)) j44 x6) (x1 + 3)) + (1 : Int32))), pa, pb, pc, vf, vs, B) w)))) ∧ ((x2 % 3) = 0 → (∃ j48, ((((Int32.ofNat x1) + (68 : Int32)) + ((5 : Int32) * (m (x1 + 3)))) + (4 : Int32)) = Int32.ofNat j48 ∧ (j48 < 5340 ∧ Q (.inl none) (zh K (code, rf, rs, bad, pr, pn, J) ((va_up (va_up (va_up (va_up (va_up (va_up m j2 (Int32.ofNat x2)) j4 (Int32.ofNat x3)) j30 (-1 : Int32)) j42 (0 : Int32)) j48 (0 : Int32)) (x1 + 3) (((va_up (va_up (va_up (va_up (va_up m j2 (Int32.ofNat x2)) j4 (Int32.ofNat x3)) j30 (-1 : Int32)) j42 (0 : Int32)) j48 (0 : Int32)) (x1 + 3)) + (1 : Int32))), pa, pb, pc, vf, vs, B) w))))))))))))))))))))) : zW zm_174 51 [some (.ref 75), some (.int (Int32.ofNat x1)), some (.int (Int32.ofNat x2)), some (.int (Int32.ofNat x3)), some (.int x4), some (.int x5), some (.int x6), none] [] p (zh K (code, rf, rs, bad, pr, pn, J) (m, pa, pb, pc, vf, vs, B) w) Q := by
  refine zW_gh 63 [some (.ref 75), some (.int (Int32.ofNat x1)), some (.int (Int32.ofNat x2)), some (.int (Int32.ofNat x3)), some (.int x4), some (.int x5), some (.int x6), none] [.int ((Int32.ofNat x1) + (3 : Int32)), .ref 76, .int (5 : Int32), .int ((Int32.ofNat x1) + (68 : Int32))] 9 (fun f => rfl) ?_
  obtain ⟨h1, H⟩ := H
  refine zW_iald rfl (by decide) rfl (by decide) (zN_a rfl rfl) h1 ?_
  refine zW_gh 75 [some (.ref 75), some (.int (Int32.ofNat x1)), some (.int (Int32.ofNat x2)), some (.int (Int32.ofNat x3)), some (.int x4), some (.int x5), some (.int x6), some (.int (((Int32.ofNat x1) + (68 : Int32)) + ((5 : Int32) * (m (x1 + 3)))))] [.int (Int32.ofNat x2), .int (((Int32.ofNat x1) + (68 : Int32)) + ((5 : Int32) * (m (x1 + 3)))), .ref 76] 7 (fun f => rfl) ?_
  obtain ⟨j2, e_j2, H⟩ := H
  obtain ⟨h3, H⟩ := H
  refine zW_iast rfl (by decide) rfl (by decide) zu_76 e_j2 h3 ?_
  refine zW_gh 85 [some (.ref 75), some (.int (Int32.ofNat x1)), some (.int (Int32.ofNat x2)), some (.int (Int32.ofNat x3)), some (.int x4), some (.int x5), some (.int x6), some (.int (((Int32.ofNat x1) + (68 : Int32)) + ((5 : Int32) * (m (x1 + 3)))))] [.int (Int32.ofNat x3), .int ((((Int32.ofNat x1) + (68 : Int32)) + ((5 : Int32) * (m (x1 + 3)))) + (1 : Int32)), .ref 76] 6 (fun f => rfl) ?_
  obtain ⟨j4, e_j4, H⟩ := H
  obtain ⟨h5, H⟩ := H
  refine zW_iast rfl (by decide) rfl (by decide) zu_76 e_j4 h5 ?_
  refine zW_gh 96 [some (.ref 75), some (.int (Int32.ofNat x1)), some (.int (Int32.ofNat x2)), some (.int (Int32.ofNat x3)), some (.int x4), some (.int x5), some (.int x6), some (.int (((Int32.ofNat x1) + (68 : Int32)) + ((5 : Int32) * (m (x1 + 3)))))] [.int (3 : Int32), .int (Int32.ofNat x2), .int ((((Int32.ofNat x1) + (68 : Int32)) + ((5 : Int32) * (m (x1 + 3)))) + (2 : Int32)), .ref 76] 7 (fun f => rfl) ?_
  obtain ⟨h6, H⟩ := H
  refine zW_irem rfl (by decide) ?_
  rw [show ((Int32.ofNat x2) - (Int32.ofNat x2) / (3 : Int32) * (3 : Int32)) = Int32.ofNat (x2 % 3) from (zN_r rfl rfl h6 (by decide))]
  obtain ⟨h7, H⟩ := H
  refine zW_bh (zcmp .ne (Int32.ofNat (x2 % 3)) (2 : Int32)) 105 101 [some (.ref 75), some (.int (Int32.ofNat x1)), some (.int (Int32.ofNat x2)), some (.int (Int32.ofNat x3)), some (.int x4), some (.int x5), some (.int x6), some (.int (((Int32.ofNat x1) + (68 : Int32)) + ((5 : Int32) * (m (x1 + 3)))))] [.int ((((Int32.ofNat x1) + (68 : Int32)) + ((5 : Int32) * (m (x1 + 3)))) + (2 : Int32)), .ref 76] 2 (fun f => rfl) (fun c => ?_) (fun c => ?_)
  · have c9 : ¬ (x2 % 3) = 2 := (by have c := (zcN_ne (a := (x2 % 3)) (b := 2) rfl rfl h7 (by decide)).symm.trans c; simpa using c)
    replace H := H.1 c9
    refine zW_gh 107 [some (.ref 75), some (.int (Int32.ofNat x1)), some (.int (Int32.ofNat x2)), some (.int (Int32.ofNat x3)), some (.int x4), some (.int x5), some (.int x6), some (.int (((Int32.ofNat x1) + (68 : Int32)) + ((5 : Int32) * (m (x1 + 3)))))] [.int x4, .int ((((Int32.ofNat x1) + (68 : Int32)) + ((5 : Int32) * (m (x1 + 3)))) + (2 : Int32)), .ref 76] 1 (fun f => rfl) ?_
    obtain ⟨j8, e_j8, H⟩ := H
    obtain ⟨h9, H⟩ := H
    refine zW_iast rfl (by decide) rfl (by decide) zu_76 e_j8 h9 ?_
    refine zW_gh 118 [some (.ref 75), some (.int (Int32.ofNat x1)), some (.int (Int32.ofNat x2)), some (.int (Int32.ofNat x3)), some (.int x4), some (.int x5), some (.int x6), some (.int (((Int32.ofNat x1) + (68 : Int32)) + ((5 : Int32) * (m (x1 + 3)))))] [.int (3 : Int32), .int (Int32.ofNat x2), .int ((((Int32.ofNat x1) + (68 : Int32)) + ((5 : Int32) * (m (x1 + 3)))) + (3 : Int32)), .ref 76] 7 (fun f => rfl) ?_
    refine zW_irem rfl (by decide) ?_
    rw [show ((Int32.ofNat x2) - (Int32.ofNat x2) / (3 : Int32) * (3 : Int32)) = Int32.ofNat (x2 % 3) from (zN_r rfl rfl h6 (by decide))]
    refine zW_bh (zcmp .ne (Int32.ofNat (x2 % 3)) (0 : Int32)) 126 122 [some (.ref 75), some (.int (Int32.ofNat x1)), some (.int (Int32.ofNat x2)), some (.int (Int32.ofNat x3)), some (.int x4), some (.int x5), some (.int x6), some (.int (((Int32.ofNat x1) + (68 : Int32)) + ((5 : Int32) * (m (x1 + 3)))))] [.int ((((Int32.ofNat x1) + (68 : Int32)) + ((5 : Int32) * (m (x1 + 3)))) + (3 : Int32)), .ref 76] 1 (fun f => rfl) (fun c => ?_) (fun c => ?_)
    · have c9 : ¬ (x2 % 3) = 0 := (by have c := (zcN_ne (a := (x2 % 3)) (b := 0) rfl rfl h7 (by decide)).symm.trans c; simpa using c)
      replace H := H.1 c9
      refine zW_gh 128 [some (.ref 75), some (.int (Int32.ofNat x1)), some (.int (Int32.ofNat x2)), some (.int (Int32.ofNat x3)), some (.int x4), some (.int x5), some (.int x6), some (.int (((Int32.ofNat x1) + (68 : Int32)) + ((5 : Int32) * (m (x1 + 3)))))] [.int x5, .int ((((Int32.ofNat x1) + (68 : Int32)) + ((5 : Int32) * (m (x1 + 3)))) + (3 : Int32)), .ref 76] 1 (fun f => rfl) ?_
      obtain ⟨j10, e_j10, H⟩ := H
      obtain ⟨h11, H⟩ := H
      refine zW_iast rfl (by decide) rfl (by decide) zu_76 e_j10 h11 ?_
      refine zW_gh 139 [some (.ref 75), some (.int (Int32.ofNat x1)), some (.int (Int32.ofNat x2)), some (.int (Int32.ofNat x3)), some (.int x4), some (.int x5), some (.int x6), some (.int (((Int32.ofNat x1) + (68 : Int32)) + ((5 : Int32) * (m (x1 + 3)))))] [.int (3 : Int32), .int (Int32.ofNat x2), .int ((((Int32.ofNat x1) + (68 : Int32)) + ((5 : Int32) * (m (x1 + 3)))) + (4 : Int32)), .ref 76] 7 (fun f => rfl) ?_
      refine zW_irem rfl (by decide) ?_
      rw [show ((Int32.ofNat x2) - (Int32.ofNat x2) / (3 : Int32) * (3 : Int32)) = Int32.ofNat (x2 % 3) from (zN_r rfl rfl h6 (by decide))]
      refine zW_bh (zcmp .ne (Int32.ofNat (x2 % 3)) (0 : Int32)) 147 143 [some (.ref 75), some (.int (Int32.ofNat x1)), some (.int (Int32.ofNat x2)), some (.int (Int32.ofNat x3)), some (.int x4), some (.int x5), some (.int x6), some (.int (((Int32.ofNat x1) + (68 : Int32)) + ((5 : Int32) * (m (x1 + 3)))))] [.int ((((Int32.ofNat x1) + (68 : Int32)) + ((5 : Int32) * (m (x1 + 3)))) + (4 : Int32)), .ref 76] 1 (fun f => rfl) (fun c => ?_) (fun c => ?_)
      · have c9 : ¬ (x2 % 3) = 0 := (by have c := (zcN_ne (a := (x2 % 3)) (b := 0) rfl rfl h7 (by decide)).symm.trans c; simpa using c)
        replace H := H.1 c9
        refine zW_gh 149 [some (.ref 75), some (.int (Int32.ofNat x1)), some (.int (Int32.ofNat x2)), some (.int (Int32.ofNat x3)), some (.int x4), some (.int x5), some (.int x6), some (.int (((Int32.ofNat x1) + (68 : Int32)) + ((5 : Int32) * (m (x1 + 3)))))] [.int x6, .int ((((Int32.ofNat x1) + (68 : Int32)) + ((5 : Int32) * (m (x1 + 3)))) + (4 : Int32)), .ref 76] 1 (fun f => rfl) ?_
        obtain ⟨j12, e_j12, H⟩ := H
        obtain ⟨h13, H⟩ := H
        refine zW_iast rfl (by decide) rfl (by decide) zu_76 e_j12 h13 ?_
        refine zW_gh 158 [some (.ref 75), some (.int (Int32.ofNat x1)), some (.int (Int32.ofNat x2)), some (.int (Int32.ofNat x3)), some (.int x4), some (.int x5), some (.int x6), some (.int (((Int32.ofNat x1) + (68 : Int32)) + ((5 : Int32) * (m (x1 + 3)))))] [.int ((Int32.ofNat x1) + (3 : Int32)), .ref 76, .int ((Int32.ofNat x1) + (3 : Int32)), .ref 76] 6 (fun f => rfl) ?_
        refine zW_iald rfl (by decide) rfl (by decide) (zN_a rfl rfl) h1 ?_
        refine zW_gh 161 [some (.ref 75), some (.int (Int32.ofNat x1)), some (.int (Int32.ofNat x2)), some (.int (Int32.ofNat x3)), some (.int x4), some (.int x5), some (.int x6), some (.int (((Int32.ofNat x1) + (68 : Int32)) + ((5 : Int32) * (m (x1 + 3)))))] [.int (((va_up (va_up (va_up (va_up (va_up m j2 (Int32.ofNat x2)) j4 (Int32.ofNat x3)) j8 x4) j10 x5) j12 x6) (x1 + 3)) + (1 : Int32)), .int ((Int32.ofNat x1) + (3 : Int32)), .ref 76] 2 (fun f => rfl) ?_
        refine zW_iast rfl (by decide) rfl (by decide) zu_76 (zN_a rfl rfl) h1 ?_
        exact zW_rh none 1 (fun f => rfl) H
      · have c9 : (x2 % 3) = 0 := (by have c := (zcN_ne (a := (x2 % 3)) (b := 0) rfl rfl h7 (by decide)).symm.trans c; simpa using c)
        replace H := H.2 c9
        refine zW_gh 149 [some (.ref 75), some (.int (Int32.ofNat x1)), some (.int (Int32.ofNat x2)), some (.int (Int32.ofNat x3)), some (.int x4), some (.int x5), some (.int x6), some (.int (((Int32.ofNat x1) + (68 : Int32)) + ((5 : Int32) * (m (x1 + 3)))))] [.int (0 : Int32), .int ((((Int32.ofNat x1) + (68 : Int32)) + ((5 : Int32) * (m (x1 + 3)))) + (4 : Int32)), .ref 76] 2 (fun f => rfl) ?_
        obtain ⟨j16, e_j16, H⟩ := H
        obtain ⟨h17, H⟩ := H
        refine zW_iast rfl (by decide) rfl (by decide) zu_76 e_j16 h17 ?_
        refine zW_gh 158 [some (.ref 75), some (.int (Int32.ofNat x1)), some (.int (Int32.ofNat x2)), some (.int (Int32.ofNat x3)), some (.int x4), some (.int x5), some (.int x6), some (.int (((Int32.ofNat x1) + (68 : Int32)) + ((5 : Int32) * (m (x1 + 3)))))] [.int ((Int32.ofNat x1) + (3 : Int32)), .ref 76, .int ((Int32.ofNat x1) + (3 : Int32)), .ref 76] 6 (fun f => rfl) ?_
        refine zW_iald rfl (by decide) rfl (by decide) (zN_a rfl rfl) h1 ?_
        refine zW_gh 161 [some (.ref 75), some (.int (Int32.ofNat x1)), some (.int (Int32.ofNat x2)), some (.int (Int32.ofNat x3)), some (.int x4), some (.int x5), some (.int x6), some (.int (((Int32.ofNat x1) + (68 : Int32)) + ((5 : Int32) * (m (x1 + 3)))))] [.int (((va_up (va_up (va_up (va_up (va_up m j2 (Int32.ofNat x2)) j4 (Int32.ofNat x3)) j8 x4) j10 x5) j16 (0 : Int32)) (x1 + 3)) + (1 : Int32)), .int ((Int32.ofNat x1) + (3 : Int32)), .ref 76] 2 (fun f => rfl) ?_
        refine zW_iast rfl (by decide) rfl (by decide) zu_76 (zN_a rfl rfl) h1 ?_
        exact zW_rh none 1 (fun f => rfl) H
    · have c9 : (x2 % 3) = 0 := (by have c := (zcN_ne (a := (x2 % 3)) (b := 0) rfl rfl h7 (by decide)).symm.trans c; simpa using c)
      replace H := H.2 c9
      refine zW_gh 128 [some (.ref 75), some (.int (Int32.ofNat x1)), some (.int (Int32.ofNat x2)), some (.int (Int32.ofNat x3)), some (.int x4), some (.int x5), some (.int x6), some (.int (((Int32.ofNat x1) + (68 : Int32)) + ((5 : Int32) * (m (x1 + 3)))))] [.int (0 : Int32), .int ((((Int32.ofNat x1) + (68 : Int32)) + ((5 : Int32) * (m (x1 + 3)))) + (3 : Int32)), .ref 76] 2 (fun f => rfl) ?_
      obtain ⟨j20, e_j20, H⟩ := H
      obtain ⟨h21, H⟩ := H
      refine zW_iast rfl (by decide) rfl (by decide) zu_76 e_j20 h21 ?_
      refine zW_gh 139 [some (.ref 75), some (.int (Int32.ofNat x1)), some (.int (Int32.ofNat x2)), some (.int (Int32.ofNat x3)), some (.int x4), some (.int x5), some (.int x6), some (.int (((Int32.ofNat x1) + (68 : Int32)) + ((5 : Int32) * (m (x1 + 3)))))] [.int (3 : Int32), .int (Int32.ofNat x2), .int ((((Int32.ofNat x1) + (68 : Int32)) + ((5 : Int32) * (m (x1 + 3)))) + (4 : Int32)), .ref 76] 7 (fun f => rfl) ?_
      refine zW_irem rfl (by decide) ?_
      rw [show ((Int32.ofNat x2) - (Int32.ofNat x2) / (3 : Int32) * (3 : Int32)) = Int32.ofNat (x2 % 3) from (zN_r rfl rfl h6 (by decide))]
      refine zW_bh (zcmp .ne (Int32.ofNat (x2 % 3)) (0 : Int32)) 147 143 [some (.ref 75), some (.int (Int32.ofNat x1)), some (.int (Int32.ofNat x2)), some (.int (Int32.ofNat x3)), some (.int x4), some (.int x5), some (.int x6), some (.int (((Int32.ofNat x1) + (68 : Int32)) + ((5 : Int32) * (m (x1 + 3)))))] [.int ((((Int32.ofNat x1) + (68 : Int32)) + ((5 : Int32) * (m (x1 + 3)))) + (4 : Int32)), .ref 76] 1 (fun f => rfl) (fun c => ?_) (fun c => ?_)
      · have c9 : ¬ (x2 % 3) = 0 := (by have c := (zcN_ne (a := (x2 % 3)) (b := 0) rfl rfl h7 (by decide)).symm.trans c; simpa using c)
        replace H := H.1 c9
        refine zW_gh 149 [some (.ref 75), some (.int (Int32.ofNat x1)), some (.int (Int32.ofNat x2)), some (.int (Int32.ofNat x3)), some (.int x4), some (.int x5), some (.int x6), some (.int (((Int32.ofNat x1) + (68 : Int32)) + ((5 : Int32) * (m (x1 + 3)))))] [.int x6, .int ((((Int32.ofNat x1) + (68 : Int32)) + ((5 : Int32) * (m (x1 + 3)))) + (4 : Int32)), .ref 76] 1 (fun f => rfl) ?_
        obtain ⟨j22, e_j22, H⟩ := H
        obtain ⟨h23, H⟩ := H
        refine zW_iast rfl (by decide) rfl (by decide) zu_76 e_j22 h23 ?_
        refine zW_gh 158 [some (.ref 75), some (.int (Int32.ofNat x1)), some (.int (Int32.ofNat x2)), some (.int (Int32.ofNat x3)), some (.int x4), some (.int x5), some (.int x6), some (.int (((Int32.ofNat x1) + (68 : Int32)) + ((5 : Int32) * (m (x1 + 3)))))] [.int ((Int32.ofNat x1) + (3 : Int32)), .ref 76, .int ((Int32.ofNat x1) + (3 : Int32)), .ref 76] 6 (fun f => rfl) ?_
        refine zW_iald rfl (by decide) rfl (by decide) (zN_a rfl rfl) h1 ?_
        refine zW_gh 161 [some (.ref 75), some (.int (Int32.ofNat x1)), some (.int (Int32.ofNat x2)), some (.int (Int32.ofNat x3)), some (.int x4), some (.int x5), some (.int x6), some (.int (((Int32.ofNat x1) + (68 : Int32)) + ((5 : Int32) * (m (x1 + 3)))))] [.int (((va_up (va_up (va_up (va_up (va_up m j2 (Int32.ofNat x2)) j4 (Int32.ofNat x3)) j8 x4) j20 (0 : Int32)) j22 x6) (x1 + 3)) + (1 : Int32)), .int ((Int32.ofNat x1) + (3 : Int32)), .ref 76] 2 (fun f => rfl) ?_
        refine zW_iast rfl (by decide) rfl (by decide) zu_76 (zN_a rfl rfl) h1 ?_
        exact zW_rh none 1 (fun f => rfl) H
      · have c9 : (x2 % 3) = 0 := (by have c := (zcN_ne (a := (x2 % 3)) (b := 0) rfl rfl h7 (by decide)).symm.trans c; simpa using c)
        replace H := H.2 c9
        refine zW_gh 149 [some (.ref 75), some (.int (Int32.ofNat x1)), some (.int (Int32.ofNat x2)), some (.int (Int32.ofNat x3)), some (.int x4), some (.int x5), some (.int x6), some (.int (((Int32.ofNat x1) + (68 : Int32)) + ((5 : Int32) * (m (x1 + 3)))))] [.int (0 : Int32), .int ((((Int32.ofNat x1) + (68 : Int32)) + ((5 : Int32) * (m (x1 + 3)))) + (4 : Int32)), .ref 76] 2 (fun f => rfl) ?_
        obtain ⟨j26, e_j26, H⟩ := H
        obtain ⟨h27, H⟩ := H
        refine zW_iast rfl (by decide) rfl (by decide) zu_76 e_j26 h27 ?_
        refine zW_gh 158 [some (.ref 75), some (.int (Int32.ofNat x1)), some (.int (Int32.ofNat x2)), some (.int (Int32.ofNat x3)), some (.int x4), some (.int x5), some (.int x6), some (.int (((Int32.ofNat x1) + (68 : Int32)) + ((5 : Int32) * (m (x1 + 3)))))] [.int ((Int32.ofNat x1) + (3 : Int32)), .ref 76, .int ((Int32.ofNat x1) + (3 : Int32)), .ref 76] 6 (fun f => rfl) ?_
        refine zW_iald rfl (by decide) rfl (by decide) (zN_a rfl rfl) h1 ?_
        refine zW_gh 161 [some (.ref 75), some (.int (Int32.ofNat x1)), some (.int (Int32.ofNat x2)), some (.int (Int32.ofNat x3)), some (.int x4), some (.int x5), some (.int x6), some (.int (((Int32.ofNat x1) + (68 : Int32)) + ((5 : Int32) * (m (x1 + 3)))))] [.int (((va_up (va_up (va_up (va_up (va_up m j2 (Int32.ofNat x2)) j4 (Int32.ofNat x3)) j8 x4) j20 (0 : Int32)) j26 (0 : Int32)) (x1 + 3)) + (1 : Int32)), .int ((Int32.ofNat x1) + (3 : Int32)), .ref 76] 2 (fun f => rfl) ?_
        refine zW_iast rfl (by decide) rfl (by decide) zu_76 (zN_a rfl rfl) h1 ?_
        exact zW_rh none 1 (fun f => rfl) H
  · have c9 : (x2 % 3) = 2 := (by have c := (zcN_ne (a := (x2 % 3)) (b := 2) rfl rfl h7 (by decide)).symm.trans c; simpa using c)
    replace H := H.2 c9
    refine zW_gh 107 [some (.ref 75), some (.int (Int32.ofNat x1)), some (.int (Int32.ofNat x2)), some (.int (Int32.ofNat x3)), some (.int x4), some (.int x5), some (.int x6), some (.int (((Int32.ofNat x1) + (68 : Int32)) + ((5 : Int32) * (m (x1 + 3)))))] [.int (-1 : Int32), .int ((((Int32.ofNat x1) + (68 : Int32)) + ((5 : Int32) * (m (x1 + 3)))) + (2 : Int32)), .ref 76] 2 (fun f => rfl) ?_
    obtain ⟨j30, e_j30, H⟩ := H
    obtain ⟨h31, H⟩ := H
    refine zW_iast rfl (by decide) rfl (by decide) zu_76 e_j30 h31 ?_
    refine zW_gh 118 [some (.ref 75), some (.int (Int32.ofNat x1)), some (.int (Int32.ofNat x2)), some (.int (Int32.ofNat x3)), some (.int x4), some (.int x5), some (.int x6), some (.int (((Int32.ofNat x1) + (68 : Int32)) + ((5 : Int32) * (m (x1 + 3)))))] [.int (3 : Int32), .int (Int32.ofNat x2), .int ((((Int32.ofNat x1) + (68 : Int32)) + ((5 : Int32) * (m (x1 + 3)))) + (3 : Int32)), .ref 76] 7 (fun f => rfl) ?_
    refine zW_irem rfl (by decide) ?_
    rw [show ((Int32.ofNat x2) - (Int32.ofNat x2) / (3 : Int32) * (3 : Int32)) = Int32.ofNat (x2 % 3) from (zN_r rfl rfl h6 (by decide))]
    refine zW_bh (zcmp .ne (Int32.ofNat (x2 % 3)) (0 : Int32)) 126 122 [some (.ref 75), some (.int (Int32.ofNat x1)), some (.int (Int32.ofNat x2)), some (.int (Int32.ofNat x3)), some (.int x4), some (.int x5), some (.int x6), some (.int (((Int32.ofNat x1) + (68 : Int32)) + ((5 : Int32) * (m (x1 + 3)))))] [.int ((((Int32.ofNat x1) + (68 : Int32)) + ((5 : Int32) * (m (x1 + 3)))) + (3 : Int32)), .ref 76] 1 (fun f => rfl) (fun c => ?_) (fun c => ?_)
    · have c9 : ¬ (x2 % 3) = 0 := (by have c := (zcN_ne (a := (x2 % 3)) (b := 0) rfl rfl h7 (by decide)).symm.trans c; simpa using c)
      replace H := H.1 c9
      refine zW_gh 128 [some (.ref 75), some (.int (Int32.ofNat x1)), some (.int (Int32.ofNat x2)), some (.int (Int32.ofNat x3)), some (.int x4), some (.int x5), some (.int x6), some (.int (((Int32.ofNat x1) + (68 : Int32)) + ((5 : Int32) * (m (x1 + 3)))))] [.int x5, .int ((((Int32.ofNat x1) + (68 : Int32)) + ((5 : Int32) * (m (x1 + 3)))) + (3 : Int32)), .ref 76] 1 (fun f => rfl) ?_
      obtain ⟨j32, e_j32, H⟩ := H
      obtain ⟨h33, H⟩ := H
      refine zW_iast rfl (by decide) rfl (by decide) zu_76 e_j32 h33 ?_
      refine zW_gh 139 [some (.ref 75), some (.int (Int32.ofNat x1)), some (.int (Int32.ofNat x2)), some (.int (Int32.ofNat x3)), some (.int x4), some (.int x5), some (.int x6), some (.int (((Int32.ofNat x1) + (68 : Int32)) + ((5 : Int32) * (m (x1 + 3)))))] [.int (3 : Int32), .int (Int32.ofNat x2), .int ((((Int32.ofNat x1) + (68 : Int32)) + ((5 : Int32) * (m (x1 + 3)))) + (4 : Int32)), .ref 76] 7 (fun f => rfl) ?_
      refine zW_irem rfl (by decide) ?_
      rw [show ((Int32.ofNat x2) - (Int32.ofNat x2) / (3 : Int32) * (3 : Int32)) = Int32.ofNat (x2 % 3) from (zN_r rfl rfl h6 (by decide))]
      refine zW_bh (zcmp .ne (Int32.ofNat (x2 % 3)) (0 : Int32)) 147 143 [some (.ref 75), some (.int (Int32.ofNat x1)), some (.int (Int32.ofNat x2)), some (.int (Int32.ofNat x3)), some (.int x4), some (.int x5), some (.int x6), some (.int (((Int32.ofNat x1) + (68 : Int32)) + ((5 : Int32) * (m (x1 + 3)))))] [.int ((((Int32.ofNat x1) + (68 : Int32)) + ((5 : Int32) * (m (x1 + 3)))) + (4 : Int32)), .ref 76] 1 (fun f => rfl) (fun c => ?_) (fun c => ?_)
      · have c9 : ¬ (x2 % 3) = 0 := (by have c := (zcN_ne (a := (x2 % 3)) (b := 0) rfl rfl h7 (by decide)).symm.trans c; simpa using c)
        replace H := H.1 c9
        refine zW_gh 149 [some (.ref 75), some (.int (Int32.ofNat x1)), some (.int (Int32.ofNat x2)), some (.int (Int32.ofNat x3)), some (.int x4), some (.int x5), some (.int x6), some (.int (((Int32.ofNat x1) + (68 : Int32)) + ((5 : Int32) * (m (x1 + 3)))))] [.int x6, .int ((((Int32.ofNat x1) + (68 : Int32)) + ((5 : Int32) * (m (x1 + 3)))) + (4 : Int32)), .ref 76] 1 (fun f => rfl) ?_
        obtain ⟨j34, e_j34, H⟩ := H
        obtain ⟨h35, H⟩ := H
        refine zW_iast rfl (by decide) rfl (by decide) zu_76 e_j34 h35 ?_
        refine zW_gh 158 [some (.ref 75), some (.int (Int32.ofNat x1)), some (.int (Int32.ofNat x2)), some (.int (Int32.ofNat x3)), some (.int x4), some (.int x5), some (.int x6), some (.int (((Int32.ofNat x1) + (68 : Int32)) + ((5 : Int32) * (m (x1 + 3)))))] [.int ((Int32.ofNat x1) + (3 : Int32)), .ref 76, .int ((Int32.ofNat x1) + (3 : Int32)), .ref 76] 6 (fun f => rfl) ?_
        refine zW_iald rfl (by decide) rfl (by decide) (zN_a rfl rfl) h1 ?_
        refine zW_gh 161 [some (.ref 75), some (.int (Int32.ofNat x1)), some (.int (Int32.ofNat x2)), some (.int (Int32.ofNat x3)), some (.int x4), some (.int x5), some (.int x6), some (.int (((Int32.ofNat x1) + (68 : Int32)) + ((5 : Int32) * (m (x1 + 3)))))] [.int (((va_up (va_up (va_up (va_up (va_up m j2 (Int32.ofNat x2)) j4 (Int32.ofNat x3)) j30 (-1 : Int32)) j32 x5) j34 x6) (x1 + 3)) + (1 : Int32)), .int ((Int32.ofNat x1) + (3 : Int32)), .ref 76] 2 (fun f => rfl) ?_
        refine zW_iast rfl (by decide) rfl (by decide) zu_76 (zN_a rfl rfl) h1 ?_
        exact zW_rh none 1 (fun f => rfl) H
      · have c9 : (x2 % 3) = 0 := (by have c := (zcN_ne (a := (x2 % 3)) (b := 0) rfl rfl h7 (by decide)).symm.trans c; simpa using c)
        replace H := H.2 c9
        refine zW_gh 149 [some (.ref 75), some (.int (Int32.ofNat x1)), some (.int (Int32.ofNat x2)), some (.int (Int32.ofNat x3)), some (.int x4), some (.int x5), some (.int x6), some (.int (((Int32.ofNat x1) + (68 : Int32)) + ((5 : Int32) * (m (x1 + 3)))))] [.int (0 : Int32), .int ((((Int32.ofNat x1) + (68 : Int32)) + ((5 : Int32) * (m (x1 + 3)))) + (4 : Int32)), .ref 76] 2 (fun f => rfl) ?_
        obtain ⟨j38, e_j38, H⟩ := H
        obtain ⟨h39, H⟩ := H
        refine zW_iast rfl (by decide) rfl (by decide) zu_76 e_j38 h39 ?_
        refine zW_gh 158 [some (.ref 75), some (.int (Int32.ofNat x1)), some (.int (Int32.ofNat x2)), some (.int (Int32.ofNat x3)), some (.int x4), some (.int x5), some (.int x6), some (.int (((Int32.ofNat x1) + (68 : Int32)) + ((5 : Int32) * (m (x1 + 3)))))] [.int ((Int32.ofNat x1) + (3 : Int32)), .ref 76, .int ((Int32.ofNat x1) + (3 : Int32)), .ref 76] 6 (fun f => rfl) ?_
        refine zW_iald rfl (by decide) rfl (by decide) (zN_a rfl rfl) h1 ?_
        refine zW_gh 161 [some (.ref 75), some (.int (Int32.ofNat x1)), some (.int (Int32.ofNat x2)), some (.int (Int32.ofNat x3)), some (.int x4), some (.int x5), some (.int x6), some (.int (((Int32.ofNat x1) + (68 : Int32)) + ((5 : Int32) * (m (x1 + 3)))))] [.int (((va_up (va_up (va_up (va_up (va_up m j2 (Int32.ofNat x2)) j4 (Int32.ofNat x3)) j30 (-1 : Int32)) j32 x5) j38 (0 : Int32)) (x1 + 3)) + (1 : Int32)), .int ((Int32.ofNat x1) + (3 : Int32)), .ref 76] 2 (fun f => rfl) ?_
        refine zW_iast rfl (by decide) rfl (by decide) zu_76 (zN_a rfl rfl) h1 ?_
        exact zW_rh none 1 (fun f => rfl) H
    · have c9 : (x2 % 3) = 0 := (by have c := (zcN_ne (a := (x2 % 3)) (b := 0) rfl rfl h7 (by decide)).symm.trans c; simpa using c)
      replace H := H.2 c9
      refine zW_gh 128 [some (.ref 75), some (.int (Int32.ofNat x1)), some (.int (Int32.ofNat x2)), some (.int (Int32.ofNat x3)), some (.int x4), some (.int x5), some (.int x6), some (.int (((Int32.ofNat x1) + (68 : Int32)) + ((5 : Int32) * (m (x1 + 3)))))] [.int (0 : Int32), .int ((((Int32.ofNat x1) + (68 : Int32)) + ((5 : Int32) * (m (x1 + 3)))) + (3 : Int32)), .ref 76] 2 (fun f => rfl) ?_
      obtain ⟨j42, e_j42, H⟩ := H
      obtain ⟨h43, H⟩ := H
      refine zW_iast rfl (by decide) rfl (by decide) zu_76 e_j42 h43 ?_
      refine zW_gh 139 [some (.ref 75), some (.int (Int32.ofNat x1)), some (.int (Int32.ofNat x2)), some (.int (Int32.ofNat x3)), some (.int x4), some (.int x5), some (.int x6), some (.int (((Int32.ofNat x1) + (68 : Int32)) + ((5 : Int32) * (m (x1 + 3)))))] [.int (3 : Int32), .int (Int32.ofNat x2), .int ((((Int32.ofNat x1) + (68 : Int32)) + ((5 : Int32) * (m (x1 + 3)))) + (4 : Int32)), .ref 76] 7 (fun f => rfl) ?_
      refine zW_irem rfl (by decide) ?_
      rw [show ((Int32.ofNat x2) - (Int32.ofNat x2) / (3 : Int32) * (3 : Int32)) = Int32.ofNat (x2 % 3) from (zN_r rfl rfl h6 (by decide))]
      refine zW_bh (zcmp .ne (Int32.ofNat (x2 % 3)) (0 : Int32)) 147 143 [some (.ref 75), some (.int (Int32.ofNat x1)), some (.int (Int32.ofNat x2)), some (.int (Int32.ofNat x3)), some (.int x4), some (.int x5), some (.int x6), some (.int (((Int32.ofNat x1) + (68 : Int32)) + ((5 : Int32) * (m (x1 + 3)))))] [.int ((((Int32.ofNat x1) + (68 : Int32)) + ((5 : Int32) * (m (x1 + 3)))) + (4 : Int32)), .ref 76] 1 (fun f => rfl) (fun c => ?_) (fun c => ?_)
      · have c9 : ¬ (x2 % 3) = 0 := (by have c := (zcN_ne (a := (x2 % 3)) (b := 0) rfl rfl h7 (by decide)).symm.trans c; simpa using c)
        replace H := H.1 c9
        refine zW_gh 149 [some (.ref 75), some (.int (Int32.ofNat x1)), some (.int (Int32.ofNat x2)), some (.int (Int32.ofNat x3)), some (.int x4), some (.int x5), some (.int x6), some (.int (((Int32.ofNat x1) + (68 : Int32)) + ((5 : Int32) * (m (x1 + 3)))))] [.int x6, .int ((((Int32.ofNat x1) + (68 : Int32)) + ((5 : Int32) * (m (x1 + 3)))) + (4 : Int32)), .ref 76] 1 (fun f => rfl) ?_
        obtain ⟨j44, e_j44, H⟩ := H
        obtain ⟨h45, H⟩ := H
        refine zW_iast rfl (by decide) rfl (by decide) zu_76 e_j44 h45 ?_
        refine zW_gh 158 [some (.ref 75), some (.int (Int32.ofNat x1)), some (.int (Int32.ofNat x2)), some (.int (Int32.ofNat x3)), some (.int x4), some (.int x5), some (.int x6), some (.int (((Int32.ofNat x1) + (68 : Int32)) + ((5 : Int32) * (m (x1 + 3)))))] [.int ((Int32.ofNat x1) + (3 : Int32)), .ref 76, .int ((Int32.ofNat x1) + (3 : Int32)), .ref 76] 6 (fun f => rfl) ?_
        refine zW_iald rfl (by decide) rfl (by decide) (zN_a rfl rfl) h1 ?_
        refine zW_gh 161 [some (.ref 75), some (.int (Int32.ofNat x1)), some (.int (Int32.ofNat x2)), some (.int (Int32.ofNat x3)), some (.int x4), some (.int x5), some (.int x6), some (.int (((Int32.ofNat x1) + (68 : Int32)) + ((5 : Int32) * (m (x1 + 3)))))] [.int (((va_up (va_up (va_up (va_up (va_up m j2 (Int32.ofNat x2)) j4 (Int32.ofNat x3)) j30 (-1 : Int32)) j42 (0 : Int32)) j44 x6) (x1 + 3)) + (1 : Int32)), .int ((Int32.ofNat x1) + (3 : Int32)), .ref 76] 2 (fun f => rfl) ?_
        refine zW_iast rfl (by decide) rfl (by decide) zu_76 (zN_a rfl rfl) h1 ?_
        exact zW_rh none 1 (fun f => rfl) H
      · have c9 : (x2 % 3) = 0 := (by have c := (zcN_ne (a := (x2 % 3)) (b := 0) rfl rfl h7 (by decide)).symm.trans c; simpa using c)
        replace H := H.2 c9
        refine zW_gh 149 [some (.ref 75), some (.int (Int32.ofNat x1)), some (.int (Int32.ofNat x2)), some (.int (Int32.ofNat x3)), some (.int x4), some (.int x5), some (.int x6), some (.int (((Int32.ofNat x1) + (68 : Int32)) + ((5 : Int32) * (m (x1 + 3)))))] [.int (0 : Int32), .int ((((Int32.ofNat x1) + (68 : Int32)) + ((5 : Int32) * (m (x1 + 3)))) + (4 : Int32)), .ref 76] 2 (fun f => rfl) ?_
        obtain ⟨j48, e_j48, H⟩ := H
        obtain ⟨h49, H⟩ := H
        refine zW_iast rfl (by decide) rfl (by decide) zu_76 e_j48 h49 ?_
        refine zW_gh 158 [some (.ref 75), some (.int (Int32.ofNat x1)), some (.int (Int32.ofNat x2)), some (.int (Int32.ofNat x3)), some (.int x4), some (.int x5), some (.int x6), some (.int (((Int32.ofNat x1) + (68 : Int32)) + ((5 : Int32) * (m (x1 + 3)))))] [.int ((Int32.ofNat x1) + (3 : Int32)), .ref 76, .int ((Int32.ofNat x1) + (3 : Int32)), .ref 76] 6 (fun f => rfl) ?_
        refine zW_iald rfl (by decide) rfl (by decide) (zN_a rfl rfl) h1 ?_
        refine zW_gh 161 [some (.ref 75), some (.int (Int32.ofNat x1)), some (.int (Int32.ofNat x2)), some (.int (Int32.ofNat x3)), some (.int x4), some (.int x5), some (.int x6), some (.int (((Int32.ofNat x1) + (68 : Int32)) + ((5 : Int32) * (m (x1 + 3)))))] [.int (((va_up (va_up (va_up (va_up (va_up m j2 (Int32.ofNat x2)) j4 (Int32.ofNat x3)) j30 (-1 : Int32)) j42 (0 : Int32)) j48 (0 : Int32)) (x1 + 3)) + (1 : Int32)), .int ((Int32.ofNat x1) + (3 : Int32)), .ref 76] 2 (fun f => rfl) ?_
        refine zW_iast rfl (by decide) rfl (by decide) zu_76 (zN_a rfl rfl) h1 ?_
        exact zW_rh none 1 (fun f => rfl) H
theorem b181 {K : zKt} {code rf rs pr pn : Int32} {bad : Bool} {J : zJt} {m pa pb pc vf vs : Nat → Int32} {B : zBt} {w : Nat → Int64} {p : Nat × Nat} {Q : zR → zH → Prop} {a0 a1 : Nat} (H : zW zm_181 2 [some (.ref 75), some (.int (Int32.ofNat a0)), some (.int (Int32.ofNat a1)), some (.int (Int32.ofNat 0)), none] [] p (zh K (code, rf, rs, bad, pr, pn, J) (m, pa, pb, pc, vf, vs, B) w) Q) : zT zm_181 [.ref 75, .int (Int32.ofNat a0), .int (Int32.ofNat a1)] p (zh K (code, rf, rs, bad, pr, pn, J) (m, pa, pb, pc, vf, vs, B) w) Q := by
  change zW zm_181 0 [some (.ref 75), some (.int (Int32.ofNat a0)), some (.int (Int32.ofNat a1)), none, none] [] p _ Q
  refine zW_gh 2 [some (.ref 75), some (.int (Int32.ofNat a0)), some (.int (Int32.ofNat a1)), some (.int (0 : Int32)), none] [] 2 (fun f => rfl) ?_
  exact H
theorem b181_2 {K : zKt} {code rf rs pr pn : Int32} {bad : Bool} {J : zJt} {m pa pb pc vf vs : Nat → Int32} {B : zBt} {w : Nat → Int64} {p : Nat × Nat} {Q : zR → zH → Prop} {x1 x2 x3 : Nat} (H : (x3 < 2147483648 ∧ ((32 ≤ x3 → zW zm_181 37 [some (.ref 75), some (.int (Int32.ofNat x1)), some (.int (Int32.ofNat x2)), some (.int (Int32.ofNat 0)), none] [] p (zh K (code, rf, rs, bad, pr, pn, J) (m, pa, pb, pc, vf, vs, B) w) Q) ∧ (x3 < 32 → (((x1 + 36) + x3) < 5340 ∧ (((x1 + 4) + x3) < 5340 ∧ zW zm_181 2 [some (.ref 75), some (.int (Int32.ofNat x1)), some (.int (Int32.ofNat x2)), some (.int (Int32.ofNat (x3 + 1))), none] [] p (zh K (code, rf, rs, bad, pr, pn, J) ((va_up m ((x1 + 4) + x3) (m ((x1 + 36) + x3))), pa, pb, pc, vf, vs, B) w) Q)))))) : zW zm_181 2 [some (.ref 75), some (.int (Int32.ofNat x1)), some (.int (Int32.ofNat x2)), some (.int (Int32.ofNat x3)), none] [] p (zh K (code, rf, rs, bad, pr, pn, J) (m, pa, pb, pc, vf, vs, B) w) Q := by
  obtain ⟨h1, H⟩ := H
  refine zW_bh (zcmp .ge (Int32.ofNat x3) (32 : Int32)) 35 8 [some (.ref 75), some (.int (Int32.ofNat x1)), some (.int (Int32.ofNat x2)), some (.int (Int32.ofNat x3)), none] [] 3 (fun f => rfl) (fun c => ?_) (fun c => ?_)
  · have c9 : 32 ≤ x3 := (of_decide_eq_true ((zcN_ge (a := x3) (b := 32) rfl rfl h1 (by decide)).symm.trans c))
    replace H := H.1 c9
    refine zW_gh 37 [some (.ref 75), some (.int (Int32.ofNat x1)), some (.int (Int32.ofNat x2)), some (.int (0 : Int32)), none] [] 2 (fun f => rfl) ?_
    exact H
  · have c9 : x3 < 32 := (Nat.lt_of_not_le (of_decide_eq_false ((zcN_ge (a := x3) (b := 32) rfl rfl h1 (by decide)).symm.trans c)))
    replace H := H.2 c9
    refine zW_gh 21 [some (.ref 75), some (.int (Int32.ofNat x1)), some (.int (Int32.ofNat x2)), some (.int (Int32.ofNat x3)), none] [.ref 76, .int (((Int32.ofNat x1) + (4 : Int32)) + (Int32.ofNat x3)), .ref 76] 9 (fun f => rfl) ?_
    refine zW_gh 27 [some (.ref 75), some (.int (Int32.ofNat x1)), some (.int (Int32.ofNat x2)), some (.int (Int32.ofNat x3)), none] [.int (((Int32.ofNat x1) + (36 : Int32)) + (Int32.ofNat x3)), .ref 76, .int (((Int32.ofNat x1) + (4 : Int32)) + (Int32.ofNat x3)), .ref 76] 5 (fun f => rfl) ?_
    obtain ⟨h2, H⟩ := H
    refine zW_iald rfl (by decide) rfl (by decide) (zN_a (zN_a rfl rfl) rfl) h2 ?_
    obtain ⟨h3, H⟩ := H
    refine zW_iast rfl (by decide) rfl (by decide) zu_76 (zN_a (zN_a rfl rfl) rfl) h3 ?_
    refine zW_inc [some (.ref 75), some (.int (Int32.ofNat x1)), some (.int (Int32.ofNat x2)), some (.int ((Int32.ofNat x3) + (1 : Int32))), none] rfl rfl rfl ?_
    rw [show ((Int32.ofNat x3) + (1 : Int32)) = Int32.ofNat (x3 + 1) from (zN_a rfl rfl)]
    refine zW_gh 2 [some (.ref 75), some (.int (Int32.ofNat x1)), some (.int (Int32.ofNat x2)), some (.int (Int32.ofNat (x3 + 1))), none] [] 1 (fun f => rfl) ?_
    exact H
theorem b181_37 {K : zKt} {code rf rs pr pn : Int32} {bad : Bool} {J : zJt} {m pa pb pc vf vs : Nat → Int32} {B : zBt} {w : Nat → Int64} {p : Nat × Nat} {Q : zR → zH → Prop} {x1 x2 x3 : Nat} (H : (x3 < 2147483648 ∧ (x2 < 2147483648 ∧ ((x2 ≤ x3 → Q (.inl none) (zh K (code, rf, rs, bad, pr, pn, J) (m, pa, pb, pc, vf, vs, B) w)) ∧ (x3 < x2 → (((x1 + 68) + (5 * x3)) < 5340 ∧ ((((x1 + 68) + (5 * x3)) + 1) < 5340 ∧ ((((x1 + 68) + (5 * x3)) + 2) < 5340 ∧ ((((x1 + 68) + (5 * x3)) + 3) < 5340 ∧ ((((x1 + 68) + (5 * x3)) + 4) < 5340 ∧ zT zm_175 [.ref 75, .int (Int32.ofNat x1), .int (m ((x1 + 68) + (5 * x3))), .int (m (((x1 + 68) + (5 * x3)) + 1)), .int (m (((x1 + 68) + (5 * x3)) + 2)), .int (m (((x1 + 68) + (5 * x3)) + 3)), .int (m (((x1 + 68) + (5 * x3)) + 4))] p (zh K (code, rf, rs, bad, pr, pn, J) (m, pa, pb, pc, vf, vs, B) w) (zK zm_181 100 [some (.ref 75), some (.int (Int32.ofNat x1)), some (.int (Int32.ofNat x2)), some (.int (Int32.ofNat x3)), none] [] p Q))))))))))) : zW zm_181 37 [some (.ref 75), some (.int (Int32.ofNat x1)), some (.int (Int32.ofNat x2)), some (.int (Int32.ofNat x3)), none] [] p (zh K (code, rf, rs, bad, pr, pn, J) (m, pa, pb, pc, vf, vs, B) w) Q := by
  obtain ⟨h1, H⟩ := H
  obtain ⟨h2, H⟩ := H
  refine zW_bh (zcmp .ge (Int32.ofNat x3) (Int32.ofNat x2)) 106 42 [some (.ref 75), some (.int (Int32.ofNat x1)), some (.int (Int32.ofNat x2)), some (.int (Int32.ofNat x3)), none] [] 3 (fun f => rfl) (fun c => ?_) (fun c => ?_)
  · have c9 : x2 ≤ x3 := (of_decide_eq_true ((zcN_ge (a := x3) (b := x2) rfl rfl h1 h2).symm.trans c))
    replace H := H.1 c9
    exact zW_rh none 1 (fun f => rfl) H
  · have c9 : x3 < x2 := (Nat.lt_of_not_le (of_decide_eq_false ((zcN_ge (a := x3) (b := x2) rfl rfl h1 h2).symm.trans c)))
    replace H := H.2 c9
    refine zW_gh 52 [some (.ref 75), some (.int (Int32.ofNat x1)), some (.int (Int32.ofNat x2)), some (.int (Int32.ofNat x3)), some (.int (((Int32.ofNat x1) + (68 : Int32)) + ((5 : Int32) * (Int32.ofNat x3))))] [] 8 (fun f => rfl) ?_
    rw [show (((Int32.ofNat x1) + (68 : Int32)) + ((5 : Int32) * (Int32.ofNat x3))) = Int32.ofNat ((x1 + 68) + (5 * x3)) from (zN_a (zN_a rfl rfl) (zN_m rfl rfl))]
    refine zW_gh 60 [some (.ref 75), some (.int (Int32.ofNat x1)), some (.int (Int32.ofNat x2)), some (.int (Int32.ofNat x3)), some (.int (Int32.ofNat ((x1 + 68) + (5 * x3))))] [.int (Int32.ofNat ((x1 + 68) + (5 * x3))), .ref 76, .int (Int32.ofNat x1), .ref 75] 5 (fun f => rfl) ?_
    obtain ⟨h3, H⟩ := H
    refine zW_iald rfl (by decide) rfl (by decide) rfl h3 ?_
    refine zW_gh 69 [some (.ref 75), some (.int (Int32.ofNat x1)), some (.int (Int32.ofNat x2)), some (.int (Int32.ofNat x3)), some (.int (Int32.ofNat ((x1 + 68) + (5 * x3))))] [.int ((Int32.ofNat ((x1 + 68) + (5 * x3))) + (1 : Int32)), .ref 76, .int (m ((x1 + 68) + (5 * x3))), .int (Int32.ofNat x1), .ref 75] 5 (fun f => rfl) ?_
    obtain ⟨h4, H⟩ := H
    refine zW_iald rfl (by decide) rfl (by decide) (zN_a rfl rfl) h4 ?_
    refine zW_gh 78 [some (.ref 75), some (.int (Int32.ofNat x1)), some (.int (Int32.ofNat x2)), some (.int (Int32.ofNat x3)), some (.int (Int32.ofNat ((x1 + 68) + (5 * x3))))] [.int ((Int32.ofNat ((x1 + 68) + (5 * x3))) + (2 : Int32)), .ref 76, .int (m (((x1 + 68) + (5 * x3)) + 1)), .int (m ((x1 + 68) + (5 * x3))), .int (Int32.ofNat x1), .ref 75] 5 (fun f => rfl) ?_
    obtain ⟨h5, H⟩ := H
    refine zW_iald rfl (by decide) rfl (by decide) (zN_a rfl rfl) h5 ?_
    refine zW_gh 87 [some (.ref 75), some (.int (Int32.ofNat x1)), some (.int (Int32.ofNat x2)), some (.int (Int32.ofNat x3)), some (.int (Int32.ofNat ((x1 + 68) + (5 * x3))))] [.int ((Int32.ofNat ((x1 + 68) + (5 * x3))) + (3 : Int32)), .ref 76, .int (m (((x1 + 68) + (5 * x3)) + 2)), .int (m (((x1 + 68) + (5 * x3)) + 1)), .int (m ((x1 + 68) + (5 * x3))), .int (Int32.ofNat x1), .ref 75] 5 (fun f => rfl) ?_
    obtain ⟨h6, H⟩ := H
    refine zW_iald rfl (by decide) rfl (by decide) (zN_a rfl rfl) h6 ?_
    refine zW_gh 96 [some (.ref 75), some (.int (Int32.ofNat x1)), some (.int (Int32.ofNat x2)), some (.int (Int32.ofNat x3)), some (.int (Int32.ofNat ((x1 + 68) + (5 * x3))))] [.int ((Int32.ofNat ((x1 + 68) + (5 * x3))) + (4 : Int32)), .ref 76, .int (m (((x1 + 68) + (5 * x3)) + 3)), .int (m (((x1 + 68) + (5 * x3)) + 2)), .int (m (((x1 + 68) + (5 * x3)) + 1)), .int (m ((x1 + 68) + (5 * x3))), .int (Int32.ofNat x1), .ref 75] 5 (fun f => rfl) ?_
    obtain ⟨h7, H⟩ := H
    refine zW_iald rfl (by decide) rfl (by decide) (zN_a rfl rfl) h7 ?_
    refine zW_fg (L' := [some (.ref 75), some (.int (Int32.ofNat x1)), some (.int (Int32.ofNat x2)), some (.int (Int32.ofNat x3)), none]) (zle_s _ (zle_s _ (zle_s _ (zle_s _ (zle_n _ zle_nil))))) ?_
    exact zW_cl rfl rfl rfl rfl rfl H
theorem b181_100 {K : zKt} {code rf rs pr pn : Int32} {bad : Bool} {J : zJt} {m pa pb pc vf vs : Nat → Int32} {B : zBt} {w : Nat → Int64} {p : Nat × Nat} {Q : zR → zH → Prop} {x1 x2 x3 : Nat} (H : zW zm_181 37 [some (.ref 75), some (.int (Int32.ofNat x1)), some (.int (Int32.ofNat x2)), some (.int (Int32.ofNat (x3 + 1))), none] [] p (zh K (code, rf, rs, bad, pr, pn, J) (m, pa, pb, pc, vf, vs, B) w) Q) : zW zm_181 100 [some (.ref 75), some (.int (Int32.ofNat x1)), some (.int (Int32.ofNat x2)), some (.int (Int32.ofNat x3)), none] [] p (zh K (code, rf, rs, bad, pr, pn, J) (m, pa, pb, pc, vf, vs, B) w) Q := by
  refine zW_inc [some (.ref 75), some (.int (Int32.ofNat x1)), some (.int (Int32.ofNat x2)), some (.int ((Int32.ofNat x3) + (1 : Int32))), none] rfl rfl rfl ?_
  rw [show ((Int32.ofNat x3) + (1 : Int32)) = Int32.ofNat (x3 + 1) from (zN_a rfl rfl)]
  refine zW_gh 37 [some (.ref 75), some (.int (Int32.ofNat x1)), some (.int (Int32.ofNat x2)), some (.int (Int32.ofNat (x3 + 1))), none] [] 1 (fun f => rfl) ?_
  exact H
theorem b162 {K : zKt} {code rf rs pr pn : Int32} {bad : Bool} {J : zJt} {m pa pb pc vf vs : Nat → Int32} {B : zBt} {w : Nat → Int64} {p : Nat × Nat} {Q : zR → zH → Prop} {a0 : Nat} {a1 a2 : Int32} (H : ((bad = false → zT zm_154 [.ref 75, .int (3204 : Int32), .int ((1068 : Int32) * (Int32.ofNat a0))] p (zh K (code, rf, rs, bad, pr, pn, J) (m, pa, pb, pc, vf, vs, B) w) (zK zm_162 25 [none, none, some (.int a1), none] [] p Q)) ∧ (bad = true → Q (.inl (some (.int (0 : Int32)))) (zh K (a2, rf, rs, bad, pr, pn, J) (m, pa, pb, pc, vf, vs, B) w)))) : zT zm_162 [.ref 75, .int (Int32.ofNat a0), .int a1, .int a2] p (zh K (code, rf, rs, bad, pr, pn, J) (m, pa, pb, pc, vf, vs, B) w) Q := by
  change zW zm_162 0 [some (.ref 75), some (.int (Int32.ofNat a0)), some (.int a1), some (.int a2)] [] p _ Q
  refine zW_bh (zcmp .eq (zbi bad) (0 : Int32)) 13 7 [some (.ref 75), some (.int (Int32.ofNat a0)), some (.int a1), some (.int a2)] [] 3 (fun f => rfl) (fun c => ?_) (fun c => ?_)
  · have c9 : bad = false := ((Bool.not_eq_true' _).mp ((zcB_eq _).symm.trans c))
    replace H := H.1 c9
    refine zW_gh 22 [some (.ref 75), some (.int (Int32.ofNat a0)), some (.int a1), some (.int a2)] [.int ((1068 : Int32) * (Int32.ofNat a0)), .int (3204 : Int32), .ref 75] 5 (fun f => rfl) ?_
    refine zW_fg (L' := [none, none, some (.int a1), none]) (zle_n _ (zle_n _ (zle_s _ (zle_n _ zle_nil)))) ?_
    exact zW_cl rfl rfl rfl rfl rfl H
  · have c9 : bad = true := ((Bool.not_eq_false' _).mp ((zcB_eq _).symm.trans c))
    replace H := H.2 c9
    refine zW_gh 9 [some (.ref 75), some (.int (Int32.ofNat a0)), some (.int a1), some (.int a2)] [.int a2, .ref 75] 2 (fun f => rfl) ?_
    refine zW_cl rfl rfl rfl rfl rfl (s142 ?_)
    change zW zm_162 12 [some (.ref 75), some (.int (Int32.ofNat a0)), some (.int a1), some (.int a2)] [.int (0 : Int32)] p _ Q
    exact zW_rh (some (.int (0 : Int32))) 1 (fun f => rfl) H
theorem b162_25 {K : zKt} {code rf rs pr pn : Int32} {bad : Bool} {J : zJt} {m pa pb pc vf vs : Nat → Int32} {B : zBt} {w : Nat → Int64} {p : Nat × Nat} {Q : zR → zH → Prop} {x2 : Int32} (H : Q (.inl (some (.int x2))) (zh K (code, rf, rs, bad, pr, pn, J) (m, pa, pb, pc, vf, vs, B) w)) : zW zm_162 25 [none, none, some (.int x2), none] [] p (zh K (code, rf, rs, bad, pr, pn, J) (m, pa, pb, pc, vf, vs, B) w) Q := by
  refine zW_gh 26 [none, none, some (.int x2), none] [.int x2] 1 (fun f => rfl) ?_
  exact zW_rh (some (.int x2)) 1 (fun f => rfl) H
theorem b173 {K : zKt} {code rf rs pr pn : Int32} {bad : Bool} {J : zJt} {m pa pb pc vf vs : Nat → Int32} {B : zBt} {w : Nat → Int64} {p : Nat × Nat} {Q : zR → zH → Prop} {a0 : Nat} (H : zT zm_154 [.ref 75, .int ((1068 : Int32) * (Int32.ofNat a0)), .int (3204 : Int32)] p (zh K (code, rf, rs, false, pr, pn, J) (m, pa, pb, pc, vf, vs, B) w) (zK zm_173 17 [none, none] [] p Q)) : zT zm_173 [.ref 75, .int (Int32.ofNat a0)] p (zh K (code, rf, rs, bad, pr, pn, J) (m, pa, pb, pc, vf, vs, B) w) Q := by
  change zW zm_173 0 [some (.ref 75), some (.int (Int32.ofNat a0))] [] p _ Q
  refine zW_gh 2 [some (.ref 75), some (.int (Int32.ofNat a0))] [.int (0 : Int32), .ref 75] 2 (fun f => rfl) ?_
  refine zW_go (pc' := 5) (L' := [some (.ref 75), some (.int (Int32.ofNat a0))]) (st' := []) (h' := (va_up (zh K (code, rf, rs, bad, pr, pn, J) (m, pa, pb, pc, vf, vs, B) w) 75 (.inr (7, zfl (code, rf, rs, false, pr, pn, J))))) 1 (fun f => rfl) ?_
  refine zW_eq zu_75 ?_
  refine zW_gh 14 [some (.ref 75), some (.int (Int32.ofNat a0))] [.int (3204 : Int32), .int ((1068 : Int32) * (Int32.ofNat a0)), .ref 75] 5 (fun f => rfl) ?_
  refine zW_fg (L' := [none, none]) (zle_n _ (zle_n _ zle_nil)) ?_
  exact zW_cl rfl rfl rfl rfl rfl H
theorem b173_17 {K : zKt} {code rf rs pr pn : Int32} {bad : Bool} {J : zJt} {m pa pb pc vf vs : Nat → Int32} {B : zBt} {w : Nat → Int64} {p : Nat × Nat} {Q : zR → zH → Prop} (H : Q (.inl none) (zh K (code, rf, rs, bad, pr, pn, J) (m, pa, pb, pc, vf, vs, B) w)) : zW zm_173 17 [none, none] [] p (zh K (code, rf, rs, bad, pr, pn, J) (m, pa, pb, pc, vf, vs, B) w) Q := by
  exact zW_rh none 1 (fun f => rfl) H
set_option maxRecDepth 20000 in
theorem b190 {K : zKt} {code rf rs pr pn : Int32} {bad : Bool} {J : zJt} {m pa pb pc vf vs : Nat → Int32} {B : zBt} {w : Nat → Int64} {p : Nat × Nat} {Q : zR → zH → Prop} {a0 a2 a3 a4 : Nat} {a1 : Bool} (H : ((bad = true → Q (.inl none) (zh K (code, rf, rs, bad, pr, pn, J) (m, pa, pb, pc, vf, vs, B) w)) ∧ (bad = false → ((zln a0 a1 a2 a4) < 5340 ∧ (((zln a0 a1 a2 a4) + 1) < 5340 ∧ (((zzr (m (zln a0 a1 a2 a4)) (m ((zln a0 a1 a2 a4) + 1))) = false → ((a0 + 0) < 5340 ∧ ((zln a0 a1 a3 a4) < 5340 ∧ (((zln a0 a1 a3 a4) + 1) < 5340 ∧ zT zm_191 [.ref 75, .int (m (a0 + 0)), .int (m (zln a0 a1 a2 a4)), .int (m ((zln a0 a1 a2 a4) + 1)), .int (m (zln a0 a1 a3 a4)), .int (m ((zln a0 a1 a3 a4) + 1))] p (zh K (code, rf, rs, bad, pr, pn, J) (m, pa, pb, pc, vf, vs, B) w) (zK zm_190 99 [some (.ref 75), some (.int (Int32.ofNat a0)), some (.int (zbi a1)), some (.int (Int32.ofNat a2)), some (.int (Int32.ofNat a3)), none, none, none, some (.int (m (a0 + 0)))] [] p Q))))) ∧ ((zzr (m (zln a0 a1 a2 a4)) (m ((zln a0 a1 a2 a4) + 1))) = true → Q (.inl none) (zh K (code, rf, rs, bad, pr, pn, J) (m, pa, pb, pc, vf, vs, B) w)))))))) : zT zm_190 [.ref 75, .int (Int32.ofNat a0), .int (zbi a1), .int (Int32.ofNat a2), .int (Int32.ofNat a3), .int (Int32.ofNat a4)] p (zh K (code, rf, rs, bad, pr, pn, J) (m, pa, pb, pc, vf, vs, B) w) Q := by
  change zW zm_190 0 [some (.ref 75), some (.int (Int32.ofNat a0)), some (.int (zbi a1)), some (.int (Int32.ofNat a2)), some (.int (Int32.ofNat a3)), some (.int (Int32.ofNat a4)), none, none, none] [] p _ Q
  refine zW_gh 5 [some (.ref 75), some (.int (Int32.ofNat a0)), some (.int (zbi a1)), some (.int (Int32.ofNat a2)), some (.int (Int32.ofNat a3)), some (.int (Int32.ofNat a4)), none, none, none] [.int (Int32.ofNat a4), .int (Int32.ofNat a2), .int (zbi a1), .int (Int32.ofNat a0)] 4 (fun f => rfl) ?_
  refine zW_cl rfl rfl rfl rfl rfl ((s176 (d := a1) rfl rfl rfl) ?_)
  change zW zm_190 8 [some (.ref 75), some (.int (Int32.ofNat a0)), some (.int (zbi a1)), some (.int (Int32.ofNat a2)), some (.int (Int32.ofNat a3)), some (.int (Int32.ofNat a4)), none, none, none] [.int (Int32.ofNat (zln a0 a1 a2 a4))] p _ Q
  refine zW_gh 16 [some (.ref 75), some (.int (Int32.ofNat a0)), some (.int (zbi a1)), some (.int (Int32.ofNat a2)), some (.int (Int32.ofNat a3)), some (.int (Int32.ofNat a4)), some (.int (Int32.ofNat (zln a0 a1 a2 a4))), none, none] [.int (Int32.ofNat a4), .int (Int32.ofNat a3), .int (zbi a1), .int (Int32.ofNat a0)] 5 (fun f => rfl) ?_
  refine zW_cl rfl rfl rfl rfl rfl ((s176 (d := a1) rfl rfl rfl) ?_)
  change zW zm_190 19 [some (.ref 75), some (.int (Int32.ofNat a0)), some (.int (zbi a1)), some (.int (Int32.ofNat a2)), some (.int (Int32.ofNat a3)), some (.int (Int32.ofNat a4)), some (.int (Int32.ofNat (zln a0 a1 a2 a4))), none, none] [.int (Int32.ofNat (zln a0 a1 a3 a4))] p _ Q
  refine zW_bh (zcmp .ne (zbi bad) (0 : Int32)) 50 28 [some (.ref 75), some (.int (Int32.ofNat a0)), some (.int (zbi a1)), some (.int (Int32.ofNat a2)), some (.int (Int32.ofNat a3)), some (.int (Int32.ofNat a4)), some (.int (Int32.ofNat (zln a0 a1 a2 a4))), some (.int (Int32.ofNat (zln a0 a1 a3 a4))), none] [] 4 (fun f => rfl) (fun c => ?_) (fun c => ?_)
  · have c9 : bad = true := ((zcB_ne _).symm.trans c)
    replace H := H.1 c9
    exact zW_rh none 1 (fun f => rfl) H
  · have c9 : bad = false := ((zcB_ne _).symm.trans c)
    replace H := H.2 c9
    refine zW_gh 34 [some (.ref 75), some (.int (Int32.ofNat a0)), some (.int (zbi a1)), some (.int (Int32.ofNat a2)), some (.int (Int32.ofNat a3)), some (.int (Int32.ofNat a4)), some (.int (Int32.ofNat (zln a0 a1 a2 a4))), some (.int (Int32.ofNat (zln a0 a1 a3 a4))), none] [.int (Int32.ofNat (zln a0 a1 a2 a4)), .ref 76] 3 (fun f => rfl) ?_
    obtain ⟨h1, H⟩ := H
    refine zW_iald rfl (by decide) rfl (by decide) rfl h1 ?_
    refine zW_gh 43 [some (.ref 75), some (.int (Int32.ofNat a0)), some (.int (zbi a1)), some (.int (Int32.ofNat a2)), some (.int (Int32.ofNat a3)), some (.int (Int32.ofNat a4)), some (.int (Int32.ofNat (zln a0 a1 a2 a4))), some (.int (Int32.ofNat (zln a0 a1 a3 a4))), none] [.int ((Int32.ofNat (zln a0 a1 a2 a4)) + (1 : Int32)), .ref 76, .int (m (zln a0 a1 a2 a4))] 5 (fun f => rfl) ?_
    obtain ⟨h2, H⟩ := H
    refine zW_iald rfl (by decide) rfl (by decide) (zN_a rfl rfl) h2 ?_
    refine zW_cl rfl rfl rfl rfl rfl (s186 ?_)
    change zW zm_190 47 [some (.ref 75), some (.int (Int32.ofNat a0)), some (.int (zbi a1)), some (.int (Int32.ofNat a2)), some (.int (Int32.ofNat a3)), some (.int (Int32.ofNat a4)), some (.int (Int32.ofNat (zln a0 a1 a2 a4))), some (.int (Int32.ofNat (zln a0 a1 a3 a4))), none] [.int (zbi (zzr (m (zln a0 a1 a2 a4)) (m ((zln a0 a1 a2 a4) + 1))))] p _ Q
    refine zW_bh (zcmp .eq (zbi (zzr (m (zln a0 a1 a2 a4)) (m ((zln a0 a1 a2 a4) + 1)))) (0 : Int32)) 51 50 [some (.ref 75), some (.int (Int32.ofNat a0)), some (.int (zbi a1)), some (.int (Int32.ofNat a2)), some (.int (Int32.ofNat a3)), some (.int (Int32.ofNat a4)), some (.int (Int32.ofNat (zln a0 a1 a2 a4))), some (.int (Int32.ofNat (zln a0 a1 a3 a4))), none] [] 1 (fun f => rfl) (fun c => ?_) (fun c => ?_)
    · have c9 : (zzr (m (zln a0 a1 a2 a4)) (m ((zln a0 a1 a2 a4) + 1))) = false := ((Bool.not_eq_true' _).mp ((zcB_eq _).symm.trans c))
      replace H := H.1 c9
      refine zW_gh 58 [some (.ref 75), some (.int (Int32.ofNat a0)), some (.int (zbi a1)), some (.int (Int32.ofNat a2)), some (.int (Int32.ofNat a3)), some (.int (Int32.ofNat a4)), some (.int (Int32.ofNat (zln a0 a1 a2 a4))), some (.int (Int32.ofNat (zln a0 a1 a3 a4))), none] [.int ((Int32.ofNat a0) + (0 : Int32)), .ref 76] 5 (fun f => rfl) ?_
      obtain ⟨h3, H⟩ := H
      refine zW_iald rfl (by decide) rfl (by decide) (zN_a rfl rfl) h3 ?_
      refine zW_gh 70 [some (.ref 75), some (.int (Int32.ofNat a0)), some (.int (zbi a1)), some (.int (Int32.ofNat a2)), some (.int (Int32.ofNat a3)), some (.int (Int32.ofNat a4)), some (.int (Int32.ofNat (zln a0 a1 a2 a4))), some (.int (Int32.ofNat (zln a0 a1 a3 a4))), some (.int (m (a0 + 0)))] [.int (Int32.ofNat (zln a0 a1 a2 a4)), .ref 76, .int (m (a0 + 0)), .ref 75] 6 (fun f => rfl) ?_
      refine zW_iald rfl (by decide) rfl (by decide) rfl h1 ?_
      refine zW_gh 79 [some (.ref 75), some (.int (Int32.ofNat a0)), some (.int (zbi a1)), some (.int (Int32.ofNat a2)), some (.int (Int32.ofNat a3)), some (.int (Int32.ofNat a4)), some (.int (Int32.ofNat (zln a0 a1 a2 a4))), some (.int (Int32.ofNat (zln a0 a1 a3 a4))), some (.int (m (a0 + 0)))] [.int ((Int32.ofNat (zln a0 a1 a2 a4)) + (1 : Int32)), .ref 76, .int (m (zln a0 a1 a2 a4)), .int (m (a0 + 0)), .ref 75] 5 (fun f => rfl) ?_
      refine zW_iald rfl (by decide) rfl (by decide) (zN_a rfl rfl) h2 ?_
      refine zW_gh 86 [some (.ref 75), some (.int (Int32.ofNat a0)), some (.int (zbi a1)), some (.int (Int32.ofNat a2)), some (.int (Int32.ofNat a3)), some (.int (Int32.ofNat a4)), some (.int (Int32.ofNat (zln a0 a1 a2 a4))), some (.int (Int32.ofNat (zln a0 a1 a3 a4))), some (.int (m (a0 + 0)))] [.int (Int32.ofNat (zln a0 a1 a3 a4)), .ref 76, .int (m ((zln a0 a1 a2 a4) + 1)), .int (m (zln a0 a1 a2 a4)), .int (m (a0 + 0)), .ref 75] 3 (fun f => rfl) ?_
      obtain ⟨h6, H⟩ := H
      refine zW_iald rfl (by decide) rfl (by decide) rfl h6 ?_
      refine zW_gh 95 [some (.ref 75), some (.int (Int32.ofNat a0)), some (.int (zbi a1)), some (.int (Int32.ofNat a2)), some (.int (Int32.ofNat a3)), some (.int (Int32.ofNat a4)), some (.int (Int32.ofNat (zln a0 a1 a2 a4))), some (.int (Int32.ofNat (zln a0 a1 a3 a4))), some (.int (m (a0 + 0)))] [.int ((Int32.ofNat (zln a0 a1 a3 a4)) + (1 : Int32)), .ref 76, .int (m (zln a0 a1 a3 a4)), .int (m ((zln a0 a1 a2 a4) + 1)), .int (m (zln a0 a1 a2 a4)), .int (m (a0 + 0)), .ref 75] 5 (fun f => rfl) ?_
      obtain ⟨h7, H⟩ := H
      refine zW_iald rfl (by decide) rfl (by decide) (zN_a rfl rfl) h7 ?_
      refine zW_fg (L' := [some (.ref 75), some (.int (Int32.ofNat a0)), some (.int (zbi a1)), some (.int (Int32.ofNat a2)), some (.int (Int32.ofNat a3)), none, none, none, some (.int (m (a0 + 0)))]) (zle_s _ (zle_s _ (zle_s _ (zle_s _ (zle_s _ (zle_n _ (zle_n _ (zle_n _ (zle_s _ zle_nil))))))))) ?_
      exact zW_cl rfl rfl rfl rfl rfl H
    · have c9 : (zzr (m (zln a0 a1 a2 a4)) (m ((zln a0 a1 a2 a4) + 1))) = true := ((Bool.not_eq_false' _).mp ((zcB_eq _).symm.trans c))
      replace H := H.2 c9
      exact zW_rh none 1 (fun f => rfl) H
set_option maxRecDepth 20000 in
theorem b190_99 {K : zKt} {code rf rs pr pn : Int32} {bad : Bool} {J : zJt} {m pa pb pc vf vs : Nat → Int32} {B : zBt} {w : Nat → Int64} {p : Nat × Nat} {Q : zR → zH → Prop} {x1 x3 x4 : Nat} {x8 : Int32} {x2 : Bool} (H : (((zzr rf rs) = false → zT zm_195 [.ref 75, .int x8, .int rf, .int rs] p (zh K (code, rf, rs, bad, pr, pn, J) (m, pa, pb, pc, vf, vs, B) w) (zK zm_190 138 [some (.ref 75), some (.int (Int32.ofNat x1)), some (.int (zbi x2)), some (.int (Int32.ofNat x3)), some (.int (Int32.ofNat x4)), none, none, none, none] [] p Q)) ∧ ((zzr rf rs) = true → ((x2 = true → zT zm_195 [.ref 75, .int x8, .int rf, .int rs] p (zh K (code, rf, rs, bad, pr, pn, J) (m, pa, pb, pc, vf, vs, B) w) (zK zm_190 138 [some (.ref 75), some (.int (Int32.ofNat x1)), some (.int (zbi x2)), some (.int (Int32.ofNat x3)), some (.int (Int32.ofNat x4)), none, none, none, none] [] p Q)) ∧ (x2 = false → (x3 < 2147483648 ∧ (x4 < 2147483648 ∧ ((x4 ≤ x3 → zT zm_195 [.ref 75, .int x8, .int rf, .int rs] p (zh K (code, rf, rs, bad, pr, pn, J) (m, pa, pb, pc, vf, vs, B) w) (zK zm_190 138 [some (.ref 75), some (.int (Int32.ofNat x1)), some (.int (zbi x2)), some (.int (Int32.ofNat x3)), some (.int (Int32.ofNat x4)), none, none, none, none] [] p Q)) ∧ (x3 < x4 → Q (.inl none) (zh K (code, rf, rs, bad, pr, pn, J) (m, pa, pb, pc, vf, vs, B) w)))))))))) : zW zm_190 99 [some (.ref 75), some (.int (Int32.ofNat x1)), some (.int (zbi x2)), some (.int (Int32.ofNat x3)), some (.int (Int32.ofNat x4)), none, none, none, some (.int x8)] [] p (zh K (code, rf, rs, bad, pr, pn, J) (m, pa, pb, pc, vf, vs, B) w) Q := by
  refine zW_gh 107 [some (.ref 75), some (.int (Int32.ofNat x1)), some (.int (zbi x2)), some (.int (Int32.ofNat x3)), some (.int (Int32.ofNat x4)), none, none, none, some (.int x8)] [.int rs, .int rf] 4 (fun f => rfl) ?_
  refine zW_cl rfl rfl rfl rfl rfl (s186 ?_)
  change zW zm_190 110 [some (.ref 75), some (.int (Int32.ofNat x1)), some (.int (zbi x2)), some (.int (Int32.ofNat x3)), some (.int (Int32.ofNat x4)), none, none, none, some (.int x8)] [.int (zbi (zzr rf rs))] p _ Q
  refine zW_bh (zcmp .eq (zbi (zzr rf rs)) (0 : Int32)) 124 113 [some (.ref 75), some (.int (Int32.ofNat x1)), some (.int (zbi x2)), some (.int (Int32.ofNat x3)), some (.int (Int32.ofNat x4)), none, none, none, some (.int x8)] [] 1 (fun f => rfl) (fun c => ?_) (fun c => ?_)
  · have c9 : (zzr rf rs) = false := ((Bool.not_eq_true' _).mp ((zcB_eq _).symm.trans c))
    replace H := H.1 c9
    refine zW_gh 135 [some (.ref 75), some (.int (Int32.ofNat x1)), some (.int (zbi x2)), some (.int (Int32.ofNat x3)), some (.int (Int32.ofNat x4)), none, none, none, some (.int x8)] [.int rs, .int rf, .int x8, .ref 75] 6 (fun f => rfl) ?_
    refine zW_fg (L' := [some (.ref 75), some (.int (Int32.ofNat x1)), some (.int (zbi x2)), some (.int (Int32.ofNat x3)), some (.int (Int32.ofNat x4)), none, none, none, none]) (zle_s _ (zle_s _ (zle_s _ (zle_s _ (zle_s _ (zle_s _ (zle_s _ (zle_s _ (zle_n _ zle_nil))))))))) ?_
    exact zW_cl rfl rfl rfl rfl rfl H
  · have c9 : (zzr rf rs) = true := ((Bool.not_eq_false' _).mp ((zcB_eq _).symm.trans c))
    replace H := H.2 c9
    refine zW_bh (zcmp .ne (zbi x2) (0 : Int32)) 124 117 [some (.ref 75), some (.int (Int32.ofNat x1)), some (.int (zbi x2)), some (.int (Int32.ofNat x3)), some (.int (Int32.ofNat x4)), none, none, none, some (.int x8)] [] 2 (fun f => rfl) (fun c => ?_) (fun c => ?_)
    · have c9 : x2 = true := ((zcB_ne _).symm.trans c)
      replace H := H.1 c9
      refine zW_gh 135 [some (.ref 75), some (.int (Int32.ofNat x1)), some (.int (zbi x2)), some (.int (Int32.ofNat x3)), some (.int (Int32.ofNat x4)), none, none, none, some (.int x8)] [.int rs, .int rf, .int x8, .ref 75] 6 (fun f => rfl) ?_
      refine zW_fg (L' := [some (.ref 75), some (.int (Int32.ofNat x1)), some (.int (zbi x2)), some (.int (Int32.ofNat x3)), some (.int (Int32.ofNat x4)), none, none, none, none]) (zle_s _ (zle_s _ (zle_s _ (zle_s _ (zle_s _ (zle_s _ (zle_s _ (zle_s _ (zle_n _ zle_nil))))))))) ?_
      exact zW_cl rfl rfl rfl rfl rfl H
    · have c9 : x2 = false := ((zcB_ne _).symm.trans c)
      replace H := H.2 c9
      obtain ⟨h1, H⟩ := H
      obtain ⟨h2, H⟩ := H
      refine zW_bh (zcmp .ge (Int32.ofNat x3) (Int32.ofNat x4)) 124 123 [some (.ref 75), some (.int (Int32.ofNat x1)), some (.int (zbi x2)), some (.int (Int32.ofNat x3)), some (.int (Int32.ofNat x4)), none, none, none, some (.int x8)] [] 3 (fun f => rfl) (fun c => ?_) (fun c => ?_)
      · have c9 : x4 ≤ x3 := (of_decide_eq_true ((zcN_ge (a := x3) (b := x4) rfl rfl h1 h2).symm.trans c))
        replace H := H.1 c9
        refine zW_gh 135 [some (.ref 75), some (.int (Int32.ofNat x1)), some (.int (zbi x2)), some (.int (Int32.ofNat x3)), some (.int (Int32.ofNat x4)), none, none, none, some (.int x8)] [.int rs, .int rf, .int x8, .ref 75] 6 (fun f => rfl) ?_
        refine zW_fg (L' := [some (.ref 75), some (.int (Int32.ofNat x1)), some (.int (zbi x2)), some (.int (Int32.ofNat x3)), some (.int (Int32.ofNat x4)), none, none, none, none]) (zle_s _ (zle_s _ (zle_s _ (zle_s _ (zle_s _ (zle_s _ (zle_s _ (zle_s _ (zle_n _ zle_nil))))))))) ?_
        exact zW_cl rfl rfl rfl rfl rfl H
      · have c9 : x3 < x4 := (Nat.lt_of_not_le (of_decide_eq_false ((zcN_ge (a := x3) (b := x4) rfl rfl h1 h2).symm.trans c)))
        replace H := H.2 c9
        exact zW_rh none 1 (fun f => rfl) H
set_option maxRecDepth 20000 in
theorem b190_138 {K : zKt} {code rf rs pr pn : Int32} {bad : Bool} {J : zJt} {m pa pb pc vf vs : Nat → Int32} {B : zBt} {w : Nat → Int64} {p : Nat × Nat} {Q : zR → zH → Prop} {x1 x3 x4 : Nat} {x2 : Bool} (H : ((x2 = false → zT zm_174 [.ref 75, .int (Int32.ofNat x1), .int (1 : Int32), .int (Int32.ofNat x3), .int (Int32.ofNat x4), .int rf, .int rs] p (zh K (code, rf, rs, bad, pr, pn, J) (m, pa, pb, pc, vf, vs, B) w) (zK zm_190 163 [none, none, none, none, none, none, none, none, none] [] p Q)) ∧ (x2 = true → zT zm_174 [.ref 75, .int (Int32.ofNat x1), .int (4 : Int32), .int (Int32.ofNat x3), .int (Int32.ofNat x4), .int rf, .int rs] p (zh K (code, rf, rs, bad, pr, pn, J) (m, pa, pb, pc, vf, vs, B) w) (zK zm_190 163 [none, none, none, none, none, none, none, none, none] [] p Q)))) : zW zm_190 138 [some (.ref 75), some (.int (Int32.ofNat x1)), some (.int (zbi x2)), some (.int (Int32.ofNat x3)), some (.int (Int32.ofNat x4)), none, none, none, none] [] p (zh K (code, rf, rs, bad, pr, pn, J) (m, pa, pb, pc, vf, vs, B) w) Q := by
  refine zW_bh (zcmp .eq (zbi x2) (0 : Int32)) 148 144 [some (.ref 75), some (.int (Int32.ofNat x1)), some (.int (zbi x2)), some (.int (Int32.ofNat x3)), some (.int (Int32.ofNat x4)), none, none, none, none] [.int (Int32.ofNat x1), .ref 75] 4 (fun f => rfl) (fun c => ?_) (fun c => ?_)
  · have c9 : x2 = false := ((Bool.not_eq_true' _).mp ((zcB_eq _).symm.trans c))
    replace H := H.1 c9
    refine zW_gh 160 [some (.ref 75), some (.int (Int32.ofNat x1)), some (.int (zbi x2)), some (.int (Int32.ofNat x3)), some (.int (Int32.ofNat x4)), none, none, none, none] [.int rs, .int rf, .int (Int32.ofNat x4), .int (Int32.ofNat x3), .int (1 : Int32), .int (Int32.ofNat x1), .ref 75] 7 (fun f => rfl) ?_
    refine zW_fg (L' := [none, none, none, none, none, none, none, none, none]) (zle_n _ (zle_n _ (zle_n _ (zle_n _ (zle_n _ (zle_s _ (zle_s _ (zle_s _ (zle_s _ zle_nil))))))))) ?_
    exact zW_cl rfl rfl rfl rfl rfl H
  · have c9 : x2 = true := ((Bool.not_eq_false' _).mp ((zcB_eq _).symm.trans c))
    replace H := H.2 c9
    refine zW_gh 160 [some (.ref 75), some (.int (Int32.ofNat x1)), some (.int (zbi x2)), some (.int (Int32.ofNat x3)), some (.int (Int32.ofNat x4)), none, none, none, none] [.int rs, .int rf, .int (Int32.ofNat x4), .int (Int32.ofNat x3), .int (4 : Int32), .int (Int32.ofNat x1), .ref 75] 8 (fun f => rfl) ?_
    refine zW_fg (L' := [none, none, none, none, none, none, none, none, none]) (zle_n _ (zle_n _ (zle_n _ (zle_n _ (zle_n _ (zle_s _ (zle_s _ (zle_s _ (zle_s _ zle_nil))))))))) ?_
    exact zW_cl rfl rfl rfl rfl rfl H
set_option maxRecDepth 20000 in
theorem b190_163 {K : zKt} {code rf rs pr pn : Int32} {bad : Bool} {J : zJt} {m pa pb pc vf vs : Nat → Int32} {B : zBt} {w : Nat → Int64} {p : Nat × Nat} {Q : zR → zH → Prop} (H : Q (.inl none) (zh K (code, rf, rs, bad, pr, pn, J) (m, pa, pb, pc, vf, vs, B) w)) : zW zm_190 163 [none, none, none, none, none, none, none, none, none] [] p (zh K (code, rf, rs, bad, pr, pn, J) (m, pa, pb, pc, vf, vs, B) w) Q := by
  exact zW_rh none 1 (fun f => rfl) H
theorem b185 {K : zKt} {code rf rs pr pn : Int32} {bad : Bool} {J : zJt} {m pa pb pc vf vs : Nat → Int32} {B : zBt} {w : Nat → Int64} {p : Nat × Nat} {Q : zR → zH → Prop} {a0 a2 a3 : Nat} {a1 : Bool} (H : ((a1 = false → ((a0 + 1) < 5340 ∧ zW zm_185 31 [some (.ref 75), some (.int (Int32.ofNat a0)), some (.int (zbi a1)), none, some (.int (Int32.ofNat a3)), some (.int (m (a0 + 1))), some (.int (1 : Int32)), some (.int (Int32.ofNat a2)), none] [] p (zh K (code, rf, rs, bad, pr, pn, J) (m, pa, pb, pc, vf, vs, B) w) Q)) ∧ (a1 = true → ((a0 + 2) < 5340 ∧ zW zm_185 31 [some (.ref 75), some (.int (Int32.ofNat a0)), some (.int (zbi a1)), none, some (.int (Int32.ofNat a3)), some (.int (m (a0 + 2))), some (.int (1 : Int32)), some (.int (Int32.ofNat a2)), none] [] p (zh K (code, rf, rs, bad, pr, pn, J) (m, pa, pb, pc, vf, vs, B) w) Q)))) : zT zm_185 [.ref 75, .int (Int32.ofNat a0), .int (zbi a1), .int (Int32.ofNat a2), .int (Int32.ofNat a3)] p (zh K (code, rf, rs, bad, pr, pn, J) (m, pa, pb, pc, vf, vs, B) w) Q := by
  change zW zm_185 0 [some (.ref 75), some (.int (Int32.ofNat a0)), some (.int (zbi a1)), some (.int (Int32.ofNat a2)), some (.int (Int32.ofNat a3)), none, none, none, none] [] p _ Q
  refine zW_bh (zcmp .eq (zbi a1) (0 : Int32)) 15 4 [some (.ref 75), some (.int (Int32.ofNat a0)), some (.int (zbi a1)), some (.int (Int32.ofNat a2)), some (.int (Int32.ofNat a3)), none, none, none, none] [] 2 (fun f => rfl) (fun c => ?_) (fun c => ?_)
  · have c9 : a1 = false := ((Bool.not_eq_true' _).mp ((zcB_eq _).symm.trans c))
    replace H := H.1 c9
    refine zW_gh 22 [some (.ref 75), some (.int (Int32.ofNat a0)), some (.int (zbi a1)), some (.int (Int32.ofNat a2)), some (.int (Int32.ofNat a3)), none, none, none, none] [.int ((Int32.ofNat a0) + (1 : Int32)), .ref 76] 5 (fun f => rfl) ?_
    obtain ⟨h1, H⟩ := H
    refine zW_iald rfl (by decide) rfl (by decide) (zN_a rfl rfl) h1 ?_
    refine zW_gh 31 [some (.ref 75), some (.int (Int32.ofNat a0)), some (.int (zbi a1)), some (.int (Int32.ofNat a2)), some (.int (Int32.ofNat a3)), some (.int (m (a0 + 1))), some (.int (1 : Int32)), some (.int (Int32.ofNat a2)), none] [] 5 (fun f => rfl) ?_
    refine zW_fg (L' := [some (.ref 75), some (.int (Int32.ofNat a0)), some (.int (zbi a1)), none, some (.int (Int32.ofNat a3)), some (.int (m (a0 + 1))), some (.int (1 : Int32)), some (.int (Int32.ofNat a2)), none]) (zle_s _ (zle_s _ (zle_s _ (zle_n _ (zle_s _ (zle_s _ (zle_s _ (zle_s _ (zle_s _ zle_nil))))))))) ?_
    exact H
  · have c9 : a1 = true := ((Bool.not_eq_false' _).mp ((zcB_eq _).symm.trans c))
    replace H := H.2 c9
    refine zW_gh 11 [some (.ref 75), some (.int (Int32.ofNat a0)), some (.int (zbi a1)), some (.int (Int32.ofNat a2)), some (.int (Int32.ofNat a3)), none, none, none, none] [.int ((Int32.ofNat a0) + (2 : Int32)), .ref 76] 5 (fun f => rfl) ?_
    obtain ⟨h2, H⟩ := H
    refine zW_iald rfl (by decide) rfl (by decide) (zN_a rfl rfl) h2 ?_
    refine zW_gh 31 [some (.ref 75), some (.int (Int32.ofNat a0)), some (.int (zbi a1)), some (.int (Int32.ofNat a2)), some (.int (Int32.ofNat a3)), some (.int (m (a0 + 2))), some (.int (1 : Int32)), some (.int (Int32.ofNat a2)), none] [] 6 (fun f => rfl) ?_
    refine zW_fg (L' := [some (.ref 75), some (.int (Int32.ofNat a0)), some (.int (zbi a1)), none, some (.int (Int32.ofNat a3)), some (.int (m (a0 + 2))), some (.int (1 : Int32)), some (.int (Int32.ofNat a2)), none]) (zle_s _ (zle_s _ (zle_s _ (zle_n _ (zle_s _ (zle_s _ (zle_s _ (zle_s _ (zle_s _ zle_nil))))))))) ?_
    exact H
theorem b185_31 {K : zKt} {code rf rs pr pn : Int32} {bad : Bool} {J : zJt} {m pa pb pc vf vs : Nat → Int32} {B : zBt} {w : Nat → Int64} {p : Nat × Nat} {Q : zR → zH → Prop} {x1 x4 x7 : Nat} {x5 : Int32} {x2 x6 : Bool} (H : ((x5 ≤ (Int32.ofNat x7) → Q (.inl (some (.int (zbi x6)))) (zh K (code, rf, rs, bad, pr, pn, J) (m, pa, pb, pc, vf, vs, B) w)) ∧ (¬ x5 ≤ (Int32.ofNat x7) → ((x6 = false → zW zm_185 31 [some (.ref 75), some (.int (Int32.ofNat x1)), some (.int (zbi x2)), none, some (.int (Int32.ofNat x4)), some (.int x5), some (.int (0 : Int32)), some (.int (Int32.ofNat (x7 + 1))), none] [] p (zh K (code, rf, rs, bad, pr, pn, J) (m, pa, pb, pc, vf, vs, B) w) Q) ∧ (x6 = true → ((zln x1 x2 x7 x4) < 5340 ∧ (((zln x1 x2 x7 x4) + 1) < 5340 ∧ (((zzr (m (zln x1 x2 x7 x4)) (m ((zln x1 x2 x7 x4) + 1))) = false → zW zm_185 31 [some (.ref 75), some (.int (Int32.ofNat x1)), some (.int (zbi x2)), none, some (.int (Int32.ofNat x4)), some (.int x5), some (.int (0 : Int32)), some (.int (Int32.ofNat (x7 + 1))), none] [] p (zh K (code, rf, rs, bad, pr, pn, J) (m, pa, pb, pc, vf, vs, B) w) Q) ∧ ((zzr (m (zln x1 x2 x7 x4)) (m ((zln x1 x2 x7 x4) + 1))) = true → zW zm_185 31 [some (.ref 75), some (.int (Int32.ofNat x1)), some (.int (zbi x2)), none, some (.int (Int32.ofNat x4)), some (.int x5), some (.int (1 : Int32)), some (.int (Int32.ofNat (x7 + 1))), none] [] p (zh K (code, rf, rs, bad, pr, pn, J) (m, pa, pb, pc, vf, vs, B) w) Q))))))))) : zW zm_185 31 [some (.ref 75), some (.int (Int32.ofNat x1)), some (.int (zbi x2)), none, some (.int (Int32.ofNat x4)), some (.int x5), some (.int (zbi x6)), some (.int (Int32.ofNat x7)), none] [] p (zh K (code, rf, rs, bad, pr, pn, J) (m, pa, pb, pc, vf, vs, B) w) Q := by
  refine zW_bh (zcmp .ge (Int32.ofNat x7) x5) 89 38 [some (.ref 75), some (.int (Int32.ofNat x1)), some (.int (zbi x2)), none, some (.int (Int32.ofNat x4)), some (.int x5), some (.int (zbi x6)), some (.int (Int32.ofNat x7)), none] [] 3 (fun f => rfl) (fun c => ?_) (fun c => ?_)
  · have c9 : x5 ≤ (Int32.ofNat x7) := (of_decide_eq_true c)
    replace H := H.1 c9
    refine zW_gh 91 [some (.ref 75), some (.int (Int32.ofNat x1)), some (.int (zbi x2)), none, some (.int (Int32.ofNat x4)), some (.int x5), some (.int (zbi x6)), some (.int (Int32.ofNat x7)), none] [.int (zbi x6)] 1 (fun f => rfl) ?_
    exact zW_rh (some (.int (zbi x6))) 1 (fun f => by generalize x6 = bb; cases bb <;> rfl) H
  · have c9 : ¬ x5 ≤ (Int32.ofNat x7) := (of_decide_eq_false c)
    replace H := H.2 c9
    refine zW_gh 44 [some (.ref 75), some (.int (Int32.ofNat x1)), some (.int (zbi x2)), none, some (.int (Int32.ofNat x4)), some (.int x5), some (.int (zbi x6)), some (.int (Int32.ofNat x7)), none] [.int (Int32.ofNat x4), .int (Int32.ofNat x7), .int (zbi x2), .int (Int32.ofNat x1)] 4 (fun f => rfl) ?_
    refine zW_cl rfl rfl rfl rfl rfl ((s176 (d := x2) rfl rfl rfl) ?_)
    change zW zm_185 47 [some (.ref 75), some (.int (Int32.ofNat x1)), some (.int (zbi x2)), none, some (.int (Int32.ofNat x4)), some (.int x5), some (.int (zbi x6)), some (.int (Int32.ofNat x7)), none] [.int (Int32.ofNat (zln x1 x2 x7 x4))] p _ Q
    refine zW_bh (zcmp .eq (zbi x6) (0 : Int32)) 80 54 [some (.ref 75), some (.int (Int32.ofNat x1)), some (.int (zbi x2)), none, some (.int (Int32.ofNat x4)), some (.int x5), some (.int (zbi x6)), some (.int (Int32.ofNat x7)), some (.int (Int32.ofNat (zln x1 x2 x7 x4)))] [] 3 (fun f => rfl) (fun c => ?_) (fun c => ?_)
    · have c9 : x6 = false := ((Bool.not_eq_true' _).mp ((zcB_eq _).symm.trans c))
      replace H := H.1 c9
      refine zW_gh 83 [some (.ref 75), some (.int (Int32.ofNat x1)), some (.int (zbi x2)), none, some (.int (Int32.ofNat x4)), some (.int x5), some (.int (0 : Int32)), some (.int (Int32.ofNat x7)), some (.int (Int32.ofNat (zln x1 x2 x7 x4)))] [] 2 (fun f => rfl) ?_
      refine zW_inc [some (.ref 75), some (.int (Int32.ofNat x1)), some (.int (zbi x2)), none, some (.int (Int32.ofNat x4)), some (.int x5), some (.int (0 : Int32)), some (.int ((Int32.ofNat x7) + (1 : Int32))), some (.int (Int32.ofNat (zln x1 x2 x7 x4)))] rfl rfl rfl ?_
      rw [show ((Int32.ofNat x7) + (1 : Int32)) = Int32.ofNat (x7 + 1) from (zN_a rfl rfl)]
      refine zW_gh 31 [some (.ref 75), some (.int (Int32.ofNat x1)), some (.int (zbi x2)), none, some (.int (Int32.ofNat x4)), some (.int x5), some (.int (0 : Int32)), some (.int (Int32.ofNat (x7 + 1))), some (.int (Int32.ofNat (zln x1 x2 x7 x4)))] [] 1 (fun f => rfl) ?_
      refine zW_fg (L' := [some (.ref 75), some (.int (Int32.ofNat x1)), some (.int (zbi x2)), none, some (.int (Int32.ofNat x4)), some (.int x5), some (.int (0 : Int32)), some (.int (Int32.ofNat (x7 + 1))), none]) (zle_s _ (zle_s _ (zle_s _ (zle_s _ (zle_s _ (zle_s _ (zle_s _ (zle_s _ (zle_n _ zle_nil))))))))) ?_
      exact H
    · have c9 : x6 = true := ((Bool.not_eq_false' _).mp ((zcB_eq _).symm.trans c))
      replace H := H.2 c9
      refine zW_gh 60 [some (.ref 75), some (.int (Int32.ofNat x1)), some (.int (zbi x2)), none, some (.int (Int32.ofNat x4)), some (.int x5), some (.int (zbi x6)), some (.int (Int32.ofNat x7)), some (.int (Int32.ofNat (zln x1 x2 x7 x4)))] [.int (Int32.ofNat (zln x1 x2 x7 x4)), .ref 76] 3 (fun f => rfl) ?_
      obtain ⟨h1, H⟩ := H
      refine zW_iald rfl (by decide) rfl (by decide) rfl h1 ?_
      refine zW_gh 69 [some (.ref 75), some (.int (Int32.ofNat x1)), some (.int (zbi x2)), none, some (.int (Int32.ofNat x4)), some (.int x5), some (.int (zbi x6)), some (.int (Int32.ofNat x7)), some (.int (Int32.ofNat (zln x1 x2 x7 x4)))] [.int ((Int32.ofNat (zln x1 x2 x7 x4)) + (1 : Int32)), .ref 76, .int (m (zln x1 x2 x7 x4))] 5 (fun f => rfl) ?_
      obtain ⟨h2, H⟩ := H
      refine zW_iald rfl (by decide) rfl (by decide) (zN_a rfl rfl) h2 ?_
      refine zW_cl rfl rfl rfl rfl rfl (s186 ?_)
      change zW zm_185 73 [some (.ref 75), some (.int (Int32.ofNat x1)), some (.int (zbi x2)), none, some (.int (Int32.ofNat x4)), some (.int x5), some (.int (zbi x6)), some (.int (Int32.ofNat x7)), some (.int (Int32.ofNat (zln x1 x2 x7 x4)))] [.int (zbi (zzr (m (zln x1 x2 x7 x4)) (m ((zln x1 x2 x7 x4) + 1))))] p _ Q
      refine zW_bh (zcmp .eq (zbi (zzr (m (zln x1 x2 x7 x4)) (m ((zln x1 x2 x7 x4) + 1)))) (0 : Int32)) 80 76 [some (.ref 75), some (.int (Int32.ofNat x1)), some (.int (zbi x2)), none, some (.int (Int32.ofNat x4)), some (.int x5), some (.int (zbi x6)), some (.int (Int32.ofNat x7)), some (.int (Int32.ofNat (zln x1 x2 x7 x4)))] [] 1 (fun f => rfl) (fun c => ?_) (fun c => ?_)
      · have c9 : (zzr (m (zln x1 x2 x7 x4)) (m ((zln x1 x2 x7 x4) + 1))) = false := ((Bool.not_eq_true' _).mp ((zcB_eq _).symm.trans c))
        replace H := H.1 c9
        refine zW_gh 83 [some (.ref 75), some (.int (Int32.ofNat x1)), some (.int (zbi x2)), none, some (.int (Int32.ofNat x4)), some (.int x5), some (.int (0 : Int32)), some (.int (Int32.ofNat x7)), some (.int (Int32.ofNat (zln x1 x2 x7 x4)))] [] 2 (fun f => rfl) ?_
        refine zW_inc [some (.ref 75), some (.int (Int32.ofNat x1)), some (.int (zbi x2)), none, some (.int (Int32.ofNat x4)), some (.int x5), some (.int (0 : Int32)), some (.int ((Int32.ofNat x7) + (1 : Int32))), some (.int (Int32.ofNat (zln x1 x2 x7 x4)))] rfl rfl rfl ?_
        rw [show ((Int32.ofNat x7) + (1 : Int32)) = Int32.ofNat (x7 + 1) from (zN_a rfl rfl)]
        refine zW_gh 31 [some (.ref 75), some (.int (Int32.ofNat x1)), some (.int (zbi x2)), none, some (.int (Int32.ofNat x4)), some (.int x5), some (.int (0 : Int32)), some (.int (Int32.ofNat (x7 + 1))), some (.int (Int32.ofNat (zln x1 x2 x7 x4)))] [] 1 (fun f => rfl) ?_
        refine zW_fg (L' := [some (.ref 75), some (.int (Int32.ofNat x1)), some (.int (zbi x2)), none, some (.int (Int32.ofNat x4)), some (.int x5), some (.int (0 : Int32)), some (.int (Int32.ofNat (x7 + 1))), none]) (zle_s _ (zle_s _ (zle_s _ (zle_s _ (zle_s _ (zle_s _ (zle_s _ (zle_s _ (zle_n _ zle_nil))))))))) ?_
        exact H
      · have c9 : (zzr (m (zln x1 x2 x7 x4)) (m ((zln x1 x2 x7 x4) + 1))) = true := ((Bool.not_eq_false' _).mp ((zcB_eq _).symm.trans c))
        replace H := H.2 c9
        refine zW_gh 83 [some (.ref 75), some (.int (Int32.ofNat x1)), some (.int (zbi x2)), none, some (.int (Int32.ofNat x4)), some (.int x5), some (.int (1 : Int32)), some (.int (Int32.ofNat x7)), some (.int (Int32.ofNat (zln x1 x2 x7 x4)))] [] 3 (fun f => rfl) ?_
        refine zW_inc [some (.ref 75), some (.int (Int32.ofNat x1)), some (.int (zbi x2)), none, some (.int (Int32.ofNat x4)), some (.int x5), some (.int (1 : Int32)), some (.int ((Int32.ofNat x7) + (1 : Int32))), some (.int (Int32.ofNat (zln x1 x2 x7 x4)))] rfl rfl rfl ?_
        rw [show ((Int32.ofNat x7) + (1 : Int32)) = Int32.ofNat (x7 + 1) from (zN_a rfl rfl)]
        refine zW_gh 31 [some (.ref 75), some (.int (Int32.ofNat x1)), some (.int (zbi x2)), none, some (.int (Int32.ofNat x4)), some (.int x5), some (.int (1 : Int32)), some (.int (Int32.ofNat (x7 + 1))), some (.int (Int32.ofNat (zln x1 x2 x7 x4)))] [] 1 (fun f => rfl) ?_
        refine zW_fg (L' := [some (.ref 75), some (.int (Int32.ofNat x1)), some (.int (zbi x2)), none, some (.int (Int32.ofNat x4)), some (.int x5), some (.int (1 : Int32)), some (.int (Int32.ofNat (x7 + 1))), none]) (zle_s _ (zle_s _ (zle_s _ (zle_s _ (zle_s _ (zle_s _ (zle_s _ (zle_s _ (zle_n _ zle_nil))))))))) ?_
        exact H
theorem b197 {K : zKt} {code rf rs pr pn : Int32} {bad : Bool} {J : zJt} {m pa pb pc vf vs : Nat → Int32} {B : zBt} {w : Nat → Int64} {p : Nat × Nat} {Q : zR → zH → Prop} {a0 a1 a2 : Nat} (H : ((a0 + 0) < 5340 ∧ ((((a0 + 4) + (8 * a1)) + (2 * a2)) < 5340 ∧ (((((a0 + 4) + (8 * a1)) + (2 * a2)) + 1) < 5340 ∧ zT zm_198 [.ref 75, .int (m (a0 + 0)), .int (m (((a0 + 4) + (8 * a1)) + (2 * a2))), .int (m ((((a0 + 4) + (8 * a1)) + (2 * a2)) + 1))] p (zh K (code, rf, rs, bad, pr, pn, J) (m, pa, pb, pc, vf, vs, B) w) (zK zm_197 36 [some (.ref 75), some (.int (Int32.ofNat a0)), some (.int (Int32.ofNat a1)), none, none] [] p Q))))) : zT zm_197 [.ref 75, .int (Int32.ofNat a0), .int (Int32.ofNat a1), .int (Int32.ofNat a2)] p (zh K (code, rf, rs, bad, pr, pn, J) (m, pa, pb, pc, vf, vs, B) w) Q := by
  change zW zm_197 0 [some (.ref 75), some (.int (Int32.ofNat a0)), some (.int (Int32.ofNat a1)), some (.int (Int32.ofNat a2)), none] [] p _ Q
  refine zW_gh 3 [some (.ref 75), some (.int (Int32.ofNat a0)), some (.int (Int32.ofNat a1)), some (.int (Int32.ofNat a2)), none] [.int (Int32.ofNat a2), .int (Int32.ofNat a1), .int (Int32.ofNat a0)] 3 (fun f => rfl) ?_
  refine zW_cl rfl rfl rfl rfl rfl (s151 ?_)
  change zW zm_197 6 [some (.ref 75), some (.int (Int32.ofNat a0)), some (.int (Int32.ofNat a1)), some (.int (Int32.ofNat a2)), none] [.int ((((Int32.ofNat a0) + (4 : Int32)) + ((8 : Int32) * (Int32.ofNat a1))) + ((2 : Int32) * (Int32.ofNat a2)))] p _ Q
  refine zW_gh 8 [some (.ref 75), some (.int (Int32.ofNat a0)), some (.int (Int32.ofNat a1)), some (.int (Int32.ofNat a2)), some (.int ((((Int32.ofNat a0) + (4 : Int32)) + ((8 : Int32) * (Int32.ofNat a1))) + ((2 : Int32) * (Int32.ofNat a2))))] [] 1 (fun f => rfl) ?_
  rw [show ((((Int32.ofNat a0) + (4 : Int32)) + ((8 : Int32) * (Int32.ofNat a1))) + ((2 : Int32) * (Int32.ofNat a2))) = Int32.ofNat (((a0 + 4) + (8 * a1)) + (2 * a2)) from (zN_a (zN_a (zN_a rfl rfl) (zN_m rfl rfl)) (zN_m rfl rfl))]
  refine zW_gh 16 [some (.ref 75), some (.int (Int32.ofNat a0)), some (.int (Int32.ofNat a1)), some (.int (Int32.ofNat a2)), some (.int (Int32.ofNat (((a0 + 4) + (8 * a1)) + (2 * a2))))] [.int ((Int32.ofNat a0) + (0 : Int32)), .ref 76, .ref 75] 6 (fun f => rfl) ?_
  obtain ⟨h1, H⟩ := H
  refine zW_iald rfl (by decide) rfl (by decide) (zN_a rfl rfl) h1 ?_
  refine zW_gh 23 [some (.ref 75), some (.int (Int32.ofNat a0)), some (.int (Int32.ofNat a1)), some (.int (Int32.ofNat a2)), some (.int (Int32.ofNat (((a0 + 4) + (8 * a1)) + (2 * a2))))] [.int (Int32.ofNat (((a0 + 4) + (8 * a1)) + (2 * a2))), .ref 76, .int (m (a0 + 0)), .ref 75] 3 (fun f => rfl) ?_
  obtain ⟨h2, H⟩ := H
  refine zW_iald rfl (by decide) rfl (by decide) rfl h2 ?_
  refine zW_gh 32 [some (.ref 75), some (.int (Int32.ofNat a0)), some (.int (Int32.ofNat a1)), some (.int (Int32.ofNat a2)), some (.int (Int32.ofNat (((a0 + 4) + (8 * a1)) + (2 * a2))))] [.int ((Int32.ofNat (((a0 + 4) + (8 * a1)) + (2 * a2))) + (1 : Int32)), .ref 76, .int (m (((a0 + 4) + (8 * a1)) + (2 * a2))), .int (m (a0 + 0)), .ref 75] 5 (fun f => rfl) ?_
  obtain ⟨h3, H⟩ := H
  refine zW_iald rfl (by decide) rfl (by decide) (zN_a rfl rfl) h3 ?_
  refine zW_fg (L' := [some (.ref 75), some (.int (Int32.ofNat a0)), some (.int (Int32.ofNat a1)), none, none]) (zle_s _ (zle_s _ (zle_s _ (zle_n _ (zle_n _ zle_nil))))) ?_
  exact zW_cl rfl rfl rfl rfl rfl H
theorem b197_36 {K : zKt} {code rf rs pr pn : Int32} {bad : Bool} {J : zJt} {m pa pb pc vf vs : Nat → Int32} {B : zBt} {w : Nat → Int64} {p : Nat × Nat} {Q : zR → zH → Prop} {x1 x2 : Nat} (H : ((bad = true → Q (.inl none) (zh K (code, rf, rs, bad, pr, pn, J) (m, pa, pb, pc, vf, vs, B) w)) ∧ (bad = false → ((¬ rf = (1 : Int32) → zT zm_174 [.ref 75, .int (Int32.ofNat x1), .int (2 : Int32), .int (Int32.ofNat x2), .int (0 : Int32), .int rf, .int rs] p (zh K (code, rf, rs, bad, pr, pn, J) (m, pa, pb, pc, vf, vs, B) w) (zK zm_197 74 [none, none, none, none, none] [] p Q)) ∧ (rf = (1 : Int32) → ((rs = (0 : Int32) → Q (.inl none) (zh K (code, rf, rs, bad, pr, pn, J) (m, pa, pb, pc, vf, vs, B) w)) ∧ (¬ rs = (0 : Int32) → zT zm_174 [.ref 75, .int (Int32.ofNat x1), .int (2 : Int32), .int (Int32.ofNat x2), .int (0 : Int32), .int rf, .int rs] p (zh K (code, rf, rs, bad, pr, pn, J) (m, pa, pb, pc, vf, vs, B) w) (zK zm_197 74 [none, none, none, none, none] [] p Q)))))))) : zW zm_197 36 [some (.ref 75), some (.int (Int32.ofNat x1)), some (.int (Int32.ofNat x2)), none, none] [] p (zh K (code, rf, rs, bad, pr, pn, J) (m, pa, pb, pc, vf, vs, B) w) Q := by
  refine zW_bh (zcmp .ne (zbi bad) (0 : Int32)) 74 43 [some (.ref 75), some (.int (Int32.ofNat x1)), some (.int (Int32.ofNat x2)), none, none] [] 3 (fun f => rfl) (fun c => ?_) (fun c => ?_)
  · have c9 : bad = true := ((zcB_ne _).symm.trans c)
    replace H := H.1 c9
    exact zW_rh none 1 (fun f => rfl) H
  · have c9 : bad = false := ((zcB_ne _).symm.trans c)
    replace H := H.2 c9
    refine zW_bh (zcmp .ne rf (1 : Int32)) 58 51 [some (.ref 75), some (.int (Int32.ofNat x1)), some (.int (Int32.ofNat x2)), none, none] [] 4 (fun f => rfl) (fun c => ?_) (fun c => ?_)
    · have c9 : ¬ rf = (1 : Int32) := (by simpa [zcmp] using c)
      replace H := H.1 c9
      refine zW_gh 71 [some (.ref 75), some (.int (Int32.ofNat x1)), some (.int (Int32.ofNat x2)), none, none] [.int rs, .int rf, .int (0 : Int32), .int (Int32.ofNat x2), .int (2 : Int32), .int (Int32.ofNat x1), .ref 75] 9 (fun f => rfl) ?_
      refine zW_fg (L' := [none, none, none, none, none]) (zle_n _ (zle_n _ (zle_n _ (zle_s _ (zle_s _ zle_nil))))) ?_
      exact zW_cl rfl rfl rfl rfl rfl H
    · have c9 : rf = (1 : Int32) := (by simpa [zcmp] using c)
      replace H := H.2 c9
      refine zW_bh (zcmp .eq rs (0 : Int32)) 74 58 [some (.ref 75), some (.int (Int32.ofNat x1)), some (.int (Int32.ofNat x2)), none, none] [] 3 (fun f => rfl) (fun c => ?_) (fun c => ?_)
      · have c9 : rs = (0 : Int32) := (of_decide_eq_true c)
        replace H := H.1 c9
        exact zW_rh none 1 (fun f => rfl) H
      · have c9 : ¬ rs = (0 : Int32) := (of_decide_eq_false c)
        replace H := H.2 c9
        refine zW_gh 71 [some (.ref 75), some (.int (Int32.ofNat x1)), some (.int (Int32.ofNat x2)), none, none] [.int rs, .int rf, .int (0 : Int32), .int (Int32.ofNat x2), .int (2 : Int32), .int (Int32.ofNat x1), .ref 75] 9 (fun f => rfl) ?_
        refine zW_fg (L' := [none, none, none, none, none]) (zle_n _ (zle_n _ (zle_n _ (zle_s _ (zle_s _ zle_nil))))) ?_
        exact zW_cl rfl rfl rfl rfl rfl H
theorem b197_74 {K : zKt} {code rf rs pr pn : Int32} {bad : Bool} {J : zJt} {m pa pb pc vf vs : Nat → Int32} {B : zBt} {w : Nat → Int64} {p : Nat × Nat} {Q : zR → zH → Prop} (H : Q (.inl none) (zh K (code, rf, rs, bad, pr, pn, J) (m, pa, pb, pc, vf, vs, B) w)) : zW zm_197 74 [none, none, none, none, none] [] p (zh K (code, rf, rs, bad, pr, pn, J) (m, pa, pb, pc, vf, vs, B) w) Q := by
  exact zW_rh none 1 (fun f => rfl) H
theorem b188 {K : zKt} {code rf rs pr pn : Int32} {bad : Bool} {J : zJt} {m pa pb pc vf vs : Nat → Int32} {B : zBt} {w : Nat → Int64} {p : Nat × Nat} {Q : zR → zH → Prop} {a0 a1 a2 : Nat} (H : zW zm_188 9 [some (.ref 75), some (.int (Int32.ofNat a0)), none, some (.int (Int32.ofNat a2)), some (.int (-1 : Int32)), some (.long (0 : Int64)), none, some (.int (Int32.ofNat a1)), none, none, none, none] [] p (zh K (code, rf, rs, bad, pr, pn, J) (m, pa, pb, pc, vf, vs, B) w) Q) : zT zm_188 [.ref 75, .int (Int32.ofNat a0), .int (Int32.ofNat a1), .int (Int32.ofNat a2)] p (zh K (code, rf, rs, bad, pr, pn, J) (m, pa, pb, pc, vf, vs, B) w) Q := by
  change zW zm_188 0 [some (.ref 75), some (.int (Int32.ofNat a0)), some (.int (Int32.ofNat a1)), some (.int (Int32.ofNat a2)), none, none, none, none, none, none, none, none] [] p _ Q
  refine zW_gh 9 [some (.ref 75), some (.int (Int32.ofNat a0)), some (.int (Int32.ofNat a1)), some (.int (Int32.ofNat a2)), some (.int (-1 : Int32)), some (.long (0 : Int64)), none, some (.int (Int32.ofNat a1)), none, none, none, none] [] 6 (fun f => rfl) ?_
  refine zW_fg (L' := [some (.ref 75), some (.int (Int32.ofNat a0)), none, some (.int (Int32.ofNat a2)), some (.int (-1 : Int32)), some (.long (0 : Int64)), none, some (.int (Int32.ofNat a1)), none, none, none, none]) (zle_s _ (zle_s _ (zle_n _ (zle_s _ (zle_s _ (zle_s _ (zle_s _ (zle_s _ (zle_s _ (zle_s _ (zle_s _ (zle_s _ zle_nil)))))))))))) ?_
  exact H
theorem b188_9 {K : zKt} {code rf rs pr pn : Int32} {bad : Bool} {J : zJt} {m pa pb pc vf vs : Nat → Int32} {B : zBt} {w : Nat → Int64} {p : Nat × Nat} {Q : zR → zH → Prop} {x1 x3 x7 : Nat} {x4 : Int32} {x5 : Int64} (H : ((x1 + 1) < 5340 ∧ (((m (x1 + 1)) ≤ (Int32.ofNat x7) → Q (.inl (some (.int x4))) (zh K (code, rf, rs, bad, pr, pn, J) (m, pa, pb, pc, vf, vs, B) w)) ∧ (¬ (m (x1 + 1)) ≤ (Int32.ofNat x7) → ((x1 + 0) < 5340 ∧ ((((x1 + 4) + (8 * x7)) + (2 * x3)) < 5340 ∧ (((((x1 + 4) + (8 * x7)) + (2 * x3)) + 1) < 5340 ∧ zT zm_189 [.ref 75, .int (m (x1 + 0)), .int (m (((x1 + 4) + (8 * x7)) + (2 * x3))), .int (m ((((x1 + 4) + (8 * x7)) + (2 * x3)) + 1))] p (zh K (code, rf, rs, bad, pr, pn, J) (m, pa, pb, pc, vf, vs, B) w) (zK zm_188 59 [some (.ref 75), some (.int (Int32.ofNat x1)), none, some (.int (Int32.ofNat x3)), some (.int x4), some (.long x5), none, some (.int (Int32.ofNat x7)), none, none, none, none] [] p Q)))))))) : zW zm_188 9 [some (.ref 75), some (.int (Int32.ofNat x1)), none, some (.int (Int32.ofNat x3)), some (.int x4), some (.long x5), none, some (.int (Int32.ofNat x7)), none, none, none, none] [] p (zh K (code, rf, rs, bad, pr, pn, J) (m, pa, pb, pc, vf, vs, B) w) Q := by
  refine zW_gh 18 [some (.ref 75), some (.int (Int32.ofNat x1)), none, some (.int (Int32.ofNat x3)), some (.int x4), some (.long x5), none, some (.int (Int32.ofNat x7)), none, none, none, none] [.int ((Int32.ofNat x1) + (1 : Int32)), .ref 76, .int (Int32.ofNat x7)] 6 (fun f => rfl) ?_
  obtain ⟨h1, H⟩ := H
  refine zW_iald rfl (by decide) rfl (by decide) (zN_a rfl rfl) h1 ?_
  refine zW_bh (zcmp .ge (Int32.ofNat x7) (m (x1 + 1))) 123 22 [some (.ref 75), some (.int (Int32.ofNat x1)), none, some (.int (Int32.ofNat x3)), some (.int x4), some (.long x5), none, some (.int (Int32.ofNat x7)), none, none, none, none] [] 1 (fun f => rfl) (fun c => ?_) (fun c => ?_)
  · have c9 : (m (x1 + 1)) ≤ (Int32.ofNat x7) := (of_decide_eq_true c)
    replace H := H.1 c9
    refine zW_gh 125 [some (.ref 75), some (.int (Int32.ofNat x1)), none, some (.int (Int32.ofNat x3)), some (.int x4), some (.long x5), none, some (.int (Int32.ofNat x7)), none, none, none, none] [.int x4] 1 (fun f => rfl) ?_
    exact zW_rh (some (.int x4)) 1 (fun f => rfl) H
  · have c9 : ¬ (m (x1 + 1)) ≤ (Int32.ofNat x7) := (of_decide_eq_false c)
    replace H := H.2 c9
    refine zW_gh 26 [some (.ref 75), some (.int (Int32.ofNat x1)), none, some (.int (Int32.ofNat x3)), some (.int x4), some (.long x5), none, some (.int (Int32.ofNat x7)), none, none, none, none] [.int (Int32.ofNat x3), .int (Int32.ofNat x7), .int (Int32.ofNat x1)] 3 (fun f => rfl) ?_
    refine zW_cl rfl rfl rfl rfl rfl (s151 ?_)
    change zW zm_188 29 [some (.ref 75), some (.int (Int32.ofNat x1)), none, some (.int (Int32.ofNat x3)), some (.int x4), some (.long x5), none, some (.int (Int32.ofNat x7)), none, none, none, none] [.int ((((Int32.ofNat x1) + (4 : Int32)) + ((8 : Int32) * (Int32.ofNat x7))) + ((2 : Int32) * (Int32.ofNat x3)))] p _ Q
    refine zW_gh 31 [some (.ref 75), some (.int (Int32.ofNat x1)), none, some (.int (Int32.ofNat x3)), some (.int x4), some (.long x5), none, some (.int (Int32.ofNat x7)), some (.int ((((Int32.ofNat x1) + (4 : Int32)) + ((8 : Int32) * (Int32.ofNat x7))) + ((2 : Int32) * (Int32.ofNat x3)))), none, none, none] [] 1 (fun f => rfl) ?_
    rw [show ((((Int32.ofNat x1) + (4 : Int32)) + ((8 : Int32) * (Int32.ofNat x7))) + ((2 : Int32) * (Int32.ofNat x3))) = Int32.ofNat (((x1 + 4) + (8 * x7)) + (2 * x3)) from (zN_a (zN_a (zN_a rfl rfl) (zN_m rfl rfl)) (zN_m rfl rfl))]
    refine zW_gh 39 [some (.ref 75), some (.int (Int32.ofNat x1)), none, some (.int (Int32.ofNat x3)), some (.int x4), some (.long x5), none, some (.int (Int32.ofNat x7)), some (.int (Int32.ofNat (((x1 + 4) + (8 * x7)) + (2 * x3)))), none, none, none] [.int ((Int32.ofNat x1) + (0 : Int32)), .ref 76, .ref 75] 6 (fun f => rfl) ?_
    obtain ⟨h2, H⟩ := H
    refine zW_iald rfl (by decide) rfl (by decide) (zN_a rfl rfl) h2 ?_
    refine zW_gh 46 [some (.ref 75), some (.int (Int32.ofNat x1)), none, some (.int (Int32.ofNat x3)), some (.int x4), some (.long x5), none, some (.int (Int32.ofNat x7)), some (.int (Int32.ofNat (((x1 + 4) + (8 * x7)) + (2 * x3)))), none, none, none] [.int (Int32.ofNat (((x1 + 4) + (8 * x7)) + (2 * x3))), .ref 76, .int (m (x1 + 0)), .ref 75] 3 (fun f => rfl) ?_
    obtain ⟨h3, H⟩ := H
    refine zW_iald rfl (by decide) rfl (by decide) rfl h3 ?_
    refine zW_gh 55 [some (.ref 75), some (.int (Int32.ofNat x1)), none, some (.int (Int32.ofNat x3)), some (.int x4), some (.long x5), none, some (.int (Int32.ofNat x7)), some (.int (Int32.ofNat (((x1 + 4) + (8 * x7)) + (2 * x3)))), none, none, none] [.int ((Int32.ofNat (((x1 + 4) + (8 * x7)) + (2 * x3))) + (1 : Int32)), .ref 76, .int (m (((x1 + 4) + (8 * x7)) + (2 * x3))), .int (m (x1 + 0)), .ref 75] 5 (fun f => rfl) ?_
    obtain ⟨h4, H⟩ := H
    refine zW_iald rfl (by decide) rfl (by decide) (zN_a rfl rfl) h4 ?_
    refine zW_fg (L' := [some (.ref 75), some (.int (Int32.ofNat x1)), none, some (.int (Int32.ofNat x3)), some (.int x4), some (.long x5), none, some (.int (Int32.ofNat x7)), none, none, none, none]) (zle_s _ (zle_s _ (zle_s _ (zle_s _ (zle_s _ (zle_s _ (zle_s _ (zle_s _ (zle_n _ (zle_s _ (zle_s _ (zle_s _ zle_nil)))))))))))) ?_
    exact zW_cl rfl rfl rfl rfl rfl H
theorem b188_59 {K : zKt} {code rf rs pr pn : Int32} {bad : Bool} {J : zJt} {m pa pb pc vf vs : Nat → Int32} {B : zBt} {w : Nat → Int64} {p : Nat × Nat} {Q : zR → zH → Prop} {x1 x3 x7 : Nat} {x4 : Int32} {x5 rv : Int64} (H : ((rv ≤ (0 : Int64) → zW zm_188 9 [some (.ref 75), some (.int (Int32.ofNat x1)), none, some (.int (Int32.ofNat x3)), some (.int x4), some (.long x5), none, some (.int (Int32.ofNat (x7 + 1))), none, none, none, none] [] p (zh K (code, rf, rs, bad, pr, pn, J) (m, pa, pb, pc, vf, vs, B) w) Q) ∧ (¬ rv ≤ (0 : Int64) → ((x4 = (-1 : Int32) → zW zm_188 9 [some (.ref 75), some (.int (Int32.ofNat x1)), none, some (.int (Int32.ofNat x3)), some (.int (Int32.ofNat x7)), some (.long rv), none, some (.int (Int32.ofNat (x7 + 1))), none, none, none, none] [] p (zh K (code, rf, rs, bad, pr, pn, J) (m, pa, pb, pc, vf, vs, B) w) Q) ∧ (¬ x4 = (-1 : Int32) → ((x5 ≤ rv → zW zm_188 9 [some (.ref 75), some (.int (Int32.ofNat x1)), none, some (.int (Int32.ofNat x3)), some (.int x4), some (.long x5), none, some (.int (Int32.ofNat (x7 + 1))), none, none, none, none] [] p (zh K (code, rf, rs, bad, pr, pn, J) (m, pa, pb, pc, vf, vs, B) w) Q) ∧ (¬ x5 ≤ rv → zW zm_188 9 [some (.ref 75), some (.int (Int32.ofNat x1)), none, some (.int (Int32.ofNat x3)), some (.int (Int32.ofNat x7)), some (.long rv), none, some (.int (Int32.ofNat (x7 + 1))), none, none, none, none] [] p (zh K (code, rf, rs, bad, pr, pn, J) (m, pa, pb, pc, vf, vs, B) w) Q))))))) : zW zm_188 59 [some (.ref 75), some (.int (Int32.ofNat x1)), none, some (.int (Int32.ofNat x3)), some (.int x4), some (.long x5), none, some (.int (Int32.ofNat x7)), none, none, none, none] [.long rv] p (zh K (code, rf, rs, bad, pr, pn, J) (m, pa, pb, pc, vf, vs, B) w) Q := by
  refine zW_bh (zcmp .le (lg_cmp rv (0 : Int64)) (0 : Int32)) 86 68 [some (.ref 75), some (.int (Int32.ofNat x1)), none, some (.int (Int32.ofNat x3)), some (.int x4), some (.long x5), none, some (.int (Int32.ofNat x7)), none, some (.long rv), none, none] [] 5 (fun f => rfl) (fun c => ?_) (fun c => ?_)
  · have c9 : rv ≤ (0 : Int64) := (of_decide_eq_true ((zcL_le _ _).symm.trans c))
    replace H := H.1 c9
    refine zW_gh 115 [some (.ref 75), some (.int (Int32.ofNat x1)), none, some (.int (Int32.ofNat x3)), some (.int x4), some (.long x5), none, some (.int (Int32.ofNat x7)), none, some (.long rv), none, some (.int (0 : Int32))] [.long x5] 9 (fun f => rfl) ?_
    refine zW_gh 117 [some (.ref 75), some (.int (Int32.ofNat x1)), none, some (.int (Int32.ofNat x3)), some (.int x4), some (.long x5), none, some (.int (Int32.ofNat x7)), none, some (.long rv), none, some (.int (0 : Int32))] [] 1 (fun f => rfl) ?_
    refine zW_inc [some (.ref 75), some (.int (Int32.ofNat x1)), none, some (.int (Int32.ofNat x3)), some (.int x4), some (.long x5), none, some (.int ((Int32.ofNat x7) + (1 : Int32))), none, some (.long rv), none, some (.int (0 : Int32))] rfl rfl rfl ?_
    rw [show ((Int32.ofNat x7) + (1 : Int32)) = Int32.ofNat (x7 + 1) from (zN_a rfl rfl)]
    refine zW_gh 9 [some (.ref 75), some (.int (Int32.ofNat x1)), none, some (.int (Int32.ofNat x3)), some (.int x4), some (.long x5), none, some (.int (Int32.ofNat (x7 + 1))), none, some (.long rv), none, some (.int (0 : Int32))] [] 1 (fun f => rfl) ?_
    refine zW_fg (L' := [some (.ref 75), some (.int (Int32.ofNat x1)), none, some (.int (Int32.ofNat x3)), some (.int x4), some (.long x5), none, some (.int (Int32.ofNat (x7 + 1))), none, none, none, none]) (zle_s _ (zle_s _ (zle_s _ (zle_s _ (zle_s _ (zle_s _ (zle_s _ (zle_s _ (zle_s _ (zle_n _ (zle_s _ (zle_n _ zle_nil)))))))))))) ?_
    exact H
  · have c9 : ¬ rv ≤ (0 : Int64) := (of_decide_eq_false ((zcL_le _ _).symm.trans c))
    replace H := H.2 c9
    refine zW_bh (zcmp .eq x4 (-1 : Int32)) 82 74 [some (.ref 75), some (.int (Int32.ofNat x1)), none, some (.int (Int32.ofNat x3)), some (.int x4), some (.long x5), none, some (.int (Int32.ofNat x7)), none, some (.long rv), none, none] [] 3 (fun f => rfl) (fun c => ?_) (fun c => ?_)
    · have c9 : x4 = (-1 : Int32) := (of_decide_eq_true c)
      replace H := H.1 c9
      refine zW_gh 105 [some (.ref 75), some (.int (Int32.ofNat x1)), none, some (.int (Int32.ofNat x3)), some (.int (Int32.ofNat x7)), some (.long x5), none, some (.int (Int32.ofNat x7)), none, some (.long rv), none, some (.int (1 : Int32))] [.int (1 : Int32)] 9 (fun f => rfl) ?_
      refine zW_gh 117 [some (.ref 75), some (.int (Int32.ofNat x1)), none, some (.int (Int32.ofNat x3)), some (.int (Int32.ofNat x7)), some (.long rv), none, some (.int (Int32.ofNat x7)), none, some (.long rv), none, some (.int (1 : Int32))] [] 4 (fun f => rfl) ?_
      refine zW_inc [some (.ref 75), some (.int (Int32.ofNat x1)), none, some (.int (Int32.ofNat x3)), some (.int (Int32.ofNat x7)), some (.long rv), none, some (.int ((Int32.ofNat x7) + (1 : Int32))), none, some (.long rv), none, some (.int (1 : Int32))] rfl rfl rfl ?_
      rw [show ((Int32.ofNat x7) + (1 : Int32)) = Int32.ofNat (x7 + 1) from (zN_a rfl rfl)]
      refine zW_gh 9 [some (.ref 75), some (.int (Int32.ofNat x1)), none, some (.int (Int32.ofNat x3)), some (.int (Int32.ofNat x7)), some (.long rv), none, some (.int (Int32.ofNat (x7 + 1))), none, some (.long rv), none, some (.int (1 : Int32))] [] 1 (fun f => rfl) ?_
      refine zW_fg (L' := [some (.ref 75), some (.int (Int32.ofNat x1)), none, some (.int (Int32.ofNat x3)), some (.int (Int32.ofNat x7)), some (.long rv), none, some (.int (Int32.ofNat (x7 + 1))), none, none, none, none]) (zle_s _ (zle_s _ (zle_s _ (zle_s _ (zle_s _ (zle_s _ (zle_s _ (zle_s _ (zle_s _ (zle_n _ (zle_s _ (zle_n _ zle_nil)))))))))))) ?_
      exact H
    · have c9 : ¬ x4 = (-1 : Int32) := (of_decide_eq_false c)
      replace H := H.2 c9
      refine zW_bh (zcmp .ge (lg_cmp rv x5) (0 : Int32)) 86 82 [some (.ref 75), some (.int (Int32.ofNat x1)), none, some (.int (Int32.ofNat x3)), some (.int x4), some (.long x5), none, some (.int (Int32.ofNat x7)), none, some (.long rv), none, none] [] 4 (fun f => rfl) (fun c => ?_) (fun c => ?_)
      · have c9 : x5 ≤ rv := (of_decide_eq_true ((zcL_ge _ _).symm.trans c))
        replace H := H.1 c9
        refine zW_gh 115 [some (.ref 75), some (.int (Int32.ofNat x1)), none, some (.int (Int32.ofNat x3)), some (.int x4), some (.long x5), none, some (.int (Int32.ofNat x7)), none, some (.long rv), none, some (.int (0 : Int32))] [.long x5] 9 (fun f => rfl) ?_
        refine zW_gh 117 [some (.ref 75), some (.int (Int32.ofNat x1)), none, some (.int (Int32.ofNat x3)), some (.int x4), some (.long x5), none, some (.int (Int32.ofNat x7)), none, some (.long rv), none, some (.int (0 : Int32))] [] 1 (fun f => rfl) ?_
        refine zW_inc [some (.ref 75), some (.int (Int32.ofNat x1)), none, some (.int (Int32.ofNat x3)), some (.int x4), some (.long x5), none, some (.int ((Int32.ofNat x7) + (1 : Int32))), none, some (.long rv), none, some (.int (0 : Int32))] rfl rfl rfl ?_
        rw [show ((Int32.ofNat x7) + (1 : Int32)) = Int32.ofNat (x7 + 1) from (zN_a rfl rfl)]
        refine zW_gh 9 [some (.ref 75), some (.int (Int32.ofNat x1)), none, some (.int (Int32.ofNat x3)), some (.int x4), some (.long x5), none, some (.int (Int32.ofNat (x7 + 1))), none, some (.long rv), none, some (.int (0 : Int32))] [] 1 (fun f => rfl) ?_
        refine zW_fg (L' := [some (.ref 75), some (.int (Int32.ofNat x1)), none, some (.int (Int32.ofNat x3)), some (.int x4), some (.long x5), none, some (.int (Int32.ofNat (x7 + 1))), none, none, none, none]) (zle_s _ (zle_s _ (zle_s _ (zle_s _ (zle_s _ (zle_s _ (zle_s _ (zle_s _ (zle_s _ (zle_n _ (zle_s _ (zle_n _ zle_nil)))))))))))) ?_
        exact H
      · have c9 : ¬ x5 ≤ rv := (of_decide_eq_false ((zcL_ge _ _).symm.trans c))
        replace H := H.2 c9
        refine zW_gh 105 [some (.ref 75), some (.int (Int32.ofNat x1)), none, some (.int (Int32.ofNat x3)), some (.int (Int32.ofNat x7)), some (.long x5), none, some (.int (Int32.ofNat x7)), none, some (.long rv), none, some (.int (1 : Int32))] [.int (1 : Int32)] 9 (fun f => rfl) ?_
        refine zW_gh 117 [some (.ref 75), some (.int (Int32.ofNat x1)), none, some (.int (Int32.ofNat x3)), some (.int (Int32.ofNat x7)), some (.long rv), none, some (.int (Int32.ofNat x7)), none, some (.long rv), none, some (.int (1 : Int32))] [] 4 (fun f => rfl) ?_
        refine zW_inc [some (.ref 75), some (.int (Int32.ofNat x1)), none, some (.int (Int32.ofNat x3)), some (.int (Int32.ofNat x7)), some (.long rv), none, some (.int ((Int32.ofNat x7) + (1 : Int32))), none, some (.long rv), none, some (.int (1 : Int32))] rfl rfl rfl ?_
        rw [show ((Int32.ofNat x7) + (1 : Int32)) = Int32.ofNat (x7 + 1) from (zN_a rfl rfl)]
        refine zW_gh 9 [some (.ref 75), some (.int (Int32.ofNat x1)), none, some (.int (Int32.ofNat x3)), some (.int (Int32.ofNat x7)), some (.long rv), none, some (.int (Int32.ofNat (x7 + 1))), none, some (.long rv), none, some (.int (1 : Int32))] [] 1 (fun f => rfl) ?_
        refine zW_fg (L' := [some (.ref 75), some (.int (Int32.ofNat x1)), none, some (.int (Int32.ofNat x3)), some (.int (Int32.ofNat x7)), some (.long rv), none, some (.int (Int32.ofNat (x7 + 1))), none, none, none, none]) (zle_s _ (zle_s _ (zle_s _ (zle_s _ (zle_s _ (zle_s _ (zle_s _ (zle_s _ (zle_s _ (zle_n _ (zle_s _ (zle_n _ zle_nil)))))))))))) ?_
        exact H
theorem b184 {K : zKt} {code rf rs pr pn : Int32} {bad : Bool} {J : zJt} {m pa pb pc vf vs : Nat → Int32} {B : zBt} {w : Nat → Int64} {p : Nat × Nat} {Q : zR → zH → Prop} {a0 : Nat} (H : zW zm_184 4 [some (.ref 75), some (.int (Int32.ofNat a0)), some (.int (Int32.ofNat 0)), some (.int (Int32.ofNat 0))] [] p (zh K (code, rf, rs, bad, pr, pn, J) (m, pa, pb, pc, vf, vs, B) w) Q) : zT zm_184 [.ref 75, .int (Int32.ofNat a0)] p (zh K (code, rf, rs, bad, pr, pn, J) (m, pa, pb, pc, vf, vs, B) w) Q := by
  change zW zm_184 0 [some (.ref 75), some (.int (Int32.ofNat a0)), none, none] [] p _ Q
  refine zW_gh 4 [some (.ref 75), some (.int (Int32.ofNat a0)), some (.int (0 : Int32)), some (.int (0 : Int32))] [] 4 (fun f => rfl) ?_
  exact H
theorem b184_4 {K : zKt} {code rf rs pr pn : Int32} {bad : Bool} {J : zJt} {m pa pb pc vf vs : Nat → Int32} {B : zBt} {w : Nat → Int64} {p : Nat × Nat} {Q : zR → zH → Prop} {x1 x2 x3 : Nat} (H : ((x1 + 2) < 5340 ∧ (((m (x1 + 2)) ≤ (Int32.ofNat x3) → Q (.inl (some (.int (Int32.ofNat x2)))) (zh K (code, rf, rs, bad, pr, pn, J) (m, pa, pb, pc, vf, vs, B) w)) ∧ (¬ (m (x1 + 2)) ≤ (Int32.ofNat x3) → ((x1 + 1) < 5340 ∧ (((m (x1 + 1)) ≤ (Int32.ofNat x2) → Q (.inl (some (.int (Int32.ofNat x2)))) (zh K (code, rf, rs, bad, pr, pn, J) (m, pa, pb, pc, vf, vs, B) w)) ∧ (¬ (m (x1 + 1)) ≤ (Int32.ofNat x2) → ((bad = true → Q (.inl (some (.int (Int32.ofNat x2)))) (zh K (code, rf, rs, bad, pr, pn, J) (m, pa, pb, pc, vf, vs, B) w)) ∧ (bad = false → zT zm_185 [.ref 75, .int (Int32.ofNat x1), .int (zbi false), .int (Int32.ofNat x2), .int (Int32.ofNat x3)] p (zh K (code, rf, rs, bad, pr, pn, J) (m, pa, pb, pc, vf, vs, B) w) (zK zm_184 43 [some (.ref 75), some (.int (Int32.ofNat x1)), some (.int (Int32.ofNat x2)), some (.int (Int32.ofNat x3))] [] p Q)))))))))) : zW zm_184 4 [some (.ref 75), some (.int (Int32.ofNat x1)), some (.int (Int32.ofNat x2)), some (.int (Int32.ofNat x3))] [] p (zh K (code, rf, rs, bad, pr, pn, J) (m, pa, pb, pc, vf, vs, B) w) Q := by
  refine zW_gh 12 [some (.ref 75), some (.int (Int32.ofNat x1)), some (.int (Int32.ofNat x2)), some (.int (Int32.ofNat x3))] [.int ((Int32.ofNat x1) + (2 : Int32)), .ref 76, .int (Int32.ofNat x3)] 6 (fun f => rfl) ?_
  obtain ⟨h1, H⟩ := H
  refine zW_iald rfl (by decide) rfl (by decide) (zN_a rfl rfl) h1 ?_
  refine zW_bh (zcmp .ge (Int32.ofNat x3) (m (x1 + 2))) 62 16 [some (.ref 75), some (.int (Int32.ofNat x1)), some (.int (Int32.ofNat x2)), some (.int (Int32.ofNat x3))] [] 1 (fun f => rfl) (fun c => ?_) (fun c => ?_)
  · have c9 : (m (x1 + 2)) ≤ (Int32.ofNat x3) := (of_decide_eq_true c)
    replace H := H.1 c9
    refine zW_gh 63 [some (.ref 75), some (.int (Int32.ofNat x1)), some (.int (Int32.ofNat x2)), some (.int (Int32.ofNat x3))] [.int (Int32.ofNat x2)] 1 (fun f => rfl) ?_
    exact zW_rh (some (.int (Int32.ofNat x2))) 1 (fun f => rfl) H
  · have c9 : ¬ (m (x1 + 2)) ≤ (Int32.ofNat x3) := (of_decide_eq_false c)
    replace H := H.2 c9
    refine zW_gh 24 [some (.ref 75), some (.int (Int32.ofNat x1)), some (.int (Int32.ofNat x2)), some (.int (Int32.ofNat x3))] [.int ((Int32.ofNat x1) + (1 : Int32)), .ref 76, .int (Int32.ofNat x2)] 6 (fun f => rfl) ?_
    obtain ⟨h2, H⟩ := H
    refine zW_iald rfl (by decide) rfl (by decide) (zN_a rfl rfl) h2 ?_
    refine zW_bh (zcmp .ge (Int32.ofNat x2) (m (x1 + 1))) 62 28 [some (.ref 75), some (.int (Int32.ofNat x1)), some (.int (Int32.ofNat x2)), some (.int (Int32.ofNat x3))] [] 1 (fun f => rfl) (fun c => ?_) (fun c => ?_)
    · have c9 : (m (x1 + 1)) ≤ (Int32.ofNat x2) := (of_decide_eq_true c)
      replace H := H.1 c9
      refine zW_gh 63 [some (.ref 75), some (.int (Int32.ofNat x1)), some (.int (Int32.ofNat x2)), some (.int (Int32.ofNat x3))] [.int (Int32.ofNat x2)] 1 (fun f => rfl) ?_
      exact zW_rh (some (.int (Int32.ofNat x2))) 1 (fun f => rfl) H
    · have c9 : ¬ (m (x1 + 1)) ≤ (Int32.ofNat x2) := (of_decide_eq_false c)
      replace H := H.2 c9
      refine zW_bh (zcmp .ne (zbi bad) (0 : Int32)) 62 35 [some (.ref 75), some (.int (Int32.ofNat x1)), some (.int (Int32.ofNat x2)), some (.int (Int32.ofNat x3))] [] 3 (fun f => rfl) (fun c => ?_) (fun c => ?_)
      · have c9 : bad = true := ((zcB_ne _).symm.trans c)
        replace H := H.1 c9
        refine zW_gh 63 [some (.ref 75), some (.int (Int32.ofNat x1)), some (.int (Int32.ofNat x2)), some (.int (Int32.ofNat x3))] [.int (Int32.ofNat x2)] 1 (fun f => rfl) ?_
        exact zW_rh (some (.int (Int32.ofNat x2))) 1 (fun f => rfl) H
      · have c9 : bad = false := ((zcB_ne _).symm.trans c)
        replace H := H.2 c9
        refine zW_gh 40 [some (.ref 75), some (.int (Int32.ofNat x1)), some (.int (Int32.ofNat x2)), some (.int (Int32.ofNat x3))] [.int (Int32.ofNat x3), .int (Int32.ofNat x2), .int (0 : Int32), .int (Int32.ofNat x1), .ref 75] 5 (fun f => rfl) ?_
        exact zW_cl rfl rfl rfl rfl rfl H
theorem b184_43 {K : zKt} {code rf rs pr pn : Int32} {bad : Bool} {J : zJt} {m pa pb pc vf vs : Nat → Int32} {B : zBt} {w : Nat → Int64} {p : Nat × Nat} {Q : zR → zH → Prop} {x1 x2 x3 : Nat} {rv : Bool} (H : ((rv = true → zW zm_184 4 [some (.ref 75), some (.int (Int32.ofNat x1)), some (.int (Int32.ofNat x2)), some (.int (Int32.ofNat (x3 + 1)))] [] p (zh K (code, rf, rs, bad, pr, pn, J) (m, pa, pb, pc, vf, vs, B) w) Q) ∧ (rv = false → zT zm_187 [.ref 75, .int (Int32.ofNat x1), .int (Int32.ofNat x2), .int (Int32.ofNat x3)] p (zh K (code, rf, rs, bad, pr, pn, J) (m, pa, pb, pc, vf, vs, B) w) (zK zm_184 53 [some (.ref 75), some (.int (Int32.ofNat x1)), some (.int (Int32.ofNat x2)), some (.int (Int32.ofNat x3))] [] p Q)))) : zW zm_184 43 [some (.ref 75), some (.int (Int32.ofNat x1)), some (.int (Int32.ofNat x2)), some (.int (Int32.ofNat x3))] [.int (zbi rv)] p (zh K (code, rf, rs, bad, pr, pn, J) (m, pa, pb, pc, vf, vs, B) w) Q := by
  refine zW_bh (zcmp .ne (zbi rv) (0 : Int32)) 56 46 [some (.ref 75), some (.int (Int32.ofNat x1)), some (.int (Int32.ofNat x2)), some (.int (Int32.ofNat x3))] [] 1 (fun f => rfl) (fun c => ?_) (fun c => ?_)
  · have c9 : rv = true := ((zcB_ne _).symm.trans c)
    replace H := H.1 c9
    refine zW_inc [some (.ref 75), some (.int (Int32.ofNat x1)), some (.int (Int32.ofNat x2)), some (.int ((Int32.ofNat x3) + (1 : Int32)))] rfl rfl rfl ?_
    rw [show ((Int32.ofNat x3) + (1 : Int32)) = Int32.ofNat (x3 + 1) from (zN_a rfl rfl)]
    refine zW_gh 4 [some (.ref 75), some (.int (Int32.ofNat x1)), some (.int (Int32.ofNat x2)), some (.int (Int32.ofNat (x3 + 1)))] [] 1 (fun f => rfl) ?_
    exact H
  · have c9 : rv = false := ((zcB_ne _).symm.trans c)
    replace H := H.2 c9
    refine zW_gh 50 [some (.ref 75), some (.int (Int32.ofNat x1)), some (.int (Int32.ofNat x2)), some (.int (Int32.ofNat x3))] [.int (Int32.ofNat x3), .int (Int32.ofNat x2), .int (Int32.ofNat x1), .ref 75] 4 (fun f => rfl) ?_
    exact zW_cl rfl rfl rfl rfl rfl H
theorem b184_53 {K : zKt} {code rf rs pr pn : Int32} {bad : Bool} {J : zJt} {m pa pb pc vf vs : Nat → Int32} {B : zBt} {w : Nat → Int64} {p : Nat × Nat} {Q : zR → zH → Prop} {x1 x2 x3 : Nat} (H : zW zm_184 4 [some (.ref 75), some (.int (Int32.ofNat x1)), some (.int (Int32.ofNat (x2 + 1))), some (.int (Int32.ofNat (x3 + 1)))] [] p (zh K (code, rf, rs, bad, pr, pn, J) (m, pa, pb, pc, vf, vs, B) w) Q) : zW zm_184 53 [some (.ref 75), some (.int (Int32.ofNat x1)), some (.int (Int32.ofNat x2)), some (.int (Int32.ofNat x3))] [] p (zh K (code, rf, rs, bad, pr, pn, J) (m, pa, pb, pc, vf, vs, B) w) Q := by
  refine zW_inc [some (.ref 75), some (.int (Int32.ofNat x1)), some (.int ((Int32.ofNat x2) + (1 : Int32))), some (.int (Int32.ofNat x3))] rfl rfl rfl ?_
  rw [show ((Int32.ofNat x2) + (1 : Int32)) = Int32.ofNat (x2 + 1) from (zN_a rfl rfl)]
  refine zW_inc [some (.ref 75), some (.int (Int32.ofNat x1)), some (.int (Int32.ofNat (x2 + 1))), some (.int ((Int32.ofNat x3) + (1 : Int32)))] rfl rfl rfl ?_
  rw [show ((Int32.ofNat x3) + (1 : Int32)) = Int32.ofNat (x3 + 1) from (zN_a rfl rfl)]
  refine zW_gh 4 [some (.ref 75), some (.int (Int32.ofNat x1)), some (.int (Int32.ofNat (x2 + 1))), some (.int (Int32.ofNat (x3 + 1)))] [] 1 (fun f => rfl) ?_
  exact H
theorem b187 {K : zKt} {code rf rs pr pn : Int32} {bad : Bool} {J : zJt} {m pa pb pc vf vs : Nat → Int32} {B : zBt} {w : Nat → Int64} {p : Nat × Nat} {Q : zR → zH → Prop} {a0 a1 a2 : Nat} (H : zW zm_187 3 [some (.ref 75), some (.int (Int32.ofNat a0)), some (.int (Int32.ofNat a1)), some (.int (Int32.ofNat a2)), some (.int (Int32.ofNat 1)), none, none] [] p (zh K (code, rf, rs, bad, pr, pn, J) (m, pa, pb, pc, vf, vs, B) w) Q) : zT zm_187 [.ref 75, .int (Int32.ofNat a0), .int (Int32.ofNat a1), .int (Int32.ofNat a2)] p (zh K (code, rf, rs, bad, pr, pn, J) (m, pa, pb, pc, vf, vs, B) w) Q := by
  change zW zm_187 0 [some (.ref 75), some (.int (Int32.ofNat a0)), some (.int (Int32.ofNat a1)), some (.int (Int32.ofNat a2)), none, none, none] [] p _ Q
  refine zW_gh 3 [some (.ref 75), some (.int (Int32.ofNat a0)), some (.int (Int32.ofNat a1)), some (.int (Int32.ofNat a2)), some (.int (1 : Int32)), none, none] [] 2 (fun f => rfl) ?_
  exact H
theorem b187_3 {K : zKt} {code rf rs pr pn : Int32} {bad : Bool} {J : zJt} {m pa pb pc vf vs : Nat → Int32} {B : zBt} {w : Nat → Int64} {p : Nat × Nat} {Q : zR → zH → Prop} {x1 x2 x3 x4 : Nat} (H : (x4 < 2147483648 ∧ ((x4 = 0 → ((bad = false → zT zm_197 [.ref 75, .int (Int32.ofNat x1), .int (Int32.ofNat x2), .int (Int32.ofNat x3)] p (zh K (code, rf, rs, bad, pr, pn, J) (m, pa, pb, pc, vf, vs, B) w) (zK zm_187 113 [some (.ref 75), some (.int (Int32.ofNat x1)), some (.int (Int32.ofNat x2)), some (.int (Int32.ofNat x3)), none, none, none] [] p Q)) ∧ (bad = true → Q (.inl none) (zh K (code, rf, rs, bad, pr, pn, J) (m, pa, pb, pc, vf, vs, B) w)))) ∧ (¬ x4 = 0 → ((bad = true → ((bad = false → zT zm_197 [.ref 75, .int (Int32.ofNat x1), .int (Int32.ofNat x2), .int (Int32.ofNat x3)] p (zh K (code, rf, rs, bad, pr, pn, J) (m, pa, pb, pc, vf, vs, B) w) (zK zm_187 113 [some (.ref 75), some (.int (Int32.ofNat x1)), some (.int (Int32.ofNat x2)), some (.int (Int32.ofNat x3)), none, none, none] [] p Q)) ∧ (bad = true → Q (.inl none) (zh K (code, rf, rs, bad, pr, pn, J) (m, pa, pb, pc, vf, vs, B) w)))) ∧ (bad = false → zT zm_188 [.ref 75, .int (Int32.ofNat x1), .int (Int32.ofNat x2), .int (Int32.ofNat x3)] p (zh K (code, rf, rs, bad, pr, pn, J) (m, pa, pb, pc, vf, vs, B) w) (zK zm_187 22 [some (.ref 75), some (.int (Int32.ofNat x1)), some (.int (Int32.ofNat x2)), some (.int (Int32.ofNat x3)), none, none, none] [] p Q))))))) : zW zm_187 3 [some (.ref 75), some (.int (Int32.ofNat x1)), some (.int (Int32.ofNat x2)), some (.int (Int32.ofNat x3)), some (.int (Int32.ofNat x4)), none, none] [] p (zh K (code, rf, rs, bad, pr, pn, J) (m, pa, pb, pc, vf, vs, B) w) Q := by
  obtain ⟨h1, H⟩ := H
  refine zW_bh (zcmp .eq (Int32.ofNat x4) (0 : Int32)) 98 8 [some (.ref 75), some (.int (Int32.ofNat x1)), some (.int (Int32.ofNat x2)), some (.int (Int32.ofNat x3)), some (.int (Int32.ofNat x4)), none, none] [] 2 (fun f => rfl) (fun c => ?_) (fun c => ?_)
  · have c9 : x4 = 0 := (of_decide_eq_true ((zcN_eq (a := x4) (b := 0) rfl rfl h1 (by decide)).symm.trans c))
    replace H := H.1 c9
    refine zW_bh (zcmp .eq (zbi bad) (0 : Int32)) 106 105 [some (.ref 75), some (.int (Int32.ofNat x1)), some (.int (Int32.ofNat x2)), some (.int (Int32.ofNat x3)), some (.int (Int32.ofNat x4)), none, none] [] 3 (fun f => rfl) (fun c => ?_) (fun c => ?_)
    · have c9 : bad = false := ((Bool.not_eq_true' _).mp ((zcB_eq _).symm.trans c))
      replace H := H.1 c9
      refine zW_gh 110 [some (.ref 75), some (.int (Int32.ofNat x1)), some (.int (Int32.ofNat x2)), some (.int (Int32.ofNat x3)), some (.int (Int32.ofNat x4)), none, none] [.int (Int32.ofNat x3), .int (Int32.ofNat x2), .int (Int32.ofNat x1), .ref 75] 4 (fun f => rfl) ?_
      refine zW_fg (L' := [some (.ref 75), some (.int (Int32.ofNat x1)), some (.int (Int32.ofNat x2)), some (.int (Int32.ofNat x3)), none, none, none]) (zle_s _ (zle_s _ (zle_s _ (zle_s _ (zle_n _ (zle_s _ (zle_s _ zle_nil))))))) ?_
      exact zW_cl rfl rfl rfl rfl rfl H
    · have c9 : bad = true := ((Bool.not_eq_false' _).mp ((zcB_eq _).symm.trans c))
      replace H := H.2 c9
      exact zW_rh none 1 (fun f => rfl) H
  · have c9 : ¬ x4 = 0 := (of_decide_eq_false ((zcN_eq (a := x4) (b := 0) rfl rfl h1 (by decide)).symm.trans c))
    replace H := H.2 c9
    refine zW_bh (zcmp .ne (zbi bad) (0 : Int32)) 98 15 [some (.ref 75), some (.int (Int32.ofNat x1)), some (.int (Int32.ofNat x2)), some (.int (Int32.ofNat x3)), some (.int (Int32.ofNat x4)), none, none] [] 3 (fun f => rfl) (fun c => ?_) (fun c => ?_)
    · have c9 : bad = true := ((zcB_ne _).symm.trans c)
      replace H := H.1 c9
      refine zW_bh (zcmp .eq (zbi bad) (0 : Int32)) 106 105 [some (.ref 75), some (.int (Int32.ofNat x1)), some (.int (Int32.ofNat x2)), some (.int (Int32.ofNat x3)), some (.int (Int32.ofNat x4)), none, none] [] 3 (fun f => rfl) (fun c => ?_) (fun c => ?_)
      · have c9 : bad = false := ((Bool.not_eq_true' _).mp ((zcB_eq _).symm.trans c))
        replace H := H.1 c9
        refine zW_gh 110 [some (.ref 75), some (.int (Int32.ofNat x1)), some (.int (Int32.ofNat x2)), some (.int (Int32.ofNat x3)), some (.int (Int32.ofNat x4)), none, none] [.int (Int32.ofNat x3), .int (Int32.ofNat x2), .int (Int32.ofNat x1), .ref 75] 4 (fun f => rfl) ?_
        refine zW_fg (L' := [some (.ref 75), some (.int (Int32.ofNat x1)), some (.int (Int32.ofNat x2)), some (.int (Int32.ofNat x3)), none, none, none]) (zle_s _ (zle_s _ (zle_s _ (zle_s _ (zle_n _ (zle_s _ (zle_s _ zle_nil))))))) ?_
        exact zW_cl rfl rfl rfl rfl rfl H
      · have c9 : bad = true := ((Bool.not_eq_false' _).mp ((zcB_eq _).symm.trans c))
        replace H := H.2 c9
        exact zW_rh none 1 (fun f => rfl) H
    · have c9 : bad = false := ((zcB_ne _).symm.trans c)
      replace H := H.2 c9
      refine zW_gh 19 [some (.ref 75), some (.int (Int32.ofNat x1)), some (.int (Int32.ofNat x2)), some (.int (Int32.ofNat x3)), some (.int (Int32.ofNat x4)), none, none] [.int (Int32.ofNat x3), .int (Int32.ofNat x2), .int (Int32.ofNat x1), .ref 75] 4 (fun f => rfl) ?_
      refine zW_fg (L' := [some (.ref 75), some (.int (Int32.ofNat x1)), some (.int (Int32.ofNat x2)), some (.int (Int32.ofNat x3)), none, none, none]) (zle_s _ (zle_s _ (zle_s _ (zle_s _ (zle_n _ (zle_s _ (zle_s _ zle_nil))))))) ?_
      exact zW_cl rfl rfl rfl rfl rfl H
theorem b187_113 {K : zKt} {code rf rs pr pn : Int32} {bad : Bool} {J : zJt} {m pa pb pc vf vs : Nat → Int32} {B : zBt} {w : Nat → Int64} {p : Nat × Nat} {Q : zR → zH → Prop} {x1 x2 x3 : Nat} (H : zW zm_187 116 [some (.ref 75), some (.int (Int32.ofNat x1)), some (.int (Int32.ofNat x2)), some (.int (Int32.ofNat x3)), none, some (.int (Int32.ofNat 0)), none] [] p (zh K (code, rf, rs, bad, pr, pn, J) (m, pa, pb, pc, vf, vs, B) w) Q) : zW zm_187 113 [some (.ref 75), some (.int (Int32.ofNat x1)), some (.int (Int32.ofNat x2)), some (.int (Int32.ofNat x3)), none, none, none] [] p (zh K (code, rf, rs, bad, pr, pn, J) (m, pa, pb, pc, vf, vs, B) w) Q := by
  refine zW_gh 116 [some (.ref 75), some (.int (Int32.ofNat x1)), some (.int (Int32.ofNat x2)), some (.int (Int32.ofNat x3)), none, some (.int (0 : Int32)), none] [] 2 (fun f => rfl) ?_
  exact H
theorem b187_22 {K : zKt} {code rf rs pr pn : Int32} {bad : Bool} {J : zJt} {m pa pb pc vf vs : Nat → Int32} {B : zBt} {w : Nat → Int64} {p : Nat × Nat} {Q : zR → zH → Prop} {x1 x2 x3 : Nat} {rv : Int32} (H : ((rv = (Int32.ofNat x2) → zW zm_187 46 [some (.ref 75), some (.int (Int32.ofNat x1)), some (.int (Int32.ofNat x2)), some (.int (Int32.ofNat x3)), none, none, some (.int (Int32.ofNat (x2 + 1)))] [] p (zh K (code, rf, rs, bad, pr, pn, J) (m, pa, pb, pc, vf, vs, B) w) Q) ∧ (¬ rv = (Int32.ofNat x2) → zT zm_174 [.ref 75, .int (Int32.ofNat x1), .int (0 : Int32), .int (Int32.ofNat x2), .int rv, .int (0 : Int32), .int (0 : Int32)] p (zh K (code, rf, rs, bad, pr, pn, J) (m, pa, pb, pc, vf, vs, B) w) (zK zm_187 41 [some (.ref 75), some (.int (Int32.ofNat x1)), some (.int (Int32.ofNat x2)), some (.int (Int32.ofNat x3)), none, none, none] [] p Q)))) : zW zm_187 22 [some (.ref 75), some (.int (Int32.ofNat x1)), some (.int (Int32.ofNat x2)), some (.int (Int32.ofNat x3)), none, none, none] [.int rv] p (zh K (code, rf, rs, bad, pr, pn, J) (m, pa, pb, pc, vf, vs, B) w) Q := by
  refine zW_bh (zcmp .eq rv (Int32.ofNat x2)) 41 30 [some (.ref 75), some (.int (Int32.ofNat x1)), some (.int (Int32.ofNat x2)), some (.int (Int32.ofNat x3)), none, some (.int rv), none] [] 4 (fun f => rfl) (fun c => ?_) (fun c => ?_)
  · have c9 : rv = (Int32.ofNat x2) := (of_decide_eq_true c)
    replace H := H.1 c9
    refine zW_gh 46 [some (.ref 75), some (.int (Int32.ofNat x1)), some (.int (Int32.ofNat x2)), some (.int (Int32.ofNat x3)), none, some (.int rv), some (.int ((Int32.ofNat x2) + (1 : Int32)))] [] 4 (fun f => rfl) ?_
    rw [show ((Int32.ofNat x2) + (1 : Int32)) = Int32.ofNat (x2 + 1) from (zN_a rfl rfl)]
    refine zW_fg (L' := [some (.ref 75), some (.int (Int32.ofNat x1)), some (.int (Int32.ofNat x2)), some (.int (Int32.ofNat x3)), none, none, some (.int (Int32.ofNat (x2 + 1)))]) (zle_s _ (zle_s _ (zle_s _ (zle_s _ (zle_s _ (zle_n _ (zle_s _ zle_nil))))))) ?_
    exact H
  · have c9 : ¬ rv = (Int32.ofNat x2) := (of_decide_eq_false c)
    replace H := H.2 c9
    refine zW_gh 38 [some (.ref 75), some (.int (Int32.ofNat x1)), some (.int (Int32.ofNat x2)), some (.int (Int32.ofNat x3)), none, some (.int rv), none] [.int (0 : Int32), .int (0 : Int32), .int rv, .int (Int32.ofNat x2), .int (0 : Int32), .int (Int32.ofNat x1), .ref 75] 7 (fun f => rfl) ?_
    refine zW_fg (L' := [some (.ref 75), some (.int (Int32.ofNat x1)), some (.int (Int32.ofNat x2)), some (.int (Int32.ofNat x3)), none, none, none]) (zle_s _ (zle_s _ (zle_s _ (zle_s _ (zle_s _ (zle_n _ (zle_s _ zle_nil))))))) ?_
    exact zW_cl rfl rfl rfl rfl rfl H
theorem b187_116 {K : zKt} {code rf rs pr pn : Int32} {bad : Bool} {J : zJt} {m pa pb pc vf vs : Nat → Int32} {B : zBt} {w : Nat → Int64} {p : Nat × Nat} {Q : zR → zH → Prop} {x1 x2 x3 x5 : Nat} (H : (x5 < 2147483648 ∧ (x2 < 2147483648 ∧ ((x2 ≤ x5 → Q (.inl none) (zh K (code, rf, rs, bad, pr, pn, J) (m, pa, pb, pc, vf, vs, B) w)) ∧ (x5 < x2 → zT zm_190 [.ref 75, .int (Int32.ofNat x1), .int (zbi false), .int (Int32.ofNat x5), .int (Int32.ofNat x2), .int (Int32.ofNat x3)] p (zh K (code, rf, rs, bad, pr, pn, J) (m, pa, pb, pc, vf, vs, B) w) (zK zm_187 132 [some (.ref 75), some (.int (Int32.ofNat x1)), some (.int (Int32.ofNat x2)), some (.int (Int32.ofNat x3)), none, some (.int (Int32.ofNat x5)), none] [] p Q)))))) : zW zm_187 116 [some (.ref 75), some (.int (Int32.ofNat x1)), some (.int (Int32.ofNat x2)), some (.int (Int32.ofNat x3)), none, some (.int (Int32.ofNat x5)), none] [] p (zh K (code, rf, rs, bad, pr, pn, J) (m, pa, pb, pc, vf, vs, B) w) Q := by
  obtain ⟨h1, H⟩ := H
  obtain ⟨h2, H⟩ := H
  refine zW_bh (zcmp .ge (Int32.ofNat x5) (Int32.ofNat x2)) 138 122 [some (.ref 75), some (.int (Int32.ofNat x1)), some (.int (Int32.ofNat x2)), some (.int (Int32.ofNat x3)), none, some (.int (Int32.ofNat x5)), none] [] 3 (fun f => rfl) (fun c => ?_) (fun c => ?_)
  · have c9 : x2 ≤ x5 := (of_decide_eq_true ((zcN_ge (a := x5) (b := x2) rfl rfl h1 h2).symm.trans c))
    replace H := H.1 c9
    exact zW_rh none 1 (fun f => rfl) H
  · have c9 : x5 < x2 := (Nat.lt_of_not_le (of_decide_eq_false ((zcN_ge (a := x5) (b := x2) rfl rfl h1 h2).symm.trans c)))
    replace H := H.2 c9
    refine zW_gh 129 [some (.ref 75), some (.int (Int32.ofNat x1)), some (.int (Int32.ofNat x2)), some (.int (Int32.ofNat x3)), none, some (.int (Int32.ofNat x5)), none] [.int (Int32.ofNat x3), .int (Int32.ofNat x2), .int (Int32.ofNat x5), .int (0 : Int32), .int (Int32.ofNat x1), .ref 75] 6 (fun f => rfl) ?_
    exact zW_cl rfl rfl rfl rfl rfl H
theorem b187_46 {K : zKt} {code rf rs pr pn : Int32} {bad : Bool} {J : zJt} {m pa pb pc vf vs : Nat → Int32} {B : zBt} {w : Nat → Int64} {p : Nat × Nat} {Q : zR → zH → Prop} {x1 x2 x3 x6 : Nat} (H : ((x1 + 1) < 5340 ∧ (((m (x1 + 1)) ≤ (Int32.ofNat x6) → zT zm_185 [.ref 75, .int (Int32.ofNat x1), .int (zbi false), .int ((Int32.ofNat x2) + (1 : Int32)), .int (Int32.ofNat x3)] p (zh K (code, rf, rs, bad, pr, pn, J) (m, pa, pb, pc, vf, vs, B) w) (zK zm_187 85 [some (.ref 75), some (.int (Int32.ofNat x1)), some (.int (Int32.ofNat x2)), some (.int (Int32.ofNat x3)), none, none, none] [] p Q)) ∧ (¬ (m (x1 + 1)) ≤ (Int32.ofNat x6) → zT zm_190 [.ref 75, .int (Int32.ofNat x1), .int (zbi false), .int (Int32.ofNat x6), .int (Int32.ofNat x2), .int (Int32.ofNat x3)] p (zh K (code, rf, rs, bad, pr, pn, J) (m, pa, pb, pc, vf, vs, B) w) (zK zm_187 69 [some (.ref 75), some (.int (Int32.ofNat x1)), some (.int (Int32.ofNat x2)), some (.int (Int32.ofNat x3)), none, none, some (.int (Int32.ofNat x6))] [] p Q))))) : zW zm_187 46 [some (.ref 75), some (.int (Int32.ofNat x1)), some (.int (Int32.ofNat x2)), some (.int (Int32.ofNat x3)), none, none, some (.int (Int32.ofNat x6))] [] p (zh K (code, rf, rs, bad, pr, pn, J) (m, pa, pb, pc, vf, vs, B) w) Q := by
  refine zW_gh 55 [some (.ref 75), some (.int (Int32.ofNat x1)), some (.int (Int32.ofNat x2)), some (.int (Int32.ofNat x3)), none, none, some (.int (Int32.ofNat x6))] [.int ((Int32.ofNat x1) + (1 : Int32)), .ref 76, .int (Int32.ofNat x6)] 6 (fun f => rfl) ?_
  obtain ⟨h1, H⟩ := H
  refine zW_iald rfl (by decide) rfl (by decide) (zN_a rfl rfl) h1 ?_
  refine zW_bh (zcmp .ge (Int32.ofNat x6) (m (x1 + 1))) 75 59 [some (.ref 75), some (.int (Int32.ofNat x1)), some (.int (Int32.ofNat x2)), some (.int (Int32.ofNat x3)), none, none, some (.int (Int32.ofNat x6))] [] 1 (fun f => rfl) (fun c => ?_) (fun c => ?_)
  · have c9 : (m (x1 + 1)) ≤ (Int32.ofNat x6) := (of_decide_eq_true c)
    replace H := H.1 c9
    refine zW_gh 82 [some (.ref 75), some (.int (Int32.ofNat x1)), some (.int (Int32.ofNat x2)), some (.int (Int32.ofNat x3)), none, none, some (.int (Int32.ofNat x6))] [.int (Int32.ofNat x3), .int ((Int32.ofNat x2) + (1 : Int32)), .int (0 : Int32), .int (Int32.ofNat x1), .ref 75] 7 (fun f => rfl) ?_
    refine zW_fg (L' := [some (.ref 75), some (.int (Int32.ofNat x1)), some (.int (Int32.ofNat x2)), some (.int (Int32.ofNat x3)), none, none, none]) (zle_s _ (zle_s _ (zle_s _ (zle_s _ (zle_s _ (zle_s _ (zle_n _ zle_nil))))))) ?_
    exact zW_cl rfl rfl rfl rfl rfl H
  · have c9 : ¬ (m (x1 + 1)) ≤ (Int32.ofNat x6) := (of_decide_eq_false c)
    replace H := H.2 c9
    refine zW_gh 66 [some (.ref 75), some (.int (Int32.ofNat x1)), some (.int (Int32.ofNat x2)), some (.int (Int32.ofNat x3)), none, none, some (.int (Int32.ofNat x6))] [.int (Int32.ofNat x3), .int (Int32.ofNat x2), .int (Int32.ofNat x6), .int (0 : Int32), .int (Int32.ofNat x1), .ref 75] 6 (fun f => rfl) ?_
    exact zW_cl rfl rfl rfl rfl rfl H
theorem b187_41 {K : zKt} {code rf rs pr pn : Int32} {bad : Bool} {J : zJt} {m pa pb pc vf vs : Nat → Int32} {B : zBt} {w : Nat → Int64} {p : Nat × Nat} {Q : zR → zH → Prop} {x1 x2 x3 : Nat} (H : zW zm_187 46 [some (.ref 75), some (.int (Int32.ofNat x1)), some (.int (Int32.ofNat x2)), some (.int (Int32.ofNat x3)), none, none, some (.int (Int32.ofNat (x2 + 1)))] [] p (zh K (code, rf, rs, bad, pr, pn, J) (m, pa, pb, pc, vf, vs, B) w) Q) : zW zm_187 41 [some (.ref 75), some (.int (Int32.ofNat x1)), some (.int (Int32.ofNat x2)), some (.int (Int32.ofNat x3)), none, none, none] [] p (zh K (code, rf, rs, bad, pr, pn, J) (m, pa, pb, pc, vf, vs, B) w) Q := by
  refine zW_gh 46 [some (.ref 75), some (.int (Int32.ofNat x1)), some (.int (Int32.ofNat x2)), some (.int (Int32.ofNat x3)), none, none, some (.int ((Int32.ofNat x2) + (1 : Int32)))] [] 4 (fun f => rfl) ?_
  rw [show ((Int32.ofNat x2) + (1 : Int32)) = Int32.ofNat (x2 + 1) from (zN_a rfl rfl)]
  exact H
theorem b187_132 {K : zKt} {code rf rs pr pn : Int32} {bad : Bool} {J : zJt} {m pa pb pc vf vs : Nat → Int32} {B : zBt} {w : Nat → Int64} {p : Nat × Nat} {Q : zR → zH → Prop} {x1 x2 x3 x5 : Nat} (H : zW zm_187 116 [some (.ref 75), some (.int (Int32.ofNat x1)), some (.int (Int32.ofNat x2)), some (.int (Int32.ofNat x3)), none, some (.int (Int32.ofNat (x5 + 1))), none] [] p (zh K (code, rf, rs, bad, pr, pn, J) (m, pa, pb, pc, vf, vs, B) w) Q) : zW zm_187 132 [some (.ref 75), some (.int (Int32.ofNat x1)), some (.int (Int32.ofNat x2)), some (.int (Int32.ofNat x3)), none, some (.int (Int32.ofNat x5)), none] [] p (zh K (code, rf, rs, bad, pr, pn, J) (m, pa, pb, pc, vf, vs, B) w) Q := by
  refine zW_inc [some (.ref 75), some (.int (Int32.ofNat x1)), some (.int (Int32.ofNat x2)), some (.int (Int32.ofNat x3)), none, some (.int ((Int32.ofNat x5) + (1 : Int32))), none] rfl rfl rfl ?_
  rw [show ((Int32.ofNat x5) + (1 : Int32)) = Int32.ofNat (x5 + 1) from (zN_a rfl rfl)]
  refine zW_gh 116 [some (.ref 75), some (.int (Int32.ofNat x1)), some (.int (Int32.ofNat x2)), some (.int (Int32.ofNat x3)), none, some (.int (Int32.ofNat (x5 + 1))), none] [] 1 (fun f => rfl) ?_
  exact H
theorem b187_85 {K : zKt} {code rf rs pr pn : Int32} {bad : Bool} {J : zJt} {m pa pb pc vf vs : Nat → Int32} {B : zBt} {w : Nat → Int64} {p : Nat × Nat} {Q : zR → zH → Prop} {x1 x2 x3 : Nat} {rv : Bool} (H : ((rv = true → zW zm_187 3 [some (.ref 75), some (.int (Int32.ofNat x1)), some (.int (Int32.ofNat x2)), some (.int (Int32.ofNat x3)), some (.int (Int32.ofNat 0)), none, none] [] p (zh K (code, rf, rs, bad, pr, pn, J) (m, pa, pb, pc, vf, vs, B) w) Q) ∧ (rv = false → zW zm_187 3 [some (.ref 75), some (.int (Int32.ofNat x1)), some (.int (Int32.ofNat x2)), some (.int (Int32.ofNat x3)), some (.int (Int32.ofNat 1)), none, none] [] p (zh K (code, rf, rs, bad, pr, pn, J) (m, pa, pb, pc, vf, vs, B) w) Q))) : zW zm_187 85 [some (.ref 75), some (.int (Int32.ofNat x1)), some (.int (Int32.ofNat x2)), some (.int (Int32.ofNat x3)), none, none, none] [.int (zbi rv)] p (zh K (code, rf, rs, bad, pr, pn, J) (m, pa, pb, pc, vf, vs, B) w) Q := by
  refine zW_bh (zcmp .ne (zbi rv) (0 : Int32)) 92 88 [some (.ref 75), some (.int (Int32.ofNat x1)), some (.int (Int32.ofNat x2)), some (.int (Int32.ofNat x3)), none, none, none] [] 1 (fun f => rfl) (fun c => ?_) (fun c => ?_)
  · have c9 : rv = true := ((zcB_ne _).symm.trans c)
    replace H := H.1 c9
    refine zW_gh 3 [some (.ref 75), some (.int (Int32.ofNat x1)), some (.int (Int32.ofNat x2)), some (.int (Int32.ofNat x3)), some (.int (0 : Int32)), none, none] [] 3 (fun f => rfl) ?_
    exact H
  · have c9 : rv = false := ((zcB_ne _).symm.trans c)
    replace H := H.2 c9
    refine zW_gh 3 [some (.ref 75), some (.int (Int32.ofNat x1)), some (.int (Int32.ofNat x2)), some (.int (Int32.ofNat x3)), some (.int (1 : Int32)), none, none] [] 4 (fun f => rfl) ?_
    exact H
theorem b187_69 {K : zKt} {code rf rs pr pn : Int32} {bad : Bool} {J : zJt} {m pa pb pc vf vs : Nat → Int32} {B : zBt} {w : Nat → Int64} {p : Nat × Nat} {Q : zR → zH → Prop} {x1 x2 x3 x6 : Nat} (H : zW zm_187 46 [some (.ref 75), some (.int (Int32.ofNat x1)), some (.int (Int32.ofNat x2)), some (.int (Int32.ofNat x3)), none, none, some (.int (Int32.ofNat (x6 + 1)))] [] p (zh K (code, rf, rs, bad, pr, pn, J) (m, pa, pb, pc, vf, vs, B) w) Q) : zW zm_187 69 [some (.ref 75), some (.int (Int32.ofNat x1)), some (.int (Int32.ofNat x2)), some (.int (Int32.ofNat x3)), none, none, some (.int (Int32.ofNat x6))] [] p (zh K (code, rf, rs, bad, pr, pn, J) (m, pa, pb, pc, vf, vs, B) w) Q := by
  refine zW_inc [some (.ref 75), some (.int (Int32.ofNat x1)), some (.int (Int32.ofNat x2)), some (.int (Int32.ofNat x3)), none, none, some (.int ((Int32.ofNat x6) + (1 : Int32)))] rfl rfl rfl ?_
  rw [show ((Int32.ofNat x6) + (1 : Int32)) = Int32.ofNat (x6 + 1) from (zN_a rfl rfl)]
  refine zW_gh 46 [some (.ref 75), some (.int (Int32.ofNat x1)), some (.int (Int32.ofNat x2)), some (.int (Int32.ofNat x3)), none, none, some (.int (Int32.ofNat (x6 + 1)))] [] 1 (fun f => rfl) ?_
  exact H
theorem b201 {K : zKt} {code rf rs pr pn : Int32} {bad : Bool} {J : zJt} {m pa pb pc vf vs : Nat → Int32} {B : zBt} {w : Nat → Int64} {p : Nat × Nat} {Q : zR → zH → Prop} {a0 a1 : Nat} (H : zW zm_201 5 [some (.ref 75), some (.int (Int32.ofNat a0)), some (.int (Int32.ofNat a1)), some (.long (0 : Int64)), none, some (.int (Int32.ofNat a1)), none, none, none, none] [] p (zh K (code, rf, rs, bad, pr, pn, J) (m, pa, pb, pc, vf, vs, B) w) Q) : zT zm_201 [.ref 75, .int (Int32.ofNat a0), .int (Int32.ofNat a1)] p (zh K (code, rf, rs, bad, pr, pn, J) (m, pa, pb, pc, vf, vs, B) w) Q := by
  change zW zm_201 0 [some (.ref 75), some (.int (Int32.ofNat a0)), some (.int (Int32.ofNat a1)), none, none, none, none, none, none, none] [] p _ Q
  refine zW_gh 5 [some (.ref 75), some (.int (Int32.ofNat a0)), some (.int (Int32.ofNat a1)), some (.long (0 : Int64)), none, some (.int (Int32.ofNat a1)), none, none, none, none] [] 4 (fun f => rfl) ?_
  exact H
theorem b201_5 {K : zKt} {code rf rs pr pn : Int32} {bad : Bool} {J : zJt} {m pa pb pc vf vs : Nat → Int32} {B : zBt} {w : Nat → Int64} {p : Nat × Nat} {Q : zR → zH → Prop} {x1 x2 x5 : Nat} {x3 : Int64} (H : ((x1 + 1) < 5340 ∧ (((m (x1 + 1)) ≤ (Int32.ofNat x5) → ((x3 ≤ (0 : Int64) → Q (.inl (some (.int (0 : Int32)))) (zh K (code, rf, rs, bad, pr, pn, J) (m, pa, pb, pc, vf, vs, B) w)) ∧ (¬ x3 ≤ (0 : Int64) → Q (.inl (some (.int (1 : Int32)))) (zh K (code, rf, rs, bad, pr, pn, J) (m, pa, pb, pc, vf, vs, B) w)))) ∧ (¬ (m (x1 + 1)) ≤ (Int32.ofNat x5) → zW zm_201 21 [some (.ref 75), some (.int (Int32.ofNat x1)), some (.int (Int32.ofNat x2)), some (.long x3), none, some (.int (Int32.ofNat x5)), some (.int (Int32.ofNat x2)), none, none, none] [] p (zh K (code, rf, rs, bad, pr, pn, J) (m, pa, pb, pc, vf, vs, B) w) Q)))) : zW zm_201 5 [some (.ref 75), some (.int (Int32.ofNat x1)), some (.int (Int32.ofNat x2)), some (.long x3), none, some (.int (Int32.ofNat x5)), none, none, none, none] [] p (zh K (code, rf, rs, bad, pr, pn, J) (m, pa, pb, pc, vf, vs, B) w) Q := by
  refine zW_gh 14 [some (.ref 75), some (.int (Int32.ofNat x1)), some (.int (Int32.ofNat x2)), some (.long x3), none, some (.int (Int32.ofNat x5)), none, none, none, none] [.int ((Int32.ofNat x1) + (1 : Int32)), .ref 76, .int (Int32.ofNat x5)] 6 (fun f => rfl) ?_
  obtain ⟨h1, H⟩ := H
  refine zW_iald rfl (by decide) rfl (by decide) (zN_a rfl rfl) h1 ?_
  refine zW_bh (zcmp .ge (Int32.ofNat x5) (m (x1 + 1))) 121 18 [some (.ref 75), some (.int (Int32.ofNat x1)), some (.int (Int32.ofNat x2)), some (.long x3), none, some (.int (Int32.ofNat x5)), none, none, none, none] [] 1 (fun f => rfl) (fun c => ?_) (fun c => ?_)
  · have c9 : (m (x1 + 1)) ≤ (Int32.ofNat x5) := (of_decide_eq_true c)
    replace H := H.1 c9
    refine zW_bh (zcmp .le (lg_cmp x3 (0 : Int64)) (0 : Int32)) 131 127 [some (.ref 75), some (.int (Int32.ofNat x1)), some (.int (Int32.ofNat x2)), some (.long x3), none, some (.int (Int32.ofNat x5)), none, none, none, none] [] 4 (fun f => rfl) (fun c => ?_) (fun c => ?_)
    · have c9 : x3 ≤ (0 : Int64) := (of_decide_eq_true ((zcL_le _ _).symm.trans c))
      replace H := H.1 c9
      refine zW_gh 132 [some (.ref 75), some (.int (Int32.ofNat x1)), some (.int (Int32.ofNat x2)), some (.long x3), none, some (.int (Int32.ofNat x5)), none, none, none, none] [.int (0 : Int32)] 1 (fun f => rfl) ?_
      exact zW_rh (some (.int (0 : Int32))) 1 (fun f => rfl) H
    · have c9 : ¬ x3 ≤ (0 : Int64) := (of_decide_eq_false ((zcL_le _ _).symm.trans c))
      replace H := H.2 c9
      refine zW_gh 132 [some (.ref 75), some (.int (Int32.ofNat x1)), some (.int (Int32.ofNat x2)), some (.long x3), none, some (.int (Int32.ofNat x5)), none, none, none, none] [.int (1 : Int32)] 2 (fun f => rfl) ?_
      exact zW_rh (some (.int (1 : Int32))) 1 (fun f => rfl) H
  · have c9 : ¬ (m (x1 + 1)) ≤ (Int32.ofNat x5) := (of_decide_eq_false c)
    replace H := H.2 c9
    refine zW_gh 21 [some (.ref 75), some (.int (Int32.ofNat x1)), some (.int (Int32.ofNat x2)), some (.long x3), none, some (.int (Int32.ofNat x5)), some (.int (Int32.ofNat x2)), none, none, none] [] 2 (fun f => rfl) ?_
    exact H
theorem b201_21 {K : zKt} {code rf rs pr pn : Int32} {bad : Bool} {J : zJt} {m pa pb pc vf vs : Nat → Int32} {B : zBt} {w : Nat → Int64} {p : Nat × Nat} {Q : zR → zH → Prop} {x1 x2 x5 x6 : Nat} {x3 : Int64} (H : ((x1 + 2) < 5340 ∧ (((m (x1 + 2)) ≤ (Int32.ofNat x6) → zW zm_201 5 [some (.ref 75), some (.int (Int32.ofNat x1)), some (.int (Int32.ofNat x2)), some (.long x3), none, some (.int (Int32.ofNat (x5 + 1))), none, none, none, none] [] p (zh K (code, rf, rs, bad, pr, pn, J) (m, pa, pb, pc, vf, vs, B) w) Q) ∧ (¬ (m (x1 + 2)) ≤ (Int32.ofNat x6) → ((x1 + 0) < 5340 ∧ ((((x1 + 4) + (8 * x5)) + (2 * x6)) < 5340 ∧ (((((x1 + 4) + (8 * x5)) + (2 * x6)) + 1) < 5340 ∧ zT zm_189 [.ref 75, .int (m (x1 + 0)), .int (m (((x1 + 4) + (8 * x5)) + (2 * x6))), .int (m ((((x1 + 4) + (8 * x5)) + (2 * x6)) + 1))] p (zh K (code, rf, rs, bad, pr, pn, J) (m, pa, pb, pc, vf, vs, B) w) (zK zm_201 72 [some (.ref 75), some (.int (Int32.ofNat x1)), some (.int (Int32.ofNat x2)), some (.long x3), none, some (.int (Int32.ofNat x5)), some (.int (Int32.ofNat x6)), none, none, none] [] p Q)))))))) : zW zm_201 21 [some (.ref 75), some (.int (Int32.ofNat x1)), some (.int (Int32.ofNat x2)), some (.long x3), none, some (.int (Int32.ofNat x5)), some (.int (Int32.ofNat x6)), none, none, none] [] p (zh K (code, rf, rs, bad, pr, pn, J) (m, pa, pb, pc, vf, vs, B) w) Q := by
  refine zW_gh 30 [some (.ref 75), some (.int (Int32.ofNat x1)), some (.int (Int32.ofNat x2)), some (.long x3), none, some (.int (Int32.ofNat x5)), some (.int (Int32.ofNat x6)), none, none, none] [.int ((Int32.ofNat x1) + (2 : Int32)), .ref 76, .int (Int32.ofNat x6)] 6 (fun f => rfl) ?_
  obtain ⟨h1, H⟩ := H
  refine zW_iald rfl (by decide) rfl (by decide) (zN_a rfl rfl) h1 ?_
  refine zW_bh (zcmp .ge (Int32.ofNat x6) (m (x1 + 2))) 115 34 [some (.ref 75), some (.int (Int32.ofNat x1)), some (.int (Int32.ofNat x2)), some (.long x3), none, some (.int (Int32.ofNat x5)), some (.int (Int32.ofNat x6)), none, none, none] [] 1 (fun f => rfl) (fun c => ?_) (fun c => ?_)
  · have c9 : (m (x1 + 2)) ≤ (Int32.ofNat x6) := (of_decide_eq_true c)
    replace H := H.1 c9
    refine zW_inc [some (.ref 75), some (.int (Int32.ofNat x1)), some (.int (Int32.ofNat x2)), some (.long x3), none, some (.int ((Int32.ofNat x5) + (1 : Int32))), some (.int (Int32.ofNat x6)), none, none, none] rfl rfl rfl ?_
    rw [show ((Int32.ofNat x5) + (1 : Int32)) = Int32.ofNat (x5 + 1) from (zN_a rfl rfl)]
    refine zW_gh 5 [some (.ref 75), some (.int (Int32.ofNat x1)), some (.int (Int32.ofNat x2)), some (.long x3), none, some (.int (Int32.ofNat (x5 + 1))), some (.int (Int32.ofNat x6)), none, none, none] [] 1 (fun f => rfl) ?_
    refine zW_fg (L' := [some (.ref 75), some (.int (Int32.ofNat x1)), some (.int (Int32.ofNat x2)), some (.long x3), none, some (.int (Int32.ofNat (x5 + 1))), none, none, none, none]) (zle_s _ (zle_s _ (zle_s _ (zle_s _ (zle_s _ (zle_s _ (zle_n _ (zle_s _ (zle_s _ (zle_s _ zle_nil)))))))))) ?_
    exact H
  · have c9 : ¬ (m (x1 + 2)) ≤ (Int32.ofNat x6) := (of_decide_eq_false c)
    replace H := H.2 c9
    refine zW_gh 39 [some (.ref 75), some (.int (Int32.ofNat x1)), some (.int (Int32.ofNat x2)), some (.long x3), none, some (.int (Int32.ofNat x5)), some (.int (Int32.ofNat x6)), none, none, none] [.int (Int32.ofNat x6), .int (Int32.ofNat x5), .int (Int32.ofNat x1)] 3 (fun f => rfl) ?_
    refine zW_cl rfl rfl rfl rfl rfl (s151 ?_)
    change zW zm_201 42 [some (.ref 75), some (.int (Int32.ofNat x1)), some (.int (Int32.ofNat x2)), some (.long x3), none, some (.int (Int32.ofNat x5)), some (.int (Int32.ofNat x6)), none, none, none] [.int ((((Int32.ofNat x1) + (4 : Int32)) + ((8 : Int32) * (Int32.ofNat x5))) + ((2 : Int32) * (Int32.ofNat x6)))] p _ Q
    refine zW_gh 44 [some (.ref 75), some (.int (Int32.ofNat x1)), some (.int (Int32.ofNat x2)), some (.long x3), none, some (.int (Int32.ofNat x5)), some (.int (Int32.ofNat x6)), some (.int ((((Int32.ofNat x1) + (4 : Int32)) + ((8 : Int32) * (Int32.ofNat x5))) + ((2 : Int32) * (Int32.ofNat x6)))), none, none] [] 1 (fun f => rfl) ?_
    rw [show ((((Int32.ofNat x1) + (4 : Int32)) + ((8 : Int32) * (Int32.ofNat x5))) + ((2 : Int32) * (Int32.ofNat x6))) = Int32.ofNat (((x1 + 4) + (8 * x5)) + (2 * x6)) from (zN_a (zN_a (zN_a rfl rfl) (zN_m rfl rfl)) (zN_m rfl rfl))]
    refine zW_gh 52 [some (.ref 75), some (.int (Int32.ofNat x1)), some (.int (Int32.ofNat x2)), some (.long x3), none, some (.int (Int32.ofNat x5)), some (.int (Int32.ofNat x6)), some (.int (Int32.ofNat (((x1 + 4) + (8 * x5)) + (2 * x6)))), none, none] [.int ((Int32.ofNat x1) + (0 : Int32)), .ref 76, .ref 75] 6 (fun f => rfl) ?_
    obtain ⟨h2, H⟩ := H
    refine zW_iald rfl (by decide) rfl (by decide) (zN_a rfl rfl) h2 ?_
    refine zW_gh 59 [some (.ref 75), some (.int (Int32.ofNat x1)), some (.int (Int32.ofNat x2)), some (.long x3), none, some (.int (Int32.ofNat x5)), some (.int (Int32.ofNat x6)), some (.int (Int32.ofNat (((x1 + 4) + (8 * x5)) + (2 * x6)))), none, none] [.int (Int32.ofNat (((x1 + 4) + (8 * x5)) + (2 * x6))), .ref 76, .int (m (x1 + 0)), .ref 75] 3 (fun f => rfl) ?_
    obtain ⟨h3, H⟩ := H
    refine zW_iald rfl (by decide) rfl (by decide) rfl h3 ?_
    refine zW_gh 68 [some (.ref 75), some (.int (Int32.ofNat x1)), some (.int (Int32.ofNat x2)), some (.long x3), none, some (.int (Int32.ofNat x5)), some (.int (Int32.ofNat x6)), some (.int (Int32.ofNat (((x1 + 4) + (8 * x5)) + (2 * x6)))), none, none] [.int ((Int32.ofNat (((x1 + 4) + (8 * x5)) + (2 * x6))) + (1 : Int32)), .ref 76, .int (m (((x1 + 4) + (8 * x5)) + (2 * x6))), .int (m (x1 + 0)), .ref 75] 5 (fun f => rfl) ?_
    obtain ⟨h4, H⟩ := H
    refine zW_iald rfl (by decide) rfl (by decide) (zN_a rfl rfl) h4 ?_
    refine zW_fg (L' := [some (.ref 75), some (.int (Int32.ofNat x1)), some (.int (Int32.ofNat x2)), some (.long x3), none, some (.int (Int32.ofNat x5)), some (.int (Int32.ofNat x6)), none, none, none]) (zle_s _ (zle_s _ (zle_s _ (zle_s _ (zle_s _ (zle_s _ (zle_s _ (zle_n _ (zle_s _ (zle_s _ zle_nil)))))))))) ?_
    exact zW_cl rfl rfl rfl rfl rfl H
theorem b201_72 {K : zKt} {code rf rs pr pn : Int32} {bad : Bool} {J : zJt} {m pa pb pc vf vs : Nat → Int32} {B : zBt} {w : Nat → Int64} {p : Nat × Nat} {Q : zR → zH → Prop} {x1 x2 x5 x6 : Nat} {x3 rv : Int64} (H : ((rv ≤ (0 : Int64) → zW zm_201 21 [some (.ref 75), some (.int (Int32.ofNat x1)), some (.int (Int32.ofNat x2)), some (.long x3), none, some (.int (Int32.ofNat x5)), some (.int (Int32.ofNat (x6 + 1))), none, none, none] [] p (zh K (code, rf, rs, bad, pr, pn, J) (m, pa, pb, pc, vf, vs, B) w) Q) ∧ (¬ rv ≤ (0 : Int64) → ((x3 = (0 : Int64) → zW zm_201 21 [some (.ref 75), some (.int (Int32.ofNat x1)), some (.int (Int32.ofNat x2)), some (.long rv), none, some (.int (Int32.ofNat x5)), some (.int (Int32.ofNat (x6 + 1))), none, none, none] [] p (zh K (code, rf, rs, bad, (Int32.ofNat x5), (Int32.ofNat x6), J) (m, pa, pb, pc, vf, vs, B) w) Q) ∧ (¬ x3 = (0 : Int64) → ((x3 ≤ rv → zW zm_201 21 [some (.ref 75), some (.int (Int32.ofNat x1)), some (.int (Int32.ofNat x2)), some (.long x3), none, some (.int (Int32.ofNat x5)), some (.int (Int32.ofNat (x6 + 1))), none, none, none] [] p (zh K (code, rf, rs, bad, pr, pn, J) (m, pa, pb, pc, vf, vs, B) w) Q) ∧ (¬ x3 ≤ rv → zW zm_201 21 [some (.ref 75), some (.int (Int32.ofNat x1)), some (.int (Int32.ofNat x2)), some (.long rv), none, some (.int (Int32.ofNat x5)), some (.int (Int32.ofNat (x6 + 1))), none, none, none] [] p (zh K (code, rf, rs, bad, (Int32.ofNat x5), (Int32.ofNat x6), J) (m, pa, pb, pc, vf, vs, B) w) Q))))))) : zW zm_201 72 [some (.ref 75), some (.int (Int32.ofNat x1)), some (.int (Int32.ofNat x2)), some (.long x3), none, some (.int (Int32.ofNat x5)), some (.int (Int32.ofNat x6)), none, none, none] [.long rv] p (zh K (code, rf, rs, bad, pr, pn, J) (m, pa, pb, pc, vf, vs, B) w) Q := by
  refine zW_bh (zcmp .le (lg_cmp rv (0 : Int64)) (0 : Int32)) 109 81 [some (.ref 75), some (.int (Int32.ofNat x1)), some (.int (Int32.ofNat x2)), some (.long x3), none, some (.int (Int32.ofNat x5)), some (.int (Int32.ofNat x6)), none, some (.long rv), none] [] 5 (fun f => rfl) (fun c => ?_) (fun c => ?_)
  · have c9 : rv ≤ (0 : Int64) := (of_decide_eq_true ((zcL_le _ _).symm.trans c))
    replace H := H.1 c9
    refine zW_inc [some (.ref 75), some (.int (Int32.ofNat x1)), some (.int (Int32.ofNat x2)), some (.long x3), none, some (.int (Int32.ofNat x5)), some (.int ((Int32.ofNat x6) + (1 : Int32))), none, some (.long rv), none] rfl rfl rfl ?_
    rw [show ((Int32.ofNat x6) + (1 : Int32)) = Int32.ofNat (x6 + 1) from (zN_a rfl rfl)]
    refine zW_gh 21 [some (.ref 75), some (.int (Int32.ofNat x1)), some (.int (Int32.ofNat x2)), some (.long x3), none, some (.int (Int32.ofNat x5)), some (.int (Int32.ofNat (x6 + 1))), none, some (.long rv), none] [] 1 (fun f => rfl) ?_
    refine zW_fg (L' := [some (.ref 75), some (.int (Int32.ofNat x1)), some (.int (Int32.ofNat x2)), some (.long x3), none, some (.int (Int32.ofNat x5)), some (.int (Int32.ofNat (x6 + 1))), none, none, none]) (zle_s _ (zle_s _ (zle_s _ (zle_s _ (zle_s _ (zle_s _ (zle_s _ (zle_s _ (zle_n _ (zle_s _ zle_nil)))))))))) ?_
    exact H
  · have c9 : ¬ rv ≤ (0 : Int64) := (of_decide_eq_false ((zcL_le _ _).symm.trans c))
    replace H := H.2 c9
    refine zW_bh (zcmp .eq (lg_cmp x3 (0 : Int64)) (0 : Int32)) 94 87 [some (.ref 75), some (.int (Int32.ofNat x1)), some (.int (Int32.ofNat x2)), some (.long x3), none, some (.int (Int32.ofNat x5)), some (.int (Int32.ofNat x6)), none, some (.long rv), none] [] 4 (fun f => rfl) (fun c => ?_) (fun c => ?_)
    · have c9 : x3 = (0 : Int64) := (of_decide_eq_true ((zcL_eq _ _).symm.trans c))
      replace H := H.1 c9
      refine zW_gh 100 [some (.ref 75), some (.int (Int32.ofNat x1)), some (.int (Int32.ofNat x2)), some (.long rv), none, some (.int (Int32.ofNat x5)), some (.int (Int32.ofNat x6)), none, some (.long rv), none] [.int (Int32.ofNat x5), .ref 75] 4 (fun f => rfl) ?_
      refine zW_go (pc' := 103) (L' := [some (.ref 75), some (.int (Int32.ofNat x1)), some (.int (Int32.ofNat x2)), some (.long rv), none, some (.int (Int32.ofNat x5)), some (.int (Int32.ofNat x6)), none, some (.long rv), none]) (st' := []) (h' := (va_up (zh K (code, rf, rs, bad, pr, pn, J) (m, pa, pb, pc, vf, vs, B) w) 75 (.inr (7, zfl (code, rf, rs, bad, (Int32.ofNat x5), pn, J))))) 1 (fun f => rfl) ?_
      refine zW_eq zu_75 ?_
      refine zW_gh 106 [some (.ref 75), some (.int (Int32.ofNat x1)), some (.int (Int32.ofNat x2)), some (.long rv), none, some (.int (Int32.ofNat x5)), some (.int (Int32.ofNat x6)), none, some (.long rv), none] [.int (Int32.ofNat x6), .ref 75] 2 (fun f => rfl) ?_
      refine zW_go (pc' := 109) (L' := [some (.ref 75), some (.int (Int32.ofNat x1)), some (.int (Int32.ofNat x2)), some (.long rv), none, some (.int (Int32.ofNat x5)), some (.int (Int32.ofNat x6)), none, some (.long rv), none]) (st' := []) (h' := (va_up (zh K (code, rf, rs, bad, (Int32.ofNat x5), pn, J) (m, pa, pb, pc, vf, vs, B) w) 75 (.inr (7, zfl (code, rf, rs, bad, (Int32.ofNat x5), (Int32.ofNat x6), J))))) 1 (fun f => rfl) ?_
      refine zW_eq zu_75 ?_
      refine zW_inc [some (.ref 75), some (.int (Int32.ofNat x1)), some (.int (Int32.ofNat x2)), some (.long rv), none, some (.int (Int32.ofNat x5)), some (.int ((Int32.ofNat x6) + (1 : Int32))), none, some (.long rv), none] rfl rfl rfl ?_
      rw [show ((Int32.ofNat x6) + (1 : Int32)) = Int32.ofNat (x6 + 1) from (zN_a rfl rfl)]
      refine zW_gh 21 [some (.ref 75), some (.int (Int32.ofNat x1)), some (.int (Int32.ofNat x2)), some (.long rv), none, some (.int (Int32.ofNat x5)), some (.int (Int32.ofNat (x6 + 1))), none, some (.long rv), none] [] 1 (fun f => rfl) ?_
      refine zW_fg (L' := [some (.ref 75), some (.int (Int32.ofNat x1)), some (.int (Int32.ofNat x2)), some (.long rv), none, some (.int (Int32.ofNat x5)), some (.int (Int32.ofNat (x6 + 1))), none, none, none]) (zle_s _ (zle_s _ (zle_s _ (zle_s _ (zle_s _ (zle_s _ (zle_s _ (zle_s _ (zle_n _ (zle_s _ zle_nil)))))))))) ?_
      exact H
    · have c9 : ¬ x3 = (0 : Int64) := (of_decide_eq_false ((zcL_eq _ _).symm.trans c))
      replace H := H.2 c9
      refine zW_bh (zcmp .ge (lg_cmp rv x3) (0 : Int32)) 109 94 [some (.ref 75), some (.int (Int32.ofNat x1)), some (.int (Int32.ofNat x2)), some (.long x3), none, some (.int (Int32.ofNat x5)), some (.int (Int32.ofNat x6)), none, some (.long rv), none] [] 4 (fun f => rfl) (fun c => ?_) (fun c => ?_)
      · have c9 : x3 ≤ rv := (of_decide_eq_true ((zcL_ge _ _).symm.trans c))
        replace H := H.1 c9
        refine zW_inc [some (.ref 75), some (.int (Int32.ofNat x1)), some (.int (Int32.ofNat x2)), some (.long x3), none, some (.int (Int32.ofNat x5)), some (.int ((Int32.ofNat x6) + (1 : Int32))), none, some (.long rv), none] rfl rfl rfl ?_
        rw [show ((Int32.ofNat x6) + (1 : Int32)) = Int32.ofNat (x6 + 1) from (zN_a rfl rfl)]
        refine zW_gh 21 [some (.ref 75), some (.int (Int32.ofNat x1)), some (.int (Int32.ofNat x2)), some (.long x3), none, some (.int (Int32.ofNat x5)), some (.int (Int32.ofNat (x6 + 1))), none, some (.long rv), none] [] 1 (fun f => rfl) ?_
        refine zW_fg (L' := [some (.ref 75), some (.int (Int32.ofNat x1)), some (.int (Int32.ofNat x2)), some (.long x3), none, some (.int (Int32.ofNat x5)), some (.int (Int32.ofNat (x6 + 1))), none, none, none]) (zle_s _ (zle_s _ (zle_s _ (zle_s _ (zle_s _ (zle_s _ (zle_s _ (zle_s _ (zle_n _ (zle_s _ zle_nil)))))))))) ?_
        exact H
      · have c9 : ¬ x3 ≤ rv := (of_decide_eq_false ((zcL_ge _ _).symm.trans c))
        replace H := H.2 c9
        refine zW_gh 100 [some (.ref 75), some (.int (Int32.ofNat x1)), some (.int (Int32.ofNat x2)), some (.long rv), none, some (.int (Int32.ofNat x5)), some (.int (Int32.ofNat x6)), none, some (.long rv), none] [.int (Int32.ofNat x5), .ref 75] 4 (fun f => rfl) ?_
        refine zW_go (pc' := 103) (L' := [some (.ref 75), some (.int (Int32.ofNat x1)), some (.int (Int32.ofNat x2)), some (.long rv), none, some (.int (Int32.ofNat x5)), some (.int (Int32.ofNat x6)), none, some (.long rv), none]) (st' := []) (h' := (va_up (zh K (code, rf, rs, bad, pr, pn, J) (m, pa, pb, pc, vf, vs, B) w) 75 (.inr (7, zfl (code, rf, rs, bad, (Int32.ofNat x5), pn, J))))) 1 (fun f => rfl) ?_
        refine zW_eq zu_75 ?_
        refine zW_gh 106 [some (.ref 75), some (.int (Int32.ofNat x1)), some (.int (Int32.ofNat x2)), some (.long rv), none, some (.int (Int32.ofNat x5)), some (.int (Int32.ofNat x6)), none, some (.long rv), none] [.int (Int32.ofNat x6), .ref 75] 2 (fun f => rfl) ?_
        refine zW_go (pc' := 109) (L' := [some (.ref 75), some (.int (Int32.ofNat x1)), some (.int (Int32.ofNat x2)), some (.long rv), none, some (.int (Int32.ofNat x5)), some (.int (Int32.ofNat x6)), none, some (.long rv), none]) (st' := []) (h' := (va_up (zh K (code, rf, rs, bad, (Int32.ofNat x5), pn, J) (m, pa, pb, pc, vf, vs, B) w) 75 (.inr (7, zfl (code, rf, rs, bad, (Int32.ofNat x5), (Int32.ofNat x6), J))))) 1 (fun f => rfl) ?_
        refine zW_eq zu_75 ?_
        refine zW_inc [some (.ref 75), some (.int (Int32.ofNat x1)), some (.int (Int32.ofNat x2)), some (.long rv), none, some (.int (Int32.ofNat x5)), some (.int ((Int32.ofNat x6) + (1 : Int32))), none, some (.long rv), none] rfl rfl rfl ?_
        rw [show ((Int32.ofNat x6) + (1 : Int32)) = Int32.ofNat (x6 + 1) from (zN_a rfl rfl)]
        refine zW_gh 21 [some (.ref 75), some (.int (Int32.ofNat x1)), some (.int (Int32.ofNat x2)), some (.long rv), none, some (.int (Int32.ofNat x5)), some (.int (Int32.ofNat (x6 + 1))), none, some (.long rv), none] [] 1 (fun f => rfl) ?_
        refine zW_fg (L' := [some (.ref 75), some (.int (Int32.ofNat x1)), some (.int (Int32.ofNat x2)), some (.long rv), none, some (.int (Int32.ofNat x5)), some (.int (Int32.ofNat (x6 + 1))), none, none, none]) (zle_s _ (zle_s _ (zle_s _ (zle_s _ (zle_s _ (zle_s _ (zle_s _ (zle_s _ (zle_n _ (zle_s _ zle_nil)))))))))) ?_
        exact H
theorem b203 {K : zKt} {code rf rs pr pn : Int32} {bad : Bool} {J : zJt} {m pa pb pc vf vs : Nat → Int32} {B : zBt} {w : Nat → Int64} {p : Nat × Nat} {Q : zR → zH → Prop} {a0 a1 : Nat} (H : ((a0 + 0) < 5340 ∧ zW zm_203 22 [some (.ref 75), some (.int (Int32.ofNat a0)), some (.int (Int32.ofNat a1)), some (.int (m (a0 + 0))), some (.int (Int32.ofNat (((a0 + 4) + (8 * a1)) + (2 * a1)))), some (.int (Int32.ofNat (a1 + 1))), none, none] [] p (zh K (code, rf, rs, bad, pr, pn, J) (m, pa, pb, pc, vf, vs, B) w) Q)) : zT zm_203 [.ref 75, .int (Int32.ofNat a0), .int (Int32.ofNat a1)] p (zh K (code, rf, rs, bad, pr, pn, J) (m, pa, pb, pc, vf, vs, B) w) Q := by
  change zW zm_203 0 [some (.ref 75), some (.int (Int32.ofNat a0)), some (.int (Int32.ofNat a1)), none, none, none, none, none] [] p _ Q
  refine zW_gh 7 [some (.ref 75), some (.int (Int32.ofNat a0)), some (.int (Int32.ofNat a1)), none, none, none, none, none] [.int ((Int32.ofNat a0) + (0 : Int32)), .ref 76] 5 (fun f => rfl) ?_
  obtain ⟨h1, H⟩ := H
  refine zW_iald rfl (by decide) rfl (by decide) (zN_a rfl rfl) h1 ?_
  refine zW_gh 12 [some (.ref 75), some (.int (Int32.ofNat a0)), some (.int (Int32.ofNat a1)), some (.int (m (a0 + 0))), none, none, none, none] [.int (Int32.ofNat a1), .int (Int32.ofNat a1), .int (Int32.ofNat a0)] 4 (fun f => rfl) ?_
  refine zW_cl rfl rfl rfl rfl rfl (s151 ?_)
  change zW zm_203 15 [some (.ref 75), some (.int (Int32.ofNat a0)), some (.int (Int32.ofNat a1)), some (.int (m (a0 + 0))), none, none, none, none] [.int ((((Int32.ofNat a0) + (4 : Int32)) + ((8 : Int32) * (Int32.ofNat a1))) + ((2 : Int32) * (Int32.ofNat a1)))] p _ Q
  refine zW_gh 17 [some (.ref 75), some (.int (Int32.ofNat a0)), some (.int (Int32.ofNat a1)), some (.int (m (a0 + 0))), some (.int ((((Int32.ofNat a0) + (4 : Int32)) + ((8 : Int32) * (Int32.ofNat a1))) + ((2 : Int32) * (Int32.ofNat a1)))), none, none, none] [] 1 (fun f => rfl) ?_
  rw [show ((((Int32.ofNat a0) + (4 : Int32)) + ((8 : Int32) * (Int32.ofNat a1))) + ((2 : Int32) * (Int32.ofNat a1))) = Int32.ofNat (((a0 + 4) + (8 * a1)) + (2 * a1)) from (zN_a (zN_a (zN_a rfl rfl) (zN_m rfl rfl)) (zN_m rfl rfl))]
  refine zW_gh 22 [some (.ref 75), some (.int (Int32.ofNat a0)), some (.int (Int32.ofNat a1)), some (.int (m (a0 + 0))), some (.int (Int32.ofNat (((a0 + 4) + (8 * a1)) + (2 * a1)))), some (.int ((Int32.ofNat a1) + (1 : Int32))), none, none] [] 4 (fun f => rfl) ?_
  rw [show ((Int32.ofNat a1) + (1 : Int32)) = Int32.ofNat (a1 + 1) from (zN_a rfl rfl)]
  exact H
theorem b203_22 {K : zKt} {code rf rs pr pn : Int32} {bad : Bool} {J : zJt} {m pa pb pc vf vs : Nat → Int32} {B : zBt} {w : Nat → Int64} {p : Nat × Nat} {Q : zR → zH → Prop} {x1 x2 x4 x5 : Nat} {x3 : Int32} (H : ((x1 + 1) < 5340 ∧ (((m (x1 + 1)) ≤ (Int32.ofNat x5) → Q (.inl (some (.int (-1 : Int32)))) (zh K (code, rf, rs, bad, pr, pn, J) (m, pa, pb, pc, vf, vs, B) w)) ∧ (¬ (m (x1 + 1)) ≤ (Int32.ofNat x5) → zW zm_203 40 [some (.ref 75), some (.int (Int32.ofNat x1)), some (.int (Int32.ofNat x2)), some (.int x3), some (.int (Int32.ofNat x4)), some (.int (Int32.ofNat x5)), some (.int (Int32.ofNat (x2 + 1))), none] [] p (zh K (code, rf, rs, bad, pr, pn, J) (m, pa, pb, pc, vf, vs, B) w) Q)))) : zW zm_203 22 [some (.ref 75), some (.int (Int32.ofNat x1)), some (.int (Int32.ofNat x2)), some (.int x3), some (.int (Int32.ofNat x4)), some (.int (Int32.ofNat x5)), none, none] [] p (zh K (code, rf, rs, bad, pr, pn, J) (m, pa, pb, pc, vf, vs, B) w) Q := by
  refine zW_gh 31 [some (.ref 75), some (.int (Int32.ofNat x1)), some (.int (Int32.ofNat x2)), some (.int x3), some (.int (Int32.ofNat x4)), some (.int (Int32.ofNat x5)), none, none] [.int ((Int32.ofNat x1) + (1 : Int32)), .ref 76, .int (Int32.ofNat x5)] 6 (fun f => rfl) ?_
  obtain ⟨h1, H⟩ := H
  refine zW_iald rfl (by decide) rfl (by decide) (zN_a rfl rfl) h1 ?_
  refine zW_bh (zcmp .ge (Int32.ofNat x5) (m (x1 + 1))) 129 35 [some (.ref 75), some (.int (Int32.ofNat x1)), some (.int (Int32.ofNat x2)), some (.int x3), some (.int (Int32.ofNat x4)), some (.int (Int32.ofNat x5)), none, none] [] 1 (fun f => rfl) (fun c => ?_) (fun c => ?_)
  · have c9 : (m (x1 + 1)) ≤ (Int32.ofNat x5) := (of_decide_eq_true c)
    replace H := H.1 c9
    refine zW_gh 130 [some (.ref 75), some (.int (Int32.ofNat x1)), some (.int (Int32.ofNat x2)), some (.int x3), some (.int (Int32.ofNat x4)), some (.int (Int32.ofNat x5)), none, none] [.int (-1 : Int32)] 1 (fun f => rfl) ?_
    exact zW_rh (some (.int (-1 : Int32))) 1 (fun f => rfl) H
  · have c9 : ¬ (m (x1 + 1)) ≤ (Int32.ofNat x5) := (of_decide_eq_false c)
    replace H := H.2 c9
    refine zW_gh 40 [some (.ref 75), some (.int (Int32.ofNat x1)), some (.int (Int32.ofNat x2)), some (.int x3), some (.int (Int32.ofNat x4)), some (.int (Int32.ofNat x5)), some (.int ((Int32.ofNat x2) + (1 : Int32))), none] [] 4 (fun f => rfl) ?_
    rw [show ((Int32.ofNat x2) + (1 : Int32)) = Int32.ofNat (x2 + 1) from (zN_a rfl rfl)]
    exact H
theorem b203_40 {K : zKt} {code rf rs pr pn : Int32} {bad : Bool} {J : zJt} {m pa pb pc vf vs : Nat → Int32} {B : zBt} {w : Nat → Int64} {p : Nat × Nat} {Q : zR → zH → Prop} {x1 x2 x4 x5 x6 : Nat} {x3 : Int32} (H : ((x1 + 2) < 5340 ∧ (((m (x1 + 2)) ≤ (Int32.ofNat x6) → zW zm_203 22 [some (.ref 75), some (.int (Int32.ofNat x1)), some (.int (Int32.ofNat x2)), some (.int x3), some (.int (Int32.ofNat x4)), some (.int (Int32.ofNat (x5 + 1))), none, none] [] p (zh K (code, rf, rs, bad, pr, pn, J) (m, pa, pb, pc, vf, vs, B) w) Q) ∧ (¬ (m (x1 + 2)) ≤ (Int32.ofNat x6) → ((((x1 + 4) + (8 * x5)) + (2 * x6)) < 5340 ∧ (((((x1 + 4) + (8 * x5)) + (2 * x6)) + 1) < 5340 ∧ (x4 < 5340 ∧ ((x4 + 1) < 5340 ∧ zT zm_204 [.ref 75, .int x3, .int (m (((x1 + 4) + (8 * x5)) + (2 * x6))), .int (m ((((x1 + 4) + (8 * x5)) + (2 * x6)) + 1)), .int (m x4), .int (m (x4 + 1))] p (zh K (code, rf, rs, bad, pr, pn, J) (m, pa, pb, pc, vf, vs, B) w) (zK zm_203 100 [some (.ref 75), some (.int (Int32.ofNat x1)), some (.int (Int32.ofNat x2)), some (.int x3), some (.int (Int32.ofNat x4)), some (.int (Int32.ofNat x5)), some (.int (Int32.ofNat x6)), none] [] p Q))))))))) : zW zm_203 40 [some (.ref 75), some (.int (Int32.ofNat x1)), some (.int (Int32.ofNat x2)), some (.int x3), some (.int (Int32.ofNat x4)), some (.int (Int32.ofNat x5)), some (.int (Int32.ofNat x6)), none] [] p (zh K (code, rf, rs, bad, pr, pn, J) (m, pa, pb, pc, vf, vs, B) w) Q := by
  refine zW_gh 49 [some (.ref 75), some (.int (Int32.ofNat x1)), some (.int (Int32.ofNat x2)), some (.int x3), some (.int (Int32.ofNat x4)), some (.int (Int32.ofNat x5)), some (.int (Int32.ofNat x6)), none] [.int ((Int32.ofNat x1) + (2 : Int32)), .ref 76, .int (Int32.ofNat x6)] 6 (fun f => rfl) ?_
  obtain ⟨h1, H⟩ := H
  refine zW_iald rfl (by decide) rfl (by decide) (zN_a rfl rfl) h1 ?_
  refine zW_bh (zcmp .ge (Int32.ofNat x6) (m (x1 + 2))) 123 53 [some (.ref 75), some (.int (Int32.ofNat x1)), some (.int (Int32.ofNat x2)), some (.int x3), some (.int (Int32.ofNat x4)), some (.int (Int32.ofNat x5)), some (.int (Int32.ofNat x6)), none] [] 1 (fun f => rfl) (fun c => ?_) (fun c => ?_)
  · have c9 : (m (x1 + 2)) ≤ (Int32.ofNat x6) := (of_decide_eq_true c)
    replace H := H.1 c9
    refine zW_inc [some (.ref 75), some (.int (Int32.ofNat x1)), some (.int (Int32.ofNat x2)), some (.int x3), some (.int (Int32.ofNat x4)), some (.int ((Int32.ofNat x5) + (1 : Int32))), some (.int (Int32.ofNat x6)), none] rfl rfl rfl ?_
    rw [show ((Int32.ofNat x5) + (1 : Int32)) = Int32.ofNat (x5 + 1) from (zN_a rfl rfl)]
    refine zW_gh 22 [some (.ref 75), some (.int (Int32.ofNat x1)), some (.int (Int32.ofNat x2)), some (.int x3), some (.int (Int32.ofNat x4)), some (.int (Int32.ofNat (x5 + 1))), some (.int (Int32.ofNat x6)), none] [] 1 (fun f => rfl) ?_
    refine zW_fg (L' := [some (.ref 75), some (.int (Int32.ofNat x1)), some (.int (Int32.ofNat x2)), some (.int x3), some (.int (Int32.ofNat x4)), some (.int (Int32.ofNat (x5 + 1))), none, none]) (zle_s _ (zle_s _ (zle_s _ (zle_s _ (zle_s _ (zle_s _ (zle_n _ (zle_s _ zle_nil)))))))) ?_
    exact H
  · have c9 : ¬ (m (x1 + 2)) ≤ (Int32.ofNat x6) := (of_decide_eq_false c)
    replace H := H.2 c9
    refine zW_gh 58 [some (.ref 75), some (.int (Int32.ofNat x1)), some (.int (Int32.ofNat x2)), some (.int x3), some (.int (Int32.ofNat x4)), some (.int (Int32.ofNat x5)), some (.int (Int32.ofNat x6)), none] [.int (Int32.ofNat x6), .int (Int32.ofNat x5), .int (Int32.ofNat x1)] 3 (fun f => rfl) ?_
    refine zW_cl rfl rfl rfl rfl rfl (s151 ?_)
    change zW zm_203 61 [some (.ref 75), some (.int (Int32.ofNat x1)), some (.int (Int32.ofNat x2)), some (.int x3), some (.int (Int32.ofNat x4)), some (.int (Int32.ofNat x5)), some (.int (Int32.ofNat x6)), none] [.int ((((Int32.ofNat x1) + (4 : Int32)) + ((8 : Int32) * (Int32.ofNat x5))) + ((2 : Int32) * (Int32.ofNat x6)))] p _ Q
    refine zW_gh 63 [some (.ref 75), some (.int (Int32.ofNat x1)), some (.int (Int32.ofNat x2)), some (.int x3), some (.int (Int32.ofNat x4)), some (.int (Int32.ofNat x5)), some (.int (Int32.ofNat x6)), some (.int ((((Int32.ofNat x1) + (4 : Int32)) + ((8 : Int32) * (Int32.ofNat x5))) + ((2 : Int32) * (Int32.ofNat x6))))] [] 1 (fun f => rfl) ?_
    rw [show ((((Int32.ofNat x1) + (4 : Int32)) + ((8 : Int32) * (Int32.ofNat x5))) + ((2 : Int32) * (Int32.ofNat x6))) = Int32.ofNat (((x1 + 4) + (8 * x5)) + (2 * x6)) from (zN_a (zN_a (zN_a rfl rfl) (zN_m rfl rfl)) (zN_m rfl rfl))]
    refine zW_gh 71 [some (.ref 75), some (.int (Int32.ofNat x1)), some (.int (Int32.ofNat x2)), some (.int x3), some (.int (Int32.ofNat x4)), some (.int (Int32.ofNat x5)), some (.int (Int32.ofNat x6)), some (.int (Int32.ofNat (((x1 + 4) + (8 * x5)) + (2 * x6))))] [.int (Int32.ofNat (((x1 + 4) + (8 * x5)) + (2 * x6))), .ref 76, .int x3, .ref 75] 5 (fun f => rfl) ?_
    obtain ⟨h2, H⟩ := H
    refine zW_iald rfl (by decide) rfl (by decide) rfl h2 ?_
    refine zW_gh 80 [some (.ref 75), some (.int (Int32.ofNat x1)), some (.int (Int32.ofNat x2)), some (.int x3), some (.int (Int32.ofNat x4)), some (.int (Int32.ofNat x5)), some (.int (Int32.ofNat x6)), some (.int (Int32.ofNat (((x1 + 4) + (8 * x5)) + (2 * x6))))] [.int ((Int32.ofNat (((x1 + 4) + (8 * x5)) + (2 * x6))) + (1 : Int32)), .ref 76, .int (m (((x1 + 4) + (8 * x5)) + (2 * x6))), .int x3, .ref 75] 5 (fun f => rfl) ?_
    obtain ⟨h3, H⟩ := H
    refine zW_iald rfl (by decide) rfl (by decide) (zN_a rfl rfl) h3 ?_
    refine zW_gh 87 [some (.ref 75), some (.int (Int32.ofNat x1)), some (.int (Int32.ofNat x2)), some (.int x3), some (.int (Int32.ofNat x4)), some (.int (Int32.ofNat x5)), some (.int (Int32.ofNat x6)), some (.int (Int32.ofNat (((x1 + 4) + (8 * x5)) + (2 * x6))))] [.int (Int32.ofNat x4), .ref 76, .int (m ((((x1 + 4) + (8 * x5)) + (2 * x6)) + 1)), .int (m (((x1 + 4) + (8 * x5)) + (2 * x6))), .int x3, .ref 75] 3 (fun f => rfl) ?_
    obtain ⟨h4, H⟩ := H
    refine zW_iald rfl (by decide) rfl (by decide) rfl h4 ?_
    refine zW_gh 96 [some (.ref 75), some (.int (Int32.ofNat x1)), some (.int (Int32.ofNat x2)), some (.int x3), some (.int (Int32.ofNat x4)), some (.int (Int32.ofNat x5)), some (.int (Int32.ofNat x6)), some (.int (Int32.ofNat (((x1 + 4) + (8 * x5)) + (2 * x6))))] [.int ((Int32.ofNat x4) + (1 : Int32)), .ref 76, .int (m x4), .int (m ((((x1 + 4) + (8 * x5)) + (2 * x6)) + 1)), .int (m (((x1 + 4) + (8 * x5)) + (2 * x6))), .int x3, .ref 75] 5 (fun f => rfl) ?_
    obtain ⟨h5, H⟩ := H
    refine zW_iald rfl (by decide) rfl (by decide) (zN_a rfl rfl) h5 ?_
    refine zW_fg (L' := [some (.ref 75), some (.int (Int32.ofNat x1)), some (.int (Int32.ofNat x2)), some (.int x3), some (.int (Int32.ofNat x4)), some (.int (Int32.ofNat x5)), some (.int (Int32.ofNat x6)), none]) (zle_s _ (zle_s _ (zle_s _ (zle_s _ (zle_s _ (zle_s _ (zle_s _ (zle_n _ zle_nil)))))))) ?_
    exact zW_cl rfl rfl rfl rfl rfl H
theorem b203_100 {K : zKt} {code rf rs pr pn : Int32} {bad : Bool} {J : zJt} {m pa pb pc vf vs : Nat → Int32} {B : zBt} {w : Nat → Int64} {p : Nat × Nat} {Q : zR → zH → Prop} {x1 x2 x4 x5 x6 : Nat} {x3 : Int32} (H : (((zzr rf rs) = true → zW zm_203 40 [some (.ref 75), some (.int (Int32.ofNat x1)), some (.int (Int32.ofNat x2)), some (.int x3), some (.int (Int32.ofNat x4)), some (.int (Int32.ofNat x5)), some (.int (Int32.ofNat (x6 + 1))), none] [] p (zh K (code, rf, rs, bad, pr, pn, J) (m, pa, pb, pc, vf, vs, B) w) Q) ∧ ((zzr rf rs) = false → Q (.inl (some (.int (Int32.ofNat x5)))) (zh K (code, rf, rs, bad, pr, pn, J) (m, pa, pb, pc, vf, vs, B) w)))) : zW zm_203 100 [some (.ref 75), some (.int (Int32.ofNat x1)), some (.int (Int32.ofNat x2)), some (.int x3), some (.int (Int32.ofNat x4)), some (.int (Int32.ofNat x5)), some (.int (Int32.ofNat x6)), none] [] p (zh K (code, rf, rs, bad, pr, pn, J) (m, pa, pb, pc, vf, vs, B) w) Q := by
  refine zW_gh 108 [some (.ref 75), some (.int (Int32.ofNat x1)), some (.int (Int32.ofNat x2)), some (.int x3), some (.int (Int32.ofNat x4)), some (.int (Int32.ofNat x5)), some (.int (Int32.ofNat x6)), none] [.int rs, .int rf] 4 (fun f => rfl) ?_
  refine zW_cl rfl rfl rfl rfl rfl (s186 ?_)
  change zW zm_203 111 [some (.ref 75), some (.int (Int32.ofNat x1)), some (.int (Int32.ofNat x2)), some (.int x3), some (.int (Int32.ofNat x4)), some (.int (Int32.ofNat x5)), some (.int (Int32.ofNat x6)), none] [.int (zbi (zzr rf rs))] p _ Q
  refine zW_bh (zcmp .ne (zbi (zzr rf rs)) (0 : Int32)) 117 114 [some (.ref 75), some (.int (Int32.ofNat x1)), some (.int (Int32.ofNat x2)), some (.int x3), some (.int (Int32.ofNat x4)), some (.int (Int32.ofNat x5)), some (.int (Int32.ofNat x6)), none] [] 1 (fun f => rfl) (fun c => ?_) (fun c => ?_)
  · have c9 : (zzr rf rs) = true := ((zcB_ne _).symm.trans c)
    replace H := H.1 c9
    refine zW_inc [some (.ref 75), some (.int (Int32.ofNat x1)), some (.int (Int32.ofNat x2)), some (.int x3), some (.int (Int32.ofNat x4)), some (.int (Int32.ofNat x5)), some (.int ((Int32.ofNat x6) + (1 : Int32))), none] rfl rfl rfl ?_
    rw [show ((Int32.ofNat x6) + (1 : Int32)) = Int32.ofNat (x6 + 1) from (zN_a rfl rfl)]
    refine zW_gh 40 [some (.ref 75), some (.int (Int32.ofNat x1)), some (.int (Int32.ofNat x2)), some (.int x3), some (.int (Int32.ofNat x4)), some (.int (Int32.ofNat x5)), some (.int (Int32.ofNat (x6 + 1))), none] [] 1 (fun f => rfl) ?_
    exact H
  · have c9 : (zzr rf rs) = false := ((zcB_ne _).symm.trans c)
    replace H := H.2 c9
    refine zW_gh 116 [some (.ref 75), some (.int (Int32.ofNat x1)), some (.int (Int32.ofNat x2)), some (.int x3), some (.int (Int32.ofNat x4)), some (.int (Int32.ofNat x5)), some (.int (Int32.ofNat x6)), none] [.int (Int32.ofNat x5)] 1 (fun f => rfl) ?_
    exact zW_rh (some (.int (Int32.ofNat x5))) 1 (fun f => rfl) H
theorem b200 {K : zKt} {code rf rs pr pn : Int32} {bad : Bool} {J : zJt} {m pa pb pc vf vs : Nat → Int32} {B : zBt} {w : Nat → Int64} {p : Nat × Nat} {Q : zR → zH → Prop} {a0 : Nat} (H : zW zm_200 2 [some (.ref 75), some (.int (Int32.ofNat a0)), some (.int (Int32.ofNat 0))] [] p (zh K (code, rf, rs, bad, pr, pn, J) (m, pa, pb, pc, vf, vs, B) w) Q) : zT zm_200 [.ref 75, .int (Int32.ofNat a0)] p (zh K (code, rf, rs, bad, pr, pn, J) (m, pa, pb, pc, vf, vs, B) w) Q := by
  change zW zm_200 0 [some (.ref 75), some (.int (Int32.ofNat a0)), none] [] p _ Q
  refine zW_gh 2 [some (.ref 75), some (.int (Int32.ofNat a0)), some (.int (0 : Int32))] [] 2 (fun f => rfl) ?_
  exact H
theorem b200_2 {K : zKt} {code rf rs pr pn : Int32} {bad : Bool} {J : zJt} {m pa pb pc vf vs : Nat → Int32} {B : zBt} {w : Nat → Int64} {p : Nat × Nat} {Q : zR → zH → Prop} {x1 x2 : Nat} (H : ((bad = true → Q (.inl (some (.int (Int32.ofNat x2)))) (zh K (code, rf, rs, bad, pr, pn, J) (m, pa, pb, pc, vf, vs, B) w)) ∧ (bad = false → zT zm_201 [.ref 75, .int (Int32.ofNat x1), .int (Int32.ofNat x2)] p (zh K (code, rf, rs, bad, pr, pn, J) (m, pa, pb, pc, vf, vs, B) w) (zK zm_200 15 [some (.ref 75), some (.int (Int32.ofNat x1)), some (.int (Int32.ofNat x2))] [] p Q)))) : zW zm_200 2 [some (.ref 75), some (.int (Int32.ofNat x1)), some (.int (Int32.ofNat x2))] [] p (zh K (code, rf, rs, bad, pr, pn, J) (m, pa, pb, pc, vf, vs, B) w) Q := by
  refine zW_bh (zcmp .ne (zbi bad) (0 : Int32)) 30 9 [some (.ref 75), some (.int (Int32.ofNat x1)), some (.int (Int32.ofNat x2))] [] 3 (fun f => rfl) (fun c => ?_) (fun c => ?_)
  · have c9 : bad = true := ((zcB_ne _).symm.trans c)
    replace H := H.1 c9
    refine zW_gh 31 [some (.ref 75), some (.int (Int32.ofNat x1)), some (.int (Int32.ofNat x2))] [.int (Int32.ofNat x2)] 1 (fun f => rfl) ?_
    exact zW_rh (some (.int (Int32.ofNat x2))) 1 (fun f => rfl) H
  · have c9 : bad = false := ((zcB_ne _).symm.trans c)
    replace H := H.2 c9
    refine zW_gh 12 [some (.ref 75), some (.int (Int32.ofNat x1)), some (.int (Int32.ofNat x2))] [.int (Int32.ofNat x2), .int (Int32.ofNat x1), .ref 75] 3 (fun f => rfl) ?_
    exact zW_cl rfl rfl rfl rfl rfl H
theorem b200_15 {K : zKt} {code rf rs pr pn : Int32} {bad : Bool} {J : zJt} {m pa pb pc vf vs : Nat → Int32} {B : zBt} {w : Nat → Int64} {p : Nat × Nat} {Q : zR → zH → Prop} {x1 x2 : Nat} {rv : Bool} (H : ((rv = false → Q (.inl (some (.int (Int32.ofNat x2)))) (zh K (code, rf, rs, bad, pr, pn, J) (m, pa, pb, pc, vf, vs, B) w)) ∧ (rv = true → zT zm_202 [.ref 75, .int (Int32.ofNat x1), .int (Int32.ofNat x2)] p (zh K (code, rf, rs, bad, pr, pn, J) (m, pa, pb, pc, vf, vs, B) w) (zK zm_200 24 [some (.ref 75), some (.int (Int32.ofNat x1)), some (.int (Int32.ofNat x2))] [] p Q)))) : zW zm_200 15 [some (.ref 75), some (.int (Int32.ofNat x1)), some (.int (Int32.ofNat x2))] [.int (zbi rv)] p (zh K (code, rf, rs, bad, pr, pn, J) (m, pa, pb, pc, vf, vs, B) w) Q := by
  refine zW_bh (zcmp .eq (zbi rv) (0 : Int32)) 30 18 [some (.ref 75), some (.int (Int32.ofNat x1)), some (.int (Int32.ofNat x2))] [] 1 (fun f => rfl) (fun c => ?_) (fun c => ?_)
  · have c9 : rv = false := ((Bool.not_eq_true' _).mp ((zcB_eq _).symm.trans c))
    replace H := H.1 c9
    refine zW_gh 31 [some (.ref 75), some (.int (Int32.ofNat x1)), some (.int (Int32.ofNat x2))] [.int (Int32.ofNat x2)] 1 (fun f => rfl) ?_
    exact zW_rh (some (.int (Int32.ofNat x2))) 1 (fun f => rfl) H
  · have c9 : rv = true := ((Bool.not_eq_false' _).mp ((zcB_eq _).symm.trans c))
    replace H := H.2 c9
    refine zW_gh 21 [some (.ref 75), some (.int (Int32.ofNat x1)), some (.int (Int32.ofNat x2))] [.int (Int32.ofNat x2), .int (Int32.ofNat x1), .ref 75] 3 (fun f => rfl) ?_
    exact zW_cl rfl rfl rfl rfl rfl H
theorem b200_24 {K : zKt} {code rf rs pr pn : Int32} {bad : Bool} {J : zJt} {m pa pb pc vf vs : Nat → Int32} {B : zBt} {w : Nat → Int64} {p : Nat × Nat} {Q : zR → zH → Prop} {x1 x2 : Nat} (H : zW zm_200 2 [some (.ref 75), some (.int (Int32.ofNat x1)), some (.int (Int32.ofNat (x2 + 1)))] [] p (zh K (code, rf, rs, bad, pr, pn, J) (m, pa, pb, pc, vf, vs, B) w) Q) : zW zm_200 24 [some (.ref 75), some (.int (Int32.ofNat x1)), some (.int (Int32.ofNat x2))] [] p (zh K (code, rf, rs, bad, pr, pn, J) (m, pa, pb, pc, vf, vs, B) w) Q := by
  refine zW_inc [some (.ref 75), some (.int (Int32.ofNat x1)), some (.int ((Int32.ofNat x2) + (1 : Int32)))] rfl rfl rfl ?_
  rw [show ((Int32.ofNat x2) + (1 : Int32)) = Int32.ofNat (x2 + 1) from (zN_a rfl rfl)]
  refine zW_gh 2 [some (.ref 75), some (.int (Int32.ofNat x1)), some (.int (Int32.ofNat (x2 + 1)))] [] 1 (fun f => rfl) ?_
  exact H
set_option maxRecDepth 20000 in
theorem b202 {K : zKt} {code rf rs pr pn : Int32} {bad : Bool} {J : zJt} {m pa pb pc vf vs : Nat → Int32} {B : zBt} {w : Nat → Int64} {p : Nat × Nat} {Q : zR → zH → Prop} {a0 a1 : Nat} (H : zW zm_202 5 [some (.ref 75), some (.int (Int32.ofNat a0)), some (.int (Int32.ofNat a1)), some (.int (Int32.ofNat 1)), some (.int (Int32.ofNat 0)), none, none, none] [] p (zh K (code, rf, rs, bad, pr, pn, J) (m, pa, pb, pc, vf, vs, B) w) Q) : zT zm_202 [.ref 75, .int (Int32.ofNat a0), .int (Int32.ofNat a1)] p (zh K (code, rf, rs, bad, pr, pn, J) (m, pa, pb, pc, vf, vs, B) w) Q := by
  change zW zm_202 0 [some (.ref 75), some (.int (Int32.ofNat a0)), some (.int (Int32.ofNat a1)), none, none, none, none, none] [] p _ Q
  refine zW_gh 5 [some (.ref 75), some (.int (Int32.ofNat a0)), some (.int (Int32.ofNat a1)), some (.int (1 : Int32)), some (.int (0 : Int32)), none, none, none] [] 4 (fun f => rfl) ?_
  exact H
set_option maxRecDepth 20000 in
theorem b202_5 {K : zKt} {code rf rs pr pn : Int32} {bad : Bool} {J : zJt} {m pa pb pc vf vs : Nat → Int32} {B : zBt} {w : Nat → Int64} {p : Nat × Nat} {Q : zR → zH → Prop} {x1 x2 x3 x4 : Nat} (H : (x4 < 2147483648 ∧ ((¬ x4 = 0 → ((bad = true → Q (.inl none) (zh K (code, rf, rs, bad, pr, pn, J) (m, pa, pb, pc, vf, vs, B) w)) ∧ (bad = false → zT zm_197 [.ref 75, .int (Int32.ofNat x1), .int (Int32.ofNat x2), .int (Int32.ofNat x2)] p (zh K (code, rf, rs, bad, pr, pn, J) (m, pa, pb, pc, vf, vs, B) w) (zK zm_202 247 [none, none, none, none, none, none, none, none] [] p Q)))) ∧ (x4 = 0 → ((bad = true → ((bad = true → Q (.inl none) (zh K (code, rf, rs, bad, pr, pn, J) (m, pa, pb, pc, vf, vs, B) w)) ∧ (bad = false → zT zm_197 [.ref 75, .int (Int32.ofNat x1), .int (Int32.ofNat x2), .int (Int32.ofNat x2)] p (zh K (code, rf, rs, bad, pr, pn, J) (m, pa, pb, pc, vf, vs, B) w) (zK zm_202 247 [none, none, none, none, none, none, none, none] [] p Q)))) ∧ (bad = false → (x3 < 2147483648 ∧ ((x3 = 0 → zW zm_202 112 [some (.ref 75), some (.int (Int32.ofNat x1)), some (.int (Int32.ofNat x2)), none, none, some (.int (Int32.ofNat (x2 + 1))), none, none] [] p (zh K (code, rf, rs, bad, pr, pn, J) (m, pa, pb, pc, vf, vs, B) w) Q) ∧ (¬ x3 = 0 → zT zm_201 [.ref 75, .int (Int32.ofNat x1), .int (Int32.ofNat x2)] p (zh K (code, rf, rs, bad, pr, pn, J) (m, pa, pb, pc, vf, vs, B) w) (zK zm_202 27 [some (.ref 75), some (.int (Int32.ofNat x1)), some (.int (Int32.ofNat x2)), none, none, none, none, none] [] p Q)))))))))) : zW zm_202 5 [some (.ref 75), some (.int (Int32.ofNat x1)), some (.int (Int32.ofNat x2)), some (.int (Int32.ofNat x3)), some (.int (Int32.ofNat x4)), none, none, none] [] p (zh K (code, rf, rs, bad, pr, pn, J) (m, pa, pb, pc, vf, vs, B) w) Q := by
  obtain ⟨h1, H⟩ := H
  refine zW_bh (zcmp .ne (Int32.ofNat x4) (0 : Int32)) 233 10 [some (.ref 75), some (.int (Int32.ofNat x1)), some (.int (Int32.ofNat x2)), some (.int (Int32.ofNat x3)), some (.int (Int32.ofNat x4)), none, none, none] [] 2 (fun f => rfl) (fun c => ?_) (fun c => ?_)
  · have c9 : ¬ x4 = 0 := (by have c := (zcN_ne (a := x4) (b := 0) rfl rfl h1 (by decide)).symm.trans c; simpa using c)
    replace H := H.1 c9
    refine zW_bh (zcmp .ne (zbi bad) (0 : Int32)) 247 240 [some (.ref 75), some (.int (Int32.ofNat x1)), some (.int (Int32.ofNat x2)), some (.int (Int32.ofNat x3)), some (.int (Int32.ofNat x4)), none, none, none] [] 3 (fun f => rfl) (fun c => ?_) (fun c => ?_)
    · have c9 : bad = true := ((zcB_ne _).symm.trans c)
      replace H := H.1 c9
      exact zW_rh none 1 (fun f => rfl) H
    · have c9 : bad = false := ((zcB_ne _).symm.trans c)
      replace H := H.2 c9
      refine zW_gh 244 [some (.ref 75), some (.int (Int32.ofNat x1)), some (.int (Int32.ofNat x2)), some (.int (Int32.ofNat x3)), some (.int (Int32.ofNat x4)), none, none, none] [.int (Int32.ofNat x2), .int (Int32.ofNat x2), .int (Int32.ofNat x1), .ref 75] 4 (fun f => rfl) ?_
      refine zW_fg (L' := [none, none, none, none, none, none, none, none]) (zle_n _ (zle_n _ (zle_n _ (zle_n _ (zle_n _ (zle_s _ (zle_s _ (zle_s _ zle_nil)))))))) ?_
      exact zW_cl rfl rfl rfl rfl rfl H
  · have c9 : x4 = 0 := (by have c := (zcN_ne (a := x4) (b := 0) rfl rfl h1 (by decide)).symm.trans c; simpa using c)
    replace H := H.2 c9
    refine zW_bh (zcmp .ne (zbi bad) (0 : Int32)) 233 17 [some (.ref 75), some (.int (Int32.ofNat x1)), some (.int (Int32.ofNat x2)), some (.int (Int32.ofNat x3)), some (.int (Int32.ofNat x4)), none, none, none] [] 3 (fun f => rfl) (fun c => ?_) (fun c => ?_)
    · have c9 : bad = true := ((zcB_ne _).symm.trans c)
      replace H := H.1 c9
      refine zW_bh (zcmp .ne (zbi bad) (0 : Int32)) 247 240 [some (.ref 75), some (.int (Int32.ofNat x1)), some (.int (Int32.ofNat x2)), some (.int (Int32.ofNat x3)), some (.int (Int32.ofNat x4)), none, none, none] [] 3 (fun f => rfl) (fun c => ?_) (fun c => ?_)
      · have c9 : bad = true := ((zcB_ne _).symm.trans c)
        replace H := H.1 c9
        exact zW_rh none 1 (fun f => rfl) H
      · have c9 : bad = false := ((zcB_ne _).symm.trans c)
        replace H := H.2 c9
        refine zW_gh 244 [some (.ref 75), some (.int (Int32.ofNat x1)), some (.int (Int32.ofNat x2)), some (.int (Int32.ofNat x3)), some (.int (Int32.ofNat x4)), none, none, none] [.int (Int32.ofNat x2), .int (Int32.ofNat x2), .int (Int32.ofNat x1), .ref 75] 4 (fun f => rfl) ?_
        refine zW_fg (L' := [none, none, none, none, none, none, none, none]) (zle_n _ (zle_n _ (zle_n _ (zle_n _ (zle_n _ (zle_s _ (zle_s _ (zle_s _ zle_nil)))))))) ?_
        exact zW_cl rfl rfl rfl rfl rfl H
    · have c9 : bad = false := ((zcB_ne _).symm.trans c)
      replace H := H.2 c9
      obtain ⟨h2, H⟩ := H
      refine zW_bh (zcmp .eq (Int32.ofNat x3) (0 : Int32)) 107 21 [some (.ref 75), some (.int (Int32.ofNat x1)), some (.int (Int32.ofNat x2)), some (.int (Int32.ofNat x3)), some (.int (Int32.ofNat x4)), none, none, none] [] 2 (fun f => rfl) (fun c => ?_) (fun c => ?_)
      · have c9 : x3 = 0 := (of_decide_eq_true ((zcN_eq (a := x3) (b := 0) rfl rfl h2 (by decide)).symm.trans c))
        replace H := H.1 c9
        refine zW_gh 112 [some (.ref 75), some (.int (Int32.ofNat x1)), some (.int (Int32.ofNat x2)), some (.int (Int32.ofNat x3)), some (.int (Int32.ofNat x4)), some (.int ((Int32.ofNat x2) + (1 : Int32))), none, none] [] 4 (fun f => rfl) ?_
        rw [show ((Int32.ofNat x2) + (1 : Int32)) = Int32.ofNat (x2 + 1) from (zN_a rfl rfl)]
        refine zW_fg (L' := [some (.ref 75), some (.int (Int32.ofNat x1)), some (.int (Int32.ofNat x2)), none, none, some (.int (Int32.ofNat (x2 + 1))), none, none]) (zle_s _ (zle_s _ (zle_s _ (zle_n _ (zle_n _ (zle_s _ (zle_s _ (zle_s _ zle_nil)))))))) ?_
        exact H
      · have c9 : ¬ x3 = 0 := (of_decide_eq_false ((zcN_eq (a := x3) (b := 0) rfl rfl h2 (by decide)).symm.trans c))
        replace H := H.2 c9
        refine zW_gh 24 [some (.ref 75), some (.int (Int32.ofNat x1)), some (.int (Int32.ofNat x2)), some (.int (Int32.ofNat x3)), some (.int (Int32.ofNat x4)), none, none, none] [.int (Int32.ofNat x2), .int (Int32.ofNat x1), .ref 75] 3 (fun f => rfl) ?_
        refine zW_fg (L' := [some (.ref 75), some (.int (Int32.ofNat x1)), some (.int (Int32.ofNat x2)), none, none, none, none, none]) (zle_s _ (zle_s _ (zle_s _ (zle_n _ (zle_n _ (zle_s _ (zle_s _ (zle_s _ zle_nil)))))))) ?_
        exact zW_cl rfl rfl rfl rfl rfl H
set_option maxRecDepth 20000 in
theorem b202_247 {K : zKt} {code rf rs pr pn : Int32} {bad : Bool} {J : zJt} {m pa pb pc vf vs : Nat → Int32} {B : zBt} {w : Nat → Int64} {p : Nat × Nat} {Q : zR → zH → Prop} (H : Q (.inl none) (zh K (code, rf, rs, bad, pr, pn, J) (m, pa, pb, pc, vf, vs, B) w)) : zW zm_202 247 [none, none, none, none, none, none, none, none] [] p (zh K (code, rf, rs, bad, pr, pn, J) (m, pa, pb, pc, vf, vs, B) w) Q := by
  exact zW_rh none 1 (fun f => rfl) H
set_option maxRecDepth 20000 in
theorem b202_112 {K : zKt} {code rf rs pr pn : Int32} {bad : Bool} {J : zJt} {m pa pb pc vf vs : Nat → Int32} {B : zBt} {w : Nat → Int64} {p : Nat × Nat} {Q : zR → zH → Prop} {x1 x2 x5 : Nat} (H : ((x1 + 2) < 5340 ∧ (((m (x1 + 2)) ≤ (Int32.ofNat x5) → ((bad = true → zW zm_202 5 [some (.ref 75), some (.int (Int32.ofNat x1)), some (.int (Int32.ofNat x2)), some (.int (Int32.ofNat 1)), some (.int (Int32.ofNat 0)), none, none, none] [] p (zh K (code, rf, rs, bad, pr, pn, J) (m, pa, pb, pc, vf, vs, B) w) Q) ∧ (bad = false → zT zm_185 [.ref 75, .int (Int32.ofNat x1), .int (zbi false), .int ((Int32.ofNat x2) + (1 : Int32)), .int (Int32.ofNat x2)] p (zh K (code, rf, rs, bad, pr, pn, J) (m, pa, pb, pc, vf, vs, B) w) (zK zm_202 158 [some (.ref 75), some (.int (Int32.ofNat x1)), some (.int (Int32.ofNat x2)), none, none, none, none, none] [] p Q)))) ∧ (¬ (m (x1 + 2)) ≤ (Int32.ofNat x5) → zT zm_190 [.ref 75, .int (Int32.ofNat x1), .int (zbi true), .int (Int32.ofNat x5), .int (Int32.ofNat x2), .int (Int32.ofNat x2)] p (zh K (code, rf, rs, bad, pr, pn, J) (m, pa, pb, pc, vf, vs, B) w) (zK zm_202 135 [some (.ref 75), some (.int (Int32.ofNat x1)), some (.int (Int32.ofNat x2)), none, none, some (.int (Int32.ofNat x5)), none, none] [] p Q))))) : zW zm_202 112 [some (.ref 75), some (.int (Int32.ofNat x1)), some (.int (Int32.ofNat x2)), none, none, some (.int (Int32.ofNat x5)), none, none] [] p (zh K (code, rf, rs, bad, pr, pn, J) (m, pa, pb, pc, vf, vs, B) w) Q := by
  refine zW_gh 121 [some (.ref 75), some (.int (Int32.ofNat x1)), some (.int (Int32.ofNat x2)), none, none, some (.int (Int32.ofNat x5)), none, none] [.int ((Int32.ofNat x1) + (2 : Int32)), .ref 76, .int (Int32.ofNat x5)] 6 (fun f => rfl) ?_
  obtain ⟨h1, H⟩ := H
  refine zW_iald rfl (by decide) rfl (by decide) (zN_a rfl rfl) h1 ?_
  refine zW_bh (zcmp .ge (Int32.ofNat x5) (m (x1 + 2))) 141 125 [some (.ref 75), some (.int (Int32.ofNat x1)), some (.int (Int32.ofNat x2)), none, none, some (.int (Int32.ofNat x5)), none, none] [] 1 (fun f => rfl) (fun c => ?_) (fun c => ?_)
  · have c9 : (m (x1 + 2)) ≤ (Int32.ofNat x5) := (of_decide_eq_true c)
    replace H := H.1 c9
    refine zW_bh (zcmp .ne (zbi bad) (0 : Int32)) 174 148 [some (.ref 75), some (.int (Int32.ofNat x1)), some (.int (Int32.ofNat x2)), none, none, some (.int (Int32.ofNat x5)), none, none] [] 3 (fun f => rfl) (fun c => ?_) (fun c => ?_)
    · have c9 : bad = true := ((zcB_ne _).symm.trans c)
      replace H := H.1 c9
      refine zW_gh 197 [some (.ref 75), some (.int (Int32.ofNat x1)), some (.int (Int32.ofNat x2)), some (.int (1 : Int32)), none, some (.int (-1 : Int32)), none, none] [.int (1 : Int32)] 9 (fun f => rfl) ?_
      refine zW_gh 5 [some (.ref 75), some (.int (Int32.ofNat x1)), some (.int (Int32.ofNat x2)), some (.int (1 : Int32)), some (.int (0 : Int32)), some (.int (-1 : Int32)), none, none] [] 7 (fun f => rfl) ?_
      refine zW_fg (L' := [some (.ref 75), some (.int (Int32.ofNat x1)), some (.int (Int32.ofNat x2)), some (.int (1 : Int32)), some (.int (0 : Int32)), none, none, none]) (zle_s _ (zle_s _ (zle_s _ (zle_s _ (zle_s _ (zle_n _ (zle_s _ (zle_s _ zle_nil)))))))) ?_
      exact H
    · have c9 : bad = false := ((zcB_ne _).symm.trans c)
      replace H := H.2 c9
      refine zW_gh 155 [some (.ref 75), some (.int (Int32.ofNat x1)), some (.int (Int32.ofNat x2)), none, none, some (.int (Int32.ofNat x5)), none, none] [.int (Int32.ofNat x2), .int ((Int32.ofNat x2) + (1 : Int32)), .int (0 : Int32), .int (Int32.ofNat x1), .ref 75] 7 (fun f => rfl) ?_
      refine zW_fg (L' := [some (.ref 75), some (.int (Int32.ofNat x1)), some (.int (Int32.ofNat x2)), none, none, none, none, none]) (zle_s _ (zle_s _ (zle_s _ (zle_s _ (zle_s _ (zle_n _ (zle_s _ (zle_s _ zle_nil)))))))) ?_
      exact zW_cl rfl rfl rfl rfl rfl H
  · have c9 : ¬ (m (x1 + 2)) ≤ (Int32.ofNat x5) := (of_decide_eq_false c)
    replace H := H.2 c9
    refine zW_gh 132 [some (.ref 75), some (.int (Int32.ofNat x1)), some (.int (Int32.ofNat x2)), none, none, some (.int (Int32.ofNat x5)), none, none] [.int (Int32.ofNat x2), .int (Int32.ofNat x2), .int (Int32.ofNat x5), .int (1 : Int32), .int (Int32.ofNat x1), .ref 75] 6 (fun f => rfl) ?_
    exact zW_cl rfl rfl rfl rfl rfl H
set_option maxRecDepth 20000 in
theorem b202_27 {K : zKt} {code rf rs pr pn : Int32} {bad : Bool} {J : zJt} {m pa pb pc vf vs : Nat → Int32} {B : zBt} {w : Nat → Int64} {p : Nat × Nat} {Q : zR → zH → Prop} {x1 x2 : Nat} {rv : Bool} (H : ((pr = (Int32.ofNat x2) → ((pn = (Int32.ofNat x2) → zW zm_202 78 [some (.ref 75), some (.int (Int32.ofNat x1)), some (.int (Int32.ofNat x2)), none, none, none, none, some (.int (Int32.ofNat (x2 + 1)))] [] p (zh K (code, rf, rs, bad, pr, pn, J) (m, pa, pb, pc, vf, vs, B) w) Q) ∧ (¬ pn = (Int32.ofNat x2) → zT zm_174 [.ref 75, .int (Int32.ofNat x1), .int (3 : Int32), .int (Int32.ofNat x2), .int pn, .int (0 : Int32), .int (0 : Int32)] p (zh K (code, rf, rs, bad, pr, pn, J) (m, pa, pb, pc, vf, vs, B) w) (zK zm_202 73 [some (.ref 75), some (.int (Int32.ofNat x1)), some (.int (Int32.ofNat x2)), none, none, none, none, none] [] p Q)))) ∧ (¬ pr = (Int32.ofNat x2) → zT zm_174 [.ref 75, .int (Int32.ofNat x1), .int (0 : Int32), .int (Int32.ofNat x2), .int pr, .int (0 : Int32), .int (0 : Int32)] p (zh K (code, rf, rs, bad, pr, pn, J) (m, pa, pb, pc, vf, vs, B) w) (zK zm_202 56 [some (.ref 75), some (.int (Int32.ofNat x1)), some (.int (Int32.ofNat x2)), none, none, none, some (.int pn), none] [] p Q)))) : zW zm_202 27 [some (.ref 75), some (.int (Int32.ofNat x1)), some (.int (Int32.ofNat x2)), none, none, none, none, none] [.int (zbi rv)] p (zh K (code, rf, rs, bad, pr, pn, J) (m, pa, pb, pc, vf, vs, B) w) Q := by
  refine zW_bh (zcmp .eq pr (Int32.ofNat x2)) 56 43 [some (.ref 75), some (.int (Int32.ofNat x1)), some (.int (Int32.ofNat x2)), none, none, some (.int (zbi rv)), some (.int pn), none] [] 8 (fun f => rfl) (fun c => ?_) (fun c => ?_)
  · have c9 : pr = (Int32.ofNat x2) := (of_decide_eq_true c)
    replace H := H.1 c9
    refine zW_bh (zcmp .eq pn (Int32.ofNat x2)) 73 62 [some (.ref 75), some (.int (Int32.ofNat x1)), some (.int (Int32.ofNat x2)), none, none, some (.int (zbi rv)), some (.int pn), none] [] 3 (fun f => rfl) (fun c => ?_) (fun c => ?_)
    · have c9 : pn = (Int32.ofNat x2) := (of_decide_eq_true c)
      replace H := H.1 c9
      refine zW_gh 78 [some (.ref 75), some (.int (Int32.ofNat x1)), some (.int (Int32.ofNat x2)), none, none, some (.int (zbi rv)), some (.int pn), some (.int ((Int32.ofNat x2) + (1 : Int32)))] [] 4 (fun f => rfl) ?_
      rw [show ((Int32.ofNat x2) + (1 : Int32)) = Int32.ofNat (x2 + 1) from (zN_a rfl rfl)]
      refine zW_fg (L' := [some (.ref 75), some (.int (Int32.ofNat x1)), some (.int (Int32.ofNat x2)), none, none, none, none, some (.int (Int32.ofNat (x2 + 1)))]) (zle_s _ (zle_s _ (zle_s _ (zle_s _ (zle_s _ (zle_n _ (zle_n _ (zle_s _ zle_nil)))))))) ?_
      exact H
    · have c9 : ¬ pn = (Int32.ofNat x2) := (of_decide_eq_false c)
      replace H := H.2 c9
      refine zW_gh 70 [some (.ref 75), some (.int (Int32.ofNat x1)), some (.int (Int32.ofNat x2)), none, none, some (.int (zbi rv)), some (.int pn), none] [.int (0 : Int32), .int (0 : Int32), .int pn, .int (Int32.ofNat x2), .int (3 : Int32), .int (Int32.ofNat x1), .ref 75] 7 (fun f => rfl) ?_
      refine zW_fg (L' := [some (.ref 75), some (.int (Int32.ofNat x1)), some (.int (Int32.ofNat x2)), none, none, none, none, none]) (zle_s _ (zle_s _ (zle_s _ (zle_s _ (zle_s _ (zle_n _ (zle_n _ (zle_s _ zle_nil)))))))) ?_
      exact zW_cl rfl rfl rfl rfl rfl H
  · have c9 : ¬ pr = (Int32.ofNat x2) := (of_decide_eq_false c)
    replace H := H.2 c9
    refine zW_gh 53 [some (.ref 75), some (.int (Int32.ofNat x1)), some (.int (Int32.ofNat x2)), none, none, some (.int (zbi rv)), some (.int pn), none] [.int (0 : Int32), .int (0 : Int32), .int pr, .int (Int32.ofNat x2), .int (0 : Int32), .int (Int32.ofNat x1), .ref 75] 8 (fun f => rfl) ?_
    refine zW_fg (L' := [some (.ref 75), some (.int (Int32.ofNat x1)), some (.int (Int32.ofNat x2)), none, none, none, some (.int pn), none]) (zle_s _ (zle_s _ (zle_s _ (zle_s _ (zle_s _ (zle_n _ (zle_s _ (zle_s _ zle_nil)))))))) ?_
    exact zW_cl rfl rfl rfl rfl rfl H
set_option maxRecDepth 20000 in
theorem b202_158 {K : zKt} {code rf rs pr pn : Int32} {bad : Bool} {J : zJt} {m pa pb pc vf vs : Nat → Int32} {B : zBt} {w : Nat → Int64} {p : Nat × Nat} {Q : zR → zH → Prop} {x1 x2 : Nat} {rv : Bool} (H : ((rv = false → zW zm_202 5 [some (.ref 75), some (.int (Int32.ofNat x1)), some (.int (Int32.ofNat x2)), some (.int (Int32.ofNat 1)), some (.int (Int32.ofNat 0)), none, none, none] [] p (zh K (code, rf, rs, bad, pr, pn, J) (m, pa, pb, pc, vf, vs, B) w) Q) ∧ (rv = true → zT zm_185 [.ref 75, .int (Int32.ofNat x1), .int (zbi true), .int ((Int32.ofNat x2) + (1 : Int32)), .int (Int32.ofNat x2)] p (zh K (code, rf, rs, bad, pr, pn, J) (m, pa, pb, pc, vf, vs, B) w) (zK zm_202 171 [some (.ref 75), some (.int (Int32.ofNat x1)), some (.int (Int32.ofNat x2)), none, none, none, none, none] [] p Q)))) : zW zm_202 158 [some (.ref 75), some (.int (Int32.ofNat x1)), some (.int (Int32.ofNat x2)), none, none, none, none, none] [.int (zbi rv)] p (zh K (code, rf, rs, bad, pr, pn, J) (m, pa, pb, pc, vf, vs, B) w) Q := by
  refine zW_bh (zcmp .eq (zbi rv) (0 : Int32)) 174 161 [some (.ref 75), some (.int (Int32.ofNat x1)), some (.int (Int32.ofNat x2)), none, none, none, none, none] [] 1 (fun f => rfl) (fun c => ?_) (fun c => ?_)
  · have c9 : rv = false := ((Bool.not_eq_true' _).mp ((zcB_eq _).symm.trans c))
    replace H := H.1 c9
    refine zW_gh 197 [some (.ref 75), some (.int (Int32.ofNat x1)), some (.int (Int32.ofNat x2)), some (.int (1 : Int32)), none, some (.int (-1 : Int32)), none, none] [.int (1 : Int32)] 9 (fun f => rfl) ?_
    refine zW_gh 5 [some (.ref 75), some (.int (Int32.ofNat x1)), some (.int (Int32.ofNat x2)), some (.int (1 : Int32)), some (.int (0 : Int32)), some (.int (-1 : Int32)), none, none] [] 7 (fun f => rfl) ?_
    refine zW_fg (L' := [some (.ref 75), some (.int (Int32.ofNat x1)), some (.int (Int32.ofNat x2)), some (.int (1 : Int32)), some (.int (0 : Int32)), none, none, none]) (zle_s _ (zle_s _ (zle_s _ (zle_s _ (zle_s _ (zle_n _ (zle_s _ (zle_s _ zle_nil)))))))) ?_
    exact H
  · have c9 : rv = true := ((Bool.not_eq_false' _).mp ((zcB_eq _).symm.trans c))
    replace H := H.2 c9
    refine zW_gh 168 [some (.ref 75), some (.int (Int32.ofNat x1)), some (.int (Int32.ofNat x2)), none, none, none, none, none] [.int (Int32.ofNat x2), .int ((Int32.ofNat x2) + (1 : Int32)), .int (1 : Int32), .int (Int32.ofNat x1), .ref 75] 7 (fun f => rfl) ?_
    exact zW_cl rfl rfl rfl rfl rfl H
set_option maxRecDepth 20000 in
theorem b202_135 {K : zKt} {code rf rs pr pn : Int32} {bad : Bool} {J : zJt} {m pa pb pc vf vs : Nat → Int32} {B : zBt} {w : Nat → Int64} {p : Nat × Nat} {Q : zR → zH → Prop} {x1 x2 x5 : Nat} (H : zW zm_202 112 [some (.ref 75), some (.int (Int32.ofNat x1)), some (.int (Int32.ofNat x2)), none, none, some (.int (Int32.ofNat (x5 + 1))), none, none] [] p (zh K (code, rf, rs, bad, pr, pn, J) (m, pa, pb, pc, vf, vs, B) w) Q) : zW zm_202 135 [some (.ref 75), some (.int (Int32.ofNat x1)), some (.int (Int32.ofNat x2)), none, none, some (.int (Int32.ofNat x5)), none, none] [] p (zh K (code, rf, rs, bad, pr, pn, J) (m, pa, pb, pc, vf, vs, B) w) Q := by
  refine zW_inc [some (.ref 75), some (.int (Int32.ofNat x1)), some (.int (Int32.ofNat x2)), none, none, some (.int ((Int32.ofNat x5) + (1 : Int32))), none, none] rfl rfl rfl ?_
  rw [show ((Int32.ofNat x5) + (1 : Int32)) = Int32.ofNat (x5 + 1) from (zN_a rfl rfl)]
  refine zW_gh 112 [some (.ref 75), some (.int (Int32.ofNat x1)), some (.int (Int32.ofNat x2)), none, none, some (.int (Int32.ofNat (x5 + 1))), none, none] [] 1 (fun f => rfl) ?_
  exact H
set_option maxRecDepth 20000 in
theorem b202_78 {K : zKt} {code rf rs pr pn : Int32} {bad : Bool} {J : zJt} {m pa pb pc vf vs : Nat → Int32} {B : zBt} {w : Nat → Int64} {p : Nat × Nat} {Q : zR → zH → Prop} {x1 x2 x7 : Nat} (H : ((x1 + 1) < 5340 ∧ (((m (x1 + 1)) ≤ (Int32.ofNat x7) → zW zm_202 112 [some (.ref 75), some (.int (Int32.ofNat x1)), some (.int (Int32.ofNat x2)), none, none, some (.int (Int32.ofNat (x2 + 1))), none, none] [] p (zh K (code, rf, rs, bad, pr, pn, J) (m, pa, pb, pc, vf, vs, B) w) Q) ∧ (¬ (m (x1 + 1)) ≤ (Int32.ofNat x7) → zT zm_190 [.ref 75, .int (Int32.ofNat x1), .int (zbi false), .int (Int32.ofNat x7), .int (Int32.ofNat x2), .int (Int32.ofNat x2)] p (zh K (code, rf, rs, bad, pr, pn, J) (m, pa, pb, pc, vf, vs, B) w) (zK zm_202 101 [some (.ref 75), some (.int (Int32.ofNat x1)), some (.int (Int32.ofNat x2)), none, none, none, none, some (.int (Int32.ofNat x7))] [] p Q))))) : zW zm_202 78 [some (.ref 75), some (.int (Int32.ofNat x1)), some (.int (Int32.ofNat x2)), none, none, none, none, some (.int (Int32.ofNat x7))] [] p (zh K (code, rf, rs, bad, pr, pn, J) (m, pa, pb, pc, vf, vs, B) w) Q := by
  refine zW_gh 87 [some (.ref 75), some (.int (Int32.ofNat x1)), some (.int (Int32.ofNat x2)), none, none, none, none, some (.int (Int32.ofNat x7))] [.int ((Int32.ofNat x1) + (1 : Int32)), .ref 76, .int (Int32.ofNat x7)] 6 (fun f => rfl) ?_
  obtain ⟨h1, H⟩ := H
  refine zW_iald rfl (by decide) rfl (by decide) (zN_a rfl rfl) h1 ?_
  refine zW_bh (zcmp .ge (Int32.ofNat x7) (m (x1 + 1))) 107 91 [some (.ref 75), some (.int (Int32.ofNat x1)), some (.int (Int32.ofNat x2)), none, none, none, none, some (.int (Int32.ofNat x7))] [] 1 (fun f => rfl) (fun c => ?_) (fun c => ?_)
  · have c9 : (m (x1 + 1)) ≤ (Int32.ofNat x7) := (of_decide_eq_true c)
    replace H := H.1 c9
    refine zW_gh 112 [some (.ref 75), some (.int (Int32.ofNat x1)), some (.int (Int32.ofNat x2)), none, none, some (.int ((Int32.ofNat x2) + (1 : Int32))), none, some (.int (Int32.ofNat x7))] [] 4 (fun f => rfl) ?_
    rw [show ((Int32.ofNat x2) + (1 : Int32)) = Int32.ofNat (x2 + 1) from (zN_a rfl rfl)]
    refine zW_fg (L' := [some (.ref 75), some (.int (Int32.ofNat x1)), some (.int (Int32.ofNat x2)), none, none, some (.int (Int32.ofNat (x2 + 1))), none, none]) (zle_s _ (zle_s _ (zle_s _ (zle_s _ (zle_s _ (zle_s _ (zle_s _ (zle_n _ zle_nil)))))))) ?_
    exact H
  · have c9 : ¬ (m (x1 + 1)) ≤ (Int32.ofNat x7) := (of_decide_eq_false c)
    replace H := H.2 c9
    refine zW_gh 98 [some (.ref 75), some (.int (Int32.ofNat x1)), some (.int (Int32.ofNat x2)), none, none, none, none, some (.int (Int32.ofNat x7))] [.int (Int32.ofNat x2), .int (Int32.ofNat x2), .int (Int32.ofNat x7), .int (0 : Int32), .int (Int32.ofNat x1), .ref 75] 6 (fun f => rfl) ?_
    exact zW_cl rfl rfl rfl rfl rfl H
set_option maxRecDepth 20000 in
theorem b202_73 {K : zKt} {code rf rs pr pn : Int32} {bad : Bool} {J : zJt} {m pa pb pc vf vs : Nat → Int32} {B : zBt} {w : Nat → Int64} {p : Nat × Nat} {Q : zR → zH → Prop} {x1 x2 : Nat} (H : zW zm_202 78 [some (.ref 75), some (.int (Int32.ofNat x1)), some (.int (Int32.ofNat x2)), none, none, none, none, some (.int (Int32.ofNat (x2 + 1)))] [] p (zh K (code, rf, rs, bad, pr, pn, J) (m, pa, pb, pc, vf, vs, B) w) Q) : zW zm_202 73 [some (.ref 75), some (.int (Int32.ofNat x1)), some (.int (Int32.ofNat x2)), none, none, none, none, none] [] p (zh K (code, rf, rs, bad, pr, pn, J) (m, pa, pb, pc, vf, vs, B) w) Q := by
  refine zW_gh 78 [some (.ref 75), some (.int (Int32.ofNat x1)), some (.int (Int32.ofNat x2)), none, none, none, none, some (.int ((Int32.ofNat x2) + (1 : Int32)))] [] 4 (fun f => rfl) ?_
  rw [show ((Int32.ofNat x2) + (1 : Int32)) = Int32.ofNat (x2 + 1) from (zN_a rfl rfl)]
  exact H
set_option maxRecDepth 20000 in
theorem b202_56 {K : zKt} {code rf rs pr pn : Int32} {bad : Bool} {J : zJt} {m pa pb pc vf vs : Nat → Int32} {B : zBt} {w : Nat → Int64} {p : Nat × Nat} {Q : zR → zH → Prop} {x1 x2 : Nat} {x6 : Int32} (H : ((x6 = (Int32.ofNat x2) → zW zm_202 78 [some (.ref 75), some (.int (Int32.ofNat x1)), some (.int (Int32.ofNat x2)), none, none, none, none, some (.int (Int32.ofNat (x2 + 1)))] [] p (zh K (code, rf, rs, bad, pr, pn, J) (m, pa, pb, pc, vf, vs, B) w) Q) ∧ (¬ x6 = (Int32.ofNat x2) → zT zm_174 [.ref 75, .int (Int32.ofNat x1), .int (3 : Int32), .int (Int32.ofNat x2), .int x6, .int (0 : Int32), .int (0 : Int32)] p (zh K (code, rf, rs, bad, pr, pn, J) (m, pa, pb, pc, vf, vs, B) w) (zK zm_202 73 [some (.ref 75), some (.int (Int32.ofNat x1)), some (.int (Int32.ofNat x2)), none, none, none, none, none] [] p Q)))) : zW zm_202 56 [some (.ref 75), some (.int (Int32.ofNat x1)), some (.int (Int32.ofNat x2)), none, none, none, some (.int x6), none] [] p (zh K (code, rf, rs, bad, pr, pn, J) (m, pa, pb, pc, vf, vs, B) w) Q := by
  refine zW_bh (zcmp .eq x6 (Int32.ofNat x2)) 73 62 [some (.ref 75), some (.int (Int32.ofNat x1)), some (.int (Int32.ofNat x2)), none, none, none, some (.int x6), none] [] 3 (fun f => rfl) (fun c => ?_) (fun c => ?_)
  · have c9 : x6 = (Int32.ofNat x2) := (of_decide_eq_true c)
    replace H := H.1 c9
    refine zW_gh 78 [some (.ref 75), some (.int (Int32.ofNat x1)), some (.int (Int32.ofNat x2)), none, none, none, some (.int x6), some (.int ((Int32.ofNat x2) + (1 : Int32)))] [] 4 (fun f => rfl) ?_
    rw [show ((Int32.ofNat x2) + (1 : Int32)) = Int32.ofNat (x2 + 1) from (zN_a rfl rfl)]
    refine zW_fg (L' := [some (.ref 75), some (.int (Int32.ofNat x1)), some (.int (Int32.ofNat x2)), none, none, none, none, some (.int (Int32.ofNat (x2 + 1)))]) (zle_s _ (zle_s _ (zle_s _ (zle_s _ (zle_s _ (zle_s _ (zle_n _ (zle_s _ zle_nil)))))))) ?_
    exact H
  · have c9 : ¬ x6 = (Int32.ofNat x2) := (of_decide_eq_false c)
    replace H := H.2 c9
    refine zW_gh 70 [some (.ref 75), some (.int (Int32.ofNat x1)), some (.int (Int32.ofNat x2)), none, none, none, some (.int x6), none] [.int (0 : Int32), .int (0 : Int32), .int x6, .int (Int32.ofNat x2), .int (3 : Int32), .int (Int32.ofNat x1), .ref 75] 7 (fun f => rfl) ?_
    refine zW_fg (L' := [some (.ref 75), some (.int (Int32.ofNat x1)), some (.int (Int32.ofNat x2)), none, none, none, none, none]) (zle_s _ (zle_s _ (zle_s _ (zle_s _ (zle_s _ (zle_s _ (zle_n _ (zle_s _ zle_nil)))))))) ?_
    exact zW_cl rfl rfl rfl rfl rfl H
set_option maxRecDepth 20000 in
theorem b202_171 {K : zKt} {code rf rs pr pn : Int32} {bad : Bool} {J : zJt} {m pa pb pc vf vs : Nat → Int32} {B : zBt} {w : Nat → Int64} {p : Nat × Nat} {Q : zR → zH → Prop} {x1 x2 : Nat} {rv : Bool} (H : ((rv = true → zT zm_203 [.ref 75, .int (Int32.ofNat x1), .int (Int32.ofNat x2)] p (zh K (code, rf, rs, bad, pr, pn, J) (m, pa, pb, pc, vf, vs, B) w) (zK zm_202 194 [some (.ref 75), some (.int (Int32.ofNat x1)), some (.int (Int32.ofNat x2)), some (.int (Int32.ofNat 0)), none, none, none, none] [] p Q)) ∧ (rv = false → zW zm_202 5 [some (.ref 75), some (.int (Int32.ofNat x1)), some (.int (Int32.ofNat x2)), some (.int (Int32.ofNat 1)), some (.int (Int32.ofNat 0)), none, none, none] [] p (zh K (code, rf, rs, bad, pr, pn, J) (m, pa, pb, pc, vf, vs, B) w) Q))) : zW zm_202 171 [some (.ref 75), some (.int (Int32.ofNat x1)), some (.int (Int32.ofNat x2)), none, none, none, none, none] [.int (zbi rv)] p (zh K (code, rf, rs, bad, pr, pn, J) (m, pa, pb, pc, vf, vs, B) w) Q := by
  refine zW_bh (zcmp .ne (zbi rv) (0 : Int32)) 178 174 [some (.ref 75), some (.int (Int32.ofNat x1)), some (.int (Int32.ofNat x2)), none, none, none, none, none] [] 1 (fun f => rfl) (fun c => ?_) (fun c => ?_)
  · have c9 : rv = true := ((zcB_ne _).symm.trans c)
    replace H := H.1 c9
    refine zW_gh 191 [some (.ref 75), some (.int (Int32.ofNat x1)), some (.int (Int32.ofNat x2)), some (.int (0 : Int32)), none, none, none, none] [.int (Int32.ofNat x2), .int (Int32.ofNat x1), .ref 75] 7 (fun f => rfl) ?_
    exact zW_cl rfl rfl rfl rfl rfl H
  · have c9 : rv = false := ((zcB_ne _).symm.trans c)
    replace H := H.2 c9
    refine zW_gh 197 [some (.ref 75), some (.int (Int32.ofNat x1)), some (.int (Int32.ofNat x2)), some (.int (1 : Int32)), none, some (.int (-1 : Int32)), none, none] [.int (1 : Int32)] 9 (fun f => rfl) ?_
    refine zW_gh 5 [some (.ref 75), some (.int (Int32.ofNat x1)), some (.int (Int32.ofNat x2)), some (.int (1 : Int32)), some (.int (0 : Int32)), some (.int (-1 : Int32)), none, none] [] 7 (fun f => rfl) ?_
    refine zW_fg (L' := [some (.ref 75), some (.int (Int32.ofNat x1)), some (.int (Int32.ofNat x2)), some (.int (1 : Int32)), some (.int (0 : Int32)), none, none, none]) (zle_s _ (zle_s _ (zle_s _ (zle_s _ (zle_s _ (zle_n _ (zle_s _ (zle_s _ zle_nil)))))))) ?_
    exact H
set_option maxRecDepth 20000 in
theorem b202_101 {K : zKt} {code rf rs pr pn : Int32} {bad : Bool} {J : zJt} {m pa pb pc vf vs : Nat → Int32} {B : zBt} {w : Nat → Int64} {p : Nat × Nat} {Q : zR → zH → Prop} {x1 x2 x7 : Nat} (H : zW zm_202 78 [some (.ref 75), some (.int (Int32.ofNat x1)), some (.int (Int32.ofNat x2)), none, none, none, none, some (.int (Int32.ofNat (x7 + 1)))] [] p (zh K (code, rf, rs, bad, pr, pn, J) (m, pa, pb, pc, vf, vs, B) w) Q) : zW zm_202 101 [some (.ref 75), some (.int (Int32.ofNat x1)), some (.int (Int32.ofNat x2)), none, none, none, none, some (.int (Int32.ofNat x7))] [] p (zh K (code, rf, rs, bad, pr, pn, J) (m, pa, pb, pc, vf, vs, B) w) Q := by
  refine zW_inc [some (.ref 75), some (.int (Int32.ofNat x1)), some (.int (Int32.ofNat x2)), none, none, none, none, some (.int ((Int32.ofNat x7) + (1 : Int32)))] rfl rfl rfl ?_
  rw [show ((Int32.ofNat x7) + (1 : Int32)) = Int32.ofNat (x7 + 1) from (zN_a rfl rfl)]
  refine zW_gh 78 [some (.ref 75), some (.int (Int32.ofNat x1)), some (.int (Int32.ofNat x2)), none, none, none, none, some (.int (Int32.ofNat (x7 + 1)))] [] 1 (fun f => rfl) ?_
  exact H
set_option maxRecDepth 20000 in
theorem b202_194 {K : zKt} {code rf rs pr pn : Int32} {bad : Bool} {J : zJt} {m pa pb pc vf vs : Nat → Int32} {B : zBt} {w : Nat → Int64} {p : Nat × Nat} {Q : zR → zH → Prop} {x1 x2 x3 : Nat} {rv : Int32} (H : (x3 < 2147483648 ∧ ((¬ x3 = 0 → ((rv = (-1 : Int32) → zW zm_202 5 [some (.ref 75), some (.int (Int32.ofNat x1)), some (.int (Int32.ofNat x2)), some (.int (Int32.ofNat x3)), some (.int (Int32.ofNat 0)), none, none, none] [] p (zh K (code, rf, rs, bad, pr, pn, J) (m, pa, pb, pc, vf, vs, B) w) Q) ∧ (¬ rv = (-1 : Int32) → zT zm_174 [.ref 75, .int (Int32.ofNat x1), .int (1 : Int32), .int (Int32.ofNat x2), .int rv, .int (1 : Int32), .int (0 : Int32)] p (zh K (code, rf, rs, bad, pr, pn, J) (m, pa, pb, pc, vf, vs, B) w) (zK zm_202 230 [some (.ref 75), some (.int (Int32.ofNat x1)), some (.int (Int32.ofNat x2)), some (.int (Int32.ofNat x3)), some (.int (Int32.ofNat 0)), none, none, none] [] p Q)))) ∧ (x3 = 0 → ((¬ rv = (-1 : Int32) → ((rv = (-1 : Int32) → zW zm_202 5 [some (.ref 75), some (.int (Int32.ofNat x1)), some (.int (Int32.ofNat x2)), some (.int (Int32.ofNat x3)), some (.int (Int32.ofNat 0)), none, none, none] [] p (zh K (code, rf, rs, bad, pr, pn, J) (m, pa, pb, pc, vf, vs, B) w) Q) ∧ (¬ rv = (-1 : Int32) → zT zm_174 [.ref 75, .int (Int32.ofNat x1), .int (1 : Int32), .int (Int32.ofNat x2), .int rv, .int (1 : Int32), .int (0 : Int32)] p (zh K (code, rf, rs, bad, pr, pn, J) (m, pa, pb, pc, vf, vs, B) w) (zK zm_202 230 [some (.ref 75), some (.int (Int32.ofNat x1)), some (.int (Int32.ofNat x2)), some (.int (Int32.ofNat x3)), some (.int (Int32.ofNat 0)), none, none, none] [] p Q)))) ∧ (rv = (-1 : Int32) → ((rv = (-1 : Int32) → zW zm_202 5 [some (.ref 75), some (.int (Int32.ofNat x1)), some (.int (Int32.ofNat x2)), some (.int (Int32.ofNat x3)), some (.int (Int32.ofNat 1)), none, none, none] [] p (zh K (code, rf, rs, bad, pr, pn, J) (m, pa, pb, pc, vf, vs, B) w) Q) ∧ (¬ rv = (-1 : Int32) → zT zm_174 [.ref 75, .int (Int32.ofNat x1), .int (1 : Int32), .int (Int32.ofNat x2), .int rv, .int (1 : Int32), .int (0 : Int32)] p (zh K (code, rf, rs, bad, pr, pn, J) (m, pa, pb, pc, vf, vs, B) w) (zK zm_202 230 [some (.ref 75), some (.int (Int32.ofNat x1)), some (.int (Int32.ofNat x2)), some (.int (Int32.ofNat x3)), some (.int (Int32.ofNat 1)), none, none, none] [] p Q))))))))) : zW zm_202 194 [some (.ref 75), some (.int (Int32.ofNat x1)), some (.int (Int32.ofNat x2)), some (.int (Int32.ofNat x3)), none, none, none, none] [.int rv] p (zh K (code, rf, rs, bad, pr, pn, J) (m, pa, pb, pc, vf, vs, B) w) Q := by
  obtain ⟨h1, H⟩ := H
  refine zW_bh (zcmp .ne (Int32.ofNat x3) (0 : Int32)) 210 200 [some (.ref 75), some (.int (Int32.ofNat x1)), some (.int (Int32.ofNat x2)), some (.int (Int32.ofNat x3)), none, some (.int rv), none, none] [] 3 (fun f => rfl) (fun c => ?_) (fun c => ?_)
  · have c9 : ¬ x3 = 0 := (by have c := (zcN_ne (a := x3) (b := 0) rfl rfl h1 (by decide)).symm.trans c; simpa using c)
    replace H := H.1 c9
    refine zW_bh (zcmp .eq rv (-1 : Int32)) 230 219 [some (.ref 75), some (.int (Int32.ofNat x1)), some (.int (Int32.ofNat x2)), some (.int (Int32.ofNat x3)), some (.int (0 : Int32)), some (.int rv), none, none] [] 5 (fun f => rfl) (fun c => ?_) (fun c => ?_)
    · have c9 : rv = (-1 : Int32) := (of_decide_eq_true c)
      replace H := H.1 c9
      refine zW_gh 5 [some (.ref 75), some (.int (Int32.ofNat x1)), some (.int (Int32.ofNat x2)), some (.int (Int32.ofNat x3)), some (.int (0 : Int32)), some (.int rv), none, none] [] 1 (fun f => rfl) ?_
      refine zW_fg (L' := [some (.ref 75), some (.int (Int32.ofNat x1)), some (.int (Int32.ofNat x2)), some (.int (Int32.ofNat x3)), some (.int (0 : Int32)), none, none, none]) (zle_s _ (zle_s _ (zle_s _ (zle_s _ (zle_s _ (zle_n _ (zle_s _ (zle_s _ zle_nil)))))))) ?_
      exact H
    · have c9 : ¬ rv = (-1 : Int32) := (of_decide_eq_false c)
      replace H := H.2 c9
      refine zW_gh 227 [some (.ref 75), some (.int (Int32.ofNat x1)), some (.int (Int32.ofNat x2)), some (.int (Int32.ofNat x3)), some (.int (0 : Int32)), some (.int rv), none, none] [.int (0 : Int32), .int (1 : Int32), .int rv, .int (Int32.ofNat x2), .int (1 : Int32), .int (Int32.ofNat x1), .ref 75] 7 (fun f => rfl) ?_
      refine zW_fg (L' := [some (.ref 75), some (.int (Int32.ofNat x1)), some (.int (Int32.ofNat x2)), some (.int (Int32.ofNat x3)), some (.int (0 : Int32)), none, none, none]) (zle_s _ (zle_s _ (zle_s _ (zle_s _ (zle_s _ (zle_n _ (zle_s _ (zle_s _ zle_nil)))))))) ?_
      exact zW_cl rfl rfl rfl rfl rfl H
  · have c9 : x3 = 0 := (by have c := (zcN_ne (a := x3) (b := 0) rfl rfl h1 (by decide)).symm.trans c; simpa using c)
    replace H := H.2 c9
    refine zW_bh (zcmp .ne rv (-1 : Int32)) 210 206 [some (.ref 75), some (.int (Int32.ofNat x1)), some (.int (Int32.ofNat x2)), some (.int (Int32.ofNat x3)), none, some (.int rv), none, none] [] 3 (fun f => rfl) (fun c => ?_) (fun c => ?_)
    · have c9 : ¬ rv = (-1 : Int32) := (by simpa [zcmp] using c)
      replace H := H.1 c9
      refine zW_bh (zcmp .eq rv (-1 : Int32)) 230 219 [some (.ref 75), some (.int (Int32.ofNat x1)), some (.int (Int32.ofNat x2)), some (.int (Int32.ofNat x3)), some (.int (0 : Int32)), some (.int rv), none, none] [] 5 (fun f => rfl) (fun c => ?_) (fun c => ?_)
      · have c9 : rv = (-1 : Int32) := (of_decide_eq_true c)
        replace H := H.1 c9
        refine zW_gh 5 [some (.ref 75), some (.int (Int32.ofNat x1)), some (.int (Int32.ofNat x2)), some (.int (Int32.ofNat x3)), some (.int (0 : Int32)), some (.int rv), none, none] [] 1 (fun f => rfl) ?_
        refine zW_fg (L' := [some (.ref 75), some (.int (Int32.ofNat x1)), some (.int (Int32.ofNat x2)), some (.int (Int32.ofNat x3)), some (.int (0 : Int32)), none, none, none]) (zle_s _ (zle_s _ (zle_s _ (zle_s _ (zle_s _ (zle_n _ (zle_s _ (zle_s _ zle_nil)))))))) ?_
        exact H
      · have c9 : ¬ rv = (-1 : Int32) := (of_decide_eq_false c)
        replace H := H.2 c9
        refine zW_gh 227 [some (.ref 75), some (.int (Int32.ofNat x1)), some (.int (Int32.ofNat x2)), some (.int (Int32.ofNat x3)), some (.int (0 : Int32)), some (.int rv), none, none] [.int (0 : Int32), .int (1 : Int32), .int rv, .int (Int32.ofNat x2), .int (1 : Int32), .int (Int32.ofNat x1), .ref 75] 7 (fun f => rfl) ?_
        refine zW_fg (L' := [some (.ref 75), some (.int (Int32.ofNat x1)), some (.int (Int32.ofNat x2)), some (.int (Int32.ofNat x3)), some (.int (0 : Int32)), none, none, none]) (zle_s _ (zle_s _ (zle_s _ (zle_s _ (zle_s _ (zle_n _ (zle_s _ (zle_s _ zle_nil)))))))) ?_
        exact zW_cl rfl rfl rfl rfl rfl H
    · have c9 : rv = (-1 : Int32) := (by simpa [zcmp] using c)
      replace H := H.2 c9
      refine zW_bh (zcmp .eq rv (-1 : Int32)) 230 219 [some (.ref 75), some (.int (Int32.ofNat x1)), some (.int (Int32.ofNat x2)), some (.int (Int32.ofNat x3)), some (.int (1 : Int32)), some (.int rv), none, none] [] 6 (fun f => rfl) (fun c => ?_) (fun c => ?_)
      · have c9 : rv = (-1 : Int32) := (of_decide_eq_true c)
        replace H := H.1 c9
        refine zW_gh 5 [some (.ref 75), some (.int (Int32.ofNat x1)), some (.int (Int32.ofNat x2)), some (.int (Int32.ofNat x3)), some (.int (1 : Int32)), some (.int rv), none, none] [] 1 (fun f => rfl) ?_
        refine zW_fg (L' := [some (.ref 75), some (.int (Int32.ofNat x1)), some (.int (Int32.ofNat x2)), some (.int (Int32.ofNat x3)), some (.int (1 : Int32)), none, none, none]) (zle_s _ (zle_s _ (zle_s _ (zle_s _ (zle_s _ (zle_n _ (zle_s _ (zle_s _ zle_nil)))))))) ?_
        exact H
      · have c9 : ¬ rv = (-1 : Int32) := (of_decide_eq_false c)
        replace H := H.2 c9
        refine zW_gh 227 [some (.ref 75), some (.int (Int32.ofNat x1)), some (.int (Int32.ofNat x2)), some (.int (Int32.ofNat x3)), some (.int (1 : Int32)), some (.int rv), none, none] [.int (0 : Int32), .int (1 : Int32), .int rv, .int (Int32.ofNat x2), .int (1 : Int32), .int (Int32.ofNat x1), .ref 75] 7 (fun f => rfl) ?_
        refine zW_fg (L' := [some (.ref 75), some (.int (Int32.ofNat x1)), some (.int (Int32.ofNat x2)), some (.int (Int32.ofNat x3)), some (.int (1 : Int32)), none, none, none]) (zle_s _ (zle_s _ (zle_s _ (zle_s _ (zle_s _ (zle_n _ (zle_s _ (zle_s _ zle_nil)))))))) ?_
        exact zW_cl rfl rfl rfl rfl rfl H
set_option maxRecDepth 20000 in
theorem b202_230 {K : zKt} {code rf rs pr pn : Int32} {bad : Bool} {J : zJt} {m pa pb pc vf vs : Nat → Int32} {B : zBt} {w : Nat → Int64} {p : Nat × Nat} {Q : zR → zH → Prop} {x1 x2 x3 x4 : Nat} (H : zW zm_202 5 [some (.ref 75), some (.int (Int32.ofNat x1)), some (.int (Int32.ofNat x2)), some (.int (Int32.ofNat x3)), some (.int (Int32.ofNat x4)), none, none, none] [] p (zh K (code, rf, rs, bad, pr, pn, J) (m, pa, pb, pc, vf, vs, B) w) Q) : zW zm_202 230 [some (.ref 75), some (.int (Int32.ofNat x1)), some (.int (Int32.ofNat x2)), some (.int (Int32.ofNat x3)), some (.int (Int32.ofNat x4)), none, none, none] [] p (zh K (code, rf, rs, bad, pr, pn, J) (m, pa, pb, pc, vf, vs, B) w) Q := by
  refine zW_gh 5 [some (.ref 75), some (.int (Int32.ofNat x1)), some (.int (Int32.ofNat x2)), some (.int (Int32.ofNat x3)), some (.int (Int32.ofNat x4)), none, none, none] [] 1 (fun f => rfl) ?_
  exact H
