theorem b159a {K : zKt} {code rf rs pr pn : Int32} {bad : Bool} {J : zJt} {m pa pb pc vf vs : Nat → Int32} {B : zBt} {w : Nat → Int64} {p : Nat × Nat} {Q : zR → zH → Prop} {a0 a1 : Nat} (H : zW zm_159 5 [some (.int (Int32.ofNat a0)), none, some (.ref 77), some (.int (Int32.ofNat a1)), some (.int (Int32.ofNat 0))] [] p (zh K (code, rf, rs, bad, pr, pn, J) (m, pa, pb, pc, vf, vs, B) w) Q) : zT zm_159 [.int (Int32.ofNat a0), .int (Int32.ofNat a1), .ref 77] p (zh K (code, rf, rs, bad, pr, pn, J) (m, pa, pb, pc, vf, vs, B) w) Q := by
  change zW zm_159 0 [some (.int (Int32.ofNat a0)), some (.int (Int32.ofNat a1)), some (.ref 77), none, none] [] p _ Q
  refine zW_gh 5 [some (.int (Int32.ofNat a0)), some (.int (Int32.ofNat a1)), some (.ref 77), some (.int (Int32.ofNat a1)), some (.int (0 : Int32))] [] 4 (fun f => rfl) ?_
  refine zW_fg (L' := [some (.int (Int32.ofNat a0)), none, some (.ref 77), some (.int (Int32.ofNat a1)), some (.int (0 : Int32))]) (zle_s _ (zle_n _ (zle_s _ (zle_s _ (zle_s _ zle_nil))))) ?_
  exact H
theorem b159a_5 {K : zKt} {code rf rs pr pn : Int32} {bad : Bool} {J : zJt} {m pa pb pc vf vs : Nat → Int32} {B : zBt} {w : Nat → Int64} {p : Nat × Nat} {Q : zR → zH → Prop} {x0 x3 x4 : Nat} (H : (x4 < 2147483648 ∧ ((8 ≤ x4 → Q (.inl none) (zh K (code, rf, rs, bad, pr, pn, J) (m, pa, pb, pc, vf, vs, B) w)) ∧ (x4 < 8 → (0 < x0 ∧ (x0 < 2147483648 ∧ (x3 < 2147483648 ∧ (x4 < 8 ∧ zW zm_159 5 [some (.int (Int32.ofNat x0)), none, some (.ref 77), some (.int (Int32.ofNat (x3 / x0))), some (.int (Int32.ofNat (x4 + 1)))] [] p (zh K (code, rf, rs, bad, pr, pn, J) (m, (va_up pa x4 (Int32.ofNat (x3 % x0))), pb, pc, vf, vs, B) w) Q)))))))) : zW zm_159 5 [some (.int (Int32.ofNat x0)), none, some (.ref 77), some (.int (Int32.ofNat x3)), some (.int (Int32.ofNat x4))] [] p (zh K (code, rf, rs, bad, pr, pn, J) (m, pa, pb, pc, vf, vs, B) w) Q := by
  obtain ⟨h1, H⟩ := H
  refine zW_bh (zcmp .ge (Int32.ofNat x4) (8 : Int32)) 29 12 [some (.int (Int32.ofNat x0)), none, some (.ref 77), some (.int (Int32.ofNat x3)), some (.int (Int32.ofNat x4))] [] 3 (fun f => rfl) (fun c => ?_) (fun c => ?_)
  · have c9 : 8 ≤ x4 := (of_decide_eq_true ((zcN_ge (a := x4) (b := 8) rfl rfl h1 (by decide)).symm.trans c))
    replace H := H.1 c9
    exact zW_rh none 1 (fun f => rfl) H
  · have c9 : x4 < 8 := (Nat.lt_of_not_le (of_decide_eq_false ((zcN_ge (a := x4) (b := 8) rfl rfl h1 (by decide)).symm.trans c)))
    replace H := H.2 c9
    refine zW_gh 17 [some (.int (Int32.ofNat x0)), none, some (.ref 77), some (.int (Int32.ofNat x3)), some (.int (Int32.ofNat x4))] [.int (Int32.ofNat x0), .int (Int32.ofNat x3), .int (Int32.ofNat x4), .ref 77] 4 (fun f => rfl) ?_
    obtain ⟨h2, H⟩ := H
    obtain ⟨h3, H⟩ := H
    obtain ⟨h4, H⟩ := H
    refine zW_irem rfl (zN_nz rfl h2 h3) ?_
    rw [show ((Int32.ofNat x3) - (Int32.ofNat x3) / (Int32.ofNat x0) * (Int32.ofNat x0)) = Int32.ofNat (x3 % x0) from (zN_r rfl rfl h4 h3)]
    obtain ⟨h5, H⟩ := H
    refine zW_iast rfl (by decide) rfl (by decide) zu_77 rfl h5 ?_
    refine zW_gh 21 [some (.int (Int32.ofNat x0)), none, some (.ref 77), some (.int (Int32.ofNat x3)), some (.int (Int32.ofNat x4))] [.int (Int32.ofNat x0), .int (Int32.ofNat x3)] 2 (fun f => rfl) ?_
    refine zW_idiv rfl (zN_nz rfl h2 h3) ?_
    rw [show ((Int32.ofNat x3) / (Int32.ofNat x0)) = Int32.ofNat (x3 / x0) from (zN_d rfl rfl h4 h3)]
    refine zW_gh 23 [some (.int (Int32.ofNat x0)), none, some (.ref 77), some (.int (Int32.ofNat (x3 / x0))), some (.int (Int32.ofNat x4))] [] 1 (fun f => rfl) ?_
    refine zW_inc [some (.int (Int32.ofNat x0)), none, some (.ref 77), some (.int (Int32.ofNat (x3 / x0))), some (.int ((Int32.ofNat x4) + (1 : Int32)))] rfl rfl rfl ?_
    rw [show ((Int32.ofNat x4) + (1 : Int32)) = Int32.ofNat (x4 + 1) from (zN_a rfl rfl)]
    refine zW_gh 5 [some (.int (Int32.ofNat x0)), none, some (.ref 77), some (.int (Int32.ofNat (x3 / x0))), some (.int (Int32.ofNat (x4 + 1)))] [] 1 (fun f => rfl) ?_
    exact H
theorem b159b {K : zKt} {code rf rs pr pn : Int32} {bad : Bool} {J : zJt} {m pa pb pc vf vs : Nat → Int32} {B : zBt} {w : Nat → Int64} {p : Nat × Nat} {Q : zR → zH → Prop} {a0 a1 : Nat} (H : zW zm_159 5 [some (.int (Int32.ofNat a0)), none, some (.ref 78), some (.int (Int32.ofNat a1)), some (.int (Int32.ofNat 0))] [] p (zh K (code, rf, rs, bad, pr, pn, J) (m, pa, pb, pc, vf, vs, B) w) Q) : zT zm_159 [.int (Int32.ofNat a0), .int (Int32.ofNat a1), .ref 78] p (zh K (code, rf, rs, bad, pr, pn, J) (m, pa, pb, pc, vf, vs, B) w) Q := by
  change zW zm_159 0 [some (.int (Int32.ofNat a0)), some (.int (Int32.ofNat a1)), some (.ref 78), none, none] [] p _ Q
  refine zW_gh 5 [some (.int (Int32.ofNat a0)), some (.int (Int32.ofNat a1)), some (.ref 78), some (.int (Int32.ofNat a1)), some (.int (0 : Int32))] [] 4 (fun f => rfl) ?_
  refine zW_fg (L' := [some (.int (Int32.ofNat a0)), none, some (.ref 78), some (.int (Int32.ofNat a1)), some (.int (0 : Int32))]) (zle_s _ (zle_n _ (zle_s _ (zle_s _ (zle_s _ zle_nil))))) ?_
  exact H
theorem b159b_5 {K : zKt} {code rf rs pr pn : Int32} {bad : Bool} {J : zJt} {m pa pb pc vf vs : Nat → Int32} {B : zBt} {w : Nat → Int64} {p : Nat × Nat} {Q : zR → zH → Prop} {x0 x3 x4 : Nat} (H : (x4 < 2147483648 ∧ ((8 ≤ x4 → Q (.inl none) (zh K (code, rf, rs, bad, pr, pn, J) (m, pa, pb, pc, vf, vs, B) w)) ∧ (x4 < 8 → (0 < x0 ∧ (x0 < 2147483648 ∧ (x3 < 2147483648 ∧ (x4 < 8 ∧ zW zm_159 5 [some (.int (Int32.ofNat x0)), none, some (.ref 78), some (.int (Int32.ofNat (x3 / x0))), some (.int (Int32.ofNat (x4 + 1)))] [] p (zh K (code, rf, rs, bad, pr, pn, J) (m, pa, (va_up pb x4 (Int32.ofNat (x3 % x0))), pc, vf, vs, B) w) Q)))))))) : zW zm_159 5 [some (.int (Int32.ofNat x0)), none, some (.ref 78), some (.int (Int32.ofNat x3)), some (.int (Int32.ofNat x4))] [] p (zh K (code, rf, rs, bad, pr, pn, J) (m, pa, pb, pc, vf, vs, B) w) Q := by
  obtain ⟨h1, H⟩ := H
  refine zW_bh (zcmp .ge (Int32.ofNat x4) (8 : Int32)) 29 12 [some (.int (Int32.ofNat x0)), none, some (.ref 78), some (.int (Int32.ofNat x3)), some (.int (Int32.ofNat x4))] [] 3 (fun f => rfl) (fun c => ?_) (fun c => ?_)
  · have c9 : 8 ≤ x4 := (of_decide_eq_true ((zcN_ge (a := x4) (b := 8) rfl rfl h1 (by decide)).symm.trans c))
    replace H := H.1 c9
    exact zW_rh none 1 (fun f => rfl) H
  · have c9 : x4 < 8 := (Nat.lt_of_not_le (of_decide_eq_false ((zcN_ge (a := x4) (b := 8) rfl rfl h1 (by decide)).symm.trans c)))
    replace H := H.2 c9
    refine zW_gh 17 [some (.int (Int32.ofNat x0)), none, some (.ref 78), some (.int (Int32.ofNat x3)), some (.int (Int32.ofNat x4))] [.int (Int32.ofNat x0), .int (Int32.ofNat x3), .int (Int32.ofNat x4), .ref 78] 4 (fun f => rfl) ?_
    obtain ⟨h2, H⟩ := H
    obtain ⟨h3, H⟩ := H
    obtain ⟨h4, H⟩ := H
    refine zW_irem rfl (zN_nz rfl h2 h3) ?_
    rw [show ((Int32.ofNat x3) - (Int32.ofNat x3) / (Int32.ofNat x0) * (Int32.ofNat x0)) = Int32.ofNat (x3 % x0) from (zN_r rfl rfl h4 h3)]
    obtain ⟨h5, H⟩ := H
    refine zW_iast rfl (by decide) rfl (by decide) zu_78 rfl h5 ?_
    refine zW_gh 21 [some (.int (Int32.ofNat x0)), none, some (.ref 78), some (.int (Int32.ofNat x3)), some (.int (Int32.ofNat x4))] [.int (Int32.ofNat x0), .int (Int32.ofNat x3)] 2 (fun f => rfl) ?_
    refine zW_idiv rfl (zN_nz rfl h2 h3) ?_
    rw [show ((Int32.ofNat x3) / (Int32.ofNat x0)) = Int32.ofNat (x3 / x0) from (zN_d rfl rfl h4 h3)]
    refine zW_gh 23 [some (.int (Int32.ofNat x0)), none, some (.ref 78), some (.int (Int32.ofNat (x3 / x0))), some (.int (Int32.ofNat x4))] [] 1 (fun f => rfl) ?_
    refine zW_inc [some (.int (Int32.ofNat x0)), none, some (.ref 78), some (.int (Int32.ofNat (x3 / x0))), some (.int ((Int32.ofNat x4) + (1 : Int32)))] rfl rfl rfl ?_
    rw [show ((Int32.ofNat x4) + (1 : Int32)) = Int32.ofNat (x4 + 1) from (zN_a rfl rfl)]
    refine zW_gh 5 [some (.int (Int32.ofNat x0)), none, some (.ref 78), some (.int (Int32.ofNat (x3 / x0))), some (.int (Int32.ofNat (x4 + 1)))] [] 1 (fun f => rfl) ?_
    exact H
theorem b161a {K : zKt} {code rf rs pr pn : Int32} {bad : Bool} {J : zJt} {m pa pb pc vf vs : Nat → Int32} {B : zBt} {w : Nat → Int64} {p : Nat × Nat} {Q : zR → zH → Prop} {a1 : Nat} (H : zW zm_161 2 [some (.ref 77), none, some (.int (Int32.ofNat a1))] [] p (zh K (code, rf, rs, bad, pr, pn, J) (m, pa, pb, pc, vf, vs, B) w) Q) : zT zm_161 [.ref 77, .int (Int32.ofNat a1)] p (zh K (code, rf, rs, bad, pr, pn, J) (m, pa, pb, pc, vf, vs, B) w) Q := by
  change zW zm_161 0 [some (.ref 77), some (.int (Int32.ofNat a1)), none] [] p _ Q
  refine zW_gh 2 [some (.ref 77), some (.int (Int32.ofNat a1)), some (.int (Int32.ofNat a1))] [] 2 (fun f => rfl) ?_
  refine zW_fg (L' := [some (.ref 77), none, some (.int (Int32.ofNat a1))]) (zle_s _ (zle_n _ (zle_s _ zle_nil))) ?_
  exact H
theorem b161a_2 {K : zKt} {code rf rs pr pn : Int32} {bad : Bool} {J : zJt} {m pa pb pc vf vs : Nat → Int32} {B : zBt} {w : Nat → Int64} {p : Nat × Nat} {Q : zR → zH → Prop} {x2 : Int32} (H : ((x2 < (0 : Int32) → Q (.inl (some (.int x2))) (zh K (code, rf, rs, bad, pr, pn, J) (m, pa, pb, pc, vf, vs, B) w)) ∧ (¬ x2 < (0 : Int32) → ∀ k_x2, k_x2 < 2147483648 → x2 = Int32.ofNat k_x2 → (k_x2 < 8 ∧ ((¬ (pa k_x2) = (0 : Int32) → Q (.inl (some (.int (Int32.ofNat k_x2)))) (zh K (code, rf, rs, bad, pr, pn, J) (m, pa, pb, pc, vf, vs, B) w)) ∧ ((pa k_x2) = (0 : Int32) → zW zm_161 2 [some (.ref 77), none, some (.int ((Int32.ofNat k_x2) + Int32.ofInt (-1)))] [] p (zh K (code, rf, rs, bad, pr, pn, J) (m, pa, pb, pc, vf, vs, B) w) Q)))))) : zW zm_161 2 [some (.ref 77), none, some (.int x2)] [] p (zh K (code, rf, rs, bad, pr, pn, J) (m, pa, pb, pc, vf, vs, B) w) Q := by
  refine zW_bh (zcmp .lt x2 (0 : Int32)) 18 6 [some (.ref 77), none, some (.int x2)] [] 2 (fun f => rfl) (fun c => ?_) (fun c => ?_)
  · have c9 : x2 < (0 : Int32) := (of_decide_eq_true c)
    replace H := H.1 c9
    refine zW_gh 19 [some (.ref 77), none, some (.int x2)] [.int x2] 1 (fun f => rfl) ?_
    exact zW_rh (some (.int x2)) 1 (fun f => rfl) H
  · have c9 : ¬ x2 < (0 : Int32) := (of_decide_eq_false c)
    replace H := H.2 c9
    obtain ⟨k_x2, h_k_x2, e_k_x2⟩ := zNn c9
    replace H := H k_x2 h_k_x2 e_k_x2
    subst e_k_x2
    refine zW_gh 8 [some (.ref 77), none, some (.int (Int32.ofNat k_x2))] [.int (Int32.ofNat k_x2), .ref 77] 2 (fun f => rfl) ?_
    obtain ⟨h1, H⟩ := H
    refine zW_iald rfl (by decide) rfl (by decide) rfl h1 ?_
    refine zW_bh (zcmp .ne (pa k_x2) (0 : Int32)) 18 12 [some (.ref 77), none, some (.int (Int32.ofNat k_x2))] [] 1 (fun f => rfl) (fun c => ?_) (fun c => ?_)
    · have c9 : ¬ (pa k_x2) = (0 : Int32) := (by simpa [zcmp] using c)
      replace H := H.1 c9
      refine zW_gh 19 [some (.ref 77), none, some (.int (Int32.ofNat k_x2))] [.int (Int32.ofNat k_x2)] 1 (fun f => rfl) ?_
      exact zW_rh (some (.int (Int32.ofNat k_x2))) 1 (fun f => rfl) H
    · have c9 : (pa k_x2) = (0 : Int32) := (by simpa [zcmp] using c)
      replace H := H.2 c9
      refine zW_inc [some (.ref 77), none, some (.int ((Int32.ofNat k_x2) + Int32.ofInt (-1)))] rfl rfl rfl ?_
      refine zW_gh 2 [some (.ref 77), none, some (.int ((Int32.ofNat k_x2) + Int32.ofInt (-1)))] [] 1 (fun f => rfl) ?_
      exact H
theorem b161b {K : zKt} {code rf rs pr pn : Int32} {bad : Bool} {J : zJt} {m pa pb pc vf vs : Nat → Int32} {B : zBt} {w : Nat → Int64} {p : Nat × Nat} {Q : zR → zH → Prop} {a1 : Nat} (H : zW zm_161 2 [some (.ref 78), none, some (.int (Int32.ofNat a1))] [] p (zh K (code, rf, rs, bad, pr, pn, J) (m, pa, pb, pc, vf, vs, B) w) Q) : zT zm_161 [.ref 78, .int (Int32.ofNat a1)] p (zh K (code, rf, rs, bad, pr, pn, J) (m, pa, pb, pc, vf, vs, B) w) Q := by
  change zW zm_161 0 [some (.ref 78), some (.int (Int32.ofNat a1)), none] [] p _ Q
  refine zW_gh 2 [some (.ref 78), some (.int (Int32.ofNat a1)), some (.int (Int32.ofNat a1))] [] 2 (fun f => rfl) ?_
  refine zW_fg (L' := [some (.ref 78), none, some (.int (Int32.ofNat a1))]) (zle_s _ (zle_n _ (zle_s _ zle_nil))) ?_
  exact H
theorem b161b_2 {K : zKt} {code rf rs pr pn : Int32} {bad : Bool} {J : zJt} {m pa pb pc vf vs : Nat → Int32} {B : zBt} {w : Nat → Int64} {p : Nat × Nat} {Q : zR → zH → Prop} {x2 : Int32} (H : ((x2 < (0 : Int32) → Q (.inl (some (.int x2))) (zh K (code, rf, rs, bad, pr, pn, J) (m, pa, pb, pc, vf, vs, B) w)) ∧ (¬ x2 < (0 : Int32) → ∀ k_x2, k_x2 < 2147483648 → x2 = Int32.ofNat k_x2 → (k_x2 < 8 ∧ ((¬ (pb k_x2) = (0 : Int32) → Q (.inl (some (.int (Int32.ofNat k_x2)))) (zh K (code, rf, rs, bad, pr, pn, J) (m, pa, pb, pc, vf, vs, B) w)) ∧ ((pb k_x2) = (0 : Int32) → zW zm_161 2 [some (.ref 78), none, some (.int ((Int32.ofNat k_x2) + Int32.ofInt (-1)))] [] p (zh K (code, rf, rs, bad, pr, pn, J) (m, pa, pb, pc, vf, vs, B) w) Q)))))) : zW zm_161 2 [some (.ref 78), none, some (.int x2)] [] p (zh K (code, rf, rs, bad, pr, pn, J) (m, pa, pb, pc, vf, vs, B) w) Q := by
  refine zW_bh (zcmp .lt x2 (0 : Int32)) 18 6 [some (.ref 78), none, some (.int x2)] [] 2 (fun f => rfl) (fun c => ?_) (fun c => ?_)
  · have c9 : x2 < (0 : Int32) := (of_decide_eq_true c)
    replace H := H.1 c9
    refine zW_gh 19 [some (.ref 78), none, some (.int x2)] [.int x2] 1 (fun f => rfl) ?_
    exact zW_rh (some (.int x2)) 1 (fun f => rfl) H
  · have c9 : ¬ x2 < (0 : Int32) := (of_decide_eq_false c)
    replace H := H.2 c9
    obtain ⟨k_x2, h_k_x2, e_k_x2⟩ := zNn c9
    replace H := H k_x2 h_k_x2 e_k_x2
    subst e_k_x2
    refine zW_gh 8 [some (.ref 78), none, some (.int (Int32.ofNat k_x2))] [.int (Int32.ofNat k_x2), .ref 78] 2 (fun f => rfl) ?_
    obtain ⟨h1, H⟩ := H
    refine zW_iald rfl (by decide) rfl (by decide) rfl h1 ?_
    refine zW_bh (zcmp .ne (pb k_x2) (0 : Int32)) 18 12 [some (.ref 78), none, some (.int (Int32.ofNat k_x2))] [] 1 (fun f => rfl) (fun c => ?_) (fun c => ?_)
    · have c9 : ¬ (pb k_x2) = (0 : Int32) := (by simpa [zcmp] using c)
      replace H := H.1 c9
      refine zW_gh 19 [some (.ref 78), none, some (.int (Int32.ofNat k_x2))] [.int (Int32.ofNat k_x2)] 1 (fun f => rfl) ?_
      exact zW_rh (some (.int (Int32.ofNat k_x2))) 1 (fun f => rfl) H
    · have c9 : (pb k_x2) = (0 : Int32) := (by simpa [zcmp] using c)
      replace H := H.2 c9
      refine zW_inc [some (.ref 78), none, some (.int ((Int32.ofNat k_x2) + Int32.ofInt (-1)))] rfl rfl rfl ?_
      refine zW_gh 2 [some (.ref 78), none, some (.int ((Int32.ofNat k_x2) + Int32.ofInt (-1)))] [] 1 (fun f => rfl) ?_
      exact H
theorem b161c {K : zKt} {code rf rs pr pn : Int32} {bad : Bool} {J : zJt} {m pa pb pc vf vs : Nat → Int32} {B : zBt} {w : Nat → Int64} {p : Nat × Nat} {Q : zR → zH → Prop} {a1 : Nat} (H : zW zm_161 2 [some (.ref 79), none, some (.int (Int32.ofNat a1))] [] p (zh K (code, rf, rs, bad, pr, pn, J) (m, pa, pb, pc, vf, vs, B) w) Q) : zT zm_161 [.ref 79, .int (Int32.ofNat a1)] p (zh K (code, rf, rs, bad, pr, pn, J) (m, pa, pb, pc, vf, vs, B) w) Q := by
  change zW zm_161 0 [some (.ref 79), some (.int (Int32.ofNat a1)), none] [] p _ Q
  refine zW_gh 2 [some (.ref 79), some (.int (Int32.ofNat a1)), some (.int (Int32.ofNat a1))] [] 2 (fun f => rfl) ?_
  refine zW_fg (L' := [some (.ref 79), none, some (.int (Int32.ofNat a1))]) (zle_s _ (zle_n _ (zle_s _ zle_nil))) ?_
  exact H
theorem b161c_2 {K : zKt} {code rf rs pr pn : Int32} {bad : Bool} {J : zJt} {m pa pb pc vf vs : Nat → Int32} {B : zBt} {w : Nat → Int64} {p : Nat × Nat} {Q : zR → zH → Prop} {x2 : Int32} (H : ((x2 < (0 : Int32) → Q (.inl (some (.int x2))) (zh K (code, rf, rs, bad, pr, pn, J) (m, pa, pb, pc, vf, vs, B) w)) ∧ (¬ x2 < (0 : Int32) → ∀ k_x2, k_x2 < 2147483648 → x2 = Int32.ofNat k_x2 → (k_x2 < 16 ∧ ((¬ (pc k_x2) = (0 : Int32) → Q (.inl (some (.int (Int32.ofNat k_x2)))) (zh K (code, rf, rs, bad, pr, pn, J) (m, pa, pb, pc, vf, vs, B) w)) ∧ ((pc k_x2) = (0 : Int32) → zW zm_161 2 [some (.ref 79), none, some (.int ((Int32.ofNat k_x2) + Int32.ofInt (-1)))] [] p (zh K (code, rf, rs, bad, pr, pn, J) (m, pa, pb, pc, vf, vs, B) w) Q)))))) : zW zm_161 2 [some (.ref 79), none, some (.int x2)] [] p (zh K (code, rf, rs, bad, pr, pn, J) (m, pa, pb, pc, vf, vs, B) w) Q := by
  refine zW_bh (zcmp .lt x2 (0 : Int32)) 18 6 [some (.ref 79), none, some (.int x2)] [] 2 (fun f => rfl) (fun c => ?_) (fun c => ?_)
  · have c9 : x2 < (0 : Int32) := (of_decide_eq_true c)
    replace H := H.1 c9
    refine zW_gh 19 [some (.ref 79), none, some (.int x2)] [.int x2] 1 (fun f => rfl) ?_
    exact zW_rh (some (.int x2)) 1 (fun f => rfl) H
  · have c9 : ¬ x2 < (0 : Int32) := (of_decide_eq_false c)
    replace H := H.2 c9
    obtain ⟨k_x2, h_k_x2, e_k_x2⟩ := zNn c9
    replace H := H k_x2 h_k_x2 e_k_x2
    subst e_k_x2
    refine zW_gh 8 [some (.ref 79), none, some (.int (Int32.ofNat k_x2))] [.int (Int32.ofNat k_x2), .ref 79] 2 (fun f => rfl) ?_
    obtain ⟨h1, H⟩ := H
    refine zW_iald rfl (by decide) rfl (by decide) rfl h1 ?_
    refine zW_bh (zcmp .ne (pc k_x2) (0 : Int32)) 18 12 [some (.ref 79), none, some (.int (Int32.ofNat k_x2))] [] 1 (fun f => rfl) (fun c => ?_) (fun c => ?_)
    · have c9 : ¬ (pc k_x2) = (0 : Int32) := (by simpa [zcmp] using c)
      replace H := H.1 c9
      refine zW_gh 19 [some (.ref 79), none, some (.int (Int32.ofNat k_x2))] [.int (Int32.ofNat k_x2)] 1 (fun f => rfl) ?_
      exact zW_rh (some (.int (Int32.ofNat k_x2))) 1 (fun f => rfl) H
    · have c9 : (pc k_x2) = (0 : Int32) := (by simpa [zcmp] using c)
      replace H := H.2 c9
      refine zW_inc [some (.ref 79), none, some (.int ((Int32.ofNat k_x2) + Int32.ofInt (-1)))] rfl rfl rfl ?_
      refine zW_gh 2 [some (.ref 79), none, some (.int ((Int32.ofNat k_x2) + Int32.ofInt (-1)))] [] 1 (fun f => rfl) ?_
      exact H
theorem b194 {K : zKt} {code rf rs pr pn : Int32} {bad : Bool} {J : zJt} {m pa pb pc vf vs : Nat → Int32} {B : zBt} {w : Nat → Int64} {p : Nat × Nat} {Q : zR → zH → Prop} {a0 a1 : Nat} (H : zW zm_194 2 [some (.int (Int32.ofNat a0)), some (.int (Int32.ofNat a1)), some (.int (Int32.ofNat 1))] [] p (zh K (code, rf, rs, bad, pr, pn, J) (m, pa, pb, pc, vf, vs, B) w) Q) : zT zm_194 [.int (Int32.ofNat a0), .int (Int32.ofNat a1)] p (zh K (code, rf, rs, bad, pr, pn, J) (m, pa, pb, pc, vf, vs, B) w) Q := by
  change zW zm_194 0 [some (.int (Int32.ofNat a0)), some (.int (Int32.ofNat a1)), none] [] p _ Q
  refine zW_gh 2 [some (.int (Int32.ofNat a0)), some (.int (Int32.ofNat a1)), some (.int (1 : Int32))] [] 2 (fun f => rfl) ?_
  exact H
theorem b194_2 {K : zKt} {code rf rs pr pn : Int32} {bad : Bool} {J : zJt} {m pa pb pc vf vs : Nat → Int32} {B : zBt} {w : Nat → Int64} {p : Nat × Nat} {Q : zR → zH → Prop} {x0 x1 x2 : Nat} (H : (x2 < 2147483648 ∧ (x1 < 2147483648 ∧ ((x1 ≤ x2 → Q (.inl (some (.int (Int32.ofNat x2)))) (zh K (code, rf, rs, bad, pr, pn, J) (m, pa, pb, pc, vf, vs, B) w)) ∧ (x2 < x1 → (0 < x1 ∧ ((x0 * x2) < 2147483648 ∧ (((x0 * x2) % x1) < 2147483648 ∧ ((((x0 * x2) % x1) = 1 → Q (.inl (some (.int (Int32.ofNat x2)))) (zh K (code, rf, rs, bad, pr, pn, J) (m, pa, pb, pc, vf, vs, B) w)) ∧ (¬ ((x0 * x2) % x1) = 1 → zW zm_194 2 [some (.int (Int32.ofNat x0)), some (.int (Int32.ofNat x1)), some (.int (Int32.ofNat (x2 + 1)))] [] p (zh K (code, rf, rs, bad, pr, pn, J) (m, pa, pb, pc, vf, vs, B) w) Q)))))))))) : zW zm_194 2 [some (.int (Int32.ofNat x0)), some (.int (Int32.ofNat x1)), some (.int (Int32.ofNat x2))] [] p (zh K (code, rf, rs, bad, pr, pn, J) (m, pa, pb, pc, vf, vs, B) w) Q := by
  obtain ⟨h1, H⟩ := H
  obtain ⟨h2, H⟩ := H
  refine zW_bh (zcmp .ge (Int32.ofNat x2) (Int32.ofNat x1)) 22 7 [some (.int (Int32.ofNat x0)), some (.int (Int32.ofNat x1)), some (.int (Int32.ofNat x2))] [] 3 (fun f => rfl) (fun c => ?_) (fun c => ?_)
  · have c9 : x1 ≤ x2 := (of_decide_eq_true ((zcN_ge (a := x2) (b := x1) rfl rfl h1 h2).symm.trans c))
    replace H := H.1 c9
    refine zW_gh 23 [some (.int (Int32.ofNat x0)), some (.int (Int32.ofNat x1)), some (.int (Int32.ofNat x2))] [.int (Int32.ofNat x2)] 1 (fun f => rfl) ?_
    exact zW_rh (some (.int (Int32.ofNat x2))) 1 (fun f => rfl) H
  · have c9 : x2 < x1 := (Nat.lt_of_not_le (of_decide_eq_false ((zcN_ge (a := x2) (b := x1) rfl rfl h1 h2).symm.trans c)))
    replace H := H.2 c9
    refine zW_gh 11 [some (.int (Int32.ofNat x0)), some (.int (Int32.ofNat x1)), some (.int (Int32.ofNat x2))] [.int (Int32.ofNat x1), .int ((Int32.ofNat x0) * (Int32.ofNat x2))] 4 (fun f => rfl) ?_
    obtain ⟨h3, H⟩ := H
    obtain ⟨h4, H⟩ := H
    refine zW_irem rfl (zN_nz rfl h3 h2) ?_
    rw [show (((Int32.ofNat x0) * (Int32.ofNat x2)) - ((Int32.ofNat x0) * (Int32.ofNat x2)) / (Int32.ofNat x1) * (Int32.ofNat x1)) = Int32.ofNat ((x0 * x2) % x1) from (zN_r (zN_m rfl rfl) rfl h4 h2)]
    obtain ⟨h5, H⟩ := H
    refine zW_bh (zcmp .eq (Int32.ofNat ((x0 * x2) % x1)) (1 : Int32)) 22 16 [some (.int (Int32.ofNat x0)), some (.int (Int32.ofNat x1)), some (.int (Int32.ofNat x2))] [] 2 (fun f => rfl) (fun c => ?_) (fun c => ?_)
    · have c9 : ((x0 * x2) % x1) = 1 := (of_decide_eq_true ((zcN_eq (a := ((x0 * x2) % x1)) (b := 1) rfl rfl h5 (by decide)).symm.trans c))
      replace H := H.1 c9
      refine zW_gh 23 [some (.int (Int32.ofNat x0)), some (.int (Int32.ofNat x1)), some (.int (Int32.ofNat x2))] [.int (Int32.ofNat x2)] 1 (fun f => rfl) ?_
      exact zW_rh (some (.int (Int32.ofNat x2))) 1 (fun f => rfl) H
    · have c9 : ¬ ((x0 * x2) % x1) = 1 := (of_decide_eq_false ((zcN_eq (a := ((x0 * x2) % x1)) (b := 1) rfl rfl h5 (by decide)).symm.trans c))
      replace H := H.2 c9
      refine zW_inc [some (.int (Int32.ofNat x0)), some (.int (Int32.ofNat x1)), some (.int ((Int32.ofNat x2) + (1 : Int32)))] rfl rfl rfl ?_
      rw [show ((Int32.ofNat x2) + (1 : Int32)) = Int32.ofNat (x2 + 1) from (zN_a rfl rfl)]
      refine zW_gh 2 [some (.int (Int32.ofNat x0)), some (.int (Int32.ofNat x1)), some (.int (Int32.ofNat (x2 + 1)))] [] 1 (fun f => rfl) ?_
      exact H
theorem b160 {K : zKt} {code rf rs pr pn : Int32} {bad : Bool} {J : zJt} {m pa pb pc vf vs : Nat → Int32} {B : zBt} {w : Nat → Int64} {p : Nat × Nat} {Q : zR → zH → Prop} {a0 : Nat} (H : ((bad = true → zW zm_160 35 [some (.ref 75), some (.int (Int32.ofNat a0)), some (.int (0 : Int32)), some (.int (7 : Int32))] [] p (zh K (code, rf, rs, true, pr, pn, J) (m, pa, pb, pc, vf, vs, B) w) Q) ∧ (bad = false → zT zm_161 [.ref 79, .int (15 : Int32)] p (zh K (code, rf, rs, bad, pr, pn, J) (m, pa, pb, pc, vf, vs, B) w) (zK zm_160 17 [some (.ref 75), some (.int (Int32.ofNat a0)), none, none] [.ref 75] p Q)))) : zT zm_160 [.ref 75, .int (Int32.ofNat a0)] p (zh K (code, rf, rs, bad, pr, pn, J) (m, pa, pb, pc, vf, vs, B) w) Q := by
  change zW zm_160 0 [some (.ref 75), some (.int (Int32.ofNat a0)), none, none] [] p _ Q
  refine zW_bh (zcmp .ne (zbi bad) (0 : Int32)) 22 8 [some (.ref 75), some (.int (Int32.ofNat a0)), none, none] [.ref 75] 4 (fun f => rfl) (fun c => ?_) (fun c => ?_)
  · have c9 : bad = true := ((zcB_ne _).symm.trans c)
    replace H := H.1 c9
    refine zW_gh 27 [some (.ref 75), some (.int (Int32.ofNat a0)), none, none] [.int (1 : Int32), .ref 75] 2 (fun f => rfl) ?_
    refine zW_go (pc' := 30) (L' := [some (.ref 75), some (.int (Int32.ofNat a0)), none, none]) (st' := []) (h' := (va_up (zh K (code, rf, rs, bad, pr, pn, J) (m, pa, pb, pc, vf, vs, B) w) 75 (.inr (7, zfl (code, rf, rs, true, pr, pn, J))))) 1 (fun f => rfl) ?_
    refine zW_eq zu_75 ?_
    refine zW_gh 35 [some (.ref 75), some (.int (Int32.ofNat a0)), some (.int (0 : Int32)), some (.int (7 : Int32))] [] 4 (fun f => rfl) ?_
    exact H
  · have c9 : bad = false := ((zcB_ne _).symm.trans c)
    replace H := H.2 c9
    refine zW_gh 14 [some (.ref 75), some (.int (Int32.ofNat a0)), none, none] [.int (15 : Int32), .ref 79, .ref 75] 3 (fun f => rfl) ?_
    exact zW_cl rfl rfl rfl rfl rfl H
theorem b160_35 {K : zKt} {code rf rs pr pn : Int32} {bad : Bool} {J : zJt} {m pa pb pc vf vs : Nat → Int32} {B : zBt} {w : Nat → Int64} {p : Nat × Nat} {Q : zR → zH → Prop} {x1 : Nat} {x2 x3 : Int32} (H : ((x3 < (0 : Int32) → ((bad = false → Q (.inl none) (zh K (code, x2, (0 : Int32), bad, pr, pn, J) (m, pa, pb, pc, vf, vs, B) w)) ∧ (bad = true → Q (.inl none) (zh K (code, (0 : Int32), (0 : Int32), bad, pr, pn, J) (m, pa, pb, pc, vf, vs, B) w)))) ∧ (¬ x3 < (0 : Int32) → ∀ k_x3, k_x3 < 2147483648 → x3 = Int32.ofNat k_x3 → (k_x3 < 16 ∧ zW zm_160 35 [some (.ref 75), some (.int (Int32.ofNat x1)), some (.int (((Int32.ofNat x1) * x2) + (pc k_x3))), some (.int ((Int32.ofNat k_x3) + Int32.ofInt (-1)))] [] p (zh K (code, rf, rs, bad, pr, pn, J) (m, pa, pb, pc, vf, vs, B) w) Q)))) : zW zm_160 35 [some (.ref 75), some (.int (Int32.ofNat x1)), some (.int x2), some (.int x3)] [] p (zh K (code, rf, rs, bad, pr, pn, J) (m, pa, pb, pc, vf, vs, B) w) Q := by
  refine zW_bh (zcmp .lt x3 (0 : Int32)) 56 39 [some (.ref 75), some (.int (Int32.ofNat x1)), some (.int x2), some (.int x3)] [] 2 (fun f => rfl) (fun c => ?_) (fun c => ?_)
  · have c9 : x3 < (0 : Int32) := (of_decide_eq_true c)
    replace H := H.1 c9
    refine zW_bh (zcmp .eq (zbi bad) (0 : Int32)) 68 64 [some (.ref 75), some (.int (Int32.ofNat x1)), some (.int x2), some (.int x3)] [.ref 75] 4 (fun f => rfl) (fun c => ?_) (fun c => ?_)
    · have c9 : bad = false := ((Bool.not_eq_true' _).mp ((zcB_eq _).symm.trans c))
      replace H := H.1 c9
      refine zW_gh 69 [some (.ref 75), some (.int (Int32.ofNat x1)), some (.int x2), some (.int x3)] [.int x2, .ref 75] 1 (fun f => rfl) ?_
      refine zW_go (pc' := 72) (L' := [some (.ref 75), some (.int (Int32.ofNat x1)), some (.int x2), some (.int x3)]) (st' := []) (h' := (va_up (zh K (code, rf, rs, bad, pr, pn, J) (m, pa, pb, pc, vf, vs, B) w) 75 (.inr (7, zfl (code, x2, rs, bad, pr, pn, J))))) 1 (fun f => rfl) ?_
      refine zW_eq zu_75 ?_
      refine zW_gh 74 [some (.ref 75), some (.int (Int32.ofNat x1)), some (.int x2), some (.int x3)] [.int (0 : Int32), .ref 75] 2 (fun f => rfl) ?_
      refine zW_go (pc' := 77) (L' := [some (.ref 75), some (.int (Int32.ofNat x1)), some (.int x2), some (.int x3)]) (st' := []) (h' := (va_up (zh K (code, x2, rs, bad, pr, pn, J) (m, pa, pb, pc, vf, vs, B) w) 75 (.inr (7, zfl (code, x2, (0 : Int32), bad, pr, pn, J))))) 1 (fun f => rfl) ?_
      refine zW_eq zu_75 ?_
      exact zW_rh none 1 (fun f => rfl) H
    · have c9 : bad = true := ((Bool.not_eq_false' _).mp ((zcB_eq _).symm.trans c))
      replace H := H.2 c9
      refine zW_gh 69 [some (.ref 75), some (.int (Int32.ofNat x1)), some (.int x2), some (.int x3)] [.int (0 : Int32), .ref 75] 2 (fun f => rfl) ?_
      refine zW_go (pc' := 72) (L' := [some (.ref 75), some (.int (Int32.ofNat x1)), some (.int x2), some (.int x3)]) (st' := []) (h' := (va_up (zh K (code, rf, rs, bad, pr, pn, J) (m, pa, pb, pc, vf, vs, B) w) 75 (.inr (7, zfl (code, (0 : Int32), rs, bad, pr, pn, J))))) 1 (fun f => rfl) ?_
      refine zW_eq zu_75 ?_
      refine zW_gh 74 [some (.ref 75), some (.int (Int32.ofNat x1)), some (.int x2), some (.int x3)] [.int (0 : Int32), .ref 75] 2 (fun f => rfl) ?_
      refine zW_go (pc' := 77) (L' := [some (.ref 75), some (.int (Int32.ofNat x1)), some (.int x2), some (.int x3)]) (st' := []) (h' := (va_up (zh K (code, (0 : Int32), rs, bad, pr, pn, J) (m, pa, pb, pc, vf, vs, B) w) 75 (.inr (7, zfl (code, (0 : Int32), (0 : Int32), bad, pr, pn, J))))) 1 (fun f => rfl) ?_
      refine zW_eq zu_75 ?_
      exact zW_rh none 1 (fun f => rfl) H
  · have c9 : ¬ x3 < (0 : Int32) := (of_decide_eq_false c)
    replace H := H.2 c9
    obtain ⟨k_x3, h_k_x3, e_k_x3⟩ := zNn c9
    replace H := H k_x3 h_k_x3 e_k_x3
    subst e_k_x3
    refine zW_gh 47 [some (.ref 75), some (.int (Int32.ofNat x1)), some (.int x2), some (.int (Int32.ofNat k_x3))] [.int (Int32.ofNat k_x3), .ref 79, .int ((Int32.ofNat x1) * x2)] 6 (fun f => rfl) ?_
    obtain ⟨h1, H⟩ := H
    refine zW_iald rfl (by decide) rfl (by decide) rfl h1 ?_
    refine zW_gh 50 [some (.ref 75), some (.int (Int32.ofNat x1)), some (.int (((Int32.ofNat x1) * x2) + (pc k_x3))), some (.int (Int32.ofNat k_x3))] [] 2 (fun f => rfl) ?_
    refine zW_inc [some (.ref 75), some (.int (Int32.ofNat x1)), some (.int (((Int32.ofNat x1) * x2) + (pc k_x3))), some (.int ((Int32.ofNat k_x3) + Int32.ofInt (-1)))] rfl rfl rfl ?_
    refine zW_gh 35 [some (.ref 75), some (.int (Int32.ofNat x1)), some (.int (((Int32.ofNat x1) * x2) + (pc k_x3))), some (.int ((Int32.ofNat k_x3) + Int32.ofInt (-1)))] [] 1 (fun f => rfl) ?_
    exact H
theorem b160_17 {K : zKt} {code rf rs pr pn : Int32} {bad : Bool} {J : zJt} {m pa pb pc vf vs : Nat → Int32} {B : zBt} {w : Nat → Int64} {p : Nat × Nat} {Q : zR → zH → Prop} {x1 : Nat} {rv : Int32} (H : ((rv ≤ (7 : Int32) → zW zm_160 35 [some (.ref 75), some (.int (Int32.ofNat x1)), some (.int (0 : Int32)), some (.int (7 : Int32))] [] p (zh K (code, rf, rs, false, pr, pn, J) (m, pa, pb, pc, vf, vs, B) w) Q) ∧ (¬ rv ≤ (7 : Int32) → zW zm_160 35 [some (.ref 75), some (.int (Int32.ofNat x1)), some (.int (0 : Int32)), some (.int (7 : Int32))] [] p (zh K (code, rf, rs, true, pr, pn, J) (m, pa, pb, pc, vf, vs, B) w) Q))) : zW zm_160 17 [some (.ref 75), some (.int (Int32.ofNat x1)), none, none] [.int rv, .ref 75] p (zh K (code, rf, rs, bad, pr, pn, J) (m, pa, pb, pc, vf, vs, B) w) Q := by
  refine zW_bh (zcmp .le rv (7 : Int32)) 26 22 [some (.ref 75), some (.int (Int32.ofNat x1)), none, none] [.ref 75] 2 (fun f => rfl) (fun c => ?_) (fun c => ?_)
  · have c9 : rv ≤ (7 : Int32) := (of_decide_eq_true c)
    replace H := H.1 c9
    refine zW_gh 27 [some (.ref 75), some (.int (Int32.ofNat x1)), none, none] [.int (0 : Int32), .ref 75] 1 (fun f => rfl) ?_
    refine zW_go (pc' := 30) (L' := [some (.ref 75), some (.int (Int32.ofNat x1)), none, none]) (st' := []) (h' := (va_up (zh K (code, rf, rs, bad, pr, pn, J) (m, pa, pb, pc, vf, vs, B) w) 75 (.inr (7, zfl (code, rf, rs, false, pr, pn, J))))) 1 (fun f => rfl) ?_
    refine zW_eq zu_75 ?_
    refine zW_gh 35 [some (.ref 75), some (.int (Int32.ofNat x1)), some (.int (0 : Int32)), some (.int (7 : Int32))] [] 4 (fun f => rfl) ?_
    exact H
  · have c9 : ¬ rv ≤ (7 : Int32) := (of_decide_eq_false c)
    replace H := H.2 c9
    refine zW_gh 27 [some (.ref 75), some (.int (Int32.ofNat x1)), none, none] [.int (1 : Int32), .ref 75] 2 (fun f => rfl) ?_
    refine zW_go (pc' := 30) (L' := [some (.ref 75), some (.int (Int32.ofNat x1)), none, none]) (st' := []) (h' := (va_up (zh K (code, rf, rs, bad, pr, pn, J) (m, pa, pb, pc, vf, vs, B) w) 75 (.inr (7, zfl (code, rf, rs, true, pr, pn, J))))) 1 (fun f => rfl) ?_
    refine zW_eq zu_75 ?_
    refine zW_gh 35 [some (.ref 75), some (.int (Int32.ofNat x1)), some (.int (0 : Int32)), some (.int (7 : Int32))] [] 4 (fun f => rfl) ?_
    exact H
set_option maxRecDepth 20000 in
theorem b157 {K : zKt} {code rf rs pr pn : Int32} {bad : Bool} {J : zJt} {m pa pb pc vf vs : Nat → Int32} {B : zBt} {w : Nat → Int64} {p : Nat × Nat} {Q : zR → zH → Prop} {a0 : Nat} {a1 a2 a3 a4 a5 a6 : Int32} (H : (a0 < 2147483648 ∧ ((¬ a0 = 0 → ((¬ a0 = 1 → zW zm_157 79 [some (.ref 75), some (.int (Int32.ofNat a0)), some (.int a1), none, some (.int a3), none, some (.int a5), none, some (.int (Int32.ofNat 0)), none] [] p (zh K (code, rf, rs, bad, pr, pn, J) (m, pa, pb, pc, vf, vs, B) w) Q) ∧ (a0 = 1 → Q (.inl none) (zh K (code, (bif (zbad bad ((((a1).toInt64) + (((a3).toInt64) * ((a5).toInt64))) - (((a4).toInt64) * ((a6).toInt64))) ((((a2).toInt64) + (((a3).toInt64) * ((a6).toInt64))) + (((a4).toInt64) * ((a5).toInt64))) (30000 : Int64)) then 0 else ((((a1).toInt64) + (((a3).toInt64) * ((a5).toInt64))) - (((a4).toInt64) * ((a6).toInt64))).toInt32), (bif (zbad bad ((((a1).toInt64) + (((a3).toInt64) * ((a5).toInt64))) - (((a4).toInt64) * ((a6).toInt64))) ((((a2).toInt64) + (((a3).toInt64) * ((a6).toInt64))) + (((a4).toInt64) * ((a5).toInt64))) (30000 : Int64)) then 0 else ((((a2).toInt64) + (((a3).toInt64) * ((a6).toInt64))) + (((a4).toInt64) * ((a5).toInt64))).toInt32), (zbad bad ((((a1).toInt64) + (((a3).toInt64) * ((a5).toInt64))) - (((a4).toInt64) * ((a6).toInt64))) ((((a2).toInt64) + (((a3).toInt64) * ((a6).toInt64))) + (((a4).toInt64) * ((a5).toInt64))) (30000 : Int64)), pr, pn, J) (m, pa, pb, pc, vf, vs, B) w)))) ∧ (a0 = 0 → Q (.inl none) (zh K (code, (bif (zbad bad (((a1).toInt64) + (((a3).toInt64) * ((a5).toInt64))) (0 : Int64) (1000000000 : Int64)) then 0 else (((a1).toInt64) + (((a3).toInt64) * ((a5).toInt64))).toInt32), (bif (zbad bad (((a1).toInt64) + (((a3).toInt64) * ((a5).toInt64))) (0 : Int64) (1000000000 : Int64)) then 0 else (0 : Int64).toInt32), (zbad bad (((a1).toInt64) + (((a3).toInt64) * ((a5).toInt64))) (0 : Int64) (1000000000 : Int64)), pr, pn, J) (m, pa, pb, pc, vf, vs, B) w))))) : zT zm_157 [.ref 75, .int (Int32.ofNat a0), .int a1, .int a2, .int a3, .int a4, .int a5, .int a6] p (zh K (code, rf, rs, bad, pr, pn, J) (m, pa, pb, pc, vf, vs, B) w) Q := by
  change zW zm_157 0 [some (.ref 75), some (.int (Int32.ofNat a0)), some (.int a1), some (.int a2), some (.int a3), some (.int a4), some (.int a5), some (.int a6), none, none] [] p _ Q
  obtain ⟨h1, H⟩ := H
  refine zW_bh (zcmp .ne (Int32.ofNat a0) (0 : Int32)) 25 4 [some (.ref 75), some (.int (Int32.ofNat a0)), some (.int a1), some (.int a2), some (.int a3), some (.int a4), some (.int a5), some (.int a6), none, none] [] 2 (fun f => rfl) (fun c => ?_) (fun c => ?_)
  · have c9 : ¬ a0 = 0 := (by have c := (zcN_ne (a := a0) (b := 0) rfl rfl h1 (by decide)).symm.trans c; simpa using c)
    replace H := H.1 c9
    refine zW_bh (zcmp .ne (Int32.ofNat a0) (1 : Int32)) 76 30 [some (.ref 75), some (.int (Int32.ofNat a0)), some (.int a1), some (.int a2), some (.int a3), some (.int a4), some (.int a5), some (.int a6), none, none] [] 3 (fun f => rfl) (fun c => ?_) (fun c => ?_)
    · have c9 : ¬ a0 = 1 := (by have c := (zcN_ne (a := a0) (b := 1) rfl rfl h1 (by decide)).symm.trans c; simpa using c)
      replace H := H.1 c9
      refine zW_gh 79 [some (.ref 75), some (.int (Int32.ofNat a0)), some (.int a1), some (.int a2), some (.int a3), some (.int a4), some (.int a5), some (.int a6), some (.int (0 : Int32)), none] [] 2 (fun f => rfl) ?_
      refine zW_fg (L' := [some (.ref 75), some (.int (Int32.ofNat a0)), some (.int a1), none, some (.int a3), none, some (.int a5), none, some (.int (0 : Int32)), none]) (zle_s _ (zle_s _ (zle_s _ (zle_n _ (zle_s _ (zle_n _ (zle_s _ (zle_n _ (zle_s _ (zle_s _ zle_nil)))))))))) ?_
      exact H
    · have c9 : a0 = 1 := (by have c := (zcN_ne (a := a0) (b := 1) rfl rfl h1 (by decide)).symm.trans c; simpa using c)
      replace H := H.2 c9
      refine zW_gh 41 [some (.ref 75), some (.int (Int32.ofNat a0)), some (.int a1), some (.int a2), some (.int a3), some (.int a4), some (.int a5), some (.int a6), none, none] [.long (((a1).toInt64) + (((a3).toInt64) * ((a5).toInt64))), .ref 75] 9 (fun f => rfl) ?_
      refine zW_gh 53 [some (.ref 75), some (.int (Int32.ofNat a0)), some (.int a1), some (.int a2), some (.int a3), some (.int a4), some (.int a5), some (.int a6), none, none] [.int a3, .long ((a2).toInt64), .long ((((a1).toInt64) + (((a3).toInt64) * ((a5).toInt64))) - (((a4).toInt64) * ((a6).toInt64))), .ref 75] 9 (fun f => rfl) ?_
      refine zW_gh 65 [some (.ref 75), some (.int (Int32.ofNat a0)), some (.int a1), some (.int a2), some (.int a3), some (.int a4), some (.int a5), some (.int a6), none, none] [.long ((a5).toInt64), .long ((a4).toInt64), .long (((a2).toInt64) + (((a3).toInt64) * ((a6).toInt64))), .long ((((a1).toInt64) + (((a3).toInt64) * ((a5).toInt64))) - (((a4).toInt64) * ((a6).toInt64))), .ref 75] 9 (fun f => rfl) ?_
      refine zW_gh 70 [some (.ref 75), some (.int (Int32.ofNat a0)), some (.int a1), some (.int a2), some (.int a3), some (.int a4), some (.int a5), some (.int a6), none, none] [.long (30000 : Int64), .long ((((a2).toInt64) + (((a3).toInt64) * ((a6).toInt64))) + (((a4).toInt64) * ((a5).toInt64))), .long ((((a1).toInt64) + (((a3).toInt64) * ((a5).toInt64))) - (((a4).toInt64) * ((a6).toInt64))), .ref 75] 3 (fun f => rfl) ?_
      refine zW_cl rfl rfl rfl rfl rfl (s158 ?_)
      change zW zm_157 73 [some (.ref 75), some (.int (Int32.ofNat a0)), some (.int a1), some (.int a2), some (.int a3), some (.int a4), some (.int a5), some (.int a6), none, none] [] p _ Q
      refine zW_gh 244 [some (.ref 75), some (.int (Int32.ofNat a0)), some (.int a1), some (.int a2), some (.int a3), some (.int a4), some (.int a5), some (.int a6), none, none] [] 1 (fun f => rfl) ?_
      exact zW_rh none 1 (fun f => rfl) H
  · have c9 : a0 = 0 := (by have c := (zcN_ne (a := a0) (b := 0) rfl rfl h1 (by decide)).symm.trans c; simpa using c)
    replace H := H.2 c9
    refine zW_gh 15 [some (.ref 75), some (.int (Int32.ofNat a0)), some (.int a1), some (.int a2), some (.int a3), some (.int a4), some (.int a5), some (.int a6), none, none] [.long (((a1).toInt64) + (((a3).toInt64) * ((a5).toInt64))), .ref 75] 9 (fun f => rfl) ?_
    refine zW_gh 19 [some (.ref 75), some (.int (Int32.ofNat a0)), some (.int a1), some (.int a2), some (.int a3), some (.int a4), some (.int a5), some (.int a6), none, none] [.long (1000000000 : Int64), .long (0 : Int64), .long (((a1).toInt64) + (((a3).toInt64) * ((a5).toInt64))), .ref 75] 2 (fun f => rfl) ?_
    refine zW_cl rfl rfl rfl rfl rfl (s158 ?_)
    change zW zm_157 22 [some (.ref 75), some (.int (Int32.ofNat a0)), some (.int a1), some (.int a2), some (.int a3), some (.int a4), some (.int a5), some (.int a6), none, none] [] p _ Q
    refine zW_gh 244 [some (.ref 75), some (.int (Int32.ofNat a0)), some (.int a1), some (.int a2), some (.int a3), some (.int a4), some (.int a5), some (.int a6), none, none] [] 1 (fun f => rfl) ?_
    exact zW_rh none 1 (fun f => rfl) H
set_option maxRecDepth 20000 in
theorem b157_79 {K : zKt} {code rf rs pr pn : Int32} {bad : Bool} {J : zJt} {m pa pb pc vf vs : Nat → Int32} {B : zBt} {w : Nat → Int64} {p : Nat × Nat} {Q : zR → zH → Prop} {x1 x8 : Nat} {x2 x4 x6 : Int32} (H : (x8 < 2147483648 ∧ ((16 ≤ x8 → zT zm_159 [.int (Int32.ofNat x1), .int x4, .ref 77] p (zh K (code, rf, rs, bad, pr, pn, J) (m, pa, pb, pc, vf, vs, B) w) (zK zm_157 110 [some (.ref 75), some (.int (Int32.ofNat x1)), some (.int x2), none, none, none, some (.int x6), none, none, none] [] p Q)) ∧ (x8 < 16 → (x8 < 16 ∧ zW zm_157 79 [some (.ref 75), some (.int (Int32.ofNat x1)), some (.int x2), none, some (.int x4), none, some (.int x6), none, some (.int (Int32.ofNat (x8 + 1))), none] [] p (zh K (code, rf, rs, bad, pr, pn, J) (m, pa, pb, (va_up pc x8 (0 : Int32)), vf, vs, B) w) Q))))) : zW zm_157 79 [some (.ref 75), some (.int (Int32.ofNat x1)), some (.int x2), none, some (.int x4), none, some (.int x6), none, some (.int (Int32.ofNat x8)), none] [] p (zh K (code, rf, rs, bad, pr, pn, J) (m, pa, pb, pc, vf, vs, B) w) Q := by
  obtain ⟨h1, H⟩ := H
  refine zW_bh (zcmp .ge (Int32.ofNat x8) (16 : Int32)) 100 86 [some (.ref 75), some (.int (Int32.ofNat x1)), some (.int x2), none, some (.int x4), none, some (.int x6), none, some (.int (Int32.ofNat x8)), none] [] 3 (fun f => rfl) (fun c => ?_) (fun c => ?_)
  · have c9 : 16 ≤ x8 := (of_decide_eq_true ((zcN_ge (a := x8) (b := 16) rfl rfl h1 (by decide)).symm.trans c))
    replace H := H.1 c9
    refine zW_gh 107 [some (.ref 75), some (.int (Int32.ofNat x1)), some (.int x2), none, some (.int x4), none, some (.int x6), none, some (.int (Int32.ofNat x8)), none] [.ref 77, .int x4, .int (Int32.ofNat x1)] 4 (fun f => rfl) ?_
    refine zW_fg (L' := [some (.ref 75), some (.int (Int32.ofNat x1)), some (.int x2), none, none, none, some (.int x6), none, none, none]) (zle_s _ (zle_s _ (zle_s _ (zle_s _ (zle_n _ (zle_s _ (zle_s _ (zle_s _ (zle_n _ (zle_s _ zle_nil)))))))))) ?_
    exact zW_cl rfl rfl rfl rfl rfl H
  · have c9 : x8 < 16 := (Nat.lt_of_not_le (of_decide_eq_false ((zcN_ge (a := x8) (b := 16) rfl rfl h1 (by decide)).symm.trans c)))
    replace H := H.2 c9
    refine zW_gh 93 [some (.ref 75), some (.int (Int32.ofNat x1)), some (.int x2), none, some (.int x4), none, some (.int x6), none, some (.int (Int32.ofNat x8)), none] [.int (0 : Int32), .int (Int32.ofNat x8), .ref 79] 4 (fun f => rfl) ?_
    obtain ⟨h2, H⟩ := H
    refine zW_iast rfl (by decide) rfl (by decide) zu_79 rfl h2 ?_
    refine zW_inc [some (.ref 75), some (.int (Int32.ofNat x1)), some (.int x2), none, some (.int x4), none, some (.int x6), none, some (.int ((Int32.ofNat x8) + (1 : Int32))), none] rfl rfl rfl ?_
    rw [show ((Int32.ofNat x8) + (1 : Int32)) = Int32.ofNat (x8 + 1) from (zN_a rfl rfl)]
    refine zW_gh 79 [some (.ref 75), some (.int (Int32.ofNat x1)), some (.int x2), none, some (.int x4), none, some (.int x6), none, some (.int (Int32.ofNat (x8 + 1))), none] [] 1 (fun f => rfl) ?_
    exact H
set_option maxRecDepth 20000 in
theorem b157_110 {K : zKt} {code rf rs pr pn : Int32} {bad : Bool} {J : zJt} {m pa pb pc vf vs : Nat → Int32} {B : zBt} {w : Nat → Int64} {p : Nat × Nat} {Q : zR → zH → Prop} {x1 : Nat} {x2 x6 : Int32} (H : zT zm_159 [.int (Int32.ofNat x1), .int x6, .ref 78] p (zh K (code, rf, rs, bad, pr, pn, J) (m, pa, pb, pc, vf, vs, B) w) (zK zm_157 120 [some (.ref 75), some (.int (Int32.ofNat x1)), some (.int x2), none, none, none, none, none, none, none] [] p Q)) : zW zm_157 110 [some (.ref 75), some (.int (Int32.ofNat x1)), some (.int x2), none, none, none, some (.int x6), none, none, none] [] p (zh K (code, rf, rs, bad, pr, pn, J) (m, pa, pb, pc, vf, vs, B) w) Q := by
  refine zW_gh 117 [some (.ref 75), some (.int (Int32.ofNat x1)), some (.int x2), none, none, none, some (.int x6), none, none, none] [.ref 78, .int x6, .int (Int32.ofNat x1)] 4 (fun f => rfl) ?_
  refine zW_fg (L' := [some (.ref 75), some (.int (Int32.ofNat x1)), some (.int x2), none, none, none, none, none, none, none]) (zle_s _ (zle_s _ (zle_s _ (zle_s _ (zle_s _ (zle_s _ (zle_n _ (zle_s _ (zle_s _ (zle_s _ zle_nil)))))))))) ?_
  exact zW_cl rfl rfl rfl rfl rfl H
set_option maxRecDepth 20000 in
theorem b157_120 {K : zKt} {code rf rs pr pn : Int32} {bad : Bool} {J : zJt} {m pa pb pc vf vs : Nat → Int32} {B : zBt} {w : Nat → Int64} {p : Nat × Nat} {Q : zR → zH → Prop} {x1 : Nat} {x2 : Int32} (H : zW zm_157 123 [some (.ref 75), some (.int (Int32.ofNat x1)), some (.int x2), none, none, none, none, none, some (.int (Int32.ofNat 0)), none] [] p (zh K (code, rf, rs, bad, pr, pn, J) (m, pa, pb, pc, vf, vs, B) w) Q) : zW zm_157 120 [some (.ref 75), some (.int (Int32.ofNat x1)), some (.int x2), none, none, none, none, none, none, none] [] p (zh K (code, rf, rs, bad, pr, pn, J) (m, pa, pb, pc, vf, vs, B) w) Q := by
  refine zW_gh 123 [some (.ref 75), some (.int (Int32.ofNat x1)), some (.int x2), none, none, none, none, none, some (.int (0 : Int32)), none] [] 2 (fun f => rfl) ?_
  exact H
set_option maxRecDepth 20000 in
theorem b157_123 {K : zKt} {code rf rs pr pn : Int32} {bad : Bool} {J : zJt} {m pa pb pc vf vs : Nat → Int32} {B : zBt} {w : Nat → Int64} {p : Nat × Nat} {Q : zR → zH → Prop} {x1 x8 : Nat} {x2 : Int32} (H : (x8 < 2147483648 ∧ ((8 ≤ x8 → zT zm_159 [.int (Int32.ofNat x1), .int x2, .ref 77] p (zh K (code, rf, rs, bad, pr, pn, J) (m, pa, pb, pc, vf, vs, B) w) (zK zm_157 199 [some (.ref 75), some (.int (Int32.ofNat x1)), none, none, none, none, none, none, none, none] [] p Q)) ∧ (x8 < 8 → zW zm_157 133 [some (.ref 75), some (.int (Int32.ofNat x1)), some (.int x2), none, none, none, none, none, some (.int (Int32.ofNat x8)), some (.int (Int32.ofNat 0))] [] p (zh K (code, rf, rs, bad, pr, pn, J) (m, pa, pb, pc, vf, vs, B) w) Q)))) : zW zm_157 123 [some (.ref 75), some (.int (Int32.ofNat x1)), some (.int x2), none, none, none, none, none, some (.int (Int32.ofNat x8)), none] [] p (zh K (code, rf, rs, bad, pr, pn, J) (m, pa, pb, pc, vf, vs, B) w) Q := by
  obtain ⟨h1, H⟩ := H
  refine zW_bh (zcmp .ge (Int32.ofNat x8) (8 : Int32)) 190 130 [some (.ref 75), some (.int (Int32.ofNat x1)), some (.int x2), none, none, none, none, none, some (.int (Int32.ofNat x8)), none] [] 3 (fun f => rfl) (fun c => ?_) (fun c => ?_)
  · have c9 : 8 ≤ x8 := (of_decide_eq_true ((zcN_ge (a := x8) (b := 8) rfl rfl h1 (by decide)).symm.trans c))
    replace H := H.1 c9
    refine zW_gh 196 [some (.ref 75), some (.int (Int32.ofNat x1)), some (.int x2), none, none, none, none, none, some (.int (Int32.ofNat x8)), none] [.ref 77, .int x2, .int (Int32.ofNat x1)] 4 (fun f => rfl) ?_
    refine zW_fg (L' := [some (.ref 75), some (.int (Int32.ofNat x1)), none, none, none, none, none, none, none, none]) (zle_s _ (zle_s _ (zle_n _ (zle_s _ (zle_s _ (zle_s _ (zle_s _ (zle_s _ (zle_n _ (zle_s _ zle_nil)))))))))) ?_
    exact zW_cl rfl rfl rfl rfl rfl H
  · have c9 : x8 < 8 := (Nat.lt_of_not_le (of_decide_eq_false ((zcN_ge (a := x8) (b := 8) rfl rfl h1 (by decide)).symm.trans c)))
    replace H := H.2 c9
    refine zW_gh 133 [some (.ref 75), some (.int (Int32.ofNat x1)), some (.int x2), none, none, none, none, none, some (.int (Int32.ofNat x8)), some (.int (0 : Int32))] [] 2 (fun f => rfl) ?_
    exact H
set_option maxRecDepth 20000 in
theorem b157_199 {K : zKt} {code rf rs pr pn : Int32} {bad : Bool} {J : zJt} {m pa pb pc vf vs : Nat → Int32} {B : zBt} {w : Nat → Int64} {p : Nat × Nat} {Q : zR → zH → Prop} {x1 : Nat} (H : zW zm_157 202 [some (.ref 75), some (.int (Int32.ofNat x1)), none, none, none, none, none, none, some (.int (Int32.ofNat 0)), none] [] p (zh K (code, rf, rs, bad, pr, pn, J) (m, pa, pb, pc, vf, vs, B) w) Q) : zW zm_157 199 [some (.ref 75), some (.int (Int32.ofNat x1)), none, none, none, none, none, none, none, none] [] p (zh K (code, rf, rs, bad, pr, pn, J) (m, pa, pb, pc, vf, vs, B) w) Q := by
  refine zW_gh 202 [some (.ref 75), some (.int (Int32.ofNat x1)), none, none, none, none, none, none, some (.int (0 : Int32)), none] [] 2 (fun f => rfl) ?_
  exact H
set_option maxRecDepth 20000 in
theorem b157_133 {K : zKt} {code rf rs pr pn : Int32} {bad : Bool} {J : zJt} {m pa pb pc vf vs : Nat → Int32} {B : zBt} {w : Nat → Int64} {p : Nat × Nat} {Q : zR → zH → Prop} {x1 x8 x9 : Nat} {x2 : Int32} (H : (x9 < 2147483648 ∧ ((8 ≤ x9 → zW zm_157 123 [some (.ref 75), some (.int (Int32.ofNat x1)), some (.int x2), none, none, none, none, none, some (.int (Int32.ofNat (x8 + 1))), none] [] p (zh K (code, rf, rs, bad, pr, pn, J) (m, pa, pb, pc, vf, vs, B) w) Q) ∧ (x9 < 8 → ((x8 + x9) < 16 ∧ (x8 < 8 ∧ (x9 < 8 ∧ ((Int32.ofNat x1) ≠ 0 ∧ zW zm_157 133 [some (.ref 75), some (.int (Int32.ofNat x1)), some (.int x2), none, none, none, none, none, some (.int (Int32.ofNat x8)), some (.int (Int32.ofNat (x9 + 1)))] [] p (zh K (code, rf, rs, bad, pr, pn, J) (m, pa, pb, (va_up pc (x8 + x9) (((pc (x8 + x9)) + ((pa x8) * (pb x9))) - ((pc (x8 + x9)) + ((pa x8) * (pb x9))) / (Int32.ofNat x1) * (Int32.ofNat x1))), vf, vs, B) w) Q)))))))) : zW zm_157 133 [some (.ref 75), some (.int (Int32.ofNat x1)), some (.int x2), none, none, none, none, none, some (.int (Int32.ofNat x8)), some (.int (Int32.ofNat x9))] [] p (zh K (code, rf, rs, bad, pr, pn, J) (m, pa, pb, pc, vf, vs, B) w) Q := by
  obtain ⟨h1, H⟩ := H
  refine zW_bh (zcmp .ge (Int32.ofNat x9) (8 : Int32)) 184 140 [some (.ref 75), some (.int (Int32.ofNat x1)), some (.int x2), none, none, none, none, none, some (.int (Int32.ofNat x8)), some (.int (Int32.ofNat x9))] [] 3 (fun f => rfl) (fun c => ?_) (fun c => ?_)
  · have c9 : 8 ≤ x9 := (of_decide_eq_true ((zcN_ge (a := x9) (b := 8) rfl rfl h1 (by decide)).symm.trans c))
    replace H := H.1 c9
    refine zW_inc [some (.ref 75), some (.int (Int32.ofNat x1)), some (.int x2), none, none, none, none, none, some (.int ((Int32.ofNat x8) + (1 : Int32))), some (.int (Int32.ofNat x9))] rfl rfl rfl ?_
    rw [show ((Int32.ofNat x8) + (1 : Int32)) = Int32.ofNat (x8 + 1) from (zN_a rfl rfl)]
    refine zW_gh 123 [some (.ref 75), some (.int (Int32.ofNat x1)), some (.int x2), none, none, none, none, none, some (.int (Int32.ofNat (x8 + 1))), some (.int (Int32.ofNat x9))] [] 1 (fun f => rfl) ?_
    refine zW_fg (L' := [some (.ref 75), some (.int (Int32.ofNat x1)), some (.int x2), none, none, none, none, none, some (.int (Int32.ofNat (x8 + 1))), none]) (zle_s _ (zle_s _ (zle_s _ (zle_s _ (zle_s _ (zle_s _ (zle_s _ (zle_s _ (zle_s _ (zle_n _ zle_nil)))))))))) ?_
    exact H
  · have c9 : x9 < 8 := (Nat.lt_of_not_le (of_decide_eq_false ((zcN_ge (a := x9) (b := 8) rfl rfl h1 (by decide)).symm.trans c)))
    replace H := H.2 c9
    refine zW_gh 157 [some (.ref 75), some (.int (Int32.ofNat x1)), some (.int x2), none, none, none, none, none, some (.int (Int32.ofNat x8)), some (.int (Int32.ofNat x9))] [.int (Int32.ofNat x9), .int (Int32.ofNat x8), .ref 79, .int ((Int32.ofNat x8) + (Int32.ofNat x9)), .ref 79] 9 (fun f => rfl) ?_
    refine zW_gh 158 [some (.ref 75), some (.int (Int32.ofNat x1)), some (.int x2), none, none, none, none, none, some (.int (Int32.ofNat x8)), some (.int (Int32.ofNat x9))] [.int ((Int32.ofNat x8) + (Int32.ofNat x9)), .ref 79, .int ((Int32.ofNat x8) + (Int32.ofNat x9)), .ref 79] 1 (fun f => rfl) ?_
    obtain ⟨h2, H⟩ := H
    refine zW_iald rfl (by decide) rfl (by decide) (zN_a rfl rfl) h2 ?_
    refine zW_gh 165 [some (.ref 75), some (.int (Int32.ofNat x1)), some (.int x2), none, none, none, none, none, some (.int (Int32.ofNat x8)), some (.int (Int32.ofNat x9))] [.int (Int32.ofNat x8), .ref 77, .int (pc (x8 + x9)), .int ((Int32.ofNat x8) + (Int32.ofNat x9)), .ref 79] 3 (fun f => rfl) ?_
    obtain ⟨h3, H⟩ := H
    refine zW_iald rfl (by decide) rfl (by decide) rfl h3 ?_
    refine zW_gh 172 [some (.ref 75), some (.int (Int32.ofNat x1)), some (.int x2), none, none, none, none, none, some (.int (Int32.ofNat x8)), some (.int (Int32.ofNat x9))] [.int (Int32.ofNat x9), .ref 78, .int (pa x8), .int (pc (x8 + x9)), .int ((Int32.ofNat x8) + (Int32.ofNat x9)), .ref 79] 3 (fun f => rfl) ?_
    obtain ⟨h4, H⟩ := H
    refine zW_iald rfl (by decide) rfl (by decide) rfl h4 ?_
    refine zW_gh 176 [some (.ref 75), some (.int (Int32.ofNat x1)), some (.int x2), none, none, none, none, none, some (.int (Int32.ofNat x8)), some (.int (Int32.ofNat x9))] [.int (Int32.ofNat x1), .int ((pc (x8 + x9)) + ((pa x8) * (pb x9))), .int ((Int32.ofNat x8) + (Int32.ofNat x9)), .ref 79] 3 (fun f => rfl) ?_
    obtain ⟨h5, H⟩ := H
    refine zW_irem rfl h5 ?_
    refine zW_iast rfl (by decide) rfl (by decide) zu_79 (zN_a rfl rfl) h2 ?_
    refine zW_inc [some (.ref 75), some (.int (Int32.ofNat x1)), some (.int x2), none, none, none, none, none, some (.int (Int32.ofNat x8)), some (.int ((Int32.ofNat x9) + (1 : Int32)))] rfl rfl rfl ?_
    rw [show ((Int32.ofNat x9) + (1 : Int32)) = Int32.ofNat (x9 + 1) from (zN_a rfl rfl)]
    refine zW_gh 133 [some (.ref 75), some (.int (Int32.ofNat x1)), some (.int x2), none, none, none, none, none, some (.int (Int32.ofNat x8)), some (.int (Int32.ofNat (x9 + 1)))] [] 1 (fun f => rfl) ?_
    exact H
set_option maxRecDepth 20000 in
theorem b157_202 {K : zKt} {code rf rs pr pn : Int32} {bad : Bool} {J : zJt} {m pa pb pc vf vs : Nat → Int32} {B : zBt} {w : Nat → Int64} {p : Nat × Nat} {Q : zR → zH → Prop} {x1 x8 : Nat} (H : (x8 < 2147483648 ∧ ((8 ≤ x8 → zT zm_160 [.ref 75, .int (Int32.ofNat x1)] p (zh K (code, rf, rs, bad, pr, pn, J) (m, pa, pb, pc, vf, vs, B) w) (zK zm_157 244 [none, none, none, none, none, none, none, none, none, none] [] p Q)) ∧ (x8 < 8 → (x8 < 16 ∧ (x8 < 8 ∧ ((Int32.ofNat x1) ≠ 0 ∧ zW zm_157 202 [some (.ref 75), some (.int (Int32.ofNat x1)), none, none, none, none, none, none, some (.int (Int32.ofNat (x8 + 1))), none] [] p (zh K (code, rf, rs, bad, pr, pn, J) (m, pa, pb, (va_up pc x8 (((pc x8) + (pa x8)) - ((pc x8) + (pa x8)) / (Int32.ofNat x1) * (Int32.ofNat x1))), vf, vs, B) w) Q))))))) : zW zm_157 202 [some (.ref 75), some (.int (Int32.ofNat x1)), none, none, none, none, none, none, some (.int (Int32.ofNat x8)), none] [] p (zh K (code, rf, rs, bad, pr, pn, J) (m, pa, pb, pc, vf, vs, B) w) Q := by
  obtain ⟨h1, H⟩ := H
  refine zW_bh (zcmp .ge (Int32.ofNat x8) (8 : Int32)) 239 209 [some (.ref 75), some (.int (Int32.ofNat x1)), none, none, none, none, none, none, some (.int (Int32.ofNat x8)), none] [] 3 (fun f => rfl) (fun c => ?_) (fun c => ?_)
  · have c9 : 8 ≤ x8 := (of_decide_eq_true ((zcN_ge (a := x8) (b := 8) rfl rfl h1 (by decide)).symm.trans c))
    replace H := H.1 c9
    refine zW_gh 241 [some (.ref 75), some (.int (Int32.ofNat x1)), none, none, none, none, none, none, some (.int (Int32.ofNat x8)), none] [.int (Int32.ofNat x1), .ref 75] 2 (fun f => rfl) ?_
    refine zW_fg (L' := [none, none, none, none, none, none, none, none, none, none]) (zle_n _ (zle_n _ (zle_s _ (zle_s _ (zle_s _ (zle_s _ (zle_s _ (zle_s _ (zle_n _ (zle_s _ zle_nil)))))))))) ?_
    exact zW_cl rfl rfl rfl rfl rfl H
  · have c9 : x8 < 8 := (Nat.lt_of_not_le (of_decide_eq_false ((zcN_ge (a := x8) (b := 8) rfl rfl h1 (by decide)).symm.trans c)))
    replace H := H.2 c9
    refine zW_gh 221 [some (.ref 75), some (.int (Int32.ofNat x1)), none, none, none, none, none, none, some (.int (Int32.ofNat x8)), none] [.int (Int32.ofNat x8), .ref 79, .int (Int32.ofNat x8), .ref 79] 6 (fun f => rfl) ?_
    obtain ⟨h2, H⟩ := H
    refine zW_iald rfl (by decide) rfl (by decide) rfl h2 ?_
    refine zW_gh 228 [some (.ref 75), some (.int (Int32.ofNat x1)), none, none, none, none, none, none, some (.int (Int32.ofNat x8)), none] [.int (Int32.ofNat x8), .ref 77, .int (pc x8), .int (Int32.ofNat x8), .ref 79] 3 (fun f => rfl) ?_
    obtain ⟨h3, H⟩ := H
    refine zW_iald rfl (by decide) rfl (by decide) rfl h3 ?_
    refine zW_gh 231 [some (.ref 75), some (.int (Int32.ofNat x1)), none, none, none, none, none, none, some (.int (Int32.ofNat x8)), none] [.int (Int32.ofNat x1), .int ((pc x8) + (pa x8)), .int (Int32.ofNat x8), .ref 79] 2 (fun f => rfl) ?_
    obtain ⟨h4, H⟩ := H
    refine zW_irem rfl h4 ?_
    refine zW_iast rfl (by decide) rfl (by decide) zu_79 rfl h2 ?_
    refine zW_inc [some (.ref 75), some (.int (Int32.ofNat x1)), none, none, none, none, none, none, some (.int ((Int32.ofNat x8) + (1 : Int32))), none] rfl rfl rfl ?_
    rw [show ((Int32.ofNat x8) + (1 : Int32)) = Int32.ofNat (x8 + 1) from (zN_a rfl rfl)]
    refine zW_gh 202 [some (.ref 75), some (.int (Int32.ofNat x1)), none, none, none, none, none, none, some (.int (Int32.ofNat (x8 + 1))), none] [] 1 (fun f => rfl) ?_
    exact H
set_option maxRecDepth 20000 in
theorem b157_244 {K : zKt} {code rf rs pr pn : Int32} {bad : Bool} {J : zJt} {m pa pb pc vf vs : Nat → Int32} {B : zBt} {w : Nat → Int64} {p : Nat × Nat} {Q : zR → zH → Prop} (H : Q (.inl none) (zh K (code, rf, rs, bad, pr, pn, J) (m, pa, pb, pc, vf, vs, B) w)) : zW zm_157 244 [none, none, none, none, none, none, none, none, none, none] [] p (zh K (code, rf, rs, bad, pr, pn, J) (m, pa, pb, pc, vf, vs, B) w) Q := by
  exact zW_rh none 1 (fun f => rfl) H
theorem b195 {K : zKt} {code rf rs pr pn : Int32} {bad : Bool} {J : zJt} {m pa pb pc vf vs : Nat → Int32} {B : zBt} {w : Nat → Int64} {p : Nat × Nat} {Q : zR → zH → Prop} {a0 : Nat} {a1 a2 : Int32} (H : zT zm_157 [.ref 75, .int (Int32.ofNat a0), .int (0 : Int32), .int (0 : Int32), .int (zm1 (Int32.ofNat a0)), .int (0 : Int32), .int a1, .int a2] p (zh K (code, rf, rs, bad, pr, pn, J) (m, pa, pb, pc, vf, vs, B) w) (zK zm_195 14 [none, none, none, none] [] p Q)) : zT zm_195 [.ref 75, .int (Int32.ofNat a0), .int a1, .int a2] p (zh K (code, rf, rs, bad, pr, pn, J) (m, pa, pb, pc, vf, vs, B) w) Q := by
  change zW zm_195 0 [some (.ref 75), some (.int (Int32.ofNat a0)), some (.int a1), some (.int a2)] [] p _ Q
  refine zW_gh 5 [some (.ref 75), some (.int (Int32.ofNat a0)), some (.int a1), some (.int a2)] [.int (Int32.ofNat a0), .int (0 : Int32), .int (0 : Int32), .int (Int32.ofNat a0), .ref 75] 5 (fun f => rfl) ?_
  refine zW_cl rfl rfl rfl rfl rfl (s196 ?_)
  change zW zm_195 8 [some (.ref 75), some (.int (Int32.ofNat a0)), some (.int a1), some (.int a2)] [.int (zm1 (Int32.ofNat a0)), .int (0 : Int32), .int (0 : Int32), .int (Int32.ofNat a0), .ref 75] p _ Q
  refine zW_gh 11 [some (.ref 75), some (.int (Int32.ofNat a0)), some (.int a1), some (.int a2)] [.int a2, .int a1, .int (0 : Int32), .int (zm1 (Int32.ofNat a0)), .int (0 : Int32), .int (0 : Int32), .int (Int32.ofNat a0), .ref 75] 3 (fun f => rfl) ?_
  refine zW_fg (L' := [none, none, none, none]) (zle_n _ (zle_n _ (zle_n _ (zle_n _ zle_nil)))) ?_
  exact zW_cl rfl rfl rfl rfl rfl H
theorem b195_14 {K : zKt} {code rf rs pr pn : Int32} {bad : Bool} {J : zJt} {m pa pb pc vf vs : Nat → Int32} {B : zBt} {w : Nat → Int64} {p : Nat × Nat} {Q : zR → zH → Prop} (H : Q (.inl none) (zh K (code, rf, rs, bad, pr, pn, J) (m, pa, pb, pc, vf, vs, B) w)) : zW zm_195 14 [none, none, none, none] [] p (zh K (code, rf, rs, bad, pr, pn, J) (m, pa, pb, pc, vf, vs, B) w) Q := by
  exact zW_rh none 1 (fun f => rfl) H
set_option maxRecDepth 20000 in
theorem b193 {K : zKt} {code rf rs pr pn : Int32} {bad : Bool} {J : zJt} {m pa pb pc vf vs : Nat → Int32} {B : zBt} {w : Nat → Int64} {p : Nat × Nat} {Q : zR → zH → Prop} {a0 a1 a2 : Nat} (H : zT zm_159 [.int (Int32.ofNat a0), .int (Int32.ofNat a1), .ref 77] p (zh K (code, rf, rs, bad, pr, pn, J) (m, pa, pb, pc, vf, vs, B) w) (zK zm_193 9 [some (.ref 75), some (.int (Int32.ofNat a0)), none, some (.int (Int32.ofNat a2)), none, none, none, none, none] [] p Q)) : zT zm_193 [.ref 75, .int (Int32.ofNat a0), .int (Int32.ofNat a1), .int (Int32.ofNat a2)] p (zh K (code, rf, rs, bad, pr, pn, J) (m, pa, pb, pc, vf, vs, B) w) Q := by
  change zW zm_193 0 [some (.ref 75), some (.int (Int32.ofNat a0)), some (.int (Int32.ofNat a1)), some (.int (Int32.ofNat a2)), none, none, none, none, none] [] p _ Q
  refine zW_gh 6 [some (.ref 75), some (.int (Int32.ofNat a0)), some (.int (Int32.ofNat a1)), some (.int (Int32.ofNat a2)), none, none, none, none, none] [.ref 77, .int (Int32.ofNat a1), .int (Int32.ofNat a0)] 4 (fun f => rfl) ?_
  refine zW_fg (L' := [some (.ref 75), some (.int (Int32.ofNat a0)), none, some (.int (Int32.ofNat a2)), none, none, none, none, none]) (zle_s _ (zle_s _ (zle_n _ (zle_s _ (zle_s _ (zle_s _ (zle_s _ (zle_s _ (zle_s _ zle_nil))))))))) ?_
  exact zW_cl rfl rfl rfl rfl rfl H
set_option maxRecDepth 20000 in
theorem b193_9 {K : zKt} {code rf rs pr pn : Int32} {bad : Bool} {J : zJt} {m pa pb pc vf vs : Nat → Int32} {B : zBt} {w : Nat → Int64} {p : Nat × Nat} {Q : zR → zH → Prop} {x1 x3 : Nat} (H : zT zm_159 [.int (Int32.ofNat x1), .int (Int32.ofNat x3), .ref 78] p (zh K (code, rf, rs, bad, pr, pn, J) (m, pa, pb, pc, vf, vs, B) w) (zK zm_193 18 [some (.ref 75), some (.int (Int32.ofNat x1)), none, none, none, none, none, none, none] [] p Q)) : zW zm_193 9 [some (.ref 75), some (.int (Int32.ofNat x1)), none, some (.int (Int32.ofNat x3)), none, none, none, none, none] [] p (zh K (code, rf, rs, bad, pr, pn, J) (m, pa, pb, pc, vf, vs, B) w) Q := by
  refine zW_gh 15 [some (.ref 75), some (.int (Int32.ofNat x1)), none, some (.int (Int32.ofNat x3)), none, none, none, none, none] [.ref 78, .int (Int32.ofNat x3), .int (Int32.ofNat x1)] 4 (fun f => rfl) ?_
  refine zW_fg (L' := [some (.ref 75), some (.int (Int32.ofNat x1)), none, none, none, none, none, none, none]) (zle_s _ (zle_s _ (zle_s _ (zle_n _ (zle_s _ (zle_s _ (zle_s _ (zle_s _ (zle_s _ zle_nil))))))))) ?_
  exact zW_cl rfl rfl rfl rfl rfl H
set_option maxRecDepth 20000 in
theorem b193_18 {K : zKt} {code rf rs pr pn : Int32} {bad : Bool} {J : zJt} {m pa pb pc vf vs : Nat → Int32} {B : zBt} {w : Nat → Int64} {p : Nat × Nat} {Q : zR → zH → Prop} {x1 : Nat} (H : zW zm_193 21 [some (.ref 75), some (.int (Int32.ofNat x1)), none, none, some (.int (Int32.ofNat 0)), none, none, none, none] [] p (zh K (code, rf, rs, bad, pr, pn, J) (m, pa, pb, pc, vf, vs, B) w) Q) : zW zm_193 18 [some (.ref 75), some (.int (Int32.ofNat x1)), none, none, none, none, none, none, none] [] p (zh K (code, rf, rs, bad, pr, pn, J) (m, pa, pb, pc, vf, vs, B) w) Q := by
  refine zW_gh 21 [some (.ref 75), some (.int (Int32.ofNat x1)), none, none, some (.int (0 : Int32)), none, none, none, none] [] 2 (fun f => rfl) ?_
  exact H
set_option maxRecDepth 20000 in
theorem b193_21 {K : zKt} {code rf rs pr pn : Int32} {bad : Bool} {J : zJt} {m pa pb pc vf vs : Nat → Int32} {B : zBt} {w : Nat → Int64} {p : Nat × Nat} {Q : zR → zH → Prop} {x1 x4 : Nat} (H : (x4 < 2147483648 ∧ ((16 ≤ x4 → zT zm_161 [.ref 78, .int (7 : Int32)] p (zh K (code, rf, rs, bad, pr, pn, J) (m, pa, pb, pc, vf, vs, B) w) (zK zm_193 51 [some (.ref 75), some (.int (Int32.ofNat x1)), none, none, none, none, none, none, none] [] p Q)) ∧ (x4 < 16 → (x4 < 16 ∧ zW zm_193 21 [some (.ref 75), some (.int (Int32.ofNat x1)), none, none, some (.int (Int32.ofNat (x4 + 1))), none, none, none, none] [] p (zh K (code, rf, rs, bad, pr, pn, J) (m, pa, pb, (va_up pc x4 (0 : Int32)), vf, vs, B) w) Q))))) : zW zm_193 21 [some (.ref 75), some (.int (Int32.ofNat x1)), none, none, some (.int (Int32.ofNat x4)), none, none, none, none] [] p (zh K (code, rf, rs, bad, pr, pn, J) (m, pa, pb, pc, vf, vs, B) w) Q := by
  obtain ⟨h1, H⟩ := H
  refine zW_bh (zcmp .ge (Int32.ofNat x4) (16 : Int32)) 42 28 [some (.ref 75), some (.int (Int32.ofNat x1)), none, none, some (.int (Int32.ofNat x4)), none, none, none, none] [] 3 (fun f => rfl) (fun c => ?_) (fun c => ?_)
  · have c9 : 16 ≤ x4 := (of_decide_eq_true ((zcN_ge (a := x4) (b := 16) rfl rfl h1 (by decide)).symm.trans c))
    replace H := H.1 c9
    refine zW_gh 48 [some (.ref 75), some (.int (Int32.ofNat x1)), none, none, some (.int (Int32.ofNat x4)), none, none, none, none] [.int (7 : Int32), .ref 78] 3 (fun f => rfl) ?_
    refine zW_fg (L' := [some (.ref 75), some (.int (Int32.ofNat x1)), none, none, none, none, none, none, none]) (zle_s _ (zle_s _ (zle_s _ (zle_s _ (zle_n _ (zle_s _ (zle_s _ (zle_s _ (zle_s _ zle_nil))))))))) ?_
    exact zW_cl rfl rfl rfl rfl rfl H
  · have c9 : x4 < 16 := (Nat.lt_of_not_le (of_decide_eq_false ((zcN_ge (a := x4) (b := 16) rfl rfl h1 (by decide)).symm.trans c)))
    replace H := H.2 c9
    refine zW_gh 35 [some (.ref 75), some (.int (Int32.ofNat x1)), none, none, some (.int (Int32.ofNat x4)), none, none, none, none] [.int (0 : Int32), .int (Int32.ofNat x4), .ref 79] 4 (fun f => rfl) ?_
    obtain ⟨h2, H⟩ := H
    refine zW_iast rfl (by decide) rfl (by decide) zu_79 rfl h2 ?_
    refine zW_inc [some (.ref 75), some (.int (Int32.ofNat x1)), none, none, some (.int ((Int32.ofNat x4) + (1 : Int32))), none, none, none, none] rfl rfl rfl ?_
    rw [show ((Int32.ofNat x4) + (1 : Int32)) = Int32.ofNat (x4 + 1) from (zN_a rfl rfl)]
    refine zW_gh 21 [some (.ref 75), some (.int (Int32.ofNat x1)), none, none, some (.int (Int32.ofNat (x4 + 1))), none, none, none, none] [] 1 (fun f => rfl) ?_
    exact H
set_option maxRecDepth 20000 in
theorem b193_51 {K : zKt} {code rf rs pr pn : Int32} {bad : Bool} {J : zJt} {m pa pb pc vf vs : Nat → Int32} {B : zBt} {w : Nat → Int64} {p : Nat × Nat} {Q : zR → zH → Prop} {x1 : Nat} {rv : Int32} (H : (∃ j1, rv = Int32.ofNat j1 ∧ (j1 < 8 ∧ zT zm_194 [.int (pb j1), .int (Int32.ofNat x1)] p (zh K (code, rf, rs, bad, pr, pn, J) (m, pa, pb, pc, vf, vs, B) w) (zK zm_193 64 [some (.ref 75), some (.int (Int32.ofNat x1)), none, none, some (.int rv), none, none, none, none] [] p Q)))) : zW zm_193 51 [some (.ref 75), some (.int (Int32.ofNat x1)), none, none, none, none, none, none, none] [.int rv] p (zh K (code, rf, rs, bad, pr, pn, J) (m, pa, pb, pc, vf, vs, B) w) Q := by
  refine zW_gh 59 [some (.ref 75), some (.int (Int32.ofNat x1)), none, none, some (.int rv), none, none, none, none] [.int rv, .ref 78] 4 (fun f => rfl) ?_
  obtain ⟨j1, e_j1, H⟩ := H
  obtain ⟨h2, H⟩ := H
  refine zW_iald rfl (by decide) rfl (by decide) e_j1 h2 ?_
  refine zW_gh 61 [some (.ref 75), some (.int (Int32.ofNat x1)), none, none, some (.int rv), none, none, none, none] [.int (Int32.ofNat x1), .int (pb j1)] 1 (fun f => rfl) ?_
  exact zW_cl rfl rfl rfl rfl rfl H
set_option maxRecDepth 20000 in
theorem b193_64 {K : zKt} {code rf rs pr pn : Int32} {bad : Bool} {J : zJt} {m pa pb pc vf vs : Nat → Int32} {B : zBt} {w : Nat → Int64} {p : Nat × Nat} {Q : zR → zH → Prop} {x1 : Nat} {x4 rv : Int32} (H : zW zm_193 73 [some (.ref 75), some (.int (Int32.ofNat x1)), none, none, some (.int x4), some (.int rv), some (.int ((7 : Int32) - x4)), none, none] [] p (zh K (code, rf, rs, bad, pr, pn, J) (m, pa, pb, pc, vf, vs, B) w) Q) : zW zm_193 64 [some (.ref 75), some (.int (Int32.ofNat x1)), none, none, some (.int x4), none, none, none, none] [.int rv] p (zh K (code, rf, rs, bad, pr, pn, J) (m, pa, pb, pc, vf, vs, B) w) Q := by
  refine zW_gh 73 [some (.ref 75), some (.int (Int32.ofNat x1)), none, none, some (.int x4), some (.int rv), some (.int ((7 : Int32) - x4)), none, none] [] 5 (fun f => rfl) ?_
  exact H
set_option maxRecDepth 20000 in
theorem b193_73 {K : zKt} {code rf rs pr pn : Int32} {bad : Bool} {J : zJt} {m pa pb pc vf vs : Nat → Int32} {B : zBt} {w : Nat → Int64} {p : Nat × Nat} {Q : zR → zH → Prop} {x1 : Nat} {x4 x5 x6 : Int32} (H : ((x6 < (0 : Int32) → zT zm_160 [.ref 75, .int (Int32.ofNat x1)] p (zh K (code, rf, rs, bad, pr, pn, J) (m, pa, pb, pc, vf, vs, B) w) (zK zm_193 166 [none, none, none, none, none, none, none, none, none] [] p Q)) ∧ (¬ x6 < (0 : Int32) → ∀ k_x6, k_x6 < 2147483648 → x6 = Int32.ofNat k_x6 → (∃ j1, ((Int32.ofNat k_x6) + x4) = Int32.ofNat j1 ∧ (j1 < 8 ∧ ((Int32.ofNat x1) ≠ 0 ∧ (k_x6 < 16 ∧ zW zm_193 107 [some (.ref 75), some (.int (Int32.ofNat x1)), none, none, some (.int x4), some (.int x5), some (.int (Int32.ofNat k_x6)), some (.int (((pa j1) * x5) - ((pa j1) * x5) / (Int32.ofNat x1) * (Int32.ofNat x1))), some (.int (Int32.ofNat 0))] [] p (zh K (code, rf, rs, bad, pr, pn, J) (m, pa, pb, (va_up pc k_x6 (((pa j1) * x5) - ((pa j1) * x5) / (Int32.ofNat x1) * (Int32.ofNat x1))), vf, vs, B) w) Q))))))) : zW zm_193 73 [some (.ref 75), some (.int (Int32.ofNat x1)), none, none, some (.int x4), some (.int x5), some (.int x6), none, none] [] p (zh K (code, rf, rs, bad, pr, pn, J) (m, pa, pb, pc, vf, vs, B) w) Q := by
  refine zW_bh (zcmp .lt x6 (0 : Int32)) 161 78 [some (.ref 75), some (.int (Int32.ofNat x1)), none, none, some (.int x4), some (.int x5), some (.int x6), none, none] [] 2 (fun f => rfl) (fun c => ?_) (fun c => ?_)
  · have c9 : x6 < (0 : Int32) := (of_decide_eq_true c)
    replace H := H.1 c9
    refine zW_gh 163 [some (.ref 75), some (.int (Int32.ofNat x1)), none, none, some (.int x4), some (.int x5), some (.int x6), none, none] [.int (Int32.ofNat x1), .ref 75] 2 (fun f => rfl) ?_
    refine zW_fg (L' := [none, none, none, none, none, none, none, none, none]) (zle_n _ (zle_n _ (zle_s _ (zle_s _ (zle_n _ (zle_n _ (zle_n _ (zle_s _ (zle_s _ zle_nil))))))))) ?_
    exact zW_cl rfl rfl rfl rfl rfl H
  · have c9 : ¬ x6 < (0 : Int32) := (of_decide_eq_false c)
    replace H := H.2 c9
    obtain ⟨k_x6, h_k_x6, e_k_x6⟩ := zNn c9
    replace H := H k_x6 h_k_x6 e_k_x6
    subst e_k_x6
    refine zW_gh 87 [some (.ref 75), some (.int (Int32.ofNat x1)), none, none, some (.int x4), some (.int x5), some (.int (Int32.ofNat k_x6)), none, none] [.int ((Int32.ofNat k_x6) + x4), .ref 77] 5 (fun f => rfl) ?_
    obtain ⟨j1, e_j1, H⟩ := H
    obtain ⟨h2, H⟩ := H
    refine zW_iald rfl (by decide) rfl (by decide) e_j1 h2 ?_
    refine zW_gh 92 [some (.ref 75), some (.int (Int32.ofNat x1)), none, none, some (.int x4), some (.int x5), some (.int (Int32.ofNat k_x6)), none, none] [.int (Int32.ofNat x1), .int ((pa j1) * x5)] 3 (fun f => rfl) ?_
    obtain ⟨h3, H⟩ := H
    refine zW_irem rfl h3 ?_
    refine zW_gh 103 [some (.ref 75), some (.int (Int32.ofNat x1)), none, none, some (.int x4), some (.int x5), some (.int (Int32.ofNat k_x6)), some (.int (((pa j1) * x5) - ((pa j1) * x5) / (Int32.ofNat x1) * (Int32.ofNat x1))), none] [.int (((pa j1) * x5) - ((pa j1) * x5) / (Int32.ofNat x1) * (Int32.ofNat x1)), .int (Int32.ofNat k_x6), .ref 79] 5 (fun f => rfl) ?_
    obtain ⟨h4, H⟩ := H
    refine zW_iast rfl (by decide) rfl (by decide) zu_79 rfl h4 ?_
    refine zW_gh 107 [some (.ref 75), some (.int (Int32.ofNat x1)), none, none, some (.int x4), some (.int x5), some (.int (Int32.ofNat k_x6)), some (.int (((pa j1) * x5) - ((pa j1) * x5) / (Int32.ofNat x1) * (Int32.ofNat x1))), some (.int (0 : Int32))] [] 2 (fun f => rfl) ?_
    exact H
set_option maxRecDepth 20000 in
theorem b193_166 {K : zKt} {code rf rs pr pn : Int32} {bad : Bool} {J : zJt} {m pa pb pc vf vs : Nat → Int32} {B : zBt} {w : Nat → Int64} {p : Nat × Nat} {Q : zR → zH → Prop} (H : Q (.inl none) (zh K (code, rf, rs, bad, pr, pn, J) (m, pa, pb, pc, vf, vs, B) w)) : zW zm_193 166 [none, none, none, none, none, none, none, none, none] [] p (zh K (code, rf, rs, bad, pr, pn, J) (m, pa, pb, pc, vf, vs, B) w) Q := by
  exact zW_rh none 1 (fun f => rfl) H
set_option maxRecDepth 20000 in
theorem b193_107 {K : zKt} {code rf rs pr pn : Int32} {bad : Bool} {J : zJt} {m pa pb pc vf vs : Nat → Int32} {B : zBt} {w : Nat → Int64} {p : Nat × Nat} {Q : zR → zH → Prop} {x1 x6 x8 : Nat} {x4 x5 x7 : Int32} (H : ((x4 < (Int32.ofNat x8) → zW zm_193 73 [some (.ref 75), some (.int (Int32.ofNat x1)), none, none, some (.int x4), some (.int x5), some (.int ((Int32.ofNat x6) + Int32.ofInt (-1))), none, none] [] p (zh K (code, rf, rs, bad, pr, pn, J) (m, pa, pb, pc, vf, vs, B) w) Q) ∧ (¬ x4 < (Int32.ofNat x8) → ((x6 + x8) < 8 ∧ (x8 < 8 ∧ ((Int32.ofNat x1) ≠ 0 ∧ zW zm_193 107 [some (.ref 75), some (.int (Int32.ofNat x1)), none, none, some (.int x4), some (.int x5), some (.int (Int32.ofNat x6)), some (.int x7), some (.int (Int32.ofNat (x8 + 1)))] [] p (zh K (code, rf, rs, bad, pr, pn, J) (m, (va_up pa (x6 + x8) (((pa (x6 + x8)) + (((Int32.ofNat x1) - x7) * (pb x8))) - ((pa (x6 + x8)) + (((Int32.ofNat x1) - x7) * (pb x8))) / (Int32.ofNat x1) * (Int32.ofNat x1))), pb, pc, vf, vs, B) w) Q)))))) : zW zm_193 107 [some (.ref 75), some (.int (Int32.ofNat x1)), none, none, some (.int x4), some (.int x5), some (.int (Int32.ofNat x6)), some (.int x7), some (.int (Int32.ofNat x8))] [] p (zh K (code, rf, rs, bad, pr, pn, J) (m, pa, pb, pc, vf, vs, B) w) Q := by
  refine zW_bh (zcmp .gt (Int32.ofNat x8) x4) 155 114 [some (.ref 75), some (.int (Int32.ofNat x1)), none, none, some (.int x4), some (.int x5), some (.int (Int32.ofNat x6)), some (.int x7), some (.int (Int32.ofNat x8))] [] 3 (fun f => rfl) (fun c => ?_) (fun c => ?_)
  · have c9 : x4 < (Int32.ofNat x8) := (of_decide_eq_true c)
    replace H := H.1 c9
    refine zW_inc [some (.ref 75), some (.int (Int32.ofNat x1)), none, none, some (.int x4), some (.int x5), some (.int ((Int32.ofNat x6) + Int32.ofInt (-1))), some (.int x7), some (.int (Int32.ofNat x8))] rfl rfl rfl ?_
    refine zW_gh 73 [some (.ref 75), some (.int (Int32.ofNat x1)), none, none, some (.int x4), some (.int x5), some (.int ((Int32.ofNat x6) + Int32.ofInt (-1))), some (.int x7), some (.int (Int32.ofNat x8))] [] 1 (fun f => rfl) ?_
    refine zW_fg (L' := [some (.ref 75), some (.int (Int32.ofNat x1)), none, none, some (.int x4), some (.int x5), some (.int ((Int32.ofNat x6) + Int32.ofInt (-1))), none, none]) (zle_s _ (zle_s _ (zle_s _ (zle_s _ (zle_s _ (zle_s _ (zle_s _ (zle_n _ (zle_n _ zle_nil))))))))) ?_
    exact H
  · have c9 : ¬ x4 < (Int32.ofNat x8) := (of_decide_eq_false c)
    replace H := H.2 c9
    refine zW_gh 131 [some (.ref 75), some (.int (Int32.ofNat x1)), none, none, some (.int x4), some (.int x5), some (.int (Int32.ofNat x6)), some (.int x7), some (.int (Int32.ofNat x8))] [.int (Int32.ofNat x8), .int (Int32.ofNat x6), .ref 77, .int ((Int32.ofNat x6) + (Int32.ofNat x8)), .ref 77] 9 (fun f => rfl) ?_
    refine zW_gh 132 [some (.ref 75), some (.int (Int32.ofNat x1)), none, none, some (.int x4), some (.int x5), some (.int (Int32.ofNat x6)), some (.int x7), some (.int (Int32.ofNat x8))] [.int ((Int32.ofNat x6) + (Int32.ofNat x8)), .ref 77, .int ((Int32.ofNat x6) + (Int32.ofNat x8)), .ref 77] 1 (fun f => rfl) ?_
    obtain ⟨h1, H⟩ := H
    refine zW_iald rfl (by decide) rfl (by decide) (zN_a rfl rfl) h1 ?_
    refine zW_gh 143 [some (.ref 75), some (.int (Int32.ofNat x1)), none, none, some (.int x4), some (.int x5), some (.int (Int32.ofNat x6)), some (.int x7), some (.int (Int32.ofNat x8))] [.int (Int32.ofNat x8), .ref 78, .int ((Int32.ofNat x1) - x7), .int (pa (x6 + x8)), .int ((Int32.ofNat x6) + (Int32.ofNat x8)), .ref 77] 6 (fun f => rfl) ?_
    obtain ⟨h2, H⟩ := H
    refine zW_iald rfl (by decide) rfl (by decide) rfl h2 ?_
    refine zW_gh 147 [some (.ref 75), some (.int (Int32.ofNat x1)), none, none, some (.int x4), some (.int x5), some (.int (Int32.ofNat x6)), some (.int x7), some (.int (Int32.ofNat x8))] [.int (Int32.ofNat x1), .int ((pa (x6 + x8)) + (((Int32.ofNat x1) - x7) * (pb x8))), .int ((Int32.ofNat x6) + (Int32.ofNat x8)), .ref 77] 3 (fun f => rfl) ?_
    obtain ⟨h3, H⟩ := H
    refine zW_irem rfl h3 ?_
    refine zW_iast rfl (by decide) rfl (by decide) zu_77 (zN_a rfl rfl) h1 ?_
    refine zW_inc [some (.ref 75), some (.int (Int32.ofNat x1)), none, none, some (.int x4), some (.int x5), some (.int (Int32.ofNat x6)), some (.int x7), some (.int ((Int32.ofNat x8) + (1 : Int32)))] rfl rfl rfl ?_
    rw [show ((Int32.ofNat x8) + (1 : Int32)) = Int32.ofNat (x8 + 1) from (zN_a rfl rfl)]
    refine zW_gh 107 [some (.ref 75), some (.int (Int32.ofNat x1)), none, none, some (.int x4), some (.int x5), some (.int (Int32.ofNat x6)), some (.int x7), some (.int (Int32.ofNat (x8 + 1)))] [] 1 (fun f => rfl) ?_
    exact H
set_option maxRecDepth 20000 in
theorem b191 {K : zKt} {code rf rs pr pn : Int32} {bad : Bool} {J : zJt} {m pa pb pc vf vs : Nat → Int32} {B : zBt} {w : Nat → Int64} {p : Nat × Nat} {Q : zR → zH → Prop} {a0 : Nat} {a1 a2 a3 a4 : Int32} (H : (a0 < 2147483648 ∧ ((¬ a0 = 0 → ((¬ a0 = 1 → zT zm_193 [.ref 75, .int (Int32.ofNat a0), .int a1, .int a3] p (zh K (code, rf, rs, bad, pr, pn, J) (m, pa, pb, pc, vf, vs, B) w) (zK zm_191 162 [none, none, none, none, none, none, none, none, none, none, none, none] [] p Q)) ∧ (a0 = 1 → (((2 : Int64) * ((((a3).toInt64) * ((a3).toInt64)) + (((a4).toInt64) * ((a4).toInt64)))) ≠ 0 ∧ (((2 : Int64) * ((((a3).toInt64) * ((a3).toInt64)) + (((a4).toInt64) * ((a4).toInt64)))) ≠ 0 ∧ Q (.inl none) (zh K (code, (bif (zbad bad (zflr (((2 : Int64) * ((((a1).toInt64) * ((a3).toInt64)) + (((a2).toInt64) * ((a4).toInt64)))) + ((((a3).toInt64) * ((a3).toInt64)) + (((a4).toInt64) * ((a4).toInt64)))) ((2 : Int64) * ((((a3).toInt64) * ((a3).toInt64)) + (((a4).toInt64) * ((a4).toInt64))))) (zflr (((2 : Int64) * ((((a2).toInt64) * ((a3).toInt64)) - (((a1).toInt64) * ((a4).toInt64)))) + ((((a3).toInt64) * ((a3).toInt64)) + (((a4).toInt64) * ((a4).toInt64)))) ((2 : Int64) * ((((a3).toInt64) * ((a3).toInt64)) + (((a4).toInt64) * ((a4).toInt64))))) (60000 : Int64)) then 0 else (zflr (((2 : Int64) * ((((a1).toInt64) * ((a3).toInt64)) + (((a2).toInt64) * ((a4).toInt64)))) + ((((a3).toInt64) * ((a3).toInt64)) + (((a4).toInt64) * ((a4).toInt64)))) ((2 : Int64) * ((((a3).toInt64) * ((a3).toInt64)) + (((a4).toInt64) * ((a4).toInt64))))).toInt32), (bif (zbad bad (zflr (((2 : Int64) * ((((a1).toInt64) * ((a3).toInt64)) + (((a2).toInt64) * ((a4).toInt64)))) + ((((a3).toInt64) * ((a3).toInt64)) + (((a4).toInt64) * ((a4).toInt64)))) ((2 : Int64) * ((((a3).toInt64) * ((a3).toInt64)) + (((a4).toInt64) * ((a4).toInt64))))) (zflr (((2 : Int64) * ((((a2).toInt64) * ((a3).toInt64)) - (((a1).toInt64) * ((a4).toInt64)))) + ((((a3).toInt64) * ((a3).toInt64)) + (((a4).toInt64) * ((a4).toInt64)))) ((2 : Int64) * ((((a3).toInt64) * ((a3).toInt64)) + (((a4).toInt64) * ((a4).toInt64))))) (60000 : Int64)) then 0 else (zflr (((2 : Int64) * ((((a2).toInt64) * ((a3).toInt64)) - (((a1).toInt64) * ((a4).toInt64)))) + ((((a3).toInt64) * ((a3).toInt64)) + (((a4).toInt64) * ((a4).toInt64)))) ((2 : Int64) * ((((a3).toInt64) * ((a3).toInt64)) + (((a4).toInt64) * ((a4).toInt64))))).toInt32), (zbad bad (zflr (((2 : Int64) * ((((a1).toInt64) * ((a3).toInt64)) + (((a2).toInt64) * ((a4).toInt64)))) + ((((a3).toInt64) * ((a3).toInt64)) + (((a4).toInt64) * ((a4).toInt64)))) ((2 : Int64) * ((((a3).toInt64) * ((a3).toInt64)) + (((a4).toInt64) * ((a4).toInt64))))) (zflr (((2 : Int64) * ((((a2).toInt64) * ((a3).toInt64)) - (((a1).toInt64) * ((a4).toInt64)))) + ((((a3).toInt64) * ((a3).toInt64)) + (((a4).toInt64) * ((a4).toInt64)))) ((2 : Int64) * ((((a3).toInt64) * ((a3).toInt64)) + (((a4).toInt64) * ((a4).toInt64))))) (60000 : Int64)), pr, pn, J) (m, pa, pb, pc, vf, vs, B) w)))))) ∧ (a0 = 0 → (((0 : Int32) ≤ a3 → ∀ k_a3, k_a3 < 2147483648 → a3 = Int32.ofNat k_a3 → ((((Int32.ofNat k_a3)).toInt64) ≠ 0 ∧ ((((Int32.ofNat k_a3)).toInt64) ≠ 0 ∧ Q (.inl none) (zh K (code, (bif (zbad bad ((((a1).toInt64) - (((a1).toInt64) - ((((Int32.ofNat k_a3)).toInt64) * (zflr ((a1).toInt64) (((Int32.ofNat k_a3)).toInt64))))) / (((Int32.ofNat k_a3)).toInt64)) (0 : Int64) (2000000000 : Int64)) then 0 else ((((a1).toInt64) - (((a1).toInt64) - ((((Int32.ofNat k_a3)).toInt64) * (zflr ((a1).toInt64) (((Int32.ofNat k_a3)).toInt64))))) / (((Int32.ofNat k_a3)).toInt64)).toInt32), (bif (zbad bad ((((a1).toInt64) - (((a1).toInt64) - ((((Int32.ofNat k_a3)).toInt64) * (zflr ((a1).toInt64) (((Int32.ofNat k_a3)).toInt64))))) / (((Int32.ofNat k_a3)).toInt64)) (0 : Int64) (2000000000 : Int64)) then 0 else (0 : Int64).toInt32), (zbad bad ((((a1).toInt64) - (((a1).toInt64) - ((((Int32.ofNat k_a3)).toInt64) * (zflr ((a1).toInt64) (((Int32.ofNat k_a3)).toInt64))))) / (((Int32.ofNat k_a3)).toInt64)) (0 : Int64) (2000000000 : Int64)), pr, pn, J) (m, pa, pb, pc, vf, vs, B) w)))) ∧ (¬ (0 : Int32) ≤ a3 → ((-((a3).toInt64)) ≠ 0 ∧ (((a3).toInt64) ≠ 0 ∧ Q (.inl none) (zh K (code, (bif (zbad bad ((((a1).toInt64) - (((a1).toInt64) - ((-((a3).toInt64)) * (zflr ((a1).toInt64) (-((a3).toInt64)))))) / ((a3).toInt64)) (0 : Int64) (2000000000 : Int64)) then 0 else ((((a1).toInt64) - (((a1).toInt64) - ((-((a3).toInt64)) * (zflr ((a1).toInt64) (-((a3).toInt64)))))) / ((a3).toInt64)).toInt32), (bif (zbad bad ((((a1).toInt64) - (((a1).toInt64) - ((-((a3).toInt64)) * (zflr ((a1).toInt64) (-((a3).toInt64)))))) / ((a3).toInt64)) (0 : Int64) (2000000000 : Int64)) then 0 else (0 : Int64).toInt32), (zbad bad ((((a1).toInt64) - (((a1).toInt64) - ((-((a3).toInt64)) * (zflr ((a1).toInt64) (-((a3).toInt64)))))) / ((a3).toInt64)) (0 : Int64) (2000000000 : Int64)), pr, pn, J) (m, pa, pb, pc, vf, vs, B) w))))))))) : zT zm_191 [.ref 75, .int (Int32.ofNat a0), .int a1, .int a2, .int a3, .int a4] p (zh K (code, rf, rs, bad, pr, pn, J) (m, pa, pb, pc, vf, vs, B) w) Q := by
  change zW zm_191 0 [some (.ref 75), some (.int (Int32.ofNat a0)), some (.int a1), some (.int a2), some (.int a3), some (.int a4), none, none, none, none, none, none] [] p _ Q
  obtain ⟨h1, H⟩ := H
  refine zW_bh (zcmp .ne (Int32.ofNat a0) (0 : Int32)) 56 4 [some (.ref 75), some (.int (Int32.ofNat a0)), some (.int a1), some (.int a2), some (.int a3), some (.int a4), none, none, none, none, none, none] [] 2 (fun f => rfl) (fun c => ?_) (fun c => ?_)
  · have c9 : ¬ a0 = 0 := (by have c := (zcN_ne (a := a0) (b := 0) rfl rfl h1 (by decide)).symm.trans c; simpa using c)
    replace H := H.1 c9
    refine zW_bh (zcmp .ne (Int32.ofNat a0) (1 : Int32)) 154 61 [some (.ref 75), some (.int (Int32.ofNat a0)), some (.int a1), some (.int a2), some (.int a3), some (.int a4), none, none, none, none, none, none] [] 3 (fun f => rfl) (fun c => ?_) (fun c => ?_)
    · have c9 : ¬ a0 = 1 := (by have c := (zcN_ne (a := a0) (b := 1) rfl rfl h1 (by decide)).symm.trans c; simpa using c)
      replace H := H.1 c9
      refine zW_gh 159 [some (.ref 75), some (.int (Int32.ofNat a0)), some (.int a1), some (.int a2), some (.int a3), some (.int a4), none, none, none, none, none, none] [.int a3, .int a1, .int (Int32.ofNat a0), .ref 75] 4 (fun f => rfl) ?_
      refine zW_fg (L' := [none, none, none, none, none, none, none, none, none, none, none, none]) (zle_n _ (zle_n _ (zle_n _ (zle_n _ (zle_n _ (zle_n _ (zle_s _ (zle_s _ (zle_s _ (zle_s _ (zle_s _ (zle_s _ zle_nil)))))))))))) ?_
      exact zW_cl rfl rfl rfl rfl rfl H
    · have c9 : a0 = 1 := (by have c := (zcN_ne (a := a0) (b := 1) rfl rfl h1 (by decide)).symm.trans c; simpa using c)
      replace H := H.2 c9
      refine zW_gh 72 [some (.ref 75), some (.int (Int32.ofNat a0)), some (.int a1), some (.int a2), some (.int a3), some (.int a4), none, none, none, none, none, none] [.long ((a4).toInt64), .long ((a2).toInt64), .long (((a1).toInt64) * ((a3).toInt64))] 9 (fun f => rfl) ?_
      refine zW_gh 83 [some (.ref 75), some (.int (Int32.ofNat a0)), some (.int a1), some (.int a2), some (.int a3), some (.int a4), some (.long ((((a1).toInt64) * ((a3).toInt64)) + (((a2).toInt64) * ((a4).toInt64)))), none, none, none, none, none] [.int a1, .long (((a2).toInt64) * ((a3).toInt64))] 9 (fun f => rfl) ?_
      refine zW_gh 96 [some (.ref 75), some (.int (Int32.ofNat a0)), some (.int a1), some (.int a2), some (.int a3), some (.int a4), some (.long ((((a1).toInt64) * ((a3).toInt64)) + (((a2).toInt64) * ((a4).toInt64)))), none, some (.long ((((a2).toInt64) * ((a3).toInt64)) - (((a1).toInt64) * ((a4).toInt64)))), none, none, none] [.int a3, .long ((a3).toInt64)] 9 (fun f => rfl) ?_
      refine zW_gh 108 [some (.ref 75), some (.int (Int32.ofNat a0)), some (.int a1), some (.int a2), some (.int a3), some (.int a4), some (.long ((((a1).toInt64) * ((a3).toInt64)) + (((a2).toInt64) * ((a4).toInt64)))), none, some (.long ((((a2).toInt64) * ((a3).toInt64)) - (((a1).toInt64) * ((a4).toInt64)))), none, some (.long ((((a3).toInt64) * ((a3).toInt64)) + (((a4).toInt64) * ((a4).toInt64)))), none] [] 9 (fun f => rfl) ?_
      refine zW_gh 124 [some (.ref 75), some (.int (Int32.ofNat a0)), some (.int a1), some (.int a2), some (.int a3), some (.int a4), some (.long ((((a1).toInt64) * ((a3).toInt64)) + (((a2).toInt64) * ((a4).toInt64)))), none, some (.long ((((a2).toInt64) * ((a3).toInt64)) - (((a1).toInt64) * ((a4).toInt64)))), none, some (.long ((((a3).toInt64) * ((a3).toInt64)) + (((a4).toInt64) * ((a4).toInt64)))), none] [.long ((2 : Int64) * ((((a3).toInt64) * ((a3).toInt64)) + (((a4).toInt64) * ((a4).toInt64)))), .long (((2 : Int64) * ((((a1).toInt64) * ((a3).toInt64)) + (((a2).toInt64) * ((a4).toInt64)))) + ((((a3).toInt64) * ((a3).toInt64)) + (((a4).toInt64) * ((a4).toInt64)))), .ref 75] 9 (fun f => rfl) ?_
      obtain ⟨h2, H⟩ := H
      refine zW_cl rfl rfl rfl rfl rfl (s192 h2 ?_)
      change zW zm_191 127 [some (.ref 75), some (.int (Int32.ofNat a0)), some (.int a1), some (.int a2), some (.int a3), some (.int a4), some (.long ((((a1).toInt64) * ((a3).toInt64)) + (((a2).toInt64) * ((a4).toInt64)))), none, some (.long ((((a2).toInt64) * ((a3).toInt64)) - (((a1).toInt64) * ((a4).toInt64)))), none, some (.long ((((a3).toInt64) * ((a3).toInt64)) + (((a4).toInt64) * ((a4).toInt64)))), none] [.long (zflr (((2 : Int64) * ((((a1).toInt64) * ((a3).toInt64)) + (((a2).toInt64) * ((a4).toInt64)))) + ((((a3).toInt64) * ((a3).toInt64)) + (((a4).toInt64) * ((a4).toInt64)))) ((2 : Int64) * ((((a3).toInt64) * ((a3).toInt64)) + (((a4).toInt64) * ((a4).toInt64))))), .ref 75] p _ Q
      refine zW_gh 142 [some (.ref 75), some (.int (Int32.ofNat a0)), some (.int a1), some (.int a2), some (.int a3), some (.int a4), some (.long ((((a1).toInt64) * ((a3).toInt64)) + (((a2).toInt64) * ((a4).toInt64)))), none, some (.long ((((a2).toInt64) * ((a3).toInt64)) - (((a1).toInt64) * ((a4).toInt64)))), none, some (.long ((((a3).toInt64) * ((a3).toInt64)) + (((a4).toInt64) * ((a4).toInt64)))), none] [.long ((2 : Int64) * ((((a3).toInt64) * ((a3).toInt64)) + (((a4).toInt64) * ((a4).toInt64)))), .long (((2 : Int64) * ((((a2).toInt64) * ((a3).toInt64)) - (((a1).toInt64) * ((a4).toInt64)))) + ((((a3).toInt64) * ((a3).toInt64)) + (((a4).toInt64) * ((a4).toInt64)))), .long (zflr (((2 : Int64) * ((((a1).toInt64) * ((a3).toInt64)) + (((a2).toInt64) * ((a4).toInt64)))) + ((((a3).toInt64) * ((a3).toInt64)) + (((a4).toInt64) * ((a4).toInt64)))) ((2 : Int64) * ((((a3).toInt64) * ((a3).toInt64)) + (((a4).toInt64) * ((a4).toInt64))))), .ref 75] 8 (fun f => rfl) ?_
      obtain ⟨h3, H⟩ := H
      refine zW_cl rfl rfl rfl rfl rfl (s192 h3 ?_)
      change zW zm_191 145 [some (.ref 75), some (.int (Int32.ofNat a0)), some (.int a1), some (.int a2), some (.int a3), some (.int a4), some (.long ((((a1).toInt64) * ((a3).toInt64)) + (((a2).toInt64) * ((a4).toInt64)))), none, some (.long ((((a2).toInt64) * ((a3).toInt64)) - (((a1).toInt64) * ((a4).toInt64)))), none, some (.long ((((a3).toInt64) * ((a3).toInt64)) + (((a4).toInt64) * ((a4).toInt64)))), none] [.long (zflr (((2 : Int64) * ((((a2).toInt64) * ((a3).toInt64)) - (((a1).toInt64) * ((a4).toInt64)))) + ((((a3).toInt64) * ((a3).toInt64)) + (((a4).toInt64) * ((a4).toInt64)))) ((2 : Int64) * ((((a3).toInt64) * ((a3).toInt64)) + (((a4).toInt64) * ((a4).toInt64))))), .long (zflr (((2 : Int64) * ((((a1).toInt64) * ((a3).toInt64)) + (((a2).toInt64) * ((a4).toInt64)))) + ((((a3).toInt64) * ((a3).toInt64)) + (((a4).toInt64) * ((a4).toInt64)))) ((2 : Int64) * ((((a3).toInt64) * ((a3).toInt64)) + (((a4).toInt64) * ((a4).toInt64))))), .ref 75] p _ Q
      refine zW_gh 148 [some (.ref 75), some (.int (Int32.ofNat a0)), some (.int a1), some (.int a2), some (.int a3), some (.int a4), some (.long ((((a1).toInt64) * ((a3).toInt64)) + (((a2).toInt64) * ((a4).toInt64)))), none, some (.long ((((a2).toInt64) * ((a3).toInt64)) - (((a1).toInt64) * ((a4).toInt64)))), none, some (.long ((((a3).toInt64) * ((a3).toInt64)) + (((a4).toInt64) * ((a4).toInt64)))), none] [.long (60000 : Int64), .long (zflr (((2 : Int64) * ((((a2).toInt64) * ((a3).toInt64)) - (((a1).toInt64) * ((a4).toInt64)))) + ((((a3).toInt64) * ((a3).toInt64)) + (((a4).toInt64) * ((a4).toInt64)))) ((2 : Int64) * ((((a3).toInt64) * ((a3).toInt64)) + (((a4).toInt64) * ((a4).toInt64))))), .long (zflr (((2 : Int64) * ((((a1).toInt64) * ((a3).toInt64)) + (((a2).toInt64) * ((a4).toInt64)))) + ((((a3).toInt64) * ((a3).toInt64)) + (((a4).toInt64) * ((a4).toInt64)))) ((2 : Int64) * ((((a3).toInt64) * ((a3).toInt64)) + (((a4).toInt64) * ((a4).toInt64))))), .ref 75] 1 (fun f => rfl) ?_
      refine zW_cl rfl rfl rfl rfl rfl (s158 ?_)
      change zW zm_191 151 [some (.ref 75), some (.int (Int32.ofNat a0)), some (.int a1), some (.int a2), some (.int a3), some (.int a4), some (.long ((((a1).toInt64) * ((a3).toInt64)) + (((a2).toInt64) * ((a4).toInt64)))), none, some (.long ((((a2).toInt64) * ((a3).toInt64)) - (((a1).toInt64) * ((a4).toInt64)))), none, some (.long ((((a3).toInt64) * ((a3).toInt64)) + (((a4).toInt64) * ((a4).toInt64)))), none] [] p _ Q
      refine zW_gh 162 [some (.ref 75), some (.int (Int32.ofNat a0)), some (.int a1), some (.int a2), some (.int a3), some (.int a4), some (.long ((((a1).toInt64) * ((a3).toInt64)) + (((a2).toInt64) * ((a4).toInt64)))), none, some (.long ((((a2).toInt64) * ((a3).toInt64)) - (((a1).toInt64) * ((a4).toInt64)))), none, some (.long ((((a3).toInt64) * ((a3).toInt64)) + (((a4).toInt64) * ((a4).toInt64)))), none] [] 1 (fun f => rfl) ?_
      exact zW_rh none 1 (fun f => rfl) H
  · have c9 : a0 = 0 := (by have c := (zcN_ne (a := a0) (b := 0) rfl rfl h1 (by decide)).symm.trans c; simpa using c)
    replace H := H.2 c9
    refine zW_bh (zcmp .ge a3 (0 : Int32)) 16 9 [some (.ref 75), some (.int (Int32.ofNat a0)), some (.int a1), some (.int a2), some (.int a3), some (.int a4), none, none, none, none, none, none] [] 2 (fun f => rfl) (fun c => ?_) (fun c => ?_)
    · have c9 : (0 : Int32) ≤ a3 := (of_decide_eq_true c)
      replace H := H.1 c9
      obtain ⟨k_a3, h_k_a3, e_k_a3⟩ := zNn' c9
      replace H := H k_a3 h_k_a3 e_k_a3
      subst e_k_a3
      refine zW_gh 29 [some (.ref 75), some (.int (Int32.ofNat a0)), some (.int a1), some (.int a2), some (.int (Int32.ofNat k_a3)), some (.int a4), some (.long (((Int32.ofNat k_a3)).toInt64)), none, none, none, none, none] [.long (((Int32.ofNat k_a3)).toInt64), .long ((a1).toInt64), .long (((Int32.ofNat k_a3)).toInt64), .long ((a1).toInt64)] 9 (fun f => rfl) ?_
      obtain ⟨h4, H⟩ := H
      refine zW_cl rfl rfl rfl rfl rfl (s192 h4 ?_)
      change zW zm_191 32 [some (.ref 75), some (.int (Int32.ofNat a0)), some (.int a1), some (.int a2), some (.int (Int32.ofNat k_a3)), some (.int a4), some (.long (((Int32.ofNat k_a3)).toInt64)), none, none, none, none, none] [.long (zflr ((a1).toInt64) (((Int32.ofNat k_a3)).toInt64)), .long (((Int32.ofNat k_a3)).toInt64), .long ((a1).toInt64)] p _ Q
      refine zW_gh 44 [some (.ref 75), some (.int (Int32.ofNat a0)), some (.int a1), some (.int a2), some (.int (Int32.ofNat k_a3)), some (.int a4), some (.long (((Int32.ofNat k_a3)).toInt64)), none, some (.long (((a1).toInt64) - ((((Int32.ofNat k_a3)).toInt64) * (zflr ((a1).toInt64) (((Int32.ofNat k_a3)).toInt64))))), none, none, none] [.int (Int32.ofNat k_a3), .long (((a1).toInt64) - (((a1).toInt64) - ((((Int32.ofNat k_a3)).toInt64) * (zflr ((a1).toInt64) (((Int32.ofNat k_a3)).toInt64))))), .ref 75] 9 (fun f => rfl) ?_
      refine zW_gh 45 [some (.ref 75), some (.int (Int32.ofNat a0)), some (.int a1), some (.int a2), some (.int (Int32.ofNat k_a3)), some (.int a4), some (.long (((Int32.ofNat k_a3)).toInt64)), none, some (.long (((a1).toInt64) - ((((Int32.ofNat k_a3)).toInt64) * (zflr ((a1).toInt64) (((Int32.ofNat k_a3)).toInt64))))), none, none, none] [.long (((Int32.ofNat k_a3)).toInt64), .long (((a1).toInt64) - (((a1).toInt64) - ((((Int32.ofNat k_a3)).toInt64) * (zflr ((a1).toInt64) (((Int32.ofNat k_a3)).toInt64))))), .ref 75] 1 (fun f => rfl) ?_
      obtain ⟨h5, H⟩ := H
      refine zW_ldiv rfl h5 ?_
      refine zW_gh 50 [some (.ref 75), some (.int (Int32.ofNat a0)), some (.int a1), some (.int a2), some (.int (Int32.ofNat k_a3)), some (.int a4), some (.long (((Int32.ofNat k_a3)).toInt64)), none, some (.long (((a1).toInt64) - ((((Int32.ofNat k_a3)).toInt64) * (zflr ((a1).toInt64) (((Int32.ofNat k_a3)).toInt64))))), none, none, none] [.long (2000000000 : Int64), .long (0 : Int64), .long ((((a1).toInt64) - (((a1).toInt64) - ((((Int32.ofNat k_a3)).toInt64) * (zflr ((a1).toInt64) (((Int32.ofNat k_a3)).toInt64))))) / (((Int32.ofNat k_a3)).toInt64)), .ref 75] 2 (fun f => rfl) ?_
      refine zW_cl rfl rfl rfl rfl rfl (s158 ?_)
      change zW zm_191 53 [some (.ref 75), some (.int (Int32.ofNat a0)), some (.int a1), some (.int a2), some (.int (Int32.ofNat k_a3)), some (.int a4), some (.long (((Int32.ofNat k_a3)).toInt64)), none, some (.long (((a1).toInt64) - ((((Int32.ofNat k_a3)).toInt64) * (zflr ((a1).toInt64) (((Int32.ofNat k_a3)).toInt64))))), none, none, none] [] p _ Q
      refine zW_gh 162 [some (.ref 75), some (.int (Int32.ofNat a0)), some (.int a1), some (.int a2), some (.int (Int32.ofNat k_a3)), some (.int a4), some (.long (((Int32.ofNat k_a3)).toInt64)), none, some (.long (((a1).toInt64) - ((((Int32.ofNat k_a3)).toInt64) * (zflr ((a1).toInt64) (((Int32.ofNat k_a3)).toInt64))))), none, none, none] [] 1 (fun f => rfl) ?_
      exact zW_rh none 1 (fun f => rfl) H
    · have c9 : ¬ (0 : Int32) ≤ a3 := (of_decide_eq_false c)
      replace H := H.2 c9
      refine zW_gh 26 [some (.ref 75), some (.int (Int32.ofNat a0)), some (.int a1), some (.int a2), some (.int a3), some (.int a4), some (.long (-((a3).toInt64))), none, none, none, none, none] [.int a1, .long (-((a3).toInt64)), .long ((a1).toInt64)] 9 (fun f => rfl) ?_
      refine zW_gh 29 [some (.ref 75), some (.int (Int32.ofNat a0)), some (.int a1), some (.int a2), some (.int a3), some (.int a4), some (.long (-((a3).toInt64))), none, none, none, none, none] [.long (-((a3).toInt64)), .long ((a1).toInt64), .long (-((a3).toInt64)), .long ((a1).toInt64)] 2 (fun f => rfl) ?_
      obtain ⟨h6, H⟩ := H
      refine zW_cl rfl rfl rfl rfl rfl (s192 h6 ?_)
      change zW zm_191 32 [some (.ref 75), some (.int (Int32.ofNat a0)), some (.int a1), some (.int a2), some (.int a3), some (.int a4), some (.long (-((a3).toInt64))), none, none, none, none, none] [.long (zflr ((a1).toInt64) (-((a3).toInt64))), .long (-((a3).toInt64)), .long ((a1).toInt64)] p _ Q
      refine zW_gh 44 [some (.ref 75), some (.int (Int32.ofNat a0)), some (.int a1), some (.int a2), some (.int a3), some (.int a4), some (.long (-((a3).toInt64))), none, some (.long (((a1).toInt64) - ((-((a3).toInt64)) * (zflr ((a1).toInt64) (-((a3).toInt64)))))), none, none, none] [.int a3, .long (((a1).toInt64) - (((a1).toInt64) - ((-((a3).toInt64)) * (zflr ((a1).toInt64) (-((a3).toInt64)))))), .ref 75] 9 (fun f => rfl) ?_
      refine zW_gh 45 [some (.ref 75), some (.int (Int32.ofNat a0)), some (.int a1), some (.int a2), some (.int a3), some (.int a4), some (.long (-((a3).toInt64))), none, some (.long (((a1).toInt64) - ((-((a3).toInt64)) * (zflr ((a1).toInt64) (-((a3).toInt64)))))), none, none, none] [.long ((a3).toInt64), .long (((a1).toInt64) - (((a1).toInt64) - ((-((a3).toInt64)) * (zflr ((a1).toInt64) (-((a3).toInt64)))))), .ref 75] 1 (fun f => rfl) ?_
      obtain ⟨h7, H⟩ := H
      refine zW_ldiv rfl h7 ?_
      refine zW_gh 50 [some (.ref 75), some (.int (Int32.ofNat a0)), some (.int a1), some (.int a2), some (.int a3), some (.int a4), some (.long (-((a3).toInt64))), none, some (.long (((a1).toInt64) - ((-((a3).toInt64)) * (zflr ((a1).toInt64) (-((a3).toInt64)))))), none, none, none] [.long (2000000000 : Int64), .long (0 : Int64), .long ((((a1).toInt64) - (((a1).toInt64) - ((-((a3).toInt64)) * (zflr ((a1).toInt64) (-((a3).toInt64)))))) / ((a3).toInt64)), .ref 75] 2 (fun f => rfl) ?_
      refine zW_cl rfl rfl rfl rfl rfl (s158 ?_)
      change zW zm_191 53 [some (.ref 75), some (.int (Int32.ofNat a0)), some (.int a1), some (.int a2), some (.int a3), some (.int a4), some (.long (-((a3).toInt64))), none, some (.long (((a1).toInt64) - ((-((a3).toInt64)) * (zflr ((a1).toInt64) (-((a3).toInt64)))))), none, none, none] [] p _ Q
      refine zW_gh 162 [some (.ref 75), some (.int (Int32.ofNat a0)), some (.int a1), some (.int a2), some (.int a3), some (.int a4), some (.long (-((a3).toInt64))), none, some (.long (((a1).toInt64) - ((-((a3).toInt64)) * (zflr ((a1).toInt64) (-((a3).toInt64)))))), none, none, none] [] 1 (fun f => rfl) ?_
      exact zW_rh none 1 (fun f => rfl) H
set_option maxRecDepth 20000 in
theorem b191_162 {K : zKt} {code rf rs pr pn : Int32} {bad : Bool} {J : zJt} {m pa pb pc vf vs : Nat → Int32} {B : zBt} {w : Nat → Int64} {p : Nat × Nat} {Q : zR → zH → Prop} (H : Q (.inl none) (zh K (code, rf, rs, bad, pr, pn, J) (m, pa, pb, pc, vf, vs, B) w)) : zW zm_191 162 [none, none, none, none, none, none, none, none, none, none, none, none] [] p (zh K (code, rf, rs, bad, pr, pn, J) (m, pa, pb, pc, vf, vs, B) w) Q := by
  exact zW_rh none 1 (fun f => rfl) H
theorem b204 {K : zKt} {code rf rs pr pn : Int32} {bad : Bool} {J : zJt} {m pa pb pc vf vs : Nat → Int32} {B : zBt} {w : Nat → Int64} {p : Nat × Nat} {Q : zR → zH → Prop} {a0 : Nat} {a1 a2 a3 a4 : Int32} (H : zT zm_191 [.ref 75, .int (Int32.ofNat a0), .int a1, .int a2, .int a3, .int a4] p (zh K (code, rf, rs, bad, pr, pn, J) (m, pa, pb, pc, vf, vs, B) w) (zK zm_204 11 [some (.ref 75), some (.int (Int32.ofNat a0)), some (.int a1), some (.int a2), some (.int a3), some (.int a4)] [] p Q)) : zT zm_204 [.ref 75, .int (Int32.ofNat a0), .int a1, .int a2, .int a3, .int a4] p (zh K (code, rf, rs, bad, pr, pn, J) (m, pa, pb, pc, vf, vs, B) w) Q := by
  change zW zm_204 0 [some (.ref 75), some (.int (Int32.ofNat a0)), some (.int a1), some (.int a2), some (.int a3), some (.int a4)] [] p _ Q
  refine zW_gh 8 [some (.ref 75), some (.int (Int32.ofNat a0)), some (.int a1), some (.int a2), some (.int a3), some (.int a4)] [.int a4, .int a3, .int a2, .int a1, .int (Int32.ofNat a0), .ref 75] 6 (fun f => rfl) ?_
  exact zW_cl rfl rfl rfl rfl rfl H
theorem b204_11 {K : zKt} {code rf rs pr pn : Int32} {bad : Bool} {J : zJt} {m pa pb pc vf vs : Nat → Int32} {B : zBt} {w : Nat → Int64} {p : Nat × Nat} {Q : zR → zH → Prop} {x1 : Nat} {x2 x3 x4 x5 : Int32} (H : zT zm_195 [.ref 75, .int (Int32.ofNat x1), .int rf, .int rs] p (zh K (code, rf, rs, bad, pr, pn, J) (m, pa, pb, pc, vf, vs, B) w) (zK zm_204 24 [some (.ref 75), some (.int (Int32.ofNat x1)), some (.int x2), some (.int x3), some (.int x4), some (.int x5)] [] p Q)) : zW zm_204 11 [some (.ref 75), some (.int (Int32.ofNat x1)), some (.int x2), some (.int x3), some (.int x4), some (.int x5)] [] p (zh K (code, rf, rs, bad, pr, pn, J) (m, pa, pb, pc, vf, vs, B) w) Q := by
  refine zW_gh 21 [some (.ref 75), some (.int (Int32.ofNat x1)), some (.int x2), some (.int x3), some (.int x4), some (.int x5)] [.int rs, .int rf, .int (Int32.ofNat x1), .ref 75] 6 (fun f => rfl) ?_
  exact zW_cl rfl rfl rfl rfl rfl H
theorem b204_24 {K : zKt} {code rf rs pr pn : Int32} {bad : Bool} {J : zJt} {m pa pb pc vf vs : Nat → Int32} {B : zBt} {w : Nat → Int64} {p : Nat × Nat} {Q : zR → zH → Prop} {x1 : Nat} {x2 x3 x4 x5 : Int32} (H : zT zm_157 [.ref 75, .int (Int32.ofNat x1), .int x2, .int x3, .int rf, .int rs, .int x4, .int x5] p (zh K (code, rf, rs, bad, pr, pn, J) (m, pa, pb, pc, vf, vs, B) w) (zK zm_204 43 [none, none, none, none, none, none] [] p Q)) : zW zm_204 24 [some (.ref 75), some (.int (Int32.ofNat x1)), some (.int x2), some (.int x3), some (.int x4), some (.int x5)] [] p (zh K (code, rf, rs, bad, pr, pn, J) (m, pa, pb, pc, vf, vs, B) w) Q := by
  refine zW_gh 38 [some (.ref 75), some (.int (Int32.ofNat x1)), some (.int x2), some (.int x3), some (.int x4), some (.int x5)] [.int x4, .int rs, .int rf, .int x3, .int x2, .int (Int32.ofNat x1), .ref 75] 9 (fun f => rfl) ?_
  refine zW_gh 40 [some (.ref 75), some (.int (Int32.ofNat x1)), some (.int x2), some (.int x3), some (.int x4), some (.int x5)] [.int x5, .int x4, .int rs, .int rf, .int x3, .int x2, .int (Int32.ofNat x1), .ref 75] 1 (fun f => rfl) ?_
  refine zW_fg (L' := [none, none, none, none, none, none]) (zle_n _ (zle_n _ (zle_n _ (zle_n _ (zle_n _ (zle_n _ zle_nil)))))) ?_
  exact zW_cl rfl rfl rfl rfl rfl H
theorem b204_43 {K : zKt} {code rf rs pr pn : Int32} {bad : Bool} {J : zJt} {m pa pb pc vf vs : Nat → Int32} {B : zBt} {w : Nat → Int64} {p : Nat × Nat} {Q : zR → zH → Prop} (H : Q (.inl none) (zh K (code, rf, rs, bad, pr, pn, J) (m, pa, pb, pc, vf, vs, B) w)) : zW zm_204 43 [none, none, none, none, none, none] [] p (zh K (code, rf, rs, bad, pr, pn, J) (m, pa, pb, pc, vf, vs, B) w) Q := by
  exact zW_rh none 1 (fun f => rfl) H
theorem b189 {K : zKt} {code rf rs pr pn : Int32} {bad : Bool} {J : zJt} {m pa pb pc vf vs : Nat → Int32} {B : zBt} {w : Nat → Int64} {p : Nat × Nat} {Q : zR → zH → Prop} {a0 : Nat} {a1 a2 : Int32} (H : (a0 < 2147483648 ∧ ((¬ a0 = 0 → ((¬ a0 = 1 → zT zm_159 [.int (Int32.ofNat a0), .int a1, .ref 77] p (zh K (code, rf, rs, bad, pr, pn, J) (m, pa, pb, pc, vf, vs, B) w) (zK zm_189 43 [some (.ref 75), none, none, none] [] p Q)) ∧ (a0 = 1 → Q (.inl (some (.long ((((a1).toInt64) * ((a1).toInt64)) + (((a2).toInt64) * ((a2).toInt64)))))) (zh K (code, rf, rs, bad, pr, pn, J) (m, pa, pb, pc, vf, vs, B) w)))) ∧ (a0 = 0 → (((0 : Int32) ≤ a1 → ∀ k_a1, k_a1 < 2147483648 → a1 = Int32.ofNat k_a1 → Q (.inl (some (.long (((Int32.ofNat k_a1)).toInt64)))) (zh K (code, rf, rs, bad, pr, pn, J) (m, pa, pb, pc, vf, vs, B) w)) ∧ (¬ (0 : Int32) ≤ a1 → Q (.inl (some (.long (-((a1).toInt64))))) (zh K (code, rf, rs, bad, pr, pn, J) (m, pa, pb, pc, vf, vs, B) w))))))) : zT zm_189 [.ref 75, .int (Int32.ofNat a0), .int a1, .int a2] p (zh K (code, rf, rs, bad, pr, pn, J) (m, pa, pb, pc, vf, vs, B) w) Q := by
  change zW zm_189 0 [some (.ref 75), some (.int (Int32.ofNat a0)), some (.int a1), some (.int a2)] [] p _ Q
  obtain ⟨h1, H⟩ := H
  refine zW_bh (zcmp .ne (Int32.ofNat a0) (0 : Int32)) 17 4 [some (.ref 75), some (.int (Int32.ofNat a0)), some (.int a1), some (.int a2)] [] 2 (fun f => rfl) (fun c => ?_) (fun c => ?_)
  · have c9 : ¬ a0 = 0 := (by have c := (zcN_ne (a := a0) (b := 0) rfl rfl h1 (by decide)).symm.trans c; simpa using c)
    replace H := H.1 c9
    refine zW_bh (zcmp .ne (Int32.ofNat a0) (1 : Int32)) 34 22 [some (.ref 75), some (.int (Int32.ofNat a0)), some (.int a1), some (.int a2)] [] 3 (fun f => rfl) (fun c => ?_) (fun c => ?_)
    · have c9 : ¬ a0 = 1 := (by have c := (zcN_ne (a := a0) (b := 1) rfl rfl h1 (by decide)).symm.trans c; simpa using c)
      replace H := H.1 c9
      refine zW_gh 40 [some (.ref 75), some (.int (Int32.ofNat a0)), some (.int a1), some (.int a2)] [.ref 77, .int a1, .int (Int32.ofNat a0)] 4 (fun f => rfl) ?_
      refine zW_fg (L' := [some (.ref 75), none, none, none]) (zle_s _ (zle_n _ (zle_n _ (zle_n _ zle_nil)))) ?_
      exact zW_cl rfl rfl rfl rfl rfl H
    · have c9 : a0 = 1 := (by have c := (zcN_ne (a := a0) (b := 1) rfl rfl h1 (by decide)).symm.trans c; simpa using c)
      replace H := H.2 c9
      refine zW_gh 31 [some (.ref 75), some (.int (Int32.ofNat a0)), some (.int a1), some (.int a2)] [.long ((a2).toInt64), .long ((a2).toInt64), .long (((a1).toInt64) * ((a1).toInt64))] 9 (fun f => rfl) ?_
      refine zW_gh 33 [some (.ref 75), some (.int (Int32.ofNat a0)), some (.int a1), some (.int a2)] [.long ((((a1).toInt64) * ((a1).toInt64)) + (((a2).toInt64) * ((a2).toInt64)))] 2 (fun f => rfl) ?_
      exact zW_rh (some (.long ((((a1).toInt64) * ((a1).toInt64)) + (((a2).toInt64) * ((a2).toInt64))))) 1 (fun f => rfl) H
  · have c9 : a0 = 0 := (by have c := (zcN_ne (a := a0) (b := 0) rfl rfl h1 (by decide)).symm.trans c; simpa using c)
    replace H := H.2 c9
    refine zW_bh (zcmp .ge a1 (0 : Int32)) 14 8 [some (.ref 75), some (.int (Int32.ofNat a0)), some (.int a1), some (.int a2)] [] 2 (fun f => rfl) (fun c => ?_) (fun c => ?_)
    · have c9 : (0 : Int32) ≤ a1 := (of_decide_eq_true c)
      replace H := H.1 c9
      obtain ⟨k_a1, h_k_a1, e_k_a1⟩ := zNn' c9
      replace H := H k_a1 h_k_a1 e_k_a1
      subst e_k_a1
      refine zW_gh 16 [some (.ref 75), some (.int (Int32.ofNat a0)), some (.int (Int32.ofNat k_a1)), some (.int a2)] [.long (((Int32.ofNat k_a1)).toInt64)] 2 (fun f => rfl) ?_
      exact zW_rh (some (.long (((Int32.ofNat k_a1)).toInt64))) 1 (fun f => rfl) H
    · have c9 : ¬ (0 : Int32) ≤ a1 := (of_decide_eq_false c)
      replace H := H.2 c9
      refine zW_gh 16 [some (.ref 75), some (.int (Int32.ofNat a0)), some (.int a1), some (.int a2)] [.long (-((a1).toInt64))] 4 (fun f => rfl) ?_
      exact zW_rh (some (.long (-((a1).toInt64)))) 1 (fun f => rfl) H
theorem b189_43 {K : zKt} {code rf rs pr pn : Int32} {bad : Bool} {J : zJt} {m pa pb pc vf vs : Nat → Int32} {B : zBt} {w : Nat → Int64} {p : Nat × Nat} {Q : zR → zH → Prop} (H : zT zm_161 [.ref 77, .int (7 : Int32)] p (zh K (code, rf, rs, bad, pr, pn, J) (m, pa, pb, pc, vf, vs, B) w) (zK zm_189 53 [none, none, none, none] [.long (1 : Int64)] p Q)) : zW zm_189 43 [some (.ref 75), none, none, none] [] p (zh K (code, rf, rs, bad, pr, pn, J) (m, pa, pb, pc, vf, vs, B) w) Q := by
  refine zW_gh 50 [some (.ref 75), none, none, none] [.int (7 : Int32), .ref 77, .long (1 : Int64)] 4 (fun f => rfl) ?_
  refine zW_fg (L' := [none, none, none, none]) (zle_n _ (zle_s _ (zle_s _ (zle_s _ zle_nil)))) ?_
  exact zW_cl rfl rfl rfl rfl rfl H
theorem b189_53 {K : zKt} {code rf rs pr pn : Int32} {bad : Bool} {J : zJt} {m pa pb pc vf vs : Nat → Int32} {B : zBt} {w : Nat → Int64} {p : Nat × Nat} {Q : zR → zH → Prop} {rv : Int32} {s0 : Int64} (H : Q (.inl (some (.long (s0 + ((rv).toInt64))))) (zh K (code, rf, rs, bad, pr, pn, J) (m, pa, pb, pc, vf, vs, B) w)) : zW zm_189 53 [none, none, none, none] [.int rv, .long s0] p (zh K (code, rf, rs, bad, pr, pn, J) (m, pa, pb, pc, vf, vs, B) w) Q := by
  refine zW_gh 55 [none, none, none, none] [.long (s0 + ((rv).toInt64))] 2 (fun f => rfl) ?_
  exact zW_rh (some (.long (s0 + ((rv).toInt64)))) 1 (fun f => rfl) H
theorem b198 {K : zKt} {code rf rs pr pn : Int32} {bad : Bool} {J : zJt} {m pa pb pc vf vs : Nat → Int32} {B : zBt} {w : Nat → Int64} {p : Nat × Nat} {Q : zR → zH → Prop} {a0 : Nat} {a1 a2 : Int32} (H : (a0 < 2147483648 ∧ ((¬ a0 = 0 → ((¬ a0 = 1 → zT zm_159 [.int (Int32.ofNat a0), .int a1, .ref 77] p (zh K (code, rf, (0 : Int32), bad, pr, pn, J) (m, pa, pb, pc, vf, vs, B) w) (zK zm_198 122 [some (.ref 75), some (.int (Int32.ofNat a0)), none, none, none] [] p Q)) ∧ (a0 = 1 → ((a1 ≤ (0 : Int32) → ((a2 ≤ (0 : Int32) → (((0 : Int32) ≤ a1 → ∀ k_a1, k_a1 < 2147483648 → a1 = Int32.ofNat k_a1 → Q (.inl none) (zh K (code, (0 : Int32), (1 : Int32), bad, pr, pn, J) (m, pa, pb, pc, vf, vs, B) w)) ∧ (¬ (0 : Int32) ≤ a1 → Q (.inl none) (zh K (code, (-1 : Int32), (0 : Int32), bad, pr, pn, J) (m, pa, pb, pc, vf, vs, B) w)))) ∧ (¬ a2 ≤ (0 : Int32) → Q (.inl none) (zh K (code, (0 : Int32), (-1 : Int32), bad, pr, pn, J) (m, pa, pb, pc, vf, vs, B) w)))) ∧ (¬ a1 ≤ (0 : Int32) → ((a2 < (0 : Int32) → ((a2 ≤ (0 : Int32) → (((0 : Int32) ≤ a1 → ∀ k_a1, k_a1 < 2147483648 → a1 = Int32.ofNat k_a1 → Q (.inl none) (zh K (code, (0 : Int32), (1 : Int32), bad, pr, pn, J) (m, pa, pb, pc, vf, vs, B) w)) ∧ (¬ (0 : Int32) ≤ a1 → Q (.inl none) (zh K (code, (-1 : Int32), (0 : Int32), bad, pr, pn, J) (m, pa, pb, pc, vf, vs, B) w)))) ∧ (¬ a2 ≤ (0 : Int32) → Q (.inl none) (zh K (code, (0 : Int32), (-1 : Int32), bad, pr, pn, J) (m, pa, pb, pc, vf, vs, B) w)))) ∧ (¬ a2 < (0 : Int32) → ∀ k_a2, k_a2 < 2147483648 → a2 = Int32.ofNat k_a2 → Q (.inl none) (zh K (code, (1 : Int32), (0 : Int32), bad, pr, pn, J) (m, pa, pb, pc, vf, vs, B) w)))))))) ∧ (a0 = 0 → (((0 : Int32) ≤ a1 → ∀ k_a1, k_a1 < 2147483648 → a1 = Int32.ofNat k_a1 → Q (.inl none) (zh K (code, (1 : Int32), (0 : Int32), bad, pr, pn, J) (m, pa, pb, pc, vf, vs, B) w)) ∧ (¬ (0 : Int32) ≤ a1 → Q (.inl none) (zh K (code, (-1 : Int32), (0 : Int32), bad, pr, pn, J) (m, pa, pb, pc, vf, vs, B) w))))))) : zT zm_198 [.ref 75, .int (Int32.ofNat a0), .int a1, .int a2] p (zh K (code, rf, rs, bad, pr, pn, J) (m, pa, pb, pc, vf, vs, B) w) Q := by
  change zW zm_198 0 [some (.ref 75), some (.int (Int32.ofNat a0)), some (.int a1), some (.int a2), none] [] p _ Q
  refine zW_gh 2 [some (.ref 75), some (.int (Int32.ofNat a0)), some (.int a1), some (.int a2), none] [.int (0 : Int32), .ref 75] 2 (fun f => rfl) ?_
  refine zW_go (pc' := 5) (L' := [some (.ref 75), some (.int (Int32.ofNat a0)), some (.int a1), some (.int a2), none]) (st' := []) (h' := (va_up (zh K (code, rf, rs, bad, pr, pn, J) (m, pa, pb, pc, vf, vs, B) w) 75 (.inr (7, zfl (code, rf, (0 : Int32), bad, pr, pn, J))))) 1 (fun f => rfl) ?_
  refine zW_eq zu_75 ?_
  obtain ⟨h1, H⟩ := H
  refine zW_bh (zcmp .ne (Int32.ofNat a0) (0 : Int32)) 25 9 [some (.ref 75), some (.int (Int32.ofNat a0)), some (.int a1), some (.int a2), none] [] 2 (fun f => rfl) (fun c => ?_) (fun c => ?_)
  · have c9 : ¬ a0 = 0 := (by have c := (zcN_ne (a := a0) (b := 0) rfl rfl h1 (by decide)).symm.trans c; simpa using c)
    replace H := H.1 c9
    refine zW_bh (zcmp .ne (Int32.ofNat a0) (1 : Int32)) 113 30 [some (.ref 75), some (.int (Int32.ofNat a0)), some (.int a1), some (.int a2), none] [] 3 (fun f => rfl) (fun c => ?_) (fun c => ?_)
    · have c9 : ¬ a0 = 1 := (by have c := (zcN_ne (a := a0) (b := 1) rfl rfl h1 (by decide)).symm.trans c; simpa using c)
      replace H := H.1 c9
      refine zW_gh 119 [some (.ref 75), some (.int (Int32.ofNat a0)), some (.int a1), some (.int a2), none] [.ref 77, .int a1, .int (Int32.ofNat a0)] 4 (fun f => rfl) ?_
      refine zW_fg (L' := [some (.ref 75), some (.int (Int32.ofNat a0)), none, none, none]) (zle_s _ (zle_s _ (zle_n _ (zle_n _ (zle_s _ zle_nil))))) ?_
      exact zW_cl rfl rfl rfl rfl rfl H
    · have c9 : a0 = 1 := (by have c := (zcN_ne (a := a0) (b := 1) rfl rfl h1 (by decide)).symm.trans c; simpa using c)
      replace H := H.2 c9
      refine zW_bh (zcmp .le a1 (0 : Int32)) 42 34 [some (.ref 75), some (.int (Int32.ofNat a0)), some (.int a1), some (.int a2), none] [] 2 (fun f => rfl) (fun c => ?_) (fun c => ?_)
      · have c9 : a1 ≤ (0 : Int32) := (of_decide_eq_true c)
        replace H := H.1 c9
        refine zW_bh (zcmp .le a2 (0 : Int32)) 50 46 [some (.ref 75), some (.int (Int32.ofNat a0)), some (.int a1), some (.int a2), none] [] 2 (fun f => rfl) (fun c => ?_) (fun c => ?_)
        · have c9 : a2 ≤ (0 : Int32) := (of_decide_eq_true c)
          replace H := H.1 c9
          refine zW_bh (zcmp .ge a1 (0 : Int32)) 58 54 [some (.ref 75), some (.int (Int32.ofNat a0)), some (.int a1), some (.int a2), none] [] 2 (fun f => rfl) (fun c => ?_) (fun c => ?_)
          · have c9 : (0 : Int32) ≤ a1 := (of_decide_eq_true c)
            replace H := H.1 c9
            obtain ⟨k_a1, h_k_a1, e_k_a1⟩ := zNn' c9
            replace H := H k_a1 h_k_a1 e_k_a1
            subst e_k_a1
            refine zW_gh 82 [some (.ref 75), some (.int (Int32.ofNat a0)), some (.int (Int32.ofNat k_a1)), some (.int a2), some (.int (3 : Int32))] [.int (0 : Int32), .ref 75] 9 (fun f => rfl) ?_
            refine zW_go (pc' := 85) (L' := [some (.ref 75), some (.int (Int32.ofNat a0)), some (.int (Int32.ofNat k_a1)), some (.int a2), some (.int (3 : Int32))]) (st' := []) (h' := (va_up (zh K (code, rf, (0 : Int32), bad, pr, pn, J) (m, pa, pb, pc, vf, vs, B) w) 75 (.inr (7, zfl (code, (0 : Int32), (0 : Int32), bad, pr, pn, J))))) 1 (fun f => rfl) ?_
            refine zW_eq zu_75 ?_
            refine zW_gh 107 [some (.ref 75), some (.int (Int32.ofNat a0)), some (.int (Int32.ofNat k_a1)), some (.int a2), some (.int (3 : Int32))] [.int (1 : Int32), .ref 75] 9 (fun f => rfl) ?_
            refine zW_go (pc' := 110) (L' := [some (.ref 75), some (.int (Int32.ofNat a0)), some (.int (Int32.ofNat k_a1)), some (.int a2), some (.int (3 : Int32))]) (st' := []) (h' := (va_up (zh K (code, (0 : Int32), (0 : Int32), bad, pr, pn, J) (m, pa, pb, pc, vf, vs, B) w) 75 (.inr (7, zfl (code, (0 : Int32), (1 : Int32), bad, pr, pn, J))))) 1 (fun f => rfl) ?_
            refine zW_eq zu_75 ?_
            refine zW_gh 144 [some (.ref 75), some (.int (Int32.ofNat a0)), some (.int (Int32.ofNat k_a1)), some (.int a2), some (.int (3 : Int32))] [] 1 (fun f => rfl) ?_
            exact zW_rh none 1 (fun f => rfl) H
          · have c9 : ¬ (0 : Int32) ≤ a1 := (of_decide_eq_false c)
            replace H := H.2 c9
            refine zW_gh 77 [some (.ref 75), some (.int (Int32.ofNat a0)), some (.int a1), some (.int a2), some (.int (2 : Int32))] [.ref 75] 9 (fun f => rfl) ?_
            refine zW_gh 82 [some (.ref 75), some (.int (Int32.ofNat a0)), some (.int a1), some (.int a2), some (.int (2 : Int32))] [.int (-1 : Int32), .ref 75] 2 (fun f => rfl) ?_
            refine zW_go (pc' := 85) (L' := [some (.ref 75), some (.int (Int32.ofNat a0)), some (.int a1), some (.int a2), some (.int (2 : Int32))]) (st' := []) (h' := (va_up (zh K (code, rf, (0 : Int32), bad, pr, pn, J) (m, pa, pb, pc, vf, vs, B) w) 75 (.inr (7, zfl (code, (-1 : Int32), (0 : Int32), bad, pr, pn, J))))) 1 (fun f => rfl) ?_
            refine zW_eq zu_75 ?_
            refine zW_gh 107 [some (.ref 75), some (.int (Int32.ofNat a0)), some (.int a1), some (.int a2), some (.int (2 : Int32))] [.int (0 : Int32), .ref 75] 8 (fun f => rfl) ?_
            refine zW_go (pc' := 110) (L' := [some (.ref 75), some (.int (Int32.ofNat a0)), some (.int a1), some (.int a2), some (.int (2 : Int32))]) (st' := []) (h' := (va_up (zh K (code, (-1 : Int32), (0 : Int32), bad, pr, pn, J) (m, pa, pb, pc, vf, vs, B) w) 75 (.inr (7, zfl (code, (-1 : Int32), (0 : Int32), bad, pr, pn, J))))) 1 (fun f => rfl) ?_
            refine zW_eq zu_75 ?_
            refine zW_gh 144 [some (.ref 75), some (.int (Int32.ofNat a0)), some (.int a1), some (.int a2), some (.int (2 : Int32))] [] 1 (fun f => rfl) ?_
            exact zW_rh none 1 (fun f => rfl) H
        · have c9 : ¬ a2 ≤ (0 : Int32) := (of_decide_eq_false c)
          replace H := H.2 c9
          refine zW_gh 81 [some (.ref 75), some (.int (Int32.ofNat a0)), some (.int a1), some (.int a2), some (.int (1 : Int32))] [.ref 75] 9 (fun f => rfl) ?_
          refine zW_gh 82 [some (.ref 75), some (.int (Int32.ofNat a0)), some (.int a1), some (.int a2), some (.int (1 : Int32))] [.int (0 : Int32), .ref 75] 1 (fun f => rfl) ?_
          refine zW_go (pc' := 85) (L' := [some (.ref 75), some (.int (Int32.ofNat a0)), some (.int a1), some (.int a2), some (.int (1 : Int32))]) (st' := []) (h' := (va_up (zh K (code, rf, (0 : Int32), bad, pr, pn, J) (m, pa, pb, pc, vf, vs, B) w) 75 (.inr (7, zfl (code, (0 : Int32), (0 : Int32), bad, pr, pn, J))))) 1 (fun f => rfl) ?_
          refine zW_eq zu_75 ?_
          refine zW_gh 107 [some (.ref 75), some (.int (Int32.ofNat a0)), some (.int a1), some (.int a2), some (.int (1 : Int32))] [.int (-1 : Int32), .ref 75] 6 (fun f => rfl) ?_
          refine zW_go (pc' := 110) (L' := [some (.ref 75), some (.int (Int32.ofNat a0)), some (.int a1), some (.int a2), some (.int (1 : Int32))]) (st' := []) (h' := (va_up (zh K (code, (0 : Int32), (0 : Int32), bad, pr, pn, J) (m, pa, pb, pc, vf, vs, B) w) 75 (.inr (7, zfl (code, (0 : Int32), (-1 : Int32), bad, pr, pn, J))))) 1 (fun f => rfl) ?_
          refine zW_eq zu_75 ?_
          refine zW_gh 144 [some (.ref 75), some (.int (Int32.ofNat a0)), some (.int a1), some (.int a2), some (.int (1 : Int32))] [] 1 (fun f => rfl) ?_
          exact zW_rh none 1 (fun f => rfl) H
      · have c9 : ¬ a1 ≤ (0 : Int32) := (of_decide_eq_false c)
        replace H := H.2 c9
        refine zW_bh (zcmp .lt a2 (0 : Int32)) 42 38 [some (.ref 75), some (.int (Int32.ofNat a0)), some (.int a1), some (.int a2), none] [] 2 (fun f => rfl) (fun c => ?_) (fun c => ?_)
        · have c9 : a2 < (0 : Int32) := (of_decide_eq_true c)
          replace H := H.1 c9
          refine zW_bh (zcmp .le a2 (0 : Int32)) 50 46 [some (.ref 75), some (.int (Int32.ofNat a0)), some (.int a1), some (.int a2), none] [] 2 (fun f => rfl) (fun c => ?_) (fun c => ?_)
          · have c9 : a2 ≤ (0 : Int32) := (of_decide_eq_true c)
            replace H := H.1 c9
            refine zW_bh (zcmp .ge a1 (0 : Int32)) 58 54 [some (.ref 75), some (.int (Int32.ofNat a0)), some (.int a1), some (.int a2), none] [] 2 (fun f => rfl) (fun c => ?_) (fun c => ?_)
            · have c9 : (0 : Int32) ≤ a1 := (of_decide_eq_true c)
              replace H := H.1 c9
              obtain ⟨k_a1, h_k_a1, e_k_a1⟩ := zNn' c9
              replace H := H k_a1 h_k_a1 e_k_a1
              subst e_k_a1
              refine zW_gh 82 [some (.ref 75), some (.int (Int32.ofNat a0)), some (.int (Int32.ofNat k_a1)), some (.int a2), some (.int (3 : Int32))] [.int (0 : Int32), .ref 75] 9 (fun f => rfl) ?_
              refine zW_go (pc' := 85) (L' := [some (.ref 75), some (.int (Int32.ofNat a0)), some (.int (Int32.ofNat k_a1)), some (.int a2), some (.int (3 : Int32))]) (st' := []) (h' := (va_up (zh K (code, rf, (0 : Int32), bad, pr, pn, J) (m, pa, pb, pc, vf, vs, B) w) 75 (.inr (7, zfl (code, (0 : Int32), (0 : Int32), bad, pr, pn, J))))) 1 (fun f => rfl) ?_
              refine zW_eq zu_75 ?_
              refine zW_gh 107 [some (.ref 75), some (.int (Int32.ofNat a0)), some (.int (Int32.ofNat k_a1)), some (.int a2), some (.int (3 : Int32))] [.int (1 : Int32), .ref 75] 9 (fun f => rfl) ?_
              refine zW_go (pc' := 110) (L' := [some (.ref 75), some (.int (Int32.ofNat a0)), some (.int (Int32.ofNat k_a1)), some (.int a2), some (.int (3 : Int32))]) (st' := []) (h' := (va_up (zh K (code, (0 : Int32), (0 : Int32), bad, pr, pn, J) (m, pa, pb, pc, vf, vs, B) w) 75 (.inr (7, zfl (code, (0 : Int32), (1 : Int32), bad, pr, pn, J))))) 1 (fun f => rfl) ?_
              refine zW_eq zu_75 ?_
              refine zW_gh 144 [some (.ref 75), some (.int (Int32.ofNat a0)), some (.int (Int32.ofNat k_a1)), some (.int a2), some (.int (3 : Int32))] [] 1 (fun f => rfl) ?_
              exact zW_rh none 1 (fun f => rfl) H
            · have c9 : ¬ (0 : Int32) ≤ a1 := (of_decide_eq_false c)
              replace H := H.2 c9
              refine zW_gh 77 [some (.ref 75), some (.int (Int32.ofNat a0)), some (.int a1), some (.int a2), some (.int (2 : Int32))] [.ref 75] 9 (fun f => rfl) ?_
              refine zW_gh 82 [some (.ref 75), some (.int (Int32.ofNat a0)), some (.int a1), some (.int a2), some (.int (2 : Int32))] [.int (-1 : Int32), .ref 75] 2 (fun f => rfl) ?_
              refine zW_go (pc' := 85) (L' := [some (.ref 75), some (.int (Int32.ofNat a0)), some (.int a1), some (.int a2), some (.int (2 : Int32))]) (st' := []) (h' := (va_up (zh K (code, rf, (0 : Int32), bad, pr, pn, J) (m, pa, pb, pc, vf, vs, B) w) 75 (.inr (7, zfl (code, (-1 : Int32), (0 : Int32), bad, pr, pn, J))))) 1 (fun f => rfl) ?_
              refine zW_eq zu_75 ?_
              refine zW_gh 107 [some (.ref 75), some (.int (Int32.ofNat a0)), some (.int a1), some (.int a2), some (.int (2 : Int32))] [.int (0 : Int32), .ref 75] 8 (fun f => rfl) ?_
              refine zW_go (pc' := 110) (L' := [some (.ref 75), some (.int (Int32.ofNat a0)), some (.int a1), some (.int a2), some (.int (2 : Int32))]) (st' := []) (h' := (va_up (zh K (code, (-1 : Int32), (0 : Int32), bad, pr, pn, J) (m, pa, pb, pc, vf, vs, B) w) 75 (.inr (7, zfl (code, (-1 : Int32), (0 : Int32), bad, pr, pn, J))))) 1 (fun f => rfl) ?_
              refine zW_eq zu_75 ?_
              refine zW_gh 144 [some (.ref 75), some (.int (Int32.ofNat a0)), some (.int a1), some (.int a2), some (.int (2 : Int32))] [] 1 (fun f => rfl) ?_
              exact zW_rh none 1 (fun f => rfl) H
          · have c9 : ¬ a2 ≤ (0 : Int32) := (of_decide_eq_false c)
            replace H := H.2 c9
            refine zW_gh 81 [some (.ref 75), some (.int (Int32.ofNat a0)), some (.int a1), some (.int a2), some (.int (1 : Int32))] [.ref 75] 9 (fun f => rfl) ?_
            refine zW_gh 82 [some (.ref 75), some (.int (Int32.ofNat a0)), some (.int a1), some (.int a2), some (.int (1 : Int32))] [.int (0 : Int32), .ref 75] 1 (fun f => rfl) ?_
            refine zW_go (pc' := 85) (L' := [some (.ref 75), some (.int (Int32.ofNat a0)), some (.int a1), some (.int a2), some (.int (1 : Int32))]) (st' := []) (h' := (va_up (zh K (code, rf, (0 : Int32), bad, pr, pn, J) (m, pa, pb, pc, vf, vs, B) w) 75 (.inr (7, zfl (code, (0 : Int32), (0 : Int32), bad, pr, pn, J))))) 1 (fun f => rfl) ?_
            refine zW_eq zu_75 ?_
            refine zW_gh 107 [some (.ref 75), some (.int (Int32.ofNat a0)), some (.int a1), some (.int a2), some (.int (1 : Int32))] [.int (-1 : Int32), .ref 75] 6 (fun f => rfl) ?_
            refine zW_go (pc' := 110) (L' := [some (.ref 75), some (.int (Int32.ofNat a0)), some (.int a1), some (.int a2), some (.int (1 : Int32))]) (st' := []) (h' := (va_up (zh K (code, (0 : Int32), (0 : Int32), bad, pr, pn, J) (m, pa, pb, pc, vf, vs, B) w) 75 (.inr (7, zfl (code, (0 : Int32), (-1 : Int32), bad, pr, pn, J))))) 1 (fun f => rfl) ?_
            refine zW_eq zu_75 ?_
            refine zW_gh 144 [some (.ref 75), some (.int (Int32.ofNat a0)), some (.int a1), some (.int a2), some (.int (1 : Int32))] [] 1 (fun f => rfl) ?_
            exact zW_rh none 1 (fun f => rfl) H
        · have c9 : ¬ a2 < (0 : Int32) := (of_decide_eq_false c)
          replace H := H.2 c9
          obtain ⟨k_a2, h_k_a2, e_k_a2⟩ := zNn c9
          replace H := H k_a2 h_k_a2 e_k_a2
          subst e_k_a2
          refine zW_gh 82 [some (.ref 75), some (.int (Int32.ofNat a0)), some (.int a1), some (.int (Int32.ofNat k_a2)), some (.int (0 : Int32))] [.int (1 : Int32), .ref 75] 8 (fun f => rfl) ?_
          refine zW_go (pc' := 85) (L' := [some (.ref 75), some (.int (Int32.ofNat a0)), some (.int a1), some (.int (Int32.ofNat k_a2)), some (.int (0 : Int32))]) (st' := []) (h' := (va_up (zh K (code, rf, (0 : Int32), bad, pr, pn, J) (m, pa, pb, pc, vf, vs, B) w) 75 (.inr (7, zfl (code, (1 : Int32), (0 : Int32), bad, pr, pn, J))))) 1 (fun f => rfl) ?_
          refine zW_eq zu_75 ?_
          refine zW_gh 107 [some (.ref 75), some (.int (Int32.ofNat a0)), some (.int a1), some (.int (Int32.ofNat k_a2)), some (.int (0 : Int32))] [.int (0 : Int32), .ref 75] 8 (fun f => rfl) ?_
          refine zW_go (pc' := 110) (L' := [some (.ref 75), some (.int (Int32.ofNat a0)), some (.int a1), some (.int (Int32.ofNat k_a2)), some (.int (0 : Int32))]) (st' := []) (h' := (va_up (zh K (code, (1 : Int32), (0 : Int32), bad, pr, pn, J) (m, pa, pb, pc, vf, vs, B) w) 75 (.inr (7, zfl (code, (1 : Int32), (0 : Int32), bad, pr, pn, J))))) 1 (fun f => rfl) ?_
          refine zW_eq zu_75 ?_
          refine zW_gh 144 [some (.ref 75), some (.int (Int32.ofNat a0)), some (.int a1), some (.int (Int32.ofNat k_a2)), some (.int (0 : Int32))] [] 1 (fun f => rfl) ?_
          exact zW_rh none 1 (fun f => rfl) H
  · have c9 : a0 = 0 := (by have c := (zcN_ne (a := a0) (b := 0) rfl rfl h1 (by decide)).symm.trans c; simpa using c)
    replace H := H.2 c9
    refine zW_bh (zcmp .ge a1 (0 : Int32)) 18 14 [some (.ref 75), some (.int (Int32.ofNat a0)), some (.int a1), some (.int a2), none] [.ref 75] 3 (fun f => rfl) (fun c => ?_) (fun c => ?_)
    · have c9 : (0 : Int32) ≤ a1 := (of_decide_eq_true c)
      replace H := H.1 c9
      obtain ⟨k_a1, h_k_a1, e_k_a1⟩ := zNn' c9
      replace H := H k_a1 h_k_a1 e_k_a1
      subst e_k_a1
      refine zW_gh 19 [some (.ref 75), some (.int (Int32.ofNat a0)), some (.int (Int32.ofNat k_a1)), some (.int a2), none] [.int (1 : Int32), .ref 75] 1 (fun f => rfl) ?_
      refine zW_go (pc' := 22) (L' := [some (.ref 75), some (.int (Int32.ofNat a0)), some (.int (Int32.ofNat k_a1)), some (.int a2), none]) (st' := []) (h' := (va_up (zh K (code, rf, (0 : Int32), bad, pr, pn, J) (m, pa, pb, pc, vf, vs, B) w) 75 (.inr (7, zfl (code, (1 : Int32), (0 : Int32), bad, pr, pn, J))))) 1 (fun f => rfl) ?_
      refine zW_eq zu_75 ?_
      refine zW_gh 144 [some (.ref 75), some (.int (Int32.ofNat a0)), some (.int (Int32.ofNat k_a1)), some (.int a2), none] [] 1 (fun f => rfl) ?_
      exact zW_rh none 1 (fun f => rfl) H
    · have c9 : ¬ (0 : Int32) ≤ a1 := (of_decide_eq_false c)
      replace H := H.2 c9
      refine zW_gh 19 [some (.ref 75), some (.int (Int32.ofNat a0)), some (.int a1), some (.int a2), none] [.int (-1 : Int32), .ref 75] 2 (fun f => rfl) ?_
      refine zW_go (pc' := 22) (L' := [some (.ref 75), some (.int (Int32.ofNat a0)), some (.int a1), some (.int a2), none]) (st' := []) (h' := (va_up (zh K (code, rf, (0 : Int32), bad, pr, pn, J) (m, pa, pb, pc, vf, vs, B) w) 75 (.inr (7, zfl (code, (-1 : Int32), (0 : Int32), bad, pr, pn, J))))) 1 (fun f => rfl) ?_
      refine zW_eq zu_75 ?_
      refine zW_gh 144 [some (.ref 75), some (.int (Int32.ofNat a0)), some (.int a1), some (.int a2), none] [] 1 (fun f => rfl) ?_
      exact zW_rh none 1 (fun f => rfl) H
theorem b198_122 {K : zKt} {code rf rs pr pn : Int32} {bad : Bool} {J : zJt} {m pa pb pc vf vs : Nat → Int32} {B : zBt} {w : Nat → Int64} {p : Nat × Nat} {Q : zR → zH → Prop} {x1 : Nat} (H : zT zm_161 [.ref 77, .int (7 : Int32)] p (zh K (code, rf, rs, bad, pr, pn, J) (m, pa, pb, pc, vf, vs, B) w) (zK zm_198 136 [none, some (.int (Int32.ofNat x1)), none, none, none] [.ref 77, .ref 75] p Q)) : zW zm_198 122 [some (.ref 75), some (.int (Int32.ofNat x1)), none, none, none] [] p (zh K (code, rf, rs, bad, pr, pn, J) (m, pa, pb, pc, vf, vs, B) w) Q := by
  refine zW_gh 133 [some (.ref 75), some (.int (Int32.ofNat x1)), none, none, none] [.int (7 : Int32), .ref 77, .ref 77, .ref 75] 6 (fun f => rfl) ?_
  refine zW_fg (L' := [none, some (.int (Int32.ofNat x1)), none, none, none]) (zle_n _ (zle_s _ (zle_s _ (zle_s _ (zle_s _ zle_nil))))) ?_
  exact zW_cl rfl rfl rfl rfl rfl H
theorem b198_136 {K : zKt} {code rf rs pr pn : Int32} {bad : Bool} {J : zJt} {m pa pb pc vf vs : Nat → Int32} {B : zBt} {w : Nat → Int64} {p : Nat × Nat} {Q : zR → zH → Prop} {x1 : Nat} {rv : Int32} (H : (∃ j1, rv = Int32.ofNat j1 ∧ (j1 < 8 ∧ zT zm_194 [.int (pa j1), .int (Int32.ofNat x1)] p (zh K (code, rf, rs, bad, pr, pn, J) (m, pa, pb, pc, vf, vs, B) w) (zK zm_198 141 [none, none, none, none, none] [.ref 75] p Q)))) : zW zm_198 136 [none, some (.int (Int32.ofNat x1)), none, none, none] [.int rv, .ref 77, .ref 75] p (zh K (code, rf, rs, bad, pr, pn, J) (m, pa, pb, pc, vf, vs, B) w) Q := by
  obtain ⟨j1, e_j1, H⟩ := H
  obtain ⟨h2, H⟩ := H
  refine zW_iald rfl (by decide) rfl (by decide) e_j1 h2 ?_
  refine zW_gh 138 [none, some (.int (Int32.ofNat x1)), none, none, none] [.int (Int32.ofNat x1), .int (pa j1), .ref 75] 1 (fun f => rfl) ?_
  refine zW_fg (L' := [none, none, none, none, none]) (zle_s _ (zle_n _ (zle_s _ (zle_s _ (zle_s _ zle_nil))))) ?_
  exact zW_cl rfl rfl rfl rfl rfl H
theorem b198_141 {K : zKt} {code rf rs pr pn : Int32} {bad : Bool} {J : zJt} {m pa pb pc vf vs : Nat → Int32} {B : zBt} {w : Nat → Int64} {p : Nat × Nat} {Q : zR → zH → Prop} {rv : Int32} (H : Q (.inl none) (zh K (code, rv, rs, bad, pr, pn, J) (m, pa, pb, pc, vf, vs, B) w)) : zW zm_198 141 [none, none, none, none, none] [.int rv, .ref 75] p (zh K (code, rf, rs, bad, pr, pn, J) (m, pa, pb, pc, vf, vs, B) w) Q := by
  refine zW_go (pc' := 144) (L' := [none, none, none, none, none]) (st' := []) (h' := (va_up (zh K (code, rf, rs, bad, pr, pn, J) (m, pa, pb, pc, vf, vs, B) w) 75 (.inr (7, zfl (code, rv, rs, bad, pr, pn, J))))) 1 (fun f => rfl) ?_
  refine zW_eq zu_75 ?_
  exact zW_rh none 1 (fun f => rfl) H
